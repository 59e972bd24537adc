def fM_leans_l7 (k0_0 : MI → Int32 → Int32 → Int32 → Option (Int32 × MI)) : Nat → MI → Int32 → Int32 → Int32 → Option (Int32 × MI)
  | 0, _, _, _, _ => none
  | n0 + 1, m, v1, v2, v3 =>
    if m.1 61 0 ≤ v3 then
      k0_0 m v1 v2 v3
    else
      (fM_wholeShorts m).bind fun r2 =>
      (fM_wholeLongs r2.2).bind fun r3 =>
      (fM_pull r3.2 v3 r2.1 r3.1 0).bind fun r4 =>
      if v1 < 0 then
        lt (v3 + 1) fun x6 =>
        fM_leans_l7 k0_0 n0 r4.2 v3 r4.1 x6
      else
        if v2 < r4.1 then
          lt (v3 + 1) fun x8 =>
          fM_leans_l7 k0_0 n0 r4.2 v3 r4.1 x8
        else
          lt (v3 + 1) fun x9 =>
          fM_leans_l7 k0_0 n0 r4.2 v1 v2 x9
theorem sM_leans_l7 {sh : Sh} {R : RR} (hF : Fx sh R) (k0_0 : MI → Int32 → Int32 → Int32 → Option (Int32 × MI)) (hk0_0 : ∀ (m : MI) (v1 : Int32) (v2 : Int32) (v3 : Int32) , S (eI sh R) false 5 0 0 YX7_leans sh R m 55 [(0, .ref 61), (1, .int v1), (2, .int v2), (3, .int v3)] [] (k0_0 m v1 v2 v3)) : ∀ (n : Nat) (m : MI) (v1 : Int32) (v2 : Int32) (v3 : Int32) , S (eI sh R) false 5 0 0 YX7_leans sh R m 7 [(0, .ref 61), (1, .int v1), (2, .int v2), (3, .int v3)] [] (fM_leans_l7 k0_0 n m v1 v2 v3) := by
  intro n
  induction n with
  | zero => intros; exact S_none
  | succ n0 ih0 =>
    intro m v1 v2 v3
    rw [fM_leans_l7]
    refine o_iload_n (pc := 7) 3 dX7_leans_7 rfl rfl <| o_aload_n (pc := 8) 0 dX7_leans_8 rfl rfl <| o_getI (pc := 9) (ci := 7) (j := 0) (nn := 0) dX7_leans_9 (hF.1 _ _ rfl) rfl (Nat.le_of_ble_eq_true rfl) k_883 rfl <| ?_
    refine o_icmp_ge (pc := 12) (tgt := 55) dX7_leans_12 rfl (fun h1 => ?_) (fun h1 => ?_)
    · exact hk0_0 m v1 v2 v3
    · refine o_aload_n (pc := 15) 0 dX7_leans_15 rfl rfl <| o_iload_n (pc := 16) 3 dX7_leans_16 rfl rfl <| o_aload_n (pc := 17) 0 dX7_leans_17 rfl rfl <| ?_
      refine o_callVI (Y2 := YX7_wholeShorts) (pc := 18) (av := []) (rest := [.int v3, .ref 61]) dX7_leans_18 k_863 cm_X7_wholeShorts (sM_wholeShorts hF m ) (hF.1 _ _ rfl) rfl rfl (Nat.le_of_ble_eq_true rfl) (Nat.le_of_ble_eq_true rfl) fun r2 => ?_
      refine o_aload_n (pc := 21) 0 dX7_leans_21 rfl rfl <| ?_
      refine o_callVI (Y2 := YX7_wholeLongs) (pc := 22) (av := []) (rest := [.int r2.1, .int v3, .ref 61]) dX7_leans_22 k_879 cm_X7_wholeLongs (sM_wholeLongs hF r2.2 ) (hF.1 _ _ rfl) rfl rfl (Nat.le_of_ble_eq_true rfl) (Nat.le_of_ble_eq_true rfl) fun r3 => ?_
      refine o_iconst (pc := 25) dX7_leans_25 lc_0 <| ?_
      refine o_callVI (Y2 := YX7_pull) (pc := 26) (av := [.int v3, .int r2.1, .int r3.1, .int 0]) (rest := []) dX7_leans_26 k_1200 cm_X7_pull (sM_pull hF r3.2 v3 r2.1 r3.1 0) (hF.1 _ _ rfl) rfl rfl (Nat.le_of_ble_eq_true rfl) (Nat.le_of_ble_eq_true rfl) fun r4 => ?_
      refine o_istore (pc := 29) (ls' := [(4, .int r4.1), (0, .ref 61), (1, .int v1), (2, .int v2), (3, .int v3)]) dX7_leans_29 (Nat.le_of_ble_eq_true rfl) rfl <| o_iload_n (pc := 31) 2 dX7_leans_31 rfl rfl <| ?_
      refine o_if_lt (pc := 32) (tgt := 44) dX7_leans_32 rfl (fun h5 => ?_) (fun h5 => ?_)
      · refine o_iload_n (pc := 44) 4 dX7_leans_44 rfl rfl <| o_istore_n (pc := 45) (ls' := [(1, .int v3), (4, .int r4.1), (0, .ref 61), (2, .int v2), (3, .int v3)]) dX7_leans_45 rfl (Nat.le_of_ble_eq_true rfl) rfl <| o_iload (pc := 46) 1 dX7_leans_46 rfl <| o_istore_n (pc := 48) (ls' := [(2, .int r4.1), (1, .int v3), (4, .int r4.1), (0, .ref 61), (3, .int v3)]) dX7_leans_48 rfl (Nat.le_of_ble_eq_true rfl) rfl <| o_iinc (pc := 49) 4 (v := v3 + 1) (ls' := [(3, .int (v3 + 1)), (2, .int r4.1), (1, .int v3), (4, .int r4.1), (0, .ref 61)]) dX7_leans_49 rfl rfl (Nat.le_of_ble_eq_true rfl) rfl <| ?_
        refine o_ltL (ls := fun x6 => [(3, .int x6), (2, .int r4.1), (1, .int v3), (4, .int r4.1), (0, .ref 61)]) fun x6 => ?_
        refine o_goto (pc := 52) (tgt := 7) dX7_leans_52 rfl <| ?_
        refine o_sub [4, 2, 1, 0] (ls' := [(0, .ref 61), (1, .int v3), (2, .int r4.1), (3, .int x6)]) rfl ?_
        exact ih0 r4.2 v3 r4.1 x6
      · refine o_iload (pc := 35) 0 dX7_leans_35 rfl <| o_iload_n (pc := 37) 3 dX7_leans_37 rfl rfl <| ?_
        refine o_icmp_gt (pc := 38) (tgt := 44) dX7_leans_38 rfl (fun h7 => ?_) (fun h7 => ?_)
        · refine o_iload_n (pc := 44) 4 dX7_leans_44 rfl rfl <| o_istore_n (pc := 45) (ls' := [(1, .int v3), (4, .int r4.1), (0, .ref 61), (2, .int v2), (3, .int v3)]) dX7_leans_45 rfl (Nat.le_of_ble_eq_true rfl) rfl <| o_iload (pc := 46) 1 dX7_leans_46 rfl <| o_istore_n (pc := 48) (ls' := [(2, .int r4.1), (1, .int v3), (4, .int r4.1), (0, .ref 61), (3, .int v3)]) dX7_leans_48 rfl (Nat.le_of_ble_eq_true rfl) rfl <| o_iinc (pc := 49) 4 (v := v3 + 1) (ls' := [(3, .int (v3 + 1)), (2, .int r4.1), (1, .int v3), (4, .int r4.1), (0, .ref 61)]) dX7_leans_49 rfl rfl (Nat.le_of_ble_eq_true rfl) rfl <| ?_
          refine o_ltL (ls := fun x8 => [(3, .int x8), (2, .int r4.1), (1, .int v3), (4, .int r4.1), (0, .ref 61)]) fun x8 => ?_
          refine o_goto (pc := 52) (tgt := 7) dX7_leans_52 rfl <| ?_
          refine o_sub [4, 2, 1, 0] (ls' := [(0, .ref 61), (1, .int v3), (2, .int r4.1), (3, .int x8)]) rfl ?_
          exact ih0 r4.2 v3 r4.1 x8
        · refine o_goto (pc := 41) (tgt := 49) dX7_leans_41 rfl <| o_iinc (pc := 49) 4 (v := v3 + 1) (ls' := [(3, .int (v3 + 1)), (4, .int r4.1), (0, .ref 61), (1, .int v1), (2, .int v2)]) dX7_leans_49 rfl rfl (Nat.le_of_ble_eq_true rfl) rfl <| ?_
          refine o_ltL (ls := fun x9 => [(3, .int x9), (4, .int r4.1), (0, .ref 61), (1, .int v1), (2, .int v2)]) fun x9 => ?_
          refine o_goto (pc := 52) (tgt := 7) dX7_leans_52 rfl <| ?_
          refine o_sub [2, 3, 4, 0] (ls' := [(0, .ref 61), (1, .int v1), (2, .int v2), (3, .int x9)]) rfl ?_
          exact ih0 r4.2 v1 v2 x9
def fM_leans (m : MI) : Option (Int32 × MI) :=
  fM_leans_l7 
    (fun m4 z1 z2 z3 =>
      some (z1, m4)
      )
    1000 m (-5) 0 0
theorem sM_leans {sh : Sh} {R : RR} (hF : Fx sh R) (m : MI) : KS (eI sh R) false 5 0 0 YX7_leans sh R m [.ref 61] (fM_leans m ) := by
  refine KS_of pn_X7 (fun _ => Nat.le_of_ble_eq_true rfl) ?_
  change S _ _ _ _ _ _ _ _ _ _ [(0, .ref 61)] [] _
  unfold fM_leans
  refine o_bipush (pc := 0) dX7_leans_0 lb_m5 <| o_istore_n (pc := 2) (ls' := [(1, .int (-5)), (0, .ref 61)]) dX7_leans_2 rfl (Nat.le_of_ble_eq_true rfl) rfl <| o_iconst (pc := 3) dX7_leans_3 lc_0 <| o_istore_n (pc := 4) (ls' := [(2, .int 0), (1, .int (-5)), (0, .ref 61)]) dX7_leans_4 rfl (Nat.le_of_ble_eq_true rfl) rfl <| o_iconst (pc := 5) dX7_leans_5 lc_0 <| o_istore_n (pc := 6) (ls' := [(3, .int 0), (2, .int 0), (1, .int (-5)), (0, .ref 61)]) dX7_leans_6 rfl (Nat.le_of_ble_eq_true rfl) rfl <| ?_
  refine o_sub [3, 2, 1, 0] (ls' := [(0, .ref 61), (1, .int (-5)), (2, .int 0), (3, .int 0)]) rfl ?_
  refine sM_leans_l7 hF  _ ?_ 1000 m (-5) 0 0
  · intro m4 z1 z2 z3
    refine o_iload_n (pc := 55) 1 dX7_leans_55 rfl rfl <| ?_
    exact o_iret (pc := 56) dX7_leans_56 rfl rfl
def fM_divisor_l6 (u1 : Int64) (u3 : Int64) (k0_0 : MI → Int64 → Int64 → Option (Int64 × MI)) : Nat → MI → Int64 → Int64 → Option (Int64 × MI)
  | 0, _, _, _ => none
  | n0 + 1, m, v5, v7 =>
    if lg_cmp v7 0 = 0 then
      k0_0 m v5 v7
    else
      if ¬ (v7 = 0) then
        ltl (v5 - v5 / v7 * v7) fun y3 =>
        fM_divisor_l6 u1 u3 k0_0 n0 m v7 y3
      else none
theorem sM_divisor_l6 {sh : Sh} {R : RR} (hF : Fx sh R) (u1 : Int64) (u3 : Int64) (k0_0 : MI → Int64 → Int64 → Option (Int64 × MI)) (hk0_0 : ∀ (m : MI) (v5 : Int64) (v7 : Int64) , S (eL sh R) false 0 0 0 YX7_divisor sh R m 31 [(0, .ref 61), (1, .long u1), (3, .long u3), (5, .long v5), (7, .long v7)] [] (k0_0 m v5 v7)) : ∀ (n : Nat) (m : MI) (v5 : Int64) (v7 : Int64) , S (eL sh R) false 0 0 0 YX7_divisor sh R m 6 [(0, .ref 61), (1, .long u1), (3, .long u3), (5, .long v5), (7, .long v7)] [] (fM_divisor_l6 u1 u3 k0_0 n m v5 v7) := by
  intro n
  induction n with
  | zero => intros; exact S_none
  | succ n0 ih0 =>
    intro m v5 v7
    rw [fM_divisor_l6]
    refine o_lload (pc := 6) 4 dX7_divisor_6 rfl <| o_lconst (pc := 8) (x := 0) dX7_divisor_8 rfl <| o_lcmp (pc := 9) dX7_divisor_9 <| ?_
    refine o_if_eq (pc := 10) (tgt := 31) dX7_divisor_10 rfl (fun h1 => ?_) (fun h1 => ?_)
    · exact hk0_0 m v5 v7
    · refine o_lload (pc := 13) 3 dX7_divisor_13 rfl <| o_lload (pc := 15) 4 dX7_divisor_15 rfl <| ?_
      refine S_ck fun h2 => ?_
      refine o_lrem (pc := 17) dX7_divisor_17 h2 <| ?_
      refine o_ltl fun y3 => ?_
      refine o_lstore (pc := 18) (ls' := [(9, .long y3), (0, .ref 61), (1, .long u1), (3, .long u3), (5, .long v5), (7, .long v7)]) dX7_divisor_18 (Nat.le_of_ble_eq_true rfl) rfl <| o_lload (pc := 20) 5 dX7_divisor_20 rfl <| o_lstore (pc := 22) (ls' := [(5, .long v7), (9, .long y3), (0, .ref 61), (1, .long u1), (3, .long u3), (7, .long v7)]) dX7_divisor_22 (Nat.le_of_ble_eq_true rfl) rfl <| o_lload (pc := 24) 1 dX7_divisor_24 rfl <| o_lstore (pc := 26) (ls' := [(7, .long y3), (5, .long v7), (9, .long y3), (0, .ref 61), (1, .long u1), (3, .long u3)]) dX7_divisor_26 (Nat.le_of_ble_eq_true rfl) rfl <| o_goto (pc := 28) (tgt := 6) dX7_divisor_28 rfl <| ?_
      refine o_sub [3, 4, 5, 1, 0] (ls' := [(0, .ref 61), (1, .long u1), (3, .long u3), (5, .long v7), (7, .long y3)]) rfl ?_
      exact ih0 m v7 y3
def fM_divisor (m : MI) (a : Int64) (b : Int64) : Option (Int64 × MI) :=
  fM_divisor_l6 a b
    (fun m3 z1 z2 =>
      some (z1, m3)
      )
    1000 m a b
theorem sM_divisor {sh : Sh} {R : RR} (hF : Fx sh R) (m : MI) (a : Int64) (b : Int64) : KS (eL sh R) false 0 0 0 YX7_divisor sh R m [.ref 61, .long a, .long b] (fM_divisor m a b) := by
  refine KS_of pn_X7 (fun _ => Nat.le_of_ble_eq_true rfl) ?_
  change S _ _ _ _ _ _ _ _ _ _ [(0, .ref 61), (1, .long a), (3, .long b)] [] _
  unfold fM_divisor
  refine o_lload_n (pc := 0) 1 dX7_divisor_0 rfl rfl <| o_lstore (pc := 1) (ls' := [(5, .long a), (0, .ref 61), (1, .long a), (3, .long b)]) dX7_divisor_1 (Nat.le_of_ble_eq_true rfl) rfl <| o_lload_n (pc := 3) 3 dX7_divisor_3 rfl rfl <| o_lstore (pc := 4) (ls' := [(7, .long b), (5, .long a), (0, .ref 61), (1, .long a), (3, .long b)]) dX7_divisor_4 (Nat.le_of_ble_eq_true rfl) rfl <| ?_
  refine o_sub [2, 3, 4, 1, 0] (ls' := [(0, .ref 61), (1, .long a), (3, .long b), (5, .long a), (7, .long b)]) rfl ?_
  refine sM_divisor_l6 hF a b _ ?_ 1000 m a b
  · intro m3 z1 z2
    refine o_lload (pc := 31) 3 dX7_divisor_31 rfl <| ?_
    exact o_lret (pc := 33) dX7_divisor_33 rfl rfl
def fM_lowest (m : MI) (a : Int64) (b : Int64) (c : Int32) : Option (Int64 × MI) :=
  (fM_divisor m a b).bind fun r1 =>
  if c = 0 then
    if ¬ (r1.1 = 0) then
      some (a / r1.1, r1.2)
    else none
  else
    if ¬ (r1.1 = 0) then
      some (b / r1.1, r1.2)
    else none
theorem sM_lowest {sh : Sh} {R : RR} (hF : Fx sh R) (m : MI) (a : Int64) (b : Int64) (c : Int32) : KS (eL sh R) false 1 0 0 YX7_lowest sh R m [.ref 61, .long a, .long b, .int c] (fM_lowest m a b c) := by
  refine KS_of pn_X7 (fun _ => Nat.le_of_ble_eq_true rfl) ?_
  change S _ _ _ _ _ _ _ _ _ _ [(0, .ref 61), (1, .long a), (3, .long b), (5, .int c)] [] _
  unfold fM_lowest
  refine o_aload_n (pc := 0) 0 dX7_lowest_0 rfl rfl <| o_lload_n (pc := 1) 1 dX7_lowest_1 rfl rfl <| o_lload_n (pc := 2) 2 dX7_lowest_2 rfl rfl <| ?_
  refine o_callVL (Y2 := YX7_divisor) (pc := 3) (av := [.long a, .long b]) (rest := []) dX7_lowest_3 k_1307 cm_X7_divisor (sM_divisor hF m a b) (hF.1 _ _ rfl) rfl rfl (Nat.le_of_ble_eq_true rfl) (Nat.le_of_ble_eq_true rfl) fun r1 => ?_
  refine o_lstore (pc := 6) (ls' := [(6, .long r1.1), (0, .ref 61), (1, .long a), (3, .long b), (5, .int c)]) dX7_lowest_6 (Nat.le_of_ble_eq_true rfl) rfl <| o_iload (pc := 8) 4 dX7_lowest_8 rfl <| ?_
  refine o_if_ne (pc := 10) (tgt := 20) dX7_lowest_10 rfl (fun h2 => ?_) (fun h2 => ?_)
  · refine o_lload_n (pc := 13) 2 dX7_lowest_13 rfl rfl <| o_lload (pc := 14) 0 dX7_lowest_14 rfl <| ?_
    refine S_ck fun h3 => ?_
    refine o_ldiv (pc := 16) dX7_lowest_16 h3 <| o_goto (pc := 17) (tgt := 24) dX7_lowest_17 rfl <| ?_
    exact o_lret (pc := 24) dX7_lowest_24 rfl rfl
  · refine o_lload_n (pc := 20) 3 dX7_lowest_20 rfl rfl <| o_lload (pc := 21) 0 dX7_lowest_21 rfl <| ?_
    refine S_ck fun h4 => ?_
    refine o_ldiv (pc := 23) dX7_lowest_23 h4 <| ?_
    exact o_lret (pc := 24) dX7_lowest_24 rfl rfl
def fM_coin_l42 (u1 : Int32) (u2 : Int32) (u3 : Int32) (k0_0 : MI → Int64 → Int64 → Option (Int64 × MI)) : Nat → MI → Int64 → Int64 → Option (Int64 × MI)
  | 0, _, _, _ => none
  | n0 + 1, m, v4, v6 =>
    if 0 ≤ lg_cmp v6 (u2.toInt64) then
      k0_0 m v4 v6
    else
      ltl (v6 * 2) fun y2 =>
      ltl (v4 + 1) fun y3 =>
      fM_coin_l42 u1 u2 u3 k0_0 n0 m y3 y2
theorem sM_coin_l42 {sh : Sh} {R : RR} (hF : Fx sh R) (u1 : Int32) (u2 : Int32) (u3 : Int32) (k0_0 : MI → Int64 → Int64 → Option (Int64 × MI)) (hk0_0 : ∀ (m : MI) (v4 : Int64) (v6 : Int64) , S (eL sh R) false 2 0 0 YX7_coin sh R m 67 [(0, .ref 61), (1, .int u1), (2, .int u2), (3, .int u3), (4, .long v4), (6, .long v6)] [] (k0_0 m v4 v6)) : ∀ (n : Nat) (m : MI) (v4 : Int64) (v6 : Int64) , S (eL sh R) false 2 0 0 YX7_coin sh R m 42 [(0, .ref 61), (1, .int u1), (2, .int u2), (3, .int u3), (4, .long v4), (6, .long v6)] [] (fM_coin_l42 u1 u2 u3 k0_0 n m v4 v6) := by
  intro n
  induction n with
  | zero => intros; exact S_none
  | succ n0 ih0 =>
    intro m v4 v6
    rw [fM_coin_l42]
    refine o_lload (pc := 42) 5 dX7_coin_42 rfl <| o_iload_n (pc := 44) 2 dX7_coin_44 rfl rfl <| o_i2l (pc := 45) dX7_coin_45 <| o_lcmp (pc := 46) dX7_coin_46 <| ?_
    refine o_if_ge (pc := 47) (tgt := 67) dX7_coin_47 rfl (fun h1 => ?_) (fun h1 => ?_)
    · exact hk0_0 m v4 v6
    · refine o_lload (pc := 50) 5 dX7_coin_50 rfl <| o_ldc2 (pc := 52) dX7_coin_52 k_1302 <| o_lmul (pc := 55) dX7_coin_55 <| ?_
      refine o_ltl fun y2 => ?_
      refine o_lstore (pc := 56) (ls' := [(6, .long y2), (0, .ref 61), (1, .int u1), (2, .int u2), (3, .int u3), (4, .long v4)]) dX7_coin_56 (Nat.le_of_ble_eq_true rfl) rfl <| o_lload (pc := 58) 5 dX7_coin_58 rfl <| o_lconst (pc := 60) (x := 1) dX7_coin_60 rfl <| o_ladd (pc := 61) dX7_coin_61 <| ?_
      refine o_ltl fun y3 => ?_
      refine o_lstore (pc := 62) (ls' := [(4, .long y3), (6, .long y2), (0, .ref 61), (1, .int u1), (2, .int u2), (3, .int u3)]) dX7_coin_62 (Nat.le_of_ble_eq_true rfl) rfl <| o_goto (pc := 64) (tgt := 42) dX7_coin_64 rfl <| ?_
      refine o_sub [2, 3, 4, 5, 0, 1] (ls' := [(0, .ref 61), (1, .int u1), (2, .int u2), (3, .int u3), (4, .long y3), (6, .long y2)]) rfl ?_
      exact ih0 m y3 y2
def fM_coin (m : MI) (a : Int32) (b : Int32) (c : Int32) : Option (Int64 × MI) :=
  (fM_in m a 1 99).bind fun r1 =>
  if r1.1 = 0 then
    some (-9223372036854775808, r1.2)
  else
    (fM_in r1.2 b 1 16).bind fun r3 =>
    if r3.1 = 0 then
      some (-9223372036854775808, r3.2)
    else
      (fM_in r3.2 c 0 1).bind fun r5 =>
      if r5.1 = 0 then
        some (-9223372036854775808, r5.2)
      else
        fM_coin_l42 a b c
          (fun m9 z7 z8 =>
            if a = 50 then
              (fM_lowest m9 (z7 * z8) (b.toInt64) c).bind fun r11 =>
              some (r11.1, r11.2)
            else
              (fM_lowest m9 (((10000 : Int64) * z7) * z8) (((b.toInt64) * (a.toInt64)) * (((100 : Int32) - a).toInt64)) c).bind fun r12 =>
              some (r12.1, r12.2)
            )
          1000 r5.2 0 1
theorem sM_coin {sh : Sh} {R : RR} (hF : Fx sh R) (m : MI) (a : Int32) (b : Int32) (c : Int32) : KS (eL sh R) false 2 0 0 YX7_coin sh R m [.ref 61, .int a, .int b, .int c] (fM_coin m a b c) := by
  refine KS_of pn_X7 (fun _ => Nat.le_of_ble_eq_true rfl) ?_
  change S _ _ _ _ _ _ _ _ _ _ [(0, .ref 61), (1, .int a), (2, .int b), (3, .int c)] [] _
  unfold fM_coin
  refine o_aload_n (pc := 0) 0 dX7_coin_0 rfl rfl <| o_iload_n (pc := 1) 1 dX7_coin_1 rfl rfl <| o_iconst (pc := 2) dX7_coin_2 lc_1 <| o_bipush (pc := 3) dX7_coin_3 lb_99 <| ?_
  refine o_callVI (Y2 := YX7_in) (pc := 5) (av := [.int a, .int 1, .int 99]) (rest := []) dX7_coin_5 k_1096 cm_X7_in (sM_in hF m a 1 99) (hF.1 _ _ rfl) rfl rfl (Nat.le_of_ble_eq_true rfl) (Nat.le_of_ble_eq_true rfl) fun r1 => ?_
  refine o_if_eq (pc := 8) (tgt := 32) dX7_coin_8 rfl (fun h2 => ?_) (fun h2 => ?_)
  · refine o_ldc2 (pc := 32) dX7_coin_32 k_1301 <| ?_
    exact o_lret (pc := 35) dX7_coin_35 rfl rfl
  · refine o_aload_n (pc := 11) 0 dX7_coin_11 rfl rfl <| o_iload_n (pc := 12) 2 dX7_coin_12 rfl rfl <| o_iconst (pc := 13) dX7_coin_13 lc_1 <| o_bipush (pc := 14) dX7_coin_14 lb_16 <| ?_
    refine o_callVI (Y2 := YX7_in) (pc := 16) (av := [.int b, .int 1, .int 16]) (rest := []) dX7_coin_16 k_1096 cm_X7_in (sM_in hF r1.2 b 1 16) (hF.1 _ _ rfl) rfl rfl (Nat.le_of_ble_eq_true rfl) (Nat.le_of_ble_eq_true rfl) fun r3 => ?_
    refine o_if_eq (pc := 19) (tgt := 32) dX7_coin_19 rfl (fun h4 => ?_) (fun h4 => ?_)
    · refine o_ldc2 (pc := 32) dX7_coin_32 k_1301 <| ?_
      exact o_lret (pc := 35) dX7_coin_35 rfl rfl
    · refine o_aload_n (pc := 22) 0 dX7_coin_22 rfl rfl <| o_iload_n (pc := 23) 3 dX7_coin_23 rfl rfl <| o_iconst (pc := 24) dX7_coin_24 lc_0 <| o_iconst (pc := 25) dX7_coin_25 lc_1 <| ?_
      refine o_callVI (Y2 := YX7_in) (pc := 26) (av := [.int c, .int 0, .int 1]) (rest := []) dX7_coin_26 k_1096 cm_X7_in (sM_in hF r3.2 c 0 1) (hF.1 _ _ rfl) rfl rfl (Nat.le_of_ble_eq_true rfl) (Nat.le_of_ble_eq_true rfl) fun r5 => ?_
      refine o_if_ne (pc := 29) (tgt := 36) dX7_coin_29 rfl (fun h6 => ?_) (fun h6 => ?_)
      · refine o_ldc2 (pc := 32) dX7_coin_32 k_1301 <| ?_
        exact o_lret (pc := 35) dX7_coin_35 rfl rfl
      · refine o_lconst (pc := 36) (x := 0) dX7_coin_36 rfl <| o_lstore (pc := 37) (ls' := [(4, .long 0), (0, .ref 61), (1, .int a), (2, .int b), (3, .int c)]) dX7_coin_37 (Nat.le_of_ble_eq_true rfl) rfl <| o_lconst (pc := 39) (x := 1) dX7_coin_39 rfl <| o_lstore (pc := 40) (ls' := [(6, .long 1), (4, .long 0), (0, .ref 61), (1, .int a), (2, .int b), (3, .int c)]) dX7_coin_40 (Nat.le_of_ble_eq_true rfl) rfl <| ?_
        refine o_sub [2, 3, 4, 5, 1, 0] (ls' := [(0, .ref 61), (1, .int a), (2, .int b), (3, .int c), (4, .long 0), (6, .long 1)]) rfl ?_
        refine sM_coin_l42 hF a b c _ ?_ 1000 r5.2 0 1
        · intro m9 z7 z8
          refine o_iload_n (pc := 67) 1 dX7_coin_67 rfl rfl <| o_bipush (pc := 68) dX7_coin_68 lb_50 <| ?_
          refine o_icmp_ne (pc := 70) (tgt := 88) dX7_coin_70 rfl (fun h10 => ?_) (fun h10 => ?_)
          · refine o_aload_n (pc := 73) 0 dX7_coin_73 rfl rfl <| o_lload (pc := 74) 4 dX7_coin_74 rfl <| o_lload (pc := 76) 5 dX7_coin_76 rfl <| o_lmul (pc := 78) dX7_coin_78 <| o_iload_n (pc := 79) 2 dX7_coin_79 rfl rfl <| o_i2l (pc := 80) dX7_coin_80 <| o_iload_n (pc := 81) 3 dX7_coin_81 rfl rfl <| ?_
            refine o_callVL (Y2 := YX7_lowest) (pc := 82) (av := [.long (z7 * z8), .long (b.toInt64), .int c]) (rest := []) dX7_coin_82 k_1303 cm_X7_lowest (sM_lowest hF m9 (z7 * z8) (b.toInt64) c) (hF.1 _ _ rfl) rfl rfl (Nat.le_of_ble_eq_true rfl) (Nat.le_of_ble_eq_true rfl) fun r11 => ?_
            refine o_goto (pc := 85) (tgt := 113) dX7_coin_85 rfl <| ?_
            exact o_lret (pc := 113) dX7_coin_113 rfl rfl
          · refine o_aload_n (pc := 88) 0 dX7_coin_88 rfl rfl <| o_ldc2 (pc := 89) dX7_coin_89 k_1311 <| o_lload (pc := 92) 4 dX7_coin_92 rfl <| o_lmul (pc := 94) dX7_coin_94 <| o_lload (pc := 95) 5 dX7_coin_95 rfl <| o_lmul (pc := 97) dX7_coin_97 <| o_iload_n (pc := 98) 2 dX7_coin_98 rfl rfl <| o_i2l (pc := 99) dX7_coin_99 <| o_iload_n (pc := 100) 1 dX7_coin_100 rfl rfl <| o_i2l (pc := 101) dX7_coin_101 <| ?_
            refine o_lmul (pc := 102) dX7_coin_102 <| o_bipush (pc := 103) dX7_coin_103 lb_100 <| o_iload_n (pc := 105) 1 dX7_coin_105 rfl rfl <| o_isub (pc := 106) dX7_coin_106 <| o_i2l (pc := 107) dX7_coin_107 <| o_lmul (pc := 108) dX7_coin_108 <| o_iload_n (pc := 109) 3 dX7_coin_109 rfl rfl <| ?_
            refine o_callVL (Y2 := YX7_lowest) (pc := 110) (av := [.long (((10000 : Int64) * z7) * z8), .long (((b.toInt64) * (a.toInt64)) * (((100 : Int32) - a).toInt64)), .int c]) (rest := []) dX7_coin_110 k_1303 cm_X7_lowest (sM_lowest hF m9 (((10000 : Int64) * z7) * z8) (((b.toInt64) * (a.toInt64)) * (((100 : Int32) - a).toInt64)) c) (hF.1 _ _ rfl) rfl rfl (Nat.le_of_ble_eq_true rfl) (Nat.le_of_ble_eq_true rfl) fun r12 => ?_
            exact o_lret (pc := 113) dX7_coin_113 rfl rfl
def fM_dice_l42 (u1 : Int32) (u2 : Int32) (u3 : Int32) (k0_0 : MI → Int64 → Int64 → Option (Int64 × MI)) : Nat → MI → Int64 → Int64 → Option (Int64 × MI)
  | 0, _, _, _ => none
  | n0 + 1, m, v4, v6 =>
    if 0 ≤ lg_cmp v6 (u2.toInt64) then
      k0_0 m v4 v6
    else
      ltl (v6 * (u1.toInt64)) fun y2 =>
      ltl (v4 + 1) fun y3 =>
      fM_dice_l42 u1 u2 u3 k0_0 n0 m y3 y2
theorem sM_dice_l42 {sh : Sh} {R : RR} (hF : Fx sh R) (u1 : Int32) (u2 : Int32) (u3 : Int32) (k0_0 : MI → Int64 → Int64 → Option (Int64 × MI)) (hk0_0 : ∀ (m : MI) (v4 : Int64) (v6 : Int64) , S (eL sh R) false 2 0 0 YX7_dice sh R m 66 [(0, .ref 61), (1, .int u1), (2, .int u2), (3, .int u3), (4, .long v4), (6, .long v6)] [] (k0_0 m v4 v6)) : ∀ (n : Nat) (m : MI) (v4 : Int64) (v6 : Int64) , S (eL sh R) false 2 0 0 YX7_dice sh R m 42 [(0, .ref 61), (1, .int u1), (2, .int u2), (3, .int u3), (4, .long v4), (6, .long v6)] [] (fM_dice_l42 u1 u2 u3 k0_0 n m v4 v6) := by
  intro n
  induction n with
  | zero => intros; exact S_none
  | succ n0 ih0 =>
    intro m v4 v6
    rw [fM_dice_l42]
    refine o_lload (pc := 42) 5 dX7_dice_42 rfl <| o_iload_n (pc := 44) 2 dX7_dice_44 rfl rfl <| o_i2l (pc := 45) dX7_dice_45 <| o_lcmp (pc := 46) dX7_dice_46 <| ?_
    refine o_if_ge (pc := 47) (tgt := 66) dX7_dice_47 rfl (fun h1 => ?_) (fun h1 => ?_)
    · exact hk0_0 m v4 v6
    · refine o_lload (pc := 50) 5 dX7_dice_50 rfl <| o_iload_n (pc := 52) 1 dX7_dice_52 rfl rfl <| o_i2l (pc := 53) dX7_dice_53 <| o_lmul (pc := 54) dX7_dice_54 <| ?_
      refine o_ltl fun y2 => ?_
      refine o_lstore (pc := 55) (ls' := [(6, .long y2), (0, .ref 61), (1, .int u1), (2, .int u2), (3, .int u3), (4, .long v4)]) dX7_dice_55 (Nat.le_of_ble_eq_true rfl) rfl <| o_lload (pc := 57) 5 dX7_dice_57 rfl <| o_lconst (pc := 59) (x := 1) dX7_dice_59 rfl <| o_ladd (pc := 60) dX7_dice_60 <| ?_
      refine o_ltl fun y3 => ?_
      refine o_lstore (pc := 61) (ls' := [(4, .long y3), (6, .long y2), (0, .ref 61), (1, .int u1), (2, .int u2), (3, .int u3)]) dX7_dice_61 (Nat.le_of_ble_eq_true rfl) rfl <| o_goto (pc := 63) (tgt := 42) dX7_dice_63 rfl <| ?_
      refine o_sub [2, 3, 4, 5, 0, 1] (ls' := [(0, .ref 61), (1, .int u1), (2, .int u2), (3, .int u3), (4, .long y3), (6, .long y2)]) rfl ?_
      exact ih0 m y3 y2
def fM_dice (m : MI) (a : Int32) (b : Int32) (c : Int32) : Option (Int64 × MI) :=
  (fM_in m a 2 20).bind fun r1 =>
  if r1.1 = 0 then
    some (-9223372036854775808, r1.2)
  else
    (fM_in r1.2 b 1 16).bind fun r3 =>
    if r3.1 = 0 then
      some (-9223372036854775808, r3.2)
    else
      (fM_in r3.2 c 0 1).bind fun r5 =>
      if r5.1 = 0 then
        some (-9223372036854775808, r5.2)
      else
        fM_dice_l42 a b c
          (fun m9 z7 z8 =>
            if ¬ (b.toInt64 = 0) then
              (fM_lowest m9 (z7 * z8) ((z8 / (b.toInt64)) * (b.toInt64)) c).bind fun r11 =>
              some (r11.1, r11.2)
            else none
            )
          1000 r5.2 0 1
theorem sM_dice {sh : Sh} {R : RR} (hF : Fx sh R) (m : MI) (a : Int32) (b : Int32) (c : Int32) : KS (eL sh R) false 2 0 0 YX7_dice sh R m [.ref 61, .int a, .int b, .int c] (fM_dice m a b c) := by
  refine KS_of pn_X7 (fun _ => Nat.le_of_ble_eq_true rfl) ?_
  change S _ _ _ _ _ _ _ _ _ _ [(0, .ref 61), (1, .int a), (2, .int b), (3, .int c)] [] _
  unfold fM_dice
  refine o_aload_n (pc := 0) 0 dX7_dice_0 rfl rfl <| o_iload_n (pc := 1) 1 dX7_dice_1 rfl rfl <| o_iconst (pc := 2) dX7_dice_2 lc_2 <| o_bipush (pc := 3) dX7_dice_3 lb_20 <| ?_
  refine o_callVI (Y2 := YX7_in) (pc := 5) (av := [.int a, .int 2, .int 20]) (rest := []) dX7_dice_5 k_1096 cm_X7_in (sM_in hF m a 2 20) (hF.1 _ _ rfl) rfl rfl (Nat.le_of_ble_eq_true rfl) (Nat.le_of_ble_eq_true rfl) fun r1 => ?_
  refine o_if_eq (pc := 8) (tgt := 32) dX7_dice_8 rfl (fun h2 => ?_) (fun h2 => ?_)
  · refine o_ldc2 (pc := 32) dX7_dice_32 k_1301 <| ?_
    exact o_lret (pc := 35) dX7_dice_35 rfl rfl
  · refine o_aload_n (pc := 11) 0 dX7_dice_11 rfl rfl <| o_iload_n (pc := 12) 2 dX7_dice_12 rfl rfl <| o_iconst (pc := 13) dX7_dice_13 lc_1 <| o_bipush (pc := 14) dX7_dice_14 lb_16 <| ?_
    refine o_callVI (Y2 := YX7_in) (pc := 16) (av := [.int b, .int 1, .int 16]) (rest := []) dX7_dice_16 k_1096 cm_X7_in (sM_in hF r1.2 b 1 16) (hF.1 _ _ rfl) rfl rfl (Nat.le_of_ble_eq_true rfl) (Nat.le_of_ble_eq_true rfl) fun r3 => ?_
    refine o_if_eq (pc := 19) (tgt := 32) dX7_dice_19 rfl (fun h4 => ?_) (fun h4 => ?_)
    · refine o_ldc2 (pc := 32) dX7_dice_32 k_1301 <| ?_
      exact o_lret (pc := 35) dX7_dice_35 rfl rfl
    · refine o_aload_n (pc := 22) 0 dX7_dice_22 rfl rfl <| o_iload_n (pc := 23) 3 dX7_dice_23 rfl rfl <| o_iconst (pc := 24) dX7_dice_24 lc_0 <| o_iconst (pc := 25) dX7_dice_25 lc_1 <| ?_
      refine o_callVI (Y2 := YX7_in) (pc := 26) (av := [.int c, .int 0, .int 1]) (rest := []) dX7_dice_26 k_1096 cm_X7_in (sM_in hF r3.2 c 0 1) (hF.1 _ _ rfl) rfl rfl (Nat.le_of_ble_eq_true rfl) (Nat.le_of_ble_eq_true rfl) fun r5 => ?_
      refine o_if_ne (pc := 29) (tgt := 36) dX7_dice_29 rfl (fun h6 => ?_) (fun h6 => ?_)
      · refine o_ldc2 (pc := 32) dX7_dice_32 k_1301 <| ?_
        exact o_lret (pc := 35) dX7_dice_35 rfl rfl
      · refine o_lconst (pc := 36) (x := 0) dX7_dice_36 rfl <| o_lstore (pc := 37) (ls' := [(4, .long 0), (0, .ref 61), (1, .int a), (2, .int b), (3, .int c)]) dX7_dice_37 (Nat.le_of_ble_eq_true rfl) rfl <| o_lconst (pc := 39) (x := 1) dX7_dice_39 rfl <| o_lstore (pc := 40) (ls' := [(6, .long 1), (4, .long 0), (0, .ref 61), (1, .int a), (2, .int b), (3, .int c)]) dX7_dice_40 (Nat.le_of_ble_eq_true rfl) rfl <| ?_
        refine o_sub [2, 3, 4, 5, 1, 0] (ls' := [(0, .ref 61), (1, .int a), (2, .int b), (3, .int c), (4, .long 0), (6, .long 1)]) rfl ?_
        refine sM_dice_l42 hF a b c _ ?_ 1000 r5.2 0 1
        · intro m9 z7 z8
          refine o_aload_n (pc := 66) 0 dX7_dice_66 rfl rfl <| o_lload (pc := 67) 4 dX7_dice_67 rfl <| o_lload (pc := 69) 5 dX7_dice_69 rfl <| o_lmul (pc := 71) dX7_dice_71 <| o_lload (pc := 72) 5 dX7_dice_72 rfl <| o_iload_n (pc := 74) 2 dX7_dice_74 rfl rfl <| o_i2l (pc := 75) dX7_dice_75 <| ?_
          refine S_ck fun h10 => ?_
          refine o_ldiv (pc := 76) dX7_dice_76 h10 <| o_iload_n (pc := 77) 2 dX7_dice_77 rfl rfl <| o_i2l (pc := 78) dX7_dice_78 <| o_lmul (pc := 79) dX7_dice_79 <| o_iload_n (pc := 80) 3 dX7_dice_80 rfl rfl <| ?_
          refine o_callVL (Y2 := YX7_lowest) (pc := 81) (av := [.long (z7 * z8), .long ((z8 / (b.toInt64)) * (b.toInt64)), .int c]) (rest := []) dX7_dice_81 k_1303 cm_X7_lowest (sM_lowest hF m9 (z7 * z8) ((z8 / (b.toInt64)) * (b.toInt64)) c) (hF.1 _ _ rfl) rfl rfl (Nat.le_of_ble_eq_true rfl) (Nat.le_of_ble_eq_true rfl) fun r11 => ?_
          exact o_lret (pc := 84) dX7_dice_84 rfl rfl
def fM_turn_l5 (k0_0 : MI → Int32 → Int32 → Option (Int32 × MI)) : Nat → MI → Int32 → Int32 → Option (Int32 × MI)
  | 0, _, _, _ => none
  | n0 + 1, m, v1, v2 =>
    if m.1 61 0 ≤ v2 then
      k0_0 m v1 v2
    else
      if v1 < 0 then
        if ck v2 6 = true then
          lt (m.1 66 v2.toNatClampNeg) fun x4 =>
          lt (v2 + 1) fun x5 =>
          fM_turn_l5 k0_0 n0 m x4 x5
        else none
      else
        if ck v2 6 = true then
          if ck (m.1 66 v2.toNatClampNeg) 6 = true then
            if ck v1 6 = true then
              if m.1 64 v1.toNatClampNeg ≤ m.1 64 (m.1 66 v2.toNatClampNeg).toNatClampNeg then
                lt (v2 + 1) fun x10 =>
                fM_turn_l5 k0_0 n0 m v1 x10
              else
                if ck v2 6 = true then
                  lt (m.1 66 v2.toNatClampNeg) fun x12 =>
                  lt (v2 + 1) fun x13 =>
                  fM_turn_l5 k0_0 n0 m x12 x13
                else none
            else none
          else none
        else none
theorem sM_turn_l5 {sh : Sh} {R : RR} (hF : Fx sh R) (k0_0 : MI → Int32 → Int32 → Option (Int32 × MI)) (hk0_0 : ∀ (m : MI) (v1 : Int32) (v2 : Int32) , S (eI sh R) false 0 0 0 YX7_turn sh R m 50 [(0, .ref 61), (1, .int v1), (2, .int v2)] [] (k0_0 m v1 v2)) : ∀ (n : Nat) (m : MI) (v1 : Int32) (v2 : Int32) , S (eI sh R) false 0 0 0 YX7_turn sh R m 5 [(0, .ref 61), (1, .int v1), (2, .int v2)] [] (fM_turn_l5 k0_0 n m v1 v2) := by
  intro n
  induction n with
  | zero => intros; exact S_none
  | succ n0 ih0 =>
    intro m v1 v2
    rw [fM_turn_l5]
    refine o_iload_n (pc := 5) 2 dX7_turn_5 rfl rfl <| o_aload_n (pc := 6) 0 dX7_turn_6 rfl rfl <| o_getI (pc := 7) (ci := 7) (j := 0) (nn := 0) dX7_turn_7 (hF.1 _ _ rfl) rfl (Nat.le_of_ble_eq_true rfl) k_883 rfl <| ?_
    refine o_icmp_ge (pc := 10) (tgt := 50) dX7_turn_10 rfl (fun h1 => ?_) (fun h1 => ?_)
    · exact hk0_0 m v1 v2
    · refine o_iload_n (pc := 13) 1 dX7_turn_13 rfl rfl <| ?_
      refine o_if_lt (pc := 14) (tgt := 37) dX7_turn_14 rfl (fun h2 => ?_) (fun h2 => ?_)
      · refine o_aload_n (pc := 37) 0 dX7_turn_37 rfl rfl <| o_getRc (pc := 38) (a := 66) (ci := 7) (j := 9) (nn := 0) dX7_turn_38 (hF.1 _ _ rfl) rfl (Nat.le_of_ble_eq_true rfl) k_892 rfl (hF.2 _ _ _ rfl) <| o_iload_n (pc := 41) 2 dX7_turn_41 rfl rfl <| ?_
        refine S_ck fun h3 => ?_
        refine o_iald (pc := 42) (nn := 6) dX7_turn_42 (hF.1 _ _ rfl) (ck_in h3) <| ?_
        refine o_lt fun x4 => ?_
        refine o_istore_n (pc := 43) (ls' := [(1, .int x4), (0, .ref 61), (2, .int v2)]) dX7_turn_43 rfl (Nat.le_of_ble_eq_true rfl) rfl <| o_iinc (pc := 44) 2 (v := v2 + 1) (ls' := [(2, .int (v2 + 1)), (1, .int x4), (0, .ref 61)]) dX7_turn_44 rfl rfl (Nat.le_of_ble_eq_true rfl) rfl <| ?_
        refine o_ltL (ls := fun x5 => [(2, .int x5), (1, .int x4), (0, .ref 61)]) fun x5 => ?_
        refine o_goto (pc := 47) (tgt := 5) dX7_turn_47 rfl <| ?_
        refine o_sub [2, 1, 0] (ls' := [(0, .ref 61), (1, .int x4), (2, .int x5)]) rfl ?_
        exact ih0 m x4 x5
      · refine o_aload_n (pc := 17) 0 dX7_turn_17 rfl rfl <| o_getRc (pc := 18) (a := 64) (ci := 7) (j := 7) (nn := 0) dX7_turn_18 (hF.1 _ _ rfl) rfl (Nat.le_of_ble_eq_true rfl) k_890 rfl (hF.2 _ _ _ rfl) <| o_aload_n (pc := 21) 0 dX7_turn_21 rfl rfl <| o_getRc (pc := 22) (a := 66) (ci := 7) (j := 9) (nn := 0) dX7_turn_22 (hF.1 _ _ rfl) rfl (Nat.le_of_ble_eq_true rfl) k_892 rfl (hF.2 _ _ _ rfl) <| o_iload_n (pc := 25) 2 dX7_turn_25 rfl rfl <| ?_
        refine S_ck fun h6 => ?_
        refine o_iald (pc := 26) (nn := 6) dX7_turn_26 (hF.1 _ _ rfl) (ck_in h6) <| ?_
        refine S_ck fun h7 => ?_
        refine o_iald (pc := 27) (nn := 6) dX7_turn_27 (hF.1 _ _ rfl) (ck_in h7) <| o_aload_n (pc := 28) 0 dX7_turn_28 rfl rfl <| o_getRc (pc := 29) (a := 64) (ci := 7) (j := 7) (nn := 0) dX7_turn_29 (hF.1 _ _ rfl) rfl (Nat.le_of_ble_eq_true rfl) k_890 rfl (hF.2 _ _ _ rfl) <| o_iload_n (pc := 32) 1 dX7_turn_32 rfl rfl <| ?_
        refine S_ck fun h8 => ?_
        refine o_iald (pc := 33) (nn := 6) dX7_turn_33 (hF.1 _ _ rfl) (ck_in h8) <| ?_
        refine o_icmp_ge (pc := 34) (tgt := 44) dX7_turn_34 rfl (fun h9 => ?_) (fun h9 => ?_)
        · refine o_iinc (pc := 44) 2 (v := v2 + 1) (ls' := [(2, .int (v2 + 1)), (0, .ref 61), (1, .int v1)]) dX7_turn_44 rfl rfl (Nat.le_of_ble_eq_true rfl) rfl <| ?_
          refine o_ltL (ls := fun x10 => [(2, .int x10), (0, .ref 61), (1, .int v1)]) fun x10 => ?_
          refine o_goto (pc := 47) (tgt := 5) dX7_turn_47 rfl <| ?_
          refine o_sub [1, 2, 0] (ls' := [(0, .ref 61), (1, .int v1), (2, .int x10)]) rfl ?_
          exact ih0 m v1 x10
        · refine o_aload_n (pc := 37) 0 dX7_turn_37 rfl rfl <| o_getRc (pc := 38) (a := 66) (ci := 7) (j := 9) (nn := 0) dX7_turn_38 (hF.1 _ _ rfl) rfl (Nat.le_of_ble_eq_true rfl) k_892 rfl (hF.2 _ _ _ rfl) <| o_iload_n (pc := 41) 2 dX7_turn_41 rfl rfl <| ?_
          refine S_ck fun h11 => ?_
          refine o_iald (pc := 42) (nn := 6) dX7_turn_42 (hF.1 _ _ rfl) (ck_in h11) <| ?_
          refine o_lt fun x12 => ?_
          refine o_istore_n (pc := 43) (ls' := [(1, .int x12), (0, .ref 61), (2, .int v2)]) dX7_turn_43 rfl (Nat.le_of_ble_eq_true rfl) rfl <| o_iinc (pc := 44) 2 (v := v2 + 1) (ls' := [(2, .int (v2 + 1)), (1, .int x12), (0, .ref 61)]) dX7_turn_44 rfl rfl (Nat.le_of_ble_eq_true rfl) rfl <| ?_
          refine o_ltL (ls := fun x13 => [(2, .int x13), (1, .int x12), (0, .ref 61)]) fun x13 => ?_
          refine o_goto (pc := 47) (tgt := 5) dX7_turn_47 rfl <| ?_
          refine o_sub [2, 1, 0] (ls' := [(0, .ref 61), (1, .int x12), (2, .int x13)]) rfl ?_
          exact ih0 m x12 x13
def fM_turn (m : MI) : Option (Int32 × MI) :=
  fM_turn_l5 
    (fun m3 z1 z2 =>
      some (z1, m3)
      )
    1000 m (-5) 0
theorem sM_turn {sh : Sh} {R : RR} (hF : Fx sh R) (m : MI) : KS (eI sh R) false 0 0 0 YX7_turn sh R m [.ref 61] (fM_turn m ) := by
  refine KS_of pn_X7 (fun _ => Nat.le_of_ble_eq_true rfl) ?_
  change S _ _ _ _ _ _ _ _ _ _ [(0, .ref 61)] [] _
  unfold fM_turn
  refine o_bipush (pc := 0) dX7_turn_0 lb_m5 <| o_istore_n (pc := 2) (ls' := [(1, .int (-5)), (0, .ref 61)]) dX7_turn_2 rfl (Nat.le_of_ble_eq_true rfl) rfl <| o_iconst (pc := 3) dX7_turn_3 lc_0 <| o_istore_n (pc := 4) (ls' := [(2, .int 0), (1, .int (-5)), (0, .ref 61)]) dX7_turn_4 rfl (Nat.le_of_ble_eq_true rfl) rfl <| ?_
  refine o_sub [2, 1, 0] (ls' := [(0, .ref 61), (1, .int (-5)), (2, .int 0)]) rfl ?_
  refine sM_turn_l5 hF  _ ?_ 1000 m (-5) 0
  · intro m3 z1 z2
    refine o_iload_n (pc := 50) 1 dX7_turn_50 rfl rfl <| ?_
    exact o_iret (pc := 51) dX7_turn_51 rfl rfl
def fM_uneven_l4 (k0_0 : MI → Int32 → Int32 → Option (Int32 × MI)) : Nat → MI → Int32 → Int32 → Option (Int32 × MI)
  | 0, _, _, _ => none
  | n0 + 1, m, v1, v2 =>
    if m.1 61 0 ≤ v2 then
      k0_0 m v1 v2
    else
      if ck v2 6 = true then
        lt (v1 + (m.1 64 v2.toNatClampNeg)) fun x3 =>
        lt (v2 + 1) fun x4 =>
        fM_uneven_l4 k0_0 n0 m x3 x4
      else none
theorem sM_uneven_l4 {sh : Sh} {R : RR} (hF : Fx sh R) (k0_0 : MI → Int32 → Int32 → Option (Int32 × MI)) (hk0_0 : ∀ (m : MI) (v1 : Int32) (v2 : Int32) , S (eI sh R) false 0 0 0 YX7_uneven sh R m 27 [(0, .ref 61), (1, .int v1), (2, .int v2)] [] (k0_0 m v1 v2)) : ∀ (n : Nat) (m : MI) (v1 : Int32) (v2 : Int32) , S (eI sh R) false 0 0 0 YX7_uneven sh R m 4 [(0, .ref 61), (1, .int v1), (2, .int v2)] [] (fM_uneven_l4 k0_0 n m v1 v2) := by
  intro n
  induction n with
  | zero => intros; exact S_none
  | succ n0 ih0 =>
    intro m v1 v2
    rw [fM_uneven_l4]
    refine o_iload_n (pc := 4) 2 dX7_uneven_4 rfl rfl <| o_aload_n (pc := 5) 0 dX7_uneven_5 rfl rfl <| o_getI (pc := 6) (ci := 7) (j := 0) (nn := 0) dX7_uneven_6 (hF.1 _ _ rfl) rfl (Nat.le_of_ble_eq_true rfl) k_883 rfl <| ?_
    refine o_icmp_ge (pc := 9) (tgt := 27) dX7_uneven_9 rfl (fun h1 => ?_) (fun h1 => ?_)
    · exact hk0_0 m v1 v2
    · refine o_iload_n (pc := 12) 1 dX7_uneven_12 rfl rfl <| o_aload_n (pc := 13) 0 dX7_uneven_13 rfl rfl <| o_getRc (pc := 14) (a := 64) (ci := 7) (j := 7) (nn := 0) dX7_uneven_14 (hF.1 _ _ rfl) rfl (Nat.le_of_ble_eq_true rfl) k_890 rfl (hF.2 _ _ _ rfl) <| o_iload_n (pc := 17) 2 dX7_uneven_17 rfl rfl <| ?_
      refine S_ck fun h2 => ?_
      refine o_iald (pc := 18) (nn := 6) dX7_uneven_18 (hF.1 _ _ rfl) (ck_in h2) <| o_iadd (pc := 19) dX7_uneven_19 <| ?_
      refine o_lt fun x3 => ?_
      refine o_istore_n (pc := 20) (ls' := [(1, .int x3), (0, .ref 61), (2, .int v2)]) dX7_uneven_20 rfl (Nat.le_of_ble_eq_true rfl) rfl <| o_iinc (pc := 21) 2 (v := v2 + 1) (ls' := [(2, .int (v2 + 1)), (1, .int x3), (0, .ref 61)]) dX7_uneven_21 rfl rfl (Nat.le_of_ble_eq_true rfl) rfl <| ?_
      refine o_ltL (ls := fun x4 => [(2, .int x4), (1, .int x3), (0, .ref 61)]) fun x4 => ?_
      refine o_goto (pc := 24) (tgt := 4) dX7_uneven_24 rfl <| ?_
      refine o_sub [2, 1, 0] (ls' := [(0, .ref 61), (1, .int x3), (2, .int x4)]) rfl ?_
      exact ih0 m x3 x4
def fM_uneven_l31 (u1 : Int32) (k0_0 : MI → Int32 → Int32 → Option (Int32 × MI)) : Nat → MI → Int32 → Int32 → Option (Int32 × MI)
  | 0, _, _, _ => none
  | n0 + 1, m, v2, v3 =>
    if m.1 61 0 ≤ v3 then
      k0_0 m v2 v3
    else
      if ck v3 6 = true then
        if ck v3 6 = true then
          lt (v2 + ((((m.1 64 v3.toNatClampNeg) * (m.1 61 0)) - u1) * (((m.1 64 v3.toNatClampNeg) * (m.1 61 0)) - u1))) fun x4 =>
          lt (v3 + 1) fun x5 =>
          fM_uneven_l31 u1 k0_0 n0 m x4 x5
        else none
      else none
theorem sM_uneven_l31 {sh : Sh} {R : RR} (hF : Fx sh R) (u1 : Int32) (k0_0 : MI → Int32 → Int32 → Option (Int32 × MI)) (hk0_0 : ∀ (m : MI) (v2 : Int32) (v3 : Int32) , S (eI sh R) false 0 0 0 YX7_uneven sh R m 75 [(0, .ref 61), (1, .int u1), (2, .int v2), (3, .int v3)] [] (k0_0 m v2 v3)) : ∀ (n : Nat) (m : MI) (v2 : Int32) (v3 : Int32) , S (eI sh R) false 0 0 0 YX7_uneven sh R m 31 [(0, .ref 61), (1, .int u1), (2, .int v2), (3, .int v3)] [] (fM_uneven_l31 u1 k0_0 n m v2 v3) := by
  intro n
  induction n with
  | zero => intros; exact S_none
  | succ n0 ih0 =>
    intro m v2 v3
    rw [fM_uneven_l31]
    refine o_iload_n (pc := 31) 3 dX7_uneven_31 rfl rfl <| o_aload_n (pc := 32) 0 dX7_uneven_32 rfl rfl <| o_getI (pc := 33) (ci := 7) (j := 0) (nn := 0) dX7_uneven_33 (hF.1 _ _ rfl) rfl (Nat.le_of_ble_eq_true rfl) k_883 rfl <| ?_
    refine o_icmp_ge (pc := 36) (tgt := 75) dX7_uneven_36 rfl (fun h1 => ?_) (fun h1 => ?_)
    · exact hk0_0 m v2 v3
    · refine o_iload_n (pc := 39) 2 dX7_uneven_39 rfl rfl <| o_aload_n (pc := 40) 0 dX7_uneven_40 rfl rfl <| o_getRc (pc := 41) (a := 64) (ci := 7) (j := 7) (nn := 0) dX7_uneven_41 (hF.1 _ _ rfl) rfl (Nat.le_of_ble_eq_true rfl) k_890 rfl (hF.2 _ _ _ rfl) <| o_iload_n (pc := 44) 3 dX7_uneven_44 rfl rfl <| ?_
      refine S_ck fun h2 => ?_
      refine o_iald (pc := 45) (nn := 6) dX7_uneven_45 (hF.1 _ _ rfl) (ck_in h2) <| o_aload_n (pc := 46) 0 dX7_uneven_46 rfl rfl <| o_getI (pc := 47) (ci := 7) (j := 0) (nn := 0) dX7_uneven_47 (hF.1 _ _ rfl) rfl (Nat.le_of_ble_eq_true rfl) k_883 rfl <| o_imul (pc := 50) dX7_uneven_50 <| o_iload_n (pc := 51) 1 dX7_uneven_51 rfl rfl <| o_isub (pc := 52) dX7_uneven_52 <| o_aload_n (pc := 53) 0 dX7_uneven_53 rfl rfl <| o_getRc (pc := 54) (a := 64) (ci := 7) (j := 7) (nn := 0) dX7_uneven_54 (hF.1 _ _ rfl) rfl (Nat.le_of_ble_eq_true rfl) k_890 rfl (hF.2 _ _ _ rfl) <| o_iload_n (pc := 57) 3 dX7_uneven_57 rfl rfl <| ?_
      refine S_ck fun h3 => ?_
      refine o_iald (pc := 58) (nn := 6) dX7_uneven_58 (hF.1 _ _ rfl) (ck_in h3) <| o_aload_n (pc := 59) 0 dX7_uneven_59 rfl rfl <| o_getI (pc := 60) (ci := 7) (j := 0) (nn := 0) dX7_uneven_60 (hF.1 _ _ rfl) rfl (Nat.le_of_ble_eq_true rfl) k_883 rfl <| o_imul (pc := 63) dX7_uneven_63 <| o_iload_n (pc := 64) 1 dX7_uneven_64 rfl rfl <| o_isub (pc := 65) dX7_uneven_65 <| o_imul (pc := 66) dX7_uneven_66 <| o_iadd (pc := 67) dX7_uneven_67 <| ?_
      refine o_lt fun x4 => ?_
      refine o_istore_n (pc := 68) (ls' := [(2, .int x4), (0, .ref 61), (1, .int u1), (3, .int v3)]) dX7_uneven_68 rfl (Nat.le_of_ble_eq_true rfl) rfl <| o_iinc (pc := 69) 3 (v := v3 + 1) (ls' := [(3, .int (v3 + 1)), (2, .int x4), (0, .ref 61), (1, .int u1)]) dX7_uneven_69 rfl rfl (Nat.le_of_ble_eq_true rfl) rfl <| ?_
      refine o_ltL (ls := fun x5 => [(3, .int x5), (2, .int x4), (0, .ref 61), (1, .int u1)]) fun x5 => ?_
      refine o_goto (pc := 72) (tgt := 31) dX7_uneven_72 rfl <| ?_
      refine o_sub [2, 3, 1, 0] (ls' := [(0, .ref 61), (1, .int u1), (2, .int x4), (3, .int x5)]) rfl ?_
      exact ih0 m x4 x5
def fM_uneven (m : MI) : Option (Int32 × MI) :=
  fM_uneven_l4 
    (fun m3 z1 z2 =>
      fM_uneven_l31 z1
        (fun m6 z4 z5 =>
          some (z4, m6)
          )
        1000 m3 0 0
      )
    1000 m 0 0
theorem sM_uneven {sh : Sh} {R : RR} (hF : Fx sh R) (m : MI) : KS (eI sh R) false 0 0 0 YX7_uneven sh R m [.ref 61] (fM_uneven m ) := by
  refine KS_of pn_X7 (fun _ => Nat.le_of_ble_eq_true rfl) ?_
  change S _ _ _ _ _ _ _ _ _ _ [(0, .ref 61)] [] _
  unfold fM_uneven
  refine o_iconst (pc := 0) dX7_uneven_0 lc_0 <| o_istore_n (pc := 1) (ls' := [(1, .int 0), (0, .ref 61)]) dX7_uneven_1 rfl (Nat.le_of_ble_eq_true rfl) rfl <| o_iconst (pc := 2) dX7_uneven_2 lc_0 <| o_istore_n (pc := 3) (ls' := [(2, .int 0), (1, .int 0), (0, .ref 61)]) dX7_uneven_3 rfl (Nat.le_of_ble_eq_true rfl) rfl <| ?_
  refine o_sub [2, 1, 0] (ls' := [(0, .ref 61), (1, .int 0), (2, .int 0)]) rfl ?_
  refine sM_uneven_l4 hF  _ ?_ 1000 m 0 0
  · intro m3 z1 z2
    refine o_iconst (pc := 27) dX7_uneven_27 lc_0 <| o_istore_n (pc := 28) (ls' := [(2, .int 0), (0, .ref 61), (1, .int z1)]) dX7_uneven_28 rfl (Nat.le_of_ble_eq_true rfl) rfl <| o_iconst (pc := 29) dX7_uneven_29 lc_0 <| o_istore_n (pc := 30) (ls' := [(3, .int 0), (2, .int 0), (0, .ref 61), (1, .int z1)]) dX7_uneven_30 rfl (Nat.le_of_ble_eq_true rfl) rfl <| ?_
    refine o_sub [2, 3, 1, 0] (ls' := [(0, .ref 61), (1, .int z1), (2, .int 0), (3, .int 0)]) rfl ?_
    refine sM_uneven_l31 hF z1 _ ?_ 1000 m3 0 0
    · intro m6 z4 z5
      refine o_iload_n (pc := 75) 2 dX7_uneven_75 rfl rfl <| ?_
      exact o_iret (pc := 76) dX7_uneven_76 rfl rfl
def fM_most_l22 (u1 : Int32) (k0_0 : MI → Int32 → Int32 → Int32 → Option (Int32 × MI)) : Nat → MI → Int32 → Int32 → Int32 → Option (Int32 × MI)
  | 0, _, _, _, _ => none
  | n0 + 1, m, v2, v3, v4 =>
    if m.1 61 0 ≤ v4 then
      k0_0 m v2 v3 v4
    else
      if v2 < 0 then
        if ck v4 6 = true then
          if v3 ≤ m.1 64 v4.toNatClampNeg then
            lt (v4 + 1) fun x5 =>
            fM_most_l22 u1 k0_0 n0 m v4 v3 x5
          else
            if ck v4 6 = true then
              lt (m.1 64 v4.toNatClampNeg) fun x7 =>
              lt (v4 + 1) fun x8 =>
              fM_most_l22 u1 k0_0 n0 m v4 x7 x8
            else none
        else none
      else
        if ck v4 6 = true then
          if ck v2 6 = true then
            if m.1 64 v4.toNatClampNeg ≤ m.1 64 v2.toNatClampNeg then
              if ck v4 6 = true then
                if v3 ≤ m.1 64 v4.toNatClampNeg then
                  lt (v4 + 1) fun x14 =>
                  fM_most_l22 u1 k0_0 n0 m v2 v3 x14
                else
                  if ck v4 6 = true then
                    lt (m.1 64 v4.toNatClampNeg) fun x16 =>
                    lt (v4 + 1) fun x17 =>
                    fM_most_l22 u1 k0_0 n0 m v2 x16 x17
                  else none
              else none
            else
              if ck v4 6 = true then
                if v3 ≤ m.1 64 v4.toNatClampNeg then
                  lt (v4 + 1) fun x20 =>
                  fM_most_l22 u1 k0_0 n0 m v4 v3 x20
                else
                  if ck v4 6 = true then
                    lt (m.1 64 v4.toNatClampNeg) fun x22 =>
                    lt (v4 + 1) fun x23 =>
                    fM_most_l22 u1 k0_0 n0 m v4 x22 x23
                  else none
              else none
          else none
        else none
theorem sM_most_l22 {sh : Sh} {R : RR} (hF : Fx sh R) (u1 : Int32) (k0_0 : MI → Int32 → Int32 → Int32 → Option (Int32 × MI)) (hk0_0 : ∀ (m : MI) (v2 : Int32) (v3 : Int32) (v4 : Int32) , S (eI sh R) false 1 0 0 YX7_most sh R m 83 [(0, .ref 61), (1, .int u1), (2, .int v2), (3, .int v3), (4, .int v4)] [] (k0_0 m v2 v3 v4)) : ∀ (n : Nat) (m : MI) (v2 : Int32) (v3 : Int32) (v4 : Int32) , S (eI sh R) false 1 0 0 YX7_most sh R m 22 [(0, .ref 61), (1, .int u1), (2, .int v2), (3, .int v3), (4, .int v4)] [] (fM_most_l22 u1 k0_0 n m v2 v3 v4) := by
  intro n
  induction n with
  | zero => intros; exact S_none
  | succ n0 ih0 =>
    intro m v2 v3 v4
    rw [fM_most_l22]
    refine o_iload (pc := 22) 4 dX7_most_22 rfl <| o_aload_n (pc := 24) 0 dX7_most_24 rfl rfl <| o_getI (pc := 25) (ci := 7) (j := 0) (nn := 0) dX7_most_25 (hF.1 _ _ rfl) rfl (Nat.le_of_ble_eq_true rfl) k_883 rfl <| ?_
    refine o_icmp_ge (pc := 28) (tgt := 83) dX7_most_28 rfl (fun h1 => ?_) (fun h1 => ?_)
    · exact hk0_0 m v2 v3 v4
    · refine o_iload_n (pc := 31) 2 dX7_most_31 rfl rfl <| ?_
      refine o_if_lt (pc := 32) (tgt := 51) dX7_most_32 rfl (fun h2 => ?_) (fun h2 => ?_)
      · refine o_iload (pc := 51) 4 dX7_most_51 rfl <| o_istore_n (pc := 53) (ls' := [(2, .int v4), (0, .ref 61), (1, .int u1), (3, .int v3), (4, .int v4)]) dX7_most_53 rfl (Nat.le_of_ble_eq_true rfl) rfl <| o_aload_n (pc := 54) 1 dX7_most_54 rfl rfl <| o_getRc (pc := 55) (a := 64) (ci := 7) (j := 7) (nn := 0) dX7_most_55 (hF.1 _ _ rfl) rfl (Nat.le_of_ble_eq_true rfl) k_890 rfl (hF.2 _ _ _ rfl) <| o_iload (pc := 58) 4 dX7_most_58 rfl <| ?_
        refine S_ck fun h3 => ?_
        refine o_iald (pc := 60) (nn := 6) dX7_most_60 (hF.1 _ _ rfl) (ck_in h3) <| o_iload_n (pc := 61) 3 dX7_most_61 rfl rfl <| ?_
        refine o_icmp_ge (pc := 62) (tgt := 75) dX7_most_62 rfl (fun h4 => ?_) (fun h4 => ?_)
        · refine o_iload_n (pc := 75) 3 dX7_most_75 rfl rfl <| o_istore_n (pc := 76) (ls' := [(3, .int v3), (2, .int v4), (0, .ref 61), (1, .int u1), (4, .int v4)]) dX7_most_76 rfl (Nat.le_of_ble_eq_true rfl) rfl <| o_iinc (pc := 77) 4 (v := v4 + 1) (ls' := [(4, .int (v4 + 1)), (3, .int v3), (2, .int v4), (0, .ref 61), (1, .int u1)]) dX7_most_77 rfl rfl (Nat.le_of_ble_eq_true rfl) rfl <| ?_
          refine o_ltL (ls := fun x5 => [(4, .int x5), (3, .int v3), (2, .int v4), (0, .ref 61), (1, .int u1)]) fun x5 => ?_
          refine o_goto (pc := 80) (tgt := 22) dX7_most_80 rfl <| ?_
          refine o_sub [3, 4, 2, 1, 0] (ls' := [(0, .ref 61), (1, .int u1), (2, .int v4), (3, .int v3), (4, .int x5)]) rfl ?_
          exact ih0 m v4 v3 x5
        · refine o_aload_n (pc := 65) 1 dX7_most_65 rfl rfl <| o_getRc (pc := 66) (a := 64) (ci := 7) (j := 7) (nn := 0) dX7_most_66 (hF.1 _ _ rfl) rfl (Nat.le_of_ble_eq_true rfl) k_890 rfl (hF.2 _ _ _ rfl) <| o_iload (pc := 69) 4 dX7_most_69 rfl <| ?_
          refine S_ck fun h6 => ?_
          refine o_iald (pc := 71) (nn := 6) dX7_most_71 (hF.1 _ _ rfl) (ck_in h6) <| o_goto (pc := 72) (tgt := 76) dX7_most_72 rfl <| ?_
          refine o_lt fun x7 => ?_
          refine o_istore_n (pc := 76) (ls' := [(3, .int x7), (2, .int v4), (0, .ref 61), (1, .int u1), (4, .int v4)]) dX7_most_76 rfl (Nat.le_of_ble_eq_true rfl) rfl <| o_iinc (pc := 77) 4 (v := v4 + 1) (ls' := [(4, .int (v4 + 1)), (3, .int x7), (2, .int v4), (0, .ref 61), (1, .int u1)]) dX7_most_77 rfl rfl (Nat.le_of_ble_eq_true rfl) rfl <| ?_
          refine o_ltL (ls := fun x8 => [(4, .int x8), (3, .int x7), (2, .int v4), (0, .ref 61), (1, .int u1)]) fun x8 => ?_
          refine o_goto (pc := 80) (tgt := 22) dX7_most_80 rfl <| ?_
          refine o_sub [3, 4, 2, 1, 0] (ls' := [(0, .ref 61), (1, .int u1), (2, .int v4), (3, .int x7), (4, .int x8)]) rfl ?_
          exact ih0 m v4 x7 x8
      · refine o_aload_n (pc := 35) 0 dX7_most_35 rfl rfl <| o_getRc (pc := 36) (a := 64) (ci := 7) (j := 7) (nn := 0) dX7_most_36 (hF.1 _ _ rfl) rfl (Nat.le_of_ble_eq_true rfl) k_890 rfl (hF.2 _ _ _ rfl) <| o_iload (pc := 39) 4 dX7_most_39 rfl <| ?_
        refine S_ck fun h9 => ?_
        refine o_iald (pc := 41) (nn := 6) dX7_most_41 (hF.1 _ _ rfl) (ck_in h9) <| o_aload_n (pc := 42) 0 dX7_most_42 rfl rfl <| o_getRc (pc := 43) (a := 64) (ci := 7) (j := 7) (nn := 0) dX7_most_43 (hF.1 _ _ rfl) rfl (Nat.le_of_ble_eq_true rfl) k_890 rfl (hF.2 _ _ _ rfl) <| o_iload_n (pc := 46) 2 dX7_most_46 rfl rfl <| ?_
        refine S_ck fun h10 => ?_
        refine o_iald (pc := 47) (nn := 6) dX7_most_47 (hF.1 _ _ rfl) (ck_in h10) <| ?_
        refine o_icmp_le (pc := 48) (tgt := 54) dX7_most_48 rfl (fun h11 => ?_) (fun h11 => ?_)
        · refine o_aload_n (pc := 54) 0 dX7_most_54 rfl rfl <| o_getRc (pc := 55) (a := 64) (ci := 7) (j := 7) (nn := 0) dX7_most_55 (hF.1 _ _ rfl) rfl (Nat.le_of_ble_eq_true rfl) k_890 rfl (hF.2 _ _ _ rfl) <| o_iload (pc := 58) 4 dX7_most_58 rfl <| ?_
          refine S_ck fun h12 => ?_
          refine o_iald (pc := 60) (nn := 6) dX7_most_60 (hF.1 _ _ rfl) (ck_in h12) <| o_iload_n (pc := 61) 3 dX7_most_61 rfl rfl <| ?_
          refine o_icmp_ge (pc := 62) (tgt := 75) dX7_most_62 rfl (fun h13 => ?_) (fun h13 => ?_)
          · refine o_iload_n (pc := 75) 3 dX7_most_75 rfl rfl <| o_istore_n (pc := 76) (ls' := [(3, .int v3), (0, .ref 61), (1, .int u1), (2, .int v2), (4, .int v4)]) dX7_most_76 rfl (Nat.le_of_ble_eq_true rfl) rfl <| o_iinc (pc := 77) 4 (v := v4 + 1) (ls' := [(4, .int (v4 + 1)), (3, .int v3), (0, .ref 61), (1, .int u1), (2, .int v2)]) dX7_most_77 rfl rfl (Nat.le_of_ble_eq_true rfl) rfl <| ?_
            refine o_ltL (ls := fun x14 => [(4, .int x14), (3, .int v3), (0, .ref 61), (1, .int u1), (2, .int v2)]) fun x14 => ?_
            refine o_goto (pc := 80) (tgt := 22) dX7_most_80 rfl <| ?_
            refine o_sub [2, 3, 4, 1, 0] (ls' := [(0, .ref 61), (1, .int u1), (2, .int v2), (3, .int v3), (4, .int x14)]) rfl ?_
            exact ih0 m v2 v3 x14
          · refine o_aload_n (pc := 65) 0 dX7_most_65 rfl rfl <| o_getRc (pc := 66) (a := 64) (ci := 7) (j := 7) (nn := 0) dX7_most_66 (hF.1 _ _ rfl) rfl (Nat.le_of_ble_eq_true rfl) k_890 rfl (hF.2 _ _ _ rfl) <| o_iload (pc := 69) 4 dX7_most_69 rfl <| ?_
            refine S_ck fun h15 => ?_
            refine o_iald (pc := 71) (nn := 6) dX7_most_71 (hF.1 _ _ rfl) (ck_in h15) <| o_goto (pc := 72) (tgt := 76) dX7_most_72 rfl <| ?_
            refine o_lt fun x16 => ?_
            refine o_istore_n (pc := 76) (ls' := [(3, .int x16), (0, .ref 61), (1, .int u1), (2, .int v2), (4, .int v4)]) dX7_most_76 rfl (Nat.le_of_ble_eq_true rfl) rfl <| o_iinc (pc := 77) 4 (v := v4 + 1) (ls' := [(4, .int (v4 + 1)), (3, .int x16), (0, .ref 61), (1, .int u1), (2, .int v2)]) dX7_most_77 rfl rfl (Nat.le_of_ble_eq_true rfl) rfl <| ?_
            refine o_ltL (ls := fun x17 => [(4, .int x17), (3, .int x16), (0, .ref 61), (1, .int u1), (2, .int v2)]) fun x17 => ?_
            refine o_goto (pc := 80) (tgt := 22) dX7_most_80 rfl <| ?_
            refine o_sub [2, 3, 4, 1, 0] (ls' := [(0, .ref 61), (1, .int u1), (2, .int v2), (3, .int x16), (4, .int x17)]) rfl ?_
            exact ih0 m v2 x16 x17
        · refine o_iload (pc := 51) 4 dX7_most_51 rfl <| o_istore_n (pc := 53) (ls' := [(2, .int v4), (0, .ref 61), (1, .int u1), (3, .int v3), (4, .int v4)]) dX7_most_53 rfl (Nat.le_of_ble_eq_true rfl) rfl <| o_aload_n (pc := 54) 1 dX7_most_54 rfl rfl <| o_getRc (pc := 55) (a := 64) (ci := 7) (j := 7) (nn := 0) dX7_most_55 (hF.1 _ _ rfl) rfl (Nat.le_of_ble_eq_true rfl) k_890 rfl (hF.2 _ _ _ rfl) <| o_iload (pc := 58) 4 dX7_most_58 rfl <| ?_
          refine S_ck fun h18 => ?_
          refine o_iald (pc := 60) (nn := 6) dX7_most_60 (hF.1 _ _ rfl) (ck_in h18) <| o_iload_n (pc := 61) 3 dX7_most_61 rfl rfl <| ?_
          refine o_icmp_ge (pc := 62) (tgt := 75) dX7_most_62 rfl (fun h19 => ?_) (fun h19 => ?_)
          · refine o_iload_n (pc := 75) 3 dX7_most_75 rfl rfl <| o_istore_n (pc := 76) (ls' := [(3, .int v3), (2, .int v4), (0, .ref 61), (1, .int u1), (4, .int v4)]) dX7_most_76 rfl (Nat.le_of_ble_eq_true rfl) rfl <| o_iinc (pc := 77) 4 (v := v4 + 1) (ls' := [(4, .int (v4 + 1)), (3, .int v3), (2, .int v4), (0, .ref 61), (1, .int u1)]) dX7_most_77 rfl rfl (Nat.le_of_ble_eq_true rfl) rfl <| ?_
            refine o_ltL (ls := fun x20 => [(4, .int x20), (3, .int v3), (2, .int v4), (0, .ref 61), (1, .int u1)]) fun x20 => ?_
            refine o_goto (pc := 80) (tgt := 22) dX7_most_80 rfl <| ?_
            refine o_sub [3, 4, 2, 1, 0] (ls' := [(0, .ref 61), (1, .int u1), (2, .int v4), (3, .int v3), (4, .int x20)]) rfl ?_
            exact ih0 m v4 v3 x20
          · refine o_aload_n (pc := 65) 1 dX7_most_65 rfl rfl <| o_getRc (pc := 66) (a := 64) (ci := 7) (j := 7) (nn := 0) dX7_most_66 (hF.1 _ _ rfl) rfl (Nat.le_of_ble_eq_true rfl) k_890 rfl (hF.2 _ _ _ rfl) <| o_iload (pc := 69) 4 dX7_most_69 rfl <| ?_
            refine S_ck fun h21 => ?_
            refine o_iald (pc := 71) (nn := 6) dX7_most_71 (hF.1 _ _ rfl) (ck_in h21) <| o_goto (pc := 72) (tgt := 76) dX7_most_72 rfl <| ?_
            refine o_lt fun x22 => ?_
            refine o_istore_n (pc := 76) (ls' := [(3, .int x22), (2, .int v4), (0, .ref 61), (1, .int u1), (4, .int v4)]) dX7_most_76 rfl (Nat.le_of_ble_eq_true rfl) rfl <| o_iinc (pc := 77) 4 (v := v4 + 1) (ls' := [(4, .int (v4 + 1)), (3, .int x22), (2, .int v4), (0, .ref 61), (1, .int u1)]) dX7_most_77 rfl rfl (Nat.le_of_ble_eq_true rfl) rfl <| ?_
            refine o_ltL (ls := fun x23 => [(4, .int x23), (3, .int x22), (2, .int v4), (0, .ref 61), (1, .int u1)]) fun x23 => ?_
            refine o_goto (pc := 80) (tgt := 22) dX7_most_80 rfl <| ?_
            refine o_sub [3, 4, 2, 1, 0] (ls' := [(0, .ref 61), (1, .int u1), (2, .int v4), (3, .int x22), (4, .int x23)]) rfl ?_
            exact ih0 m v4 x22 x23
def fM_most (m : MI) (a : Int32) : Option (Int32 × MI) :=
  (fM_in m a 0 1).bind fun r1 =>
  if r1.1 = 0 then
    some (-1, r1.2)
  else
    fM_most_l22 a
      (fun m6 z3 z4 z5 =>
        if z3 < 0 then
          some (z3, m6)
        else
          if a = 0 then
            some (z3, m6)
          else
            if ck z3 6 = true then
              some ((m6.1 64 z3.toNatClampNeg) - z4, m6)
            else none
        )
      1000 r1.2 (-5) 999 0
theorem sM_most {sh : Sh} {R : RR} (hF : Fx sh R) (m : MI) (a : Int32) : KS (eI sh R) false 1 0 0 YX7_most sh R m [.ref 61, .int a] (fM_most m a) := by
  refine KS_of pn_X7 (fun _ => Nat.le_of_ble_eq_true rfl) ?_
  change S _ _ _ _ _ _ _ _ _ _ [(0, .ref 61), (1, .int a)] [] _
  unfold fM_most
  refine o_aload_n (pc := 0) 0 dX7_most_0 rfl rfl <| o_iload_n (pc := 1) 1 dX7_most_1 rfl rfl <| o_iconst (pc := 2) dX7_most_2 lc_0 <| o_iconst (pc := 3) dX7_most_3 lc_1 <| ?_
  refine o_callVI (Y2 := YX7_in) (pc := 4) (av := [.int a, .int 0, .int 1]) (rest := []) dX7_most_4 k_1096 cm_X7_in (sM_in hF m a 0 1) (hF.1 _ _ rfl) rfl rfl (Nat.le_of_ble_eq_true rfl) (Nat.le_of_ble_eq_true rfl) fun r1 => ?_
  refine o_if_ne (pc := 7) (tgt := 12) dX7_most_7 rfl (fun h2 => ?_) (fun h2 => ?_)
  · refine o_iconst (pc := 10) dX7_most_10 lc_m1 <| ?_
    exact o_iret (pc := 11) dX7_most_11 rfl rfl
  · refine o_bipush (pc := 12) dX7_most_12 lb_m5 <| o_istore_n (pc := 14) (ls' := [(2, .int (-5)), (0, .ref 61), (1, .int a)]) dX7_most_14 rfl (Nat.le_of_ble_eq_true rfl) rfl <| o_sipush (pc := 15) dX7_most_15 ls_999 <| o_istore_n (pc := 18) (ls' := [(3, .int 999), (2, .int (-5)), (0, .ref 61), (1, .int a)]) dX7_most_18 rfl (Nat.le_of_ble_eq_true rfl) rfl <| o_iconst (pc := 19) dX7_most_19 lc_0 <| o_istore (pc := 20) (ls' := [(4, .int 0), (3, .int 999), (2, .int (-5)), (0, .ref 61), (1, .int a)]) dX7_most_20 (Nat.le_of_ble_eq_true rfl) rfl <| ?_
    refine o_sub [3, 4, 2, 1, 0] (ls' := [(0, .ref 61), (1, .int a), (2, .int (-5)), (3, .int 999), (4, .int 0)]) rfl ?_
    refine sM_most_l22 hF a _ ?_ 1000 r1.2 (-5) 999 0
    · intro m6 z3 z4 z5
      refine o_iload_n (pc := 83) 2 dX7_most_83 rfl rfl <| ?_
      refine o_if_lt (pc := 84) (tgt := 91) dX7_most_84 rfl (fun h7 => ?_) (fun h7 => ?_)
      · refine o_iload_n (pc := 91) 2 dX7_most_91 rfl rfl <| o_goto (pc := 92) (tgt := 103) dX7_most_92 rfl <| ?_
        exact o_iret (pc := 103) dX7_most_103 rfl rfl
      · refine o_iload_n (pc := 87) 1 dX7_most_87 rfl rfl <| ?_
        refine o_if_ne (pc := 88) (tgt := 95) dX7_most_88 rfl (fun h8 => ?_) (fun h8 => ?_)
        · refine o_iload_n (pc := 91) 2 dX7_most_91 rfl rfl <| o_goto (pc := 92) (tgt := 103) dX7_most_92 rfl <| ?_
          exact o_iret (pc := 103) dX7_most_103 rfl rfl
        · refine o_aload_n (pc := 95) 0 dX7_most_95 rfl rfl <| o_getRc (pc := 96) (a := 64) (ci := 7) (j := 7) (nn := 0) dX7_most_96 (hF.1 _ _ rfl) rfl (Nat.le_of_ble_eq_true rfl) k_890 rfl (hF.2 _ _ _ rfl) <| o_iload_n (pc := 99) 2 dX7_most_99 rfl rfl <| ?_
          refine S_ck fun h9 => ?_
          refine o_iald (pc := 100) (nn := 6) dX7_most_100 (hF.1 _ _ rfl) (ck_in h9) <| o_iload_n (pc := 101) 3 dX7_most_101 rfl rfl <| o_isub (pc := 102) dX7_most_102 <| ?_
          exact o_iret (pc := 103) dX7_most_103 rfl rfl
def fM_save_l26 (k0_0 : MI → Int32 → Option (MI)) : Nat → MI → Int32 → Option (MI)
  | 0, _, _ => none
  | n0 + 1, m, v1 =>
    if 6 ≤ v1 then
      k0_0 m v1
    else
      if ck v1 6 = true then
        if ck v1 6 = true then
          lm (mI m 82 (upd (m.1 82) v1.toNatClampNeg (m.1 64 v1.toNatClampNeg))) fun m4 =>
          lt (v1 + 1) fun x5 =>
          fM_save_l26 k0_0 n0 m4 x5
        else none
      else none
theorem sM_save_l26 {sh : Sh} {R : RR} (hF : Fx sh R) (k0_0 : MI → Int32 → Option (MI)) (hk0_0 : ∀ (m : MI) (v1 : Int32) , S (eV sh R) false 0 0 0 YX7_save sh R m 50 [(0, .ref 61), (1, .int v1)] [] (k0_0 m v1)) : ∀ (n : Nat) (m : MI) (v1 : Int32) , S (eV sh R) false 0 0 0 YX7_save sh R m 26 [(0, .ref 61), (1, .int v1)] [] (fM_save_l26 k0_0 n m v1) := by
  intro n
  induction n with
  | zero => intros; exact S_none
  | succ n0 ih0 =>
    intro m v1
    rw [fM_save_l26]
    refine o_iload_n (pc := 26) 1 dX7_save_26 rfl rfl <| o_bipush (pc := 27) dX7_save_27 lb_6 <| ?_
    refine o_icmp_ge (pc := 29) (tgt := 50) dX7_save_29 rfl (fun h1 => ?_) (fun h1 => ?_)
    · exact hk0_0 m v1
    · refine o_aload_n (pc := 32) 0 dX7_save_32 rfl rfl <| o_getRc (pc := 33) (a := 82) (ci := 7) (j := 40) (nn := 0) dX7_save_33 (hF.1 _ _ rfl) rfl (Nat.le_of_ble_eq_true rfl) k_923 rfl (hF.2 _ _ _ rfl) <| o_iload_n (pc := 36) 1 dX7_save_36 rfl rfl <| o_aload_n (pc := 37) 0 dX7_save_37 rfl rfl <| o_getRc (pc := 38) (a := 64) (ci := 7) (j := 7) (nn := 0) dX7_save_38 (hF.1 _ _ rfl) rfl (Nat.le_of_ble_eq_true rfl) k_890 rfl (hF.2 _ _ _ rfl) <| o_iload_n (pc := 41) 1 dX7_save_41 rfl rfl <| ?_
      refine S_ck fun h2 => ?_
      refine o_iald (pc := 42) (nn := 6) dX7_save_42 (hF.1 _ _ rfl) (ck_in h2) <| ?_
      refine S_ck fun h3 => ?_
      refine o_iast (pc := 43) (nn := 6) dX7_save_43 (hF.1 _ _ rfl) (ck_in h3) <| ?_
      refine o_lm fun m4 => ?_
      refine o_iinc (pc := 44) 1 (v := v1 + 1) (ls' := [(1, .int (v1 + 1)), (0, .ref 61)]) dX7_save_44 rfl rfl (Nat.le_of_ble_eq_true rfl) rfl <| ?_
      refine o_ltL (ls := fun x5 => [(1, .int x5), (0, .ref 61)]) fun x5 => ?_
      refine o_goto (pc := 47) (tgt := 26) dX7_save_47 rfl <| ?_
      refine o_sub [1, 0] (ls' := [(0, .ref 61), (1, .int x5)]) rfl ?_
      exact ih0 m4 x5
def fM_save (m : MI) : Option (MI) :=
  lm (mI m 61 (upd (m.1 61) 37 (m.1 61 2))) fun m1 =>
  lm (mI m1 61 (upd (m1.1 61) 38 (m1.1 61 3))) fun m2 =>
  lm (mI m2 61 (upd (m2.1 61) 39 (m2.1 61 4))) fun m3 =>
  fM_save_l26 
    (fun m5 z4 =>
      some m5
      )
    1000 m3 0
theorem sM_save {sh : Sh} {R : RR} (hF : Fx sh R) (m : MI) : KS (eV sh R) false 0 0 0 YX7_save sh R m [.ref 61] (fM_save m ) := by
  refine KS_of pn_X7 (fun _ => Nat.le_of_ble_eq_true rfl) ?_
  change S _ _ _ _ _ _ _ _ _ _ [(0, .ref 61)] [] _
  unfold fM_save
  refine o_aload_n (pc := 0) 0 dX7_save_0 rfl rfl <| o_aload_n (pc := 1) 0 dX7_save_1 rfl rfl <| o_getI (pc := 2) (ci := 7) (j := 2) (nn := 0) dX7_save_2 (hF.1 _ _ rfl) rfl (Nat.le_of_ble_eq_true rfl) k_885 rfl <| o_putI (pc := 5) (ci := 7) (j := 37) (nn := 0) dX7_save_5 (hF.1 _ _ rfl) rfl (Nat.le_of_ble_eq_true rfl) k_920 rfl rfl rfl rfl rfl <| ?_
  refine o_lm fun m1 => ?_
  refine o_aload_n (pc := 8) 0 dX7_save_8 rfl rfl <| o_aload_n (pc := 9) 0 dX7_save_9 rfl rfl <| o_getI (pc := 10) (ci := 7) (j := 3) (nn := 0) dX7_save_10 (hF.1 _ _ rfl) rfl (Nat.le_of_ble_eq_true rfl) k_886 rfl <| o_putI (pc := 13) (ci := 7) (j := 38) (nn := 0) dX7_save_13 (hF.1 _ _ rfl) rfl (Nat.le_of_ble_eq_true rfl) k_921 rfl rfl rfl rfl rfl <| ?_
  refine o_lm fun m2 => ?_
  refine o_aload_n (pc := 16) 0 dX7_save_16 rfl rfl <| o_aload_n (pc := 17) 0 dX7_save_17 rfl rfl <| o_getI (pc := 18) (ci := 7) (j := 4) (nn := 0) dX7_save_18 (hF.1 _ _ rfl) rfl (Nat.le_of_ble_eq_true rfl) k_887 rfl <| o_putI (pc := 21) (ci := 7) (j := 39) (nn := 0) dX7_save_21 (hF.1 _ _ rfl) rfl (Nat.le_of_ble_eq_true rfl) k_922 rfl rfl rfl rfl rfl <| ?_
  refine o_lm fun m3 => ?_
  refine o_iconst (pc := 24) dX7_save_24 lc_0 <| o_istore_n (pc := 25) (ls' := [(1, .int 0), (0, .ref 61)]) dX7_save_25 rfl (Nat.le_of_ble_eq_true rfl) rfl <| ?_
  refine o_sub [1, 0] (ls' := [(0, .ref 61), (1, .int 0)]) rfl ?_
  refine sM_save_l26 hF  _ ?_ 1000 m3 0
  · intro m5 z4
    exact o_vret (pc := 50) dX7_save_50 rfl rfl
def fM_putBack_l26 (k0_0 : MI → Int32 → Option (MI)) : Nat → MI → Int32 → Option (MI)
  | 0, _, _ => none
  | n0 + 1, m, v1 =>
    if 6 ≤ v1 then
      k0_0 m v1
    else
      if ck v1 6 = true then
        if ck v1 6 = true then
          lm (mI m 64 (upd (m.1 64) v1.toNatClampNeg (m.1 82 v1.toNatClampNeg))) fun m4 =>
          lt (v1 + 1) fun x5 =>
          fM_putBack_l26 k0_0 n0 m4 x5
        else none
      else none
theorem sM_putBack_l26 {sh : Sh} {R : RR} (hF : Fx sh R) (k0_0 : MI → Int32 → Option (MI)) (hk0_0 : ∀ (m : MI) (v1 : Int32) , S (eV sh R) false 0 0 0 YX7_putBack sh R m 50 [(0, .ref 61), (1, .int v1)] [] (k0_0 m v1)) : ∀ (n : Nat) (m : MI) (v1 : Int32) , S (eV sh R) false 0 0 0 YX7_putBack sh R m 26 [(0, .ref 61), (1, .int v1)] [] (fM_putBack_l26 k0_0 n m v1) := by
  intro n
  induction n with
  | zero => intros; exact S_none
  | succ n0 ih0 =>
    intro m v1
    rw [fM_putBack_l26]
    refine o_iload_n (pc := 26) 1 dX7_putBack_26 rfl rfl <| o_bipush (pc := 27) dX7_putBack_27 lb_6 <| ?_
    refine o_icmp_ge (pc := 29) (tgt := 50) dX7_putBack_29 rfl (fun h1 => ?_) (fun h1 => ?_)
    · exact hk0_0 m v1
    · refine o_aload_n (pc := 32) 0 dX7_putBack_32 rfl rfl <| o_getRc (pc := 33) (a := 64) (ci := 7) (j := 7) (nn := 0) dX7_putBack_33 (hF.1 _ _ rfl) rfl (Nat.le_of_ble_eq_true rfl) k_890 rfl (hF.2 _ _ _ rfl) <| o_iload_n (pc := 36) 1 dX7_putBack_36 rfl rfl <| o_aload_n (pc := 37) 0 dX7_putBack_37 rfl rfl <| o_getRc (pc := 38) (a := 82) (ci := 7) (j := 40) (nn := 0) dX7_putBack_38 (hF.1 _ _ rfl) rfl (Nat.le_of_ble_eq_true rfl) k_923 rfl (hF.2 _ _ _ rfl) <| o_iload_n (pc := 41) 1 dX7_putBack_41 rfl rfl <| ?_
      refine S_ck fun h2 => ?_
      refine o_iald (pc := 42) (nn := 6) dX7_putBack_42 (hF.1 _ _ rfl) (ck_in h2) <| ?_
      refine S_ck fun h3 => ?_
      refine o_iast (pc := 43) (nn := 6) dX7_putBack_43 (hF.1 _ _ rfl) (ck_in h3) <| ?_
      refine o_lm fun m4 => ?_
      refine o_iinc (pc := 44) 1 (v := v1 + 1) (ls' := [(1, .int (v1 + 1)), (0, .ref 61)]) dX7_putBack_44 rfl rfl (Nat.le_of_ble_eq_true rfl) rfl <| ?_
      refine o_ltL (ls := fun x5 => [(1, .int x5), (0, .ref 61)]) fun x5 => ?_
      refine o_goto (pc := 47) (tgt := 26) dX7_putBack_47 rfl <| ?_
      refine o_sub [1, 0] (ls' := [(0, .ref 61), (1, .int x5)]) rfl ?_
      exact ih0 m4 x5
def fM_putBack (m : MI) : Option (MI) :=
  lm (mI m 61 (upd (m.1 61) 2 (m.1 61 37))) fun m1 =>
  lm (mI m1 61 (upd (m1.1 61) 3 (m1.1 61 38))) fun m2 =>
  lm (mI m2 61 (upd (m2.1 61) 4 (m2.1 61 39))) fun m3 =>
  fM_putBack_l26 
    (fun m5 z4 =>
      some m5
      )
    1000 m3 0
theorem sM_putBack {sh : Sh} {R : RR} (hF : Fx sh R) (m : MI) : KS (eV sh R) false 0 0 0 YX7_putBack sh R m [.ref 61] (fM_putBack m ) := by
  refine KS_of pn_X7 (fun _ => Nat.le_of_ble_eq_true rfl) ?_
  change S _ _ _ _ _ _ _ _ _ _ [(0, .ref 61)] [] _
  unfold fM_putBack
  refine o_aload_n (pc := 0) 0 dX7_putBack_0 rfl rfl <| o_aload_n (pc := 1) 0 dX7_putBack_1 rfl rfl <| o_getI (pc := 2) (ci := 7) (j := 37) (nn := 0) dX7_putBack_2 (hF.1 _ _ rfl) rfl (Nat.le_of_ble_eq_true rfl) k_920 rfl <| o_putI (pc := 5) (ci := 7) (j := 2) (nn := 0) dX7_putBack_5 (hF.1 _ _ rfl) rfl (Nat.le_of_ble_eq_true rfl) k_885 rfl rfl rfl rfl rfl <| ?_
  refine o_lm fun m1 => ?_
  refine o_aload_n (pc := 8) 0 dX7_putBack_8 rfl rfl <| o_aload_n (pc := 9) 0 dX7_putBack_9 rfl rfl <| o_getI (pc := 10) (ci := 7) (j := 38) (nn := 0) dX7_putBack_10 (hF.1 _ _ rfl) rfl (Nat.le_of_ble_eq_true rfl) k_921 rfl <| o_putI (pc := 13) (ci := 7) (j := 3) (nn := 0) dX7_putBack_13 (hF.1 _ _ rfl) rfl (Nat.le_of_ble_eq_true rfl) k_886 rfl rfl rfl rfl rfl <| ?_
  refine o_lm fun m2 => ?_
  refine o_aload_n (pc := 16) 0 dX7_putBack_16 rfl rfl <| o_aload_n (pc := 17) 0 dX7_putBack_17 rfl rfl <| o_getI (pc := 18) (ci := 7) (j := 39) (nn := 0) dX7_putBack_18 (hF.1 _ _ rfl) rfl (Nat.le_of_ble_eq_true rfl) k_922 rfl <| o_putI (pc := 21) (ci := 7) (j := 4) (nn := 0) dX7_putBack_21 (hF.1 _ _ rfl) rfl (Nat.le_of_ble_eq_true rfl) k_887 rfl rfl rfl rfl rfl <| ?_
  refine o_lm fun m3 => ?_
  refine o_iconst (pc := 24) dX7_putBack_24 lc_0 <| o_istore_n (pc := 25) (ls' := [(1, .int 0), (0, .ref 61)]) dX7_putBack_25 rfl (Nat.le_of_ble_eq_true rfl) rfl <| ?_
  refine o_sub [1, 0] (ls' := [(0, .ref 61), (1, .int 0)]) rfl ?_
  refine sM_putBack_l26 hF  _ ?_ 1000 m3 0
  · intro m5 z4
    exact o_vret (pc := 50) dX7_putBack_50 rfl rfl
def fM_see (m : MI) (a : Int32) (b : Int32) : Option (Int32 × MI) :=
  if a = -1 then
    lm (mI m 61 (upd (m.1 61) 41 0)) fun m2 =>
    some (0, m2)
  else
    (fM_isDraw m a).bind fun r3 =>
    if r3.1 = 0 then
      some (-2, r3.2)
    else
      if r3.2.1 61 41 = 6 then
        some (-4, r3.2)
      else
        if ck (r3.2.1 61 41) 6 = true then
          lm (mI r3.2 83 (upd (r3.2.1 83) (r3.2.1 61 41).toNatClampNeg a)) fun m7 =>
          if ck (m7.1 61 41) 6 = true then
            lm (mI m7 84 (upd (m7.1 84) (m7.1 61 41).toNatClampNeg (vp_nar .boolean b))) fun m9 =>
            lm (mI m9 61 (upd (m9.1 61) 41 ((m9.1 61 41) + 1))) fun m10 =>
            some (m10.1 61 41, m10)
          else none
        else none
theorem sM_see {sh : Sh} {R : RR} (hF : Fx sh R) (m : MI) (a : Int32) (b : Int32) : KS (eI sh R) false 2 0 0 YX7_see sh R m [.ref 61, .int a, .int b] (fM_see m a b) := by
  refine KS_of pn_X7 (fun _ => Nat.le_of_ble_eq_true rfl) ?_
  change S _ _ _ _ _ _ _ _ _ _ [(0, .ref 61), (1, .int a), (2, .int b)] [] _
  unfold fM_see
  refine o_iload_n (pc := 0) 1 dX7_see_0 rfl rfl <| o_iconst (pc := 1) dX7_see_1 lc_m1 <| ?_
  refine o_icmp_ne (pc := 2) (tgt := 12) dX7_see_2 rfl (fun h1 => ?_) (fun h1 => ?_)
  · refine o_aload_n (pc := 5) 0 dX7_see_5 rfl rfl <| o_iconst (pc := 6) dX7_see_6 lc_0 <| o_putI (pc := 7) (ci := 7) (j := 41) (nn := 0) dX7_see_7 (hF.1 _ _ rfl) rfl (Nat.le_of_ble_eq_true rfl) k_924 rfl rfl rfl rfl rfl <| ?_
    refine o_lm fun m2 => ?_
    refine o_iconst (pc := 10) dX7_see_10 lc_0 <| ?_
    exact o_iret (pc := 11) dX7_see_11 rfl rfl
  · refine o_aload_n (pc := 12) 0 dX7_see_12 rfl rfl <| o_iload_n (pc := 13) 1 dX7_see_13 rfl rfl <| ?_
    refine o_callVI (Y2 := YX7_isDraw) (pc := 14) (av := [.int a]) (rest := []) dX7_see_14 k_1235 cm_X7_isDraw (sM_isDraw hF m a) (hF.1 _ _ rfl) rfl rfl (Nat.le_of_ble_eq_true rfl) (Nat.le_of_ble_eq_true rfl) fun r3 => ?_
    refine o_if_ne (pc := 17) (tgt := 23) dX7_see_17 rfl (fun h4 => ?_) (fun h4 => ?_)
    · refine o_bipush (pc := 20) dX7_see_20 lb_m2 <| ?_
      exact o_iret (pc := 22) dX7_see_22 rfl rfl
    · refine o_aload_n (pc := 23) 0 dX7_see_23 rfl rfl <| o_getI (pc := 24) (ci := 7) (j := 41) (nn := 0) dX7_see_24 (hF.1 _ _ rfl) rfl (Nat.le_of_ble_eq_true rfl) k_924 rfl <| o_bipush (pc := 27) dX7_see_27 lb_6 <| ?_
      refine o_icmp_ne (pc := 29) (tgt := 35) dX7_see_29 rfl (fun h5 => ?_) (fun h5 => ?_)
      · refine o_bipush (pc := 32) dX7_see_32 lb_m4 <| ?_
        exact o_iret (pc := 34) dX7_see_34 rfl rfl
      · refine o_aload_n (pc := 35) 0 dX7_see_35 rfl rfl <| o_getRc (pc := 36) (a := 83) (ci := 7) (j := 42) (nn := 0) dX7_see_36 (hF.1 _ _ rfl) rfl (Nat.le_of_ble_eq_true rfl) k_925 rfl (hF.2 _ _ _ rfl) <| o_aload_n (pc := 39) 0 dX7_see_39 rfl rfl <| o_getI (pc := 40) (ci := 7) (j := 41) (nn := 0) dX7_see_40 (hF.1 _ _ rfl) rfl (Nat.le_of_ble_eq_true rfl) k_924 rfl <| o_iload_n (pc := 43) 1 dX7_see_43 rfl rfl <| ?_
        refine S_ck fun h6 => ?_
        refine o_iast (pc := 44) (nn := 6) dX7_see_44 (hF.1 _ _ rfl) (ck_in h6) <| ?_
        refine o_lm fun m7 => ?_
        refine o_aload_n (pc := 45) 0 dX7_see_45 rfl rfl <| o_getRc (pc := 46) (a := 84) (ci := 7) (j := 43) (nn := 0) dX7_see_46 (hF.1 _ _ rfl) rfl (Nat.le_of_ble_eq_true rfl) k_926 rfl (hF.2 _ _ _ rfl) <| o_aload_n (pc := 49) 0 dX7_see_49 rfl rfl <| o_getI (pc := 50) (ci := 7) (j := 41) (nn := 0) dX7_see_50 (hF.1 _ _ rfl) rfl (Nat.le_of_ble_eq_true rfl) k_924 rfl <| o_iload_n (pc := 53) 2 dX7_see_53 rfl rfl <| ?_
        refine S_ck fun h8 => ?_
        refine o_zast (pc := 54) (nn := 6) dX7_see_54 (hF.1 _ _ rfl) (ck_in h8) <| ?_
        refine o_lm fun m9 => ?_
        refine o_aload_n (pc := 55) 0 dX7_see_55 rfl rfl <| o_dup (pc := 56) dX7_see_56 rfl <| o_getI (pc := 57) (ci := 7) (j := 41) (nn := 0) dX7_see_57 (hF.1 _ _ rfl) rfl (Nat.le_of_ble_eq_true rfl) k_924 rfl <| o_iconst (pc := 60) dX7_see_60 lc_1 <| o_iadd (pc := 61) dX7_see_61 <| o_putI (pc := 62) (ci := 7) (j := 41) (nn := 0) dX7_see_62 (hF.1 _ _ rfl) rfl (Nat.le_of_ble_eq_true rfl) k_924 rfl rfl rfl rfl rfl <| ?_
        refine o_lm fun m10 => ?_
        refine o_aload_n (pc := 65) 0 dX7_see_65 rfl rfl <| o_getI (pc := 66) (ci := 7) (j := 41) (nn := 0) dX7_see_66 (hF.1 _ _ rfl) rfl (Nat.le_of_ble_eq_true rfl) k_924 rfl <| ?_
        exact o_iret (pc := 69) dX7_see_69 rfl rfl
def fM_isSeen_l44 (u1 : Int32) (u2 : Int32) (k0_0 : MI → Int32 → Int32 → Option (Int32 × MI)) : Nat → MI → Int32 → Int32 → Option (Int32 × MI)
  | 0, _, _, _ => none
  | n0 + 1, m, v3, v4 =>
    if m.1 61 41 ≤ v4 then
      k0_0 m v3 v4
    else
      if v3 = 0 then
        k0_0 m v3 v4
      else
        (fM_isEnd m).bind fun r3 =>
        if r3.1 = 0 then
          if ck v4 6 = true then
            (fM_goDraw r3.2 (r3.2.1 83 v4.toNatClampNeg)).bind fun r6 =>
            if ck v4 6 = true then
              if r6.1 = r6.2.1 84 v4.toNatClampNeg then
                lt (v4 + 1) fun x9 =>
                fM_isSeen_l44 u1 u2 k0_0 n0 r6.2 1 x9
              else
                lt (v4 + 1) fun x10 =>
                fM_isSeen_l44 u1 u2 k0_0 n0 r6.2 0 x10
            else none
          else none
        else
          lt (v4 + 1) fun x11 =>
          fM_isSeen_l44 u1 u2 k0_0 n0 r3.2 0 x11
theorem sM_isSeen_l44 {sh : Sh} {R : RR} (hF : Fx sh R) (u1 : Int32) (u2 : Int32) (k0_0 : MI → Int32 → Int32 → Option (Int32 × MI)) (hk0_0 : ∀ (m : MI) (v3 : Int32) (v4 : Int32) , S (eI sh R) false 7 0 0 YX7_isSeen sh R m 97 [(0, .ref 61), (1, .int u1), (2, .int u2), (3, .int v3), (4, .int v4)] [] (k0_0 m v3 v4)) : ∀ (n : Nat) (m : MI) (v3 : Int32) (v4 : Int32) , S (eI sh R) false 7 0 0 YX7_isSeen sh R m 44 [(0, .ref 61), (1, .int u1), (2, .int u2), (3, .int v3), (4, .int v4)] [] (fM_isSeen_l44 u1 u2 k0_0 n m v3 v4) := by
  intro n
  induction n with
  | zero => intros; exact S_none
  | succ n0 ih0 =>
    intro m v3 v4
    rw [fM_isSeen_l44]
    refine o_iload (pc := 44) 4 dX7_isSeen_44 rfl <| o_aload_n (pc := 46) 0 dX7_isSeen_46 rfl rfl <| o_getI (pc := 47) (ci := 7) (j := 41) (nn := 0) dX7_isSeen_47 (hF.1 _ _ rfl) rfl (Nat.le_of_ble_eq_true rfl) k_924 rfl <| ?_
    refine o_icmp_ge (pc := 50) (tgt := 97) dX7_isSeen_50 rfl (fun h1 => ?_) (fun h1 => ?_)
    · exact hk0_0 m v3 v4
    · refine o_iload_n (pc := 53) 3 dX7_isSeen_53 rfl rfl <| ?_
      refine o_if_eq (pc := 54) (tgt := 97) dX7_isSeen_54 rfl (fun h2 => ?_) (fun h2 => ?_)
      · exact hk0_0 m v3 v4
      · refine o_aload_n (pc := 57) 0 dX7_isSeen_57 rfl rfl <| ?_
        refine o_callVI (Y2 := YX7_isEnd) (pc := 58) (av := []) (rest := []) dX7_isSeen_58 k_1244 cm_X7_isEnd (sM_isEnd hF m ) (hF.1 _ _ rfl) rfl rfl (Nat.le_of_ble_eq_true rfl) (Nat.le_of_ble_eq_true rfl) fun r3 => ?_
        refine o_if_ne (pc := 61) (tgt := 89) dX7_isSeen_61 rfl (fun h4 => ?_) (fun h4 => ?_)
        · refine o_aload_n (pc := 64) 0 dX7_isSeen_64 rfl rfl <| o_aload_n (pc := 65) 0 dX7_isSeen_65 rfl rfl <| o_getRc (pc := 66) (a := 83) (ci := 7) (j := 42) (nn := 0) dX7_isSeen_66 (hF.1 _ _ rfl) rfl (Nat.le_of_ble_eq_true rfl) k_925 rfl (hF.2 _ _ _ rfl) <| o_iload (pc := 69) 4 dX7_isSeen_69 rfl <| ?_
          refine S_ck fun h5 => ?_
          refine o_iald (pc := 71) (nn := 6) dX7_isSeen_71 (hF.1 _ _ rfl) (ck_in h5) <| ?_
          refine o_callVI (Y2 := YX7_goDraw) (pc := 72) (av := [.int (r3.2.1 83 v4.toNatClampNeg)]) (rest := []) dX7_isSeen_72 k_1240 cm_X7_goDraw (sM_goDraw hF r3.2 (r3.2.1 83 v4.toNatClampNeg)) (hF.1 _ _ rfl) rfl rfl (Nat.le_of_ble_eq_true rfl) (Nat.le_of_ble_eq_true rfl) fun r6 => ?_
          refine o_aload_n (pc := 75) 0 dX7_isSeen_75 rfl rfl <| o_getRc (pc := 76) (a := 84) (ci := 7) (j := 43) (nn := 0) dX7_isSeen_76 (hF.1 _ _ rfl) rfl (Nat.le_of_ble_eq_true rfl) k_926 rfl (hF.2 _ _ _ rfl) <| o_iload (pc := 79) 4 dX7_isSeen_79 rfl <| ?_
          refine S_ck fun h7 => ?_
          refine o_zald (pc := 81) (nn := 6) dX7_isSeen_81 (hF.1 _ _ rfl) (ck_in h7) <| ?_
          refine o_icmp_ne (pc := 82) (tgt := 89) dX7_isSeen_82 rfl (fun h8 => ?_) (fun h8 => ?_)
          · refine o_iconst (pc := 85) dX7_isSeen_85 lc_1 <| o_goto (pc := 86) (tgt := 90) dX7_isSeen_86 rfl <| o_istore_n (pc := 90) (ls' := [(3, .int 1), (0, .ref 61), (1, .int u1), (2, .int u2), (4, .int v4)]) dX7_isSeen_90 rfl (Nat.le_of_ble_eq_true rfl) rfl <| o_iinc (pc := 91) 4 (v := v4 + 1) (ls' := [(4, .int (v4 + 1)), (3, .int 1), (0, .ref 61), (1, .int u1), (2, .int u2)]) dX7_isSeen_91 rfl rfl (Nat.le_of_ble_eq_true rfl) rfl <| ?_
            refine o_ltL (ls := fun x9 => [(4, .int x9), (3, .int 1), (0, .ref 61), (1, .int u1), (2, .int u2)]) fun x9 => ?_
            refine o_goto (pc := 94) (tgt := 44) dX7_isSeen_94 rfl <| ?_
            refine o_sub [2, 3, 4, 1, 0] (ls' := [(0, .ref 61), (1, .int u1), (2, .int u2), (3, .int 1), (4, .int x9)]) rfl ?_
            exact ih0 r6.2 1 x9
          · refine o_iconst (pc := 89) dX7_isSeen_89 lc_0 <| o_istore_n (pc := 90) (ls' := [(3, .int 0), (0, .ref 61), (1, .int u1), (2, .int u2), (4, .int v4)]) dX7_isSeen_90 rfl (Nat.le_of_ble_eq_true rfl) rfl <| o_iinc (pc := 91) 4 (v := v4 + 1) (ls' := [(4, .int (v4 + 1)), (3, .int 0), (0, .ref 61), (1, .int u1), (2, .int u2)]) dX7_isSeen_91 rfl rfl (Nat.le_of_ble_eq_true rfl) rfl <| ?_
            refine o_ltL (ls := fun x10 => [(4, .int x10), (3, .int 0), (0, .ref 61), (1, .int u1), (2, .int u2)]) fun x10 => ?_
            refine o_goto (pc := 94) (tgt := 44) dX7_isSeen_94 rfl <| ?_
            refine o_sub [2, 3, 4, 1, 0] (ls' := [(0, .ref 61), (1, .int u1), (2, .int u2), (3, .int 0), (4, .int x10)]) rfl ?_
            exact ih0 r6.2 0 x10
        · refine o_iconst (pc := 89) dX7_isSeen_89 lc_0 <| o_istore_n (pc := 90) (ls' := [(3, .int 0), (0, .ref 61), (1, .int u1), (2, .int u2), (4, .int v4)]) dX7_isSeen_90 rfl (Nat.le_of_ble_eq_true rfl) rfl <| o_iinc (pc := 91) 4 (v := v4 + 1) (ls' := [(4, .int (v4 + 1)), (3, .int 0), (0, .ref 61), (1, .int u1), (2, .int u2)]) dX7_isSeen_91 rfl rfl (Nat.le_of_ble_eq_true rfl) rfl <| ?_
          refine o_ltL (ls := fun x11 => [(4, .int x11), (3, .int 0), (0, .ref 61), (1, .int u1), (2, .int u2)]) fun x11 => ?_
          refine o_goto (pc := 94) (tgt := 44) dX7_isSeen_94 rfl <| ?_
          refine o_sub [2, 3, 4, 1, 0] (ls' := [(0, .ref 61), (1, .int u1), (2, .int u2), (3, .int 0), (4, .int x11)]) rfl ?_
          exact ih0 r3.2 0 x11
def fM_isSeen (m : MI) (a : Int32) : Option (Int32 × MI) :=
  (fM_save m).bind fun r1 =>
  (fM_layFist r1).bind fun r2 =>
  lt ((r2.1 61 2) + (r2.1 61 3)) fun x3 =>
  lm (mI r2 61 (upd (r2.1 61) 2 a)) fun m4 =>
  if a ≤ x3 then
    lm (mI m4 61 (upd (m4.1 61) 3 (x3 - a))) fun m6 =>
    fM_isSeen_l44 a x3
      (fun m9 z7 z8 =>
        (fM_putBack m9).bind fun r10 =>
        if zb z7 = true then some (z7, r10) else none
        )
      1000 m6 1 0
  else
    lm (mI m4 61 (upd (m4.1 61) 3 0)) fun m12 =>
    fM_isSeen_l44 a x3
      (fun m15 z13 z14 =>
        (fM_putBack m15).bind fun r16 =>
        if zb z13 = true then some (z13, r16) else none
        )
      1000 m12 1 0
theorem sM_isSeen {sh : Sh} {R : RR} (hF : Fx sh R) (m : MI) (a : Int32) : KS (eI sh R) false 7 0 0 YX7_isSeen sh R m [.ref 61, .int a] (fM_isSeen m a) := by
  refine KS_of pn_X7 (fun _ => Nat.le_of_ble_eq_true rfl) ?_
  change S _ _ _ _ _ _ _ _ _ _ [(0, .ref 61), (1, .int a)] [] _
  unfold fM_isSeen
  refine o_aload_n (pc := 0) 0 dX7_isSeen_0 rfl rfl <| ?_
  refine o_callVV (Y2 := YX7_save) (pc := 1) (av := []) (rest := []) dX7_isSeen_1 k_1340 cm_X7_save (sM_save hF m ) (hF.1 _ _ rfl) rfl rfl (Nat.le_of_ble_eq_true rfl) (Nat.le_of_ble_eq_true rfl) fun r1 => ?_
  refine o_aload_n (pc := 4) 0 dX7_isSeen_4 rfl rfl <| ?_
  refine o_callVV (Y2 := YX7_layFist) (pc := 5) (av := []) (rest := []) dX7_isSeen_5 k_859 cm_X7_layFist (sM_layFist hF r1 ) (hF.1 _ _ rfl) rfl rfl (Nat.le_of_ble_eq_true rfl) (Nat.le_of_ble_eq_true rfl) fun r2 => ?_
  refine o_aload_n (pc := 8) 0 dX7_isSeen_8 rfl rfl <| o_getI (pc := 9) (ci := 7) (j := 2) (nn := 0) dX7_isSeen_9 (hF.1 _ _ rfl) rfl (Nat.le_of_ble_eq_true rfl) k_885 rfl <| o_aload_n (pc := 12) 0 dX7_isSeen_12 rfl rfl <| o_getI (pc := 13) (ci := 7) (j := 3) (nn := 0) dX7_isSeen_13 (hF.1 _ _ rfl) rfl (Nat.le_of_ble_eq_true rfl) k_886 rfl <| o_iadd (pc := 16) dX7_isSeen_16 <| ?_
  refine o_lt fun x3 => ?_
  refine o_istore_n (pc := 17) (ls' := [(2, .int x3), (0, .ref 61), (1, .int a)]) dX7_isSeen_17 rfl (Nat.le_of_ble_eq_true rfl) rfl <| o_aload_n (pc := 18) 1 dX7_isSeen_18 rfl rfl <| o_iload_n (pc := 19) 2 dX7_isSeen_19 rfl rfl <| o_putI (pc := 20) (ci := 7) (j := 2) (nn := 0) dX7_isSeen_20 (hF.1 _ _ rfl) rfl (Nat.le_of_ble_eq_true rfl) k_885 rfl rfl rfl rfl rfl <| ?_
  refine o_lm fun m4 => ?_
  refine o_aload_n (pc := 23) 1 dX7_isSeen_23 rfl rfl <| o_iload_n (pc := 24) 0 dX7_isSeen_24 rfl rfl <| o_iload_n (pc := 25) 2 dX7_isSeen_25 rfl rfl <| ?_
  refine o_icmp_ge (pc := 26) (tgt := 33) dX7_isSeen_26 rfl (fun h5 => ?_) (fun h5 => ?_)
  · refine o_iload_n (pc := 33) 0 dX7_isSeen_33 rfl rfl <| o_iload_n (pc := 34) 2 dX7_isSeen_34 rfl rfl <| o_isub (pc := 35) dX7_isSeen_35 <| o_putI (pc := 36) (ci := 7) (j := 3) (nn := 0) dX7_isSeen_36 (hF.1 _ _ rfl) rfl (Nat.le_of_ble_eq_true rfl) k_886 rfl rfl rfl rfl rfl <| ?_
    refine o_lm fun m6 => ?_
    refine o_iconst (pc := 39) dX7_isSeen_39 lc_1 <| o_istore_n (pc := 40) (ls' := [(3, .int 1), (2, .int x3), (0, .ref 61), (1, .int a)]) dX7_isSeen_40 rfl (Nat.le_of_ble_eq_true rfl) rfl <| o_iconst (pc := 41) dX7_isSeen_41 lc_0 <| o_istore (pc := 42) (ls' := [(4, .int 0), (3, .int 1), (2, .int x3), (0, .ref 61), (1, .int a)]) dX7_isSeen_42 (Nat.le_of_ble_eq_true rfl) rfl <| ?_
    refine o_sub [3, 4, 2, 1, 0] (ls' := [(0, .ref 61), (1, .int a), (2, .int x3), (3, .int 1), (4, .int 0)]) rfl ?_
    refine sM_isSeen_l44 hF a x3 _ ?_ 1000 m6 1 0
    · intro m9 z7 z8
      refine o_aload_n (pc := 97) 0 dX7_isSeen_97 rfl rfl <| ?_
      refine o_callVV (Y2 := YX7_putBack) (pc := 98) (av := []) (rest := []) dX7_isSeen_98 k_1344 cm_X7_putBack (sM_putBack hF m9 ) (hF.1 _ _ rfl) rfl rfl (Nat.le_of_ble_eq_true rfl) (Nat.le_of_ble_eq_true rfl) fun r10 => ?_
      refine o_iload_n (pc := 101) 3 dX7_isSeen_101 rfl rfl <| ?_
      refine S_ck fun h11 => ?_
      exact o_zret (pc := 102) dX7_isSeen_102 rfl (zb_ok h11) rfl
  · refine o_iconst (pc := 29) dX7_isSeen_29 lc_0 <| o_goto (pc := 30) (tgt := 36) dX7_isSeen_30 rfl <| o_putI (pc := 36) (ci := 7) (j := 3) (nn := 0) dX7_isSeen_36 (hF.1 _ _ rfl) rfl (Nat.le_of_ble_eq_true rfl) k_886 rfl rfl rfl rfl rfl <| ?_
    refine o_lm fun m12 => ?_
    refine o_iconst (pc := 39) dX7_isSeen_39 lc_1 <| o_istore_n (pc := 40) (ls' := [(3, .int 1), (2, .int x3), (0, .ref 61), (1, .int a)]) dX7_isSeen_40 rfl (Nat.le_of_ble_eq_true rfl) rfl <| o_iconst (pc := 41) dX7_isSeen_41 lc_0 <| o_istore (pc := 42) (ls' := [(4, .int 0), (3, .int 1), (2, .int x3), (0, .ref 61), (1, .int a)]) dX7_isSeen_42 (Nat.le_of_ble_eq_true rfl) rfl <| ?_
    refine o_sub [3, 4, 2, 1, 0] (ls' := [(0, .ref 61), (1, .int a), (2, .int x3), (3, .int 1), (4, .int 0)]) rfl ?_
    refine sM_isSeen_l44 hF a x3 _ ?_ 1000 m12 1 0
    · intro m15 z13 z14
      refine o_aload_n (pc := 97) 0 dX7_isSeen_97 rfl rfl <| ?_
      refine o_callVV (Y2 := YX7_putBack) (pc := 98) (av := []) (rest := []) dX7_isSeen_98 k_1344 cm_X7_putBack (sM_putBack hF m15 ) (hF.1 _ _ rfl) rfl rfl (Nat.le_of_ble_eq_true rfl) (Nat.le_of_ble_eq_true rfl) fun r16 => ?_
      refine o_iload_n (pc := 101) 3 dX7_isSeen_101 rfl rfl <| ?_
      refine S_ck fun h17 => ?_
      exact o_zret (pc := 102) dX7_isSeen_102 rfl (zb_ok h17) rfl
def fM_fits_l4 (k0_0 : MI → Int32 → Int32 → Option (Int32 × MI)) : Nat → MI → Int32 → Int32 → Option (Int32 × MI)
  | 0, _, _, _ => none
  | n0 + 1, m, v1, v2 =>
    if 4 ≤ v2 then
      k0_0 m v1 v2
    else
      (fM_isSeen m v2).bind fun r2 =>
      if r2.1 = 0 then
        lt (v1 ||| (0 : Int32)) fun x4 =>
        lt (v2 + 1) fun x5 =>
        fM_fits_l4 k0_0 n0 r2.2 x4 x5
      else
        lt (v1 ||| ((1 : Int32) <<< (v2 &&& 31))) fun x6 =>
        lt (v2 + 1) fun x7 =>
        fM_fits_l4 k0_0 n0 r2.2 x6 x7
theorem sM_fits_l4 {sh : Sh} {R : RR} (hF : Fx sh R) (k0_0 : MI → Int32 → Int32 → Option (Int32 × MI)) (hk0_0 : ∀ (m : MI) (v1 : Int32) (v2 : Int32) , S (eI sh R) false 8 0 0 YX7_fits sh R m 33 [(0, .ref 61), (1, .int v1), (2, .int v2)] [] (k0_0 m v1 v2)) : ∀ (n : Nat) (m : MI) (v1 : Int32) (v2 : Int32) , S (eI sh R) false 8 0 0 YX7_fits sh R m 4 [(0, .ref 61), (1, .int v1), (2, .int v2)] [] (fM_fits_l4 k0_0 n m v1 v2) := by
  intro n
  induction n with
  | zero => intros; exact S_none
  | succ n0 ih0 =>
    intro m v1 v2
    rw [fM_fits_l4]
    refine o_iload_n (pc := 4) 2 dX7_fits_4 rfl rfl <| o_iconst (pc := 5) dX7_fits_5 lc_4 <| ?_
    refine o_icmp_ge (pc := 6) (tgt := 33) dX7_fits_6 rfl (fun h1 => ?_) (fun h1 => ?_)
    · exact hk0_0 m v1 v2
    · refine o_iload_n (pc := 9) 1 dX7_fits_9 rfl rfl <| o_aload_n (pc := 10) 0 dX7_fits_10 rfl rfl <| o_iload_n (pc := 11) 2 dX7_fits_11 rfl rfl <| ?_
      refine o_callVI (Y2 := YX7_isSeen) (pc := 12) (av := [.int v2]) (rest := [.int v1]) dX7_fits_12 k_1336 cm_X7_isSeen (sM_isSeen hF m v2) (hF.1 _ _ rfl) rfl rfl (Nat.le_of_ble_eq_true rfl) (Nat.le_of_ble_eq_true rfl) fun r2 => ?_
      refine o_if_eq (pc := 15) (tgt := 24) dX7_fits_15 rfl (fun h3 => ?_) (fun h3 => ?_)
      · refine o_iconst (pc := 24) dX7_fits_24 lc_0 <| o_ior (pc := 25) dX7_fits_25 <| ?_
        refine o_lt fun x4 => ?_
        refine o_istore_n (pc := 26) (ls' := [(1, .int x4), (0, .ref 61), (2, .int v2)]) dX7_fits_26 rfl (Nat.le_of_ble_eq_true rfl) rfl <| o_iinc (pc := 27) 2 (v := v2 + 1) (ls' := [(2, .int (v2 + 1)), (1, .int x4), (0, .ref 61)]) dX7_fits_27 rfl rfl (Nat.le_of_ble_eq_true rfl) rfl <| ?_
        refine o_ltL (ls := fun x5 => [(2, .int x5), (1, .int x4), (0, .ref 61)]) fun x5 => ?_
        refine o_goto (pc := 30) (tgt := 4) dX7_fits_30 rfl <| ?_
        refine o_sub [2, 1, 0] (ls' := [(0, .ref 61), (1, .int x4), (2, .int x5)]) rfl ?_
        exact ih0 r2.2 x4 x5
      · refine o_iconst (pc := 18) dX7_fits_18 lc_1 <| o_iload_n (pc := 19) 2 dX7_fits_19 rfl rfl <| o_ishl (pc := 20) dX7_fits_20 <| o_goto (pc := 21) (tgt := 25) dX7_fits_21 rfl <| o_ior (pc := 25) dX7_fits_25 <| ?_
        refine o_lt fun x6 => ?_
        refine o_istore_n (pc := 26) (ls' := [(1, .int x6), (0, .ref 61), (2, .int v2)]) dX7_fits_26 rfl (Nat.le_of_ble_eq_true rfl) rfl <| o_iinc (pc := 27) 2 (v := v2 + 1) (ls' := [(2, .int (v2 + 1)), (1, .int x6), (0, .ref 61)]) dX7_fits_27 rfl rfl (Nat.le_of_ble_eq_true rfl) rfl <| ?_
        refine o_ltL (ls := fun x7 => [(2, .int x7), (1, .int x6), (0, .ref 61)]) fun x7 => ?_
        refine o_goto (pc := 30) (tgt := 4) dX7_fits_30 rfl <| ?_
        refine o_sub [2, 1, 0] (ls' := [(0, .ref 61), (1, .int x6), (2, .int x7)]) rfl ?_
        exact ih0 r2.2 x6 x7
def fM_fits (m : MI) : Option (Int32 × MI) :=
  fM_fits_l4 
    (fun m3 z1 z2 =>
      some (z1, m3)
      )
    1000 m 0 1
theorem sM_fits {sh : Sh} {R : RR} (hF : Fx sh R) (m : MI) : KS (eI sh R) false 8 0 0 YX7_fits sh R m [.ref 61] (fM_fits m ) := by
  refine KS_of pn_X7 (fun _ => Nat.le_of_ble_eq_true rfl) ?_
  change S _ _ _ _ _ _ _ _ _ _ [(0, .ref 61)] [] _
  unfold fM_fits
  refine o_iconst (pc := 0) dX7_fits_0 lc_0 <| o_istore_n (pc := 1) (ls' := [(1, .int 0), (0, .ref 61)]) dX7_fits_1 rfl (Nat.le_of_ble_eq_true rfl) rfl <| o_iconst (pc := 2) dX7_fits_2 lc_1 <| o_istore_n (pc := 3) (ls' := [(2, .int 1), (1, .int 0), (0, .ref 61)]) dX7_fits_3 rfl (Nat.le_of_ble_eq_true rfl) rfl <| ?_
  refine o_sub [2, 1, 0] (ls' := [(0, .ref 61), (1, .int 0), (2, .int 1)]) rfl ?_
  refine sM_fits_l4 hF  _ ?_ 1000 m 0 1
  · intro m3 z1 z2
    refine o_iload_n (pc := 33) 1 dX7_fits_33 rfl rfl <| ?_
    exact o_iret (pc := 34) dX7_fits_34 rfl rfl
def fM_odds (m : MI) (a : Int32) (b : Int32) : Option (Int64 × MI) :=
  (fM_isDrawer m a).bind fun r1 =>
  if r1.1 = 0 then
    some (-9223372036854775808, r1.2)
  else
    (fM_in r1.2 b 0 1).bind fun r3 =>
    if r3.1 = 0 then
      some (-9223372036854775808, r3.2)
    else
      (fM_layLikely r3.2).bind fun r5 =>
      if ck a 6 = true then
        (fM_lowest r5 ((r5.1 77 a.toNatClampNeg).toInt64) 1000000 b).bind fun r7 =>
        some (r7.1, r7.2)
      else none
theorem sM_odds {sh : Sh} {R : RR} (hF : Fx sh R) (m : MI) (a : Int32) (b : Int32) : KS (eL sh R) false 7 0 0 YX7_odds sh R m [.ref 61, .int a, .int b] (fM_odds m a b) := by
  refine KS_of pn_X7 (fun _ => Nat.le_of_ble_eq_true rfl) ?_
  change S _ _ _ _ _ _ _ _ _ _ [(0, .ref 61), (1, .int a), (2, .int b)] [] _
  unfold fM_odds
  refine o_aload_n (pc := 0) 0 dX7_odds_0 rfl rfl <| o_iload_n (pc := 1) 1 dX7_odds_1 rfl rfl <| ?_
  refine o_callVI (Y2 := YX7_isDrawer) (pc := 2) (av := [.int a]) (rest := []) dX7_odds_2 k_1104 cm_X7_isDrawer (sM_isDrawer hF m a) (hF.1 _ _ rfl) rfl rfl (Nat.le_of_ble_eq_true rfl) (Nat.le_of_ble_eq_true rfl) fun r1 => ?_
  refine o_if_eq (pc := 5) (tgt := 18) dX7_odds_5 rfl (fun h2 => ?_) (fun h2 => ?_)
  · refine o_ldc2 (pc := 18) dX7_odds_18 k_1301 <| ?_
    exact o_lret (pc := 21) dX7_odds_21 rfl rfl
  · refine o_aload_n (pc := 8) 0 dX7_odds_8 rfl rfl <| o_iload_n (pc := 9) 2 dX7_odds_9 rfl rfl <| o_iconst (pc := 10) dX7_odds_10 lc_0 <| o_iconst (pc := 11) dX7_odds_11 lc_1 <| ?_
    refine o_callVI (Y2 := YX7_in) (pc := 12) (av := [.int b, .int 0, .int 1]) (rest := []) dX7_odds_12 k_1096 cm_X7_in (sM_in hF r1.2 b 0 1) (hF.1 _ _ rfl) rfl rfl (Nat.le_of_ble_eq_true rfl) (Nat.le_of_ble_eq_true rfl) fun r3 => ?_
    refine o_if_ne (pc := 15) (tgt := 22) dX7_odds_15 rfl (fun h4 => ?_) (fun h4 => ?_)
    · refine o_ldc2 (pc := 18) dX7_odds_18 k_1301 <| ?_
      exact o_lret (pc := 21) dX7_odds_21 rfl rfl
    · refine o_aload_n (pc := 22) 0 dX7_odds_22 rfl rfl <| ?_
      refine o_callVV (Y2 := YX7_layLikely) (pc := 23) (av := []) (rest := []) dX7_odds_23 k_1252 cm_X7_layLikely (sM_layLikely hF r3.2 ) (hF.1 _ _ rfl) rfl rfl (Nat.le_of_ble_eq_true rfl) (Nat.le_of_ble_eq_true rfl) fun r5 => ?_
      refine o_aload_n (pc := 26) 0 dX7_odds_26 rfl rfl <| o_aload_n (pc := 27) 0 dX7_odds_27 rfl rfl <| o_getRc (pc := 28) (a := 77) (ci := 7) (j := 31) (nn := 0) dX7_odds_28 (hF.1 _ _ rfl) rfl (Nat.le_of_ble_eq_true rfl) k_914 rfl (hF.2 _ _ _ rfl) <| o_iload_n (pc := 31) 1 dX7_odds_31 rfl rfl <| ?_
      refine S_ck fun h6 => ?_
      refine o_iald (pc := 32) (nn := 6) dX7_odds_32 (hF.1 _ _ rfl) (ck_in h6) <| o_i2l (pc := 33) dX7_odds_33 <| o_ldc2 (pc := 34) dX7_odds_34 k_1225 <| o_iload_n (pc := 37) 2 dX7_odds_37 rfl rfl <| ?_
      refine o_callVL (Y2 := YX7_lowest) (pc := 38) (av := [.long ((r5.1 77 a.toNatClampNeg).toInt64), .long 1000000, .int b]) (rest := []) dX7_odds_38 k_1303 cm_X7_lowest (sM_lowest hF r5 ((r5.1 77 a.toNatClampNeg).toInt64) 1000000 b) (hF.1 _ _ rfl) rfl rfl (Nat.le_of_ble_eq_true rfl) (Nat.le_of_ble_eq_true rfl) fun r7 => ?_
      exact o_lret (pc := 41) dX7_odds_41 rfl rfl
