def fC_row (sh : Sh) (R : RR) (m : MI) (a : Int32) (b : Int32) (c : Int32) : Option (Int32 × MI) :=
  (fW_has m a).bind fun r1 =>
  if r1.1 = 0 then
    some (-1, r1.2)
  else
    if b < 0 then
      some (-1, r1.2)
    else
      if b < 4 then
        if c < 0 then
          some (-2, r1.2)
        else
          if c ≤ 9 then
            if ck a 6 = true then
              if r1.2.1 2 a.toNatClampNeg = 6 then
                if ck a 6 = true then
                  mq (R 11 a.toNatClampNeg) fun q11 =>
                  if kA sh q11 0 = true then
                    if ck b (lenA sh q11) = true then
                      lt (r1.2.1 q11 b.toNatClampNeg) fun x14 =>
                      if ck a 6 = true then
                        mq (R 11 a.toNatClampNeg) fun q17 =>
                        if kA sh q17 0 = true then
                          if ck b (lenA sh q17) = true then
                            lm (mI r1.2 q17 (upd (r1.2.1 q17) b.toNatClampNeg c)) fun m20 =>
                            some (x14, m20)
                          else none
                        else none
                      else none
                    else none
                  else none
                else none
              else
                some (-3, r1.2)
            else none
          else
            some (-2, r1.2)
      else
        some (-1, r1.2)
theorem sC_row {sh : Sh} {R : RR} (hF : Fx sh R) (m : MI) (a : Int32) (b : Int32) (c : Int32) : KS (eI sh R) false 1 0 0 YX6_row sh R m [.ref 0, .int a, .int b, .int c] (fC_row sh R m a b c) := by
  refine KS_of pn_X6 (fun _ => Nat.le_of_ble_eq_true rfl) ?_
  change S _ _ _ _ _ _ _ _ _ _ [(0, .ref 0), (1, .int a), (2, .int b), (3, .int c)] [] _
  unfold fC_row
  refine o_aload_n (pc := 0) 0 dX6_row_0 rfl rfl <| o_getRc (pc := 1) (a := 1) (ci := 6) (j := 0) (nn := 0) dX6_row_1 (hF.1 _ _ rfl) rfl (Nat.le_of_ble_eq_true rfl) k_292 rfl (hF.2 _ _ _ rfl) <| o_iload_n (pc := 4) 1 dX6_row_4 rfl rfl <| ?_
  refine o_callVI (Y2 := YX5_has) (pc := 5) (av := [.int a]) (rest := []) dX6_row_5 k_353 cm_X5_has (sW_has hF m a) (hF.1 _ _ rfl) rfl rfl (Nat.le_of_ble_eq_true rfl) (Nat.le_of_ble_eq_true rfl) fun r1 => ?_
  refine o_if_eq (pc := 8) (tgt := 20) dX6_row_8 rfl (fun h2 => ?_) (fun h2 => ?_)
  · refine o_iconst (pc := 20) dX6_row_20 lc_m1 <| ?_
    exact o_iret (pc := 21) dX6_row_21 rfl rfl
  · refine o_iload_n (pc := 11) 2 dX6_row_11 rfl rfl <| ?_
    refine o_if_lt (pc := 12) (tgt := 20) dX6_row_12 rfl (fun h3 => ?_) (fun h3 => ?_)
    · refine o_iconst (pc := 20) dX6_row_20 lc_m1 <| ?_
      exact o_iret (pc := 21) dX6_row_21 rfl rfl
    · refine o_iload_n (pc := 15) 2 dX6_row_15 rfl rfl <| o_iconst (pc := 16) dX6_row_16 lc_4 <| ?_
      refine o_icmp_lt (pc := 17) (tgt := 22) dX6_row_17 rfl (fun h4 => ?_) (fun h4 => ?_)
      · refine o_iload_n (pc := 22) 3 dX6_row_22 rfl rfl <| ?_
        refine o_if_lt (pc := 23) (tgt := 32) dX6_row_23 rfl (fun h5 => ?_) (fun h5 => ?_)
        · refine o_bipush (pc := 32) dX6_row_32 lb_m2 <| ?_
          exact o_iret (pc := 34) dX6_row_34 rfl rfl
        · refine o_iload_n (pc := 26) 3 dX6_row_26 rfl rfl <| o_bipush (pc := 27) dX6_row_27 lb_9 <| ?_
          refine o_icmp_le (pc := 29) (tgt := 35) dX6_row_29 rfl (fun h6 => ?_) (fun h6 => ?_)
          · refine o_aload_n (pc := 35) 0 dX6_row_35 rfl rfl <| o_getRc (pc := 36) (a := 1) (ci := 6) (j := 0) (nn := 0) dX6_row_36 (hF.1 _ _ rfl) rfl (Nat.le_of_ble_eq_true rfl) k_292 rfl (hF.2 _ _ _ rfl) <| o_getRc (pc := 39) (a := 2) (ci := 5) (j := 1) (nn := 0) dX6_row_39 (hF.1 _ _ rfl) rfl (Nat.le_of_ble_eq_true rfl) k_127 rfl (hF.2 _ _ _ rfl) <| o_iload_n (pc := 42) 1 dX6_row_42 rfl rfl <| ?_
            refine S_ck fun h7 => ?_
            refine o_iald (pc := 43) (nn := 6) dX6_row_43 (hF.1 _ _ rfl) (ck_in h7) <| o_bipush (pc := 44) dX6_row_44 lb_6 <| ?_
            refine o_icmp_eq (pc := 46) (tgt := 52) dX6_row_46 rfl (fun h8 => ?_) (fun h8 => ?_)
            · refine o_aload_n (pc := 52) 0 dX6_row_52 rfl rfl <| o_getRc (pc := 53) (a := 1) (ci := 6) (j := 0) (nn := 0) dX6_row_53 (hF.1 _ _ rfl) rfl (Nat.le_of_ble_eq_true rfl) k_292 rfl (hF.2 _ _ _ rfl) <| o_getRc (pc := 56) (a := 11) (ci := 5) (j := 4) (nn := 0) dX6_row_56 (hF.1 _ _ rfl) rfl (Nat.le_of_ble_eq_true rfl) k_133 rfl (hF.2 _ _ _ rfl) <| o_iload_n (pc := 59) 1 dX6_row_59 rfl rfl <| ?_
              refine S_ck fun h9 => ?_
              refine S_mq fun q11 h10 => ?_
              refine o_aaldI (pc := 60) (r := some q11) (nn := 6) dX6_row_60 (hF.1 _ _ rfl) (ck_in h9) h10 <| o_iload_n (pc := 61) 2 dX6_row_61 rfl rfl <| ?_
              refine S_ck fun h12 => ?_
              refine S_ck fun h13 => ?_
              refine o_iald (pc := 62) (nn := lenA sh q11) dX6_row_62 (kA_ok h12) (ck_in h13) <| ?_
              refine o_lt fun x14 => ?_
              refine o_istore (pc := 63) (ls' := [(4, .int x14), (0, .ref 0), (1, .int a), (2, .int b), (3, .int c)]) dX6_row_63 (Nat.le_of_ble_eq_true rfl) rfl <| o_aload_n (pc := 65) 1 dX6_row_65 rfl rfl <| o_getRc (pc := 66) (a := 1) (ci := 6) (j := 0) (nn := 0) dX6_row_66 (hF.1 _ _ rfl) rfl (Nat.le_of_ble_eq_true rfl) k_292 rfl (hF.2 _ _ _ rfl) <| o_getRc (pc := 69) (a := 11) (ci := 5) (j := 4) (nn := 0) dX6_row_69 (hF.1 _ _ rfl) rfl (Nat.le_of_ble_eq_true rfl) k_133 rfl (hF.2 _ _ _ rfl) <| o_iload_n (pc := 72) 2 dX6_row_72 rfl rfl <| ?_
              refine S_ck fun h15 => ?_
              refine S_mq fun q17 h16 => ?_
              refine o_aaldI (pc := 73) (r := some q17) (nn := 6) dX6_row_73 (hF.1 _ _ rfl) (ck_in h15) h16 <| o_iload_n (pc := 74) 3 dX6_row_74 rfl rfl <| o_iload_n (pc := 75) 4 dX6_row_75 rfl rfl <| ?_
              refine S_ck fun h18 => ?_
              refine S_ck fun h19 => ?_
              refine o_iast (pc := 76) (nn := lenA sh q17) dX6_row_76 (kA_ok h18) (ck_in h19) <| ?_
              refine o_lm fun m20 => ?_
              refine o_iload (pc := 77) 0 dX6_row_77 rfl <| ?_
              exact o_iret (pc := 79) dX6_row_79 rfl rfl
            · refine o_bipush (pc := 49) dX6_row_49 lb_m3 <| ?_
              exact o_iret (pc := 51) dX6_row_51 rfl rfl
          · refine o_bipush (pc := 32) dX6_row_32 lb_m2 <| ?_
            exact o_iret (pc := 34) dX6_row_34 rfl rfl
      · refine o_iconst (pc := 20) dX6_row_20 lc_m1 <| ?_
        exact o_iret (pc := 21) dX6_row_21 rfl rfl
def fW_orderWith_41_l6 (u1 : Int32) (u2 : Int32) (k0_0 : MI → Int32 → Int32 → Option (MI)) : Nat → MI → Int32 → Int32 → Option (MI)
  | 0, _, _, _ => none
  | n0 + 1, m, v4, v5 =>
    if m.1 1 0 ≤ v5 then
      k0_0 m v4 v5
    else
      if v5 = u2 then
        if ck v5 6 = true then
          lm (mI m 41 (upd (m.1 41) v5.toNatClampNeg u1)) fun m4 =>
          lt (v5 + 1) fun x5 =>
          fW_orderWith_41_l6 u1 u2 k0_0 n0 m4 v4 x5
        else none
      else
        if m.1 1 0 ≤ v4 then
          if m.1 1 0 ≤ v4 then
            lt (v5 + 1) fun x8 =>
            fW_orderWith_41_l6 u1 u2 k0_0 n0 m v4 x8
          else
            if ck v4 6 = true then
              if ck v5 6 = true then
                lm (mI m 41 (upd (m.1 41) v5.toNatClampNeg (m.1 12 v4.toNatClampNeg))) fun m11 =>
                lt (v4 + 1) fun x12 =>
                lt (v5 + 1) fun x13 =>
                fW_orderWith_41_l6 u1 u2 k0_0 n0 m11 x12 x13
              else none
            else none
        else
          if ck v4 6 = true then
            if m.1 12 v4.toNatClampNeg = u1 then
              lt (v4 + 1) fun x16 =>
              if m.1 1 0 ≤ x16 then
                lt (v5 + 1) fun x18 =>
                fW_orderWith_41_l6 u1 u2 k0_0 n0 m x16 x18
              else
                if ck x16 6 = true then
                  if ck v5 6 = true then
                    lm (mI m 41 (upd (m.1 41) v5.toNatClampNeg (m.1 12 x16.toNatClampNeg))) fun m21 =>
                    lt (x16 + 1) fun x22 =>
                    lt (v5 + 1) fun x23 =>
                    fW_orderWith_41_l6 u1 u2 k0_0 n0 m21 x22 x23
                  else none
                else none
            else
              if m.1 1 0 ≤ v4 then
                lt (v5 + 1) fun x25 =>
                fW_orderWith_41_l6 u1 u2 k0_0 n0 m v4 x25
              else
                if ck v4 6 = true then
                  if ck v5 6 = true then
                    lm (mI m 41 (upd (m.1 41) v5.toNatClampNeg (m.1 12 v4.toNatClampNeg))) fun m28 =>
                    lt (v4 + 1) fun x29 =>
                    lt (v5 + 1) fun x30 =>
                    fW_orderWith_41_l6 u1 u2 k0_0 n0 m28 x29 x30
                  else none
                else none
          else none
theorem sW_orderWith_41_l6 {sh : Sh} {R : RR} (hF : Fx sh R) (u1 : Int32) (u2 : Int32) (k0_0 : MI → Int32 → Int32 → Option (MI)) (hk0_0 : ∀ (m : MI) (v4 : Int32) (v5 : Int32) , S (eV sh R) false 0 0 0 YX5_orderWith sh R m 81 [(0, .ref 1), (1, .int u1), (2, .int u2), (3, .ref 41), (4, .int v4), (5, .int v5)] [] (k0_0 m v4 v5)) : ∀ (n : Nat) (m : MI) (v4 : Int32) (v5 : Int32) , S (eV sh R) false 0 0 0 YX5_orderWith sh R m 6 [(0, .ref 1), (1, .int u1), (2, .int u2), (3, .ref 41), (4, .int v4), (5, .int v5)] [] (fW_orderWith_41_l6 u1 u2 k0_0 n m v4 v5) := by
  intro n
  induction n with
  | zero => intros; exact S_none
  | succ n0 ih0 =>
    intro m v4 v5
    rw [fW_orderWith_41_l6]
    refine o_iload (pc := 6) 5 dX5_orderWith_6 rfl <| o_aload_n (pc := 8) 0 dX5_orderWith_8 rfl rfl <| o_getI (pc := 9) (ci := 5) (j := 0) (nn := 0) dX5_orderWith_9 (hF.1 _ _ rfl) rfl (Nat.le_of_ble_eq_true rfl) k_123 rfl <| ?_
    refine o_icmp_ge (pc := 12) (tgt := 81) dX5_orderWith_12 rfl (fun h1 => ?_) (fun h1 => ?_)
    · exact hk0_0 m v4 v5
    · refine o_iload (pc := 15) 5 dX5_orderWith_15 rfl <| o_iload_n (pc := 17) 2 dX5_orderWith_17 rfl rfl <| ?_
      refine o_icmp_ne (pc := 18) (tgt := 29) dX5_orderWith_18 rfl (fun h2 => ?_) (fun h2 => ?_)
      · refine o_aload_n (pc := 21) 3 dX5_orderWith_21 rfl rfl <| o_iload (pc := 22) 5 dX5_orderWith_22 rfl <| o_iload_n (pc := 24) 1 dX5_orderWith_24 rfl rfl <| ?_
        refine S_ck fun h3 => ?_
        refine o_iast (pc := 25) (nn := 6) dX5_orderWith_25 (hF.1 _ _ rfl) (ck_in h3) <| ?_
        refine o_lm fun m4 => ?_
        refine o_goto (pc := 26) (tgt := 75) dX5_orderWith_26 rfl <| o_iinc (pc := 75) 5 (v := v5 + 1) (ls' := [(5, .int (v5 + 1)), (0, .ref 1), (1, .int u1), (2, .int u2), (3, .ref 41), (4, .int v4)]) dX5_orderWith_75 rfl rfl (Nat.le_of_ble_eq_true rfl) rfl <| ?_
        refine o_ltL (ls := fun x5 => [(5, .int x5), (0, .ref 1), (1, .int u1), (2, .int u2), (3, .ref 41), (4, .int v4)]) fun x5 => ?_
        refine o_goto (pc := 78) (tgt := 6) dX5_orderWith_78 rfl <| ?_
        refine o_sub [1, 2, 3, 4, 5, 0] (ls' := [(0, .ref 1), (1, .int u1), (2, .int u2), (3, .ref 41), (4, .int v4), (5, .int x5)]) rfl ?_
        exact ih0 m4 v4 x5
      · refine o_iload (pc := 29) 4 dX5_orderWith_29 rfl <| o_aload_n (pc := 31) 0 dX5_orderWith_31 rfl rfl <| o_getI (pc := 32) (ci := 5) (j := 0) (nn := 0) dX5_orderWith_32 (hF.1 _ _ rfl) rfl (Nat.le_of_ble_eq_true rfl) k_123 rfl <| ?_
        refine o_icmp_ge (pc := 35) (tgt := 52) dX5_orderWith_35 rfl (fun h6 => ?_) (fun h6 => ?_)
        · refine o_iload (pc := 52) 4 dX5_orderWith_52 rfl <| o_aload_n (pc := 54) 0 dX5_orderWith_54 rfl rfl <| o_getI (pc := 55) (ci := 5) (j := 0) (nn := 0) dX5_orderWith_55 (hF.1 _ _ rfl) rfl (Nat.le_of_ble_eq_true rfl) k_123 rfl <| ?_
          refine o_icmp_ge (pc := 58) (tgt := 75) dX5_orderWith_58 rfl (fun h7 => ?_) (fun h7 => ?_)
          · refine o_iinc (pc := 75) 5 (v := v5 + 1) (ls' := [(5, .int (v5 + 1)), (0, .ref 1), (1, .int u1), (2, .int u2), (3, .ref 41), (4, .int v4)]) dX5_orderWith_75 rfl rfl (Nat.le_of_ble_eq_true rfl) rfl <| ?_
            refine o_ltL (ls := fun x8 => [(5, .int x8), (0, .ref 1), (1, .int u1), (2, .int u2), (3, .ref 41), (4, .int v4)]) fun x8 => ?_
            refine o_goto (pc := 78) (tgt := 6) dX5_orderWith_78 rfl <| ?_
            refine o_sub [1, 2, 3, 4, 5, 0] (ls' := [(0, .ref 1), (1, .int u1), (2, .int u2), (3, .ref 41), (4, .int v4), (5, .int x8)]) rfl ?_
            exact ih0 m v4 x8
          · refine o_aload_n (pc := 61) 3 dX5_orderWith_61 rfl rfl <| o_iload (pc := 62) 5 dX5_orderWith_62 rfl <| o_aload_n (pc := 64) 0 dX5_orderWith_64 rfl rfl <| o_getRc (pc := 65) (a := 12) (ci := 5) (j := 5) (nn := 0) dX5_orderWith_65 (hF.1 _ _ rfl) rfl (Nat.le_of_ble_eq_true rfl) k_134 rfl (hF.2 _ _ _ rfl) <| o_iload (pc := 68) 4 dX5_orderWith_68 rfl <| ?_
            refine S_ck fun h9 => ?_
            refine o_iald (pc := 70) (nn := 6) dX5_orderWith_70 (hF.1 _ _ rfl) (ck_in h9) <| ?_
            refine S_ck fun h10 => ?_
            refine o_iast (pc := 71) (nn := 6) dX5_orderWith_71 (hF.1 _ _ rfl) (ck_in h10) <| ?_
            refine o_lm fun m11 => ?_
            refine o_iinc (pc := 72) 4 (v := v4 + 1) (ls' := [(4, .int (v4 + 1)), (0, .ref 1), (1, .int u1), (2, .int u2), (3, .ref 41), (5, .int v5)]) dX5_orderWith_72 rfl rfl (Nat.le_of_ble_eq_true rfl) rfl <| ?_
            refine o_ltL (ls := fun x12 => [(4, .int x12), (0, .ref 1), (1, .int u1), (2, .int u2), (3, .ref 41), (5, .int v5)]) fun x12 => ?_
            refine o_iinc (pc := 75) 5 (v := v5 + 1) (ls' := [(5, .int (v5 + 1)), (4, .int x12), (0, .ref 1), (1, .int u1), (2, .int u2), (3, .ref 41)]) dX5_orderWith_75 rfl rfl (Nat.le_of_ble_eq_true rfl) rfl <| ?_
            refine o_ltL (ls := fun x13 => [(5, .int x13), (4, .int x12), (0, .ref 1), (1, .int u1), (2, .int u2), (3, .ref 41)]) fun x13 => ?_
            refine o_goto (pc := 78) (tgt := 6) dX5_orderWith_78 rfl <| ?_
            refine o_sub [2, 3, 4, 5, 1, 0] (ls' := [(0, .ref 1), (1, .int u1), (2, .int u2), (3, .ref 41), (4, .int x12), (5, .int x13)]) rfl ?_
            exact ih0 m11 x12 x13
        · refine o_aload_n (pc := 38) 0 dX5_orderWith_38 rfl rfl <| o_getRc (pc := 39) (a := 12) (ci := 5) (j := 5) (nn := 0) dX5_orderWith_39 (hF.1 _ _ rfl) rfl (Nat.le_of_ble_eq_true rfl) k_134 rfl (hF.2 _ _ _ rfl) <| o_iload (pc := 42) 4 dX5_orderWith_42 rfl <| ?_
          refine S_ck fun h14 => ?_
          refine o_iald (pc := 44) (nn := 6) dX5_orderWith_44 (hF.1 _ _ rfl) (ck_in h14) <| o_iload_n (pc := 45) 1 dX5_orderWith_45 rfl rfl <| ?_
          refine o_icmp_ne (pc := 46) (tgt := 52) dX5_orderWith_46 rfl (fun h15 => ?_) (fun h15 => ?_)
          · refine o_iinc (pc := 49) 4 (v := v4 + 1) (ls' := [(4, .int (v4 + 1)), (0, .ref 1), (1, .int u1), (2, .int u2), (3, .ref 41), (5, .int v5)]) dX5_orderWith_49 rfl rfl (Nat.le_of_ble_eq_true rfl) rfl <| ?_
            refine o_ltL (ls := fun x16 => [(4, .int x16), (0, .ref 1), (1, .int u1), (2, .int u2), (3, .ref 41), (5, .int v5)]) fun x16 => ?_
            refine o_iload (pc := 52) 0 dX5_orderWith_52 rfl <| o_aload_n (pc := 54) 1 dX5_orderWith_54 rfl rfl <| o_getI (pc := 55) (ci := 5) (j := 0) (nn := 0) dX5_orderWith_55 (hF.1 _ _ rfl) rfl (Nat.le_of_ble_eq_true rfl) k_123 rfl <| ?_
            refine o_icmp_ge (pc := 58) (tgt := 75) dX5_orderWith_58 rfl (fun h17 => ?_) (fun h17 => ?_)
            · refine o_iinc (pc := 75) 5 (v := v5 + 1) (ls' := [(5, .int (v5 + 1)), (4, .int x16), (0, .ref 1), (1, .int u1), (2, .int u2), (3, .ref 41)]) dX5_orderWith_75 rfl rfl (Nat.le_of_ble_eq_true rfl) rfl <| ?_
              refine o_ltL (ls := fun x18 => [(5, .int x18), (4, .int x16), (0, .ref 1), (1, .int u1), (2, .int u2), (3, .ref 41)]) fun x18 => ?_
              refine o_goto (pc := 78) (tgt := 6) dX5_orderWith_78 rfl <| ?_
              refine o_sub [2, 3, 4, 5, 1, 0] (ls' := [(0, .ref 1), (1, .int u1), (2, .int u2), (3, .ref 41), (4, .int x16), (5, .int x18)]) rfl ?_
              exact ih0 m x16 x18
            · refine o_aload_n (pc := 61) 4 dX5_orderWith_61 rfl rfl <| o_iload (pc := 62) 5 dX5_orderWith_62 rfl <| o_aload_n (pc := 64) 1 dX5_orderWith_64 rfl rfl <| o_getRc (pc := 65) (a := 12) (ci := 5) (j := 5) (nn := 0) dX5_orderWith_65 (hF.1 _ _ rfl) rfl (Nat.le_of_ble_eq_true rfl) k_134 rfl (hF.2 _ _ _ rfl) <| o_iload (pc := 68) 0 dX5_orderWith_68 rfl <| ?_
              refine S_ck fun h19 => ?_
              refine o_iald (pc := 70) (nn := 6) dX5_orderWith_70 (hF.1 _ _ rfl) (ck_in h19) <| ?_
              refine S_ck fun h20 => ?_
              refine o_iast (pc := 71) (nn := 6) dX5_orderWith_71 (hF.1 _ _ rfl) (ck_in h20) <| ?_
              refine o_lm fun m21 => ?_
              refine o_iinc (pc := 72) 0 (v := x16 + 1) (ls' := [(4, .int (x16 + 1)), (0, .ref 1), (1, .int u1), (2, .int u2), (3, .ref 41), (5, .int v5)]) dX5_orderWith_72 rfl rfl (Nat.le_of_ble_eq_true rfl) rfl <| ?_
              refine o_ltL (ls := fun x22 => [(4, .int x22), (0, .ref 1), (1, .int u1), (2, .int u2), (3, .ref 41), (5, .int v5)]) fun x22 => ?_
              refine o_iinc (pc := 75) 5 (v := v5 + 1) (ls' := [(5, .int (v5 + 1)), (4, .int x22), (0, .ref 1), (1, .int u1), (2, .int u2), (3, .ref 41)]) dX5_orderWith_75 rfl rfl (Nat.le_of_ble_eq_true rfl) rfl <| ?_
              refine o_ltL (ls := fun x23 => [(5, .int x23), (4, .int x22), (0, .ref 1), (1, .int u1), (2, .int u2), (3, .ref 41)]) fun x23 => ?_
              refine o_goto (pc := 78) (tgt := 6) dX5_orderWith_78 rfl <| ?_
              refine o_sub [2, 3, 4, 5, 1, 0] (ls' := [(0, .ref 1), (1, .int u1), (2, .int u2), (3, .ref 41), (4, .int x22), (5, .int x23)]) rfl ?_
              exact ih0 m21 x22 x23
          · refine o_iload (pc := 52) 4 dX5_orderWith_52 rfl <| o_aload_n (pc := 54) 0 dX5_orderWith_54 rfl rfl <| o_getI (pc := 55) (ci := 5) (j := 0) (nn := 0) dX5_orderWith_55 (hF.1 _ _ rfl) rfl (Nat.le_of_ble_eq_true rfl) k_123 rfl <| ?_
            refine o_icmp_ge (pc := 58) (tgt := 75) dX5_orderWith_58 rfl (fun h24 => ?_) (fun h24 => ?_)
            · refine o_iinc (pc := 75) 5 (v := v5 + 1) (ls' := [(5, .int (v5 + 1)), (0, .ref 1), (1, .int u1), (2, .int u2), (3, .ref 41), (4, .int v4)]) dX5_orderWith_75 rfl rfl (Nat.le_of_ble_eq_true rfl) rfl <| ?_
              refine o_ltL (ls := fun x25 => [(5, .int x25), (0, .ref 1), (1, .int u1), (2, .int u2), (3, .ref 41), (4, .int v4)]) fun x25 => ?_
              refine o_goto (pc := 78) (tgt := 6) dX5_orderWith_78 rfl <| ?_
              refine o_sub [1, 2, 3, 4, 5, 0] (ls' := [(0, .ref 1), (1, .int u1), (2, .int u2), (3, .ref 41), (4, .int v4), (5, .int x25)]) rfl ?_
              exact ih0 m v4 x25
            · refine o_aload_n (pc := 61) 3 dX5_orderWith_61 rfl rfl <| o_iload (pc := 62) 5 dX5_orderWith_62 rfl <| o_aload_n (pc := 64) 0 dX5_orderWith_64 rfl rfl <| o_getRc (pc := 65) (a := 12) (ci := 5) (j := 5) (nn := 0) dX5_orderWith_65 (hF.1 _ _ rfl) rfl (Nat.le_of_ble_eq_true rfl) k_134 rfl (hF.2 _ _ _ rfl) <| o_iload (pc := 68) 4 dX5_orderWith_68 rfl <| ?_
              refine S_ck fun h26 => ?_
              refine o_iald (pc := 70) (nn := 6) dX5_orderWith_70 (hF.1 _ _ rfl) (ck_in h26) <| ?_
              refine S_ck fun h27 => ?_
              refine o_iast (pc := 71) (nn := 6) dX5_orderWith_71 (hF.1 _ _ rfl) (ck_in h27) <| ?_
              refine o_lm fun m28 => ?_
              refine o_iinc (pc := 72) 4 (v := v4 + 1) (ls' := [(4, .int (v4 + 1)), (0, .ref 1), (1, .int u1), (2, .int u2), (3, .ref 41), (5, .int v5)]) dX5_orderWith_72 rfl rfl (Nat.le_of_ble_eq_true rfl) rfl <| ?_
              refine o_ltL (ls := fun x29 => [(4, .int x29), (0, .ref 1), (1, .int u1), (2, .int u2), (3, .ref 41), (5, .int v5)]) fun x29 => ?_
              refine o_iinc (pc := 75) 5 (v := v5 + 1) (ls' := [(5, .int (v5 + 1)), (4, .int x29), (0, .ref 1), (1, .int u1), (2, .int u2), (3, .ref 41)]) dX5_orderWith_75 rfl rfl (Nat.le_of_ble_eq_true rfl) rfl <| ?_
              refine o_ltL (ls := fun x30 => [(5, .int x30), (4, .int x29), (0, .ref 1), (1, .int u1), (2, .int u2), (3, .ref 41)]) fun x30 => ?_
              refine o_goto (pc := 78) (tgt := 6) dX5_orderWith_78 rfl <| ?_
              refine o_sub [2, 3, 4, 5, 1, 0] (ls' := [(0, .ref 1), (1, .int u1), (2, .int u2), (3, .ref 41), (4, .int x29), (5, .int x30)]) rfl ?_
              exact ih0 m28 x29 x30
def fW_orderWith_41 (m : MI) (a : Int32) (b : Int32) : Option (MI) :=
  fW_orderWith_41_l6 a b
    (fun m3 z1 z2 =>
      some m3
      )
    1000 m 0 0
theorem sW_orderWith_41 {sh : Sh} {R : RR} (hF : Fx sh R) (m : MI) (a : Int32) (b : Int32) : KS (eV sh R) false 0 0 0 YX5_orderWith sh R m [.ref 1, .int a, .int b, .ref 41] (fW_orderWith_41 m a b) := by
  refine KS_of pn_X5 (fun _ => Nat.le_of_ble_eq_true rfl) ?_
  change S _ _ _ _ _ _ _ _ _ _ [(0, .ref 1), (1, .int a), (2, .int b), (3, .ref 41)] [] _
  unfold fW_orderWith_41
  refine o_iconst (pc := 0) dX5_orderWith_0 lc_0 <| o_istore (pc := 1) (ls' := [(4, .int 0), (0, .ref 1), (1, .int a), (2, .int b), (3, .ref 41)]) dX5_orderWith_1 (Nat.le_of_ble_eq_true rfl) rfl <| o_iconst (pc := 3) dX5_orderWith_3 lc_0 <| o_istore (pc := 4) (ls' := [(5, .int 0), (4, .int 0), (0, .ref 1), (1, .int a), (2, .int b), (3, .ref 41)]) dX5_orderWith_4 (Nat.le_of_ble_eq_true rfl) rfl <| ?_
  refine o_sub [2, 3, 4, 5, 1, 0] (ls' := [(0, .ref 1), (1, .int a), (2, .int b), (3, .ref 41), (4, .int 0), (5, .int 0)]) rfl ?_
  refine sW_orderWith_41_l6 hF a b _ ?_ 1000 m 0 0
  · intro m3 z1 z2
    exact o_vret (pc := 81) dX5_orderWith_81 rfl rfl
def fC_place (sh : Sh) (R : RR) (m : MI) (a : Int32) (b : Int32) : Option (Int32 × MI) :=
  (fW_has m a).bind fun r1 =>
  if r1.1 = 0 then
    some (-1, r1.2)
  else
    (fW_has r1.2 b).bind fun r3 =>
    if r3.1 = 0 then
      some (-1, r3.2)
    else
      (fW_placeOf r3.2 a).bind fun r5 =>
      (fW_orderWith_41 r5.2 a b).bind fun r6 =>
      if cpk 0 0 (r6.1 1 0) 6 6 = true then
        lm (mI r6 12 (va_cpy (r6.1 41) (r6.1 12) (0 : Int32).toNatClampNeg (0 : Int32).toNatClampNeg (r6.1 1 0).toNatClampNeg)) fun m8 =>
        (fW_makeWhole sh R m8).bind fun r9 =>
        some (r5.1, r9)
      else none
theorem sC_place {sh : Sh} {R : RR} (hF : Fx sh R) (m : MI) (a : Int32) (b : Int32) : KS (eI sh R) false 3 0 0 YX6_place sh R m [.ref 0, .int a, .int b] (fC_place sh R m a b) := by
  refine KS_of pn_X6 (fun _ => Nat.le_of_ble_eq_true rfl) ?_
  change S _ _ _ _ _ _ _ _ _ _ [(0, .ref 0), (1, .int a), (2, .int b)] [] _
  unfold fC_place
  refine o_aload_n (pc := 0) 0 dX6_place_0 rfl rfl <| o_getRc (pc := 1) (a := 1) (ci := 6) (j := 0) (nn := 0) dX6_place_1 (hF.1 _ _ rfl) rfl (Nat.le_of_ble_eq_true rfl) k_292 rfl (hF.2 _ _ _ rfl) <| o_iload_n (pc := 4) 1 dX6_place_4 rfl rfl <| ?_
  refine o_callVI (Y2 := YX5_has) (pc := 5) (av := [.int a]) (rest := []) dX6_place_5 k_353 cm_X5_has (sW_has hF m a) (hF.1 _ _ rfl) rfl rfl (Nat.le_of_ble_eq_true rfl) (Nat.le_of_ble_eq_true rfl) fun r1 => ?_
  refine o_if_eq (pc := 8) (tgt := 22) dX6_place_8 rfl (fun h2 => ?_) (fun h2 => ?_)
  · refine o_iconst (pc := 22) dX6_place_22 lc_m1 <| ?_
    exact o_iret (pc := 23) dX6_place_23 rfl rfl
  · refine o_aload_n (pc := 11) 0 dX6_place_11 rfl rfl <| o_getRc (pc := 12) (a := 1) (ci := 6) (j := 0) (nn := 0) dX6_place_12 (hF.1 _ _ rfl) rfl (Nat.le_of_ble_eq_true rfl) k_292 rfl (hF.2 _ _ _ rfl) <| o_iload_n (pc := 15) 2 dX6_place_15 rfl rfl <| ?_
    refine o_callVI (Y2 := YX5_has) (pc := 16) (av := [.int b]) (rest := []) dX6_place_16 k_353 cm_X5_has (sW_has hF r1.2 b) (hF.1 _ _ rfl) rfl rfl (Nat.le_of_ble_eq_true rfl) (Nat.le_of_ble_eq_true rfl) fun r3 => ?_
    refine o_if_ne (pc := 19) (tgt := 24) dX6_place_19 rfl (fun h4 => ?_) (fun h4 => ?_)
    · refine o_iconst (pc := 22) dX6_place_22 lc_m1 <| ?_
      exact o_iret (pc := 23) dX6_place_23 rfl rfl
    · refine o_aload_n (pc := 24) 0 dX6_place_24 rfl rfl <| o_getRc (pc := 25) (a := 1) (ci := 6) (j := 0) (nn := 0) dX6_place_25 (hF.1 _ _ rfl) rfl (Nat.le_of_ble_eq_true rfl) k_292 rfl (hF.2 _ _ _ rfl) <| o_iload_n (pc := 28) 1 dX6_place_28 rfl rfl <| ?_
      refine o_callVI (Y2 := YX5_placeOf) (pc := 29) (av := [.int a]) (rest := []) dX6_place_29 k_357 cm_X5_placeOf (sW_placeOf hF r3.2 a) (hF.1 _ _ rfl) rfl rfl (Nat.le_of_ble_eq_true rfl) (Nat.le_of_ble_eq_true rfl) fun r5 => ?_
      refine o_istore_n (pc := 32) (ls' := [(3, .int r5.1), (0, .ref 0), (1, .int a), (2, .int b)]) dX6_place_32 rfl (Nat.le_of_ble_eq_true rfl) rfl <| o_aload_n (pc := 33) 1 dX6_place_33 rfl rfl <| o_getRc (pc := 34) (a := 1) (ci := 6) (j := 0) (nn := 0) dX6_place_34 (hF.1 _ _ rfl) rfl (Nat.le_of_ble_eq_true rfl) k_292 rfl (hF.2 _ _ _ rfl) <| o_iload_n (pc := 37) 2 dX6_place_37 rfl rfl <| o_iload_n (pc := 38) 3 dX6_place_38 rfl rfl <| o_aload_n (pc := 39) 1 dX6_place_39 rfl rfl <| o_getRc (pc := 40) (a := 41) (ci := 6) (j := 4) (nn := 0) dX6_place_40 (hF.1 _ _ rfl) rfl (Nat.le_of_ble_eq_true rfl) k_296 rfl (hF.2 _ _ _ rfl) <| ?_
      refine o_callVV (Y2 := YX5_orderWith) (pc := 43) (av := [.int a, .int b, .ref 41]) (rest := []) dX6_place_43 k_389 cm_X5_orderWith (sW_orderWith_41 hF r5.2 a b) (hF.1 _ _ rfl) rfl rfl (Nat.le_of_ble_eq_true rfl) (Nat.le_of_ble_eq_true rfl) fun r6 => ?_
      refine o_aload_n (pc := 46) 1 dX6_place_46 rfl rfl <| o_getRc (pc := 47) (a := 41) (ci := 6) (j := 4) (nn := 0) dX6_place_47 (hF.1 _ _ rfl) rfl (Nat.le_of_ble_eq_true rfl) k_296 rfl (hF.2 _ _ _ rfl) <| o_iconst (pc := 50) dX6_place_50 lc_0 <| o_aload_n (pc := 51) 1 dX6_place_51 rfl rfl <| o_getRc (pc := 52) (a := 1) (ci := 6) (j := 0) (nn := 0) dX6_place_52 (hF.1 _ _ rfl) rfl (Nat.le_of_ble_eq_true rfl) k_292 rfl (hF.2 _ _ _ rfl) <| o_getRc (pc := 55) (a := 12) (ci := 5) (j := 5) (nn := 0) dX6_place_55 (hF.1 _ _ rfl) rfl (Nat.le_of_ble_eq_true rfl) k_135 rfl (hF.2 _ _ _ rfl) <| o_iconst (pc := 58) dX6_place_58 lc_0 <| o_aload_n (pc := 59) 1 dX6_place_59 rfl rfl <| o_getRc (pc := 60) (a := 1) (ci := 6) (j := 0) (nn := 0) dX6_place_60 (hF.1 _ _ rfl) rfl (Nat.le_of_ble_eq_true rfl) k_292 rfl (hF.2 _ _ _ rfl) <| o_getI (pc := 63) (ci := 5) (j := 0) (nn := 0) dX6_place_63 (hF.1 _ _ rfl) rfl (Nat.le_of_ble_eq_true rfl) k_124 rfl <| ?_
      refine S_ck fun h7 => ?_
      refine o_cpi (pc := 66) dX6_place_66 k_393 k_395 k_394 k_82 (hF.1 _ _ rfl) (hF.1 _ _ rfl) h7 (Nat.le_of_ble_eq_true rfl) (Nat.le_of_ble_eq_true rfl) <| ?_
      refine o_lm fun m8 => ?_
      refine o_aload_n (pc := 69) 1 dX6_place_69 rfl rfl <| o_getRc (pc := 70) (a := 1) (ci := 6) (j := 0) (nn := 0) dX6_place_70 (hF.1 _ _ rfl) rfl (Nat.le_of_ble_eq_true rfl) k_292 rfl (hF.2 _ _ _ rfl) <| ?_
      refine o_callVV (Y2 := YX5_makeWhole) (pc := 73) (av := []) (rest := []) dX6_place_73 k_396 cm_X5_makeWhole (sW_makeWhole hF m8 ) (hF.1 _ _ rfl) rfl rfl (Nat.le_of_ble_eq_true rfl) (Nat.le_of_ble_eq_true rfl) fun r9 => ?_
      refine o_iload_n (pc := 76) 0 dX6_place_76 rfl rfl <| ?_
      exact o_iret (pc := 77) dX6_place_77 rfl rfl
def fC_feed (m : MI) (a : Int32) : Option (Int32 × MI) :=
  if a < 0 then
    some (-2, m)
  else
    if a ≤ 127 then
      if m.1 43 0 < 100 then
        (fP_add m a).bind fun r4 =>
        some (r4.1, r4.2)
      else
        some (-4, m)
    else
      some (-2, m)
theorem sC_feed {sh : Sh} {R : RR} (hF : Fx sh R) (m : MI) (a : Int32) : KS (eI sh R) false 1 0 0 YX6_feed sh R m [.ref 0, .int a] (fC_feed m a) := by
  refine KS_of pn_X6 (fun _ => Nat.le_of_ble_eq_true rfl) ?_
  change S _ _ _ _ _ _ _ _ _ _ [(0, .ref 0), (1, .int a)] [] _
  unfold fC_feed
  refine o_iload_n (pc := 0) 1 dX6_feed_0 rfl rfl <| ?_
  refine o_if_lt (pc := 1) (tgt := 10) dX6_feed_1 rfl (fun h1 => ?_) (fun h1 => ?_)
  · refine o_bipush (pc := 10) dX6_feed_10 lb_m2 <| ?_
    exact o_iret (pc := 12) dX6_feed_12 rfl rfl
  · refine o_iload_n (pc := 4) 1 dX6_feed_4 rfl rfl <| o_bipush (pc := 5) dX6_feed_5 lb_127 <| ?_
    refine o_icmp_le (pc := 7) (tgt := 13) dX6_feed_7 rfl (fun h2 => ?_) (fun h2 => ?_)
    · refine o_aload_n (pc := 13) 0 dX6_feed_13 rfl rfl <| o_getRc (pc := 14) (a := 43) (ci := 6) (j := 6) (nn := 0) dX6_feed_14 (hF.1 _ _ rfl) rfl (Nat.le_of_ble_eq_true rfl) k_298 rfl (hF.2 _ _ _ rfl) <| o_getI (pc := 17) (ci := 2) (j := 0) (nn := 0) dX6_feed_17 (hF.1 _ _ rfl) rfl (Nat.le_of_ble_eq_true rfl) k_226 rfl <| o_bipush (pc := 20) dX6_feed_20 lb_100 <| ?_
      refine o_icmp_lt (pc := 22) (tgt := 28) dX6_feed_22 rfl (fun h3 => ?_) (fun h3 => ?_)
      · refine o_aload_n (pc := 28) 0 dX6_feed_28 rfl rfl <| o_getRc (pc := 29) (a := 43) (ci := 6) (j := 6) (nn := 0) dX6_feed_29 (hF.1 _ _ rfl) rfl (Nat.le_of_ble_eq_true rfl) k_298 rfl (hF.2 _ _ _ rfl) <| o_iload_n (pc := 32) 1 dX6_feed_32 rfl rfl <| ?_
        refine o_callVI (Y2 := YX2_add) (pc := 33) (av := [.int a]) (rest := []) dX6_feed_33 k_401 cm_X2_add (sP_add hF m a) (hF.1 _ _ rfl) rfl rfl (Nat.le_of_ble_eq_true rfl) (Nat.le_of_ble_eq_true rfl) fun r4 => ?_
        exact o_iret (pc := 36) dX6_feed_36 rfl rfl
      · refine o_bipush (pc := 25) dX6_feed_25 lb_m4 <| ?_
        exact o_iret (pc := 27) dX6_feed_27 rfl rfl
    · refine o_bipush (pc := 10) dX6_feed_10 lb_m2 <| ?_
      exact o_iret (pc := 12) dX6_feed_12 rfl rfl
def fW_next (m : MI) : Option (Int32 × MI) :=
  if m.1 1 0 ≤ m.1 1 8 then
    some (-5, m)
  else
    if ck (m.1 1 8) 6 = true then
      some (m.1 12 (m.1 1 8).toNatClampNeg, m)
    else none
theorem sW_next {sh : Sh} {R : RR} (hF : Fx sh R) (m : MI) : KS (eI sh R) false 0 0 0 YX5_next sh R m [.ref 1] (fW_next m ) := by
  refine KS_of pn_X5 (fun _ => Nat.le_of_ble_eq_true rfl) ?_
  change S _ _ _ _ _ _ _ _ _ _ [(0, .ref 1)] [] _
  unfold fW_next
  refine o_aload_n (pc := 0) 0 dX5_next_0 rfl rfl <| o_getI (pc := 1) (ci := 5) (j := 8) (nn := 0) dX5_next_1 (hF.1 _ _ rfl) rfl (Nat.le_of_ble_eq_true rfl) k_140 rfl <| o_aload_n (pc := 4) 0 dX5_next_4 rfl rfl <| o_getI (pc := 5) (ci := 5) (j := 0) (nn := 0) dX5_next_5 (hF.1 _ _ rfl) rfl (Nat.le_of_ble_eq_true rfl) k_123 rfl <| ?_
  refine o_icmp_ge (pc := 8) (tgt := 23) dX5_next_8 rfl (fun h1 => ?_) (fun h1 => ?_)
  · refine o_bipush (pc := 23) dX5_next_23 lb_m5 <| ?_
    exact o_iret (pc := 25) dX5_next_25 rfl rfl
  · refine o_aload_n (pc := 11) 0 dX5_next_11 rfl rfl <| o_getRc (pc := 12) (a := 12) (ci := 5) (j := 5) (nn := 0) dX5_next_12 (hF.1 _ _ rfl) rfl (Nat.le_of_ble_eq_true rfl) k_134 rfl (hF.2 _ _ _ rfl) <| o_aload_n (pc := 15) 0 dX5_next_15 rfl rfl <| o_getI (pc := 16) (ci := 5) (j := 8) (nn := 0) dX5_next_16 (hF.1 _ _ rfl) rfl (Nat.le_of_ble_eq_true rfl) k_140 rfl <| ?_
    refine S_ck fun h2 => ?_
    refine o_iald (pc := 19) (nn := 6) dX5_next_19 (hF.1 _ _ rfl) (ck_in h2) <| o_goto (pc := 20) (tgt := 25) dX5_next_20 rfl <| ?_
    exact o_iret (pc := 25) dX5_next_25 rfl rfl
def fC_told (m : MI) (a : Int32) : Option (Int32 × MI) :=
  if a = 0 then
    some (m.1 1 9, m)
  else
    if a = 1 then
      some (m.1 1 6, m)
    else
      if a = 2 then
        some (m.1 1 7, m)
      else
        if a = 3 then
          some (m.1 1 8, m)
        else
          if a = 4 then
            (fW_next m).bind fun r6 =>
            some (r6.1, r6.2)
          else
            if 10 ≤ a then
              lt (a - 10) fun x8 =>
              (fW_has m x8).bind fun r9 =>
              if r9.1 = 0 then
                some (-1, r9.2)
              else
                if ck x8 6 = true then
                  some (r9.2.1 12 x8.toNatClampNeg, r9.2)
                else none
            else
              (fW_has m (-1)).bind fun r12 =>
              if r12.1 = 0 then
                some (-1, r12.2)
              else
                some (r12.2.1 12 (-1 : Int32).toNatClampNeg, r12.2)
theorem sC_told {sh : Sh} {R : RR} (hF : Fx sh R) (m : MI) (a : Int32) : KS (eI sh R) false 1 0 0 YX6_told sh R m [.ref 0, .int a] (fC_told m a) := by
  refine KS_of pn_X6 (fun _ => Nat.le_of_ble_eq_true rfl) ?_
  change S _ _ _ _ _ _ _ _ _ _ [(0, .ref 0), (1, .int a)] [] _
  unfold fC_told
  refine o_iload_n (pc := 0) 1 dX6_told_0 rfl rfl <| ?_
  refine S_ite (fun h1 => ?_) (fun h1 => ?_)
  · refine o_ts_in (pc := 1) (tgt := 36) 0 h1 dX6_told_1 (by decide) (by decide) rfl rfl ?_
    refine o_aload_n (pc := 36) 0 dX6_told_36 rfl rfl <| o_getRc (pc := 37) (a := 1) (ci := 6) (j := 0) (nn := 0) dX6_told_37 (hF.1 _ _ rfl) rfl (Nat.le_of_ble_eq_true rfl) k_292 rfl (hF.2 _ _ _ rfl) <| o_getI (pc := 40) (ci := 5) (j := 9) (nn := 0) dX6_told_40 (hF.1 _ _ rfl) rfl (Nat.le_of_ble_eq_true rfl) k_143 rfl <| ?_
    exact o_iret (pc := 43) dX6_told_43 rfl rfl
  refine S_ite (fun h2 => ?_) (fun h2 => ?_)
  · refine o_ts_in (pc := 1) (tgt := 44) 1 h2 dX6_told_1 (by decide) (by decide) rfl rfl ?_
    refine o_aload_n (pc := 44) 0 dX6_told_44 rfl rfl <| o_getRc (pc := 45) (a := 1) (ci := 6) (j := 0) (nn := 0) dX6_told_45 (hF.1 _ _ rfl) rfl (Nat.le_of_ble_eq_true rfl) k_292 rfl (hF.2 _ _ _ rfl) <| o_getI (pc := 48) (ci := 5) (j := 6) (nn := 0) dX6_told_48 (hF.1 _ _ rfl) rfl (Nat.le_of_ble_eq_true rfl) k_137 rfl <| ?_
    exact o_iret (pc := 51) dX6_told_51 rfl rfl
  refine S_ite (fun h3 => ?_) (fun h3 => ?_)
  · refine o_ts_in (pc := 1) (tgt := 52) 2 h3 dX6_told_1 (by decide) (by decide) rfl rfl ?_
    refine o_aload_n (pc := 52) 0 dX6_told_52 rfl rfl <| o_getRc (pc := 53) (a := 1) (ci := 6) (j := 0) (nn := 0) dX6_told_53 (hF.1 _ _ rfl) rfl (Nat.le_of_ble_eq_true rfl) k_292 rfl (hF.2 _ _ _ rfl) <| o_getI (pc := 56) (ci := 5) (j := 7) (nn := 0) dX6_told_56 (hF.1 _ _ rfl) rfl (Nat.le_of_ble_eq_true rfl) k_139 rfl <| ?_
    exact o_iret (pc := 59) dX6_told_59 rfl rfl
  refine S_ite (fun h4 => ?_) (fun h4 => ?_)
  · refine o_ts_in (pc := 1) (tgt := 60) 3 h4 dX6_told_1 (by decide) (by decide) rfl rfl ?_
    refine o_aload_n (pc := 60) 0 dX6_told_60 rfl rfl <| o_getRc (pc := 61) (a := 1) (ci := 6) (j := 0) (nn := 0) dX6_told_61 (hF.1 _ _ rfl) rfl (Nat.le_of_ble_eq_true rfl) k_292 rfl (hF.2 _ _ _ rfl) <| o_getI (pc := 64) (ci := 5) (j := 8) (nn := 0) dX6_told_64 (hF.1 _ _ rfl) rfl (Nat.le_of_ble_eq_true rfl) k_141 rfl <| ?_
    exact o_iret (pc := 67) dX6_told_67 rfl rfl
  refine S_ite (fun h5 => ?_) (fun h5 => ?_)
  · refine o_ts_in (pc := 1) (tgt := 68) 4 h5 dX6_told_1 (by decide) (by decide) rfl rfl ?_
    refine o_aload_n (pc := 68) 0 dX6_told_68 rfl rfl <| o_getRc (pc := 69) (a := 1) (ci := 6) (j := 0) (nn := 0) dX6_told_69 (hF.1 _ _ rfl) rfl (Nat.le_of_ble_eq_true rfl) k_292 rfl (hF.2 _ _ _ rfl) <| ?_
    refine o_callVI (Y2 := YX5_next) (pc := 72) (av := []) (rest := []) dX6_told_72 k_596 cm_X5_next (sW_next hF m ) (hF.1 _ _ rfl) rfl rfl (Nat.le_of_ble_eq_true rfl) (Nat.le_of_ble_eq_true rfl) fun r6 => ?_
    exact o_iret (pc := 75) dX6_told_75 rfl rfl
  refine o_ts_out (pc := 1) (tgt := 76) (ts_out (lo := 0) (hi := 4) [0, 1, 2, 3, 4] (by decide) (by decide) (fun c hc => by
      simp only [List.mem_cons, List.not_mem_nil, or_false] at hc
      rcases hc with rfl | rfl | rfl | rfl | rfl
      · exact h1
      · exact h2
      · exact h3
      · exact h4
      · exact h5)) dX6_told_1 rfl ?_
  refine o_iload_n (pc := 76) 1 dX6_told_76 rfl rfl <| o_bipush (pc := 77) dX6_told_77 lb_10 <| ?_
  refine o_icmp_ge (pc := 79) (tgt := 86) dX6_told_79 rfl (fun h7 => ?_) (fun h7 => ?_)
  · refine o_iload_n (pc := 86) 1 dX6_told_86 rfl rfl <| o_bipush (pc := 87) dX6_told_87 lb_10 <| o_isub (pc := 89) dX6_told_89 <| ?_
    refine o_lt fun x8 => ?_
    refine o_istore_n (pc := 90) (ls' := [(2, .int x8), (0, .ref 0), (1, .int a)]) dX6_told_90 rfl (Nat.le_of_ble_eq_true rfl) rfl <| o_aload_n (pc := 91) 1 dX6_told_91 rfl rfl <| o_getRc (pc := 92) (a := 1) (ci := 6) (j := 0) (nn := 0) dX6_told_92 (hF.1 _ _ rfl) rfl (Nat.le_of_ble_eq_true rfl) k_292 rfl (hF.2 _ _ _ rfl) <| o_iload_n (pc := 95) 0 dX6_told_95 rfl rfl <| ?_
    refine o_callVI (Y2 := YX5_has) (pc := 96) (av := [.int x8]) (rest := []) dX6_told_96 k_353 cm_X5_has (sW_has hF m x8) (hF.1 _ _ rfl) rfl rfl (Nat.le_of_ble_eq_true rfl) (Nat.le_of_ble_eq_true rfl) fun r9 => ?_
    refine o_if_eq (pc := 99) (tgt := 114) dX6_told_99 rfl (fun h10 => ?_) (fun h10 => ?_)
    · refine o_iconst (pc := 114) dX6_told_114 lc_m1 <| ?_
      exact o_iret (pc := 115) dX6_told_115 rfl rfl
    · refine o_aload_n (pc := 102) 1 dX6_told_102 rfl rfl <| o_getRc (pc := 103) (a := 1) (ci := 6) (j := 0) (nn := 0) dX6_told_103 (hF.1 _ _ rfl) rfl (Nat.le_of_ble_eq_true rfl) k_292 rfl (hF.2 _ _ _ rfl) <| o_getRc (pc := 106) (a := 12) (ci := 5) (j := 5) (nn := 0) dX6_told_106 (hF.1 _ _ rfl) rfl (Nat.le_of_ble_eq_true rfl) k_135 rfl (hF.2 _ _ _ rfl) <| o_iload_n (pc := 109) 0 dX6_told_109 rfl rfl <| ?_
      refine S_ck fun h11 => ?_
      refine o_iald (pc := 110) (nn := 6) dX6_told_110 (hF.1 _ _ rfl) (ck_in h11) <| o_goto (pc := 111) (tgt := 115) dX6_told_111 rfl <| ?_
      exact o_iret (pc := 115) dX6_told_115 rfl rfl
  · refine o_iconst (pc := 82) dX6_told_82 lc_m1 <| o_goto (pc := 83) (tgt := 90) dX6_told_83 rfl <| o_istore_n (pc := 90) (ls' := [(2, .int (-1)), (0, .ref 0), (1, .int a)]) dX6_told_90 rfl (Nat.le_of_ble_eq_true rfl) rfl <| o_aload_n (pc := 91) 1 dX6_told_91 rfl rfl <| o_getRc (pc := 92) (a := 1) (ci := 6) (j := 0) (nn := 0) dX6_told_92 (hF.1 _ _ rfl) rfl (Nat.le_of_ble_eq_true rfl) k_292 rfl (hF.2 _ _ _ rfl) <| o_iload_n (pc := 95) 0 dX6_told_95 rfl rfl <| ?_
    refine o_callVI (Y2 := YX5_has) (pc := 96) (av := [.int (-1)]) (rest := []) dX6_told_96 k_353 cm_X5_has (sW_has hF m (-1)) (hF.1 _ _ rfl) rfl rfl (Nat.le_of_ble_eq_true rfl) (Nat.le_of_ble_eq_true rfl) fun r12 => ?_
    refine o_if_eq (pc := 99) (tgt := 114) dX6_told_99 rfl (fun h13 => ?_) (fun h13 => ?_)
    · refine o_iconst (pc := 114) dX6_told_114 lc_m1 <| ?_
      exact o_iret (pc := 115) dX6_told_115 rfl rfl
    · refine o_aload_n (pc := 102) 1 dX6_told_102 rfl rfl <| o_getRc (pc := 103) (a := 1) (ci := 6) (j := 0) (nn := 0) dX6_told_103 (hF.1 _ _ rfl) rfl (Nat.le_of_ble_eq_true rfl) k_292 rfl (hF.2 _ _ _ rfl) <| o_getRc (pc := 106) (a := 12) (ci := 5) (j := 5) (nn := 0) dX6_told_106 (hF.1 _ _ rfl) rfl (Nat.le_of_ble_eq_true rfl) k_135 rfl (hF.2 _ _ _ rfl) <| o_iload_n (pc := 109) 0 dX6_told_109 rfl rfl <| o_iald (pc := 110) (nn := 6) dX6_told_110 (hF.1 _ _ rfl) (ck_in rfl) <| o_goto (pc := 111) (tgt := 115) dX6_told_111 rfl <| ?_
      exact o_iret (pc := 115) dX6_told_115 rfl rfl
def fC_isDrawNumber (m : MI) (a : Int32) : Option (Int32 × MI) :=
  if a < 0 then
    some (0, m)
  else
    if 1000000 ≤ a then
      some (0, m)
    else
      some (1, m)
theorem sC_isDrawNumber {sh : Sh} {R : RR} (hF : Fx sh R) (m : MI) (a : Int32) : KS (eI sh R) false 0 0 0 YX6_isDrawNumber sh R m [.int a] (fC_isDrawNumber m a) := by
  refine KS_of pn_X6 (fun _ => Nat.le_of_ble_eq_true rfl) ?_
  change S _ _ _ _ _ _ _ _ _ _ [(0, .int a)] [] _
  unfold fC_isDrawNumber
  refine o_iload_n (pc := 0) 0 dX6_isDrawNumber_0 rfl rfl <| ?_
  refine o_if_lt (pc := 1) (tgt := 14) dX6_isDrawNumber_1 rfl (fun h1 => ?_) (fun h1 => ?_)
  · refine o_iconst (pc := 14) dX6_isDrawNumber_14 lc_0 <| ?_
    exact o_zret (pc := 15) dX6_isDrawNumber_15 rfl rfl rfl
  · refine o_iload_n (pc := 4) 0 dX6_isDrawNumber_4 rfl rfl <| o_ldc (pc := 5) dX6_isDrawNumber_5 k_607 <| ?_
    refine o_icmp_ge (pc := 7) (tgt := 14) dX6_isDrawNumber_7 rfl (fun h2 => ?_) (fun h2 => ?_)
    · refine o_iconst (pc := 14) dX6_isDrawNumber_14 lc_0 <| ?_
      exact o_zret (pc := 15) dX6_isDrawNumber_15 rfl rfl rfl
    · refine o_iconst (pc := 10) dX6_isDrawNumber_10 lc_1 <| o_goto (pc := 11) (tgt := 15) dX6_isDrawNumber_11 rfl <| ?_
      exact o_zret (pc := 15) dX6_isDrawNumber_15 rfl rfl rfl
def fW_drawNext (sh : Sh) (R : RR) (m : MI) (a : Int32) : Option (Int32 × MI) :=
  if ck (m.1 1 8) 6 = true then
    lt (m.1 12 (m.1 1 8).toNatClampNeg) fun x2 =>
    (fW_chance sh R m x2 (m.1 1 8) (m.1 1 6) (m.1 1 7)).bind fun r3 =>
    if r3.1 ≤ a then
      lm (mI r3.2 1 (upd (r3.2.1 1) 7 ((r3.2.1 1 7) - 1))) fun m5 =>
      lm (mI m5 1 (upd (m5.1 1) 8 ((m5.1 1 8) + 1))) fun m6 =>
      if m6.1 1 6 = 0 then
        lm (mI m6 1 (upd (m6.1 1) 9 ((m6.1 1 9) + 1))) fun m8 =>
        (fW_makeWhole sh R m8).bind fun r9 =>
        some ((x2 + 0) + 100, r9)
      else
        if m6.1 1 8 = m6.1 1 0 then
          lm (mI m6 1 (upd (m6.1 1) 9 ((m6.1 1 9) + 1))) fun m11 =>
          (fW_makeWhole sh R m11).bind fun r12 =>
          some ((x2 + 0) + 100, r12)
        else
          some ((x2 + 0) + 0, m6)
    else
      lm (mI r3.2 1 (upd (r3.2.1 1) 6 ((r3.2.1 1 6) - 1))) fun m13 =>
      if ck x2 6 = true then
        if ck x2 6 = true then
          lm (mI m13 4 (upd (m13.1 4) x2.toNatClampNeg (if (m13.1 4 x2.toNatClampNeg) + 1 < 999 then (m13.1 4 x2.toNatClampNeg) + 1 else 999))) fun m16 =>
          lm (mI m16 1 (upd (m16.1 1) 8 ((m16.1 1 8) + 1))) fun m17 =>
          if m17.1 1 6 = 0 then
            lm (mI m17 1 (upd (m17.1 1) 9 ((m17.1 1 9) + 1))) fun m19 =>
            (fW_makeWhole sh R m19).bind fun r20 =>
            some ((x2 + 10) + 100, r20)
          else
            if m17.1 1 8 = m17.1 1 0 then
              lm (mI m17 1 (upd (m17.1 1) 9 ((m17.1 1 9) + 1))) fun m22 =>
              (fW_makeWhole sh R m22).bind fun r23 =>
              some ((x2 + 10) + 100, r23)
            else
              some ((x2 + 10) + 0, m17)
        else none
      else none
  else none
theorem sW_drawNext {sh : Sh} {R : RR} (hF : Fx sh R) (m : MI) (a : Int32) : KS (eI sh R) false 4 0 0 YX5_drawNext sh R m [.ref 1, .int a] (fW_drawNext sh R m a) := by
  refine KS_of pn_X5 (fun _ => Nat.le_of_ble_eq_true rfl) ?_
  change S _ _ _ _ _ _ _ _ _ _ [(0, .ref 1), (1, .int a)] [] _
  unfold fW_drawNext
  refine o_aload_n (pc := 0) 0 dX5_drawNext_0 rfl rfl <| o_getRc (pc := 1) (a := 12) (ci := 5) (j := 5) (nn := 0) dX5_drawNext_1 (hF.1 _ _ rfl) rfl (Nat.le_of_ble_eq_true rfl) k_134 rfl (hF.2 _ _ _ rfl) <| o_aload_n (pc := 4) 0 dX5_drawNext_4 rfl rfl <| o_getI (pc := 5) (ci := 5) (j := 8) (nn := 0) dX5_drawNext_5 (hF.1 _ _ rfl) rfl (Nat.le_of_ble_eq_true rfl) k_140 rfl <| ?_
  refine S_ck fun h1 => ?_
  refine o_iald (pc := 8) (nn := 6) dX5_drawNext_8 (hF.1 _ _ rfl) (ck_in h1) <| ?_
  refine o_lt fun x2 => ?_
  refine o_istore_n (pc := 9) (ls' := [(2, .int x2), (0, .ref 1), (1, .int a)]) dX5_drawNext_9 rfl (Nat.le_of_ble_eq_true rfl) rfl <| o_iload_n (pc := 10) 2 dX5_drawNext_10 rfl rfl <| o_aload_n (pc := 11) 1 dX5_drawNext_11 rfl rfl <| o_iload_n (pc := 12) 0 dX5_drawNext_12 rfl rfl <| o_aload_n (pc := 13) 1 dX5_drawNext_13 rfl rfl <| o_getI (pc := 14) (ci := 5) (j := 8) (nn := 0) dX5_drawNext_14 (hF.1 _ _ rfl) rfl (Nat.le_of_ble_eq_true rfl) k_140 rfl <| o_aload_n (pc := 17) 1 dX5_drawNext_17 rfl rfl <| o_getI (pc := 18) (ci := 5) (j := 6) (nn := 0) dX5_drawNext_18 (hF.1 _ _ rfl) rfl (Nat.le_of_ble_eq_true rfl) k_136 rfl <| o_aload_n (pc := 21) 1 dX5_drawNext_21 rfl rfl <| o_getI (pc := 22) (ci := 5) (j := 7) (nn := 0) dX5_drawNext_22 (hF.1 _ _ rfl) rfl (Nat.le_of_ble_eq_true rfl) k_138 rfl <| ?_
  refine o_callVI (Y2 := YX5_chance) (pc := 25) (av := [.int x2, .int (m.1 1 8), .int (m.1 1 6), .int (m.1 1 7)]) (rest := [.int a]) dX5_drawNext_25 k_612 cm_X5_chance (sW_chance hF m x2 (m.1 1 8) (m.1 1 6) (m.1 1 7)) (hF.1 _ _ rfl) rfl rfl (Nat.le_of_ble_eq_true rfl) (Nat.le_of_ble_eq_true rfl) fun r3 => ?_
  refine o_icmp_ge (pc := 28) (tgt := 35) dX5_drawNext_28 rfl (fun h4 => ?_) (fun h4 => ?_)
  · refine o_iconst (pc := 35) dX5_drawNext_35 lc_0 <| o_istore_n (pc := 36) (ls' := [(3, .int 0), (2, .int x2), (0, .ref 1), (1, .int a)]) dX5_drawNext_36 rfl (Nat.le_of_ble_eq_true rfl) rfl <| o_iload_n (pc := 37) 0 dX5_drawNext_37 rfl rfl <| o_if_eq_t (pc := 38) (tgt := 74) dX5_drawNext_38 rfl (by decide) <| o_aload_n (pc := 74) 2 dX5_drawNext_74 rfl rfl <| o_dup (pc := 75) dX5_drawNext_75 rfl <| o_getI (pc := 76) (ci := 5) (j := 7) (nn := 0) dX5_drawNext_76 (hF.1 _ _ rfl) rfl (Nat.le_of_ble_eq_true rfl) k_138 rfl <| o_iconst (pc := 79) dX5_drawNext_79 lc_1 <| o_isub (pc := 80) dX5_drawNext_80 <| o_putI (pc := 81) (ci := 5) (j := 7) (nn := 0) dX5_drawNext_81 (hF.1 _ _ rfl) rfl (Nat.le_of_ble_eq_true rfl) k_138 rfl rfl rfl rfl rfl <| ?_
    refine o_lm fun m5 => ?_
    refine o_aload_n (pc := 84) 2 dX5_drawNext_84 rfl rfl <| o_dup (pc := 85) dX5_drawNext_85 rfl <| o_getI (pc := 86) (ci := 5) (j := 8) (nn := 0) dX5_drawNext_86 (hF.1 _ _ rfl) rfl (Nat.le_of_ble_eq_true rfl) k_140 rfl <| o_iconst (pc := 89) dX5_drawNext_89 lc_1 <| o_iadd (pc := 90) dX5_drawNext_90 <| o_putI (pc := 91) (ci := 5) (j := 8) (nn := 0) dX5_drawNext_91 (hF.1 _ _ rfl) rfl (Nat.le_of_ble_eq_true rfl) k_140 rfl rfl rfl rfl rfl <| ?_
    refine o_lm fun m6 => ?_
    refine o_aload_n (pc := 94) 2 dX5_drawNext_94 rfl rfl <| o_getI (pc := 95) (ci := 5) (j := 6) (nn := 0) dX5_drawNext_95 (hF.1 _ _ rfl) rfl (Nat.le_of_ble_eq_true rfl) k_136 rfl <| ?_
    refine o_if_eq (pc := 98) (tgt := 112) dX5_drawNext_98 rfl (fun h7 => ?_) (fun h7 => ?_)
    · refine o_iconst (pc := 112) dX5_drawNext_112 lc_1 <| o_goto (pc := 113) (tgt := 117) dX5_drawNext_113 rfl <| o_istore (pc := 117) (ls' := [(4, .int 1), (3, .int 0), (2, .int x2), (0, .ref 1), (1, .int a)]) dX5_drawNext_117 (Nat.le_of_ble_eq_true rfl) rfl <| o_iload (pc := 119) 0 dX5_drawNext_119 rfl <| o_if_eq_f (pc := 121) (tgt := 138) dX5_drawNext_121 rfl (by decide) <| o_aload_n (pc := 124) 3 dX5_drawNext_124 rfl rfl <| o_dup (pc := 125) dX5_drawNext_125 rfl <| o_getI (pc := 126) (ci := 5) (j := 9) (nn := 0) dX5_drawNext_126 (hF.1 _ _ rfl) rfl (Nat.le_of_ble_eq_true rfl) k_142 rfl <| o_iconst (pc := 129) dX5_drawNext_129 lc_1 <| o_iadd (pc := 130) dX5_drawNext_130 <| ?_
      refine o_putI (pc := 131) (ci := 5) (j := 9) (nn := 0) dX5_drawNext_131 (hF.1 _ _ rfl) rfl (Nat.le_of_ble_eq_true rfl) k_142 rfl rfl rfl rfl rfl <| ?_
      refine o_lm fun m8 => ?_
      refine o_aload_n (pc := 134) 3 dX5_drawNext_134 rfl rfl <| ?_
      refine o_callVV (Y2 := YX5_makeWhole) (pc := 135) (av := []) (rest := []) dX5_drawNext_135 k_334 cm_X5_makeWhole (sW_makeWhole hF m8 ) (hF.1 _ _ rfl) rfl rfl (Nat.le_of_ble_eq_true rfl) (Nat.le_of_ble_eq_true rfl) fun r9 => ?_
      refine o_iload_n (pc := 138) 2 dX5_drawNext_138 rfl rfl <| o_iload_n (pc := 139) 1 dX5_drawNext_139 rfl rfl <| o_if_eq_t (pc := 140) (tgt := 148) dX5_drawNext_140 rfl (by decide) <| o_iconst (pc := 148) dX5_drawNext_148 lc_0 <| o_iadd (pc := 149) dX5_drawNext_149 <| o_iload (pc := 150) 0 dX5_drawNext_150 rfl <| o_if_eq_f (pc := 152) (tgt := 160) dX5_drawNext_152 rfl (by decide) <| o_bipush (pc := 155) dX5_drawNext_155 lb_100 <| o_goto (pc := 157) (tgt := 161) dX5_drawNext_157 rfl <| o_iadd (pc := 161) dX5_drawNext_161 <| ?_
      exact o_iret (pc := 162) dX5_drawNext_162 rfl rfl
    · refine o_aload_n (pc := 101) 2 dX5_drawNext_101 rfl rfl <| o_getI (pc := 102) (ci := 5) (j := 8) (nn := 0) dX5_drawNext_102 (hF.1 _ _ rfl) rfl (Nat.le_of_ble_eq_true rfl) k_140 rfl <| o_aload_n (pc := 105) 2 dX5_drawNext_105 rfl rfl <| o_getI (pc := 106) (ci := 5) (j := 0) (nn := 0) dX5_drawNext_106 (hF.1 _ _ rfl) rfl (Nat.le_of_ble_eq_true rfl) k_123 rfl <| ?_
      refine o_icmp_ne (pc := 109) (tgt := 116) dX5_drawNext_109 rfl (fun h10 => ?_) (fun h10 => ?_)
      · refine o_iconst (pc := 112) dX5_drawNext_112 lc_1 <| o_goto (pc := 113) (tgt := 117) dX5_drawNext_113 rfl <| o_istore (pc := 117) (ls' := [(4, .int 1), (3, .int 0), (2, .int x2), (0, .ref 1), (1, .int a)]) dX5_drawNext_117 (Nat.le_of_ble_eq_true rfl) rfl <| o_iload (pc := 119) 0 dX5_drawNext_119 rfl <| o_if_eq_f (pc := 121) (tgt := 138) dX5_drawNext_121 rfl (by decide) <| o_aload_n (pc := 124) 3 dX5_drawNext_124 rfl rfl <| o_dup (pc := 125) dX5_drawNext_125 rfl <| o_getI (pc := 126) (ci := 5) (j := 9) (nn := 0) dX5_drawNext_126 (hF.1 _ _ rfl) rfl (Nat.le_of_ble_eq_true rfl) k_142 rfl <| o_iconst (pc := 129) dX5_drawNext_129 lc_1 <| o_iadd (pc := 130) dX5_drawNext_130 <| ?_
        refine o_putI (pc := 131) (ci := 5) (j := 9) (nn := 0) dX5_drawNext_131 (hF.1 _ _ rfl) rfl (Nat.le_of_ble_eq_true rfl) k_142 rfl rfl rfl rfl rfl <| ?_
        refine o_lm fun m11 => ?_
        refine o_aload_n (pc := 134) 3 dX5_drawNext_134 rfl rfl <| ?_
        refine o_callVV (Y2 := YX5_makeWhole) (pc := 135) (av := []) (rest := []) dX5_drawNext_135 k_334 cm_X5_makeWhole (sW_makeWhole hF m11 ) (hF.1 _ _ rfl) rfl rfl (Nat.le_of_ble_eq_true rfl) (Nat.le_of_ble_eq_true rfl) fun r12 => ?_
        refine o_iload_n (pc := 138) 2 dX5_drawNext_138 rfl rfl <| o_iload_n (pc := 139) 1 dX5_drawNext_139 rfl rfl <| o_if_eq_t (pc := 140) (tgt := 148) dX5_drawNext_140 rfl (by decide) <| o_iconst (pc := 148) dX5_drawNext_148 lc_0 <| o_iadd (pc := 149) dX5_drawNext_149 <| o_iload (pc := 150) 0 dX5_drawNext_150 rfl <| o_if_eq_f (pc := 152) (tgt := 160) dX5_drawNext_152 rfl (by decide) <| o_bipush (pc := 155) dX5_drawNext_155 lb_100 <| o_goto (pc := 157) (tgt := 161) dX5_drawNext_157 rfl <| o_iadd (pc := 161) dX5_drawNext_161 <| ?_
        exact o_iret (pc := 162) dX5_drawNext_162 rfl rfl
      · refine o_iconst (pc := 116) dX5_drawNext_116 lc_0 <| o_istore (pc := 117) (ls' := [(4, .int 0), (3, .int 0), (2, .int x2), (0, .ref 1), (1, .int a)]) dX5_drawNext_117 (Nat.le_of_ble_eq_true rfl) rfl <| o_iload (pc := 119) 0 dX5_drawNext_119 rfl <| o_if_eq_t (pc := 121) (tgt := 138) dX5_drawNext_121 rfl (by decide) <| o_iload_n (pc := 138) 2 dX5_drawNext_138 rfl rfl <| o_iload_n (pc := 139) 1 dX5_drawNext_139 rfl rfl <| o_if_eq_t (pc := 140) (tgt := 148) dX5_drawNext_140 rfl (by decide) <| o_iconst (pc := 148) dX5_drawNext_148 lc_0 <| o_iadd (pc := 149) dX5_drawNext_149 <| o_iload (pc := 150) 0 dX5_drawNext_150 rfl <| ?_
        refine o_if_eq_t (pc := 152) (tgt := 160) dX5_drawNext_152 rfl (by decide) <| o_iconst (pc := 160) dX5_drawNext_160 lc_0 <| o_iadd (pc := 161) dX5_drawNext_161 <| ?_
        exact o_iret (pc := 162) dX5_drawNext_162 rfl rfl
  · refine o_iconst (pc := 31) dX5_drawNext_31 lc_1 <| o_goto (pc := 32) (tgt := 36) dX5_drawNext_32 rfl <| o_istore_n (pc := 36) (ls' := [(3, .int 1), (2, .int x2), (0, .ref 1), (1, .int a)]) dX5_drawNext_36 rfl (Nat.le_of_ble_eq_true rfl) rfl <| o_iload_n (pc := 37) 0 dX5_drawNext_37 rfl rfl <| o_if_eq_f (pc := 38) (tgt := 74) dX5_drawNext_38 rfl (by decide) <| o_aload_n (pc := 41) 2 dX5_drawNext_41 rfl rfl <| o_dup (pc := 42) dX5_drawNext_42 rfl <| o_getI (pc := 43) (ci := 5) (j := 6) (nn := 0) dX5_drawNext_43 (hF.1 _ _ rfl) rfl (Nat.le_of_ble_eq_true rfl) k_136 rfl <| o_iconst (pc := 46) dX5_drawNext_46 lc_1 <| o_isub (pc := 47) dX5_drawNext_47 <| ?_
    refine o_putI (pc := 48) (ci := 5) (j := 6) (nn := 0) dX5_drawNext_48 (hF.1 _ _ rfl) rfl (Nat.le_of_ble_eq_true rfl) k_136 rfl rfl rfl rfl rfl <| ?_
    refine o_lm fun m13 => ?_
    refine o_aload_n (pc := 51) 2 dX5_drawNext_51 rfl rfl <| o_getRc (pc := 52) (a := 4) (ci := 5) (j := 3) (nn := 0) dX5_drawNext_52 (hF.1 _ _ rfl) rfl (Nat.le_of_ble_eq_true rfl) k_130 rfl (hF.2 _ _ _ rfl) <| o_iload_n (pc := 55) 1 dX5_drawNext_55 rfl rfl <| o_sipush (pc := 56) dX5_drawNext_56 ls_999 <| o_aload_n (pc := 59) 2 dX5_drawNext_59 rfl rfl <| o_getRc (pc := 60) (a := 4) (ci := 5) (j := 3) (nn := 0) dX5_drawNext_60 (hF.1 _ _ rfl) rfl (Nat.le_of_ble_eq_true rfl) k_130 rfl (hF.2 _ _ _ rfl) <| o_iload_n (pc := 63) 1 dX5_drawNext_63 rfl rfl <| ?_
    refine S_ck fun h14 => ?_
    refine o_iald (pc := 64) (nn := 6) dX5_drawNext_64 (hF.1 _ _ rfl) (ck_in h14) <| o_iconst (pc := 65) dX5_drawNext_65 lc_1 <| o_iadd (pc := 66) dX5_drawNext_66 <| o_min (pc := 67) dX5_drawNext_67 k_613 k_519 k_81 k_520 (Nat.le_of_ble_eq_true rfl) (Nat.le_of_ble_eq_true rfl) <| ?_
    refine S_ck fun h15 => ?_
    refine o_iast (pc := 70) (nn := 6) dX5_drawNext_70 (hF.1 _ _ rfl) (ck_in h15) <| ?_
    refine o_lm fun m16 => ?_
    refine o_goto (pc := 71) (tgt := 84) dX5_drawNext_71 rfl <| o_aload_n (pc := 84) 2 dX5_drawNext_84 rfl rfl <| o_dup (pc := 85) dX5_drawNext_85 rfl <| o_getI (pc := 86) (ci := 5) (j := 8) (nn := 0) dX5_drawNext_86 (hF.1 _ _ rfl) rfl (Nat.le_of_ble_eq_true rfl) k_140 rfl <| o_iconst (pc := 89) dX5_drawNext_89 lc_1 <| o_iadd (pc := 90) dX5_drawNext_90 <| o_putI (pc := 91) (ci := 5) (j := 8) (nn := 0) dX5_drawNext_91 (hF.1 _ _ rfl) rfl (Nat.le_of_ble_eq_true rfl) k_140 rfl rfl rfl rfl rfl <| ?_
    refine o_lm fun m17 => ?_
    refine o_aload_n (pc := 94) 2 dX5_drawNext_94 rfl rfl <| o_getI (pc := 95) (ci := 5) (j := 6) (nn := 0) dX5_drawNext_95 (hF.1 _ _ rfl) rfl (Nat.le_of_ble_eq_true rfl) k_136 rfl <| ?_
    refine o_if_eq (pc := 98) (tgt := 112) dX5_drawNext_98 rfl (fun h18 => ?_) (fun h18 => ?_)
    · refine o_iconst (pc := 112) dX5_drawNext_112 lc_1 <| o_goto (pc := 113) (tgt := 117) dX5_drawNext_113 rfl <| o_istore (pc := 117) (ls' := [(4, .int 1), (3, .int 1), (2, .int x2), (0, .ref 1), (1, .int a)]) dX5_drawNext_117 (Nat.le_of_ble_eq_true rfl) rfl <| o_iload (pc := 119) 0 dX5_drawNext_119 rfl <| o_if_eq_f (pc := 121) (tgt := 138) dX5_drawNext_121 rfl (by decide) <| o_aload_n (pc := 124) 3 dX5_drawNext_124 rfl rfl <| o_dup (pc := 125) dX5_drawNext_125 rfl <| o_getI (pc := 126) (ci := 5) (j := 9) (nn := 0) dX5_drawNext_126 (hF.1 _ _ rfl) rfl (Nat.le_of_ble_eq_true rfl) k_142 rfl <| o_iconst (pc := 129) dX5_drawNext_129 lc_1 <| o_iadd (pc := 130) dX5_drawNext_130 <| ?_
      refine o_putI (pc := 131) (ci := 5) (j := 9) (nn := 0) dX5_drawNext_131 (hF.1 _ _ rfl) rfl (Nat.le_of_ble_eq_true rfl) k_142 rfl rfl rfl rfl rfl <| ?_
      refine o_lm fun m19 => ?_
      refine o_aload_n (pc := 134) 3 dX5_drawNext_134 rfl rfl <| ?_
      refine o_callVV (Y2 := YX5_makeWhole) (pc := 135) (av := []) (rest := []) dX5_drawNext_135 k_334 cm_X5_makeWhole (sW_makeWhole hF m19 ) (hF.1 _ _ rfl) rfl rfl (Nat.le_of_ble_eq_true rfl) (Nat.le_of_ble_eq_true rfl) fun r20 => ?_
      refine o_iload_n (pc := 138) 2 dX5_drawNext_138 rfl rfl <| o_iload_n (pc := 139) 1 dX5_drawNext_139 rfl rfl <| o_if_eq_f (pc := 140) (tgt := 148) dX5_drawNext_140 rfl (by decide) <| o_bipush (pc := 143) dX5_drawNext_143 lb_10 <| o_goto (pc := 145) (tgt := 149) dX5_drawNext_145 rfl <| o_iadd (pc := 149) dX5_drawNext_149 <| o_iload (pc := 150) 0 dX5_drawNext_150 rfl <| o_if_eq_f (pc := 152) (tgt := 160) dX5_drawNext_152 rfl (by decide) <| o_bipush (pc := 155) dX5_drawNext_155 lb_100 <| o_goto (pc := 157) (tgt := 161) dX5_drawNext_157 rfl <| ?_
      refine o_iadd (pc := 161) dX5_drawNext_161 <| ?_
      exact o_iret (pc := 162) dX5_drawNext_162 rfl rfl
    · refine o_aload_n (pc := 101) 2 dX5_drawNext_101 rfl rfl <| o_getI (pc := 102) (ci := 5) (j := 8) (nn := 0) dX5_drawNext_102 (hF.1 _ _ rfl) rfl (Nat.le_of_ble_eq_true rfl) k_140 rfl <| o_aload_n (pc := 105) 2 dX5_drawNext_105 rfl rfl <| o_getI (pc := 106) (ci := 5) (j := 0) (nn := 0) dX5_drawNext_106 (hF.1 _ _ rfl) rfl (Nat.le_of_ble_eq_true rfl) k_123 rfl <| ?_
      refine o_icmp_ne (pc := 109) (tgt := 116) dX5_drawNext_109 rfl (fun h21 => ?_) (fun h21 => ?_)
      · refine o_iconst (pc := 112) dX5_drawNext_112 lc_1 <| o_goto (pc := 113) (tgt := 117) dX5_drawNext_113 rfl <| o_istore (pc := 117) (ls' := [(4, .int 1), (3, .int 1), (2, .int x2), (0, .ref 1), (1, .int a)]) dX5_drawNext_117 (Nat.le_of_ble_eq_true rfl) rfl <| o_iload (pc := 119) 0 dX5_drawNext_119 rfl <| o_if_eq_f (pc := 121) (tgt := 138) dX5_drawNext_121 rfl (by decide) <| o_aload_n (pc := 124) 3 dX5_drawNext_124 rfl rfl <| o_dup (pc := 125) dX5_drawNext_125 rfl <| o_getI (pc := 126) (ci := 5) (j := 9) (nn := 0) dX5_drawNext_126 (hF.1 _ _ rfl) rfl (Nat.le_of_ble_eq_true rfl) k_142 rfl <| o_iconst (pc := 129) dX5_drawNext_129 lc_1 <| o_iadd (pc := 130) dX5_drawNext_130 <| ?_
        refine o_putI (pc := 131) (ci := 5) (j := 9) (nn := 0) dX5_drawNext_131 (hF.1 _ _ rfl) rfl (Nat.le_of_ble_eq_true rfl) k_142 rfl rfl rfl rfl rfl <| ?_
        refine o_lm fun m22 => ?_
        refine o_aload_n (pc := 134) 3 dX5_drawNext_134 rfl rfl <| ?_
        refine o_callVV (Y2 := YX5_makeWhole) (pc := 135) (av := []) (rest := []) dX5_drawNext_135 k_334 cm_X5_makeWhole (sW_makeWhole hF m22 ) (hF.1 _ _ rfl) rfl rfl (Nat.le_of_ble_eq_true rfl) (Nat.le_of_ble_eq_true rfl) fun r23 => ?_
        refine o_iload_n (pc := 138) 2 dX5_drawNext_138 rfl rfl <| o_iload_n (pc := 139) 1 dX5_drawNext_139 rfl rfl <| o_if_eq_f (pc := 140) (tgt := 148) dX5_drawNext_140 rfl (by decide) <| o_bipush (pc := 143) dX5_drawNext_143 lb_10 <| o_goto (pc := 145) (tgt := 149) dX5_drawNext_145 rfl <| o_iadd (pc := 149) dX5_drawNext_149 <| o_iload (pc := 150) 0 dX5_drawNext_150 rfl <| o_if_eq_f (pc := 152) (tgt := 160) dX5_drawNext_152 rfl (by decide) <| o_bipush (pc := 155) dX5_drawNext_155 lb_100 <| o_goto (pc := 157) (tgt := 161) dX5_drawNext_157 rfl <| ?_
        refine o_iadd (pc := 161) dX5_drawNext_161 <| ?_
        exact o_iret (pc := 162) dX5_drawNext_162 rfl rfl
      · refine o_iconst (pc := 116) dX5_drawNext_116 lc_0 <| o_istore (pc := 117) (ls' := [(4, .int 0), (3, .int 1), (2, .int x2), (0, .ref 1), (1, .int a)]) dX5_drawNext_117 (Nat.le_of_ble_eq_true rfl) rfl <| o_iload (pc := 119) 0 dX5_drawNext_119 rfl <| o_if_eq_t (pc := 121) (tgt := 138) dX5_drawNext_121 rfl (by decide) <| o_iload_n (pc := 138) 2 dX5_drawNext_138 rfl rfl <| o_iload_n (pc := 139) 1 dX5_drawNext_139 rfl rfl <| o_if_eq_f (pc := 140) (tgt := 148) dX5_drawNext_140 rfl (by decide) <| o_bipush (pc := 143) dX5_drawNext_143 lb_10 <| o_goto (pc := 145) (tgt := 149) dX5_drawNext_145 rfl <| o_iadd (pc := 149) dX5_drawNext_149 <| ?_
        refine o_iload (pc := 150) 0 dX5_drawNext_150 rfl <| o_if_eq_t (pc := 152) (tgt := 160) dX5_drawNext_152 rfl (by decide) <| o_iconst (pc := 160) dX5_drawNext_160 lc_0 <| o_iadd (pc := 161) dX5_drawNext_161 <| ?_
        exact o_iret (pc := 162) dX5_drawNext_162 rfl rfl
def fC_draw (sh : Sh) (R : RR) (m : MI) (a : Int32) : Option (Int32 × MI) :=
  (fC_isDrawNumber m a).bind fun r1 =>
  if r1.1 = 0 then
    some (-2, r1.2)
  else
    (fW_next r1.2).bind fun r3 =>
    if r3.1 = -5 then
      some (-3, r3.2)
    else
      if r3.2.1 1 9 < 9999 then
        (fW_drawNext sh R r3.2 a).bind fun r6 =>
        some (r6.1, r6.2)
      else
        some (-3, r3.2)
theorem sC_draw {sh : Sh} {R : RR} (hF : Fx sh R) (m : MI) (a : Int32) : KS (eI sh R) false 5 0 0 YX6_draw sh R m [.ref 0, .int a] (fC_draw sh R m a) := by
  refine KS_of pn_X6 (fun _ => Nat.le_of_ble_eq_true rfl) ?_
  change S _ _ _ _ _ _ _ _ _ _ [(0, .ref 0), (1, .int a)] [] _
  unfold fC_draw
  refine o_iload_n (pc := 0) 1 dX6_draw_0 rfl rfl <| ?_
  refine o_callSI (Y2 := YX6_isDrawNumber) (pc := 1) (av := [.int a]) (rest := []) dX6_draw_1 k_604 cs_X6_isDrawNumber (sC_isDrawNumber hF m a) rfl rfl (Nat.le_of_ble_eq_true rfl) (Nat.le_of_ble_eq_true rfl) fun r1 => ?_
  refine o_if_ne (pc := 4) (tgt := 10) dX6_draw_4 rfl (fun h2 => ?_) (fun h2 => ?_)
  · refine o_bipush (pc := 7) dX6_draw_7 lb_m2 <| ?_
    exact o_iret (pc := 9) dX6_draw_9 rfl rfl
  · refine o_aload_n (pc := 10) 0 dX6_draw_10 rfl rfl <| o_getRc (pc := 11) (a := 1) (ci := 6) (j := 0) (nn := 0) dX6_draw_11 (hF.1 _ _ rfl) rfl (Nat.le_of_ble_eq_true rfl) k_292 rfl (hF.2 _ _ _ rfl) <| ?_
    refine o_callVI (Y2 := YX5_next) (pc := 14) (av := []) (rest := []) dX6_draw_14 k_596 cm_X5_next (sW_next hF r1.2 ) (hF.1 _ _ rfl) rfl rfl (Nat.le_of_ble_eq_true rfl) (Nat.le_of_ble_eq_true rfl) fun r3 => ?_
    refine o_bipush (pc := 17) dX6_draw_17 lb_m5 <| ?_
    refine o_icmp_eq (pc := 19) (tgt := 35) dX6_draw_19 rfl (fun h4 => ?_) (fun h4 => ?_)
    · refine o_bipush (pc := 35) dX6_draw_35 lb_m3 <| ?_
      exact o_iret (pc := 37) dX6_draw_37 rfl rfl
    · refine o_aload_n (pc := 22) 0 dX6_draw_22 rfl rfl <| o_getRc (pc := 23) (a := 1) (ci := 6) (j := 0) (nn := 0) dX6_draw_23 (hF.1 _ _ rfl) rfl (Nat.le_of_ble_eq_true rfl) k_292 rfl (hF.2 _ _ _ rfl) <| o_getI (pc := 26) (ci := 5) (j := 9) (nn := 0) dX6_draw_26 (hF.1 _ _ rfl) rfl (Nat.le_of_ble_eq_true rfl) k_143 rfl <| o_sipush (pc := 29) dX6_draw_29 ls_9999 <| ?_
      refine o_icmp_lt (pc := 32) (tgt := 38) dX6_draw_32 rfl (fun h5 => ?_) (fun h5 => ?_)
      · refine o_aload_n (pc := 38) 0 dX6_draw_38 rfl rfl <| o_getRc (pc := 39) (a := 1) (ci := 6) (j := 0) (nn := 0) dX6_draw_39 (hF.1 _ _ rfl) rfl (Nat.le_of_ble_eq_true rfl) k_292 rfl (hF.2 _ _ _ rfl) <| o_iload_n (pc := 42) 1 dX6_draw_42 rfl rfl <| ?_
        refine o_callVI (Y2 := YX5_drawNext) (pc := 43) (av := [.int a]) (rest := []) dX6_draw_43 k_608 cm_X5_drawNext (sW_drawNext hF r3.2 a) (hF.1 _ _ rfl) rfl rfl (Nat.le_of_ble_eq_true rfl) (Nat.le_of_ble_eq_true rfl) fun r6 => ?_
        exact o_iret (pc := 46) dX6_draw_46 rfl rfl
      · refine o_bipush (pc := 35) dX6_draw_35 lb_m3 <| ?_
        exact o_iret (pc := 37) dX6_draw_37 rfl rfl
def fL_begin (sh : Sh) (R : RR) (m : MI) (a : Int32) : Option (MI) :=
  (fW_wholeShorts sh R m).bind fun r1 =>
  lm (mI r1.2 37 (upd (r1.2.1 37) 4 r1.1)) fun m2 =>
  (fW_wholeLongs sh R m2).bind fun r3 =>
  lm (mI r3.2 37 (upd (r3.2.1 37) 5 (r3.1 + a))) fun m4 =>
  (fJA_fill_53178 sh R m4 40 (-1)).bind fun r5 =>
  some r5
theorem sL_begin {sh : Sh} {R : RR} (hF : Fx sh R) (m : MI) (a : Int32) : KS (eV sh R) false 2 0 0 YX3_begin sh R m [.ref 37, .int a] (fL_begin sh R m a) := by
  refine KS_of pn_X3 (fun _ => Nat.le_of_ble_eq_true rfl) ?_
  change S _ _ _ _ _ _ _ _ _ _ [(0, .ref 37), (1, .int a)] [] _
  unfold fL_begin
  refine o_aload_n (pc := 0) 0 dX3_begin_0 rfl rfl <| o_aload_n (pc := 1) 0 dX3_begin_1 rfl rfl <| o_getRc (pc := 2) (a := 1) (ci := 3) (j := 1) (nn := 0) dX3_begin_2 (hF.1 _ _ rfl) rfl (Nat.le_of_ble_eq_true rfl) k_200 rfl (hF.2 _ _ _ rfl) <| ?_
  refine o_callVI (Y2 := YX5_wholeShorts) (pc := 5) (av := []) (rest := [.ref 37]) dX3_begin_5 k_622 cm_X5_wholeShorts (sW_wholeShorts hF m ) (hF.1 _ _ rfl) rfl rfl (Nat.le_of_ble_eq_true rfl) (Nat.le_of_ble_eq_true rfl) fun r1 => ?_
  refine o_putI (pc := 8) (ci := 3) (j := 4) (nn := 0) dX3_begin_8 (hF.1 _ _ rfl) rfl (Nat.le_of_ble_eq_true rfl) k_203 rfl rfl rfl rfl rfl <| ?_
  refine o_lm fun m2 => ?_
  refine o_aload_n (pc := 11) 0 dX3_begin_11 rfl rfl <| o_aload_n (pc := 12) 0 dX3_begin_12 rfl rfl <| o_getRc (pc := 13) (a := 1) (ci := 3) (j := 1) (nn := 0) dX3_begin_13 (hF.1 _ _ rfl) rfl (Nat.le_of_ble_eq_true rfl) k_200 rfl (hF.2 _ _ _ rfl) <| ?_
  refine o_callVI (Y2 := YX5_wholeLongs) (pc := 16) (av := []) (rest := [.ref 37]) dX3_begin_16 k_623 cm_X5_wholeLongs (sW_wholeLongs hF m2 ) (hF.1 _ _ rfl) rfl rfl (Nat.le_of_ble_eq_true rfl) (Nat.le_of_ble_eq_true rfl) fun r3 => ?_
  refine o_iload_n (pc := 19) 1 dX3_begin_19 rfl rfl <| o_iadd (pc := 20) dX3_begin_20 <| o_putI (pc := 21) (ci := 3) (j := 5) (nn := 0) dX3_begin_21 (hF.1 _ _ rfl) rfl (Nat.le_of_ble_eq_true rfl) k_204 rfl rfl rfl rfl rfl <| ?_
  refine o_lm fun m4 => ?_
  refine o_aload_n (pc := 24) 0 dX3_begin_24 rfl rfl <| o_getRc (pc := 25) (a := 40) (ci := 3) (j := 3) (nn := 0) dX3_begin_25 (hF.1 _ _ rfl) rfl (Nat.le_of_ble_eq_true rfl) k_202 rfl (hF.2 _ _ _ rfl) <| o_iconst (pc := 28) dX3_begin_28 lc_m1 <| ?_
  refine o_callSV (Y2 := YJ7_fill_53178) (pc := 29) (av := [.ref 40, .int (-1)]) (rest := []) dX3_begin_29 k_624 cs_J7_fill_53178 (sJA_fill_53178 hF m4 40 (-1)) rfl rfl (Nat.le_of_ble_eq_true rfl) (Nat.le_of_ble_eq_true rfl) fun r5 => ?_
  exact o_vret (pc := 32) dX3_begin_32 rfl rfl
def fJA_fill_d0a16_l6 (sh : Sh) (R : RR) (u0 : Nat) (u1 : Int64) (u4 : Int32) (k0_0 : MI → Int32 → Option (MI)) : Nat → MI → Int32 → Option (MI)
  | 0, _, _ => none
  | n0 + 1, m, v3 =>
    if u4 ≤ v3 then
      k0_0 m v3
    else
      if kA sh u0 1 = true then
        if ck v3 (lenA sh u0) = true then
          lm (mJ m u0 (vp_updL (m.2 u0) v3.toNatClampNeg u1)) fun m4 =>
          lt (v3 + 1) fun x5 =>
          fJA_fill_d0a16_l6 sh R u0 u1 u4 k0_0 n0 m4 x5
        else none
      else none
theorem sJA_fill_d0a16_l6 {sh : Sh} {R : RR} (hF : Fx sh R) (u0 : Nat) (u1 : Int64) (u4 : Int32) (k0_0 : MI → Int32 → Option (MI)) (hk0_0 : ∀ (m : MI) (v3 : Int32) , S (eV sh R) false 0 0 0 YJ7_fill_d0a16 sh R m 22 [(0, .ref u0), (1, .long u1), (3, .int v3), (4, .int u4)] [] (k0_0 m v3)) : ∀ (n : Nat) (m : MI) (v3 : Int32) , S (eV sh R) false 0 0 0 YJ7_fill_d0a16 sh R m 6 [(0, .ref u0), (1, .long u1), (3, .int v3), (4, .int u4)] [] (fJA_fill_d0a16_l6 sh R u0 u1 u4 k0_0 n m v3) := by
  intro n
  induction n with
  | zero => intros; exact S_none
  | succ n0 ih0 =>
    intro m v3
    rw [fJA_fill_d0a16_l6]
    refine o_iload_n (pc := 6) 2 dJ7_fill_d0a16_6 rfl rfl <| o_iload (pc := 7) 3 dJ7_fill_d0a16_7 rfl <| ?_
    refine o_icmp_ge (pc := 9) (tgt := 22) dJ7_fill_d0a16_9 rfl (fun h1 => ?_) (fun h1 => ?_)
    · exact hk0_0 m v3
    · refine o_aload_n (pc := 12) 0 dJ7_fill_d0a16_12 rfl rfl <| o_iload_n (pc := 13) 2 dJ7_fill_d0a16_13 rfl rfl <| o_lload_n (pc := 14) 1 dJ7_fill_d0a16_14 rfl rfl <| ?_
      refine S_ck fun h2 => ?_
      refine S_ck fun h3 => ?_
      refine o_last (pc := 15) (nn := lenA sh u0) dJ7_fill_d0a16_15 (kA_ok h2) (ck_in h3) <| ?_
      refine o_lm fun m4 => ?_
      refine o_iinc (pc := 16) 2 (v := v3 + 1) (ls' := [(3, .int (v3 + 1)), (0, .ref u0), (1, .long u1), (4, .int u4)]) dJ7_fill_d0a16_16 rfl rfl (Nat.le_of_ble_eq_true rfl) rfl <| ?_
      refine o_ltL (ls := fun x5 => [(3, .int x5), (0, .ref u0), (1, .long u1), (4, .int u4)]) fun x5 => ?_
      refine o_goto (pc := 19) (tgt := 6) dJ7_fill_d0a16_19 rfl <| ?_
      refine o_sub [1, 2, 0, 3] (ls' := [(0, .ref u0), (1, .long u1), (3, .int x5), (4, .int u4)]) rfl ?_
      exact ih0 m4 x5
def fJA_fill_d0a16 (sh : Sh) (R : RR) (m : MI) (a : Nat) (b : Int64) : Option (MI) :=
  if kA sh a 1 = true then
    lt (Int32.ofNat (lenA sh a)) fun x2 =>
    fJA_fill_d0a16_l6 sh R a b x2
      (fun m4 z3 =>
        some m4
        )
      1000 m 0
  else none
theorem sJA_fill_d0a16 {sh : Sh} {R : RR} (hF : Fx sh R) (m : MI) (a : Nat) (b : Int64) : KS (eV sh R) false 0 0 0 YJ7_fill_d0a16 sh R m [.ref a, .long b] (fJA_fill_d0a16 sh R m a b) := by
  refine KS_of pn_J7 (fun _ => Nat.le_of_ble_eq_true rfl) ?_
  change S _ _ _ _ _ _ _ _ _ _ [(0, .ref a), (1, .long b)] [] _
  unfold fJA_fill_d0a16
  refine o_iconst (pc := 0) dJ7_fill_d0a16_0 lc_0 <| o_istore_n (pc := 1) (ls' := [(3, .int 0), (0, .ref a), (1, .long b)]) dJ7_fill_d0a16_1 rfl (Nat.le_of_ble_eq_true rfl) rfl <| o_aload_n (pc := 2) 1 dJ7_fill_d0a16_2 rfl rfl <| ?_
  refine S_ck fun h1 => ?_
  refine o_alenL (pc := 3) (nn := lenA sh a) dJ7_fill_d0a16_3 (kA_ok h1) rfl <| ?_
  refine o_lt fun x2 => ?_
  refine o_istore (pc := 4) (ls' := [(4, .int x2), (3, .int 0), (0, .ref a), (1, .long b)]) dJ7_fill_d0a16_4 (Nat.le_of_ble_eq_true rfl) rfl <| ?_
  refine o_sub [2, 3, 1, 0] (ls' := [(0, .ref a), (1, .long b), (3, .int 0), (4, .int x2)]) rfl ?_
  refine sJA_fill_d0a16_l6 hF a b x2 _ ?_ 1000 m 0
  · intro m4 z3
    exact o_vret (pc := 22) dJ7_fill_d0a16_22 rfl rfl
def fL_chance (sh : Sh) (R : RR) (m : MI) (a : Int32) (b : Int32) (c : Int32) : Option (Int32 × MI) :=
  lt ((((a * 6) + b) * 4) + c) fun x1 =>
  if ck x1 144 = true then
    if m.1 40 x1.toNatClampNeg = -1 then
      (fW_chance sh R m a b c ((((m.1 37 4) + (m.1 37 5)) - b) - c)).bind fun r4 =>
      if ck x1 144 = true then
        lm (mI r4.2 40 (upd (r4.2.1 40) x1.toNatClampNeg r4.1)) fun m6 =>
        if ck x1 144 = true then
          some (m6.1 40 x1.toNatClampNeg, m6)
        else none
      else none
    else
      if ck x1 144 = true then
        some (m.1 40 x1.toNatClampNeg, m)
      else none
  else none
theorem sL_chance {sh : Sh} {R : RR} (hF : Fx sh R) (m : MI) (a : Int32) (b : Int32) (c : Int32) : KS (eI sh R) false 4 0 0 YX3_chance sh R m [.ref 37, .int a, .int b, .int c] (fL_chance sh R m a b c) := by
  refine KS_of pn_X3 (fun _ => Nat.le_of_ble_eq_true rfl) ?_
  change S _ _ _ _ _ _ _ _ _ _ [(0, .ref 37), (1, .int a), (2, .int b), (3, .int c)] [] _
  unfold fL_chance
  refine o_iload_n (pc := 0) 1 dX3_chance_0 rfl rfl <| o_bipush (pc := 1) dX3_chance_1 lb_6 <| o_imul (pc := 3) dX3_chance_3 <| o_iload_n (pc := 4) 2 dX3_chance_4 rfl rfl <| o_iadd (pc := 5) dX3_chance_5 <| o_iconst (pc := 6) dX3_chance_6 lc_4 <| o_imul (pc := 7) dX3_chance_7 <| o_iload_n (pc := 8) 3 dX3_chance_8 rfl rfl <| o_iadd (pc := 9) dX3_chance_9 <| ?_
  refine o_lt fun x1 => ?_
  refine o_istore (pc := 10) (ls' := [(4, .int x1), (0, .ref 37), (1, .int a), (2, .int b), (3, .int c)]) dX3_chance_10 (Nat.le_of_ble_eq_true rfl) rfl <| o_aload_n (pc := 12) 1 dX3_chance_12 rfl rfl <| o_getRc (pc := 13) (a := 40) (ci := 3) (j := 3) (nn := 0) dX3_chance_13 (hF.1 _ _ rfl) rfl (Nat.le_of_ble_eq_true rfl) k_202 rfl (hF.2 _ _ _ rfl) <| o_iload (pc := 16) 0 dX3_chance_16 rfl <| ?_
  refine S_ck fun h2 => ?_
  refine o_iald (pc := 18) (nn := 144) dX3_chance_18 (hF.1 _ _ rfl) (ck_in h2) <| o_iconst (pc := 19) dX3_chance_19 lc_m1 <| ?_
  refine o_icmp_ne (pc := 20) (tgt := 53) dX3_chance_20 rfl (fun h3 => ?_) (fun h3 => ?_)
  · refine o_aload_n (pc := 23) 1 dX3_chance_23 rfl rfl <| o_getRc (pc := 24) (a := 40) (ci := 3) (j := 3) (nn := 0) dX3_chance_24 (hF.1 _ _ rfl) rfl (Nat.le_of_ble_eq_true rfl) k_202 rfl (hF.2 _ _ _ rfl) <| o_iload (pc := 27) 0 dX3_chance_27 rfl <| o_aload_n (pc := 29) 1 dX3_chance_29 rfl rfl <| o_getRc (pc := 30) (a := 1) (ci := 3) (j := 1) (nn := 0) dX3_chance_30 (hF.1 _ _ rfl) rfl (Nat.le_of_ble_eq_true rfl) k_200 rfl (hF.2 _ _ _ rfl) <| o_iload_n (pc := 33) 2 dX3_chance_33 rfl rfl <| o_iload_n (pc := 34) 3 dX3_chance_34 rfl rfl <| o_iload_n (pc := 35) 4 dX3_chance_35 rfl rfl <| o_aload_n (pc := 36) 1 dX3_chance_36 rfl rfl <| o_getI (pc := 37) (ci := 3) (j := 4) (nn := 0) dX3_chance_37 (hF.1 _ _ rfl) rfl (Nat.le_of_ble_eq_true rfl) k_203 rfl <| ?_
    refine o_aload_n (pc := 40) 1 dX3_chance_40 rfl rfl <| o_getI (pc := 41) (ci := 3) (j := 5) (nn := 0) dX3_chance_41 (hF.1 _ _ rfl) rfl (Nat.le_of_ble_eq_true rfl) k_204 rfl <| o_iadd (pc := 44) dX3_chance_44 <| o_iload_n (pc := 45) 3 dX3_chance_45 rfl rfl <| o_isub (pc := 46) dX3_chance_46 <| o_iload_n (pc := 47) 4 dX3_chance_47 rfl rfl <| o_isub (pc := 48) dX3_chance_48 <| ?_
    refine o_callVI (Y2 := YX5_chance) (pc := 49) (av := [.int a, .int b, .int c, .int ((((m.1 37 4) + (m.1 37 5)) - b) - c)]) (rest := [.int x1, .ref 40]) dX3_chance_49 k_641 cm_X5_chance (sW_chance hF m a b c ((((m.1 37 4) + (m.1 37 5)) - b) - c)) (hF.1 _ _ rfl) rfl rfl (Nat.le_of_ble_eq_true rfl) (Nat.le_of_ble_eq_true rfl) fun r4 => ?_
    refine S_ck fun h5 => ?_
    refine o_iast (pc := 52) (nn := 144) dX3_chance_52 (hF.1 _ _ rfl) (ck_in h5) <| ?_
    refine o_lm fun m6 => ?_
    refine o_aload_n (pc := 53) 1 dX3_chance_53 rfl rfl <| o_getRc (pc := 54) (a := 40) (ci := 3) (j := 3) (nn := 0) dX3_chance_54 (hF.1 _ _ rfl) rfl (Nat.le_of_ble_eq_true rfl) k_202 rfl (hF.2 _ _ _ rfl) <| o_iload (pc := 57) 0 dX3_chance_57 rfl <| ?_
    refine S_ck fun h7 => ?_
    refine o_iald (pc := 59) (nn := 144) dX3_chance_59 (hF.1 _ _ rfl) (ck_in h7) <| ?_
    exact o_iret (pc := 60) dX3_chance_60 rfl rfl
  · refine o_aload_n (pc := 53) 1 dX3_chance_53 rfl rfl <| o_getRc (pc := 54) (a := 40) (ci := 3) (j := 3) (nn := 0) dX3_chance_54 (hF.1 _ _ rfl) rfl (Nat.le_of_ble_eq_true rfl) k_202 rfl (hF.2 _ _ _ rfl) <| o_iload (pc := 57) 0 dX3_chance_57 rfl <| ?_
    refine S_ck fun h8 => ?_
    refine o_iald (pc := 59) (nn := 144) dX3_chance_59 (hF.1 _ _ rfl) (ck_in h8) <| ?_
    exact o_iret (pc := 60) dX3_chance_60 rfl rfl
def fL_goThrough_12_l43 (sh : Sh) (R : RR) (u2 : Int32) (u3 : Int32) (k1_0 : MI → Int64 → Int32 → Option (MI)) : Nat → MI → Int64 → Int32 → Option (MI)
  | 0, _, _, _ => none
  | n1 + 1, m, v4, v6 =>
    if m.1 37 4 < v6 then
      k1_0 m v4 v6
    else
      if ck v6 4 = true then
        if lg_cmp (m.2 39 v6.toNatClampNeg) 0 = 0 then
          if ck v6 4 = true then
            if ck v6 4 = true then
              lm (mJ m 39 (vp_updL (m.2 39) v6.toNatClampNeg ((m.2 39 v6.toNatClampNeg) - 0))) fun m6 =>
              if ck (v6 - 1) 4 = true then
                if ck (v6 - 1) 4 = true then
                  lm (mJ m6 39 (vp_updL (m6.2 39) (v6 - 1).toNatClampNeg ((m6.2 39 (v6 - 1).toNatClampNeg) + 0))) fun m9 =>
                  ltl (v4 + 0) fun y10 =>
                  lt (v6 + 1) fun x11 =>
                  fL_goThrough_12_l43 sh R u2 u3 k1_0 n1 m9 y10 x11
                else none
              else none
            else none
          else none
        else
          if ck v6 4 = true then
            (fL_chance sh R m u3 u2 v6).bind fun r13 =>
            ltl (((m.2 39 v6.toNatClampNeg) * (r13.1.toInt64)) / 1000000) fun y14 =>
            if ck v6 4 = true then
              if ck v6 4 = true then
                lm (mJ r13.2 39 (vp_updL (r13.2.2 39) v6.toNatClampNeg ((r13.2.2 39 v6.toNatClampNeg) - y14))) fun m17 =>
                if ck (v6 - 1) 4 = true then
                  if ck (v6 - 1) 4 = true then
                    lm (mJ m17 39 (vp_updL (m17.2 39) (v6 - 1).toNatClampNeg ((m17.2 39 (v6 - 1).toNatClampNeg) + y14))) fun m20 =>
                    ltl (v4 + y14) fun y21 =>
                    lt (v6 + 1) fun x22 =>
                    fL_goThrough_12_l43 sh R u2 u3 k1_0 n1 m20 y21 x22
                  else none
                else none
              else none
            else none
          else none
      else none
theorem sL_goThrough_12_l43 {sh : Sh} {R : RR} (hF : Fx sh R) (u2 : Int32) (u3 : Int32) (k1_0 : MI → Int64 → Int32 → Option (MI)) (hk1_0 : ∀ (m : MI) (v4 : Int64) (v6 : Int32) , S (eV sh R) false 5 0 0 YX3_goThrough sh R m 130 [(0, .ref 37), (1, .ref 12), (2, .int u2), (3, .int u3), (4, .long v4), (6, .int v6)] [] (k1_0 m v4 v6)) : ∀ (n : Nat) (m : MI) (v4 : Int64) (v6 : Int32) , S (eV sh R) false 5 0 0 YX3_goThrough sh R m 43 [(0, .ref 37), (1, .ref 12), (2, .int u2), (3, .int u3), (4, .long v4), (6, .int v6)] [] (fL_goThrough_12_l43 sh R u2 u3 k1_0 n m v4 v6) := by
  intro n
  induction n with
  | zero => intros; exact S_none
  | succ n1 ih1 =>
    intro m v4 v6
    rw [fL_goThrough_12_l43]
    refine o_iload (pc := 43) 5 dX3_goThrough_43 rfl <| o_aload_n (pc := 45) 0 dX3_goThrough_45 rfl rfl <| o_getI (pc := 46) (ci := 3) (j := 4) (nn := 0) dX3_goThrough_46 (hF.1 _ _ rfl) rfl (Nat.le_of_ble_eq_true rfl) k_203 rfl <| ?_
    refine o_icmp_gt (pc := 49) (tgt := 130) dX3_goThrough_49 rfl (fun h1 => ?_) (fun h1 => ?_)
    · exact hk1_0 m v4 v6
    · refine o_aload_n (pc := 52) 0 dX3_goThrough_52 rfl rfl <| o_getRc (pc := 53) (a := 39) (ci := 3) (j := 2) (nn := 0) dX3_goThrough_53 (hF.1 _ _ rfl) rfl (Nat.le_of_ble_eq_true rfl) k_201 rfl (hF.2 _ _ _ rfl) <| o_iload (pc := 56) 5 dX3_goThrough_56 rfl <| ?_
      refine S_ck fun h2 => ?_
      refine o_lald (pc := 58) (nn := 4) dX3_goThrough_58 (hF.1 _ _ rfl) (ck_in h2) <| o_lconst (pc := 59) (x := 0) dX3_goThrough_59 rfl <| o_lcmp (pc := 60) dX3_goThrough_60 <| ?_
      refine o_if_ne (pc := 61) (tgt := 68) dX3_goThrough_61 rfl (fun h3 => ?_) (fun h3 => ?_)
      · refine o_lconst (pc := 64) (x := 0) dX3_goThrough_64 rfl <| o_goto (pc := 65) (tgt := 89) dX3_goThrough_65 rfl <| o_lstore (pc := 89) (ls' := [(7, .long 0), (0, .ref 37), (1, .ref 12), (2, .int u2), (3, .int u3), (4, .long v4), (6, .int v6)]) dX3_goThrough_89 (Nat.le_of_ble_eq_true rfl) rfl <| o_aload_n (pc := 91) 1 dX3_goThrough_91 rfl rfl <| o_getRc (pc := 92) (a := 39) (ci := 3) (j := 2) (nn := 0) dX3_goThrough_92 (hF.1 _ _ rfl) rfl (Nat.le_of_ble_eq_true rfl) k_201 rfl (hF.2 _ _ _ rfl) <| o_iload (pc := 95) 6 dX3_goThrough_95 rfl <| o_dup2 (pc := 97) dX3_goThrough_97 rfl rfl <| ?_
        refine S_ck fun h4 => ?_
        refine o_lald (pc := 98) (nn := 4) dX3_goThrough_98 (hF.1 _ _ rfl) (ck_in h4) <| o_lload (pc := 99) 0 dX3_goThrough_99 rfl <| o_lsub (pc := 101) dX3_goThrough_101 <| ?_
        refine S_ck fun h5 => ?_
        refine o_last (pc := 102) (nn := 4) dX3_goThrough_102 (hF.1 _ _ rfl) (ck_in h5) <| ?_
        refine o_lm fun m6 => ?_
        refine o_aload_n (pc := 103) 1 dX3_goThrough_103 rfl rfl <| o_getRc (pc := 104) (a := 39) (ci := 3) (j := 2) (nn := 0) dX3_goThrough_104 (hF.1 _ _ rfl) rfl (Nat.le_of_ble_eq_true rfl) k_201 rfl (hF.2 _ _ _ rfl) <| o_iload (pc := 107) 6 dX3_goThrough_107 rfl <| o_iconst (pc := 109) dX3_goThrough_109 lc_1 <| o_isub (pc := 110) dX3_goThrough_110 <| o_dup2 (pc := 111) dX3_goThrough_111 rfl rfl <| ?_
        refine S_ck fun h7 => ?_
        refine o_lald (pc := 112) (nn := 4) dX3_goThrough_112 (hF.1 _ _ rfl) (ck_in h7) <| o_lload (pc := 113) 0 dX3_goThrough_113 rfl <| o_ladd (pc := 115) dX3_goThrough_115 <| ?_
        refine S_ck fun h8 => ?_
        refine o_last (pc := 116) (nn := 4) dX3_goThrough_116 (hF.1 _ _ rfl) (ck_in h8) <| ?_
        refine o_lm fun m9 => ?_
        refine o_lload (pc := 117) 5 dX3_goThrough_117 rfl <| o_lload (pc := 119) 0 dX3_goThrough_119 rfl <| o_ladd (pc := 121) dX3_goThrough_121 <| ?_
        refine o_ltl fun y10 => ?_
        refine o_lstore (pc := 122) (ls' := [(4, .long y10), (7, .long 0), (0, .ref 37), (1, .ref 12), (2, .int u2), (3, .int u3), (6, .int v6)]) dX3_goThrough_122 (Nat.le_of_ble_eq_true rfl) rfl <| o_iinc (pc := 124) 6 (v := v6 + 1) (ls' := [(6, .int (v6 + 1)), (4, .long y10), (7, .long 0), (0, .ref 37), (1, .ref 12), (2, .int u2), (3, .int u3)]) dX3_goThrough_124 rfl rfl (Nat.le_of_ble_eq_true rfl) rfl <| ?_
        refine o_ltL (ls := fun x11 => [(6, .int x11), (4, .long y10), (7, .long 0), (0, .ref 37), (1, .ref 12), (2, .int u2), (3, .int u3)]) fun x11 => ?_
        refine o_goto (pc := 127) (tgt := 43) dX3_goThrough_127 rfl <| ?_
        refine o_sub [3, 4, 5, 6, 1, 0] (ls' := [(0, .ref 37), (1, .ref 12), (2, .int u2), (3, .int u3), (4, .long y10), (6, .int x11)]) rfl ?_
        exact ih1 m9 y10 x11
      · refine o_aload_n (pc := 68) 0 dX3_goThrough_68 rfl rfl <| o_getRc (pc := 69) (a := 39) (ci := 3) (j := 2) (nn := 0) dX3_goThrough_69 (hF.1 _ _ rfl) rfl (Nat.le_of_ble_eq_true rfl) k_201 rfl (hF.2 _ _ _ rfl) <| o_iload (pc := 72) 5 dX3_goThrough_72 rfl <| ?_
        refine S_ck fun h12 => ?_
        refine o_lald (pc := 74) (nn := 4) dX3_goThrough_74 (hF.1 _ _ rfl) (ck_in h12) <| o_aload_n (pc := 75) 0 dX3_goThrough_75 rfl rfl <| o_iload_n (pc := 76) 3 dX3_goThrough_76 rfl rfl <| o_iload_n (pc := 77) 2 dX3_goThrough_77 rfl rfl <| o_iload (pc := 78) 5 dX3_goThrough_78 rfl <| ?_
        refine o_callVI (Y2 := YX3_chance) (pc := 80) (av := [.int u3, .int u2, .int v6]) (rest := [.long (m.2 39 v6.toNatClampNeg)]) dX3_goThrough_80 k_637 cm_X3_chance (sL_chance hF m u3 u2 v6) (hF.1 _ _ rfl) rfl rfl (Nat.le_of_ble_eq_true rfl) (Nat.le_of_ble_eq_true rfl) fun r13 => ?_
        refine o_i2l (pc := 83) dX3_goThrough_83 <| o_lmul (pc := 84) dX3_goThrough_84 <| o_ldc2 (pc := 85) dX3_goThrough_85 k_636 <| o_ldiv (pc := 88) dX3_goThrough_88 (by decide) <| ?_
        refine o_ltl fun y14 => ?_
        refine o_lstore (pc := 89) (ls' := [(7, .long y14), (0, .ref 37), (1, .ref 12), (2, .int u2), (3, .int u3), (4, .long v4), (6, .int v6)]) dX3_goThrough_89 (Nat.le_of_ble_eq_true rfl) rfl <| o_aload_n (pc := 91) 1 dX3_goThrough_91 rfl rfl <| o_getRc (pc := 92) (a := 39) (ci := 3) (j := 2) (nn := 0) dX3_goThrough_92 (hF.1 _ _ rfl) rfl (Nat.le_of_ble_eq_true rfl) k_201 rfl (hF.2 _ _ _ rfl) <| o_iload (pc := 95) 6 dX3_goThrough_95 rfl <| o_dup2 (pc := 97) dX3_goThrough_97 rfl rfl <| ?_
        refine S_ck fun h15 => ?_
        refine o_lald (pc := 98) (nn := 4) dX3_goThrough_98 (hF.1 _ _ rfl) (ck_in h15) <| o_lload (pc := 99) 0 dX3_goThrough_99 rfl <| o_lsub (pc := 101) dX3_goThrough_101 <| ?_
        refine S_ck fun h16 => ?_
        refine o_last (pc := 102) (nn := 4) dX3_goThrough_102 (hF.1 _ _ rfl) (ck_in h16) <| ?_
        refine o_lm fun m17 => ?_
        refine o_aload_n (pc := 103) 1 dX3_goThrough_103 rfl rfl <| o_getRc (pc := 104) (a := 39) (ci := 3) (j := 2) (nn := 0) dX3_goThrough_104 (hF.1 _ _ rfl) rfl (Nat.le_of_ble_eq_true rfl) k_201 rfl (hF.2 _ _ _ rfl) <| o_iload (pc := 107) 6 dX3_goThrough_107 rfl <| o_iconst (pc := 109) dX3_goThrough_109 lc_1 <| o_isub (pc := 110) dX3_goThrough_110 <| o_dup2 (pc := 111) dX3_goThrough_111 rfl rfl <| ?_
        refine S_ck fun h18 => ?_
        refine o_lald (pc := 112) (nn := 4) dX3_goThrough_112 (hF.1 _ _ rfl) (ck_in h18) <| o_lload (pc := 113) 0 dX3_goThrough_113 rfl <| o_ladd (pc := 115) dX3_goThrough_115 <| ?_
        refine S_ck fun h19 => ?_
        refine o_last (pc := 116) (nn := 4) dX3_goThrough_116 (hF.1 _ _ rfl) (ck_in h19) <| ?_
        refine o_lm fun m20 => ?_
        refine o_lload (pc := 117) 5 dX3_goThrough_117 rfl <| o_lload (pc := 119) 0 dX3_goThrough_119 rfl <| o_ladd (pc := 121) dX3_goThrough_121 <| ?_
        refine o_ltl fun y21 => ?_
        refine o_lstore (pc := 122) (ls' := [(4, .long y21), (7, .long y14), (0, .ref 37), (1, .ref 12), (2, .int u2), (3, .int u3), (6, .int v6)]) dX3_goThrough_122 (Nat.le_of_ble_eq_true rfl) rfl <| o_iinc (pc := 124) 6 (v := v6 + 1) (ls' := [(6, .int (v6 + 1)), (4, .long y21), (7, .long y14), (0, .ref 37), (1, .ref 12), (2, .int u2), (3, .int u3)]) dX3_goThrough_124 rfl rfl (Nat.le_of_ble_eq_true rfl) rfl <| ?_
        refine o_ltL (ls := fun x22 => [(6, .int x22), (4, .long y21), (7, .long y14), (0, .ref 37), (1, .ref 12), (2, .int u2), (3, .int u3)]) fun x22 => ?_
        refine o_goto (pc := 127) (tgt := 43) dX3_goThrough_127 rfl <| ?_
        refine o_sub [3, 4, 5, 6, 1, 0] (ls' := [(0, .ref 37), (1, .ref 12), (2, .int u2), (3, .int u3), (4, .long y21), (6, .int x22)]) rfl ?_
        exact ih1 m20 y21 x22
def fL_goThrough_12_l22 (sh : Sh) (R : RR) (k0_0 : MI → Int32 → Option (MI)) : Nat → MI → Int32 → Option (MI)
  | 0, _, _ => none
  | n0 + 1, m, v2 =>
    if m.1 1 0 ≤ v2 then
      k0_0 m v2
    else
      if ck v2 6 = true then
        lt (m.1 12 v2.toNatClampNeg) fun x3 =>
        fL_goThrough_12_l43 sh R v2 x3
          (fun m6 z4 z5 =>
            if ck x3 6 = true then
              lm (mI m6 38 (upd (m6.1 38) x3.toNatClampNeg (z4.toInt32))) fun m8 =>
              lt (v2 + 1) fun x9 =>
              fL_goThrough_12_l22 sh R k0_0 n0 m8 x9
            else none
            )
          1000 m 0 1
      else none
theorem sL_goThrough_12_l22 {sh : Sh} {R : RR} (hF : Fx sh R) (k0_0 : MI → Int32 → Option (MI)) (hk0_0 : ∀ (m : MI) (v2 : Int32) , S (eV sh R) false 5 0 0 YX3_goThrough sh R m 145 [(0, .ref 37), (1, .ref 12), (2, .int v2)] [] (k0_0 m v2)) : ∀ (n : Nat) (m : MI) (v2 : Int32) , S (eV sh R) false 5 0 0 YX3_goThrough sh R m 22 [(0, .ref 37), (1, .ref 12), (2, .int v2)] [] (fL_goThrough_12_l22 sh R k0_0 n m v2) := by
  intro n
  induction n with
  | zero => intros; exact S_none
  | succ n0 ih0 =>
    intro m v2
    rw [fL_goThrough_12_l22]
    refine o_iload_n (pc := 22) 2 dX3_goThrough_22 rfl rfl <| o_aload_n (pc := 23) 0 dX3_goThrough_23 rfl rfl <| o_getRc (pc := 24) (a := 1) (ci := 3) (j := 1) (nn := 0) dX3_goThrough_24 (hF.1 _ _ rfl) rfl (Nat.le_of_ble_eq_true rfl) k_200 rfl (hF.2 _ _ _ rfl) <| o_getI (pc := 27) (ci := 5) (j := 0) (nn := 0) dX3_goThrough_27 (hF.1 _ _ rfl) rfl (Nat.le_of_ble_eq_true rfl) k_125 rfl <| ?_
    refine o_icmp_ge (pc := 30) (tgt := 145) dX3_goThrough_30 rfl (fun h1 => ?_) (fun h1 => ?_)
    · exact hk0_0 m v2
    · refine o_aload_n (pc := 33) 1 dX3_goThrough_33 rfl rfl <| o_iload_n (pc := 34) 2 dX3_goThrough_34 rfl rfl <| ?_
      refine S_ck fun h2 => ?_
      refine o_iald (pc := 35) (nn := 6) dX3_goThrough_35 (hF.1 _ _ rfl) (ck_in h2) <| ?_
      refine o_lt fun x3 => ?_
      refine o_istore_n (pc := 36) (ls' := [(3, .int x3), (0, .ref 37), (1, .ref 12), (2, .int v2)]) dX3_goThrough_36 rfl (Nat.le_of_ble_eq_true rfl) rfl <| o_lconst (pc := 37) (x := 0) dX3_goThrough_37 rfl <| o_lstore (pc := 38) (ls' := [(4, .long 0), (3, .int x3), (0, .ref 37), (1, .ref 12), (2, .int v2)]) dX3_goThrough_38 (Nat.le_of_ble_eq_true rfl) rfl <| o_iconst (pc := 40) dX3_goThrough_40 lc_1 <| o_istore (pc := 41) (ls' := [(6, .int 1), (4, .long 0), (3, .int x3), (0, .ref 37), (1, .ref 12), (2, .int v2)]) dX3_goThrough_41 (Nat.le_of_ble_eq_true rfl) rfl <| ?_
      refine o_sub [3, 4, 5, 2, 1, 0] (ls' := [(0, .ref 37), (1, .ref 12), (2, .int v2), (3, .int x3), (4, .long 0), (6, .int 1)]) rfl ?_
      refine sL_goThrough_12_l43 hF v2 x3 _ ?_ 1000 m 0 1
      · intro m6 z4 z5
        refine o_aload_n (pc := 130) 0 dX3_goThrough_130 rfl rfl <| o_getRc (pc := 131) (a := 38) (ci := 3) (j := 0) (nn := 0) dX3_goThrough_131 (hF.1 _ _ rfl) rfl (Nat.le_of_ble_eq_true rfl) k_198 rfl (hF.2 _ _ _ rfl) <| o_iload_n (pc := 134) 3 dX3_goThrough_134 rfl rfl <| o_lload (pc := 135) 4 dX3_goThrough_135 rfl <| o_l2i (pc := 137) dX3_goThrough_137 <| ?_
        refine S_ck fun h7 => ?_
        refine o_iast (pc := 138) (nn := 6) dX3_goThrough_138 (hF.1 _ _ rfl) (ck_in h7) <| ?_
        refine o_lm fun m8 => ?_
        refine o_iinc (pc := 139) 2 (v := v2 + 1) (ls' := [(2, .int (v2 + 1)), (0, .ref 37), (1, .ref 12), (3, .int x3), (4, .long z4), (6, .int z5)]) dX3_goThrough_139 rfl rfl (Nat.le_of_ble_eq_true rfl) rfl <| ?_
        refine o_ltL (ls := fun x9 => [(2, .int x9), (0, .ref 37), (1, .ref 12), (3, .int x3), (4, .long z4), (6, .int z5)]) fun x9 => ?_
        refine o_goto (pc := 142) (tgt := 22) dX3_goThrough_142 rfl <| ?_
        refine o_sub [1, 2, 0] (ls' := [(0, .ref 37), (1, .ref 12), (2, .int x9)]) rfl ?_
        exact ih0 m8 x9
def fL_goThrough_12 (sh : Sh) (R : RR) (m : MI) : Option (MI) :=
  (fJA_fill_d0a16 sh R m 39 0).bind fun r1 =>
  if ck (r1.1 37 4) 4 = true then
    lm (mJ r1 39 (vp_updL (r1.2 39) (r1.1 37 4).toNatClampNeg 1000000)) fun m3 =>
    fL_goThrough_12_l22 sh R 
      (fun m5 z4 =>
        some m5
        )
      1000 m3 0
  else none
theorem sL_goThrough_12 {sh : Sh} {R : RR} (hF : Fx sh R) (m : MI) : KS (eV sh R) false 5 0 0 YX3_goThrough sh R m [.ref 37, .ref 12] (fL_goThrough_12 sh R m ) := by
  refine KS_of pn_X3 (fun _ => Nat.le_of_ble_eq_true rfl) ?_
  change S _ _ _ _ _ _ _ _ _ _ [(0, .ref 37), (1, .ref 12)] [] _
  unfold fL_goThrough_12
  refine o_aload_n (pc := 0) 0 dX3_goThrough_0 rfl rfl <| o_getRc (pc := 1) (a := 39) (ci := 3) (j := 2) (nn := 0) dX3_goThrough_1 (hF.1 _ _ rfl) rfl (Nat.le_of_ble_eq_true rfl) k_201 rfl (hF.2 _ _ _ rfl) <| o_lconst (pc := 4) (x := 0) dX3_goThrough_4 rfl <| ?_
  refine o_callSV (Y2 := YJ7_fill_d0a16) (pc := 5) (av := [.ref 39, .long 0]) (rest := []) dX3_goThrough_5 k_633 cs_J7_fill_d0a16 (sJA_fill_d0a16 hF m 39 0) rfl rfl (Nat.le_of_ble_eq_true rfl) (Nat.le_of_ble_eq_true rfl) fun r1 => ?_
  refine o_aload_n (pc := 8) 0 dX3_goThrough_8 rfl rfl <| o_getRc (pc := 9) (a := 39) (ci := 3) (j := 2) (nn := 0) dX3_goThrough_9 (hF.1 _ _ rfl) rfl (Nat.le_of_ble_eq_true rfl) k_201 rfl (hF.2 _ _ _ rfl) <| o_aload_n (pc := 12) 0 dX3_goThrough_12 rfl rfl <| o_getI (pc := 13) (ci := 3) (j := 4) (nn := 0) dX3_goThrough_13 (hF.1 _ _ rfl) rfl (Nat.le_of_ble_eq_true rfl) k_203 rfl <| o_ldc2 (pc := 16) dX3_goThrough_16 k_636 <| ?_
  refine S_ck fun h2 => ?_
  refine o_last (pc := 19) (nn := 4) dX3_goThrough_19 (hF.1 _ _ rfl) (ck_in h2) <| ?_
  refine o_lm fun m3 => ?_
  refine o_iconst (pc := 20) dX3_goThrough_20 lc_0 <| o_istore_n (pc := 21) (ls' := [(2, .int 0), (0, .ref 37), (1, .ref 12)]) dX3_goThrough_21 rfl (Nat.le_of_ble_eq_true rfl) rfl <| ?_
  refine o_sub [1, 2, 0] (ls' := [(0, .ref 37), (1, .ref 12), (2, .int 0)]) rfl ?_
  refine sL_goThrough_12_l22 hF  _ ?_ 1000 m3 0
  · intro m5 z4
    exact o_vret (pc := 145) dX3_goThrough_145 rfl rfl
def fL_ofOne_12 (sh : Sh) (R : RR) (m : MI) (a : Int32) : Option (Int32 × MI) :=
  (fL_goThrough_12 sh R m).bind fun r1 =>
  if ck a 6 = true then
    some (r1.1 38 a.toNatClampNeg, r1)
  else none
theorem sL_ofOne_12 {sh : Sh} {R : RR} (hF : Fx sh R) (m : MI) (a : Int32) : KS (eI sh R) false 6 0 0 YX3_ofOne sh R m [.ref 37, .int a, .ref 12] (fL_ofOne_12 sh R m a) := by
  refine KS_of pn_X3 (fun _ => Nat.le_of_ble_eq_true rfl) ?_
  change S _ _ _ _ _ _ _ _ _ _ [(0, .ref 37), (1, .int a), (2, .ref 12)] [] _
  unfold fL_ofOne_12
  refine o_aload_n (pc := 0) 0 dX3_ofOne_0 rfl rfl <| o_aload_n (pc := 1) 2 dX3_ofOne_1 rfl rfl <| ?_
  refine o_callVV (Y2 := YX3_goThrough) (pc := 2) (av := [.ref 12]) (rest := []) dX3_ofOne_2 k_629 cm_X3_goThrough (sL_goThrough_12 hF m ) (hF.1 _ _ rfl) rfl rfl (Nat.le_of_ble_eq_true rfl) (Nat.le_of_ble_eq_true rfl) fun r1 => ?_
  refine o_aload_n (pc := 5) 0 dX3_ofOne_5 rfl rfl <| o_getRc (pc := 6) (a := 38) (ci := 3) (j := 0) (nn := 0) dX3_ofOne_6 (hF.1 _ _ rfl) rfl (Nat.le_of_ble_eq_true rfl) k_198 rfl (hF.2 _ _ _ rfl) <| o_iload_n (pc := 9) 1 dX3_ofOne_9 rfl rfl <| ?_
  refine S_ck fun h2 => ?_
  refine o_iald (pc := 10) (nn := 6) dX3_ofOne_10 (hF.1 _ _ rfl) (ck_in h2) <| ?_
  exact o_iret (pc := 11) dX3_ofOne_11 rfl rfl
