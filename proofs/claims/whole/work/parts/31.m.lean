def fW_drawNext (sh : Sh) (R : RR) (m : MI) (a : Int32) : Option (Int32 × MI) :=
  if ck (m.1 1 8) 6 = true then
    lt (m.1 12 (m.1 1 8).toNatClampNeg) fun x2 =>
    (fW_chance sh R m x2 (m.1 1 8) (m.1 1 6) (m.1 1 7)).bind fun r3 =>
    if r3.1 ≤ a then
      lm (mI r3.2 1 (upd (r3.2.1 1) 7 ((r3.2.1 1 7) - 1))) fun m5 =>
      lm (mI m5 1 (upd (m5.1 1) 8 ((m5.1 1 8) + 1))) fun m6 =>
      if m6.1 1 6 = 0 then
        lm (mI m6 1 (upd (m6.1 1) 9 ((m6.1 1 9) + 1))) fun m8 =>
        (fW_makeWhole sh R m8).bind fun r9 =>
        some ((x2 + 0) + 100, r9)
      else
        if m6.1 1 8 = m6.1 1 0 then
          lm (mI m6 1 (upd (m6.1 1) 9 ((m6.1 1 9) + 1))) fun m11 =>
          (fW_makeWhole sh R m11).bind fun r12 =>
          some ((x2 + 0) + 100, r12)
        else
          some ((x2 + 0) + 0, m6)
    else
      lm (mI r3.2 1 (upd (r3.2.1 1) 6 ((r3.2.1 1 6) - 1))) fun m13 =>
      if ck x2 6 = true then
        if ck x2 6 = true then
          lm (mI m13 4 (upd (m13.1 4) x2.toNatClampNeg (if (m13.1 4 x2.toNatClampNeg) + 1 < 999 then (m13.1 4 x2.toNatClampNeg) + 1 else 999))) fun m16 =>
          lm (mI m16 1 (upd (m16.1 1) 8 ((m16.1 1 8) + 1))) fun m17 =>
          if m17.1 1 6 = 0 then
            lm (mI m17 1 (upd (m17.1 1) 9 ((m17.1 1 9) + 1))) fun m19 =>
            (fW_makeWhole sh R m19).bind fun r20 =>
            some ((x2 + 10) + 100, r20)
          else
            if m17.1 1 8 = m17.1 1 0 then
              lm (mI m17 1 (upd (m17.1 1) 9 ((m17.1 1 9) + 1))) fun m22 =>
              (fW_makeWhole sh R m22).bind fun r23 =>
              some ((x2 + 10) + 100, r23)
            else
              some ((x2 + 10) + 0, m17)
        else none
      else none
  else none
theorem sW_drawNext {sh : Sh} {R : RR} (hF : Fx sh R) (m : MI) (a : Int32) : KS (eI sh R) false 4 0 0 YX5_drawNext sh R m [.ref 1, .int a] (fW_drawNext sh R m a) := by
  refine KS_of pn_X5 (fun _ => Nat.le_of_ble_eq_true rfl) ?_
  change S _ _ _ _ _ _ _ _ _ _ [(0, .ref 1), (1, .int a)] [] _
  unfold fW_drawNext
  refine o_aload_n (pc := 0) 0 dX5_drawNext_0 rfl rfl <| o_getRc (pc := 1) (a := 12) (ci := 5) (j := 5) (nn := 0) dX5_drawNext_1 (hF.1 _ _ rfl) rfl (Nat.le_of_ble_eq_true rfl) k_134 rfl (hF.2 _ _ _ rfl) <| o_aload_n (pc := 4) 0 dX5_drawNext_4 rfl rfl <| o_getI (pc := 5) (ci := 5) (j := 8) (nn := 0) dX5_drawNext_5 (hF.1 _ _ rfl) rfl (Nat.le_of_ble_eq_true rfl) k_140 rfl <| ?_
  refine S_ck fun h1 => ?_
  refine o_iald (pc := 8) (nn := 6) dX5_drawNext_8 (hF.1 _ _ rfl) (ck_in h1) <| ?_
  refine o_lt fun x2 => ?_
  refine o_istore_n (pc := 9) (ls' := [(2, .int x2), (0, .ref 1), (1, .int a)]) dX5_drawNext_9 rfl (Nat.le_of_ble_eq_true rfl) rfl <| o_iload_n (pc := 10) 2 dX5_drawNext_10 rfl rfl <| o_aload_n (pc := 11) 1 dX5_drawNext_11 rfl rfl <| o_iload_n (pc := 12) 0 dX5_drawNext_12 rfl rfl <| o_aload_n (pc := 13) 1 dX5_drawNext_13 rfl rfl <| o_getI (pc := 14) (ci := 5) (j := 8) (nn := 0) dX5_drawNext_14 (hF.1 _ _ rfl) rfl (Nat.le_of_ble_eq_true rfl) k_140 rfl <| o_aload_n (pc := 17) 1 dX5_drawNext_17 rfl rfl <| o_getI (pc := 18) (ci := 5) (j := 6) (nn := 0) dX5_drawNext_18 (hF.1 _ _ rfl) rfl (Nat.le_of_ble_eq_true rfl) k_136 rfl <| o_aload_n (pc := 21) 1 dX5_drawNext_21 rfl rfl <| o_getI (pc := 22) (ci := 5) (j := 7) (nn := 0) dX5_drawNext_22 (hF.1 _ _ rfl) rfl (Nat.le_of_ble_eq_true rfl) k_138 rfl <| ?_
  refine o_callVI (Y2 := YX5_chance) (pc := 25) (av := [.int x2, .int (m.1 1 8), .int (m.1 1 6), .int (m.1 1 7)]) (rest := [.int a]) dX5_drawNext_25 k_612 cm_X5_chance (sW_chance hF m x2 (m.1 1 8) (m.1 1 6) (m.1 1 7)) (hF.1 _ _ rfl) rfl rfl (Nat.le_of_ble_eq_true rfl) (Nat.le_of_ble_eq_true rfl) fun r3 => ?_
  refine o_icmp_ge (pc := 28) (tgt := 35) dX5_drawNext_28 rfl (fun h4 => ?_) (fun h4 => ?_)
  · refine o_iconst (pc := 35) dX5_drawNext_35 lc_0 <| o_istore_n (pc := 36) (ls' := [(3, .int 0), (2, .int x2), (0, .ref 1), (1, .int a)]) dX5_drawNext_36 rfl (Nat.le_of_ble_eq_true rfl) rfl <| o_iload_n (pc := 37) 0 dX5_drawNext_37 rfl rfl <| o_if_eq_t (pc := 38) (tgt := 74) dX5_drawNext_38 rfl (by decide) <| o_aload_n (pc := 74) 2 dX5_drawNext_74 rfl rfl <| o_dup (pc := 75) dX5_drawNext_75 rfl <| o_getI (pc := 76) (ci := 5) (j := 7) (nn := 0) dX5_drawNext_76 (hF.1 _ _ rfl) rfl (Nat.le_of_ble_eq_true rfl) k_138 rfl <| o_iconst (pc := 79) dX5_drawNext_79 lc_1 <| o_isub (pc := 80) dX5_drawNext_80 <| o_putI (pc := 81) (ci := 5) (j := 7) (nn := 0) dX5_drawNext_81 (hF.1 _ _ rfl) rfl (Nat.le_of_ble_eq_true rfl) k_138 rfl rfl rfl rfl rfl <| ?_
    refine o_lm fun m5 => ?_
    refine o_aload_n (pc := 84) 2 dX5_drawNext_84 rfl rfl <| o_dup (pc := 85) dX5_drawNext_85 rfl <| o_getI (pc := 86) (ci := 5) (j := 8) (nn := 0) dX5_drawNext_86 (hF.1 _ _ rfl) rfl (Nat.le_of_ble_eq_true rfl) k_140 rfl <| o_iconst (pc := 89) dX5_drawNext_89 lc_1 <| o_iadd (pc := 90) dX5_drawNext_90 <| o_putI (pc := 91) (ci := 5) (j := 8) (nn := 0) dX5_drawNext_91 (hF.1 _ _ rfl) rfl (Nat.le_of_ble_eq_true rfl) k_140 rfl rfl rfl rfl rfl <| ?_
    refine o_lm fun m6 => ?_
    refine o_aload_n (pc := 94) 2 dX5_drawNext_94 rfl rfl <| o_getI (pc := 95) (ci := 5) (j := 6) (nn := 0) dX5_drawNext_95 (hF.1 _ _ rfl) rfl (Nat.le_of_ble_eq_true rfl) k_136 rfl <| ?_
    refine o_if_eq (pc := 98) (tgt := 112) dX5_drawNext_98 rfl (fun h7 => ?_) (fun h7 => ?_)
    · refine o_iconst (pc := 112) dX5_drawNext_112 lc_1 <| o_goto (pc := 113) (tgt := 117) dX5_drawNext_113 rfl <| o_istore (pc := 117) (ls' := [(4, .int 1), (3, .int 0), (2, .int x2), (0, .ref 1), (1, .int a)]) dX5_drawNext_117 (Nat.le_of_ble_eq_true rfl) rfl <| o_iload (pc := 119) 0 dX5_drawNext_119 rfl <| o_if_eq_f (pc := 121) (tgt := 138) dX5_drawNext_121 rfl (by decide) <| o_aload_n (pc := 124) 3 dX5_drawNext_124 rfl rfl <| o_dup (pc := 125) dX5_drawNext_125 rfl <| o_getI (pc := 126) (ci := 5) (j := 9) (nn := 0) dX5_drawNext_126 (hF.1 _ _ rfl) rfl (Nat.le_of_ble_eq_true rfl) k_142 rfl <| o_iconst (pc := 129) dX5_drawNext_129 lc_1 <| o_iadd (pc := 130) dX5_drawNext_130 <| ?_
      refine o_putI (pc := 131) (ci := 5) (j := 9) (nn := 0) dX5_drawNext_131 (hF.1 _ _ rfl) rfl (Nat.le_of_ble_eq_true rfl) k_142 rfl rfl rfl rfl rfl <| ?_
      refine o_lm fun m8 => ?_
      refine o_aload_n (pc := 134) 3 dX5_drawNext_134 rfl rfl <| ?_
      refine o_callVV (Y2 := YX5_makeWhole) (pc := 135) (av := []) (rest := []) dX5_drawNext_135 k_334 cm_X5_makeWhole (sW_makeWhole hF m8 ) (hF.1 _ _ rfl) rfl rfl (Nat.le_of_ble_eq_true rfl) (Nat.le_of_ble_eq_true rfl) fun r9 => ?_
      refine o_iload_n (pc := 138) 2 dX5_drawNext_138 rfl rfl <| o_iload_n (pc := 139) 1 dX5_drawNext_139 rfl rfl <| o_if_eq_t (pc := 140) (tgt := 148) dX5_drawNext_140 rfl (by decide) <| o_iconst (pc := 148) dX5_drawNext_148 lc_0 <| o_iadd (pc := 149) dX5_drawNext_149 <| o_iload (pc := 150) 0 dX5_drawNext_150 rfl <| o_if_eq_f (pc := 152) (tgt := 160) dX5_drawNext_152 rfl (by decide) <| o_bipush (pc := 155) dX5_drawNext_155 lb_100 <| o_goto (pc := 157) (tgt := 161) dX5_drawNext_157 rfl <| o_iadd (pc := 161) dX5_drawNext_161 <| ?_
      exact o_iret (pc := 162) dX5_drawNext_162 rfl rfl
    · refine o_aload_n (pc := 101) 2 dX5_drawNext_101 rfl rfl <| o_getI (pc := 102) (ci := 5) (j := 8) (nn := 0) dX5_drawNext_102 (hF.1 _ _ rfl) rfl (Nat.le_of_ble_eq_true rfl) k_140 rfl <| o_aload_n (pc := 105) 2 dX5_drawNext_105 rfl rfl <| o_getI (pc := 106) (ci := 5) (j := 0) (nn := 0) dX5_drawNext_106 (hF.1 _ _ rfl) rfl (Nat.le_of_ble_eq_true rfl) k_123 rfl <| ?_
      refine o_icmp_ne (pc := 109) (tgt := 116) dX5_drawNext_109 rfl (fun h10 => ?_) (fun h10 => ?_)
      · refine o_iconst (pc := 112) dX5_drawNext_112 lc_1 <| o_goto (pc := 113) (tgt := 117) dX5_drawNext_113 rfl <| o_istore (pc := 117) (ls' := [(4, .int 1), (3, .int 0), (2, .int x2), (0, .ref 1), (1, .int a)]) dX5_drawNext_117 (Nat.le_of_ble_eq_true rfl) rfl <| o_iload (pc := 119) 0 dX5_drawNext_119 rfl <| o_if_eq_f (pc := 121) (tgt := 138) dX5_drawNext_121 rfl (by decide) <| o_aload_n (pc := 124) 3 dX5_drawNext_124 rfl rfl <| o_dup (pc := 125) dX5_drawNext_125 rfl <| o_getI (pc := 126) (ci := 5) (j := 9) (nn := 0) dX5_drawNext_126 (hF.1 _ _ rfl) rfl (Nat.le_of_ble_eq_true rfl) k_142 rfl <| o_iconst (pc := 129) dX5_drawNext_129 lc_1 <| o_iadd (pc := 130) dX5_drawNext_130 <| ?_
        refine o_putI (pc := 131) (ci := 5) (j := 9) (nn := 0) dX5_drawNext_131 (hF.1 _ _ rfl) rfl (Nat.le_of_ble_eq_true rfl) k_142 rfl rfl rfl rfl rfl <| ?_
        refine o_lm fun m11 => ?_
        refine o_aload_n (pc := 134) 3 dX5_drawNext_134 rfl rfl <| ?_
        refine o_callVV (Y2 := YX5_makeWhole) (pc := 135) (av := []) (rest := []) dX5_drawNext_135 k_334 cm_X5_makeWhole (sW_makeWhole hF m11 ) (hF.1 _ _ rfl) rfl rfl (Nat.le_of_ble_eq_true rfl) (Nat.le_of_ble_eq_true rfl) fun r12 => ?_
        refine o_iload_n (pc := 138) 2 dX5_drawNext_138 rfl rfl <| o_iload_n (pc := 139) 1 dX5_drawNext_139 rfl rfl <| o_if_eq_t (pc := 140) (tgt := 148) dX5_drawNext_140 rfl (by decide) <| o_iconst (pc := 148) dX5_drawNext_148 lc_0 <| o_iadd (pc := 149) dX5_drawNext_149 <| o_iload (pc := 150) 0 dX5_drawNext_150 rfl <| o_if_eq_f (pc := 152) (tgt := 160) dX5_drawNext_152 rfl (by decide) <| o_bipush (pc := 155) dX5_drawNext_155 lb_100 <| o_goto (pc := 157) (tgt := 161) dX5_drawNext_157 rfl <| o_iadd (pc := 161) dX5_drawNext_161 <| ?_
        exact o_iret (pc := 162) dX5_drawNext_162 rfl rfl
      · refine o_iconst (pc := 116) dX5_drawNext_116 lc_0 <| o_istore (pc := 117) (ls' := [(4, .int 0), (3, .int 0), (2, .int x2), (0, .ref 1), (1, .int a)]) dX5_drawNext_117 (Nat.le_of_ble_eq_true rfl) rfl <| o_iload (pc := 119) 0 dX5_drawNext_119 rfl <| o_if_eq_t (pc := 121) (tgt := 138) dX5_drawNext_121 rfl (by decide) <| o_iload_n (pc := 138) 2 dX5_drawNext_138 rfl rfl <| o_iload_n (pc := 139) 1 dX5_drawNext_139 rfl rfl <| o_if_eq_t (pc := 140) (tgt := 148) dX5_drawNext_140 rfl (by decide) <| o_iconst (pc := 148) dX5_drawNext_148 lc_0 <| o_iadd (pc := 149) dX5_drawNext_149 <| o_iload (pc := 150) 0 dX5_drawNext_150 rfl <| ?_
        refine o_if_eq_t (pc := 152) (tgt := 160) dX5_drawNext_152 rfl (by decide) <| o_iconst (pc := 160) dX5_drawNext_160 lc_0 <| o_iadd (pc := 161) dX5_drawNext_161 <| ?_
        exact o_iret (pc := 162) dX5_drawNext_162 rfl rfl
  · refine o_iconst (pc := 31) dX5_drawNext_31 lc_1 <| o_goto (pc := 32) (tgt := 36) dX5_drawNext_32 rfl <| o_istore_n (pc := 36) (ls' := [(3, .int 1), (2, .int x2), (0, .ref 1), (1, .int a)]) dX5_drawNext_36 rfl (Nat.le_of_ble_eq_true rfl) rfl <| o_iload_n (pc := 37) 0 dX5_drawNext_37 rfl rfl <| o_if_eq_f (pc := 38) (tgt := 74) dX5_drawNext_38 rfl (by decide) <| o_aload_n (pc := 41) 2 dX5_drawNext_41 rfl rfl <| o_dup (pc := 42) dX5_drawNext_42 rfl <| o_getI (pc := 43) (ci := 5) (j := 6) (nn := 0) dX5_drawNext_43 (hF.1 _ _ rfl) rfl (Nat.le_of_ble_eq_true rfl) k_136 rfl <| o_iconst (pc := 46) dX5_drawNext_46 lc_1 <| o_isub (pc := 47) dX5_drawNext_47 <| ?_
    refine o_putI (pc := 48) (ci := 5) (j := 6) (nn := 0) dX5_drawNext_48 (hF.1 _ _ rfl) rfl (Nat.le_of_ble_eq_true rfl) k_136 rfl rfl rfl rfl rfl <| ?_
    refine o_lm fun m13 => ?_
    refine o_aload_n (pc := 51) 2 dX5_drawNext_51 rfl rfl <| o_getRc (pc := 52) (a := 4) (ci := 5) (j := 3) (nn := 0) dX5_drawNext_52 (hF.1 _ _ rfl) rfl (Nat.le_of_ble_eq_true rfl) k_130 rfl (hF.2 _ _ _ rfl) <| o_iload_n (pc := 55) 1 dX5_drawNext_55 rfl rfl <| o_sipush (pc := 56) dX5_drawNext_56 ls_999 <| o_aload_n (pc := 59) 2 dX5_drawNext_59 rfl rfl <| o_getRc (pc := 60) (a := 4) (ci := 5) (j := 3) (nn := 0) dX5_drawNext_60 (hF.1 _ _ rfl) rfl (Nat.le_of_ble_eq_true rfl) k_130 rfl (hF.2 _ _ _ rfl) <| o_iload_n (pc := 63) 1 dX5_drawNext_63 rfl rfl <| ?_
    refine S_ck fun h14 => ?_
    refine o_iald (pc := 64) (nn := 6) dX5_drawNext_64 (hF.1 _ _ rfl) (ck_in h14) <| o_iconst (pc := 65) dX5_drawNext_65 lc_1 <| o_iadd (pc := 66) dX5_drawNext_66 <| o_min (pc := 67) dX5_drawNext_67 k_613 k_519 k_81 k_520 (Nat.le_of_ble_eq_true rfl) (Nat.le_of_ble_eq_true rfl) <| ?_
    refine S_ck fun h15 => ?_
    refine o_iast (pc := 70) (nn := 6) dX5_drawNext_70 (hF.1 _ _ rfl) (ck_in h15) <| ?_
    refine o_lm fun m16 => ?_
    refine o_goto (pc := 71) (tgt := 84) dX5_drawNext_71 rfl <| o_aload_n (pc := 84) 2 dX5_drawNext_84 rfl rfl <| o_dup (pc := 85) dX5_drawNext_85 rfl <| o_getI (pc := 86) (ci := 5) (j := 8) (nn := 0) dX5_drawNext_86 (hF.1 _ _ rfl) rfl (Nat.le_of_ble_eq_true rfl) k_140 rfl <| o_iconst (pc := 89) dX5_drawNext_89 lc_1 <| o_iadd (pc := 90) dX5_drawNext_90 <| o_putI (pc := 91) (ci := 5) (j := 8) (nn := 0) dX5_drawNext_91 (hF.1 _ _ rfl) rfl (Nat.le_of_ble_eq_true rfl) k_140 rfl rfl rfl rfl rfl <| ?_
    refine o_lm fun m17 => ?_
    refine o_aload_n (pc := 94) 2 dX5_drawNext_94 rfl rfl <| o_getI (pc := 95) (ci := 5) (j := 6) (nn := 0) dX5_drawNext_95 (hF.1 _ _ rfl) rfl (Nat.le_of_ble_eq_true rfl) k_136 rfl <| ?_
    refine o_if_eq (pc := 98) (tgt := 112) dX5_drawNext_98 rfl (fun h18 => ?_) (fun h18 => ?_)
    · refine o_iconst (pc := 112) dX5_drawNext_112 lc_1 <| o_goto (pc := 113) (tgt := 117) dX5_drawNext_113 rfl <| o_istore (pc := 117) (ls' := [(4, .int 1), (3, .int 1), (2, .int x2), (0, .ref 1), (1, .int a)]) dX5_drawNext_117 (Nat.le_of_ble_eq_true rfl) rfl <| o_iload (pc := 119) 0 dX5_drawNext_119 rfl <| o_if_eq_f (pc := 121) (tgt := 138) dX5_drawNext_121 rfl (by decide) <| o_aload_n (pc := 124) 3 dX5_drawNext_124 rfl rfl <| o_dup (pc := 125) dX5_drawNext_125 rfl <| o_getI (pc := 126) (ci := 5) (j := 9) (nn := 0) dX5_drawNext_126 (hF.1 _ _ rfl) rfl (Nat.le_of_ble_eq_true rfl) k_142 rfl <| o_iconst (pc := 129) dX5_drawNext_129 lc_1 <| o_iadd (pc := 130) dX5_drawNext_130 <| ?_
      refine o_putI (pc := 131) (ci := 5) (j := 9) (nn := 0) dX5_drawNext_131 (hF.1 _ _ rfl) rfl (Nat.le_of_ble_eq_true rfl) k_142 rfl rfl rfl rfl rfl <| ?_
      refine o_lm fun m19 => ?_
      refine o_aload_n (pc := 134) 3 dX5_drawNext_134 rfl rfl <| ?_
      refine o_callVV (Y2 := YX5_makeWhole) (pc := 135) (av := []) (rest := []) dX5_drawNext_135 k_334 cm_X5_makeWhole (sW_makeWhole hF m19 ) (hF.1 _ _ rfl) rfl rfl (Nat.le_of_ble_eq_true rfl) (Nat.le_of_ble_eq_true rfl) fun r20 => ?_
      refine o_iload_n (pc := 138) 2 dX5_drawNext_138 rfl rfl <| o_iload_n (pc := 139) 1 dX5_drawNext_139 rfl rfl <| o_if_eq_f (pc := 140) (tgt := 148) dX5_drawNext_140 rfl (by decide) <| o_bipush (pc := 143) dX5_drawNext_143 lb_10 <| o_goto (pc := 145) (tgt := 149) dX5_drawNext_145 rfl <| o_iadd (pc := 149) dX5_drawNext_149 <| o_iload (pc := 150) 0 dX5_drawNext_150 rfl <| o_if_eq_f (pc := 152) (tgt := 160) dX5_drawNext_152 rfl (by decide) <| o_bipush (pc := 155) dX5_drawNext_155 lb_100 <| o_goto (pc := 157) (tgt := 161) dX5_drawNext_157 rfl <| ?_
      refine o_iadd (pc := 161) dX5_drawNext_161 <| ?_
      exact o_iret (pc := 162) dX5_drawNext_162 rfl rfl
    · refine o_aload_n (pc := 101) 2 dX5_drawNext_101 rfl rfl <| o_getI (pc := 102) (ci := 5) (j := 8) (nn := 0) dX5_drawNext_102 (hF.1 _ _ rfl) rfl (Nat.le_of_ble_eq_true rfl) k_140 rfl <| o_aload_n (pc := 105) 2 dX5_drawNext_105 rfl rfl <| o_getI (pc := 106) (ci := 5) (j := 0) (nn := 0) dX5_drawNext_106 (hF.1 _ _ rfl) rfl (Nat.le_of_ble_eq_true rfl) k_123 rfl <| ?_
      refine o_icmp_ne (pc := 109) (tgt := 116) dX5_drawNext_109 rfl (fun h21 => ?_) (fun h21 => ?_)
      · refine o_iconst (pc := 112) dX5_drawNext_112 lc_1 <| o_goto (pc := 113) (tgt := 117) dX5_drawNext_113 rfl <| o_istore (pc := 117) (ls' := [(4, .int 1), (3, .int 1), (2, .int x2), (0, .ref 1), (1, .int a)]) dX5_drawNext_117 (Nat.le_of_ble_eq_true rfl) rfl <| o_iload (pc := 119) 0 dX5_drawNext_119 rfl <| o_if_eq_f (pc := 121) (tgt := 138) dX5_drawNext_121 rfl (by decide) <| o_aload_n (pc := 124) 3 dX5_drawNext_124 rfl rfl <| o_dup (pc := 125) dX5_drawNext_125 rfl <| o_getI (pc := 126) (ci := 5) (j := 9) (nn := 0) dX5_drawNext_126 (hF.1 _ _ rfl) rfl (Nat.le_of_ble_eq_true rfl) k_142 rfl <| o_iconst (pc := 129) dX5_drawNext_129 lc_1 <| o_iadd (pc := 130) dX5_drawNext_130 <| ?_
        refine o_putI (pc := 131) (ci := 5) (j := 9) (nn := 0) dX5_drawNext_131 (hF.1 _ _ rfl) rfl (Nat.le_of_ble_eq_true rfl) k_142 rfl rfl rfl rfl rfl <| ?_
        refine o_lm fun m22 => ?_
        refine o_aload_n (pc := 134) 3 dX5_drawNext_134 rfl rfl <| ?_
        refine o_callVV (Y2 := YX5_makeWhole) (pc := 135) (av := []) (rest := []) dX5_drawNext_135 k_334 cm_X5_makeWhole (sW_makeWhole hF m22 ) (hF.1 _ _ rfl) rfl rfl (Nat.le_of_ble_eq_true rfl) (Nat.le_of_ble_eq_true rfl) fun r23 => ?_
        refine o_iload_n (pc := 138) 2 dX5_drawNext_138 rfl rfl <| o_iload_n (pc := 139) 1 dX5_drawNext_139 rfl rfl <| o_if_eq_f (pc := 140) (tgt := 148) dX5_drawNext_140 rfl (by decide) <| o_bipush (pc := 143) dX5_drawNext_143 lb_10 <| o_goto (pc := 145) (tgt := 149) dX5_drawNext_145 rfl <| o_iadd (pc := 149) dX5_drawNext_149 <| o_iload (pc := 150) 0 dX5_drawNext_150 rfl <| o_if_eq_f (pc := 152) (tgt := 160) dX5_drawNext_152 rfl (by decide) <| o_bipush (pc := 155) dX5_drawNext_155 lb_100 <| o_goto (pc := 157) (tgt := 161) dX5_drawNext_157 rfl <| ?_
        refine o_iadd (pc := 161) dX5_drawNext_161 <| ?_
        exact o_iret (pc := 162) dX5_drawNext_162 rfl rfl
      · refine o_iconst (pc := 116) dX5_drawNext_116 lc_0 <| o_istore (pc := 117) (ls' := [(4, .int 0), (3, .int 1), (2, .int x2), (0, .ref 1), (1, .int a)]) dX5_drawNext_117 (Nat.le_of_ble_eq_true rfl) rfl <| o_iload (pc := 119) 0 dX5_drawNext_119 rfl <| o_if_eq_t (pc := 121) (tgt := 138) dX5_drawNext_121 rfl (by decide) <| o_iload_n (pc := 138) 2 dX5_drawNext_138 rfl rfl <| o_iload_n (pc := 139) 1 dX5_drawNext_139 rfl rfl <| o_if_eq_f (pc := 140) (tgt := 148) dX5_drawNext_140 rfl (by decide) <| o_bipush (pc := 143) dX5_drawNext_143 lb_10 <| o_goto (pc := 145) (tgt := 149) dX5_drawNext_145 rfl <| o_iadd (pc := 149) dX5_drawNext_149 <| ?_
        refine o_iload (pc := 150) 0 dX5_drawNext_150 rfl <| o_if_eq_t (pc := 152) (tgt := 160) dX5_drawNext_152 rfl (by decide) <| o_iconst (pc := 160) dX5_drawNext_160 lc_0 <| o_iadd (pc := 161) dX5_drawNext_161 <| ?_
        exact o_iret (pc := 162) dX5_drawNext_162 rfl rfl
def fC_draw (sh : Sh) (R : RR) (m : MI) (a : Int32) : Option (Int32 × MI) :=
  (fC_isDrawNumber m a).bind fun r1 =>
  if r1.1 = 0 then
    some (-2, r1.2)
  else
    (fW_next r1.2).bind fun r3 =>
    if r3.1 = -5 then
      some (-3, r3.2)
    else
      if r3.2.1 1 9 < 9999 then
        (fW_drawNext sh R r3.2 a).bind fun r6 =>
        some (r6.1, r6.2)
      else
        some (-3, r3.2)
theorem sC_draw {sh : Sh} {R : RR} (hF : Fx sh R) (m : MI) (a : Int32) : KS (eI sh R) false 5 0 0 YX6_draw sh R m [.ref 0, .int a] (fC_draw sh R m a) := by
  refine KS_of pn_X6 (fun _ => Nat.le_of_ble_eq_true rfl) ?_
  change S _ _ _ _ _ _ _ _ _ _ [(0, .ref 0), (1, .int a)] [] _
  unfold fC_draw
  refine o_iload_n (pc := 0) 1 dX6_draw_0 rfl rfl <| ?_
  refine o_callSI (Y2 := YX6_isDrawNumber) (pc := 1) (av := [.int a]) (rest := []) dX6_draw_1 k_604 cs_X6_isDrawNumber (sC_isDrawNumber hF m a) rfl rfl (Nat.le_of_ble_eq_true rfl) (Nat.le_of_ble_eq_true rfl) fun r1 => ?_
  refine o_if_ne (pc := 4) (tgt := 10) dX6_draw_4 rfl (fun h2 => ?_) (fun h2 => ?_)
  · refine o_bipush (pc := 7) dX6_draw_7 lb_m2 <| ?_
    exact o_iret (pc := 9) dX6_draw_9 rfl rfl
  · refine o_aload_n (pc := 10) 0 dX6_draw_10 rfl rfl <| o_getRc (pc := 11) (a := 1) (ci := 6) (j := 0) (nn := 0) dX6_draw_11 (hF.1 _ _ rfl) rfl (Nat.le_of_ble_eq_true rfl) k_292 rfl (hF.2 _ _ _ rfl) <| ?_
    refine o_callVI (Y2 := YX5_next) (pc := 14) (av := []) (rest := []) dX6_draw_14 k_596 cm_X5_next (sW_next hF r1.2 ) (hF.1 _ _ rfl) rfl rfl (Nat.le_of_ble_eq_true rfl) (Nat.le_of_ble_eq_true rfl) fun r3 => ?_
    refine o_bipush (pc := 17) dX6_draw_17 lb_m5 <| ?_
    refine o_icmp_eq (pc := 19) (tgt := 35) dX6_draw_19 rfl (fun h4 => ?_) (fun h4 => ?_)
    · refine o_bipush (pc := 35) dX6_draw_35 lb_m3 <| ?_
      exact o_iret (pc := 37) dX6_draw_37 rfl rfl
    · refine o_aload_n (pc := 22) 0 dX6_draw_22 rfl rfl <| o_getRc (pc := 23) (a := 1) (ci := 6) (j := 0) (nn := 0) dX6_draw_23 (hF.1 _ _ rfl) rfl (Nat.le_of_ble_eq_true rfl) k_292 rfl (hF.2 _ _ _ rfl) <| o_getI (pc := 26) (ci := 5) (j := 9) (nn := 0) dX6_draw_26 (hF.1 _ _ rfl) rfl (Nat.le_of_ble_eq_true rfl) k_143 rfl <| o_sipush (pc := 29) dX6_draw_29 ls_9999 <| ?_
      refine o_icmp_lt (pc := 32) (tgt := 38) dX6_draw_32 rfl (fun h5 => ?_) (fun h5 => ?_)
      · refine o_aload_n (pc := 38) 0 dX6_draw_38 rfl rfl <| o_getRc (pc := 39) (a := 1) (ci := 6) (j := 0) (nn := 0) dX6_draw_39 (hF.1 _ _ rfl) rfl (Nat.le_of_ble_eq_true rfl) k_292 rfl (hF.2 _ _ _ rfl) <| o_iload_n (pc := 42) 1 dX6_draw_42 rfl rfl <| ?_
        refine o_callVI (Y2 := YX5_drawNext) (pc := 43) (av := [.int a]) (rest := []) dX6_draw_43 k_608 cm_X5_drawNext (sW_drawNext hF r3.2 a) (hF.1 _ _ rfl) rfl rfl (Nat.le_of_ble_eq_true rfl) (Nat.le_of_ble_eq_true rfl) fun r6 => ?_
        exact o_iret (pc := 46) dX6_draw_46 rfl rfl
      · refine o_bipush (pc := 35) dX6_draw_35 lb_m3 <| ?_
        exact o_iret (pc := 37) dX6_draw_37 rfl rfl
def fL_begin (sh : Sh) (R : RR) (m : MI) (a : Int32) : Option (MI) :=
  (fW_wholeShorts sh R m).bind fun r1 =>
  lm (mI r1.2 37 (upd (r1.2.1 37) 4 r1.1)) fun m2 =>
  (fW_wholeLongs sh R m2).bind fun r3 =>
  lm (mI r3.2 37 (upd (r3.2.1 37) 5 (r3.1 + a))) fun m4 =>
  (fJA_fill_53178 sh R m4 40 (-1)).bind fun r5 =>
  some r5
theorem sL_begin {sh : Sh} {R : RR} (hF : Fx sh R) (m : MI) (a : Int32) : KS (eV sh R) false 2 0 0 YX3_begin sh R m [.ref 37, .int a] (fL_begin sh R m a) := by
  refine KS_of pn_X3 (fun _ => Nat.le_of_ble_eq_true rfl) ?_
  change S _ _ _ _ _ _ _ _ _ _ [(0, .ref 37), (1, .int a)] [] _
  unfold fL_begin
  refine o_aload_n (pc := 0) 0 dX3_begin_0 rfl rfl <| o_aload_n (pc := 1) 0 dX3_begin_1 rfl rfl <| o_getRc (pc := 2) (a := 1) (ci := 3) (j := 1) (nn := 0) dX3_begin_2 (hF.1 _ _ rfl) rfl (Nat.le_of_ble_eq_true rfl) k_200 rfl (hF.2 _ _ _ rfl) <| ?_
  refine o_callVI (Y2 := YX5_wholeShorts) (pc := 5) (av := []) (rest := [.ref 37]) dX3_begin_5 k_622 cm_X5_wholeShorts (sW_wholeShorts hF m ) (hF.1 _ _ rfl) rfl rfl (Nat.le_of_ble_eq_true rfl) (Nat.le_of_ble_eq_true rfl) fun r1 => ?_
  refine o_putI (pc := 8) (ci := 3) (j := 4) (nn := 0) dX3_begin_8 (hF.1 _ _ rfl) rfl (Nat.le_of_ble_eq_true rfl) k_203 rfl rfl rfl rfl rfl <| ?_
  refine o_lm fun m2 => ?_
  refine o_aload_n (pc := 11) 0 dX3_begin_11 rfl rfl <| o_aload_n (pc := 12) 0 dX3_begin_12 rfl rfl <| o_getRc (pc := 13) (a := 1) (ci := 3) (j := 1) (nn := 0) dX3_begin_13 (hF.1 _ _ rfl) rfl (Nat.le_of_ble_eq_true rfl) k_200 rfl (hF.2 _ _ _ rfl) <| ?_
  refine o_callVI (Y2 := YX5_wholeLongs) (pc := 16) (av := []) (rest := [.ref 37]) dX3_begin_16 k_623 cm_X5_wholeLongs (sW_wholeLongs hF m2 ) (hF.1 _ _ rfl) rfl rfl (Nat.le_of_ble_eq_true rfl) (Nat.le_of_ble_eq_true rfl) fun r3 => ?_
  refine o_iload_n (pc := 19) 1 dX3_begin_19 rfl rfl <| o_iadd (pc := 20) dX3_begin_20 <| o_putI (pc := 21) (ci := 3) (j := 5) (nn := 0) dX3_begin_21 (hF.1 _ _ rfl) rfl (Nat.le_of_ble_eq_true rfl) k_204 rfl rfl rfl rfl rfl <| ?_
  refine o_lm fun m4 => ?_
  refine o_aload_n (pc := 24) 0 dX3_begin_24 rfl rfl <| o_getRc (pc := 25) (a := 40) (ci := 3) (j := 3) (nn := 0) dX3_begin_25 (hF.1 _ _ rfl) rfl (Nat.le_of_ble_eq_true rfl) k_202 rfl (hF.2 _ _ _ rfl) <| o_iconst (pc := 28) dX3_begin_28 lc_m1 <| ?_
  refine o_callSV (Y2 := YJ7_fill_53178) (pc := 29) (av := [.ref 40, .int (-1)]) (rest := []) dX3_begin_29 k_624 cs_J7_fill_53178 (sJA_fill_53178 hF m4 40 (-1)) rfl rfl (Nat.le_of_ble_eq_true rfl) (Nat.le_of_ble_eq_true rfl) fun r5 => ?_
  exact o_vret (pc := 32) dX3_begin_32 rfl rfl
def fJA_fill_d0a16_l6 (sh : Sh) (R : RR) (u0 : Nat) (u1 : Int64) (u4 : Int32) (k0_0 : MI → Int32 → Option (MI)) : Nat → MI → Int32 → Option (MI)
  | 0, _, _ => none
  | n0 + 1, m, v3 =>
    if u4 ≤ v3 then
      k0_0 m v3
    else
      if kA sh u0 1 = true then
        if ck v3 (lenA sh u0) = true then
          lm (mJ m u0 (vp_updL (m.2 u0) v3.toNatClampNeg u1)) fun m4 =>
          lt (v3 + 1) fun x5 =>
          fJA_fill_d0a16_l6 sh R u0 u1 u4 k0_0 n0 m4 x5
        else none
      else none
theorem sJA_fill_d0a16_l6 {sh : Sh} {R : RR} (hF : Fx sh R) (u0 : Nat) (u1 : Int64) (u4 : Int32) (k0_0 : MI → Int32 → Option (MI)) (hk0_0 : ∀ (m : MI) (v3 : Int32) , S (eV sh R) false 0 0 0 YJ7_fill_d0a16 sh R m 22 [(0, .ref u0), (1, .long u1), (3, .int v3), (4, .int u4)] [] (k0_0 m v3)) : ∀ (n : Nat) (m : MI) (v3 : Int32) , S (eV sh R) false 0 0 0 YJ7_fill_d0a16 sh R m 6 [(0, .ref u0), (1, .long u1), (3, .int v3), (4, .int u4)] [] (fJA_fill_d0a16_l6 sh R u0 u1 u4 k0_0 n m v3) := by
  intro n
  induction n with
  | zero => intros; exact S_none
  | succ n0 ih0 =>
    intro m v3
    rw [fJA_fill_d0a16_l6]
    refine o_iload_n (pc := 6) 2 dJ7_fill_d0a16_6 rfl rfl <| o_iload (pc := 7) 3 dJ7_fill_d0a16_7 rfl <| ?_
    refine o_icmp_ge (pc := 9) (tgt := 22) dJ7_fill_d0a16_9 rfl (fun h1 => ?_) (fun h1 => ?_)
    · exact hk0_0 m v3
    · refine o_aload_n (pc := 12) 0 dJ7_fill_d0a16_12 rfl rfl <| o_iload_n (pc := 13) 2 dJ7_fill_d0a16_13 rfl rfl <| o_lload_n (pc := 14) 1 dJ7_fill_d0a16_14 rfl rfl <| ?_
      refine S_ck fun h2 => ?_
      refine S_ck fun h3 => ?_
      refine o_last (pc := 15) (nn := lenA sh u0) dJ7_fill_d0a16_15 (kA_ok h2) (ck_in h3) <| ?_
      refine o_lm fun m4 => ?_
      refine o_iinc (pc := 16) 2 (v := v3 + 1) (ls' := [(3, .int (v3 + 1)), (0, .ref u0), (1, .long u1), (4, .int u4)]) dJ7_fill_d0a16_16 rfl rfl (Nat.le_of_ble_eq_true rfl) rfl <| ?_
      refine o_ltL (ls := fun x5 => [(3, .int x5), (0, .ref u0), (1, .long u1), (4, .int u4)]) fun x5 => ?_
      refine o_goto (pc := 19) (tgt := 6) dJ7_fill_d0a16_19 rfl <| ?_
      refine o_sub [1, 2, 0, 3] (ls' := [(0, .ref u0), (1, .long u1), (3, .int x5), (4, .int u4)]) rfl ?_
      exact ih0 m4 x5
def fJA_fill_d0a16 (sh : Sh) (R : RR) (m : MI) (a : Nat) (b : Int64) : Option (MI) :=
  if kA sh a 1 = true then
    lt (Int32.ofNat (lenA sh a)) fun x2 =>
    fJA_fill_d0a16_l6 sh R a b x2
      (fun m4 z3 =>
        some m4
        )
      1000 m 0
  else none
theorem sJA_fill_d0a16 {sh : Sh} {R : RR} (hF : Fx sh R) (m : MI) (a : Nat) (b : Int64) : KS (eV sh R) false 0 0 0 YJ7_fill_d0a16 sh R m [.ref a, .long b] (fJA_fill_d0a16 sh R m a b) := by
  refine KS_of pn_J7 (fun _ => Nat.le_of_ble_eq_true rfl) ?_
  change S _ _ _ _ _ _ _ _ _ _ [(0, .ref a), (1, .long b)] [] _
  unfold fJA_fill_d0a16
  refine o_iconst (pc := 0) dJ7_fill_d0a16_0 lc_0 <| o_istore_n (pc := 1) (ls' := [(3, .int 0), (0, .ref a), (1, .long b)]) dJ7_fill_d0a16_1 rfl (Nat.le_of_ble_eq_true rfl) rfl <| o_aload_n (pc := 2) 1 dJ7_fill_d0a16_2 rfl rfl <| ?_
  refine S_ck fun h1 => ?_
  refine o_alenL (pc := 3) (nn := lenA sh a) dJ7_fill_d0a16_3 (kA_ok h1) rfl <| ?_
  refine o_lt fun x2 => ?_
  refine o_istore (pc := 4) (ls' := [(4, .int x2), (3, .int 0), (0, .ref a), (1, .long b)]) dJ7_fill_d0a16_4 (Nat.le_of_ble_eq_true rfl) rfl <| ?_
  refine o_sub [2, 3, 1, 0] (ls' := [(0, .ref a), (1, .long b), (3, .int 0), (4, .int x2)]) rfl ?_
  refine sJA_fill_d0a16_l6 hF a b x2 _ ?_ 1000 m 0
  · intro m4 z3
    exact o_vret (pc := 22) dJ7_fill_d0a16_22 rfl rfl
def fL_chance (sh : Sh) (R : RR) (m : MI) (a : Int32) (b : Int32) (c : Int32) : Option (Int32 × MI) :=
  lt ((((a * 6) + b) * 4) + c) fun x1 =>
  if ck x1 144 = true then
    if m.1 40 x1.toNatClampNeg = -1 then
      (fW_chance sh R m a b c ((((m.1 37 4) + (m.1 37 5)) - b) - c)).bind fun r4 =>
      if ck x1 144 = true then
        lm (mI r4.2 40 (upd (r4.2.1 40) x1.toNatClampNeg r4.1)) fun m6 =>
        if ck x1 144 = true then
          some (m6.1 40 x1.toNatClampNeg, m6)
        else none
      else none
    else
      if ck x1 144 = true then
        some (m.1 40 x1.toNatClampNeg, m)
      else none
  else none
theorem sL_chance {sh : Sh} {R : RR} (hF : Fx sh R) (m : MI) (a : Int32) (b : Int32) (c : Int32) : KS (eI sh R) false 4 0 0 YX3_chance sh R m [.ref 37, .int a, .int b, .int c] (fL_chance sh R m a b c) := by
  refine KS_of pn_X3 (fun _ => Nat.le_of_ble_eq_true rfl) ?_
  change S _ _ _ _ _ _ _ _ _ _ [(0, .ref 37), (1, .int a), (2, .int b), (3, .int c)] [] _
  unfold fL_chance
  refine o_iload_n (pc := 0) 1 dX3_chance_0 rfl rfl <| o_bipush (pc := 1) dX3_chance_1 lb_6 <| o_imul (pc := 3) dX3_chance_3 <| o_iload_n (pc := 4) 2 dX3_chance_4 rfl rfl <| o_iadd (pc := 5) dX3_chance_5 <| o_iconst (pc := 6) dX3_chance_6 lc_4 <| o_imul (pc := 7) dX3_chance_7 <| o_iload_n (pc := 8) 3 dX3_chance_8 rfl rfl <| o_iadd (pc := 9) dX3_chance_9 <| ?_
  refine o_lt fun x1 => ?_
  refine o_istore (pc := 10) (ls' := [(4, .int x1), (0, .ref 37), (1, .int a), (2, .int b), (3, .int c)]) dX3_chance_10 (Nat.le_of_ble_eq_true rfl) rfl <| o_aload_n (pc := 12) 1 dX3_chance_12 rfl rfl <| o_getRc (pc := 13) (a := 40) (ci := 3) (j := 3) (nn := 0) dX3_chance_13 (hF.1 _ _ rfl) rfl (Nat.le_of_ble_eq_true rfl) k_202 rfl (hF.2 _ _ _ rfl) <| o_iload (pc := 16) 0 dX3_chance_16 rfl <| ?_
  refine S_ck fun h2 => ?_
  refine o_iald (pc := 18) (nn := 144) dX3_chance_18 (hF.1 _ _ rfl) (ck_in h2) <| o_iconst (pc := 19) dX3_chance_19 lc_m1 <| ?_
  refine o_icmp_ne (pc := 20) (tgt := 53) dX3_chance_20 rfl (fun h3 => ?_) (fun h3 => ?_)
  · refine o_aload_n (pc := 23) 1 dX3_chance_23 rfl rfl <| o_getRc (pc := 24) (a := 40) (ci := 3) (j := 3) (nn := 0) dX3_chance_24 (hF.1 _ _ rfl) rfl (Nat.le_of_ble_eq_true rfl) k_202 rfl (hF.2 _ _ _ rfl) <| o_iload (pc := 27) 0 dX3_chance_27 rfl <| o_aload_n (pc := 29) 1 dX3_chance_29 rfl rfl <| o_getRc (pc := 30) (a := 1) (ci := 3) (j := 1) (nn := 0) dX3_chance_30 (hF.1 _ _ rfl) rfl (Nat.le_of_ble_eq_true rfl) k_200 rfl (hF.2 _ _ _ rfl) <| o_iload_n (pc := 33) 2 dX3_chance_33 rfl rfl <| o_iload_n (pc := 34) 3 dX3_chance_34 rfl rfl <| o_iload_n (pc := 35) 4 dX3_chance_35 rfl rfl <| o_aload_n (pc := 36) 1 dX3_chance_36 rfl rfl <| o_getI (pc := 37) (ci := 3) (j := 4) (nn := 0) dX3_chance_37 (hF.1 _ _ rfl) rfl (Nat.le_of_ble_eq_true rfl) k_203 rfl <| ?_
    refine o_aload_n (pc := 40) 1 dX3_chance_40 rfl rfl <| o_getI (pc := 41) (ci := 3) (j := 5) (nn := 0) dX3_chance_41 (hF.1 _ _ rfl) rfl (Nat.le_of_ble_eq_true rfl) k_204 rfl <| o_iadd (pc := 44) dX3_chance_44 <| o_iload_n (pc := 45) 3 dX3_chance_45 rfl rfl <| o_isub (pc := 46) dX3_chance_46 <| o_iload_n (pc := 47) 4 dX3_chance_47 rfl rfl <| o_isub (pc := 48) dX3_chance_48 <| ?_
    refine o_callVI (Y2 := YX5_chance) (pc := 49) (av := [.int a, .int b, .int c, .int ((((m.1 37 4) + (m.1 37 5)) - b) - c)]) (rest := [.int x1, .ref 40]) dX3_chance_49 k_641 cm_X5_chance (sW_chance hF m a b c ((((m.1 37 4) + (m.1 37 5)) - b) - c)) (hF.1 _ _ rfl) rfl rfl (Nat.le_of_ble_eq_true rfl) (Nat.le_of_ble_eq_true rfl) fun r4 => ?_
    refine S_ck fun h5 => ?_
    refine o_iast (pc := 52) (nn := 144) dX3_chance_52 (hF.1 _ _ rfl) (ck_in h5) <| ?_
    refine o_lm fun m6 => ?_
    refine o_aload_n (pc := 53) 1 dX3_chance_53 rfl rfl <| o_getRc (pc := 54) (a := 40) (ci := 3) (j := 3) (nn := 0) dX3_chance_54 (hF.1 _ _ rfl) rfl (Nat.le_of_ble_eq_true rfl) k_202 rfl (hF.2 _ _ _ rfl) <| o_iload (pc := 57) 0 dX3_chance_57 rfl <| ?_
    refine S_ck fun h7 => ?_
    refine o_iald (pc := 59) (nn := 144) dX3_chance_59 (hF.1 _ _ rfl) (ck_in h7) <| ?_
    exact o_iret (pc := 60) dX3_chance_60 rfl rfl
  · refine o_aload_n (pc := 53) 1 dX3_chance_53 rfl rfl <| o_getRc (pc := 54) (a := 40) (ci := 3) (j := 3) (nn := 0) dX3_chance_54 (hF.1 _ _ rfl) rfl (Nat.le_of_ble_eq_true rfl) k_202 rfl (hF.2 _ _ _ rfl) <| o_iload (pc := 57) 0 dX3_chance_57 rfl <| ?_
    refine S_ck fun h8 => ?_
    refine o_iald (pc := 59) (nn := 144) dX3_chance_59 (hF.1 _ _ rfl) (ck_in h8) <| ?_
    exact o_iret (pc := 60) dX3_chance_60 rfl rfl
def fL_goThrough_12_l43 (sh : Sh) (R : RR) (u2 : Int32) (u3 : Int32) (k1_0 : MI → Int64 → Int32 → Option (MI)) : Nat → MI → Int64 → Int32 → Option (MI)
  | 0, _, _, _ => none
  | n1 + 1, m, v4, v6 =>
    if m.1 37 4 < v6 then
      k1_0 m v4 v6
    else
      if ck v6 4 = true then
        if lg_cmp (m.2 39 v6.toNatClampNeg) 0 = 0 then
          if ck v6 4 = true then
            if ck v6 4 = true then
              lm (mJ m 39 (vp_updL (m.2 39) v6.toNatClampNeg ((m.2 39 v6.toNatClampNeg) - 0))) fun m6 =>
              if ck (v6 - 1) 4 = true then
                if ck (v6 - 1) 4 = true then
                  lm (mJ m6 39 (vp_updL (m6.2 39) (v6 - 1).toNatClampNeg ((m6.2 39 (v6 - 1).toNatClampNeg) + 0))) fun m9 =>
                  ltl (v4 + 0) fun y10 =>
                  lt (v6 + 1) fun x11 =>
                  fL_goThrough_12_l43 sh R u2 u3 k1_0 n1 m9 y10 x11
                else none
              else none
            else none
          else none
        else
          if ck v6 4 = true then
            (fL_chance sh R m u3 u2 v6).bind fun r13 =>
            ltl (((m.2 39 v6.toNatClampNeg) * (r13.1.toInt64)) / 1000000) fun y14 =>
            if ck v6 4 = true then
              if ck v6 4 = true then
                lm (mJ r13.2 39 (vp_updL (r13.2.2 39) v6.toNatClampNeg ((r13.2.2 39 v6.toNatClampNeg) - y14))) fun m17 =>
                if ck (v6 - 1) 4 = true then
                  if ck (v6 - 1) 4 = true then
                    lm (mJ m17 39 (vp_updL (m17.2 39) (v6 - 1).toNatClampNeg ((m17.2 39 (v6 - 1).toNatClampNeg) + y14))) fun m20 =>
                    ltl (v4 + y14) fun y21 =>
                    lt (v6 + 1) fun x22 =>
                    fL_goThrough_12_l43 sh R u2 u3 k1_0 n1 m20 y21 x22
                  else none
                else none
              else none
            else none
          else none
      else none
theorem sL_goThrough_12_l43 {sh : Sh} {R : RR} (hF : Fx sh R) (u2 : Int32) (u3 : Int32) (k1_0 : MI → Int64 → Int32 → Option (MI)) (hk1_0 : ∀ (m : MI) (v4 : Int64) (v6 : Int32) , S (eV sh R) false 5 0 0 YX3_goThrough sh R m 130 [(0, .ref 37), (1, .ref 12), (2, .int u2), (3, .int u3), (4, .long v4), (6, .int v6)] [] (k1_0 m v4 v6)) : ∀ (n : Nat) (m : MI) (v4 : Int64) (v6 : Int32) , S (eV sh R) false 5 0 0 YX3_goThrough sh R m 43 [(0, .ref 37), (1, .ref 12), (2, .int u2), (3, .int u3), (4, .long v4), (6, .int v6)] [] (fL_goThrough_12_l43 sh R u2 u3 k1_0 n m v4 v6) := by
  intro n
  induction n with
  | zero => intros; exact S_none
  | succ n1 ih1 =>
    intro m v4 v6
    rw [fL_goThrough_12_l43]
    refine o_iload (pc := 43) 5 dX3_goThrough_43 rfl <| o_aload_n (pc := 45) 0 dX3_goThrough_45 rfl rfl <| o_getI (pc := 46) (ci := 3) (j := 4) (nn := 0) dX3_goThrough_46 (hF.1 _ _ rfl) rfl (Nat.le_of_ble_eq_true rfl) k_203 rfl <| ?_
    refine o_icmp_gt (pc := 49) (tgt := 130) dX3_goThrough_49 rfl (fun h1 => ?_) (fun h1 => ?_)
    · exact hk1_0 m v4 v6
    · refine o_aload_n (pc := 52) 0 dX3_goThrough_52 rfl rfl <| o_getRc (pc := 53) (a := 39) (ci := 3) (j := 2) (nn := 0) dX3_goThrough_53 (hF.1 _ _ rfl) rfl (Nat.le_of_ble_eq_true rfl) k_201 rfl (hF.2 _ _ _ rfl) <| o_iload (pc := 56) 5 dX3_goThrough_56 rfl <| ?_
      refine S_ck fun h2 => ?_
      refine o_lald (pc := 58) (nn := 4) dX3_goThrough_58 (hF.1 _ _ rfl) (ck_in h2) <| o_lconst (pc := 59) (x := 0) dX3_goThrough_59 rfl <| o_lcmp (pc := 60) dX3_goThrough_60 <| ?_
      refine o_if_ne (pc := 61) (tgt := 68) dX3_goThrough_61 rfl (fun h3 => ?_) (fun h3 => ?_)
      · refine o_lconst (pc := 64) (x := 0) dX3_goThrough_64 rfl <| o_goto (pc := 65) (tgt := 89) dX3_goThrough_65 rfl <| o_lstore (pc := 89) (ls' := [(7, .long 0), (0, .ref 37), (1, .ref 12), (2, .int u2), (3, .int u3), (4, .long v4), (6, .int v6)]) dX3_goThrough_89 (Nat.le_of_ble_eq_true rfl) rfl <| o_aload_n (pc := 91) 1 dX3_goThrough_91 rfl rfl <| o_getRc (pc := 92) (a := 39) (ci := 3) (j := 2) (nn := 0) dX3_goThrough_92 (hF.1 _ _ rfl) rfl (Nat.le_of_ble_eq_true rfl) k_201 rfl (hF.2 _ _ _ rfl) <| o_iload (pc := 95) 6 dX3_goThrough_95 rfl <| o_dup2 (pc := 97) dX3_goThrough_97 rfl rfl <| ?_
        refine S_ck fun h4 => ?_
        refine o_lald (pc := 98) (nn := 4) dX3_goThrough_98 (hF.1 _ _ rfl) (ck_in h4) <| o_lload (pc := 99) 0 dX3_goThrough_99 rfl <| o_lsub (pc := 101) dX3_goThrough_101 <| ?_
        refine S_ck fun h5 => ?_
        refine o_last (pc := 102) (nn := 4) dX3_goThrough_102 (hF.1 _ _ rfl) (ck_in h5) <| ?_
        refine o_lm fun m6 => ?_
        refine o_aload_n (pc := 103) 1 dX3_goThrough_103 rfl rfl <| o_getRc (pc := 104) (a := 39) (ci := 3) (j := 2) (nn := 0) dX3_goThrough_104 (hF.1 _ _ rfl) rfl (Nat.le_of_ble_eq_true rfl) k_201 rfl (hF.2 _ _ _ rfl) <| o_iload (pc := 107) 6 dX3_goThrough_107 rfl <| o_iconst (pc := 109) dX3_goThrough_109 lc_1 <| o_isub (pc := 110) dX3_goThrough_110 <| o_dup2 (pc := 111) dX3_goThrough_111 rfl rfl <| ?_
        refine S_ck fun h7 => ?_
        refine o_lald (pc := 112) (nn := 4) dX3_goThrough_112 (hF.1 _ _ rfl) (ck_in h7) <| o_lload (pc := 113) 0 dX3_goThrough_113 rfl <| o_ladd (pc := 115) dX3_goThrough_115 <| ?_
        refine S_ck fun h8 => ?_
        refine o_last (pc := 116) (nn := 4) dX3_goThrough_116 (hF.1 _ _ rfl) (ck_in h8) <| ?_
        refine o_lm fun m9 => ?_
        refine o_lload (pc := 117) 5 dX3_goThrough_117 rfl <| o_lload (pc := 119) 0 dX3_goThrough_119 rfl <| o_ladd (pc := 121) dX3_goThrough_121 <| ?_
        refine o_ltl fun y10 => ?_
        refine o_lstore (pc := 122) (ls' := [(4, .long y10), (7, .long 0), (0, .ref 37), (1, .ref 12), (2, .int u2), (3, .int u3), (6, .int v6)]) dX3_goThrough_122 (Nat.le_of_ble_eq_true rfl) rfl <| o_iinc (pc := 124) 6 (v := v6 + 1) (ls' := [(6, .int (v6 + 1)), (4, .long y10), (7, .long 0), (0, .ref 37), (1, .ref 12), (2, .int u2), (3, .int u3)]) dX3_goThrough_124 rfl rfl (Nat.le_of_ble_eq_true rfl) rfl <| ?_
        refine o_ltL (ls := fun x11 => [(6, .int x11), (4, .long y10), (7, .long 0), (0, .ref 37), (1, .ref 12), (2, .int u2), (3, .int u3)]) fun x11 => ?_
        refine o_goto (pc := 127) (tgt := 43) dX3_goThrough_127 rfl <| ?_
        refine o_sub [3, 4, 5, 6, 1, 0] (ls' := [(0, .ref 37), (1, .ref 12), (2, .int u2), (3, .int u3), (4, .long y10), (6, .int x11)]) rfl ?_
        exact ih1 m9 y10 x11
      · refine o_aload_n (pc := 68) 0 dX3_goThrough_68 rfl rfl <| o_getRc (pc := 69) (a := 39) (ci := 3) (j := 2) (nn := 0) dX3_goThrough_69 (hF.1 _ _ rfl) rfl (Nat.le_of_ble_eq_true rfl) k_201 rfl (hF.2 _ _ _ rfl) <| o_iload (pc := 72) 5 dX3_goThrough_72 rfl <| ?_
        refine S_ck fun h12 => ?_
        refine o_lald (pc := 74) (nn := 4) dX3_goThrough_74 (hF.1 _ _ rfl) (ck_in h12) <| o_aload_n (pc := 75) 0 dX3_goThrough_75 rfl rfl <| o_iload_n (pc := 76) 3 dX3_goThrough_76 rfl rfl <| o_iload_n (pc := 77) 2 dX3_goThrough_77 rfl rfl <| o_iload (pc := 78) 5 dX3_goThrough_78 rfl <| ?_
        refine o_callVI (Y2 := YX3_chance) (pc := 80) (av := [.int u3, .int u2, .int v6]) (rest := [.long (m.2 39 v6.toNatClampNeg)]) dX3_goThrough_80 k_637 cm_X3_chance (sL_chance hF m u3 u2 v6) (hF.1 _ _ rfl) rfl rfl (Nat.le_of_ble_eq_true rfl) (Nat.le_of_ble_eq_true rfl) fun r13 => ?_
        refine o_i2l (pc := 83) dX3_goThrough_83 <| o_lmul (pc := 84) dX3_goThrough_84 <| o_ldc2 (pc := 85) dX3_goThrough_85 k_636 <| o_ldiv (pc := 88) dX3_goThrough_88 (by decide) <| ?_
        refine o_ltl fun y14 => ?_
        refine o_lstore (pc := 89) (ls' := [(7, .long y14), (0, .ref 37), (1, .ref 12), (2, .int u2), (3, .int u3), (4, .long v4), (6, .int v6)]) dX3_goThrough_89 (Nat.le_of_ble_eq_true rfl) rfl <| o_aload_n (pc := 91) 1 dX3_goThrough_91 rfl rfl <| o_getRc (pc := 92) (a := 39) (ci := 3) (j := 2) (nn := 0) dX3_goThrough_92 (hF.1 _ _ rfl) rfl (Nat.le_of_ble_eq_true rfl) k_201 rfl (hF.2 _ _ _ rfl) <| o_iload (pc := 95) 6 dX3_goThrough_95 rfl <| o_dup2 (pc := 97) dX3_goThrough_97 rfl rfl <| ?_
        refine S_ck fun h15 => ?_
        refine o_lald (pc := 98) (nn := 4) dX3_goThrough_98 (hF.1 _ _ rfl) (ck_in h15) <| o_lload (pc := 99) 0 dX3_goThrough_99 rfl <| o_lsub (pc := 101) dX3_goThrough_101 <| ?_
        refine S_ck fun h16 => ?_
        refine o_last (pc := 102) (nn := 4) dX3_goThrough_102 (hF.1 _ _ rfl) (ck_in h16) <| ?_
        refine o_lm fun m17 => ?_
        refine o_aload_n (pc := 103) 1 dX3_goThrough_103 rfl rfl <| o_getRc (pc := 104) (a := 39) (ci := 3) (j := 2) (nn := 0) dX3_goThrough_104 (hF.1 _ _ rfl) rfl (Nat.le_of_ble_eq_true rfl) k_201 rfl (hF.2 _ _ _ rfl) <| o_iload (pc := 107) 6 dX3_goThrough_107 rfl <| o_iconst (pc := 109) dX3_goThrough_109 lc_1 <| o_isub (pc := 110) dX3_goThrough_110 <| o_dup2 (pc := 111) dX3_goThrough_111 rfl rfl <| ?_
        refine S_ck fun h18 => ?_
        refine o_lald (pc := 112) (nn := 4) dX3_goThrough_112 (hF.1 _ _ rfl) (ck_in h18) <| o_lload (pc := 113) 0 dX3_goThrough_113 rfl <| o_ladd (pc := 115) dX3_goThrough_115 <| ?_
        refine S_ck fun h19 => ?_
        refine o_last (pc := 116) (nn := 4) dX3_goThrough_116 (hF.1 _ _ rfl) (ck_in h19) <| ?_
        refine o_lm fun m20 => ?_
        refine o_lload (pc := 117) 5 dX3_goThrough_117 rfl <| o_lload (pc := 119) 0 dX3_goThrough_119 rfl <| o_ladd (pc := 121) dX3_goThrough_121 <| ?_
        refine o_ltl fun y21 => ?_
        refine o_lstore (pc := 122) (ls' := [(4, .long y21), (7, .long y14), (0, .ref 37), (1, .ref 12), (2, .int u2), (3, .int u3), (6, .int v6)]) dX3_goThrough_122 (Nat.le_of_ble_eq_true rfl) rfl <| o_iinc (pc := 124) 6 (v := v6 + 1) (ls' := [(6, .int (v6 + 1)), (4, .long y21), (7, .long y14), (0, .ref 37), (1, .ref 12), (2, .int u2), (3, .int u3)]) dX3_goThrough_124 rfl rfl (Nat.le_of_ble_eq_true rfl) rfl <| ?_
        refine o_ltL (ls := fun x22 => [(6, .int x22), (4, .long y21), (7, .long y14), (0, .ref 37), (1, .ref 12), (2, .int u2), (3, .int u3)]) fun x22 => ?_
        refine o_goto (pc := 127) (tgt := 43) dX3_goThrough_127 rfl <| ?_
        refine o_sub [3, 4, 5, 6, 1, 0] (ls' := [(0, .ref 37), (1, .ref 12), (2, .int u2), (3, .int u3), (4, .long y21), (6, .int x22)]) rfl ?_
        exact ih1 m20 y21 x22
def fL_goThrough_12_l22 (sh : Sh) (R : RR) (k0_0 : MI → Int32 → Option (MI)) : Nat → MI → Int32 → Option (MI)
  | 0, _, _ => none
  | n0 + 1, m, v2 =>
    if m.1 1 0 ≤ v2 then
      k0_0 m v2
    else
      if ck v2 6 = true then
        lt (m.1 12 v2.toNatClampNeg) fun x3 =>
        fL_goThrough_12_l43 sh R v2 x3
          (fun m6 z4 z5 =>
            if ck x3 6 = true then
              lm (mI m6 38 (upd (m6.1 38) x3.toNatClampNeg (z4.toInt32))) fun m8 =>
              lt (v2 + 1) fun x9 =>
              fL_goThrough_12_l22 sh R k0_0 n0 m8 x9
            else none
            )
          1000 m 0 1
      else none
theorem sL_goThrough_12_l22 {sh : Sh} {R : RR} (hF : Fx sh R) (k0_0 : MI → Int32 → Option (MI)) (hk0_0 : ∀ (m : MI) (v2 : Int32) , S (eV sh R) false 5 0 0 YX3_goThrough sh R m 145 [(0, .ref 37), (1, .ref 12), (2, .int v2)] [] (k0_0 m v2)) : ∀ (n : Nat) (m : MI) (v2 : Int32) , S (eV sh R) false 5 0 0 YX3_goThrough sh R m 22 [(0, .ref 37), (1, .ref 12), (2, .int v2)] [] (fL_goThrough_12_l22 sh R k0_0 n m v2) := by
  intro n
  induction n with
  | zero => intros; exact S_none
  | succ n0 ih0 =>
    intro m v2
    rw [fL_goThrough_12_l22]
    refine o_iload_n (pc := 22) 2 dX3_goThrough_22 rfl rfl <| o_aload_n (pc := 23) 0 dX3_goThrough_23 rfl rfl <| o_getRc (pc := 24) (a := 1) (ci := 3) (j := 1) (nn := 0) dX3_goThrough_24 (hF.1 _ _ rfl) rfl (Nat.le_of_ble_eq_true rfl) k_200 rfl (hF.2 _ _ _ rfl) <| o_getI (pc := 27) (ci := 5) (j := 0) (nn := 0) dX3_goThrough_27 (hF.1 _ _ rfl) rfl (Nat.le_of_ble_eq_true rfl) k_125 rfl <| ?_
    refine o_icmp_ge (pc := 30) (tgt := 145) dX3_goThrough_30 rfl (fun h1 => ?_) (fun h1 => ?_)
    · exact hk0_0 m v2
    · refine o_aload_n (pc := 33) 1 dX3_goThrough_33 rfl rfl <| o_iload_n (pc := 34) 2 dX3_goThrough_34 rfl rfl <| ?_
      refine S_ck fun h2 => ?_
      refine o_iald (pc := 35) (nn := 6) dX3_goThrough_35 (hF.1 _ _ rfl) (ck_in h2) <| ?_
      refine o_lt fun x3 => ?_
      refine o_istore_n (pc := 36) (ls' := [(3, .int x3), (0, .ref 37), (1, .ref 12), (2, .int v2)]) dX3_goThrough_36 rfl (Nat.le_of_ble_eq_true rfl) rfl <| o_lconst (pc := 37) (x := 0) dX3_goThrough_37 rfl <| o_lstore (pc := 38) (ls' := [(4, .long 0), (3, .int x3), (0, .ref 37), (1, .ref 12), (2, .int v2)]) dX3_goThrough_38 (Nat.le_of_ble_eq_true rfl) rfl <| o_iconst (pc := 40) dX3_goThrough_40 lc_1 <| o_istore (pc := 41) (ls' := [(6, .int 1), (4, .long 0), (3, .int x3), (0, .ref 37), (1, .ref 12), (2, .int v2)]) dX3_goThrough_41 (Nat.le_of_ble_eq_true rfl) rfl <| ?_
      refine o_sub [3, 4, 5, 2, 1, 0] (ls' := [(0, .ref 37), (1, .ref 12), (2, .int v2), (3, .int x3), (4, .long 0), (6, .int 1)]) rfl ?_
      refine sL_goThrough_12_l43 hF v2 x3 _ ?_ 1000 m 0 1
      · intro m6 z4 z5
        refine o_aload_n (pc := 130) 0 dX3_goThrough_130 rfl rfl <| o_getRc (pc := 131) (a := 38) (ci := 3) (j := 0) (nn := 0) dX3_goThrough_131 (hF.1 _ _ rfl) rfl (Nat.le_of_ble_eq_true rfl) k_198 rfl (hF.2 _ _ _ rfl) <| o_iload_n (pc := 134) 3 dX3_goThrough_134 rfl rfl <| o_lload (pc := 135) 4 dX3_goThrough_135 rfl <| o_l2i (pc := 137) dX3_goThrough_137 <| ?_
        refine S_ck fun h7 => ?_
        refine o_iast (pc := 138) (nn := 6) dX3_goThrough_138 (hF.1 _ _ rfl) (ck_in h7) <| ?_
        refine o_lm fun m8 => ?_
        refine o_iinc (pc := 139) 2 (v := v2 + 1) (ls' := [(2, .int (v2 + 1)), (0, .ref 37), (1, .ref 12), (3, .int x3), (4, .long z4), (6, .int z5)]) dX3_goThrough_139 rfl rfl (Nat.le_of_ble_eq_true rfl) rfl <| ?_
        refine o_ltL (ls := fun x9 => [(2, .int x9), (0, .ref 37), (1, .ref 12), (3, .int x3), (4, .long z4), (6, .int z5)]) fun x9 => ?_
        refine o_goto (pc := 142) (tgt := 22) dX3_goThrough_142 rfl <| ?_
        refine o_sub [1, 2, 0] (ls' := [(0, .ref 37), (1, .ref 12), (2, .int x9)]) rfl ?_
        exact ih0 m8 x9
def fL_goThrough_12 (sh : Sh) (R : RR) (m : MI) : Option (MI) :=
  (fJA_fill_d0a16 sh R m 39 0).bind fun r1 =>
  if ck (r1.1 37 4) 4 = true then
    lm (mJ r1 39 (vp_updL (r1.2 39) (r1.1 37 4).toNatClampNeg 1000000)) fun m3 =>
    fL_goThrough_12_l22 sh R 
      (fun m5 z4 =>
        some m5
        )
      1000 m3 0
  else none
theorem sL_goThrough_12 {sh : Sh} {R : RR} (hF : Fx sh R) (m : MI) : KS (eV sh R) false 5 0 0 YX3_goThrough sh R m [.ref 37, .ref 12] (fL_goThrough_12 sh R m ) := by
  refine KS_of pn_X3 (fun _ => Nat.le_of_ble_eq_true rfl) ?_
  change S _ _ _ _ _ _ _ _ _ _ [(0, .ref 37), (1, .ref 12)] [] _
  unfold fL_goThrough_12
  refine o_aload_n (pc := 0) 0 dX3_goThrough_0 rfl rfl <| o_getRc (pc := 1) (a := 39) (ci := 3) (j := 2) (nn := 0) dX3_goThrough_1 (hF.1 _ _ rfl) rfl (Nat.le_of_ble_eq_true rfl) k_201 rfl (hF.2 _ _ _ rfl) <| o_lconst (pc := 4) (x := 0) dX3_goThrough_4 rfl <| ?_
  refine o_callSV (Y2 := YJ7_fill_d0a16) (pc := 5) (av := [.ref 39, .long 0]) (rest := []) dX3_goThrough_5 k_633 cs_J7_fill_d0a16 (sJA_fill_d0a16 hF m 39 0) rfl rfl (Nat.le_of_ble_eq_true rfl) (Nat.le_of_ble_eq_true rfl) fun r1 => ?_
  refine o_aload_n (pc := 8) 0 dX3_goThrough_8 rfl rfl <| o_getRc (pc := 9) (a := 39) (ci := 3) (j := 2) (nn := 0) dX3_goThrough_9 (hF.1 _ _ rfl) rfl (Nat.le_of_ble_eq_true rfl) k_201 rfl (hF.2 _ _ _ rfl) <| o_aload_n (pc := 12) 0 dX3_goThrough_12 rfl rfl <| o_getI (pc := 13) (ci := 3) (j := 4) (nn := 0) dX3_goThrough_13 (hF.1 _ _ rfl) rfl (Nat.le_of_ble_eq_true rfl) k_203 rfl <| o_ldc2 (pc := 16) dX3_goThrough_16 k_636 <| ?_
  refine S_ck fun h2 => ?_
  refine o_last (pc := 19) (nn := 4) dX3_goThrough_19 (hF.1 _ _ rfl) (ck_in h2) <| ?_
  refine o_lm fun m3 => ?_
  refine o_iconst (pc := 20) dX3_goThrough_20 lc_0 <| o_istore_n (pc := 21) (ls' := [(2, .int 0), (0, .ref 37), (1, .ref 12)]) dX3_goThrough_21 rfl (Nat.le_of_ble_eq_true rfl) rfl <| ?_
  refine o_sub [1, 2, 0] (ls' := [(0, .ref 37), (1, .ref 12), (2, .int 0)]) rfl ?_
  refine sL_goThrough_12_l22 hF  _ ?_ 1000 m3 0
  · intro m5 z4
    exact o_vret (pc := 145) dX3_goThrough_145 rfl rfl
def fL_ofOne_12 (sh : Sh) (R : RR) (m : MI) (a : Int32) : Option (Int32 × MI) :=
  (fL_goThrough_12 sh R m).bind fun r1 =>
  if ck a 6 = true then
    some (r1.1 38 a.toNatClampNeg, r1)
  else none
theorem sL_ofOne_12 {sh : Sh} {R : RR} (hF : Fx sh R) (m : MI) (a : Int32) : KS (eI sh R) false 6 0 0 YX3_ofOne sh R m [.ref 37, .int a, .ref 12] (fL_ofOne_12 sh R m a) := by
  refine KS_of pn_X3 (fun _ => Nat.le_of_ble_eq_true rfl) ?_
  change S _ _ _ _ _ _ _ _ _ _ [(0, .ref 37), (1, .int a), (2, .ref 12)] [] _
  unfold fL_ofOne_12
  refine o_aload_n (pc := 0) 0 dX3_ofOne_0 rfl rfl <| o_aload_n (pc := 1) 2 dX3_ofOne_1 rfl rfl <| ?_
  refine o_callVV (Y2 := YX3_goThrough) (pc := 2) (av := [.ref 12]) (rest := []) dX3_ofOne_2 k_629 cm_X3_goThrough (sL_goThrough_12 hF m ) (hF.1 _ _ rfl) rfl rfl (Nat.le_of_ble_eq_true rfl) (Nat.le_of_ble_eq_true rfl) fun r1 => ?_
  refine o_aload_n (pc := 5) 0 dX3_ofOne_5 rfl rfl <| o_getRc (pc := 6) (a := 38) (ci := 3) (j := 0) (nn := 0) dX3_ofOne_6 (hF.1 _ _ rfl) rfl (Nat.le_of_ble_eq_true rfl) k_198 rfl (hF.2 _ _ _ rfl) <| o_iload_n (pc := 9) 1 dX3_ofOne_9 rfl rfl <| ?_
  refine S_ck fun h2 => ?_
  refine o_iald (pc := 10) (nn := 6) dX3_ofOne_10 (hF.1 _ _ rfl) (ck_in h2) <| ?_
  exact o_iret (pc := 11) dX3_ofOne_11 rfl rfl
def fC_likely (sh : Sh) (R : RR) (m : MI) (a : Int32) : Option (Int32 × MI) :=
  (fW_has m a).bind fun r1 =>
  if r1.1 = 0 then
    some (-1, r1.2)
  else
    (fL_begin sh R r1.2 0).bind fun r3 =>
    (fL_ofOne_12 sh R r3 a).bind fun r4 =>
    some (r4.1, r4.2)
theorem sC_likely {sh : Sh} {R : RR} (hF : Fx sh R) (m : MI) (a : Int32) : KS (eI sh R) false 7 0 0 YX6_likely sh R m [.ref 0, .int a] (fC_likely sh R m a) := by
  refine KS_of pn_X6 (fun _ => Nat.le_of_ble_eq_true rfl) ?_
  change S _ _ _ _ _ _ _ _ _ _ [(0, .ref 0), (1, .int a)] [] _
  unfold fC_likely
  refine o_aload_n (pc := 0) 0 dX6_likely_0 rfl rfl <| o_getRc (pc := 1) (a := 1) (ci := 6) (j := 0) (nn := 0) dX6_likely_1 (hF.1 _ _ rfl) rfl (Nat.le_of_ble_eq_true rfl) k_292 rfl (hF.2 _ _ _ rfl) <| o_iload_n (pc := 4) 1 dX6_likely_4 rfl rfl <| ?_
  refine o_callVI (Y2 := YX5_has) (pc := 5) (av := [.int a]) (rest := []) dX6_likely_5 k_353 cm_X5_has (sW_has hF m a) (hF.1 _ _ rfl) rfl rfl (Nat.le_of_ble_eq_true rfl) (Nat.le_of_ble_eq_true rfl) fun r1 => ?_
  refine o_if_ne (pc := 8) (tgt := 13) dX6_likely_8 rfl (fun h2 => ?_) (fun h2 => ?_)
  · refine o_iconst (pc := 11) dX6_likely_11 lc_m1 <| ?_
    exact o_iret (pc := 12) dX6_likely_12 rfl rfl
  · refine o_aload_n (pc := 13) 0 dX6_likely_13 rfl rfl <| o_getRc (pc := 14) (a := 37) (ci := 6) (j := 3) (nn := 0) dX6_likely_14 (hF.1 _ _ rfl) rfl (Nat.le_of_ble_eq_true rfl) k_295 rfl (hF.2 _ _ _ rfl) <| o_iconst (pc := 17) dX6_likely_17 lc_0 <| ?_
    refine o_callVV (Y2 := YX3_begin) (pc := 18) (av := [.int 0]) (rest := []) dX6_likely_18 k_618 cm_X3_begin (sL_begin hF r1.2 0) (hF.1 _ _ rfl) rfl rfl (Nat.le_of_ble_eq_true rfl) (Nat.le_of_ble_eq_true rfl) fun r3 => ?_
    refine o_aload_n (pc := 21) 0 dX6_likely_21 rfl rfl <| o_getRc (pc := 22) (a := 37) (ci := 6) (j := 3) (nn := 0) dX6_likely_22 (hF.1 _ _ rfl) rfl (Nat.le_of_ble_eq_true rfl) k_295 rfl (hF.2 _ _ _ rfl) <| o_iload_n (pc := 25) 1 dX6_likely_25 rfl rfl <| o_aload_n (pc := 26) 0 dX6_likely_26 rfl rfl <| o_getRc (pc := 27) (a := 1) (ci := 6) (j := 0) (nn := 0) dX6_likely_27 (hF.1 _ _ rfl) rfl (Nat.le_of_ble_eq_true rfl) k_292 rfl (hF.2 _ _ _ rfl) <| o_getRc (pc := 30) (a := 12) (ci := 5) (j := 5) (nn := 0) dX6_likely_30 (hF.1 _ _ rfl) rfl (Nat.le_of_ble_eq_true rfl) k_135 rfl (hF.2 _ _ _ rfl) <| ?_
    refine o_callVI (Y2 := YX3_ofOne) (pc := 33) (av := [.int a, .ref 12]) (rest := []) dX6_likely_33 k_625 cm_X3_ofOne (sL_ofOne_12 hF r3 a) (hF.1 _ _ rfl) rfl rfl (Nat.le_of_ble_eq_true rfl) (Nat.le_of_ble_eq_true rfl) fun r4 => ?_
    exact o_iret (pc := 36) dX6_likely_36 rfl rfl
def fL_evenBy_12_l22 (k0_0 : MI → Int32 → Int32 → Int32 → Option (Int32 × MI)) : Nat → MI → Int32 → Int32 → Int32 → Option (Int32 × MI)
  | 0, _, _, _, _ => none
  | n0 + 1, m, v2, v3, v4 =>
    if m.1 1 0 ≤ v4 then
      k0_0 m v2 v3 v4
    else
      if ck v4 6 = true then
        lt (if v2 < m.1 38 v4.toNatClampNeg then m.1 38 v4.toNatClampNeg else v2) fun x3 =>
        if ck v4 6 = true then
          lt (if m.1 38 v4.toNatClampNeg < v3 then m.1 38 v4.toNatClampNeg else v3) fun x5 =>
          lt (v4 + 1) fun x6 =>
          fL_evenBy_12_l22 k0_0 n0 m x3 x5 x6
        else none
      else none
theorem sL_evenBy_12_l22 {sh : Sh} {R : RR} (hF : Fx sh R) (k0_0 : MI → Int32 → Int32 → Int32 → Option (Int32 × MI)) (hk0_0 : ∀ (m : MI) (v2 : Int32) (v3 : Int32) (v4 : Int32) , S (eI sh R) false 6 0 0 YX3_evenBy sh R m 64 [(0, .ref 37), (1, .ref 12), (2, .int v2), (3, .int v3), (4, .int v4)] [] (k0_0 m v2 v3 v4)) : ∀ (n : Nat) (m : MI) (v2 : Int32) (v3 : Int32) (v4 : Int32) , S (eI sh R) false 6 0 0 YX3_evenBy sh R m 22 [(0, .ref 37), (1, .ref 12), (2, .int v2), (3, .int v3), (4, .int v4)] [] (fL_evenBy_12_l22 k0_0 n m v2 v3 v4) := by
  intro n
  induction n with
  | zero => intros; exact S_none
  | succ n0 ih0 =>
    intro m v2 v3 v4
    rw [fL_evenBy_12_l22]
    refine o_iload (pc := 22) 4 dX3_evenBy_22 rfl <| o_aload_n (pc := 24) 0 dX3_evenBy_24 rfl rfl <| o_getRc (pc := 25) (a := 1) (ci := 3) (j := 1) (nn := 0) dX3_evenBy_25 (hF.1 _ _ rfl) rfl (Nat.le_of_ble_eq_true rfl) k_200 rfl (hF.2 _ _ _ rfl) <| o_getI (pc := 28) (ci := 5) (j := 0) (nn := 0) dX3_evenBy_28 (hF.1 _ _ rfl) rfl (Nat.le_of_ble_eq_true rfl) k_125 rfl <| ?_
    refine o_icmp_ge (pc := 31) (tgt := 64) dX3_evenBy_31 rfl (fun h1 => ?_) (fun h1 => ?_)
    · exact hk0_0 m v2 v3 v4
    · refine o_iload_n (pc := 34) 2 dX3_evenBy_34 rfl rfl <| o_aload_n (pc := 35) 0 dX3_evenBy_35 rfl rfl <| o_getRc (pc := 36) (a := 38) (ci := 3) (j := 0) (nn := 0) dX3_evenBy_36 (hF.1 _ _ rfl) rfl (Nat.le_of_ble_eq_true rfl) k_198 rfl (hF.2 _ _ _ rfl) <| o_iload (pc := 39) 4 dX3_evenBy_39 rfl <| ?_
      refine S_ck fun h2 => ?_
      refine o_iald (pc := 41) (nn := 6) dX3_evenBy_41 (hF.1 _ _ rfl) (ck_in h2) <| o_max (pc := 42) dX3_evenBy_42 k_650 k_347 k_81 k_348 (Nat.le_of_ble_eq_true rfl) (Nat.le_of_ble_eq_true rfl) <| ?_
      refine o_lt fun x3 => ?_
      refine o_istore_n (pc := 45) (ls' := [(2, .int x3), (0, .ref 37), (1, .ref 12), (3, .int v3), (4, .int v4)]) dX3_evenBy_45 rfl (Nat.le_of_ble_eq_true rfl) rfl <| o_iload_n (pc := 46) 3 dX3_evenBy_46 rfl rfl <| o_aload_n (pc := 47) 1 dX3_evenBy_47 rfl rfl <| o_getRc (pc := 48) (a := 38) (ci := 3) (j := 0) (nn := 0) dX3_evenBy_48 (hF.1 _ _ rfl) rfl (Nat.le_of_ble_eq_true rfl) k_198 rfl (hF.2 _ _ _ rfl) <| o_iload (pc := 51) 4 dX3_evenBy_51 rfl <| ?_
      refine S_ck fun h4 => ?_
      refine o_iald (pc := 53) (nn := 6) dX3_evenBy_53 (hF.1 _ _ rfl) (ck_in h4) <| o_min (pc := 54) dX3_evenBy_54 k_651 k_519 k_81 k_520 (Nat.le_of_ble_eq_true rfl) (Nat.le_of_ble_eq_true rfl) <| ?_
      refine o_lt fun x5 => ?_
      refine o_istore_n (pc := 57) (ls' := [(3, .int x5), (2, .int x3), (0, .ref 37), (1, .ref 12), (4, .int v4)]) dX3_evenBy_57 rfl (Nat.le_of_ble_eq_true rfl) rfl <| o_iinc (pc := 58) 4 (v := v4 + 1) (ls' := [(4, .int (v4 + 1)), (3, .int x5), (2, .int x3), (0, .ref 37), (1, .ref 12)]) dX3_evenBy_58 rfl rfl (Nat.le_of_ble_eq_true rfl) rfl <| ?_
      refine o_ltL (ls := fun x6 => [(4, .int x6), (3, .int x5), (2, .int x3), (0, .ref 37), (1, .ref 12)]) fun x6 => ?_
      refine o_goto (pc := 61) (tgt := 22) dX3_evenBy_61 rfl <| ?_
      refine o_sub [3, 4, 2, 1, 0] (ls' := [(0, .ref 37), (1, .ref 12), (2, .int x3), (3, .int x5), (4, .int x6)]) rfl ?_
      exact ih0 m x3 x5 x6
def fL_evenBy_12 (sh : Sh) (R : RR) (m : MI) : Option (Int32 × MI) :=
  (fL_goThrough_12 sh R m).bind fun r1 =>
  lt (r1.1 38 (0 : Int32).toNatClampNeg) fun x2 =>
  lt (r1.1 38 (0 : Int32).toNatClampNeg) fun x3 =>
  fL_evenBy_12_l22 
    (fun m7 z4 z5 z6 =>
      some (z4 - z5, m7)
      )
    1000 r1 x2 x3 1
theorem sL_evenBy_12 {sh : Sh} {R : RR} (hF : Fx sh R) (m : MI) : KS (eI sh R) false 6 0 0 YX3_evenBy sh R m [.ref 37, .ref 12] (fL_evenBy_12 sh R m ) := by
  refine KS_of pn_X3 (fun _ => Nat.le_of_ble_eq_true rfl) ?_
  change S _ _ _ _ _ _ _ _ _ _ [(0, .ref 37), (1, .ref 12)] [] _
  unfold fL_evenBy_12
  refine o_aload_n (pc := 0) 0 dX3_evenBy_0 rfl rfl <| o_aload_n (pc := 1) 1 dX3_evenBy_1 rfl rfl <| ?_
  refine o_callVV (Y2 := YX3_goThrough) (pc := 2) (av := [.ref 12]) (rest := []) dX3_evenBy_2 k_629 cm_X3_goThrough (sL_goThrough_12 hF m ) (hF.1 _ _ rfl) rfl rfl (Nat.le_of_ble_eq_true rfl) (Nat.le_of_ble_eq_true rfl) fun r1 => ?_
  refine o_aload_n (pc := 5) 0 dX3_evenBy_5 rfl rfl <| o_getRc (pc := 6) (a := 38) (ci := 3) (j := 0) (nn := 0) dX3_evenBy_6 (hF.1 _ _ rfl) rfl (Nat.le_of_ble_eq_true rfl) k_198 rfl (hF.2 _ _ _ rfl) <| o_iconst (pc := 9) dX3_evenBy_9 lc_0 <| o_iald (pc := 10) (nn := 6) dX3_evenBy_10 (hF.1 _ _ rfl) (ck_in rfl) <| ?_
  refine o_lt fun x2 => ?_
  refine o_istore_n (pc := 11) (ls' := [(2, .int x2), (0, .ref 37), (1, .ref 12)]) dX3_evenBy_11 rfl (Nat.le_of_ble_eq_true rfl) rfl <| o_aload_n (pc := 12) 1 dX3_evenBy_12 rfl rfl <| o_getRc (pc := 13) (a := 38) (ci := 3) (j := 0) (nn := 0) dX3_evenBy_13 (hF.1 _ _ rfl) rfl (Nat.le_of_ble_eq_true rfl) k_198 rfl (hF.2 _ _ _ rfl) <| o_iconst (pc := 16) dX3_evenBy_16 lc_0 <| o_iald (pc := 17) (nn := 6) dX3_evenBy_17 (hF.1 _ _ rfl) (ck_in rfl) <| ?_
  refine o_lt fun x3 => ?_
  refine o_istore_n (pc := 18) (ls' := [(3, .int x3), (2, .int x2), (0, .ref 37), (1, .ref 12)]) dX3_evenBy_18 rfl (Nat.le_of_ble_eq_true rfl) rfl <| o_iconst (pc := 19) dX3_evenBy_19 lc_1 <| o_istore (pc := 20) (ls' := [(4, .int 1), (3, .int x3), (2, .int x2), (0, .ref 37), (1, .ref 12)]) dX3_evenBy_20 (Nat.le_of_ble_eq_true rfl) rfl <| ?_
  refine o_sub [3, 4, 2, 1, 0] (ls' := [(0, .ref 37), (1, .ref 12), (2, .int x2), (3, .int x3), (4, .int 1)]) rfl ?_
  refine sL_evenBy_12_l22 hF  _ ?_ 1000 r1 x2 x3 1
  · intro m7 z4 z5 z6
    refine o_iload_n (pc := 64) 2 dX3_evenBy_64 rfl rfl <| o_iload_n (pc := 65) 3 dX3_evenBy_65 rfl rfl <| o_isub (pc := 66) dX3_evenBy_66 <| ?_
    exact o_iret (pc := 67) dX3_evenBy_67 rfl rfl
def fC_even (sh : Sh) (R : RR) (m : MI) : Option (Int32 × MI) :=
  if m.1 1 0 = 0 then
    some (-5, m)
  else
    (fL_begin sh R m 0).bind fun r2 =>
    (fL_evenBy_12 sh R r2).bind fun r3 =>
    some (r3.1, r3.2)
theorem sC_even {sh : Sh} {R : RR} (hF : Fx sh R) (m : MI) : KS (eI sh R) false 7 0 0 YX6_even sh R m [.ref 0] (fC_even sh R m ) := by
  refine KS_of pn_X6 (fun _ => Nat.le_of_ble_eq_true rfl) ?_
  change S _ _ _ _ _ _ _ _ _ _ [(0, .ref 0)] [] _
  unfold fC_even
  refine o_aload_n (pc := 0) 0 dX6_even_0 rfl rfl <| o_getRc (pc := 1) (a := 1) (ci := 6) (j := 0) (nn := 0) dX6_even_1 (hF.1 _ _ rfl) rfl (Nat.le_of_ble_eq_true rfl) k_292 rfl (hF.2 _ _ _ rfl) <| o_getI (pc := 4) (ci := 5) (j := 0) (nn := 0) dX6_even_4 (hF.1 _ _ rfl) rfl (Nat.le_of_ble_eq_true rfl) k_124 rfl <| ?_
  refine o_if_ne (pc := 7) (tgt := 13) dX6_even_7 rfl (fun h1 => ?_) (fun h1 => ?_)
  · refine o_bipush (pc := 10) dX6_even_10 lb_m5 <| ?_
    exact o_iret (pc := 12) dX6_even_12 rfl rfl
  · refine o_aload_n (pc := 13) 0 dX6_even_13 rfl rfl <| o_getRc (pc := 14) (a := 37) (ci := 6) (j := 3) (nn := 0) dX6_even_14 (hF.1 _ _ rfl) rfl (Nat.le_of_ble_eq_true rfl) k_295 rfl (hF.2 _ _ _ rfl) <| o_iconst (pc := 17) dX6_even_17 lc_0 <| ?_
    refine o_callVV (Y2 := YX3_begin) (pc := 18) (av := [.int 0]) (rest := []) dX6_even_18 k_618 cm_X3_begin (sL_begin hF m 0) (hF.1 _ _ rfl) rfl rfl (Nat.le_of_ble_eq_true rfl) (Nat.le_of_ble_eq_true rfl) fun r2 => ?_
    refine o_aload_n (pc := 21) 0 dX6_even_21 rfl rfl <| o_getRc (pc := 22) (a := 37) (ci := 6) (j := 3) (nn := 0) dX6_even_22 (hF.1 _ _ rfl) rfl (Nat.le_of_ble_eq_true rfl) k_295 rfl (hF.2 _ _ _ rfl) <| o_aload_n (pc := 25) 0 dX6_even_25 rfl rfl <| o_getRc (pc := 26) (a := 1) (ci := 6) (j := 0) (nn := 0) dX6_even_26 (hF.1 _ _ rfl) rfl (Nat.le_of_ble_eq_true rfl) k_292 rfl (hF.2 _ _ _ rfl) <| o_getRc (pc := 29) (a := 12) (ci := 5) (j := 5) (nn := 0) dX6_even_29 (hF.1 _ _ rfl) rfl (Nat.le_of_ble_eq_true rfl) k_135 rfl (hF.2 _ _ _ rfl) <| ?_
    refine o_callVI (Y2 := YX3_evenBy) (pc := 32) (av := [.ref 12]) (rest := []) dX6_even_32 k_646 cm_X3_evenBy (sL_evenBy_12 hF r2 ) (hF.1 _ _ rfl) rfl rfl (Nat.le_of_ble_eq_true rfl) (Nat.le_of_ble_eq_true rfl) fun r3 => ?_
    exact o_iret (pc := 35) dX6_even_35 rfl rfl
def fC_firstOrder_41_l2 (u1 : Int32) (k0_0 : MI → Int32 → Option (MI)) : Nat → MI → Int32 → Option (MI)
  | 0, _, _ => none
  | n0 + 1, m, v2 =>
    if u1 ≤ v2 then
      k0_0 m v2
    else
      if ck v2 6 = true then
        lm (mI m 41 (upd (m.1 41) v2.toNatClampNeg v2)) fun m3 =>
        lt (v2 + 1) fun x4 =>
        fC_firstOrder_41_l2 u1 k0_0 n0 m3 x4
      else none
theorem sC_firstOrder_41_l2 {sh : Sh} {R : RR} (hF : Fx sh R) (u1 : Int32) (k0_0 : MI → Int32 → Option (MI)) (hk0_0 : ∀ (m : MI) (v2 : Int32) , S (eV sh R) false 0 0 0 YX6_firstOrder sh R m 17 [(0, .ref 41), (1, .int u1), (2, .int v2)] [] (k0_0 m v2)) : ∀ (n : Nat) (m : MI) (v2 : Int32) , S (eV sh R) false 0 0 0 YX6_firstOrder sh R m 2 [(0, .ref 41), (1, .int u1), (2, .int v2)] [] (fC_firstOrder_41_l2 u1 k0_0 n m v2) := by
  intro n
  induction n with
  | zero => intros; exact S_none
  | succ n0 ih0 =>
    intro m v2
    rw [fC_firstOrder_41_l2]
    refine o_iload_n (pc := 2) 2 dX6_firstOrder_2 rfl rfl <| o_iload_n (pc := 3) 1 dX6_firstOrder_3 rfl rfl <| ?_
    refine o_icmp_ge (pc := 4) (tgt := 17) dX6_firstOrder_4 rfl (fun h1 => ?_) (fun h1 => ?_)
    · exact hk0_0 m v2
    · refine o_aload_n (pc := 7) 0 dX6_firstOrder_7 rfl rfl <| o_iload_n (pc := 8) 2 dX6_firstOrder_8 rfl rfl <| o_iload_n (pc := 9) 2 dX6_firstOrder_9 rfl rfl <| ?_
      refine S_ck fun h2 => ?_
      refine o_iast (pc := 10) (nn := 6) dX6_firstOrder_10 (hF.1 _ _ rfl) (ck_in h2) <| ?_
      refine o_lm fun m3 => ?_
      refine o_iinc (pc := 11) 2 (v := v2 + 1) (ls' := [(2, .int (v2 + 1)), (0, .ref 41), (1, .int u1)]) dX6_firstOrder_11 rfl rfl (Nat.le_of_ble_eq_true rfl) rfl <| ?_
      refine o_ltL (ls := fun x4 => [(2, .int x4), (0, .ref 41), (1, .int u1)]) fun x4 => ?_
      refine o_goto (pc := 14) (tgt := 2) dX6_firstOrder_14 rfl <| ?_
      refine o_sub [1, 2, 0] (ls' := [(0, .ref 41), (1, .int u1), (2, .int x4)]) rfl ?_
      exact ih0 m3 x4
def fC_firstOrder_41 (m : MI) (b : Int32) : Option (MI) :=
  fC_firstOrder_41_l2 b
    (fun m2 z1 =>
      some m2
      )
    1000 m 0
theorem sC_firstOrder_41 {sh : Sh} {R : RR} (hF : Fx sh R) (m : MI) (b : Int32) : KS (eV sh R) false 0 0 0 YX6_firstOrder sh R m [.ref 41, .int b] (fC_firstOrder_41 m b) := by
  refine KS_of pn_X6 (fun _ => Nat.le_of_ble_eq_true rfl) ?_
  change S _ _ _ _ _ _ _ _ _ _ [(0, .ref 41), (1, .int b)] [] _
  unfold fC_firstOrder_41
  refine o_iconst (pc := 0) dX6_firstOrder_0 lc_0 <| o_istore_n (pc := 1) (ls' := [(2, .int 0), (0, .ref 41), (1, .int b)]) dX6_firstOrder_1 rfl (Nat.le_of_ble_eq_true rfl) rfl <| ?_
  refine o_sub [1, 2, 0] (ls' := [(0, .ref 41), (1, .int b), (2, .int 0)]) rfl ?_
  refine sC_firstOrder_41_l2 hF b _ ?_ 1000 m 0
  · intro m2 z1
    exact o_vret (pc := 17) dX6_firstOrder_17 rfl rfl
def fL_goThrough_41_l43 (sh : Sh) (R : RR) (u2 : Int32) (u3 : Int32) (k1_0 : MI → Int64 → Int32 → Option (MI)) : Nat → MI → Int64 → Int32 → Option (MI)
  | 0, _, _, _ => none
  | n1 + 1, m, v4, v6 =>
    if m.1 37 4 < v6 then
      k1_0 m v4 v6
    else
      if ck v6 4 = true then
        if lg_cmp (m.2 39 v6.toNatClampNeg) 0 = 0 then
          if ck v6 4 = true then
            if ck v6 4 = true then
              lm (mJ m 39 (vp_updL (m.2 39) v6.toNatClampNeg ((m.2 39 v6.toNatClampNeg) - 0))) fun m6 =>
              if ck (v6 - 1) 4 = true then
                if ck (v6 - 1) 4 = true then
                  lm (mJ m6 39 (vp_updL (m6.2 39) (v6 - 1).toNatClampNeg ((m6.2 39 (v6 - 1).toNatClampNeg) + 0))) fun m9 =>
                  ltl (v4 + 0) fun y10 =>
                  lt (v6 + 1) fun x11 =>
                  fL_goThrough_41_l43 sh R u2 u3 k1_0 n1 m9 y10 x11
                else none
              else none
            else none
          else none
        else
          if ck v6 4 = true then
            (fL_chance sh R m u3 u2 v6).bind fun r13 =>
            ltl (((m.2 39 v6.toNatClampNeg) * (r13.1.toInt64)) / 1000000) fun y14 =>
            if ck v6 4 = true then
              if ck v6 4 = true then
                lm (mJ r13.2 39 (vp_updL (r13.2.2 39) v6.toNatClampNeg ((r13.2.2 39 v6.toNatClampNeg) - y14))) fun m17 =>
                if ck (v6 - 1) 4 = true then
                  if ck (v6 - 1) 4 = true then
                    lm (mJ m17 39 (vp_updL (m17.2 39) (v6 - 1).toNatClampNeg ((m17.2 39 (v6 - 1).toNatClampNeg) + y14))) fun m20 =>
                    ltl (v4 + y14) fun y21 =>
                    lt (v6 + 1) fun x22 =>
                    fL_goThrough_41_l43 sh R u2 u3 k1_0 n1 m20 y21 x22
                  else none
                else none
              else none
            else none
          else none
      else none
theorem sL_goThrough_41_l43 {sh : Sh} {R : RR} (hF : Fx sh R) (u2 : Int32) (u3 : Int32) (k1_0 : MI → Int64 → Int32 → Option (MI)) (hk1_0 : ∀ (m : MI) (v4 : Int64) (v6 : Int32) , S (eV sh R) false 5 0 0 YX3_goThrough sh R m 130 [(0, .ref 37), (1, .ref 41), (2, .int u2), (3, .int u3), (4, .long v4), (6, .int v6)] [] (k1_0 m v4 v6)) : ∀ (n : Nat) (m : MI) (v4 : Int64) (v6 : Int32) , S (eV sh R) false 5 0 0 YX3_goThrough sh R m 43 [(0, .ref 37), (1, .ref 41), (2, .int u2), (3, .int u3), (4, .long v4), (6, .int v6)] [] (fL_goThrough_41_l43 sh R u2 u3 k1_0 n m v4 v6) := by
  intro n
  induction n with
  | zero => intros; exact S_none
  | succ n1 ih1 =>
    intro m v4 v6
    rw [fL_goThrough_41_l43]
    refine o_iload (pc := 43) 5 dX3_goThrough_43 rfl <| o_aload_n (pc := 45) 0 dX3_goThrough_45 rfl rfl <| o_getI (pc := 46) (ci := 3) (j := 4) (nn := 0) dX3_goThrough_46 (hF.1 _ _ rfl) rfl (Nat.le_of_ble_eq_true rfl) k_203 rfl <| ?_
    refine o_icmp_gt (pc := 49) (tgt := 130) dX3_goThrough_49 rfl (fun h1 => ?_) (fun h1 => ?_)
    · exact hk1_0 m v4 v6
    · refine o_aload_n (pc := 52) 0 dX3_goThrough_52 rfl rfl <| o_getRc (pc := 53) (a := 39) (ci := 3) (j := 2) (nn := 0) dX3_goThrough_53 (hF.1 _ _ rfl) rfl (Nat.le_of_ble_eq_true rfl) k_201 rfl (hF.2 _ _ _ rfl) <| o_iload (pc := 56) 5 dX3_goThrough_56 rfl <| ?_
      refine S_ck fun h2 => ?_
      refine o_lald (pc := 58) (nn := 4) dX3_goThrough_58 (hF.1 _ _ rfl) (ck_in h2) <| o_lconst (pc := 59) (x := 0) dX3_goThrough_59 rfl <| o_lcmp (pc := 60) dX3_goThrough_60 <| ?_
      refine o_if_ne (pc := 61) (tgt := 68) dX3_goThrough_61 rfl (fun h3 => ?_) (fun h3 => ?_)
      · refine o_lconst (pc := 64) (x := 0) dX3_goThrough_64 rfl <| o_goto (pc := 65) (tgt := 89) dX3_goThrough_65 rfl <| o_lstore (pc := 89) (ls' := [(7, .long 0), (0, .ref 37), (1, .ref 41), (2, .int u2), (3, .int u3), (4, .long v4), (6, .int v6)]) dX3_goThrough_89 (Nat.le_of_ble_eq_true rfl) rfl <| o_aload_n (pc := 91) 1 dX3_goThrough_91 rfl rfl <| o_getRc (pc := 92) (a := 39) (ci := 3) (j := 2) (nn := 0) dX3_goThrough_92 (hF.1 _ _ rfl) rfl (Nat.le_of_ble_eq_true rfl) k_201 rfl (hF.2 _ _ _ rfl) <| o_iload (pc := 95) 6 dX3_goThrough_95 rfl <| o_dup2 (pc := 97) dX3_goThrough_97 rfl rfl <| ?_
        refine S_ck fun h4 => ?_
        refine o_lald (pc := 98) (nn := 4) dX3_goThrough_98 (hF.1 _ _ rfl) (ck_in h4) <| o_lload (pc := 99) 0 dX3_goThrough_99 rfl <| o_lsub (pc := 101) dX3_goThrough_101 <| ?_
        refine S_ck fun h5 => ?_
        refine o_last (pc := 102) (nn := 4) dX3_goThrough_102 (hF.1 _ _ rfl) (ck_in h5) <| ?_
        refine o_lm fun m6 => ?_
        refine o_aload_n (pc := 103) 1 dX3_goThrough_103 rfl rfl <| o_getRc (pc := 104) (a := 39) (ci := 3) (j := 2) (nn := 0) dX3_goThrough_104 (hF.1 _ _ rfl) rfl (Nat.le_of_ble_eq_true rfl) k_201 rfl (hF.2 _ _ _ rfl) <| o_iload (pc := 107) 6 dX3_goThrough_107 rfl <| o_iconst (pc := 109) dX3_goThrough_109 lc_1 <| o_isub (pc := 110) dX3_goThrough_110 <| o_dup2 (pc := 111) dX3_goThrough_111 rfl rfl <| ?_
        refine S_ck fun h7 => ?_
        refine o_lald (pc := 112) (nn := 4) dX3_goThrough_112 (hF.1 _ _ rfl) (ck_in h7) <| o_lload (pc := 113) 0 dX3_goThrough_113 rfl <| o_ladd (pc := 115) dX3_goThrough_115 <| ?_
        refine S_ck fun h8 => ?_
        refine o_last (pc := 116) (nn := 4) dX3_goThrough_116 (hF.1 _ _ rfl) (ck_in h8) <| ?_
        refine o_lm fun m9 => ?_
        refine o_lload (pc := 117) 5 dX3_goThrough_117 rfl <| o_lload (pc := 119) 0 dX3_goThrough_119 rfl <| o_ladd (pc := 121) dX3_goThrough_121 <| ?_
        refine o_ltl fun y10 => ?_
        refine o_lstore (pc := 122) (ls' := [(4, .long y10), (7, .long 0), (0, .ref 37), (1, .ref 41), (2, .int u2), (3, .int u3), (6, .int v6)]) dX3_goThrough_122 (Nat.le_of_ble_eq_true rfl) rfl <| o_iinc (pc := 124) 6 (v := v6 + 1) (ls' := [(6, .int (v6 + 1)), (4, .long y10), (7, .long 0), (0, .ref 37), (1, .ref 41), (2, .int u2), (3, .int u3)]) dX3_goThrough_124 rfl rfl (Nat.le_of_ble_eq_true rfl) rfl <| ?_
        refine o_ltL (ls := fun x11 => [(6, .int x11), (4, .long y10), (7, .long 0), (0, .ref 37), (1, .ref 41), (2, .int u2), (3, .int u3)]) fun x11 => ?_
        refine o_goto (pc := 127) (tgt := 43) dX3_goThrough_127 rfl <| ?_
        refine o_sub [3, 4, 5, 6, 1, 0] (ls' := [(0, .ref 37), (1, .ref 41), (2, .int u2), (3, .int u3), (4, .long y10), (6, .int x11)]) rfl ?_
        exact ih1 m9 y10 x11
      · refine o_aload_n (pc := 68) 0 dX3_goThrough_68 rfl rfl <| o_getRc (pc := 69) (a := 39) (ci := 3) (j := 2) (nn := 0) dX3_goThrough_69 (hF.1 _ _ rfl) rfl (Nat.le_of_ble_eq_true rfl) k_201 rfl (hF.2 _ _ _ rfl) <| o_iload (pc := 72) 5 dX3_goThrough_72 rfl <| ?_
        refine S_ck fun h12 => ?_
        refine o_lald (pc := 74) (nn := 4) dX3_goThrough_74 (hF.1 _ _ rfl) (ck_in h12) <| o_aload_n (pc := 75) 0 dX3_goThrough_75 rfl rfl <| o_iload_n (pc := 76) 3 dX3_goThrough_76 rfl rfl <| o_iload_n (pc := 77) 2 dX3_goThrough_77 rfl rfl <| o_iload (pc := 78) 5 dX3_goThrough_78 rfl <| ?_
        refine o_callVI (Y2 := YX3_chance) (pc := 80) (av := [.int u3, .int u2, .int v6]) (rest := [.long (m.2 39 v6.toNatClampNeg)]) dX3_goThrough_80 k_637 cm_X3_chance (sL_chance hF m u3 u2 v6) (hF.1 _ _ rfl) rfl rfl (Nat.le_of_ble_eq_true rfl) (Nat.le_of_ble_eq_true rfl) fun r13 => ?_
        refine o_i2l (pc := 83) dX3_goThrough_83 <| o_lmul (pc := 84) dX3_goThrough_84 <| o_ldc2 (pc := 85) dX3_goThrough_85 k_636 <| o_ldiv (pc := 88) dX3_goThrough_88 (by decide) <| ?_
        refine o_ltl fun y14 => ?_
        refine o_lstore (pc := 89) (ls' := [(7, .long y14), (0, .ref 37), (1, .ref 41), (2, .int u2), (3, .int u3), (4, .long v4), (6, .int v6)]) dX3_goThrough_89 (Nat.le_of_ble_eq_true rfl) rfl <| o_aload_n (pc := 91) 1 dX3_goThrough_91 rfl rfl <| o_getRc (pc := 92) (a := 39) (ci := 3) (j := 2) (nn := 0) dX3_goThrough_92 (hF.1 _ _ rfl) rfl (Nat.le_of_ble_eq_true rfl) k_201 rfl (hF.2 _ _ _ rfl) <| o_iload (pc := 95) 6 dX3_goThrough_95 rfl <| o_dup2 (pc := 97) dX3_goThrough_97 rfl rfl <| ?_
        refine S_ck fun h15 => ?_
        refine o_lald (pc := 98) (nn := 4) dX3_goThrough_98 (hF.1 _ _ rfl) (ck_in h15) <| o_lload (pc := 99) 0 dX3_goThrough_99 rfl <| o_lsub (pc := 101) dX3_goThrough_101 <| ?_
        refine S_ck fun h16 => ?_
        refine o_last (pc := 102) (nn := 4) dX3_goThrough_102 (hF.1 _ _ rfl) (ck_in h16) <| ?_
        refine o_lm fun m17 => ?_
        refine o_aload_n (pc := 103) 1 dX3_goThrough_103 rfl rfl <| o_getRc (pc := 104) (a := 39) (ci := 3) (j := 2) (nn := 0) dX3_goThrough_104 (hF.1 _ _ rfl) rfl (Nat.le_of_ble_eq_true rfl) k_201 rfl (hF.2 _ _ _ rfl) <| o_iload (pc := 107) 6 dX3_goThrough_107 rfl <| o_iconst (pc := 109) dX3_goThrough_109 lc_1 <| o_isub (pc := 110) dX3_goThrough_110 <| o_dup2 (pc := 111) dX3_goThrough_111 rfl rfl <| ?_
        refine S_ck fun h18 => ?_
        refine o_lald (pc := 112) (nn := 4) dX3_goThrough_112 (hF.1 _ _ rfl) (ck_in h18) <| o_lload (pc := 113) 0 dX3_goThrough_113 rfl <| o_ladd (pc := 115) dX3_goThrough_115 <| ?_
        refine S_ck fun h19 => ?_
        refine o_last (pc := 116) (nn := 4) dX3_goThrough_116 (hF.1 _ _ rfl) (ck_in h19) <| ?_
        refine o_lm fun m20 => ?_
        refine o_lload (pc := 117) 5 dX3_goThrough_117 rfl <| o_lload (pc := 119) 0 dX3_goThrough_119 rfl <| o_ladd (pc := 121) dX3_goThrough_121 <| ?_
        refine o_ltl fun y21 => ?_
        refine o_lstore (pc := 122) (ls' := [(4, .long y21), (7, .long y14), (0, .ref 37), (1, .ref 41), (2, .int u2), (3, .int u3), (6, .int v6)]) dX3_goThrough_122 (Nat.le_of_ble_eq_true rfl) rfl <| o_iinc (pc := 124) 6 (v := v6 + 1) (ls' := [(6, .int (v6 + 1)), (4, .long y21), (7, .long y14), (0, .ref 37), (1, .ref 41), (2, .int u2), (3, .int u3)]) dX3_goThrough_124 rfl rfl (Nat.le_of_ble_eq_true rfl) rfl <| ?_
        refine o_ltL (ls := fun x22 => [(6, .int x22), (4, .long y21), (7, .long y14), (0, .ref 37), (1, .ref 41), (2, .int u2), (3, .int u3)]) fun x22 => ?_
        refine o_goto (pc := 127) (tgt := 43) dX3_goThrough_127 rfl <| ?_
        refine o_sub [3, 4, 5, 6, 1, 0] (ls' := [(0, .ref 37), (1, .ref 41), (2, .int u2), (3, .int u3), (4, .long y21), (6, .int x22)]) rfl ?_
        exact ih1 m20 y21 x22
def fL_goThrough_41_l22 (sh : Sh) (R : RR) (k0_0 : MI → Int32 → Option (MI)) : Nat → MI → Int32 → Option (MI)
  | 0, _, _ => none
  | n0 + 1, m, v2 =>
    if m.1 1 0 ≤ v2 then
      k0_0 m v2
    else
      if ck v2 6 = true then
        lt (m.1 41 v2.toNatClampNeg) fun x3 =>
        fL_goThrough_41_l43 sh R v2 x3
          (fun m6 z4 z5 =>
            if ck x3 6 = true then
              lm (mI m6 38 (upd (m6.1 38) x3.toNatClampNeg (z4.toInt32))) fun m8 =>
              lt (v2 + 1) fun x9 =>
              fL_goThrough_41_l22 sh R k0_0 n0 m8 x9
            else none
            )
          1000 m 0 1
      else none
theorem sL_goThrough_41_l22 {sh : Sh} {R : RR} (hF : Fx sh R) (k0_0 : MI → Int32 → Option (MI)) (hk0_0 : ∀ (m : MI) (v2 : Int32) , S (eV sh R) false 5 0 0 YX3_goThrough sh R m 145 [(0, .ref 37), (1, .ref 41), (2, .int v2)] [] (k0_0 m v2)) : ∀ (n : Nat) (m : MI) (v2 : Int32) , S (eV sh R) false 5 0 0 YX3_goThrough sh R m 22 [(0, .ref 37), (1, .ref 41), (2, .int v2)] [] (fL_goThrough_41_l22 sh R k0_0 n m v2) := by
  intro n
  induction n with
  | zero => intros; exact S_none
  | succ n0 ih0 =>
    intro m v2
    rw [fL_goThrough_41_l22]
    refine o_iload_n (pc := 22) 2 dX3_goThrough_22 rfl rfl <| o_aload_n (pc := 23) 0 dX3_goThrough_23 rfl rfl <| o_getRc (pc := 24) (a := 1) (ci := 3) (j := 1) (nn := 0) dX3_goThrough_24 (hF.1 _ _ rfl) rfl (Nat.le_of_ble_eq_true rfl) k_200 rfl (hF.2 _ _ _ rfl) <| o_getI (pc := 27) (ci := 5) (j := 0) (nn := 0) dX3_goThrough_27 (hF.1 _ _ rfl) rfl (Nat.le_of_ble_eq_true rfl) k_125 rfl <| ?_
    refine o_icmp_ge (pc := 30) (tgt := 145) dX3_goThrough_30 rfl (fun h1 => ?_) (fun h1 => ?_)
    · exact hk0_0 m v2
    · refine o_aload_n (pc := 33) 1 dX3_goThrough_33 rfl rfl <| o_iload_n (pc := 34) 2 dX3_goThrough_34 rfl rfl <| ?_
      refine S_ck fun h2 => ?_
      refine o_iald (pc := 35) (nn := 6) dX3_goThrough_35 (hF.1 _ _ rfl) (ck_in h2) <| ?_
      refine o_lt fun x3 => ?_
      refine o_istore_n (pc := 36) (ls' := [(3, .int x3), (0, .ref 37), (1, .ref 41), (2, .int v2)]) dX3_goThrough_36 rfl (Nat.le_of_ble_eq_true rfl) rfl <| o_lconst (pc := 37) (x := 0) dX3_goThrough_37 rfl <| o_lstore (pc := 38) (ls' := [(4, .long 0), (3, .int x3), (0, .ref 37), (1, .ref 41), (2, .int v2)]) dX3_goThrough_38 (Nat.le_of_ble_eq_true rfl) rfl <| o_iconst (pc := 40) dX3_goThrough_40 lc_1 <| o_istore (pc := 41) (ls' := [(6, .int 1), (4, .long 0), (3, .int x3), (0, .ref 37), (1, .ref 41), (2, .int v2)]) dX3_goThrough_41 (Nat.le_of_ble_eq_true rfl) rfl <| ?_
      refine o_sub [3, 4, 5, 2, 1, 0] (ls' := [(0, .ref 37), (1, .ref 41), (2, .int v2), (3, .int x3), (4, .long 0), (6, .int 1)]) rfl ?_
      refine sL_goThrough_41_l43 hF v2 x3 _ ?_ 1000 m 0 1
      · intro m6 z4 z5
        refine o_aload_n (pc := 130) 0 dX3_goThrough_130 rfl rfl <| o_getRc (pc := 131) (a := 38) (ci := 3) (j := 0) (nn := 0) dX3_goThrough_131 (hF.1 _ _ rfl) rfl (Nat.le_of_ble_eq_true rfl) k_198 rfl (hF.2 _ _ _ rfl) <| o_iload_n (pc := 134) 3 dX3_goThrough_134 rfl rfl <| o_lload (pc := 135) 4 dX3_goThrough_135 rfl <| o_l2i (pc := 137) dX3_goThrough_137 <| ?_
        refine S_ck fun h7 => ?_
        refine o_iast (pc := 138) (nn := 6) dX3_goThrough_138 (hF.1 _ _ rfl) (ck_in h7) <| ?_
        refine o_lm fun m8 => ?_
        refine o_iinc (pc := 139) 2 (v := v2 + 1) (ls' := [(2, .int (v2 + 1)), (0, .ref 37), (1, .ref 41), (3, .int x3), (4, .long z4), (6, .int z5)]) dX3_goThrough_139 rfl rfl (Nat.le_of_ble_eq_true rfl) rfl <| ?_
        refine o_ltL (ls := fun x9 => [(2, .int x9), (0, .ref 37), (1, .ref 41), (3, .int x3), (4, .long z4), (6, .int z5)]) fun x9 => ?_
        refine o_goto (pc := 142) (tgt := 22) dX3_goThrough_142 rfl <| ?_
        refine o_sub [1, 2, 0] (ls' := [(0, .ref 37), (1, .ref 41), (2, .int x9)]) rfl ?_
        exact ih0 m8 x9
def fL_goThrough_41 (sh : Sh) (R : RR) (m : MI) : Option (MI) :=
  (fJA_fill_d0a16 sh R m 39 0).bind fun r1 =>
  if ck (r1.1 37 4) 4 = true then
    lm (mJ r1 39 (vp_updL (r1.2 39) (r1.1 37 4).toNatClampNeg 1000000)) fun m3 =>
    fL_goThrough_41_l22 sh R 
      (fun m5 z4 =>
        some m5
        )
      1000 m3 0
  else none
theorem sL_goThrough_41 {sh : Sh} {R : RR} (hF : Fx sh R) (m : MI) : KS (eV sh R) false 5 0 0 YX3_goThrough sh R m [.ref 37, .ref 41] (fL_goThrough_41 sh R m ) := by
  refine KS_of pn_X3 (fun _ => Nat.le_of_ble_eq_true rfl) ?_
  change S _ _ _ _ _ _ _ _ _ _ [(0, .ref 37), (1, .ref 41)] [] _
  unfold fL_goThrough_41
  refine o_aload_n (pc := 0) 0 dX3_goThrough_0 rfl rfl <| o_getRc (pc := 1) (a := 39) (ci := 3) (j := 2) (nn := 0) dX3_goThrough_1 (hF.1 _ _ rfl) rfl (Nat.le_of_ble_eq_true rfl) k_201 rfl (hF.2 _ _ _ rfl) <| o_lconst (pc := 4) (x := 0) dX3_goThrough_4 rfl <| ?_
  refine o_callSV (Y2 := YJ7_fill_d0a16) (pc := 5) (av := [.ref 39, .long 0]) (rest := []) dX3_goThrough_5 k_633 cs_J7_fill_d0a16 (sJA_fill_d0a16 hF m 39 0) rfl rfl (Nat.le_of_ble_eq_true rfl) (Nat.le_of_ble_eq_true rfl) fun r1 => ?_
  refine o_aload_n (pc := 8) 0 dX3_goThrough_8 rfl rfl <| o_getRc (pc := 9) (a := 39) (ci := 3) (j := 2) (nn := 0) dX3_goThrough_9 (hF.1 _ _ rfl) rfl (Nat.le_of_ble_eq_true rfl) k_201 rfl (hF.2 _ _ _ rfl) <| o_aload_n (pc := 12) 0 dX3_goThrough_12 rfl rfl <| o_getI (pc := 13) (ci := 3) (j := 4) (nn := 0) dX3_goThrough_13 (hF.1 _ _ rfl) rfl (Nat.le_of_ble_eq_true rfl) k_203 rfl <| o_ldc2 (pc := 16) dX3_goThrough_16 k_636 <| ?_
  refine S_ck fun h2 => ?_
  refine o_last (pc := 19) (nn := 4) dX3_goThrough_19 (hF.1 _ _ rfl) (ck_in h2) <| ?_
  refine o_lm fun m3 => ?_
  refine o_iconst (pc := 20) dX3_goThrough_20 lc_0 <| o_istore_n (pc := 21) (ls' := [(2, .int 0), (0, .ref 37), (1, .ref 41)]) dX3_goThrough_21 rfl (Nat.le_of_ble_eq_true rfl) rfl <| ?_
  refine o_sub [1, 2, 0] (ls' := [(0, .ref 37), (1, .ref 41), (2, .int 0)]) rfl ?_
  refine sL_goThrough_41_l22 hF  _ ?_ 1000 m3 0
  · intro m5 z4
    exact o_vret (pc := 145) dX3_goThrough_145 rfl rfl
def fL_evenBy_41_l22 (k0_0 : MI → Int32 → Int32 → Int32 → Option (Int32 × MI)) : Nat → MI → Int32 → Int32 → Int32 → Option (Int32 × MI)
  | 0, _, _, _, _ => none
  | n0 + 1, m, v2, v3, v4 =>
    if m.1 1 0 ≤ v4 then
      k0_0 m v2 v3 v4
    else
      if ck v4 6 = true then
        lt (if v2 < m.1 38 v4.toNatClampNeg then m.1 38 v4.toNatClampNeg else v2) fun x3 =>
        if ck v4 6 = true then
          lt (if m.1 38 v4.toNatClampNeg < v3 then m.1 38 v4.toNatClampNeg else v3) fun x5 =>
          lt (v4 + 1) fun x6 =>
          fL_evenBy_41_l22 k0_0 n0 m x3 x5 x6
        else none
      else none
theorem sL_evenBy_41_l22 {sh : Sh} {R : RR} (hF : Fx sh R) (k0_0 : MI → Int32 → Int32 → Int32 → Option (Int32 × MI)) (hk0_0 : ∀ (m : MI) (v2 : Int32) (v3 : Int32) (v4 : Int32) , S (eI sh R) false 6 0 0 YX3_evenBy sh R m 64 [(0, .ref 37), (1, .ref 41), (2, .int v2), (3, .int v3), (4, .int v4)] [] (k0_0 m v2 v3 v4)) : ∀ (n : Nat) (m : MI) (v2 : Int32) (v3 : Int32) (v4 : Int32) , S (eI sh R) false 6 0 0 YX3_evenBy sh R m 22 [(0, .ref 37), (1, .ref 41), (2, .int v2), (3, .int v3), (4, .int v4)] [] (fL_evenBy_41_l22 k0_0 n m v2 v3 v4) := by
  intro n
  induction n with
  | zero => intros; exact S_none
  | succ n0 ih0 =>
    intro m v2 v3 v4
    rw [fL_evenBy_41_l22]
    refine o_iload (pc := 22) 4 dX3_evenBy_22 rfl <| o_aload_n (pc := 24) 0 dX3_evenBy_24 rfl rfl <| o_getRc (pc := 25) (a := 1) (ci := 3) (j := 1) (nn := 0) dX3_evenBy_25 (hF.1 _ _ rfl) rfl (Nat.le_of_ble_eq_true rfl) k_200 rfl (hF.2 _ _ _ rfl) <| o_getI (pc := 28) (ci := 5) (j := 0) (nn := 0) dX3_evenBy_28 (hF.1 _ _ rfl) rfl (Nat.le_of_ble_eq_true rfl) k_125 rfl <| ?_
    refine o_icmp_ge (pc := 31) (tgt := 64) dX3_evenBy_31 rfl (fun h1 => ?_) (fun h1 => ?_)
    · exact hk0_0 m v2 v3 v4
    · refine o_iload_n (pc := 34) 2 dX3_evenBy_34 rfl rfl <| o_aload_n (pc := 35) 0 dX3_evenBy_35 rfl rfl <| o_getRc (pc := 36) (a := 38) (ci := 3) (j := 0) (nn := 0) dX3_evenBy_36 (hF.1 _ _ rfl) rfl (Nat.le_of_ble_eq_true rfl) k_198 rfl (hF.2 _ _ _ rfl) <| o_iload (pc := 39) 4 dX3_evenBy_39 rfl <| ?_
      refine S_ck fun h2 => ?_
      refine o_iald (pc := 41) (nn := 6) dX3_evenBy_41 (hF.1 _ _ rfl) (ck_in h2) <| o_max (pc := 42) dX3_evenBy_42 k_650 k_347 k_81 k_348 (Nat.le_of_ble_eq_true rfl) (Nat.le_of_ble_eq_true rfl) <| ?_
      refine o_lt fun x3 => ?_
      refine o_istore_n (pc := 45) (ls' := [(2, .int x3), (0, .ref 37), (1, .ref 41), (3, .int v3), (4, .int v4)]) dX3_evenBy_45 rfl (Nat.le_of_ble_eq_true rfl) rfl <| o_iload_n (pc := 46) 3 dX3_evenBy_46 rfl rfl <| o_aload_n (pc := 47) 1 dX3_evenBy_47 rfl rfl <| o_getRc (pc := 48) (a := 38) (ci := 3) (j := 0) (nn := 0) dX3_evenBy_48 (hF.1 _ _ rfl) rfl (Nat.le_of_ble_eq_true rfl) k_198 rfl (hF.2 _ _ _ rfl) <| o_iload (pc := 51) 4 dX3_evenBy_51 rfl <| ?_
      refine S_ck fun h4 => ?_
      refine o_iald (pc := 53) (nn := 6) dX3_evenBy_53 (hF.1 _ _ rfl) (ck_in h4) <| o_min (pc := 54) dX3_evenBy_54 k_651 k_519 k_81 k_520 (Nat.le_of_ble_eq_true rfl) (Nat.le_of_ble_eq_true rfl) <| ?_
      refine o_lt fun x5 => ?_
      refine o_istore_n (pc := 57) (ls' := [(3, .int x5), (2, .int x3), (0, .ref 37), (1, .ref 41), (4, .int v4)]) dX3_evenBy_57 rfl (Nat.le_of_ble_eq_true rfl) rfl <| o_iinc (pc := 58) 4 (v := v4 + 1) (ls' := [(4, .int (v4 + 1)), (3, .int x5), (2, .int x3), (0, .ref 37), (1, .ref 41)]) dX3_evenBy_58 rfl rfl (Nat.le_of_ble_eq_true rfl) rfl <| ?_
      refine o_ltL (ls := fun x6 => [(4, .int x6), (3, .int x5), (2, .int x3), (0, .ref 37), (1, .ref 41)]) fun x6 => ?_
      refine o_goto (pc := 61) (tgt := 22) dX3_evenBy_61 rfl <| ?_
      refine o_sub [3, 4, 2, 1, 0] (ls' := [(0, .ref 37), (1, .ref 41), (2, .int x3), (3, .int x5), (4, .int x6)]) rfl ?_
      exact ih0 m x3 x5 x6
def fL_evenBy_41 (sh : Sh) (R : RR) (m : MI) : Option (Int32 × MI) :=
  (fL_goThrough_41 sh R m).bind fun r1 =>
  lt (r1.1 38 (0 : Int32).toNatClampNeg) fun x2 =>
  lt (r1.1 38 (0 : Int32).toNatClampNeg) fun x3 =>
  fL_evenBy_41_l22 
    (fun m7 z4 z5 z6 =>
      some (z4 - z5, m7)
      )
    1000 r1 x2 x3 1
theorem sL_evenBy_41 {sh : Sh} {R : RR} (hF : Fx sh R) (m : MI) : KS (eI sh R) false 6 0 0 YX3_evenBy sh R m [.ref 37, .ref 41] (fL_evenBy_41 sh R m ) := by
  refine KS_of pn_X3 (fun _ => Nat.le_of_ble_eq_true rfl) ?_
  change S _ _ _ _ _ _ _ _ _ _ [(0, .ref 37), (1, .ref 41)] [] _
  unfold fL_evenBy_41
  refine o_aload_n (pc := 0) 0 dX3_evenBy_0 rfl rfl <| o_aload_n (pc := 1) 1 dX3_evenBy_1 rfl rfl <| ?_
  refine o_callVV (Y2 := YX3_goThrough) (pc := 2) (av := [.ref 41]) (rest := []) dX3_evenBy_2 k_629 cm_X3_goThrough (sL_goThrough_41 hF m ) (hF.1 _ _ rfl) rfl rfl (Nat.le_of_ble_eq_true rfl) (Nat.le_of_ble_eq_true rfl) fun r1 => ?_
  refine o_aload_n (pc := 5) 0 dX3_evenBy_5 rfl rfl <| o_getRc (pc := 6) (a := 38) (ci := 3) (j := 0) (nn := 0) dX3_evenBy_6 (hF.1 _ _ rfl) rfl (Nat.le_of_ble_eq_true rfl) k_198 rfl (hF.2 _ _ _ rfl) <| o_iconst (pc := 9) dX3_evenBy_9 lc_0 <| o_iald (pc := 10) (nn := 6) dX3_evenBy_10 (hF.1 _ _ rfl) (ck_in rfl) <| ?_
  refine o_lt fun x2 => ?_
  refine o_istore_n (pc := 11) (ls' := [(2, .int x2), (0, .ref 37), (1, .ref 41)]) dX3_evenBy_11 rfl (Nat.le_of_ble_eq_true rfl) rfl <| o_aload_n (pc := 12) 1 dX3_evenBy_12 rfl rfl <| o_getRc (pc := 13) (a := 38) (ci := 3) (j := 0) (nn := 0) dX3_evenBy_13 (hF.1 _ _ rfl) rfl (Nat.le_of_ble_eq_true rfl) k_198 rfl (hF.2 _ _ _ rfl) <| o_iconst (pc := 16) dX3_evenBy_16 lc_0 <| o_iald (pc := 17) (nn := 6) dX3_evenBy_17 (hF.1 _ _ rfl) (ck_in rfl) <| ?_
  refine o_lt fun x3 => ?_
  refine o_istore_n (pc := 18) (ls' := [(3, .int x3), (2, .int x2), (0, .ref 37), (1, .ref 41)]) dX3_evenBy_18 rfl (Nat.le_of_ble_eq_true rfl) rfl <| o_iconst (pc := 19) dX3_evenBy_19 lc_1 <| o_istore (pc := 20) (ls' := [(4, .int 1), (3, .int x3), (2, .int x2), (0, .ref 37), (1, .ref 41)]) dX3_evenBy_20 (Nat.le_of_ble_eq_true rfl) rfl <| ?_
  refine o_sub [3, 4, 2, 1, 0] (ls' := [(0, .ref 37), (1, .ref 41), (2, .int x2), (3, .int x3), (4, .int 1)]) rfl ?_
  refine sL_evenBy_41_l22 hF  _ ?_ 1000 r1 x2 x3 1
  · intro m7 z4 z5 z6
    refine o_iload_n (pc := 64) 2 dX3_evenBy_64 rfl rfl <| o_iload_n (pc := 65) 3 dX3_evenBy_65 rfl rfl <| o_isub (pc := 66) dX3_evenBy_66 <| ?_
    exact o_iret (pc := 67) dX3_evenBy_67 rfl rfl
def fC_swap_41 (m : MI) (b : Int32) (c : Int32) : Option (MI) :=
  if ck b 6 = true then
    lt (m.1 41 b.toNatClampNeg) fun x2 =>
    if ck c 6 = true then
      if ck b 6 = true then
        lm (mI m 41 (upd (m.1 41) b.toNatClampNeg (m.1 41 c.toNatClampNeg))) fun m5 =>
        if ck c 6 = true then
          lm (mI m5 41 (upd (m5.1 41) c.toNatClampNeg x2)) fun m7 =>
          some m7
        else none
      else none
    else none
  else none
theorem sC_swap_41 {sh : Sh} {R : RR} (hF : Fx sh R) (m : MI) (b : Int32) (c : Int32) : KS (eV sh R) false 0 0 0 YX6_swap sh R m [.ref 41, .int b, .int c] (fC_swap_41 m b c) := by
  refine KS_of pn_X6 (fun _ => Nat.le_of_ble_eq_true rfl) ?_
  change S _ _ _ _ _ _ _ _ _ _ [(0, .ref 41), (1, .int b), (2, .int c)] [] _
  unfold fC_swap_41
  refine o_aload_n (pc := 0) 0 dX6_swap_0 rfl rfl <| o_iload_n (pc := 1) 1 dX6_swap_1 rfl rfl <| ?_
  refine S_ck fun h1 => ?_
  refine o_iald (pc := 2) (nn := 6) dX6_swap_2 (hF.1 _ _ rfl) (ck_in h1) <| ?_
  refine o_lt fun x2 => ?_
  refine o_istore_n (pc := 3) (ls' := [(3, .int x2), (0, .ref 41), (1, .int b), (2, .int c)]) dX6_swap_3 rfl (Nat.le_of_ble_eq_true rfl) rfl <| o_aload_n (pc := 4) 1 dX6_swap_4 rfl rfl <| o_iload_n (pc := 5) 2 dX6_swap_5 rfl rfl <| o_aload_n (pc := 6) 1 dX6_swap_6 rfl rfl <| o_iload_n (pc := 7) 3 dX6_swap_7 rfl rfl <| ?_
  refine S_ck fun h3 => ?_
  refine o_iald (pc := 8) (nn := 6) dX6_swap_8 (hF.1 _ _ rfl) (ck_in h3) <| ?_
  refine S_ck fun h4 => ?_
  refine o_iast (pc := 9) (nn := 6) dX6_swap_9 (hF.1 _ _ rfl) (ck_in h4) <| ?_
  refine o_lm fun m5 => ?_
  refine o_aload_n (pc := 10) 1 dX6_swap_10 rfl rfl <| o_iload_n (pc := 11) 3 dX6_swap_11 rfl rfl <| o_iload_n (pc := 12) 0 dX6_swap_12 rfl rfl <| ?_
  refine S_ck fun h6 => ?_
  refine o_iast (pc := 13) (nn := 6) dX6_swap_13 (hF.1 _ _ rfl) (ck_in h6) <| ?_
  refine o_lm fun m7 => ?_
  exact o_vret (pc := 14) dX6_swap_14 rfl rfl
