def fM_letterAt (m : MI) (a : Int32) : Option (Int32 × MI) :=
  if a = 100 then
    some (0, m)
  else
    if a = 101 then
      some (-1, m)
    else
      if a = 102 then
        some (-1, m)
      else
        if a = 103 then
          some (-1, m)
        else
          if a = 104 then
            some (-1, m)
          else
            if a = 105 then
              some (-1, m)
            else
              if a = 106 then
                some (-1, m)
              else
                if a = 107 then
                  some (1, m)
                else
                  if a = 108 then
                    some (4, m)
                  else
                    if a = 109 then
                      some (-1, m)
                    else
                      if a = 110 then
                        some (2, m)
                      else
                        if a = 111 then
                          some (-1, m)
                        else
                          if a = 112 then
                            some (5, m)
                          else
                            if a = 113 then
                              some (-1, m)
                            else
                              if a = 114 then
                                some (-1, m)
                              else
                                if a = 115 then
                                  some (3, m)
                                else
                                  some (-1, m)
theorem sM_letterAt {sh : Sh} {R : RR} (hF : Fx sh R) (m : MI) (a : Int32) : KS (eI sh R) false 0 0 0 YX7_letterAt sh R m [.ref 61, .int a] (fM_letterAt m a) := by
  refine KS_of pn_X7 (fun _ => Nat.le_of_ble_eq_true rfl) ?_
  change S _ _ _ _ _ _ _ _ _ _ [(0, .ref 61), (1, .int a)] [] _
  unfold fM_letterAt
  refine o_iload_n (pc := 0) 1 dX7_letterAt_0 rfl rfl <| ?_
  refine S_ite (fun h1 => ?_) (fun h1 => ?_)
  · refine o_ts_in (pc := 1) (tgt := 80) 100 h1 dX7_letterAt_1 (by decide) (by decide) rfl rfl ?_
    refine o_iconst (pc := 80) dX7_letterAt_80 lc_0 <| ?_
    exact o_iret (pc := 81) dX7_letterAt_81 rfl rfl
  refine S_ite (fun h2 => ?_) (fun h2 => ?_)
  · refine o_ts_in (pc := 1) (tgt := 92) 101 h2 dX7_letterAt_1 (by decide) (by decide) rfl rfl ?_
    refine o_iconst (pc := 92) dX7_letterAt_92 lc_m1 <| ?_
    exact o_iret (pc := 93) dX7_letterAt_93 rfl rfl
  refine S_ite (fun h3 => ?_) (fun h3 => ?_)
  · refine o_ts_in (pc := 1) (tgt := 92) 102 h3 dX7_letterAt_1 (by decide) (by decide) rfl rfl ?_
    refine o_iconst (pc := 92) dX7_letterAt_92 lc_m1 <| ?_
    exact o_iret (pc := 93) dX7_letterAt_93 rfl rfl
  refine S_ite (fun h4 => ?_) (fun h4 => ?_)
  · refine o_ts_in (pc := 1) (tgt := 92) 103 h4 dX7_letterAt_1 (by decide) (by decide) rfl rfl ?_
    refine o_iconst (pc := 92) dX7_letterAt_92 lc_m1 <| ?_
    exact o_iret (pc := 93) dX7_letterAt_93 rfl rfl
  refine S_ite (fun h5 => ?_) (fun h5 => ?_)
  · refine o_ts_in (pc := 1) (tgt := 92) 104 h5 dX7_letterAt_1 (by decide) (by decide) rfl rfl ?_
    refine o_iconst (pc := 92) dX7_letterAt_92 lc_m1 <| ?_
    exact o_iret (pc := 93) dX7_letterAt_93 rfl rfl
  refine S_ite (fun h6 => ?_) (fun h6 => ?_)
  · refine o_ts_in (pc := 1) (tgt := 92) 105 h6 dX7_letterAt_1 (by decide) (by decide) rfl rfl ?_
    refine o_iconst (pc := 92) dX7_letterAt_92 lc_m1 <| ?_
    exact o_iret (pc := 93) dX7_letterAt_93 rfl rfl
  refine S_ite (fun h7 => ?_) (fun h7 => ?_)
  · refine o_ts_in (pc := 1) (tgt := 92) 106 h7 dX7_letterAt_1 (by decide) (by decide) rfl rfl ?_
    refine o_iconst (pc := 92) dX7_letterAt_92 lc_m1 <| ?_
    exact o_iret (pc := 93) dX7_letterAt_93 rfl rfl
  refine S_ite (fun h8 => ?_) (fun h8 => ?_)
  · refine o_ts_in (pc := 1) (tgt := 82) 107 h8 dX7_letterAt_1 (by decide) (by decide) rfl rfl ?_
    refine o_iconst (pc := 82) dX7_letterAt_82 lc_1 <| ?_
    exact o_iret (pc := 83) dX7_letterAt_83 rfl rfl
  refine S_ite (fun h9 => ?_) (fun h9 => ?_)
  · refine o_ts_in (pc := 1) (tgt := 88) 108 h9 dX7_letterAt_1 (by decide) (by decide) rfl rfl ?_
    refine o_iconst (pc := 88) dX7_letterAt_88 lc_4 <| ?_
    exact o_iret (pc := 89) dX7_letterAt_89 rfl rfl
  refine S_ite (fun h10 => ?_) (fun h10 => ?_)
  · refine o_ts_in (pc := 1) (tgt := 92) 109 h10 dX7_letterAt_1 (by decide) (by decide) rfl rfl ?_
    refine o_iconst (pc := 92) dX7_letterAt_92 lc_m1 <| ?_
    exact o_iret (pc := 93) dX7_letterAt_93 rfl rfl
  refine S_ite (fun h11 => ?_) (fun h11 => ?_)
  · refine o_ts_in (pc := 1) (tgt := 84) 110 h11 dX7_letterAt_1 (by decide) (by decide) rfl rfl ?_
    refine o_iconst (pc := 84) dX7_letterAt_84 lc_2 <| ?_
    exact o_iret (pc := 85) dX7_letterAt_85 rfl rfl
  refine S_ite (fun h12 => ?_) (fun h12 => ?_)
  · refine o_ts_in (pc := 1) (tgt := 92) 111 h12 dX7_letterAt_1 (by decide) (by decide) rfl rfl ?_
    refine o_iconst (pc := 92) dX7_letterAt_92 lc_m1 <| ?_
    exact o_iret (pc := 93) dX7_letterAt_93 rfl rfl
  refine S_ite (fun h13 => ?_) (fun h13 => ?_)
  · refine o_ts_in (pc := 1) (tgt := 90) 112 h13 dX7_letterAt_1 (by decide) (by decide) rfl rfl ?_
    refine o_iconst (pc := 90) dX7_letterAt_90 lc_5 <| ?_
    exact o_iret (pc := 91) dX7_letterAt_91 rfl rfl
  refine S_ite (fun h14 => ?_) (fun h14 => ?_)
  · refine o_ts_in (pc := 1) (tgt := 92) 113 h14 dX7_letterAt_1 (by decide) (by decide) rfl rfl ?_
    refine o_iconst (pc := 92) dX7_letterAt_92 lc_m1 <| ?_
    exact o_iret (pc := 93) dX7_letterAt_93 rfl rfl
  refine S_ite (fun h15 => ?_) (fun h15 => ?_)
  · refine o_ts_in (pc := 1) (tgt := 92) 114 h15 dX7_letterAt_1 (by decide) (by decide) rfl rfl ?_
    refine o_iconst (pc := 92) dX7_letterAt_92 lc_m1 <| ?_
    exact o_iret (pc := 93) dX7_letterAt_93 rfl rfl
  refine S_ite (fun h16 => ?_) (fun h16 => ?_)
  · refine o_ts_in (pc := 1) (tgt := 86) 115 h16 dX7_letterAt_1 (by decide) (by decide) rfl rfl ?_
    refine o_iconst (pc := 86) dX7_letterAt_86 lc_3 <| ?_
    exact o_iret (pc := 87) dX7_letterAt_87 rfl rfl
  refine o_ts_out (pc := 1) (tgt := 92) (ts_out (lo := 100) (hi := 115) [100, 101, 102, 103, 104, 105, 106, 107, 108, 109, 110, 111, 112, 113, 114, 115] (by decide) (by decide) (fun c hc => by
      simp only [List.mem_cons, List.not_mem_nil, or_false] at hc
      rcases hc with rfl | rfl | rfl | rfl | rfl | rfl | rfl | rfl | rfl | rfl | rfl | rfl | rfl | rfl | rfl | rfl
      · exact h1
      · exact h2
      · exact h3
      · exact h4
      · exact h5
      · exact h6
      · exact h7
      · exact h8
      · exact h9
      · exact h10
      · exact h11
      · exact h12
      · exact h13
      · exact h14
      · exact h15
      · exact h16)) dX7_letterAt_1 rfl ?_
  refine o_iconst (pc := 92) dX7_letterAt_92 lc_m1 <| ?_
  exact o_iret (pc := 93) dX7_letterAt_93 rfl rfl
def fM_takesTest (m : MI) : Option (Int32 × MI) :=
  (fM_next m).bind fun r1 =>
  (fM_letterAt r1.2 r1.1).bind fun r2 =>
  if 0 ≤ r2.1 then
    lm (mI r2.2 61 (upd (r2.2.1 61) 13 ((r2.2.1 61 13) + 1))) fun m4 =>
    (fM_next m4).bind fun r5 =>
    (fM_in r5.2 r5.1 60 62).bind fun r6 =>
    if r6.1 = 0 then
      some (0, r6.2)
    else
      lm (mI r6.2 61 (upd (r6.2.1 61) 13 ((r6.2.1 61 13) + 1))) fun m8 =>
      (fM_takesNumber m8).bind fun r9 =>
      if r9.1 = 0 then
        some (0, r9.2)
      else
        (fM_emits r9.2 ((((1000 : Int32) * r2.1) + ((100 : Int32) * (r5.1 - 60))) + (r9.2.1 61 14))).bind fun r11 =>
        (fM_whole r11).bind fun r12 =>
        some (1, r12)
  else
    some (0, r2.2)
theorem sM_takesTest {sh : Sh} {R : RR} (hF : Fx sh R) (m : MI) : KS (eI sh R) false 3 0 0 YX7_takesTest sh R m [.ref 61] (fM_takesTest m ) := by
  refine KS_of pn_X7 (fun _ => Nat.le_of_ble_eq_true rfl) ?_
  change S _ _ _ _ _ _ _ _ _ _ [(0, .ref 61)] [] _
  unfold fM_takesTest
  refine o_aload_n (pc := 0) 0 dX7_takesTest_0 rfl rfl <| o_aload_n (pc := 1) 0 dX7_takesTest_1 rfl rfl <| ?_
  refine o_callVI (Y2 := YX7_next) (pc := 2) (av := []) (rest := [.ref 61]) dX7_takesTest_2 k_1144 cm_X7_next (sM_next hF m ) (hF.1 _ _ rfl) rfl rfl (Nat.le_of_ble_eq_true rfl) (Nat.le_of_ble_eq_true rfl) fun r1 => ?_
  refine o_callVI (Y2 := YX7_letterAt) (pc := 5) (av := [.int r1.1]) (rest := []) dX7_takesTest_5 k_1180 cm_X7_letterAt (sM_letterAt hF r1.2 r1.1) (hF.1 _ _ rfl) rfl rfl (Nat.le_of_ble_eq_true rfl) (Nat.le_of_ble_eq_true rfl) fun r2 => ?_
  refine o_istore_n (pc := 8) (ls' := [(1, .int r2.1), (0, .ref 61)]) dX7_takesTest_8 rfl (Nat.le_of_ble_eq_true rfl) rfl <| o_iload_n (pc := 9) 0 dX7_takesTest_9 rfl rfl <| ?_
  refine o_if_ge (pc := 10) (tgt := 15) dX7_takesTest_10 rfl (fun h3 => ?_) (fun h3 => ?_)
  · refine o_aload_n (pc := 15) 1 dX7_takesTest_15 rfl rfl <| o_dup (pc := 16) dX7_takesTest_16 rfl <| o_getI (pc := 17) (ci := 7) (j := 13) (nn := 0) dX7_takesTest_17 (hF.1 _ _ rfl) rfl (Nat.le_of_ble_eq_true rfl) k_896 rfl <| o_iconst (pc := 20) dX7_takesTest_20 lc_1 <| o_iadd (pc := 21) dX7_takesTest_21 <| o_putI (pc := 22) (ci := 7) (j := 13) (nn := 0) dX7_takesTest_22 (hF.1 _ _ rfl) rfl (Nat.le_of_ble_eq_true rfl) k_896 rfl rfl rfl rfl rfl <| ?_
    refine o_lm fun m4 => ?_
    refine o_aload_n (pc := 25) 1 dX7_takesTest_25 rfl rfl <| ?_
    refine o_callVI (Y2 := YX7_next) (pc := 26) (av := []) (rest := []) dX7_takesTest_26 k_1144 cm_X7_next (sM_next hF m4 ) (hF.1 _ _ rfl) rfl rfl (Nat.le_of_ble_eq_true rfl) (Nat.le_of_ble_eq_true rfl) fun r5 => ?_
    refine o_istore_n (pc := 29) (ls' := [(2, .int r5.1), (1, .int r2.1), (0, .ref 61)]) dX7_takesTest_29 rfl (Nat.le_of_ble_eq_true rfl) rfl <| o_aload_n (pc := 30) 2 dX7_takesTest_30 rfl rfl <| o_iload_n (pc := 31) 0 dX7_takesTest_31 rfl rfl <| o_bipush (pc := 32) dX7_takesTest_32 lb_60 <| o_bipush (pc := 34) dX7_takesTest_34 lb_62 <| ?_
    refine o_callVI (Y2 := YX7_in) (pc := 36) (av := [.int r5.1, .int 60, .int 62]) (rest := []) dX7_takesTest_36 k_1096 cm_X7_in (sM_in hF r5.2 r5.1 60 62) (hF.1 _ _ rfl) rfl rfl (Nat.le_of_ble_eq_true rfl) (Nat.le_of_ble_eq_true rfl) fun r6 => ?_
    refine o_if_ne (pc := 39) (tgt := 44) dX7_takesTest_39 rfl (fun h7 => ?_) (fun h7 => ?_)
    · refine o_iconst (pc := 42) dX7_takesTest_42 lc_0 <| ?_
      exact o_zret (pc := 43) dX7_takesTest_43 rfl rfl rfl
    · refine o_aload_n (pc := 44) 2 dX7_takesTest_44 rfl rfl <| o_dup (pc := 45) dX7_takesTest_45 rfl <| o_getI (pc := 46) (ci := 7) (j := 13) (nn := 0) dX7_takesTest_46 (hF.1 _ _ rfl) rfl (Nat.le_of_ble_eq_true rfl) k_896 rfl <| o_iconst (pc := 49) dX7_takesTest_49 lc_1 <| o_iadd (pc := 50) dX7_takesTest_50 <| o_putI (pc := 51) (ci := 7) (j := 13) (nn := 0) dX7_takesTest_51 (hF.1 _ _ rfl) rfl (Nat.le_of_ble_eq_true rfl) k_896 rfl rfl rfl rfl rfl <| ?_
      refine o_lm fun m8 => ?_
      refine o_aload_n (pc := 54) 2 dX7_takesTest_54 rfl rfl <| ?_
      refine o_callVI (Y2 := YX7_takesNumber) (pc := 55) (av := []) (rest := []) dX7_takesTest_55 k_1164 cm_X7_takesNumber (sM_takesNumber hF m8 ) (hF.1 _ _ rfl) rfl rfl (Nat.le_of_ble_eq_true rfl) (Nat.le_of_ble_eq_true rfl) fun r9 => ?_
      refine o_if_ne (pc := 58) (tgt := 63) dX7_takesTest_58 rfl (fun h10 => ?_) (fun h10 => ?_)
      · refine o_iconst (pc := 61) dX7_takesTest_61 lc_0 <| ?_
        exact o_zret (pc := 62) dX7_takesTest_62 rfl rfl rfl
      · refine o_aload_n (pc := 63) 2 dX7_takesTest_63 rfl rfl <| o_sipush (pc := 64) dX7_takesTest_64 ls_1000 <| o_iload_n (pc := 67) 1 dX7_takesTest_67 rfl rfl <| o_imul (pc := 68) dX7_takesTest_68 <| o_bipush (pc := 69) dX7_takesTest_69 lb_100 <| o_iload_n (pc := 71) 0 dX7_takesTest_71 rfl rfl <| o_bipush (pc := 72) dX7_takesTest_72 lb_60 <| o_isub (pc := 74) dX7_takesTest_74 <| o_imul (pc := 75) dX7_takesTest_75 <| o_iadd (pc := 76) dX7_takesTest_76 <| ?_
        refine o_aload_n (pc := 77) 2 dX7_takesTest_77 rfl rfl <| o_getI (pc := 78) (ci := 7) (j := 14) (nn := 0) dX7_takesTest_78 (hF.1 _ _ rfl) rfl (Nat.le_of_ble_eq_true rfl) k_897 rfl <| o_iadd (pc := 81) dX7_takesTest_81 <| ?_
        refine o_callVV (Y2 := YX7_emits) (pc := 82) (av := [.int ((((1000 : Int32) * r2.1) + ((100 : Int32) * (r5.1 - 60))) + (r9.2.1 61 14))]) (rest := []) dX7_takesTest_82 k_1184 cm_X7_emits (sM_emits hF r9.2 ((((1000 : Int32) * r2.1) + ((100 : Int32) * (r5.1 - 60))) + (r9.2.1 61 14))) (hF.1 _ _ rfl) rfl rfl (Nat.le_of_ble_eq_true rfl) (Nat.le_of_ble_eq_true rfl) fun r11 => ?_
        refine o_aload_n (pc := 85) 2 dX7_takesTest_85 rfl rfl <| ?_
        refine o_callVV (Y2 := YX7_whole) (pc := 86) (av := []) (rest := []) dX7_takesTest_86 k_1188 cm_X7_whole (sM_whole hF r11 ) (hF.1 _ _ rfl) rfl rfl (Nat.le_of_ble_eq_true rfl) (Nat.le_of_ble_eq_true rfl) fun r12 => ?_
        refine o_iconst (pc := 89) dX7_takesTest_89 lc_1 <| ?_
        exact o_zret (pc := 90) dX7_takesTest_90 rfl rfl rfl
  · refine o_iconst (pc := 13) dX7_takesTest_13 lc_0 <| ?_
    exact o_zret (pc := 14) dX7_takesTest_14 rfl rfl rfl
def fM_takesE_l22 (u1 : Int32) : Nat → MI → Int32 → Option (Int32 × MI)
  | 0, _, _ => none
  | n0 + 1, m, v2 =>
    (fM_next m).bind fun r1 =>
    if v2 = 0 then
      if r1.1 = 38 then
        (fM_settle r1.2 r1.1).bind fun r4 =>
        if ck (r4.1 61 24) 101 = true then
          lm (mI r4 74 (upd (r4.1 74) (r4.1 61 24).toNatClampNeg r1.1)) fun m6 =>
          lm (mI m6 61 (upd (m6.1 61) 24 ((m6.1 61 24) + 1))) fun m7 =>
          lm (mI m7 61 (upd (m7.1 61) 13 ((m7.1 61 13) + 1))) fun m8 =>
          fM_takesE_l22 u1 n0 m8 1
        else none
      else
        if r1.1 = 124 then
          (fM_settle r1.2 r1.1).bind fun r10 =>
          if ck (r10.1 61 24) 101 = true then
            lm (mI r10 74 (upd (r10.1 74) (r10.1 61 24).toNatClampNeg r1.1)) fun m12 =>
            lm (mI m12 61 (upd (m12.1 61) 24 ((m12.1 61 24) + 1))) fun m13 =>
            lm (mI m13 61 (upd (m13.1 61) 13 ((m13.1 61 13) + 1))) fun m14 =>
            fM_takesE_l22 u1 n0 m14 1
          else none
        else
          (fM_settle r1.2 124).bind fun r15 =>
          if ck u1 60 = true then
            lm (mI r15 72 (upd (r15.1 72) u1.toNatClampNeg (r15.1 61 23))) fun m17 =>
            if m17.1 61 24 = 0 then
              some (1, m17)
            else
              if r1.1 = 41 then
                lm (mI m17 61 (upd (m17.1 61) 24 ((m17.1 61 24) - 1))) fun m20 =>
                lm (mI m20 61 (upd (m20.1 61) 25 ((m20.1 61 25) - 1))) fun m21 =>
                lm (mI m21 61 (upd (m21.1 61) 13 ((m21.1 61 13) + 1))) fun m22 =>
                (fM_whole m22).bind fun r23 =>
                fM_takesE_l22 u1 n0 r23 v2
              else
                some (0, m17)
          else none
    else
      if r1.1 = 33 then
        if r1.2.1 61 25 = 4 then
          some (0, r1.2)
        else
          lm (mI r1.2 61 (upd (r1.2.1 61) 25 ((r1.2.1 61 25) + 1))) fun m26 =>
          if ck (m26.1 61 24) 101 = true then
            lm (mI m26 74 (upd (m26.1 74) (m26.1 61 24).toNatClampNeg r1.1)) fun m28 =>
            lm (mI m28 61 (upd (m28.1 61) 24 ((m28.1 61 24) + 1))) fun m29 =>
            lm (mI m29 61 (upd (m29.1 61) 13 ((m29.1 61 13) + 1))) fun m30 =>
            fM_takesE_l22 u1 n0 m30 v2
          else none
      else
        if r1.1 = 40 then
          if r1.2.1 61 25 = 4 then
            some (0, r1.2)
          else
            lm (mI r1.2 61 (upd (r1.2.1 61) 25 ((r1.2.1 61 25) + 1))) fun m33 =>
            if ck (m33.1 61 24) 101 = true then
              lm (mI m33 74 (upd (m33.1 74) (m33.1 61 24).toNatClampNeg r1.1)) fun m35 =>
              lm (mI m35 61 (upd (m35.1 61) 24 ((m35.1 61 24) + 1))) fun m36 =>
              lm (mI m36 61 (upd (m36.1 61) 13 ((m36.1 61 13) + 1))) fun m37 =>
              fM_takesE_l22 u1 n0 m37 v2
            else none
        else
          (fM_takesTest r1.2).bind fun r38 =>
          if r38.1 = 0 then
            some (0, r38.2)
          else
            fM_takesE_l22 u1 n0 r38.2 0
theorem sM_takesE_l22 {sh : Sh} {R : RR} (hF : Fx sh R) (u1 : Int32) : ∀ (n : Nat) (m : MI) (v2 : Int32) , S (eI sh R) false 4 0 0 YX7_takesE sh R m 22 [(0, .ref 61), (1, .int u1), (2, .int v2)] [] (fM_takesE_l22 u1 n m v2) := by
  intro n
  induction n with
  | zero => intros; exact S_none
  | succ n0 ih0 =>
    intro m v2
    rw [fM_takesE_l22]
    refine o_aload_n (pc := 22) 0 dX7_takesE_22 rfl rfl <| ?_
    refine o_callVI (Y2 := YX7_next) (pc := 23) (av := []) (rest := []) dX7_takesE_23 k_1144 cm_X7_next (sM_next hF m ) (hF.1 _ _ rfl) rfl rfl (Nat.le_of_ble_eq_true rfl) (Nat.le_of_ble_eq_true rfl) fun r1 => ?_
    refine o_istore_n (pc := 26) (ls' := [(3, .int r1.1), (0, .ref 61), (1, .int u1), (2, .int v2)]) dX7_takesE_26 rfl (Nat.le_of_ble_eq_true rfl) rfl <| o_iload_n (pc := 27) 3 dX7_takesE_27 rfl rfl <| ?_
    refine o_if_eq (pc := 28) (tgt := 110) dX7_takesE_28 rfl (fun h2 => ?_) (fun h2 => ?_)
    · refine o_iload_n (pc := 110) 0 dX7_takesE_110 rfl rfl <| o_bipush (pc := 111) dX7_takesE_111 lb_38 <| ?_
      refine o_icmp_eq (pc := 113) (tgt := 122) dX7_takesE_113 rfl (fun h3 => ?_) (fun h3 => ?_)
      · refine o_aload_n (pc := 122) 1 dX7_takesE_122 rfl rfl <| o_iload_n (pc := 123) 0 dX7_takesE_123 rfl rfl <| ?_
        refine o_callVV (Y2 := YX7_settle) (pc := 124) (av := [.int r1.1]) (rest := []) dX7_takesE_124 k_1192 cm_X7_settle (sM_settle hF r1.2 r1.1) (hF.1 _ _ rfl) rfl rfl (Nat.le_of_ble_eq_true rfl) (Nat.le_of_ble_eq_true rfl) fun r4 => ?_
        refine o_aload_n (pc := 127) 1 dX7_takesE_127 rfl rfl <| o_getRc (pc := 128) (a := 74) (ci := 7) (j := 22) (nn := 0) dX7_takesE_128 (hF.1 _ _ rfl) rfl (Nat.le_of_ble_eq_true rfl) k_905 rfl (hF.2 _ _ _ rfl) <| o_aload_n (pc := 131) 1 dX7_takesE_131 rfl rfl <| o_getI (pc := 132) (ci := 7) (j := 24) (nn := 0) dX7_takesE_132 (hF.1 _ _ rfl) rfl (Nat.le_of_ble_eq_true rfl) k_907 rfl <| o_iload_n (pc := 135) 0 dX7_takesE_135 rfl rfl <| ?_
        refine S_ck fun h5 => ?_
        refine o_iast (pc := 136) (nn := 101) dX7_takesE_136 (hF.1 _ _ rfl) (ck_in h5) <| ?_
        refine o_lm fun m6 => ?_
        refine o_aload_n (pc := 137) 1 dX7_takesE_137 rfl rfl <| o_dup (pc := 138) dX7_takesE_138 rfl <| o_getI (pc := 139) (ci := 7) (j := 24) (nn := 0) dX7_takesE_139 (hF.1 _ _ rfl) rfl (Nat.le_of_ble_eq_true rfl) k_907 rfl <| o_iconst (pc := 142) dX7_takesE_142 lc_1 <| o_iadd (pc := 143) dX7_takesE_143 <| o_putI (pc := 144) (ci := 7) (j := 24) (nn := 0) dX7_takesE_144 (hF.1 _ _ rfl) rfl (Nat.le_of_ble_eq_true rfl) k_907 rfl rfl rfl rfl rfl <| ?_
        refine o_lm fun m7 => ?_
        refine o_iconst (pc := 147) dX7_takesE_147 lc_1 <| o_istore_n (pc := 148) (ls' := [(2, .int 1), (3, .int r1.1), (0, .ref 61), (1, .int u1)]) dX7_takesE_148 rfl (Nat.le_of_ble_eq_true rfl) rfl <| o_aload_n (pc := 149) 2 dX7_takesE_149 rfl rfl <| o_dup (pc := 150) dX7_takesE_150 rfl <| o_getI (pc := 151) (ci := 7) (j := 13) (nn := 0) dX7_takesE_151 (hF.1 _ _ rfl) rfl (Nat.le_of_ble_eq_true rfl) k_896 rfl <| o_iconst (pc := 154) dX7_takesE_154 lc_1 <| o_iadd (pc := 155) dX7_takesE_155 <| o_putI (pc := 156) (ci := 7) (j := 13) (nn := 0) dX7_takesE_156 (hF.1 _ _ rfl) rfl (Nat.le_of_ble_eq_true rfl) k_896 rfl rfl rfl rfl rfl <| ?_
        refine o_lm fun m8 => ?_
        refine o_goto (pc := 159) (tgt := 22) dX7_takesE_159 rfl <| ?_
        refine o_sub [2, 3, 0] (ls' := [(0, .ref 61), (1, .int u1), (2, .int 1)]) rfl ?_
        exact ih0 m8 1
      · refine o_iload_n (pc := 116) 0 dX7_takesE_116 rfl rfl <| o_bipush (pc := 117) dX7_takesE_117 lb_124 <| ?_
        refine o_icmp_ne (pc := 119) (tgt := 162) dX7_takesE_119 rfl (fun h9 => ?_) (fun h9 => ?_)
        · refine o_aload_n (pc := 122) 1 dX7_takesE_122 rfl rfl <| o_iload_n (pc := 123) 0 dX7_takesE_123 rfl rfl <| ?_
          refine o_callVV (Y2 := YX7_settle) (pc := 124) (av := [.int r1.1]) (rest := []) dX7_takesE_124 k_1192 cm_X7_settle (sM_settle hF r1.2 r1.1) (hF.1 _ _ rfl) rfl rfl (Nat.le_of_ble_eq_true rfl) (Nat.le_of_ble_eq_true rfl) fun r10 => ?_
          refine o_aload_n (pc := 127) 1 dX7_takesE_127 rfl rfl <| o_getRc (pc := 128) (a := 74) (ci := 7) (j := 22) (nn := 0) dX7_takesE_128 (hF.1 _ _ rfl) rfl (Nat.le_of_ble_eq_true rfl) k_905 rfl (hF.2 _ _ _ rfl) <| o_aload_n (pc := 131) 1 dX7_takesE_131 rfl rfl <| o_getI (pc := 132) (ci := 7) (j := 24) (nn := 0) dX7_takesE_132 (hF.1 _ _ rfl) rfl (Nat.le_of_ble_eq_true rfl) k_907 rfl <| o_iload_n (pc := 135) 0 dX7_takesE_135 rfl rfl <| ?_
          refine S_ck fun h11 => ?_
          refine o_iast (pc := 136) (nn := 101) dX7_takesE_136 (hF.1 _ _ rfl) (ck_in h11) <| ?_
          refine o_lm fun m12 => ?_
          refine o_aload_n (pc := 137) 1 dX7_takesE_137 rfl rfl <| o_dup (pc := 138) dX7_takesE_138 rfl <| o_getI (pc := 139) (ci := 7) (j := 24) (nn := 0) dX7_takesE_139 (hF.1 _ _ rfl) rfl (Nat.le_of_ble_eq_true rfl) k_907 rfl <| o_iconst (pc := 142) dX7_takesE_142 lc_1 <| o_iadd (pc := 143) dX7_takesE_143 <| o_putI (pc := 144) (ci := 7) (j := 24) (nn := 0) dX7_takesE_144 (hF.1 _ _ rfl) rfl (Nat.le_of_ble_eq_true rfl) k_907 rfl rfl rfl rfl rfl <| ?_
          refine o_lm fun m13 => ?_
          refine o_iconst (pc := 147) dX7_takesE_147 lc_1 <| o_istore_n (pc := 148) (ls' := [(2, .int 1), (3, .int r1.1), (0, .ref 61), (1, .int u1)]) dX7_takesE_148 rfl (Nat.le_of_ble_eq_true rfl) rfl <| o_aload_n (pc := 149) 2 dX7_takesE_149 rfl rfl <| o_dup (pc := 150) dX7_takesE_150 rfl <| o_getI (pc := 151) (ci := 7) (j := 13) (nn := 0) dX7_takesE_151 (hF.1 _ _ rfl) rfl (Nat.le_of_ble_eq_true rfl) k_896 rfl <| o_iconst (pc := 154) dX7_takesE_154 lc_1 <| o_iadd (pc := 155) dX7_takesE_155 <| o_putI (pc := 156) (ci := 7) (j := 13) (nn := 0) dX7_takesE_156 (hF.1 _ _ rfl) rfl (Nat.le_of_ble_eq_true rfl) k_896 rfl rfl rfl rfl rfl <| ?_
          refine o_lm fun m14 => ?_
          refine o_goto (pc := 159) (tgt := 22) dX7_takesE_159 rfl <| ?_
          refine o_sub [2, 3, 0] (ls' := [(0, .ref 61), (1, .int u1), (2, .int 1)]) rfl ?_
          exact ih0 m14 1
        · refine o_aload_n (pc := 162) 1 dX7_takesE_162 rfl rfl <| o_bipush (pc := 163) dX7_takesE_163 lb_124 <| ?_
          refine o_callVV (Y2 := YX7_settle) (pc := 165) (av := [.int 124]) (rest := []) dX7_takesE_165 k_1192 cm_X7_settle (sM_settle hF r1.2 124) (hF.1 _ _ rfl) rfl rfl (Nat.le_of_ble_eq_true rfl) (Nat.le_of_ble_eq_true rfl) fun r15 => ?_
          refine o_aload_n (pc := 168) 1 dX7_takesE_168 rfl rfl <| o_getRc (pc := 169) (a := 72) (ci := 7) (j := 20) (nn := 0) dX7_takesE_169 (hF.1 _ _ rfl) rfl (Nat.le_of_ble_eq_true rfl) k_903 rfl (hF.2 _ _ _ rfl) <| o_iload_n (pc := 172) 2 dX7_takesE_172 rfl rfl <| o_aload_n (pc := 173) 1 dX7_takesE_173 rfl rfl <| o_getI (pc := 174) (ci := 7) (j := 23) (nn := 0) dX7_takesE_174 (hF.1 _ _ rfl) rfl (Nat.le_of_ble_eq_true rfl) k_906 rfl <| ?_
          refine S_ck fun h16 => ?_
          refine o_iast (pc := 177) (nn := 60) dX7_takesE_177 (hF.1 _ _ rfl) (ck_in h16) <| ?_
          refine o_lm fun m17 => ?_
          refine o_aload_n (pc := 178) 1 dX7_takesE_178 rfl rfl <| o_getI (pc := 179) (ci := 7) (j := 24) (nn := 0) dX7_takesE_179 (hF.1 _ _ rfl) rfl (Nat.le_of_ble_eq_true rfl) k_907 rfl <| ?_
          refine o_if_ne (pc := 182) (tgt := 187) dX7_takesE_182 rfl (fun h18 => ?_) (fun h18 => ?_)
          · refine o_iconst (pc := 185) dX7_takesE_185 lc_1 <| ?_
            exact o_zret (pc := 186) dX7_takesE_186 rfl rfl rfl
          · refine o_iload_n (pc := 187) 0 dX7_takesE_187 rfl rfl <| o_bipush (pc := 188) dX7_takesE_188 lb_41 <| ?_
            refine o_icmp_eq (pc := 190) (tgt := 195) dX7_takesE_190 rfl (fun h19 => ?_) (fun h19 => ?_)
            · refine o_aload_n (pc := 195) 1 dX7_takesE_195 rfl rfl <| o_dup (pc := 196) dX7_takesE_196 rfl <| o_getI (pc := 197) (ci := 7) (j := 24) (nn := 0) dX7_takesE_197 (hF.1 _ _ rfl) rfl (Nat.le_of_ble_eq_true rfl) k_907 rfl <| o_iconst (pc := 200) dX7_takesE_200 lc_1 <| o_isub (pc := 201) dX7_takesE_201 <| o_putI (pc := 202) (ci := 7) (j := 24) (nn := 0) dX7_takesE_202 (hF.1 _ _ rfl) rfl (Nat.le_of_ble_eq_true rfl) k_907 rfl rfl rfl rfl rfl <| ?_
              refine o_lm fun m20 => ?_
              refine o_aload_n (pc := 205) 1 dX7_takesE_205 rfl rfl <| o_dup (pc := 206) dX7_takesE_206 rfl <| o_getI (pc := 207) (ci := 7) (j := 25) (nn := 0) dX7_takesE_207 (hF.1 _ _ rfl) rfl (Nat.le_of_ble_eq_true rfl) k_908 rfl <| o_iconst (pc := 210) dX7_takesE_210 lc_1 <| o_isub (pc := 211) dX7_takesE_211 <| o_putI (pc := 212) (ci := 7) (j := 25) (nn := 0) dX7_takesE_212 (hF.1 _ _ rfl) rfl (Nat.le_of_ble_eq_true rfl) k_908 rfl rfl rfl rfl rfl <| ?_
              refine o_lm fun m21 => ?_
              refine o_aload_n (pc := 215) 1 dX7_takesE_215 rfl rfl <| o_dup (pc := 216) dX7_takesE_216 rfl <| o_getI (pc := 217) (ci := 7) (j := 13) (nn := 0) dX7_takesE_217 (hF.1 _ _ rfl) rfl (Nat.le_of_ble_eq_true rfl) k_896 rfl <| o_iconst (pc := 220) dX7_takesE_220 lc_1 <| o_iadd (pc := 221) dX7_takesE_221 <| o_putI (pc := 222) (ci := 7) (j := 13) (nn := 0) dX7_takesE_222 (hF.1 _ _ rfl) rfl (Nat.le_of_ble_eq_true rfl) k_896 rfl rfl rfl rfl rfl <| ?_
              refine o_lm fun m22 => ?_
              refine o_aload_n (pc := 225) 1 dX7_takesE_225 rfl rfl <| ?_
              refine o_callVV (Y2 := YX7_whole) (pc := 226) (av := []) (rest := []) dX7_takesE_226 k_1188 cm_X7_whole (sM_whole hF m22 ) (hF.1 _ _ rfl) rfl rfl (Nat.le_of_ble_eq_true rfl) (Nat.le_of_ble_eq_true rfl) fun r23 => ?_
              refine o_goto (pc := 229) (tgt := 22) dX7_takesE_229 rfl <| ?_
              refine o_sub [1, 2, 3] (ls' := [(0, .ref 61), (1, .int u1), (2, .int v2)]) rfl ?_
              exact ih0 r23 v2
            · refine o_iconst (pc := 193) dX7_takesE_193 lc_0 <| ?_
              exact o_zret (pc := 194) dX7_takesE_194 rfl rfl rfl
    · refine o_iload_n (pc := 31) 0 dX7_takesE_31 rfl rfl <| o_bipush (pc := 32) dX7_takesE_32 lb_33 <| ?_
      refine o_icmp_eq (pc := 34) (tgt := 43) dX7_takesE_34 rfl (fun h24 => ?_) (fun h24 => ?_)
      · refine o_aload_n (pc := 43) 1 dX7_takesE_43 rfl rfl <| o_getI (pc := 44) (ci := 7) (j := 25) (nn := 0) dX7_takesE_44 (hF.1 _ _ rfl) rfl (Nat.le_of_ble_eq_true rfl) k_908 rfl <| o_iconst (pc := 47) dX7_takesE_47 lc_4 <| ?_
        refine o_icmp_ne (pc := 48) (tgt := 53) dX7_takesE_48 rfl (fun h25 => ?_) (fun h25 => ?_)
        · refine o_iconst (pc := 51) dX7_takesE_51 lc_0 <| ?_
          exact o_zret (pc := 52) dX7_takesE_52 rfl rfl rfl
        · refine o_aload_n (pc := 53) 1 dX7_takesE_53 rfl rfl <| o_dup (pc := 54) dX7_takesE_54 rfl <| o_getI (pc := 55) (ci := 7) (j := 25) (nn := 0) dX7_takesE_55 (hF.1 _ _ rfl) rfl (Nat.le_of_ble_eq_true rfl) k_908 rfl <| o_iconst (pc := 58) dX7_takesE_58 lc_1 <| o_iadd (pc := 59) dX7_takesE_59 <| o_putI (pc := 60) (ci := 7) (j := 25) (nn := 0) dX7_takesE_60 (hF.1 _ _ rfl) rfl (Nat.le_of_ble_eq_true rfl) k_908 rfl rfl rfl rfl rfl <| ?_
          refine o_lm fun m26 => ?_
          refine o_aload_n (pc := 63) 1 dX7_takesE_63 rfl rfl <| o_getRc (pc := 64) (a := 74) (ci := 7) (j := 22) (nn := 0) dX7_takesE_64 (hF.1 _ _ rfl) rfl (Nat.le_of_ble_eq_true rfl) k_905 rfl (hF.2 _ _ _ rfl) <| o_aload_n (pc := 67) 1 dX7_takesE_67 rfl rfl <| o_getI (pc := 68) (ci := 7) (j := 24) (nn := 0) dX7_takesE_68 (hF.1 _ _ rfl) rfl (Nat.le_of_ble_eq_true rfl) k_907 rfl <| o_iload_n (pc := 71) 0 dX7_takesE_71 rfl rfl <| ?_
          refine S_ck fun h27 => ?_
          refine o_iast (pc := 72) (nn := 101) dX7_takesE_72 (hF.1 _ _ rfl) (ck_in h27) <| ?_
          refine o_lm fun m28 => ?_
          refine o_aload_n (pc := 73) 1 dX7_takesE_73 rfl rfl <| o_dup (pc := 74) dX7_takesE_74 rfl <| o_getI (pc := 75) (ci := 7) (j := 24) (nn := 0) dX7_takesE_75 (hF.1 _ _ rfl) rfl (Nat.le_of_ble_eq_true rfl) k_907 rfl <| o_iconst (pc := 78) dX7_takesE_78 lc_1 <| o_iadd (pc := 79) dX7_takesE_79 <| o_putI (pc := 80) (ci := 7) (j := 24) (nn := 0) dX7_takesE_80 (hF.1 _ _ rfl) rfl (Nat.le_of_ble_eq_true rfl) k_907 rfl rfl rfl rfl rfl <| ?_
          refine o_lm fun m29 => ?_
          refine o_aload_n (pc := 83) 1 dX7_takesE_83 rfl rfl <| o_dup (pc := 84) dX7_takesE_84 rfl <| o_getI (pc := 85) (ci := 7) (j := 13) (nn := 0) dX7_takesE_85 (hF.1 _ _ rfl) rfl (Nat.le_of_ble_eq_true rfl) k_896 rfl <| o_iconst (pc := 88) dX7_takesE_88 lc_1 <| o_iadd (pc := 89) dX7_takesE_89 <| o_putI (pc := 90) (ci := 7) (j := 13) (nn := 0) dX7_takesE_90 (hF.1 _ _ rfl) rfl (Nat.le_of_ble_eq_true rfl) k_896 rfl rfl rfl rfl rfl <| ?_
          refine o_lm fun m30 => ?_
          refine o_goto (pc := 93) (tgt := 22) dX7_takesE_93 rfl <| ?_
          refine o_sub [1, 2, 3] (ls' := [(0, .ref 61), (1, .int u1), (2, .int v2)]) rfl ?_
          exact ih0 m30 v2
      · refine o_iload_n (pc := 37) 0 dX7_takesE_37 rfl rfl <| o_bipush (pc := 38) dX7_takesE_38 lb_40 <| ?_
        refine o_icmp_ne (pc := 40) (tgt := 96) dX7_takesE_40 rfl (fun h31 => ?_) (fun h31 => ?_)
        · refine o_aload_n (pc := 43) 1 dX7_takesE_43 rfl rfl <| o_getI (pc := 44) (ci := 7) (j := 25) (nn := 0) dX7_takesE_44 (hF.1 _ _ rfl) rfl (Nat.le_of_ble_eq_true rfl) k_908 rfl <| o_iconst (pc := 47) dX7_takesE_47 lc_4 <| ?_
          refine o_icmp_ne (pc := 48) (tgt := 53) dX7_takesE_48 rfl (fun h32 => ?_) (fun h32 => ?_)
          · refine o_iconst (pc := 51) dX7_takesE_51 lc_0 <| ?_
            exact o_zret (pc := 52) dX7_takesE_52 rfl rfl rfl
          · refine o_aload_n (pc := 53) 1 dX7_takesE_53 rfl rfl <| o_dup (pc := 54) dX7_takesE_54 rfl <| o_getI (pc := 55) (ci := 7) (j := 25) (nn := 0) dX7_takesE_55 (hF.1 _ _ rfl) rfl (Nat.le_of_ble_eq_true rfl) k_908 rfl <| o_iconst (pc := 58) dX7_takesE_58 lc_1 <| o_iadd (pc := 59) dX7_takesE_59 <| o_putI (pc := 60) (ci := 7) (j := 25) (nn := 0) dX7_takesE_60 (hF.1 _ _ rfl) rfl (Nat.le_of_ble_eq_true rfl) k_908 rfl rfl rfl rfl rfl <| ?_
            refine o_lm fun m33 => ?_
            refine o_aload_n (pc := 63) 1 dX7_takesE_63 rfl rfl <| o_getRc (pc := 64) (a := 74) (ci := 7) (j := 22) (nn := 0) dX7_takesE_64 (hF.1 _ _ rfl) rfl (Nat.le_of_ble_eq_true rfl) k_905 rfl (hF.2 _ _ _ rfl) <| o_aload_n (pc := 67) 1 dX7_takesE_67 rfl rfl <| o_getI (pc := 68) (ci := 7) (j := 24) (nn := 0) dX7_takesE_68 (hF.1 _ _ rfl) rfl (Nat.le_of_ble_eq_true rfl) k_907 rfl <| o_iload_n (pc := 71) 0 dX7_takesE_71 rfl rfl <| ?_
            refine S_ck fun h34 => ?_
            refine o_iast (pc := 72) (nn := 101) dX7_takesE_72 (hF.1 _ _ rfl) (ck_in h34) <| ?_
            refine o_lm fun m35 => ?_
            refine o_aload_n (pc := 73) 1 dX7_takesE_73 rfl rfl <| o_dup (pc := 74) dX7_takesE_74 rfl <| o_getI (pc := 75) (ci := 7) (j := 24) (nn := 0) dX7_takesE_75 (hF.1 _ _ rfl) rfl (Nat.le_of_ble_eq_true rfl) k_907 rfl <| o_iconst (pc := 78) dX7_takesE_78 lc_1 <| o_iadd (pc := 79) dX7_takesE_79 <| o_putI (pc := 80) (ci := 7) (j := 24) (nn := 0) dX7_takesE_80 (hF.1 _ _ rfl) rfl (Nat.le_of_ble_eq_true rfl) k_907 rfl rfl rfl rfl rfl <| ?_
            refine o_lm fun m36 => ?_
            refine o_aload_n (pc := 83) 1 dX7_takesE_83 rfl rfl <| o_dup (pc := 84) dX7_takesE_84 rfl <| o_getI (pc := 85) (ci := 7) (j := 13) (nn := 0) dX7_takesE_85 (hF.1 _ _ rfl) rfl (Nat.le_of_ble_eq_true rfl) k_896 rfl <| o_iconst (pc := 88) dX7_takesE_88 lc_1 <| o_iadd (pc := 89) dX7_takesE_89 <| o_putI (pc := 90) (ci := 7) (j := 13) (nn := 0) dX7_takesE_90 (hF.1 _ _ rfl) rfl (Nat.le_of_ble_eq_true rfl) k_896 rfl rfl rfl rfl rfl <| ?_
            refine o_lm fun m37 => ?_
            refine o_goto (pc := 93) (tgt := 22) dX7_takesE_93 rfl <| ?_
            refine o_sub [1, 2, 3] (ls' := [(0, .ref 61), (1, .int u1), (2, .int v2)]) rfl ?_
            exact ih0 m37 v2
        · refine o_aload_n (pc := 96) 1 dX7_takesE_96 rfl rfl <| ?_
          refine o_callVI (Y2 := YX7_takesTest) (pc := 97) (av := []) (rest := []) dX7_takesE_97 k_1176 cm_X7_takesTest (sM_takesTest hF r1.2 ) (hF.1 _ _ rfl) rfl rfl (Nat.le_of_ble_eq_true rfl) (Nat.le_of_ble_eq_true rfl) fun r38 => ?_
          refine o_if_eq (pc := 100) (tgt := 108) dX7_takesE_100 rfl (fun h39 => ?_) (fun h39 => ?_)
          · refine o_iconst (pc := 108) dX7_takesE_108 lc_0 <| ?_
            exact o_zret (pc := 109) dX7_takesE_109 rfl rfl rfl
          · refine o_iconst (pc := 103) dX7_takesE_103 lc_0 <| o_istore_n (pc := 104) (ls' := [(2, .int 0), (3, .int r1.1), (0, .ref 61), (1, .int u1)]) dX7_takesE_104 rfl (Nat.le_of_ble_eq_true rfl) rfl <| o_goto (pc := 105) (tgt := 22) dX7_takesE_105 rfl <| ?_
            refine o_sub [2, 3, 0] (ls' := [(0, .ref 61), (1, .int u1), (2, .int 0)]) rfl ?_
            exact ih0 r38.2 0
def fM_takesE (m : MI) (a : Int32) : Option (Int32 × MI) :=
  lm (mI m 61 (upd (m.1 61) 24 0)) fun m1 =>
  lm (mI m1 61 (upd (m1.1 61) 25 0)) fun m2 =>
  if ck a 60 = true then
    lm (mI m2 71 (upd (m2.1 71) a.toNatClampNeg (m2.1 61 23))) fun m4 =>
    fM_takesE_l22 a
      1000 m4 1
  else none
theorem sM_takesE {sh : Sh} {R : RR} (hF : Fx sh R) (m : MI) (a : Int32) : KS (eI sh R) false 4 0 0 YX7_takesE sh R m [.ref 61, .int a] (fM_takesE m a) := by
  refine KS_of pn_X7 (fun _ => Nat.le_of_ble_eq_true rfl) ?_
  change S _ _ _ _ _ _ _ _ _ _ [(0, .ref 61), (1, .int a)] [] _
  unfold fM_takesE
  refine o_aload_n (pc := 0) 0 dX7_takesE_0 rfl rfl <| o_iconst (pc := 1) dX7_takesE_1 lc_0 <| o_putI (pc := 2) (ci := 7) (j := 24) (nn := 0) dX7_takesE_2 (hF.1 _ _ rfl) rfl (Nat.le_of_ble_eq_true rfl) k_907 rfl rfl rfl rfl rfl <| ?_
  refine o_lm fun m1 => ?_
  refine o_aload_n (pc := 5) 0 dX7_takesE_5 rfl rfl <| o_iconst (pc := 6) dX7_takesE_6 lc_0 <| o_putI (pc := 7) (ci := 7) (j := 25) (nn := 0) dX7_takesE_7 (hF.1 _ _ rfl) rfl (Nat.le_of_ble_eq_true rfl) k_908 rfl rfl rfl rfl rfl <| ?_
  refine o_lm fun m2 => ?_
  refine o_aload_n (pc := 10) 0 dX7_takesE_10 rfl rfl <| o_getRc (pc := 11) (a := 71) (ci := 7) (j := 19) (nn := 0) dX7_takesE_11 (hF.1 _ _ rfl) rfl (Nat.le_of_ble_eq_true rfl) k_902 rfl (hF.2 _ _ _ rfl) <| o_iload_n (pc := 14) 1 dX7_takesE_14 rfl rfl <| o_aload_n (pc := 15) 0 dX7_takesE_15 rfl rfl <| o_getI (pc := 16) (ci := 7) (j := 23) (nn := 0) dX7_takesE_16 (hF.1 _ _ rfl) rfl (Nat.le_of_ble_eq_true rfl) k_906 rfl <| ?_
  refine S_ck fun h3 => ?_
  refine o_iast (pc := 19) (nn := 60) dX7_takesE_19 (hF.1 _ _ rfl) (ck_in h3) <| ?_
  refine o_lm fun m4 => ?_
  refine o_iconst (pc := 20) dX7_takesE_20 lc_1 <| o_istore_n (pc := 21) (ls' := [(2, .int 1), (0, .ref 61), (1, .int a)]) dX7_takesE_21 rfl (Nat.le_of_ble_eq_true rfl) rfl <| ?_
  refine o_sub [1, 2, 0] (ls' := [(0, .ref 61), (1, .int a), (2, .int 1)]) rfl ?_
  refine sM_takesE_l22 hF a   1000 m4 1
def fM_third (m : MI) : Option (Int32 × MI) :=
  if m.1 61 12 ≤ (m.1 61 13) + 2 then
    some (-1, m)
  else
    if ck ((m.1 61 13) + 2) 100 = true then
      some (m.1 67 ((m.1 61 13) + 2).toNatClampNeg, m)
    else none
theorem sM_third {sh : Sh} {R : RR} (hF : Fx sh R) (m : MI) : KS (eI sh R) false 0 0 0 YX7_third sh R m [.ref 61] (fM_third m ) := by
  refine KS_of pn_X7 (fun _ => Nat.le_of_ble_eq_true rfl) ?_
  change S _ _ _ _ _ _ _ _ _ _ [(0, .ref 61)] [] _
  unfold fM_third
  refine o_aload_n (pc := 0) 0 dX7_third_0 rfl rfl <| o_getI (pc := 1) (ci := 7) (j := 13) (nn := 0) dX7_third_1 (hF.1 _ _ rfl) rfl (Nat.le_of_ble_eq_true rfl) k_896 rfl <| o_iconst (pc := 4) dX7_third_4 lc_2 <| o_iadd (pc := 5) dX7_third_5 <| o_aload_n (pc := 6) 0 dX7_third_6 rfl rfl <| o_getI (pc := 7) (ci := 7) (j := 12) (nn := 0) dX7_third_7 (hF.1 _ _ rfl) rfl (Nat.le_of_ble_eq_true rfl) k_895 rfl <| ?_
  refine o_icmp_ge (pc := 10) (tgt := 27) dX7_third_10 rfl (fun h1 => ?_) (fun h1 => ?_)
  · refine o_iconst (pc := 27) dX7_third_27 lc_m1 <| ?_
    exact o_iret (pc := 28) dX7_third_28 rfl rfl
  · refine o_aload_n (pc := 13) 0 dX7_third_13 rfl rfl <| o_getRc (pc := 14) (a := 67) (ci := 7) (j := 15) (nn := 0) dX7_third_14 (hF.1 _ _ rfl) rfl (Nat.le_of_ble_eq_true rfl) k_898 rfl (hF.2 _ _ _ rfl) <| o_aload_n (pc := 17) 0 dX7_third_17 rfl rfl <| o_getI (pc := 18) (ci := 7) (j := 13) (nn := 0) dX7_third_18 (hF.1 _ _ rfl) rfl (Nat.le_of_ble_eq_true rfl) k_896 rfl <| o_iconst (pc := 21) dX7_third_21 lc_2 <| o_iadd (pc := 22) dX7_third_22 <| ?_
    refine S_ck fun h2 => ?_
    refine o_iald (pc := 23) (nn := 100) dX7_third_23 (hF.1 _ _ rfl) (ck_in h2) <| o_goto (pc := 24) (tgt := 28) dX7_third_24 rfl <| ?_
    exact o_iret (pc := 28) dX7_third_28 rfl rfl
def fM_takesHead (m : MI) (a : Int32) : Option (Int32 × MI) :=
  (fM_next m).bind fun r1 =>
  if r1.1 = 108 then
    if ck a 60 = true then
      lm (mI r1.2 69 (upd (r1.2.1 69) a.toNatClampNeg 0)) fun m4 =>
      (fM_takesWord m4 0 4).bind fun r5 =>
      if zb r5.1 = true then some (r5.1, r5.2) else none
    else none
  else
    if r1.1 = 109 then
      if ck a 60 = true then
        lm (mI r1.2 69 (upd (r1.2.1 69) a.toNatClampNeg 3)) fun m9 =>
        (fM_takesWord m9 12 4).bind fun r10 =>
        if zb r10.1 = true then some (r10.1, r10.2) else none
      else none
    else
      (fM_second r1.2).bind fun r12 =>
      if r12.1 = 104 then
        (fM_third r12.2).bind fun r14 =>
        if r14.1 = 111 then
          if ck a 60 = true then
            lm (mI r14.2 69 (upd (r14.2.1 69) a.toNatClampNeg 2)) fun m17 =>
            if ck a 60 = true then
              if m17.1 69 a.toNatClampNeg = 2 then
                (fM_takesWord m17 7 5).bind fun r20 =>
                if zb r20.1 = true then some (r20.1, r20.2) else none
              else
                (fM_takesWord m17 4 3).bind fun r22 =>
                if zb r22.1 = true then some (r22.1, r22.2) else none
            else none
          else none
        else
          if ck a 60 = true then
            lm (mI r14.2 69 (upd (r14.2.1 69) a.toNatClampNeg 1)) fun m25 =>
            if ck a 60 = true then
              if m25.1 69 a.toNatClampNeg = 2 then
                (fM_takesWord m25 7 5).bind fun r28 =>
                if zb r28.1 = true then some (r28.1, r28.2) else none
              else
                (fM_takesWord m25 4 3).bind fun r30 =>
                if zb r30.1 = true then some (r30.1, r30.2) else none
            else none
          else none
      else
        if ck a 60 = true then
          lm (mI r12.2 69 (upd (r12.2.1 69) a.toNatClampNeg 1)) fun m33 =>
          if ck a 60 = true then
            if m33.1 69 a.toNatClampNeg = 2 then
              (fM_takesWord m33 7 5).bind fun r36 =>
              if zb r36.1 = true then some (r36.1, r36.2) else none
            else
              (fM_takesWord m33 4 3).bind fun r38 =>
              if zb r38.1 = true then some (r38.1, r38.2) else none
          else none
        else none
theorem sM_takesHead {sh : Sh} {R : RR} (hF : Fx sh R) (m : MI) (a : Int32) : KS (eI sh R) false 3 0 0 YX7_takesHead sh R m [.ref 61, .int a] (fM_takesHead m a) := by
  refine KS_of pn_X7 (fun _ => Nat.le_of_ble_eq_true rfl) ?_
  change S _ _ _ _ _ _ _ _ _ _ [(0, .ref 61), (1, .int a)] [] _
  unfold fM_takesHead
  refine o_aload_n (pc := 0) 0 dX7_takesHead_0 rfl rfl <| ?_
  refine o_callVI (Y2 := YX7_next) (pc := 1) (av := []) (rest := []) dX7_takesHead_1 k_1144 cm_X7_next (sM_next hF m ) (hF.1 _ _ rfl) rfl rfl (Nat.le_of_ble_eq_true rfl) (Nat.le_of_ble_eq_true rfl) fun r1 => ?_
  refine S_ite (fun h2 => ?_) (fun h2 => ?_)
  · refine o_lookup (pc := 4) (tgt := 32) (off := 28) dX7_takesHead_4 (by decide) (by rw [h2]; decide) rfl ?_
    refine o_aload_n (pc := 32) 0 dX7_takesHead_32 rfl rfl <| o_getRc (pc := 33) (a := 69) (ci := 7) (j := 17) (nn := 0) dX7_takesHead_33 (hF.1 _ _ rfl) rfl (Nat.le_of_ble_eq_true rfl) k_900 rfl (hF.2 _ _ _ rfl) <| o_iload_n (pc := 36) 1 dX7_takesHead_36 rfl rfl <| o_iconst (pc := 37) dX7_takesHead_37 lc_0 <| ?_
    refine S_ck fun h3 => ?_
    refine o_iast (pc := 38) (nn := 60) dX7_takesHead_38 (hF.1 _ _ rfl) (ck_in h3) <| ?_
    refine o_lm fun m4 => ?_
    refine o_aload_n (pc := 39) 0 dX7_takesHead_39 rfl rfl <| o_iconst (pc := 40) dX7_takesHead_40 lc_0 <| o_iconst (pc := 41) dX7_takesHead_41 lc_4 <| ?_
    refine o_callVI (Y2 := YX7_takesWord) (pc := 42) (av := [.int 0, .int 4]) (rest := []) dX7_takesHead_42 k_1148 cm_X7_takesWord (sM_takesWord hF m4 0 4) (hF.1 _ _ rfl) rfl rfl (Nat.le_of_ble_eq_true rfl) (Nat.le_of_ble_eq_true rfl) fun r5 => ?_
    refine S_ck fun h6 => ?_
    exact o_zret (pc := 45) dX7_takesHead_45 rfl (zb_ok h6) rfl
  refine S_ite (fun h7 => ?_) (fun h7 => ?_)
  · refine o_lookup (pc := 4) (tgt := 46) (off := 42) dX7_takesHead_4 (by decide) (by rw [h7]; decide) rfl ?_
    refine o_aload_n (pc := 46) 0 dX7_takesHead_46 rfl rfl <| o_getRc (pc := 47) (a := 69) (ci := 7) (j := 17) (nn := 0) dX7_takesHead_47 (hF.1 _ _ rfl) rfl (Nat.le_of_ble_eq_true rfl) k_900 rfl (hF.2 _ _ _ rfl) <| o_iload_n (pc := 50) 1 dX7_takesHead_50 rfl rfl <| o_iconst (pc := 51) dX7_takesHead_51 lc_3 <| ?_
    refine S_ck fun h8 => ?_
    refine o_iast (pc := 52) (nn := 60) dX7_takesHead_52 (hF.1 _ _ rfl) (ck_in h8) <| ?_
    refine o_lm fun m9 => ?_
    refine o_aload_n (pc := 53) 0 dX7_takesHead_53 rfl rfl <| o_bipush (pc := 54) dX7_takesHead_54 lb_12 <| o_iconst (pc := 56) dX7_takesHead_56 lc_4 <| ?_
    refine o_callVI (Y2 := YX7_takesWord) (pc := 57) (av := [.int 12, .int 4]) (rest := []) dX7_takesHead_57 k_1148 cm_X7_takesWord (sM_takesWord hF m9 12 4) (hF.1 _ _ rfl) rfl rfl (Nat.le_of_ble_eq_true rfl) (Nat.le_of_ble_eq_true rfl) fun r10 => ?_
    refine S_ck fun h11 => ?_
    exact o_zret (pc := 60) dX7_takesHead_60 rfl (zb_ok h11) rfl
  refine o_lookup (pc := 4) (tgt := 61) (off := 57) dX7_takesHead_4 (by decide) ((lv_osw h2 rfl).trans ((lv_osw h7 rfl).trans rfl)) rfl ?_
  refine o_aload_n (pc := 61) 0 dX7_takesHead_61 rfl rfl <| o_getRc (pc := 62) (a := 69) (ci := 7) (j := 17) (nn := 0) dX7_takesHead_62 (hF.1 _ _ rfl) rfl (Nat.le_of_ble_eq_true rfl) k_900 rfl (hF.2 _ _ _ rfl) <| o_iload_n (pc := 65) 1 dX7_takesHead_65 rfl rfl <| o_aload_n (pc := 66) 0 dX7_takesHead_66 rfl rfl <| ?_
  refine o_callVI (Y2 := YX7_second) (pc := 67) (av := []) (rest := [.int a, .ref 69]) dX7_takesHead_67 k_1156 cm_X7_second (sM_second hF r1.2 ) (hF.1 _ _ rfl) rfl rfl (Nat.le_of_ble_eq_true rfl) (Nat.le_of_ble_eq_true rfl) fun r12 => ?_
  refine o_bipush (pc := 70) dX7_takesHead_70 lb_104 <| ?_
  refine o_icmp_ne (pc := 72) (tgt := 88) dX7_takesHead_72 rfl (fun h13 => ?_) (fun h13 => ?_)
  · refine o_aload_n (pc := 75) 0 dX7_takesHead_75 rfl rfl <| ?_
    refine o_callVI (Y2 := YX7_third) (pc := 76) (av := []) (rest := [.int a, .ref 69]) dX7_takesHead_76 k_1160 cm_X7_third (sM_third hF r12.2 ) (hF.1 _ _ rfl) rfl rfl (Nat.le_of_ble_eq_true rfl) (Nat.le_of_ble_eq_true rfl) fun r14 => ?_
    refine o_bipush (pc := 79) dX7_takesHead_79 lb_111 <| ?_
    refine o_icmp_ne (pc := 81) (tgt := 88) dX7_takesHead_81 rfl (fun h15 => ?_) (fun h15 => ?_)
    · refine o_iconst (pc := 84) dX7_takesHead_84 lc_2 <| o_goto (pc := 85) (tgt := 89) dX7_takesHead_85 rfl <| ?_
      refine S_ck fun h16 => ?_
      refine o_iast (pc := 89) (nn := 60) dX7_takesHead_89 (hF.1 _ _ rfl) (ck_in h16) <| ?_
      refine o_lm fun m17 => ?_
      refine o_aload_n (pc := 90) 0 dX7_takesHead_90 rfl rfl <| o_getRc (pc := 91) (a := 69) (ci := 7) (j := 17) (nn := 0) dX7_takesHead_91 (hF.1 _ _ rfl) rfl (Nat.le_of_ble_eq_true rfl) k_900 rfl (hF.2 _ _ _ rfl) <| o_iload_n (pc := 94) 1 dX7_takesHead_94 rfl rfl <| ?_
      refine S_ck fun h18 => ?_
      refine o_iald (pc := 95) (nn := 60) dX7_takesHead_95 (hF.1 _ _ rfl) (ck_in h18) <| o_iconst (pc := 96) dX7_takesHead_96 lc_2 <| ?_
      refine o_icmp_ne (pc := 97) (tgt := 110) dX7_takesHead_97 rfl (fun h19 => ?_) (fun h19 => ?_)
      · refine o_aload_n (pc := 100) 0 dX7_takesHead_100 rfl rfl <| o_bipush (pc := 101) dX7_takesHead_101 lb_7 <| o_iconst (pc := 103) dX7_takesHead_103 lc_5 <| ?_
        refine o_callVI (Y2 := YX7_takesWord) (pc := 104) (av := [.int 7, .int 5]) (rest := []) dX7_takesHead_104 k_1148 cm_X7_takesWord (sM_takesWord hF m17 7 5) (hF.1 _ _ rfl) rfl rfl (Nat.le_of_ble_eq_true rfl) (Nat.le_of_ble_eq_true rfl) fun r20 => ?_
        refine o_goto (pc := 107) (tgt := 116) dX7_takesHead_107 rfl <| ?_
        refine S_ck fun h21 => ?_
        exact o_zret (pc := 116) dX7_takesHead_116 rfl (zb_ok h21) rfl
      · refine o_aload_n (pc := 110) 0 dX7_takesHead_110 rfl rfl <| o_iconst (pc := 111) dX7_takesHead_111 lc_4 <| o_iconst (pc := 112) dX7_takesHead_112 lc_3 <| ?_
        refine o_callVI (Y2 := YX7_takesWord) (pc := 113) (av := [.int 4, .int 3]) (rest := []) dX7_takesHead_113 k_1148 cm_X7_takesWord (sM_takesWord hF m17 4 3) (hF.1 _ _ rfl) rfl rfl (Nat.le_of_ble_eq_true rfl) (Nat.le_of_ble_eq_true rfl) fun r22 => ?_
        refine S_ck fun h23 => ?_
        exact o_zret (pc := 116) dX7_takesHead_116 rfl (zb_ok h23) rfl
    · refine o_iconst (pc := 88) dX7_takesHead_88 lc_1 <| ?_
      refine S_ck fun h24 => ?_
      refine o_iast (pc := 89) (nn := 60) dX7_takesHead_89 (hF.1 _ _ rfl) (ck_in h24) <| ?_
      refine o_lm fun m25 => ?_
      refine o_aload_n (pc := 90) 0 dX7_takesHead_90 rfl rfl <| o_getRc (pc := 91) (a := 69) (ci := 7) (j := 17) (nn := 0) dX7_takesHead_91 (hF.1 _ _ rfl) rfl (Nat.le_of_ble_eq_true rfl) k_900 rfl (hF.2 _ _ _ rfl) <| o_iload_n (pc := 94) 1 dX7_takesHead_94 rfl rfl <| ?_
      refine S_ck fun h26 => ?_
      refine o_iald (pc := 95) (nn := 60) dX7_takesHead_95 (hF.1 _ _ rfl) (ck_in h26) <| o_iconst (pc := 96) dX7_takesHead_96 lc_2 <| ?_
      refine o_icmp_ne (pc := 97) (tgt := 110) dX7_takesHead_97 rfl (fun h27 => ?_) (fun h27 => ?_)
      · refine o_aload_n (pc := 100) 0 dX7_takesHead_100 rfl rfl <| o_bipush (pc := 101) dX7_takesHead_101 lb_7 <| o_iconst (pc := 103) dX7_takesHead_103 lc_5 <| ?_
        refine o_callVI (Y2 := YX7_takesWord) (pc := 104) (av := [.int 7, .int 5]) (rest := []) dX7_takesHead_104 k_1148 cm_X7_takesWord (sM_takesWord hF m25 7 5) (hF.1 _ _ rfl) rfl rfl (Nat.le_of_ble_eq_true rfl) (Nat.le_of_ble_eq_true rfl) fun r28 => ?_
        refine o_goto (pc := 107) (tgt := 116) dX7_takesHead_107 rfl <| ?_
        refine S_ck fun h29 => ?_
        exact o_zret (pc := 116) dX7_takesHead_116 rfl (zb_ok h29) rfl
      · refine o_aload_n (pc := 110) 0 dX7_takesHead_110 rfl rfl <| o_iconst (pc := 111) dX7_takesHead_111 lc_4 <| o_iconst (pc := 112) dX7_takesHead_112 lc_3 <| ?_
        refine o_callVI (Y2 := YX7_takesWord) (pc := 113) (av := [.int 4, .int 3]) (rest := []) dX7_takesHead_113 k_1148 cm_X7_takesWord (sM_takesWord hF m25 4 3) (hF.1 _ _ rfl) rfl rfl (Nat.le_of_ble_eq_true rfl) (Nat.le_of_ble_eq_true rfl) fun r30 => ?_
        refine S_ck fun h31 => ?_
        exact o_zret (pc := 116) dX7_takesHead_116 rfl (zb_ok h31) rfl
  · refine o_iconst (pc := 88) dX7_takesHead_88 lc_1 <| ?_
    refine S_ck fun h32 => ?_
    refine o_iast (pc := 89) (nn := 60) dX7_takesHead_89 (hF.1 _ _ rfl) (ck_in h32) <| ?_
    refine o_lm fun m33 => ?_
    refine o_aload_n (pc := 90) 0 dX7_takesHead_90 rfl rfl <| o_getRc (pc := 91) (a := 69) (ci := 7) (j := 17) (nn := 0) dX7_takesHead_91 (hF.1 _ _ rfl) rfl (Nat.le_of_ble_eq_true rfl) k_900 rfl (hF.2 _ _ _ rfl) <| o_iload_n (pc := 94) 1 dX7_takesHead_94 rfl rfl <| ?_
    refine S_ck fun h34 => ?_
    refine o_iald (pc := 95) (nn := 60) dX7_takesHead_95 (hF.1 _ _ rfl) (ck_in h34) <| o_iconst (pc := 96) dX7_takesHead_96 lc_2 <| ?_
    refine o_icmp_ne (pc := 97) (tgt := 110) dX7_takesHead_97 rfl (fun h35 => ?_) (fun h35 => ?_)
    · refine o_aload_n (pc := 100) 0 dX7_takesHead_100 rfl rfl <| o_bipush (pc := 101) dX7_takesHead_101 lb_7 <| o_iconst (pc := 103) dX7_takesHead_103 lc_5 <| ?_
      refine o_callVI (Y2 := YX7_takesWord) (pc := 104) (av := [.int 7, .int 5]) (rest := []) dX7_takesHead_104 k_1148 cm_X7_takesWord (sM_takesWord hF m33 7 5) (hF.1 _ _ rfl) rfl rfl (Nat.le_of_ble_eq_true rfl) (Nat.le_of_ble_eq_true rfl) fun r36 => ?_
      refine o_goto (pc := 107) (tgt := 116) dX7_takesHead_107 rfl <| ?_
      refine S_ck fun h37 => ?_
      exact o_zret (pc := 116) dX7_takesHead_116 rfl (zb_ok h37) rfl
    · refine o_aload_n (pc := 110) 0 dX7_takesHead_110 rfl rfl <| o_iconst (pc := 111) dX7_takesHead_111 lc_4 <| o_iconst (pc := 112) dX7_takesHead_112 lc_3 <| ?_
      refine o_callVI (Y2 := YX7_takesWord) (pc := 113) (av := [.int 4, .int 3]) (rest := []) dX7_takesHead_113 k_1148 cm_X7_takesWord (sM_takesWord hF m33 4 3) (hF.1 _ _ rfl) rfl rfl (Nat.le_of_ble_eq_true rfl) (Nat.le_of_ble_eq_true rfl) fun r38 => ?_
      refine S_ck fun h39 => ?_
      exact o_zret (pc := 116) dX7_takesHead_116 rfl (zb_ok h39) rfl
def fM_takesClause (m : MI) (a : Int32) : Option (Int32 × MI) :=
  (fM_takesHead m a).bind fun r1 =>
  if r1.1 = 0 then
    some (0, r1.2)
  else
    (fM_takesNumber r1.2).bind fun r3 =>
    if r3.1 = 0 then
      some (0, r3.2)
    else
      if ck a 60 = true then
        lm (mI r3.2 70 (upd (r3.2.1 70) a.toNatClampNeg (r3.2.1 61 14))) fun m6 =>
        if ck a 60 = true then
          if 2 ≤ m6.1 69 a.toNatClampNeg then
            some (1, m6)
          else
            (fM_takes m6 32).bind fun r9 =>
            if r9.1 = 0 then
              some (0, r9.2)
            else
              (fM_takesE r9.2 a).bind fun r11 =>
              if r11.1 = 0 then
                some (0, r11.2)
              else
                some (1, r11.2)
        else none
      else none
theorem sM_takesClause {sh : Sh} {R : RR} (hF : Fx sh R) (m : MI) (a : Int32) : KS (eI sh R) false 5 0 0 YX7_takesClause sh R m [.ref 61, .int a] (fM_takesClause m a) := by
  refine KS_of pn_X7 (fun _ => Nat.le_of_ble_eq_true rfl) ?_
  change S _ _ _ _ _ _ _ _ _ _ [(0, .ref 61), (1, .int a)] [] _
  unfold fM_takesClause
  refine o_aload_n (pc := 0) 0 dX7_takesClause_0 rfl rfl <| o_iload_n (pc := 1) 1 dX7_takesClause_1 rfl rfl <| ?_
  refine o_callVI (Y2 := YX7_takesHead) (pc := 2) (av := [.int a]) (rest := []) dX7_takesClause_2 k_1140 cm_X7_takesHead (sM_takesHead hF m a) (hF.1 _ _ rfl) rfl rfl (Nat.le_of_ble_eq_true rfl) (Nat.le_of_ble_eq_true rfl) fun r1 => ?_
  refine o_if_eq (pc := 5) (tgt := 15) dX7_takesClause_5 rfl (fun h2 => ?_) (fun h2 => ?_)
  · refine o_iconst (pc := 15) dX7_takesClause_15 lc_0 <| ?_
    exact o_zret (pc := 16) dX7_takesClause_16 rfl rfl rfl
  · refine o_aload_n (pc := 8) 0 dX7_takesClause_8 rfl rfl <| ?_
    refine o_callVI (Y2 := YX7_takesNumber) (pc := 9) (av := []) (rest := []) dX7_takesClause_9 k_1164 cm_X7_takesNumber (sM_takesNumber hF r1.2 ) (hF.1 _ _ rfl) rfl rfl (Nat.le_of_ble_eq_true rfl) (Nat.le_of_ble_eq_true rfl) fun r3 => ?_
    refine o_if_ne (pc := 12) (tgt := 17) dX7_takesClause_12 rfl (fun h4 => ?_) (fun h4 => ?_)
    · refine o_iconst (pc := 15) dX7_takesClause_15 lc_0 <| ?_
      exact o_zret (pc := 16) dX7_takesClause_16 rfl rfl rfl
    · refine o_aload_n (pc := 17) 0 dX7_takesClause_17 rfl rfl <| o_getRc (pc := 18) (a := 70) (ci := 7) (j := 18) (nn := 0) dX7_takesClause_18 (hF.1 _ _ rfl) rfl (Nat.le_of_ble_eq_true rfl) k_901 rfl (hF.2 _ _ _ rfl) <| o_iload_n (pc := 21) 1 dX7_takesClause_21 rfl rfl <| o_aload_n (pc := 22) 0 dX7_takesClause_22 rfl rfl <| o_getI (pc := 23) (ci := 7) (j := 14) (nn := 0) dX7_takesClause_23 (hF.1 _ _ rfl) rfl (Nat.le_of_ble_eq_true rfl) k_897 rfl <| ?_
      refine S_ck fun h5 => ?_
      refine o_iast (pc := 26) (nn := 60) dX7_takesClause_26 (hF.1 _ _ rfl) (ck_in h5) <| ?_
      refine o_lm fun m6 => ?_
      refine o_aload_n (pc := 27) 0 dX7_takesClause_27 rfl rfl <| o_getRc (pc := 28) (a := 69) (ci := 7) (j := 17) (nn := 0) dX7_takesClause_28 (hF.1 _ _ rfl) rfl (Nat.le_of_ble_eq_true rfl) k_900 rfl (hF.2 _ _ _ rfl) <| o_iload_n (pc := 31) 1 dX7_takesClause_31 rfl rfl <| ?_
      refine S_ck fun h7 => ?_
      refine o_iald (pc := 32) (nn := 60) dX7_takesClause_32 (hF.1 _ _ rfl) (ck_in h7) <| o_iconst (pc := 33) dX7_takesClause_33 lc_2 <| ?_
      refine o_icmp_ge (pc := 34) (tgt := 54) dX7_takesClause_34 rfl (fun h8 => ?_) (fun h8 => ?_)
      · refine o_iconst (pc := 54) dX7_takesClause_54 lc_1 <| o_goto (pc := 55) (tgt := 59) dX7_takesClause_55 rfl <| ?_
        exact o_zret (pc := 59) dX7_takesClause_59 rfl rfl rfl
      · refine o_aload_n (pc := 37) 0 dX7_takesClause_37 rfl rfl <| o_bipush (pc := 38) dX7_takesClause_38 lb_32 <| ?_
        refine o_callVI (Y2 := YX7_takes) (pc := 40) (av := [.int 32]) (rest := []) dX7_takesClause_40 k_1152 cm_X7_takes (sM_takes hF m6 32) (hF.1 _ _ rfl) rfl rfl (Nat.le_of_ble_eq_true rfl) (Nat.le_of_ble_eq_true rfl) fun r9 => ?_
        refine o_if_eq (pc := 43) (tgt := 58) dX7_takesClause_43 rfl (fun h10 => ?_) (fun h10 => ?_)
        · refine o_iconst (pc := 58) dX7_takesClause_58 lc_0 <| ?_
          exact o_zret (pc := 59) dX7_takesClause_59 rfl rfl rfl
        · refine o_aload_n (pc := 46) 0 dX7_takesClause_46 rfl rfl <| o_iload_n (pc := 47) 1 dX7_takesClause_47 rfl rfl <| ?_
          refine o_callVI (Y2 := YX7_takesE) (pc := 48) (av := [.int a]) (rest := []) dX7_takesClause_48 k_1172 cm_X7_takesE (sM_takesE hF r9.2 a) (hF.1 _ _ rfl) rfl rfl (Nat.le_of_ble_eq_true rfl) (Nat.le_of_ble_eq_true rfl) fun r11 => ?_
          refine o_if_eq (pc := 51) (tgt := 58) dX7_takesClause_51 rfl (fun h12 => ?_) (fun h12 => ?_)
          · refine o_iconst (pc := 58) dX7_takesClause_58 lc_0 <| ?_
            exact o_zret (pc := 59) dX7_takesClause_59 rfl rfl rfl
          · refine o_iconst (pc := 54) dX7_takesClause_54 lc_1 <| o_goto (pc := 55) (tgt := 59) dX7_takesClause_55 rfl <| ?_
            exact o_zret (pc := 59) dX7_takesClause_59 rfl rfl rfl
def fM_goesText_l15 (u1 : Int32) (k0_0 : MI → Int32 → Option (Int32 × MI)) : Nat → MI → Int32 → Option (Int32 × MI)
  | 0, _, _ => none
  | n0 + 1, m, v2 =>
    (fM_takesClause m (((10 : Int32) * u1) + v2)).bind fun r1 =>
    if r1.1 = 0 then
      some (0, r1.2)
    else
      lt (v2 + 1) fun x3 =>
      if ck u1 6 = true then
        lm (mI r1.2 68 (upd (r1.2.1 68) u1.toNatClampNeg x3)) fun m5 =>
        if m5.1 61 13 = m5.1 61 12 then
          some (1, m5)
        else
          if x3 = 10 then
            k0_0 m5 x3
          else
            (fM_takes m5 59).bind fun r8 =>
            if r8.1 = 0 then
              k0_0 r8.2 x3
            else
              fM_goesText_l15 u1 k0_0 n0 r8.2 x3
      else none
theorem sM_goesText_l15 {sh : Sh} {R : RR} (hF : Fx sh R) (u1 : Int32) (k0_0 : MI → Int32 → Option (Int32 × MI)) (hk0_0 : ∀ (m : MI) (v2 : Int32) , S (eI sh R) false 6 0 0 YX7_goesText sh R m 68 [(0, .ref 61), (1, .int u1), (2, .int v2)] [] (k0_0 m v2)) : ∀ (n : Nat) (m : MI) (v2 : Int32) , S (eI sh R) false 6 0 0 YX7_goesText sh R m 15 [(0, .ref 61), (1, .int u1), (2, .int v2)] [] (fM_goesText_l15 u1 k0_0 n m v2) := by
  intro n
  induction n with
  | zero => intros; exact S_none
  | succ n0 ih0 =>
    intro m v2
    rw [fM_goesText_l15]
    refine o_aload_n (pc := 15) 0 dX7_goesText_15 rfl rfl <| o_bipush (pc := 16) dX7_goesText_16 lb_10 <| o_iload_n (pc := 18) 1 dX7_goesText_18 rfl rfl <| o_imul (pc := 19) dX7_goesText_19 <| o_iload_n (pc := 20) 2 dX7_goesText_20 rfl rfl <| o_iadd (pc := 21) dX7_goesText_21 <| ?_
    refine o_callVI (Y2 := YX7_takesClause) (pc := 22) (av := [.int (((10 : Int32) * u1) + v2)]) (rest := []) dX7_goesText_22 k_1136 cm_X7_takesClause (sM_takesClause hF m (((10 : Int32) * u1) + v2)) (hF.1 _ _ rfl) rfl rfl (Nat.le_of_ble_eq_true rfl) (Nat.le_of_ble_eq_true rfl) fun r1 => ?_
    refine o_if_ne (pc := 25) (tgt := 30) dX7_goesText_25 rfl (fun h2 => ?_) (fun h2 => ?_)
    · refine o_iconst (pc := 28) dX7_goesText_28 lc_0 <| ?_
      exact o_zret (pc := 29) dX7_goesText_29 rfl rfl rfl
    · refine o_iinc (pc := 30) 2 (v := v2 + 1) (ls' := [(2, .int (v2 + 1)), (0, .ref 61), (1, .int u1)]) dX7_goesText_30 rfl rfl (Nat.le_of_ble_eq_true rfl) rfl <| ?_
      refine o_ltL (ls := fun x3 => [(2, .int x3), (0, .ref 61), (1, .int u1)]) fun x3 => ?_
      refine o_aload_n (pc := 33) 1 dX7_goesText_33 rfl rfl <| o_getRc (pc := 34) (a := 68) (ci := 7) (j := 16) (nn := 0) dX7_goesText_34 (hF.1 _ _ rfl) rfl (Nat.le_of_ble_eq_true rfl) k_899 rfl (hF.2 _ _ _ rfl) <| o_iload_n (pc := 37) 2 dX7_goesText_37 rfl rfl <| o_iload_n (pc := 38) 0 dX7_goesText_38 rfl rfl <| ?_
      refine S_ck fun h4 => ?_
      refine o_iast (pc := 39) (nn := 6) dX7_goesText_39 (hF.1 _ _ rfl) (ck_in h4) <| ?_
      refine o_lm fun m5 => ?_
      refine o_aload_n (pc := 40) 1 dX7_goesText_40 rfl rfl <| o_getI (pc := 41) (ci := 7) (j := 13) (nn := 0) dX7_goesText_41 (hF.1 _ _ rfl) rfl (Nat.le_of_ble_eq_true rfl) k_896 rfl <| o_aload_n (pc := 44) 1 dX7_goesText_44 rfl rfl <| o_getI (pc := 45) (ci := 7) (j := 12) (nn := 0) dX7_goesText_45 (hF.1 _ _ rfl) rfl (Nat.le_of_ble_eq_true rfl) k_895 rfl <| ?_
      refine o_icmp_ne (pc := 48) (tgt := 53) dX7_goesText_48 rfl (fun h6 => ?_) (fun h6 => ?_)
      · refine o_iconst (pc := 51) dX7_goesText_51 lc_1 <| ?_
        exact o_zret (pc := 52) dX7_goesText_52 rfl rfl rfl
      · refine o_iload_n (pc := 53) 0 dX7_goesText_53 rfl rfl <| o_bipush (pc := 54) dX7_goesText_54 lb_10 <| ?_
        refine o_icmp_eq (pc := 56) (tgt := 68) dX7_goesText_56 rfl (fun h7 => ?_) (fun h7 => ?_)
        · refine o_sub [1, 2, 0] (ls' := [(0, .ref 61), (1, .int u1), (2, .int x3)]) rfl ?_
          exact hk0_0 m5 x3
        · refine o_aload_n (pc := 59) 1 dX7_goesText_59 rfl rfl <| o_bipush (pc := 60) dX7_goesText_60 lb_59 <| ?_
          refine o_callVI (Y2 := YX7_takes) (pc := 62) (av := [.int 59]) (rest := []) dX7_goesText_62 k_1152 cm_X7_takes (sM_takes hF m5 59) (hF.1 _ _ rfl) rfl rfl (Nat.le_of_ble_eq_true rfl) (Nat.le_of_ble_eq_true rfl) fun r8 => ?_
          refine o_if_ne (pc := 65) (tgt := 15) dX7_goesText_65 rfl (fun h9 => ?_) (fun h9 => ?_)
          · refine o_sub [1, 2, 0] (ls' := [(0, .ref 61), (1, .int u1), (2, .int x3)]) rfl ?_
            exact hk0_0 r8.2 x3
          · refine o_sub [1, 2, 0] (ls' := [(0, .ref 61), (1, .int u1), (2, .int x3)]) rfl ?_
            exact ih0 r8.2 x3
def fM_goesText (m : MI) (a : Int32) : Option (Int32 × MI) :=
  lm (mI m 61 (upd (m.1 61) 13 0)) fun m1 =>
  lm (mI m1 61 (upd (m1.1 61) 23 ((100 : Int32) * a))) fun m2 =>
  fM_goesText_l15 a
    (fun m4 z3 =>
      some (0, m4)
      )
    1000 m2 0
theorem sM_goesText {sh : Sh} {R : RR} (hF : Fx sh R) (m : MI) (a : Int32) : KS (eI sh R) false 6 0 0 YX7_goesText sh R m [.ref 61, .int a] (fM_goesText m a) := by
  refine KS_of pn_X7 (fun _ => Nat.le_of_ble_eq_true rfl) ?_
  change S _ _ _ _ _ _ _ _ _ _ [(0, .ref 61), (1, .int a)] [] _
  unfold fM_goesText
  refine o_aload_n (pc := 0) 0 dX7_goesText_0 rfl rfl <| o_iconst (pc := 1) dX7_goesText_1 lc_0 <| o_putI (pc := 2) (ci := 7) (j := 13) (nn := 0) dX7_goesText_2 (hF.1 _ _ rfl) rfl (Nat.le_of_ble_eq_true rfl) k_896 rfl rfl rfl rfl rfl <| ?_
  refine o_lm fun m1 => ?_
  refine o_aload_n (pc := 5) 0 dX7_goesText_5 rfl rfl <| o_bipush (pc := 6) dX7_goesText_6 lb_100 <| o_iload_n (pc := 8) 1 dX7_goesText_8 rfl rfl <| o_imul (pc := 9) dX7_goesText_9 <| o_putI (pc := 10) (ci := 7) (j := 23) (nn := 0) dX7_goesText_10 (hF.1 _ _ rfl) rfl (Nat.le_of_ble_eq_true rfl) k_906 rfl rfl rfl rfl rfl <| ?_
  refine o_lm fun m2 => ?_
  refine o_iconst (pc := 13) dX7_goesText_13 lc_0 <| o_istore_n (pc := 14) (ls' := [(2, .int 0), (0, .ref 61), (1, .int a)]) dX7_goesText_14 rfl (Nat.le_of_ble_eq_true rfl) rfl <| ?_
  refine o_sub [1, 2, 0] (ls' := [(0, .ref 61), (1, .int a), (2, .int 0)]) rfl ?_
  refine sM_goesText_l15 hF a _ ?_ 1000 m2 0
  · intro m4 z3
    refine o_iconst (pc := 68) dX7_goesText_68 lc_0 <| ?_
    exact o_zret (pc := 69) dX7_goesText_69 rfl rfl rfl
def fM_hut (m : MI) : Option (Int32 × MI) :=
  if m.1 61 10 = 6 then
    some (-4, m)
  else
    (fM_goesText m (m.1 61 10)).bind fun r2 =>
    lm (mI r2.2 61 (upd (r2.2.1 61) 12 0)) fun m3 =>
    if r2.1 = 0 then
      some ((-10 : Int32) - (m3.1 61 13), m3)
    else
      lm (mI m3 61 (upd (m3.1 61) 11 (m3.1 61 10))) fun m5 =>
      lm (mI m5 61 (upd (m5.1 61) 10 ((m5.1 61 10) + 1))) fun m6 =>
      (fM_layFist m6).bind fun r7 =>
      some (r7.1 61 11, r7)
theorem sM_hut {sh : Sh} {R : RR} (hF : Fx sh R) (m : MI) : KS (eI sh R) false 7 0 0 YX7_hut sh R m [.ref 61] (fM_hut m ) := by
  refine KS_of pn_X7 (fun _ => Nat.le_of_ble_eq_true rfl) ?_
  change S _ _ _ _ _ _ _ _ _ _ [(0, .ref 61)] [] _
  unfold fM_hut
  refine o_aload_n (pc := 0) 0 dX7_hut_0 rfl rfl <| o_getI (pc := 1) (ci := 7) (j := 10) (nn := 0) dX7_hut_1 (hF.1 _ _ rfl) rfl (Nat.le_of_ble_eq_true rfl) k_893 rfl <| o_bipush (pc := 4) dX7_hut_4 lb_6 <| ?_
  refine o_icmp_ne (pc := 6) (tgt := 12) dX7_hut_6 rfl (fun h1 => ?_) (fun h1 => ?_)
  · refine o_bipush (pc := 9) dX7_hut_9 lb_m4 <| ?_
    exact o_iret (pc := 11) dX7_hut_11 rfl rfl
  · refine o_aload_n (pc := 12) 0 dX7_hut_12 rfl rfl <| o_aload_n (pc := 13) 0 dX7_hut_13 rfl rfl <| o_getI (pc := 14) (ci := 7) (j := 10) (nn := 0) dX7_hut_14 (hF.1 _ _ rfl) rfl (Nat.le_of_ble_eq_true rfl) k_893 rfl <| ?_
    refine o_callVI (Y2 := YX7_goesText) (pc := 17) (av := [.int (m.1 61 10)]) (rest := []) dX7_hut_17 k_1132 cm_X7_goesText (sM_goesText hF m (m.1 61 10)) (hF.1 _ _ rfl) rfl rfl (Nat.le_of_ble_eq_true rfl) (Nat.le_of_ble_eq_true rfl) fun r2 => ?_
    refine o_istore_n (pc := 20) (ls' := [(1, .int r2.1), (0, .ref 61)]) dX7_hut_20 rfl (Nat.le_of_ble_eq_true rfl) rfl <| o_aload_n (pc := 21) 1 dX7_hut_21 rfl rfl <| o_iconst (pc := 22) dX7_hut_22 lc_0 <| o_putI (pc := 23) (ci := 7) (j := 12) (nn := 0) dX7_hut_23 (hF.1 _ _ rfl) rfl (Nat.le_of_ble_eq_true rfl) k_895 rfl rfl rfl rfl rfl <| ?_
    refine o_lm fun m3 => ?_
    refine o_iload_n (pc := 26) 0 dX7_hut_26 rfl rfl <| ?_
    refine o_if_ne (pc := 27) (tgt := 38) dX7_hut_27 rfl (fun h4 => ?_) (fun h4 => ?_)
    · refine o_bipush (pc := 30) dX7_hut_30 lb_m10 <| o_aload_n (pc := 32) 1 dX7_hut_32 rfl rfl <| o_getI (pc := 33) (ci := 7) (j := 13) (nn := 0) dX7_hut_33 (hF.1 _ _ rfl) rfl (Nat.le_of_ble_eq_true rfl) k_896 rfl <| o_isub (pc := 36) dX7_hut_36 <| ?_
      exact o_iret (pc := 37) dX7_hut_37 rfl rfl
    · refine o_aload_n (pc := 38) 1 dX7_hut_38 rfl rfl <| o_aload_n (pc := 39) 1 dX7_hut_39 rfl rfl <| o_getI (pc := 40) (ci := 7) (j := 10) (nn := 0) dX7_hut_40 (hF.1 _ _ rfl) rfl (Nat.le_of_ble_eq_true rfl) k_893 rfl <| o_putI (pc := 43) (ci := 7) (j := 11) (nn := 0) dX7_hut_43 (hF.1 _ _ rfl) rfl (Nat.le_of_ble_eq_true rfl) k_894 rfl rfl rfl rfl rfl <| ?_
      refine o_lm fun m5 => ?_
      refine o_aload_n (pc := 46) 1 dX7_hut_46 rfl rfl <| o_dup (pc := 47) dX7_hut_47 rfl <| o_getI (pc := 48) (ci := 7) (j := 10) (nn := 0) dX7_hut_48 (hF.1 _ _ rfl) rfl (Nat.le_of_ble_eq_true rfl) k_893 rfl <| o_iconst (pc := 51) dX7_hut_51 lc_1 <| o_iadd (pc := 52) dX7_hut_52 <| o_putI (pc := 53) (ci := 7) (j := 10) (nn := 0) dX7_hut_53 (hF.1 _ _ rfl) rfl (Nat.le_of_ble_eq_true rfl) k_893 rfl rfl rfl rfl rfl <| ?_
      refine o_lm fun m6 => ?_
      refine o_aload_n (pc := 56) 1 dX7_hut_56 rfl rfl <| ?_
      refine o_callVV (Y2 := YX7_layFist) (pc := 57) (av := []) (rest := []) dX7_hut_57 k_859 cm_X7_layFist (sM_layFist hF m6 ) (hF.1 _ _ rfl) rfl rfl (Nat.le_of_ble_eq_true rfl) (Nat.le_of_ble_eq_true rfl) fun r7 => ?_
      refine o_aload_n (pc := 60) 1 dX7_hut_60 rfl rfl <| o_getI (pc := 61) (ci := 7) (j := 11) (nn := 0) dX7_hut_61 (hF.1 _ _ rfl) rfl (Nat.le_of_ble_eq_true rfl) k_894 rfl <| ?_
      exact o_iret (pc := 64) dX7_hut_64 rfl rfl
def fM_factOf (m : MI) (a : Int32) (b : Int32) : Option (Int32 × MI) :=
  if a = 0 then
    some (b, m)
  else
    if a = 1 then
      if ck b 6 = true then
        some (m.1 62 b.toNatClampNeg, m)
      else none
    else
      if a = 2 then
        if ck b 6 = true then
          some ((m.1 64 b.toNatClampNeg) - (m.1 64 b.toNatClampNeg) / 10 * 10, m)
        else none
      else
        if a = 3 then
          some (m.1 61 28, m)
        else
          if a = 4 then
            some (m.1 61 29, m)
          else
            some (m.1 61 30, m)
theorem sM_factOf {sh : Sh} {R : RR} (hF : Fx sh R) (m : MI) (a : Int32) (b : Int32) : KS (eI sh R) false 0 0 0 YX7_factOf sh R m [.ref 61, .int a, .int b] (fM_factOf m a b) := by
  refine KS_of pn_X7 (fun _ => Nat.le_of_ble_eq_true rfl) ?_
  change S _ _ _ _ _ _ _ _ _ _ [(0, .ref 61), (1, .int a), (2, .int b)] [] _
  unfold fM_factOf
  refine o_iload_n (pc := 0) 1 dX7_factOf_0 rfl rfl <| ?_
  refine S_ite (fun h1 => ?_) (fun h1 => ?_)
  · refine o_ts_in (pc := 1) (tgt := 36) 0 h1 dX7_factOf_1 (by decide) (by decide) rfl rfl ?_
    refine o_iload_n (pc := 36) 2 dX7_factOf_36 rfl rfl <| ?_
    exact o_iret (pc := 37) dX7_factOf_37 rfl rfl
  refine S_ite (fun h2 => ?_) (fun h2 => ?_)
  · refine o_ts_in (pc := 1) (tgt := 38) 1 h2 dX7_factOf_1 (by decide) (by decide) rfl rfl ?_
    refine o_aload_n (pc := 38) 0 dX7_factOf_38 rfl rfl <| o_getRc (pc := 39) (a := 62) (ci := 7) (j := 5) (nn := 0) dX7_factOf_39 (hF.1 _ _ rfl) rfl (Nat.le_of_ble_eq_true rfl) k_888 rfl (hF.2 _ _ _ rfl) <| o_iload_n (pc := 42) 2 dX7_factOf_42 rfl rfl <| ?_
    refine S_ck fun h3 => ?_
    refine o_iald (pc := 43) (nn := 6) dX7_factOf_43 (hF.1 _ _ rfl) (ck_in h3) <| ?_
    exact o_iret (pc := 44) dX7_factOf_44 rfl rfl
  refine S_ite (fun h4 => ?_) (fun h4 => ?_)
  · refine o_ts_in (pc := 1) (tgt := 45) 2 h4 dX7_factOf_1 (by decide) (by decide) rfl rfl ?_
    refine o_aload_n (pc := 45) 0 dX7_factOf_45 rfl rfl <| o_getRc (pc := 46) (a := 64) (ci := 7) (j := 7) (nn := 0) dX7_factOf_46 (hF.1 _ _ rfl) rfl (Nat.le_of_ble_eq_true rfl) k_890 rfl (hF.2 _ _ _ rfl) <| o_iload_n (pc := 49) 2 dX7_factOf_49 rfl rfl <| ?_
    refine S_ck fun h5 => ?_
    refine o_iald (pc := 50) (nn := 6) dX7_factOf_50 (hF.1 _ _ rfl) (ck_in h5) <| o_bipush (pc := 51) dX7_factOf_51 lb_10 <| o_irem (pc := 53) dX7_factOf_53 (by decide) <| ?_
    exact o_iret (pc := 54) dX7_factOf_54 rfl rfl
  refine S_ite (fun h6 => ?_) (fun h6 => ?_)
  · refine o_ts_in (pc := 1) (tgt := 55) 3 h6 dX7_factOf_1 (by decide) (by decide) rfl rfl ?_
    refine o_aload_n (pc := 55) 0 dX7_factOf_55 rfl rfl <| o_getI (pc := 56) (ci := 7) (j := 28) (nn := 0) dX7_factOf_56 (hF.1 _ _ rfl) rfl (Nat.le_of_ble_eq_true rfl) k_911 rfl <| ?_
    exact o_iret (pc := 59) dX7_factOf_59 rfl rfl
  refine S_ite (fun h7 => ?_) (fun h7 => ?_)
  · refine o_ts_in (pc := 1) (tgt := 60) 4 h7 dX7_factOf_1 (by decide) (by decide) rfl rfl ?_
    refine o_aload_n (pc := 60) 0 dX7_factOf_60 rfl rfl <| o_getI (pc := 61) (ci := 7) (j := 29) (nn := 0) dX7_factOf_61 (hF.1 _ _ rfl) rfl (Nat.le_of_ble_eq_true rfl) k_912 rfl <| ?_
    exact o_iret (pc := 64) dX7_factOf_64 rfl rfl
  refine o_ts_out (pc := 1) (tgt := 65) (ts_out (lo := 0) (hi := 4) [0, 1, 2, 3, 4] (by decide) (by decide) (fun c hc => by
      simp only [List.mem_cons, List.not_mem_nil, or_false] at hc
      rcases hc with rfl | rfl | rfl | rfl | rfl
      · exact h1
      · exact h2
      · exact h4
      · exact h6
      · exact h7)) dX7_factOf_1 rfl ?_
  refine o_aload_n (pc := 65) 0 dX7_factOf_65 rfl rfl <| o_getI (pc := 66) (ci := 7) (j := 30) (nn := 0) dX7_factOf_66 (hF.1 _ _ rfl) rfl (Nat.le_of_ble_eq_true rfl) k_913 rfl <| ?_
  exact o_iret (pc := 69) dX7_factOf_69 rfl rfl
