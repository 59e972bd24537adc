def fW_pull (sh : Sh) (R : RR) (m : MI) (a : Int32) (b : Int32) (c : Int32) (d : Int32) : Option (Int32 × MI) :=
  if ck a 6 = true then
    lt (m.1 2 a.toNatClampNeg) fun x2 =>
    if x2 = 3 then
      some (10, m)
    else
      if x2 = 6 then
        if ck a 6 = true then
          mq (R 11 a.toNatClampNeg) fun q7 =>
          if ck a 6 = true then
            if kA sh q7 0 = true then
              if ck ((m.1 4 a.toNatClampNeg) - (m.1 4 a.toNatClampNeg) / 4 * 4) (lenA sh q7) = true then
                some ((2 : Int32) * (m.1 q7 ((m.1 4 a.toNatClampNeg) - (m.1 4 a.toNatClampNeg) / 4 * 4).toNatClampNeg), m)
              else none
            else none
          else none
        else none
      else
        if x2 = 4 then
          if d < c then
            lm (mI m 18 (upd (m.1 18) (0 : Int32).toNatClampNeg a)) fun m13 =>
            lm (mI m13 18 (upd (m13.1 18) (1 : Int32).toNatClampNeg x2)) fun m14 =>
            if ck a 6 = true then
              lm (mI m14 18 (upd (m14.1 18) (2 : Int32).toNatClampNeg ((m14.1 4 a.toNatClampNeg) - (m14.1 4 a.toNatClampNeg) / 10 * 10))) fun m16 =>
              lm (mI m16 18 (upd (m16.1 18) (3 : Int32).toNatClampNeg c)) fun m17 =>
              lm (mI m17 18 (upd (m17.1 18) (4 : Int32).toNatClampNeg d)) fun m18 =>
              lm (mI m18 18 (upd (m18.1 18) (5 : Int32).toNatClampNeg b)) fun m19 =>
              mq (R 1 15) fun q21 =>
              if sh[q21]? = some (11, 0) then
                (fH_plain_18 sh R m19 q21).bind fun r22 =>
                if x2 = 1 then
                  if ck a 6 = true then
                    some (if 0 < r22.1 - (r22.2.1 3 a.toNatClampNeg) then r22.1 - (r22.2.1 3 a.toNatClampNeg) else 0, r22.2)
                  else none
                else
                  if x2 = 2 then
                    if ck a 6 = true then
                      some (r22.1 + (r22.2.1 3 a.toNatClampNeg), r22.2)
                    else none
                  else
                    if x2 = 3 then
                      some (r22.1, r22.2)
                    else
                      if x2 = 4 then
                        if ck a 6 = true then
                          some (if 0 < r22.1 - (r22.2.1 3 a.toNatClampNeg) then r22.1 - (r22.2.1 3 a.toNatClampNeg) else 0, r22.2)
                        else none
                      else
                        if x2 = 5 then
                          if ck a 6 = true then
                            some ((2 : Int32) * (r22.1 + (r22.2.1 3 a.toNatClampNeg)), r22.2)
                          else none
                        else
                          some (r22.1, r22.2)
              else none
            else none
          else
            some (0, m)
        else
          lm (mI m 18 (upd (m.1 18) (0 : Int32).toNatClampNeg a)) fun m33 =>
          lm (mI m33 18 (upd (m33.1 18) (1 : Int32).toNatClampNeg x2)) fun m34 =>
          if ck a 6 = true then
            lm (mI m34 18 (upd (m34.1 18) (2 : Int32).toNatClampNeg ((m34.1 4 a.toNatClampNeg) - (m34.1 4 a.toNatClampNeg) / 10 * 10))) fun m36 =>
            lm (mI m36 18 (upd (m36.1 18) (3 : Int32).toNatClampNeg c)) fun m37 =>
            lm (mI m37 18 (upd (m37.1 18) (4 : Int32).toNatClampNeg d)) fun m38 =>
            lm (mI m38 18 (upd (m38.1 18) (5 : Int32).toNatClampNeg b)) fun m39 =>
            mq (R 1 15) fun q41 =>
            if sh[q41]? = some (11, 0) then
              (fH_plain_18 sh R m39 q41).bind fun r42 =>
              if x2 = 1 then
                if ck a 6 = true then
                  some (if 0 < r42.1 - (r42.2.1 3 a.toNatClampNeg) then r42.1 - (r42.2.1 3 a.toNatClampNeg) else 0, r42.2)
                else none
              else
                if x2 = 2 then
                  if ck a 6 = true then
                    some (r42.1 + (r42.2.1 3 a.toNatClampNeg), r42.2)
                  else none
                else
                  if x2 = 3 then
                    some (r42.1, r42.2)
                  else
                    if x2 = 4 then
                      if ck a 6 = true then
                        some (if 0 < r42.1 - (r42.2.1 3 a.toNatClampNeg) then r42.1 - (r42.2.1 3 a.toNatClampNeg) else 0, r42.2)
                      else none
                    else
                      if x2 = 5 then
                        if ck a 6 = true then
                          some ((2 : Int32) * (r42.1 + (r42.2.1 3 a.toNatClampNeg)), r42.2)
                        else none
                      else
                        some (r42.1, r42.2)
            else none
          else none
  else none
theorem sW_pull {sh : Sh} {R : RR} (hF : Fx sh R) (m : MI) (a : Int32) (b : Int32) (c : Int32) (d : Int32) : KS (eI sh R) false 2 0 0 YX5_pull sh R m [.ref 1, .int a, .int b, .int c, .int d] (fW_pull sh R m a b c d) := by
  refine KS_of pn_X5 (fun _ => Nat.le_of_ble_eq_true rfl) ?_
  change S _ _ _ _ _ _ _ _ _ _ [(0, .ref 1), (1, .int a), (2, .int b), (3, .int c), (4, .int d)] [] _
  unfold fW_pull
  refine o_aload_n (pc := 0) 0 dX5_pull_0 rfl rfl <| o_getRc (pc := 1) (a := 2) (ci := 5) (j := 1) (nn := 0) dX5_pull_1 (hF.1 _ _ rfl) rfl (Nat.le_of_ble_eq_true rfl) k_126 rfl (hF.2 _ _ _ rfl) <| o_iload_n (pc := 4) 1 dX5_pull_4 rfl rfl <| ?_
  refine S_ck fun h1 => ?_
  refine o_iald (pc := 5) (nn := 6) dX5_pull_5 (hF.1 _ _ rfl) (ck_in h1) <| ?_
  refine o_lt fun x2 => ?_
  refine o_istore (pc := 6) (ls' := [(5, .int x2), (0, .ref 1), (1, .int a), (2, .int b), (3, .int c), (4, .int d)]) dX5_pull_6 (Nat.le_of_ble_eq_true rfl) rfl <| o_iload (pc := 8) 0 dX5_pull_8 rfl <| o_iconst (pc := 10) dX5_pull_10 lc_3 <| ?_
  refine o_icmp_ne (pc := 11) (tgt := 17) dX5_pull_11 rfl (fun h3 => ?_) (fun h3 => ?_)
  · refine o_bipush (pc := 14) dX5_pull_14 lb_10 <| ?_
    exact o_iret (pc := 16) dX5_pull_16 rfl rfl
  · refine o_iload (pc := 17) 0 dX5_pull_17 rfl <| o_bipush (pc := 19) dX5_pull_19 lb_6 <| ?_
    refine o_icmp_ne (pc := 21) (tgt := 42) dX5_pull_21 rfl (fun h4 => ?_) (fun h4 => ?_)
    · refine o_iconst (pc := 24) dX5_pull_24 lc_2 <| o_aload_n (pc := 25) 1 dX5_pull_25 rfl rfl <| o_getRc (pc := 26) (a := 11) (ci := 5) (j := 4) (nn := 0) dX5_pull_26 (hF.1 _ _ rfl) rfl (Nat.le_of_ble_eq_true rfl) k_132 rfl (hF.2 _ _ _ rfl) <| o_iload_n (pc := 29) 2 dX5_pull_29 rfl rfl <| ?_
      refine S_ck fun h5 => ?_
      refine S_mq fun q7 h6 => ?_
      refine o_aaldI (pc := 30) (r := some q7) (nn := 6) dX5_pull_30 (hF.1 _ _ rfl) (ck_in h5) h6 <| o_aload_n (pc := 31) 1 dX5_pull_31 rfl rfl <| o_getRc (pc := 32) (a := 4) (ci := 5) (j := 3) (nn := 0) dX5_pull_32 (hF.1 _ _ rfl) rfl (Nat.le_of_ble_eq_true rfl) k_130 rfl (hF.2 _ _ _ rfl) <| o_iload_n (pc := 35) 2 dX5_pull_35 rfl rfl <| ?_
      refine S_ck fun h8 => ?_
      refine o_iald (pc := 36) (nn := 6) dX5_pull_36 (hF.1 _ _ rfl) (ck_in h8) <| o_iconst (pc := 37) dX5_pull_37 lc_4 <| o_irem (pc := 38) dX5_pull_38 (by decide) <| ?_
      refine S_ck fun h9 => ?_
      refine S_ck fun h10 => ?_
      refine o_iald (pc := 39) (nn := lenA sh q7) dX5_pull_39 (kA_ok h9) (ck_in h10) <| o_imul (pc := 40) dX5_pull_40 <| ?_
      exact o_iret (pc := 41) dX5_pull_41 rfl rfl
    · refine o_iload (pc := 42) 0 dX5_pull_42 rfl <| o_iconst (pc := 44) dX5_pull_44 lc_4 <| ?_
      refine o_icmp_ne (pc := 45) (tgt := 56) dX5_pull_45 rfl (fun h11 => ?_) (fun h11 => ?_)
      · refine o_iload (pc := 48) 5 dX5_pull_48 rfl <| o_iload_n (pc := 50) 4 dX5_pull_50 rfl rfl <| ?_
        refine o_icmp_lt (pc := 51) (tgt := 56) dX5_pull_51 rfl (fun h12 => ?_) (fun h12 => ?_)
        · refine o_aload_n (pc := 56) 1 dX5_pull_56 rfl rfl <| o_getRc (pc := 57) (a := 18) (ci := 5) (j := 16) (nn := 0) dX5_pull_57 (hF.1 _ _ rfl) rfl (Nat.le_of_ble_eq_true rfl) k_156 rfl (hF.2 _ _ _ rfl) <| o_iconst (pc := 60) dX5_pull_60 lc_0 <| o_iload_n (pc := 61) 2 dX5_pull_61 rfl rfl <| o_iast (pc := 62) (nn := 6) dX5_pull_62 (hF.1 _ _ rfl) (ck_in rfl) <| ?_
          refine o_lm fun m13 => ?_
          refine o_aload_n (pc := 63) 1 dX5_pull_63 rfl rfl <| o_getRc (pc := 64) (a := 18) (ci := 5) (j := 16) (nn := 0) dX5_pull_64 (hF.1 _ _ rfl) rfl (Nat.le_of_ble_eq_true rfl) k_156 rfl (hF.2 _ _ _ rfl) <| o_iconst (pc := 67) dX5_pull_67 lc_1 <| o_iload (pc := 68) 0 dX5_pull_68 rfl <| o_iast (pc := 70) (nn := 6) dX5_pull_70 (hF.1 _ _ rfl) (ck_in rfl) <| ?_
          refine o_lm fun m14 => ?_
          refine o_aload_n (pc := 71) 1 dX5_pull_71 rfl rfl <| o_getRc (pc := 72) (a := 18) (ci := 5) (j := 16) (nn := 0) dX5_pull_72 (hF.1 _ _ rfl) rfl (Nat.le_of_ble_eq_true rfl) k_156 rfl (hF.2 _ _ _ rfl) <| o_iconst (pc := 75) dX5_pull_75 lc_2 <| o_aload_n (pc := 76) 1 dX5_pull_76 rfl rfl <| o_getRc (pc := 77) (a := 4) (ci := 5) (j := 3) (nn := 0) dX5_pull_77 (hF.1 _ _ rfl) rfl (Nat.le_of_ble_eq_true rfl) k_130 rfl (hF.2 _ _ _ rfl) <| o_iload_n (pc := 80) 2 dX5_pull_80 rfl rfl <| ?_
          refine S_ck fun h15 => ?_
          refine o_iald (pc := 81) (nn := 6) dX5_pull_81 (hF.1 _ _ rfl) (ck_in h15) <| o_bipush (pc := 82) dX5_pull_82 lb_10 <| o_irem (pc := 84) dX5_pull_84 (by decide) <| o_iast (pc := 85) (nn := 6) dX5_pull_85 (hF.1 _ _ rfl) (ck_in rfl) <| ?_
          refine o_lm fun m16 => ?_
          refine o_aload_n (pc := 86) 1 dX5_pull_86 rfl rfl <| o_getRc (pc := 87) (a := 18) (ci := 5) (j := 16) (nn := 0) dX5_pull_87 (hF.1 _ _ rfl) rfl (Nat.le_of_ble_eq_true rfl) k_156 rfl (hF.2 _ _ _ rfl) <| o_iconst (pc := 90) dX5_pull_90 lc_3 <| o_iload_n (pc := 91) 4 dX5_pull_91 rfl rfl <| o_iast (pc := 92) (nn := 6) dX5_pull_92 (hF.1 _ _ rfl) (ck_in rfl) <| ?_
          refine o_lm fun m17 => ?_
          refine o_aload_n (pc := 93) 1 dX5_pull_93 rfl rfl <| o_getRc (pc := 94) (a := 18) (ci := 5) (j := 16) (nn := 0) dX5_pull_94 (hF.1 _ _ rfl) rfl (Nat.le_of_ble_eq_true rfl) k_156 rfl (hF.2 _ _ _ rfl) <| o_iconst (pc := 97) dX5_pull_97 lc_4 <| o_iload (pc := 98) 5 dX5_pull_98 rfl <| o_iast (pc := 100) (nn := 6) dX5_pull_100 (hF.1 _ _ rfl) (ck_in rfl) <| ?_
          refine o_lm fun m18 => ?_
          refine o_aload_n (pc := 101) 1 dX5_pull_101 rfl rfl <| o_getRc (pc := 102) (a := 18) (ci := 5) (j := 16) (nn := 0) dX5_pull_102 (hF.1 _ _ rfl) rfl (Nat.le_of_ble_eq_true rfl) k_156 rfl (hF.2 _ _ _ rfl) <| o_iconst (pc := 105) dX5_pull_105 lc_5 <| o_iload_n (pc := 106) 3 dX5_pull_106 rfl rfl <| o_iast (pc := 107) (nn := 6) dX5_pull_107 (hF.1 _ _ rfl) (ck_in rfl) <| ?_
          refine o_lm fun m19 => ?_
          refine o_aload_n (pc := 108) 1 dX5_pull_108 rfl rfl <| ?_
          refine S_mq fun q21 h20 => ?_
          refine o_getRc (pc := 109) (a := q21) (ci := 5) (j := 15) (nn := 0) dX5_pull_109 (hF.1 _ _ rfl) rfl (Nat.le_of_ble_eq_true rfl) k_154 rfl h20 <| o_aload_n (pc := 112) 1 dX5_pull_112 rfl rfl <| o_getRc (pc := 113) (a := 18) (ci := 5) (j := 16) (nn := 0) dX5_pull_113 (hF.1 _ _ rfl) rfl (Nat.le_of_ble_eq_true rfl) k_156 rfl (hF.2 _ _ _ rfl) <| ?_
          refine S_ck fun h23 => ?_
          refine o_callVI (Y2 := YX1_plain) (pc := 116) (av := [.ref 18]) (rest := []) dX5_pull_116 k_365 cm_X1_plain (sH_plain_18 hF m19 q21) h23 rfl rfl (Nat.le_of_ble_eq_true rfl) (Nat.le_of_ble_eq_true rfl) fun r22 => ?_
          refine o_istore (pc := 119) (ls' := [(6, .int r22.1), (5, .int x2), (0, .ref 1), (1, .int a), (2, .int b), (3, .int c), (4, .int d)]) dX5_pull_119 (Nat.le_of_ble_eq_true rfl) rfl <| o_iload (pc := 121) 1 dX5_pull_121 rfl <| ?_
          refine S_ite (fun h24 => ?_) (fun h24 => ?_)
          · refine o_ts_in (pc := 123) (tgt := 156) 1 h24 dX5_pull_123 (by decide) (by decide) rfl rfl ?_
            refine o_iconst (pc := 156) dX5_pull_156 lc_0 <| o_iload (pc := 157) 0 dX5_pull_157 rfl <| o_aload_n (pc := 159) 2 dX5_pull_159 rfl rfl <| o_getRc (pc := 160) (a := 3) (ci := 5) (j := 2) (nn := 0) dX5_pull_160 (hF.1 _ _ rfl) rfl (Nat.le_of_ble_eq_true rfl) k_128 rfl (hF.2 _ _ _ rfl) <| o_iload_n (pc := 163) 3 dX5_pull_163 rfl rfl <| ?_
            refine S_ck fun h25 => ?_
            refine o_iald (pc := 164) (nn := 6) dX5_pull_164 (hF.1 _ _ rfl) (ck_in h25) <| o_isub (pc := 165) dX5_pull_165 <| o_max (pc := 166) dX5_pull_166 k_346 k_347 k_81 k_348 (Nat.le_of_ble_eq_true rfl) (Nat.le_of_ble_eq_true rfl) <| ?_
            exact o_iret (pc := 169) dX5_pull_169 rfl rfl
          refine S_ite (fun h26 => ?_) (fun h26 => ?_)
          · refine o_ts_in (pc := 123) (tgt := 170) 2 h26 dX5_pull_123 (by decide) (by decide) rfl rfl ?_
            refine o_iload (pc := 170) 0 dX5_pull_170 rfl <| o_aload_n (pc := 172) 2 dX5_pull_172 rfl rfl <| o_getRc (pc := 173) (a := 3) (ci := 5) (j := 2) (nn := 0) dX5_pull_173 (hF.1 _ _ rfl) rfl (Nat.le_of_ble_eq_true rfl) k_128 rfl (hF.2 _ _ _ rfl) <| o_iload_n (pc := 176) 3 dX5_pull_176 rfl rfl <| ?_
            refine S_ck fun h27 => ?_
            refine o_iald (pc := 177) (nn := 6) dX5_pull_177 (hF.1 _ _ rfl) (ck_in h27) <| o_iadd (pc := 178) dX5_pull_178 <| ?_
            exact o_iret (pc := 179) dX5_pull_179 rfl rfl
          refine S_ite (fun h28 => ?_) (fun h28 => ?_)
          · refine o_ts_in (pc := 123) (tgt := 192) 3 h28 dX5_pull_123 (by decide) (by decide) rfl rfl ?_
            refine o_iload (pc := 192) 0 dX5_pull_192 rfl <| ?_
            exact o_iret (pc := 194) dX5_pull_194 rfl rfl
          refine S_ite (fun h29 => ?_) (fun h29 => ?_)
          · refine o_ts_in (pc := 123) (tgt := 156) 4 h29 dX5_pull_123 (by decide) (by decide) rfl rfl ?_
            refine o_iconst (pc := 156) dX5_pull_156 lc_0 <| o_iload (pc := 157) 0 dX5_pull_157 rfl <| o_aload_n (pc := 159) 2 dX5_pull_159 rfl rfl <| o_getRc (pc := 160) (a := 3) (ci := 5) (j := 2) (nn := 0) dX5_pull_160 (hF.1 _ _ rfl) rfl (Nat.le_of_ble_eq_true rfl) k_128 rfl (hF.2 _ _ _ rfl) <| o_iload_n (pc := 163) 3 dX5_pull_163 rfl rfl <| ?_
            refine S_ck fun h30 => ?_
            refine o_iald (pc := 164) (nn := 6) dX5_pull_164 (hF.1 _ _ rfl) (ck_in h30) <| o_isub (pc := 165) dX5_pull_165 <| o_max (pc := 166) dX5_pull_166 k_346 k_347 k_81 k_348 (Nat.le_of_ble_eq_true rfl) (Nat.le_of_ble_eq_true rfl) <| ?_
            exact o_iret (pc := 169) dX5_pull_169 rfl rfl
          refine S_ite (fun h31 => ?_) (fun h31 => ?_)
          · refine o_ts_in (pc := 123) (tgt := 180) 5 h31 dX5_pull_123 (by decide) (by decide) rfl rfl ?_
            refine o_iconst (pc := 180) dX5_pull_180 lc_2 <| o_iload (pc := 181) 0 dX5_pull_181 rfl <| o_aload_n (pc := 183) 2 dX5_pull_183 rfl rfl <| o_getRc (pc := 184) (a := 3) (ci := 5) (j := 2) (nn := 0) dX5_pull_184 (hF.1 _ _ rfl) rfl (Nat.le_of_ble_eq_true rfl) k_128 rfl (hF.2 _ _ _ rfl) <| o_iload_n (pc := 187) 3 dX5_pull_187 rfl rfl <| ?_
            refine S_ck fun h32 => ?_
            refine o_iald (pc := 188) (nn := 6) dX5_pull_188 (hF.1 _ _ rfl) (ck_in h32) <| o_iadd (pc := 189) dX5_pull_189 <| o_imul (pc := 190) dX5_pull_190 <| ?_
            exact o_iret (pc := 191) dX5_pull_191 rfl rfl
          refine o_ts_out (pc := 123) (tgt := 192) (ts_out (lo := 1) (hi := 5) [1, 2, 3, 4, 5] (by decide) (by decide) (fun c hc => by
              simp only [List.mem_cons, List.not_mem_nil, or_false] at hc
              rcases hc with rfl | rfl | rfl | rfl | rfl
              · exact h24
              · exact h26
              · exact h28
              · exact h29
              · exact h31)) dX5_pull_123 rfl ?_
          refine o_iload (pc := 192) 0 dX5_pull_192 rfl <| ?_
          exact o_iret (pc := 194) dX5_pull_194 rfl rfl
        · refine o_iconst (pc := 54) dX5_pull_54 lc_0 <| ?_
          exact o_iret (pc := 55) dX5_pull_55 rfl rfl
      · refine o_aload_n (pc := 56) 1 dX5_pull_56 rfl rfl <| o_getRc (pc := 57) (a := 18) (ci := 5) (j := 16) (nn := 0) dX5_pull_57 (hF.1 _ _ rfl) rfl (Nat.le_of_ble_eq_true rfl) k_156 rfl (hF.2 _ _ _ rfl) <| o_iconst (pc := 60) dX5_pull_60 lc_0 <| o_iload_n (pc := 61) 2 dX5_pull_61 rfl rfl <| o_iast (pc := 62) (nn := 6) dX5_pull_62 (hF.1 _ _ rfl) (ck_in rfl) <| ?_
        refine o_lm fun m33 => ?_
        refine o_aload_n (pc := 63) 1 dX5_pull_63 rfl rfl <| o_getRc (pc := 64) (a := 18) (ci := 5) (j := 16) (nn := 0) dX5_pull_64 (hF.1 _ _ rfl) rfl (Nat.le_of_ble_eq_true rfl) k_156 rfl (hF.2 _ _ _ rfl) <| o_iconst (pc := 67) dX5_pull_67 lc_1 <| o_iload (pc := 68) 0 dX5_pull_68 rfl <| o_iast (pc := 70) (nn := 6) dX5_pull_70 (hF.1 _ _ rfl) (ck_in rfl) <| ?_
        refine o_lm fun m34 => ?_
        refine o_aload_n (pc := 71) 1 dX5_pull_71 rfl rfl <| o_getRc (pc := 72) (a := 18) (ci := 5) (j := 16) (nn := 0) dX5_pull_72 (hF.1 _ _ rfl) rfl (Nat.le_of_ble_eq_true rfl) k_156 rfl (hF.2 _ _ _ rfl) <| o_iconst (pc := 75) dX5_pull_75 lc_2 <| o_aload_n (pc := 76) 1 dX5_pull_76 rfl rfl <| o_getRc (pc := 77) (a := 4) (ci := 5) (j := 3) (nn := 0) dX5_pull_77 (hF.1 _ _ rfl) rfl (Nat.le_of_ble_eq_true rfl) k_130 rfl (hF.2 _ _ _ rfl) <| o_iload_n (pc := 80) 2 dX5_pull_80 rfl rfl <| ?_
        refine S_ck fun h35 => ?_
        refine o_iald (pc := 81) (nn := 6) dX5_pull_81 (hF.1 _ _ rfl) (ck_in h35) <| o_bipush (pc := 82) dX5_pull_82 lb_10 <| o_irem (pc := 84) dX5_pull_84 (by decide) <| o_iast (pc := 85) (nn := 6) dX5_pull_85 (hF.1 _ _ rfl) (ck_in rfl) <| ?_
        refine o_lm fun m36 => ?_
        refine o_aload_n (pc := 86) 1 dX5_pull_86 rfl rfl <| o_getRc (pc := 87) (a := 18) (ci := 5) (j := 16) (nn := 0) dX5_pull_87 (hF.1 _ _ rfl) rfl (Nat.le_of_ble_eq_true rfl) k_156 rfl (hF.2 _ _ _ rfl) <| o_iconst (pc := 90) dX5_pull_90 lc_3 <| o_iload_n (pc := 91) 4 dX5_pull_91 rfl rfl <| o_iast (pc := 92) (nn := 6) dX5_pull_92 (hF.1 _ _ rfl) (ck_in rfl) <| ?_
        refine o_lm fun m37 => ?_
        refine o_aload_n (pc := 93) 1 dX5_pull_93 rfl rfl <| o_getRc (pc := 94) (a := 18) (ci := 5) (j := 16) (nn := 0) dX5_pull_94 (hF.1 _ _ rfl) rfl (Nat.le_of_ble_eq_true rfl) k_156 rfl (hF.2 _ _ _ rfl) <| o_iconst (pc := 97) dX5_pull_97 lc_4 <| o_iload (pc := 98) 5 dX5_pull_98 rfl <| o_iast (pc := 100) (nn := 6) dX5_pull_100 (hF.1 _ _ rfl) (ck_in rfl) <| ?_
        refine o_lm fun m38 => ?_
        refine o_aload_n (pc := 101) 1 dX5_pull_101 rfl rfl <| o_getRc (pc := 102) (a := 18) (ci := 5) (j := 16) (nn := 0) dX5_pull_102 (hF.1 _ _ rfl) rfl (Nat.le_of_ble_eq_true rfl) k_156 rfl (hF.2 _ _ _ rfl) <| o_iconst (pc := 105) dX5_pull_105 lc_5 <| o_iload_n (pc := 106) 3 dX5_pull_106 rfl rfl <| o_iast (pc := 107) (nn := 6) dX5_pull_107 (hF.1 _ _ rfl) (ck_in rfl) <| ?_
        refine o_lm fun m39 => ?_
        refine o_aload_n (pc := 108) 1 dX5_pull_108 rfl rfl <| ?_
        refine S_mq fun q41 h40 => ?_
        refine o_getRc (pc := 109) (a := q41) (ci := 5) (j := 15) (nn := 0) dX5_pull_109 (hF.1 _ _ rfl) rfl (Nat.le_of_ble_eq_true rfl) k_154 rfl h40 <| o_aload_n (pc := 112) 1 dX5_pull_112 rfl rfl <| o_getRc (pc := 113) (a := 18) (ci := 5) (j := 16) (nn := 0) dX5_pull_113 (hF.1 _ _ rfl) rfl (Nat.le_of_ble_eq_true rfl) k_156 rfl (hF.2 _ _ _ rfl) <| ?_
        refine S_ck fun h43 => ?_
        refine o_callVI (Y2 := YX1_plain) (pc := 116) (av := [.ref 18]) (rest := []) dX5_pull_116 k_365 cm_X1_plain (sH_plain_18 hF m39 q41) h43 rfl rfl (Nat.le_of_ble_eq_true rfl) (Nat.le_of_ble_eq_true rfl) fun r42 => ?_
        refine o_istore (pc := 119) (ls' := [(6, .int r42.1), (5, .int x2), (0, .ref 1), (1, .int a), (2, .int b), (3, .int c), (4, .int d)]) dX5_pull_119 (Nat.le_of_ble_eq_true rfl) rfl <| o_iload (pc := 121) 1 dX5_pull_121 rfl <| ?_
        refine S_ite (fun h44 => ?_) (fun h44 => ?_)
        · refine o_ts_in (pc := 123) (tgt := 156) 1 h44 dX5_pull_123 (by decide) (by decide) rfl rfl ?_
          refine o_iconst (pc := 156) dX5_pull_156 lc_0 <| o_iload (pc := 157) 0 dX5_pull_157 rfl <| o_aload_n (pc := 159) 2 dX5_pull_159 rfl rfl <| o_getRc (pc := 160) (a := 3) (ci := 5) (j := 2) (nn := 0) dX5_pull_160 (hF.1 _ _ rfl) rfl (Nat.le_of_ble_eq_true rfl) k_128 rfl (hF.2 _ _ _ rfl) <| o_iload_n (pc := 163) 3 dX5_pull_163 rfl rfl <| ?_
          refine S_ck fun h45 => ?_
          refine o_iald (pc := 164) (nn := 6) dX5_pull_164 (hF.1 _ _ rfl) (ck_in h45) <| o_isub (pc := 165) dX5_pull_165 <| o_max (pc := 166) dX5_pull_166 k_346 k_347 k_81 k_348 (Nat.le_of_ble_eq_true rfl) (Nat.le_of_ble_eq_true rfl) <| ?_
          exact o_iret (pc := 169) dX5_pull_169 rfl rfl
        refine S_ite (fun h46 => ?_) (fun h46 => ?_)
        · refine o_ts_in (pc := 123) (tgt := 170) 2 h46 dX5_pull_123 (by decide) (by decide) rfl rfl ?_
          refine o_iload (pc := 170) 0 dX5_pull_170 rfl <| o_aload_n (pc := 172) 2 dX5_pull_172 rfl rfl <| o_getRc (pc := 173) (a := 3) (ci := 5) (j := 2) (nn := 0) dX5_pull_173 (hF.1 _ _ rfl) rfl (Nat.le_of_ble_eq_true rfl) k_128 rfl (hF.2 _ _ _ rfl) <| o_iload_n (pc := 176) 3 dX5_pull_176 rfl rfl <| ?_
          refine S_ck fun h47 => ?_
          refine o_iald (pc := 177) (nn := 6) dX5_pull_177 (hF.1 _ _ rfl) (ck_in h47) <| o_iadd (pc := 178) dX5_pull_178 <| ?_
          exact o_iret (pc := 179) dX5_pull_179 rfl rfl
        refine S_ite (fun h48 => ?_) (fun h48 => ?_)
        · refine o_ts_in (pc := 123) (tgt := 192) 3 h48 dX5_pull_123 (by decide) (by decide) rfl rfl ?_
          refine o_iload (pc := 192) 0 dX5_pull_192 rfl <| ?_
          exact o_iret (pc := 194) dX5_pull_194 rfl rfl
        refine S_ite (fun h49 => ?_) (fun h49 => ?_)
        · refine o_ts_in (pc := 123) (tgt := 156) 4 h49 dX5_pull_123 (by decide) (by decide) rfl rfl ?_
          refine o_iconst (pc := 156) dX5_pull_156 lc_0 <| o_iload (pc := 157) 0 dX5_pull_157 rfl <| o_aload_n (pc := 159) 2 dX5_pull_159 rfl rfl <| o_getRc (pc := 160) (a := 3) (ci := 5) (j := 2) (nn := 0) dX5_pull_160 (hF.1 _ _ rfl) rfl (Nat.le_of_ble_eq_true rfl) k_128 rfl (hF.2 _ _ _ rfl) <| o_iload_n (pc := 163) 3 dX5_pull_163 rfl rfl <| ?_
          refine S_ck fun h50 => ?_
          refine o_iald (pc := 164) (nn := 6) dX5_pull_164 (hF.1 _ _ rfl) (ck_in h50) <| o_isub (pc := 165) dX5_pull_165 <| o_max (pc := 166) dX5_pull_166 k_346 k_347 k_81 k_348 (Nat.le_of_ble_eq_true rfl) (Nat.le_of_ble_eq_true rfl) <| ?_
          exact o_iret (pc := 169) dX5_pull_169 rfl rfl
        refine S_ite (fun h51 => ?_) (fun h51 => ?_)
        · refine o_ts_in (pc := 123) (tgt := 180) 5 h51 dX5_pull_123 (by decide) (by decide) rfl rfl ?_
          refine o_iconst (pc := 180) dX5_pull_180 lc_2 <| o_iload (pc := 181) 0 dX5_pull_181 rfl <| o_aload_n (pc := 183) 2 dX5_pull_183 rfl rfl <| o_getRc (pc := 184) (a := 3) (ci := 5) (j := 2) (nn := 0) dX5_pull_184 (hF.1 _ _ rfl) rfl (Nat.le_of_ble_eq_true rfl) k_128 rfl (hF.2 _ _ _ rfl) <| o_iload_n (pc := 187) 3 dX5_pull_187 rfl rfl <| ?_
          refine S_ck fun h52 => ?_
          refine o_iald (pc := 188) (nn := 6) dX5_pull_188 (hF.1 _ _ rfl) (ck_in h52) <| o_iadd (pc := 189) dX5_pull_189 <| o_imul (pc := 190) dX5_pull_190 <| ?_
          exact o_iret (pc := 191) dX5_pull_191 rfl rfl
        refine o_ts_out (pc := 123) (tgt := 192) (ts_out (lo := 1) (hi := 5) [1, 2, 3, 4, 5] (by decide) (by decide) (fun c hc => by
            simp only [List.mem_cons, List.not_mem_nil, or_false] at hc
            rcases hc with rfl | rfl | rfl | rfl | rfl
            · exact h44
            · exact h46
            · exact h48
            · exact h49
            · exact h51)) dX5_pull_123 rfl ?_
        refine o_iload (pc := 192) 0 dX5_pull_192 rfl <| ?_
        exact o_iret (pc := 194) dX5_pull_194 rfl rfl
def fW_chance (sh : Sh) (R : RR) (m : MI) (a : Int32) (b : Int32) (c : Int32) (d : Int32) : Option (Int32 × MI) :=
  if 0 < c then
    if 0 < d then
      (fW_pull sh R m a b c d).bind fun r3 =>
      ltl ((c.toInt64) * (r3.1.toInt64)) fun y4 =>
      if ¬ (y4 + ((d * 10).toInt64) = 0) then
        some ((((1000000 : Int64) * y4) / (y4 + ((d * 10).toInt64))).toInt32, r3.2)
      else none
    else
      some (1000000, m)
  else
    some (0, m)
theorem sW_chance {sh : Sh} {R : RR} (hF : Fx sh R) (m : MI) (a : Int32) (b : Int32) (c : Int32) (d : Int32) : KS (eI sh R) false 3 0 0 YX5_chance sh R m [.ref 1, .int a, .int b, .int c, .int d] (fW_chance sh R m a b c d) := by
  refine KS_of pn_X5 (fun _ => Nat.le_of_ble_eq_true rfl) ?_
  change S _ _ _ _ _ _ _ _ _ _ [(0, .ref 1), (1, .int a), (2, .int b), (3, .int c), (4, .int d)] [] _
  unfold fW_chance
  refine o_iload_n (pc := 0) 3 dX5_chance_0 rfl rfl <| ?_
  refine o_if_gt (pc := 1) (tgt := 6) dX5_chance_1 rfl (fun h1 => ?_) (fun h1 => ?_)
  · refine o_iload (pc := 6) 4 dX5_chance_6 rfl <| ?_
    refine o_if_gt (pc := 8) (tgt := 14) dX5_chance_8 rfl (fun h2 => ?_) (fun h2 => ?_)
    · refine o_iload_n (pc := 14) 3 dX5_chance_14 rfl rfl <| o_i2l (pc := 15) dX5_chance_15 <| o_aload_n (pc := 16) 0 dX5_chance_16 rfl rfl <| o_iload_n (pc := 17) 1 dX5_chance_17 rfl rfl <| o_iload_n (pc := 18) 2 dX5_chance_18 rfl rfl <| o_iload_n (pc := 19) 3 dX5_chance_19 rfl rfl <| o_iload (pc := 20) 4 dX5_chance_20 rfl <| ?_
      refine o_callVI (Y2 := YX5_pull) (pc := 22) (av := [.int a, .int b, .int c, .int d]) (rest := [.long (c.toInt64)]) dX5_chance_22 k_375 cm_X5_pull (sW_pull hF m a b c d) (hF.1 _ _ rfl) rfl rfl (Nat.le_of_ble_eq_true rfl) (Nat.le_of_ble_eq_true rfl) fun r3 => ?_
      refine o_i2l (pc := 25) dX5_chance_25 <| o_lmul (pc := 26) dX5_chance_26 <| ?_
      refine o_ltl fun y4 => ?_
      refine o_lstore (pc := 27) (ls' := [(5, .long y4), (0, .ref 1), (1, .int a), (2, .int b), (3, .int c), (4, .int d)]) dX5_chance_27 (Nat.le_of_ble_eq_true rfl) rfl <| o_ldc2 (pc := 29) dX5_chance_29 k_376 <| o_lload (pc := 32) 0 dX5_chance_32 rfl <| o_lmul (pc := 34) dX5_chance_34 <| o_lload (pc := 35) 0 dX5_chance_35 rfl <| o_iload (pc := 37) 5 dX5_chance_37 rfl <| o_bipush (pc := 39) dX5_chance_39 lb_10 <| o_imul (pc := 41) dX5_chance_41 <| o_i2l (pc := 42) dX5_chance_42 <| o_ladd (pc := 43) dX5_chance_43 <| ?_
      refine S_ck fun h5 => ?_
      refine o_ldiv (pc := 44) dX5_chance_44 h5 <| o_l2i (pc := 45) dX5_chance_45 <| ?_
      exact o_iret (pc := 46) dX5_chance_46 rfl rfl
    · refine o_ldc (pc := 11) dX5_chance_11 k_374 <| ?_
      exact o_iret (pc := 13) dX5_chance_13 rfl rfl
  · refine o_iconst (pc := 4) dX5_chance_4 lc_0 <| ?_
    exact o_iret (pc := 5) dX5_chance_5 rfl rfl
def fC_of (sh : Sh) (R : RR) (m : MI) (a : Int32) (b : Int32) : Option (Int32 × MI) :=
  (fW_has m a).bind fun r1 =>
  if r1.1 = 0 then
    some (-1, r1.2)
  else
    (fW_placeOf r1.2 a).bind fun r3 =>
    if b = 0 then
      if ck a 6 = true then
        some (r3.2.1 2 a.toNatClampNeg, r3.2)
      else none
    else
      if b = 1 then
        if ck a 6 = true then
          some (r3.2.1 3 a.toNatClampNeg, r3.2)
        else none
      else
        if b = 2 then
          if ck a 6 = true then
            some (r3.2.1 4 a.toNatClampNeg, r3.2)
          else none
        else
          if b = 3 then
            some (r3.1, r3.2)
          else
            if b = 4 then
              (fW_pull sh R r3.2 a r3.1 (r3.2.1 1 6) (r3.2.1 1 7)).bind fun r12 =>
              some (r12.1, r12.2)
            else
              if b = 5 then
                (fW_chance sh R r3.2 a r3.1 (r3.2.1 1 6) (r3.2.1 1 7)).bind fun r14 =>
                some (r14.1, r14.2)
              else
                some (-1, r3.2)
theorem sC_of {sh : Sh} {R : RR} (hF : Fx sh R) (m : MI) (a : Int32) (b : Int32) : KS (eI sh R) false 4 0 0 YX6_of sh R m [.ref 0, .int a, .int b] (fC_of sh R m a b) := by
  refine KS_of pn_X6 (fun _ => Nat.le_of_ble_eq_true rfl) ?_
  change S _ _ _ _ _ _ _ _ _ _ [(0, .ref 0), (1, .int a), (2, .int b)] [] _
  unfold fC_of
  refine o_aload_n (pc := 0) 0 dX6_of_0 rfl rfl <| o_getRc (pc := 1) (a := 1) (ci := 6) (j := 0) (nn := 0) dX6_of_1 (hF.1 _ _ rfl) rfl (Nat.le_of_ble_eq_true rfl) k_292 rfl (hF.2 _ _ _ rfl) <| o_iload_n (pc := 4) 1 dX6_of_4 rfl rfl <| ?_
  refine o_callVI (Y2 := YX5_has) (pc := 5) (av := [.int a]) (rest := []) dX6_of_5 k_353 cm_X5_has (sW_has hF m a) (hF.1 _ _ rfl) rfl rfl (Nat.le_of_ble_eq_true rfl) (Nat.le_of_ble_eq_true rfl) fun r1 => ?_
  refine o_if_ne (pc := 8) (tgt := 13) dX6_of_8 rfl (fun h2 => ?_) (fun h2 => ?_)
  · refine o_iconst (pc := 11) dX6_of_11 lc_m1 <| ?_
    exact o_iret (pc := 12) dX6_of_12 rfl rfl
  · refine o_aload_n (pc := 13) 0 dX6_of_13 rfl rfl <| o_getRc (pc := 14) (a := 1) (ci := 6) (j := 0) (nn := 0) dX6_of_14 (hF.1 _ _ rfl) rfl (Nat.le_of_ble_eq_true rfl) k_292 rfl (hF.2 _ _ _ rfl) <| o_iload_n (pc := 17) 1 dX6_of_17 rfl rfl <| ?_
    refine o_callVI (Y2 := YX5_placeOf) (pc := 18) (av := [.int a]) (rest := []) dX6_of_18 k_357 cm_X5_placeOf (sW_placeOf hF r1.2 a) (hF.1 _ _ rfl) rfl rfl (Nat.le_of_ble_eq_true rfl) (Nat.le_of_ble_eq_true rfl) fun r3 => ?_
    refine o_istore_n (pc := 21) (ls' := [(3, .int r3.1), (0, .ref 0), (1, .int a), (2, .int b)]) dX6_of_21 rfl (Nat.le_of_ble_eq_true rfl) rfl <| o_iload_n (pc := 22) 3 dX6_of_22 rfl rfl <| ?_
    refine S_ite (fun h4 => ?_) (fun h4 => ?_)
    · refine o_ts_in (pc := 23) (tgt := 60) 0 h4 dX6_of_23 (by decide) (by decide) rfl rfl ?_
      refine o_aload_n (pc := 60) 1 dX6_of_60 rfl rfl <| o_getRc (pc := 61) (a := 1) (ci := 6) (j := 0) (nn := 0) dX6_of_61 (hF.1 _ _ rfl) rfl (Nat.le_of_ble_eq_true rfl) k_292 rfl (hF.2 _ _ _ rfl) <| o_getRc (pc := 64) (a := 2) (ci := 5) (j := 1) (nn := 0) dX6_of_64 (hF.1 _ _ rfl) rfl (Nat.le_of_ble_eq_true rfl) k_127 rfl (hF.2 _ _ _ rfl) <| o_iload_n (pc := 67) 2 dX6_of_67 rfl rfl <| ?_
      refine S_ck fun h5 => ?_
      refine o_iald (pc := 68) (nn := 6) dX6_of_68 (hF.1 _ _ rfl) (ck_in h5) <| ?_
      exact o_iret (pc := 69) dX6_of_69 rfl rfl
    refine S_ite (fun h6 => ?_) (fun h6 => ?_)
    · refine o_ts_in (pc := 23) (tgt := 70) 1 h6 dX6_of_23 (by decide) (by decide) rfl rfl ?_
      refine o_aload_n (pc := 70) 1 dX6_of_70 rfl rfl <| o_getRc (pc := 71) (a := 1) (ci := 6) (j := 0) (nn := 0) dX6_of_71 (hF.1 _ _ rfl) rfl (Nat.le_of_ble_eq_true rfl) k_292 rfl (hF.2 _ _ _ rfl) <| o_getRc (pc := 74) (a := 3) (ci := 5) (j := 2) (nn := 0) dX6_of_74 (hF.1 _ _ rfl) rfl (Nat.le_of_ble_eq_true rfl) k_129 rfl (hF.2 _ _ _ rfl) <| o_iload_n (pc := 77) 2 dX6_of_77 rfl rfl <| ?_
      refine S_ck fun h7 => ?_
      refine o_iald (pc := 78) (nn := 6) dX6_of_78 (hF.1 _ _ rfl) (ck_in h7) <| ?_
      exact o_iret (pc := 79) dX6_of_79 rfl rfl
    refine S_ite (fun h8 => ?_) (fun h8 => ?_)
    · refine o_ts_in (pc := 23) (tgt := 80) 2 h8 dX6_of_23 (by decide) (by decide) rfl rfl ?_
      refine o_aload_n (pc := 80) 1 dX6_of_80 rfl rfl <| o_getRc (pc := 81) (a := 1) (ci := 6) (j := 0) (nn := 0) dX6_of_81 (hF.1 _ _ rfl) rfl (Nat.le_of_ble_eq_true rfl) k_292 rfl (hF.2 _ _ _ rfl) <| o_getRc (pc := 84) (a := 4) (ci := 5) (j := 3) (nn := 0) dX6_of_84 (hF.1 _ _ rfl) rfl (Nat.le_of_ble_eq_true rfl) k_131 rfl (hF.2 _ _ _ rfl) <| o_iload_n (pc := 87) 2 dX6_of_87 rfl rfl <| ?_
      refine S_ck fun h9 => ?_
      refine o_iald (pc := 88) (nn := 6) dX6_of_88 (hF.1 _ _ rfl) (ck_in h9) <| ?_
      exact o_iret (pc := 89) dX6_of_89 rfl rfl
    refine S_ite (fun h10 => ?_) (fun h10 => ?_)
    · refine o_ts_in (pc := 23) (tgt := 90) 3 h10 dX6_of_23 (by decide) (by decide) rfl rfl ?_
      refine o_iload_n (pc := 90) 0 dX6_of_90 rfl rfl <| ?_
      exact o_iret (pc := 91) dX6_of_91 rfl rfl
    refine S_ite (fun h11 => ?_) (fun h11 => ?_)
    · refine o_ts_in (pc := 23) (tgt := 92) 4 h11 dX6_of_23 (by decide) (by decide) rfl rfl ?_
      refine o_aload_n (pc := 92) 1 dX6_of_92 rfl rfl <| o_getRc (pc := 93) (a := 1) (ci := 6) (j := 0) (nn := 0) dX6_of_93 (hF.1 _ _ rfl) rfl (Nat.le_of_ble_eq_true rfl) k_292 rfl (hF.2 _ _ _ rfl) <| o_iload_n (pc := 96) 2 dX6_of_96 rfl rfl <| o_iload_n (pc := 97) 0 dX6_of_97 rfl rfl <| o_aload_n (pc := 98) 1 dX6_of_98 rfl rfl <| o_getRc (pc := 99) (a := 1) (ci := 6) (j := 0) (nn := 0) dX6_of_99 (hF.1 _ _ rfl) rfl (Nat.le_of_ble_eq_true rfl) k_292 rfl (hF.2 _ _ _ rfl) <| o_getI (pc := 102) (ci := 5) (j := 6) (nn := 0) dX6_of_102 (hF.1 _ _ rfl) rfl (Nat.le_of_ble_eq_true rfl) k_137 rfl <| o_aload_n (pc := 105) 1 dX6_of_105 rfl rfl <| o_getRc (pc := 106) (a := 1) (ci := 6) (j := 0) (nn := 0) dX6_of_106 (hF.1 _ _ rfl) rfl (Nat.le_of_ble_eq_true rfl) k_292 rfl (hF.2 _ _ _ rfl) <| o_getI (pc := 109) (ci := 5) (j := 7) (nn := 0) dX6_of_109 (hF.1 _ _ rfl) rfl (Nat.le_of_ble_eq_true rfl) k_139 rfl <| ?_
      refine o_callVI (Y2 := YX5_pull) (pc := 112) (av := [.int a, .int r3.1, .int (r3.2.1 1 6), .int (r3.2.1 1 7)]) (rest := []) dX6_of_112 k_361 cm_X5_pull (sW_pull hF r3.2 a r3.1 (r3.2.1 1 6) (r3.2.1 1 7)) (hF.1 _ _ rfl) rfl rfl (Nat.le_of_ble_eq_true rfl) (Nat.le_of_ble_eq_true rfl) fun r12 => ?_
      exact o_iret (pc := 115) dX6_of_115 rfl rfl
    refine S_ite (fun h13 => ?_) (fun h13 => ?_)
    · refine o_ts_in (pc := 23) (tgt := 116) 5 h13 dX6_of_23 (by decide) (by decide) rfl rfl ?_
      refine o_aload_n (pc := 116) 1 dX6_of_116 rfl rfl <| o_getRc (pc := 117) (a := 1) (ci := 6) (j := 0) (nn := 0) dX6_of_117 (hF.1 _ _ rfl) rfl (Nat.le_of_ble_eq_true rfl) k_292 rfl (hF.2 _ _ _ rfl) <| o_iload_n (pc := 120) 2 dX6_of_120 rfl rfl <| o_iload_n (pc := 121) 0 dX6_of_121 rfl rfl <| o_aload_n (pc := 122) 1 dX6_of_122 rfl rfl <| o_getRc (pc := 123) (a := 1) (ci := 6) (j := 0) (nn := 0) dX6_of_123 (hF.1 _ _ rfl) rfl (Nat.le_of_ble_eq_true rfl) k_292 rfl (hF.2 _ _ _ rfl) <| o_getI (pc := 126) (ci := 5) (j := 6) (nn := 0) dX6_of_126 (hF.1 _ _ rfl) rfl (Nat.le_of_ble_eq_true rfl) k_137 rfl <| o_aload_n (pc := 129) 1 dX6_of_129 rfl rfl <| o_getRc (pc := 130) (a := 1) (ci := 6) (j := 0) (nn := 0) dX6_of_130 (hF.1 _ _ rfl) rfl (Nat.le_of_ble_eq_true rfl) k_292 rfl (hF.2 _ _ _ rfl) <| o_getI (pc := 133) (ci := 5) (j := 7) (nn := 0) dX6_of_133 (hF.1 _ _ rfl) rfl (Nat.le_of_ble_eq_true rfl) k_139 rfl <| ?_
      refine o_callVI (Y2 := YX5_chance) (pc := 136) (av := [.int a, .int r3.1, .int (r3.2.1 1 6), .int (r3.2.1 1 7)]) (rest := []) dX6_of_136 k_370 cm_X5_chance (sW_chance hF r3.2 a r3.1 (r3.2.1 1 6) (r3.2.1 1 7)) (hF.1 _ _ rfl) rfl rfl (Nat.le_of_ble_eq_true rfl) (Nat.le_of_ble_eq_true rfl) fun r14 => ?_
      exact o_iret (pc := 139) dX6_of_139 rfl rfl
    refine o_ts_out (pc := 23) (tgt := 140) (ts_out (lo := 0) (hi := 5) [0, 1, 2, 3, 4, 5] (by decide) (by decide) (fun c hc => by
        simp only [List.mem_cons, List.not_mem_nil, or_false] at hc
        rcases hc with rfl | rfl | rfl | rfl | rfl | rfl
        · exact h4
        · exact h6
        · exact h8
        · exact h10
        · exact h11
        · exact h13)) dX6_of_23 rfl ?_
    refine o_iconst (pc := 140) dX6_of_140 lc_m1 <| ?_
    exact o_iret (pc := 141) dX6_of_141 rfl rfl
def fC_sent (m : MI) (a : Int32) (b : Int32) : Option (Int32 × MI) :=
  (fW_has m a).bind fun r1 =>
  if r1.1 = 0 then
    some (-1, r1.2)
  else
    if b < 0 then
      some (-2, r1.2)
    else
      if b ≤ 999 then
        if ck a 6 = true then
          lt (r1.2.1 4 a.toNatClampNeg) fun x6 =>
          if ck a 6 = true then
            lm (mI r1.2 4 (upd (r1.2.1 4) a.toNatClampNeg b)) fun m8 =>
            some (x6, m8)
          else none
        else none
      else
        some (-2, r1.2)
theorem sC_sent {sh : Sh} {R : RR} (hF : Fx sh R) (m : MI) (a : Int32) (b : Int32) : KS (eI sh R) false 1 0 0 YX6_sent sh R m [.ref 0, .int a, .int b] (fC_sent m a b) := by
  refine KS_of pn_X6 (fun _ => Nat.le_of_ble_eq_true rfl) ?_
  change S _ _ _ _ _ _ _ _ _ _ [(0, .ref 0), (1, .int a), (2, .int b)] [] _
  unfold fC_sent
  refine o_aload_n (pc := 0) 0 dX6_sent_0 rfl rfl <| o_getRc (pc := 1) (a := 1) (ci := 6) (j := 0) (nn := 0) dX6_sent_1 (hF.1 _ _ rfl) rfl (Nat.le_of_ble_eq_true rfl) k_292 rfl (hF.2 _ _ _ rfl) <| o_iload_n (pc := 4) 1 dX6_sent_4 rfl rfl <| ?_
  refine o_callVI (Y2 := YX5_has) (pc := 5) (av := [.int a]) (rest := []) dX6_sent_5 k_353 cm_X5_has (sW_has hF m a) (hF.1 _ _ rfl) rfl rfl (Nat.le_of_ble_eq_true rfl) (Nat.le_of_ble_eq_true rfl) fun r1 => ?_
  refine o_if_ne (pc := 8) (tgt := 13) dX6_sent_8 rfl (fun h2 => ?_) (fun h2 => ?_)
  · refine o_iconst (pc := 11) dX6_sent_11 lc_m1 <| ?_
    exact o_iret (pc := 12) dX6_sent_12 rfl rfl
  · refine o_iload_n (pc := 13) 2 dX6_sent_13 rfl rfl <| ?_
    refine o_if_lt (pc := 14) (tgt := 24) dX6_sent_14 rfl (fun h3 => ?_) (fun h3 => ?_)
    · refine o_bipush (pc := 24) dX6_sent_24 lb_m2 <| ?_
      exact o_iret (pc := 26) dX6_sent_26 rfl rfl
    · refine o_iload_n (pc := 17) 2 dX6_sent_17 rfl rfl <| o_sipush (pc := 18) dX6_sent_18 ls_999 <| ?_
      refine o_icmp_le (pc := 21) (tgt := 27) dX6_sent_21 rfl (fun h4 => ?_) (fun h4 => ?_)
      · refine o_aload_n (pc := 27) 0 dX6_sent_27 rfl rfl <| o_getRc (pc := 28) (a := 1) (ci := 6) (j := 0) (nn := 0) dX6_sent_28 (hF.1 _ _ rfl) rfl (Nat.le_of_ble_eq_true rfl) k_292 rfl (hF.2 _ _ _ rfl) <| o_getRc (pc := 31) (a := 4) (ci := 5) (j := 3) (nn := 0) dX6_sent_31 (hF.1 _ _ rfl) rfl (Nat.le_of_ble_eq_true rfl) k_131 rfl (hF.2 _ _ _ rfl) <| o_iload_n (pc := 34) 1 dX6_sent_34 rfl rfl <| ?_
        refine S_ck fun h5 => ?_
        refine o_iald (pc := 35) (nn := 6) dX6_sent_35 (hF.1 _ _ rfl) (ck_in h5) <| ?_
        refine o_lt fun x6 => ?_
        refine o_istore_n (pc := 36) (ls' := [(3, .int x6), (0, .ref 0), (1, .int a), (2, .int b)]) dX6_sent_36 rfl (Nat.le_of_ble_eq_true rfl) rfl <| o_aload_n (pc := 37) 1 dX6_sent_37 rfl rfl <| o_getRc (pc := 38) (a := 1) (ci := 6) (j := 0) (nn := 0) dX6_sent_38 (hF.1 _ _ rfl) rfl (Nat.le_of_ble_eq_true rfl) k_292 rfl (hF.2 _ _ _ rfl) <| o_getRc (pc := 41) (a := 4) (ci := 5) (j := 3) (nn := 0) dX6_sent_41 (hF.1 _ _ rfl) rfl (Nat.le_of_ble_eq_true rfl) k_131 rfl (hF.2 _ _ _ rfl) <| o_iload_n (pc := 44) 2 dX6_sent_44 rfl rfl <| o_iload_n (pc := 45) 3 dX6_sent_45 rfl rfl <| ?_
        refine S_ck fun h7 => ?_
        refine o_iast (pc := 46) (nn := 6) dX6_sent_46 (hF.1 _ _ rfl) (ck_in h7) <| ?_
        refine o_lm fun m8 => ?_
        refine o_iload_n (pc := 47) 0 dX6_sent_47 rfl rfl <| ?_
        exact o_iret (pc := 48) dX6_sent_48 rfl rfl
      · refine o_bipush (pc := 24) dX6_sent_24 lb_m2 <| ?_
        exact o_iret (pc := 26) dX6_sent_26 rfl rfl
def fC_row (sh : Sh) (R : RR) (m : MI) (a : Int32) (b : Int32) (c : Int32) : Option (Int32 × MI) :=
  (fW_has m a).bind fun r1 =>
  if r1.1 = 0 then
    some (-1, r1.2)
  else
    if b < 0 then
      some (-1, r1.2)
    else
      if b < 4 then
        if c < 0 then
          some (-2, r1.2)
        else
          if c ≤ 9 then
            if ck a 6 = true then
              if r1.2.1 2 a.toNatClampNeg = 6 then
                if ck a 6 = true then
                  mq (R 11 a.toNatClampNeg) fun q11 =>
                  if kA sh q11 0 = true then
                    if ck b (lenA sh q11) = true then
                      lt (r1.2.1 q11 b.toNatClampNeg) fun x14 =>
                      if ck a 6 = true then
                        mq (R 11 a.toNatClampNeg) fun q17 =>
                        if kA sh q17 0 = true then
                          if ck b (lenA sh q17) = true then
                            lm (mI r1.2 q17 (upd (r1.2.1 q17) b.toNatClampNeg c)) fun m20 =>
                            some (x14, m20)
                          else none
                        else none
                      else none
                    else none
                  else none
                else none
              else
                some (-3, r1.2)
            else none
          else
            some (-2, r1.2)
      else
        some (-1, r1.2)
theorem sC_row {sh : Sh} {R : RR} (hF : Fx sh R) (m : MI) (a : Int32) (b : Int32) (c : Int32) : KS (eI sh R) false 1 0 0 YX6_row sh R m [.ref 0, .int a, .int b, .int c] (fC_row sh R m a b c) := by
  refine KS_of pn_X6 (fun _ => Nat.le_of_ble_eq_true rfl) ?_
  change S _ _ _ _ _ _ _ _ _ _ [(0, .ref 0), (1, .int a), (2, .int b), (3, .int c)] [] _
  unfold fC_row
  refine o_aload_n (pc := 0) 0 dX6_row_0 rfl rfl <| o_getRc (pc := 1) (a := 1) (ci := 6) (j := 0) (nn := 0) dX6_row_1 (hF.1 _ _ rfl) rfl (Nat.le_of_ble_eq_true rfl) k_292 rfl (hF.2 _ _ _ rfl) <| o_iload_n (pc := 4) 1 dX6_row_4 rfl rfl <| ?_
  refine o_callVI (Y2 := YX5_has) (pc := 5) (av := [.int a]) (rest := []) dX6_row_5 k_353 cm_X5_has (sW_has hF m a) (hF.1 _ _ rfl) rfl rfl (Nat.le_of_ble_eq_true rfl) (Nat.le_of_ble_eq_true rfl) fun r1 => ?_
  refine o_if_eq (pc := 8) (tgt := 20) dX6_row_8 rfl (fun h2 => ?_) (fun h2 => ?_)
  · refine o_iconst (pc := 20) dX6_row_20 lc_m1 <| ?_
    exact o_iret (pc := 21) dX6_row_21 rfl rfl
  · refine o_iload_n (pc := 11) 2 dX6_row_11 rfl rfl <| ?_
    refine o_if_lt (pc := 12) (tgt := 20) dX6_row_12 rfl (fun h3 => ?_) (fun h3 => ?_)
    · refine o_iconst (pc := 20) dX6_row_20 lc_m1 <| ?_
      exact o_iret (pc := 21) dX6_row_21 rfl rfl
    · refine o_iload_n (pc := 15) 2 dX6_row_15 rfl rfl <| o_iconst (pc := 16) dX6_row_16 lc_4 <| ?_
      refine o_icmp_lt (pc := 17) (tgt := 22) dX6_row_17 rfl (fun h4 => ?_) (fun h4 => ?_)
      · refine o_iload_n (pc := 22) 3 dX6_row_22 rfl rfl <| ?_
        refine o_if_lt (pc := 23) (tgt := 32) dX6_row_23 rfl (fun h5 => ?_) (fun h5 => ?_)
        · refine o_bipush (pc := 32) dX6_row_32 lb_m2 <| ?_
          exact o_iret (pc := 34) dX6_row_34 rfl rfl
        · refine o_iload_n (pc := 26) 3 dX6_row_26 rfl rfl <| o_bipush (pc := 27) dX6_row_27 lb_9 <| ?_
          refine o_icmp_le (pc := 29) (tgt := 35) dX6_row_29 rfl (fun h6 => ?_) (fun h6 => ?_)
          · refine o_aload_n (pc := 35) 0 dX6_row_35 rfl rfl <| o_getRc (pc := 36) (a := 1) (ci := 6) (j := 0) (nn := 0) dX6_row_36 (hF.1 _ _ rfl) rfl (Nat.le_of_ble_eq_true rfl) k_292 rfl (hF.2 _ _ _ rfl) <| o_getRc (pc := 39) (a := 2) (ci := 5) (j := 1) (nn := 0) dX6_row_39 (hF.1 _ _ rfl) rfl (Nat.le_of_ble_eq_true rfl) k_127 rfl (hF.2 _ _ _ rfl) <| o_iload_n (pc := 42) 1 dX6_row_42 rfl rfl <| ?_
            refine S_ck fun h7 => ?_
            refine o_iald (pc := 43) (nn := 6) dX6_row_43 (hF.1 _ _ rfl) (ck_in h7) <| o_bipush (pc := 44) dX6_row_44 lb_6 <| ?_
            refine o_icmp_eq (pc := 46) (tgt := 52) dX6_row_46 rfl (fun h8 => ?_) (fun h8 => ?_)
            · refine o_aload_n (pc := 52) 0 dX6_row_52 rfl rfl <| o_getRc (pc := 53) (a := 1) (ci := 6) (j := 0) (nn := 0) dX6_row_53 (hF.1 _ _ rfl) rfl (Nat.le_of_ble_eq_true rfl) k_292 rfl (hF.2 _ _ _ rfl) <| o_getRc (pc := 56) (a := 11) (ci := 5) (j := 4) (nn := 0) dX6_row_56 (hF.1 _ _ rfl) rfl (Nat.le_of_ble_eq_true rfl) k_133 rfl (hF.2 _ _ _ rfl) <| o_iload_n (pc := 59) 1 dX6_row_59 rfl rfl <| ?_
              refine S_ck fun h9 => ?_
              refine S_mq fun q11 h10 => ?_
              refine o_aaldI (pc := 60) (r := some q11) (nn := 6) dX6_row_60 (hF.1 _ _ rfl) (ck_in h9) h10 <| o_iload_n (pc := 61) 2 dX6_row_61 rfl rfl <| ?_
              refine S_ck fun h12 => ?_
              refine S_ck fun h13 => ?_
              refine o_iald (pc := 62) (nn := lenA sh q11) dX6_row_62 (kA_ok h12) (ck_in h13) <| ?_
              refine o_lt fun x14 => ?_
              refine o_istore (pc := 63) (ls' := [(4, .int x14), (0, .ref 0), (1, .int a), (2, .int b), (3, .int c)]) dX6_row_63 (Nat.le_of_ble_eq_true rfl) rfl <| o_aload_n (pc := 65) 1 dX6_row_65 rfl rfl <| o_getRc (pc := 66) (a := 1) (ci := 6) (j := 0) (nn := 0) dX6_row_66 (hF.1 _ _ rfl) rfl (Nat.le_of_ble_eq_true rfl) k_292 rfl (hF.2 _ _ _ rfl) <| o_getRc (pc := 69) (a := 11) (ci := 5) (j := 4) (nn := 0) dX6_row_69 (hF.1 _ _ rfl) rfl (Nat.le_of_ble_eq_true rfl) k_133 rfl (hF.2 _ _ _ rfl) <| o_iload_n (pc := 72) 2 dX6_row_72 rfl rfl <| ?_
              refine S_ck fun h15 => ?_
              refine S_mq fun q17 h16 => ?_
              refine o_aaldI (pc := 73) (r := some q17) (nn := 6) dX6_row_73 (hF.1 _ _ rfl) (ck_in h15) h16 <| o_iload_n (pc := 74) 3 dX6_row_74 rfl rfl <| o_iload_n (pc := 75) 4 dX6_row_75 rfl rfl <| ?_
              refine S_ck fun h18 => ?_
              refine S_ck fun h19 => ?_
              refine o_iast (pc := 76) (nn := lenA sh q17) dX6_row_76 (kA_ok h18) (ck_in h19) <| ?_
              refine o_lm fun m20 => ?_
              refine o_iload (pc := 77) 0 dX6_row_77 rfl <| ?_
              exact o_iret (pc := 79) dX6_row_79 rfl rfl
            · refine o_bipush (pc := 49) dX6_row_49 lb_m3 <| ?_
              exact o_iret (pc := 51) dX6_row_51 rfl rfl
          · refine o_bipush (pc := 32) dX6_row_32 lb_m2 <| ?_
            exact o_iret (pc := 34) dX6_row_34 rfl rfl
      · refine o_iconst (pc := 20) dX6_row_20 lc_m1 <| ?_
        exact o_iret (pc := 21) dX6_row_21 rfl rfl
def fW_orderWith_41_l6 (u1 : Int32) (u2 : Int32) (k0_0 : MI → Int32 → Int32 → Option (MI)) : Nat → MI → Int32 → Int32 → Option (MI)
  | 0, _, _, _ => none
  | n0 + 1, m, v4, v5 =>
    if m.1 1 0 ≤ v5 then
      k0_0 m v4 v5
    else
      if v5 = u2 then
        if ck v5 6 = true then
          lm (mI m 41 (upd (m.1 41) v5.toNatClampNeg u1)) fun m4 =>
          lt (v5 + 1) fun x5 =>
          fW_orderWith_41_l6 u1 u2 k0_0 n0 m4 v4 x5
        else none
      else
        if m.1 1 0 ≤ v4 then
          if m.1 1 0 ≤ v4 then
            lt (v5 + 1) fun x8 =>
            fW_orderWith_41_l6 u1 u2 k0_0 n0 m v4 x8
          else
            if ck v4 6 = true then
              if ck v5 6 = true then
                lm (mI m 41 (upd (m.1 41) v5.toNatClampNeg (m.1 12 v4.toNatClampNeg))) fun m11 =>
                lt (v4 + 1) fun x12 =>
                lt (v5 + 1) fun x13 =>
                fW_orderWith_41_l6 u1 u2 k0_0 n0 m11 x12 x13
              else none
            else none
        else
          if ck v4 6 = true then
            if m.1 12 v4.toNatClampNeg = u1 then
              lt (v4 + 1) fun x16 =>
              if m.1 1 0 ≤ x16 then
                lt (v5 + 1) fun x18 =>
                fW_orderWith_41_l6 u1 u2 k0_0 n0 m x16 x18
              else
                if ck x16 6 = true then
                  if ck v5 6 = true then
                    lm (mI m 41 (upd (m.1 41) v5.toNatClampNeg (m.1 12 x16.toNatClampNeg))) fun m21 =>
                    lt (x16 + 1) fun x22 =>
                    lt (v5 + 1) fun x23 =>
                    fW_orderWith_41_l6 u1 u2 k0_0 n0 m21 x22 x23
                  else none
                else none
            else
              if m.1 1 0 ≤ v4 then
                lt (v5 + 1) fun x25 =>
                fW_orderWith_41_l6 u1 u2 k0_0 n0 m v4 x25
              else
                if ck v4 6 = true then
                  if ck v5 6 = true then
                    lm (mI m 41 (upd (m.1 41) v5.toNatClampNeg (m.1 12 v4.toNatClampNeg))) fun m28 =>
                    lt (v4 + 1) fun x29 =>
                    lt (v5 + 1) fun x30 =>
                    fW_orderWith_41_l6 u1 u2 k0_0 n0 m28 x29 x30
                  else none
                else none
          else none
theorem sW_orderWith_41_l6 {sh : Sh} {R : RR} (hF : Fx sh R) (u1 : Int32) (u2 : Int32) (k0_0 : MI → Int32 → Int32 → Option (MI)) (hk0_0 : ∀ (m : MI) (v4 : Int32) (v5 : Int32) , S (eV sh R) false 0 0 0 YX5_orderWith sh R m 81 [(0, .ref 1), (1, .int u1), (2, .int u2), (3, .ref 41), (4, .int v4), (5, .int v5)] [] (k0_0 m v4 v5)) : ∀ (n : Nat) (m : MI) (v4 : Int32) (v5 : Int32) , S (eV sh R) false 0 0 0 YX5_orderWith sh R m 6 [(0, .ref 1), (1, .int u1), (2, .int u2), (3, .ref 41), (4, .int v4), (5, .int v5)] [] (fW_orderWith_41_l6 u1 u2 k0_0 n m v4 v5) := by
  intro n
  induction n with
  | zero => intros; exact S_none
  | succ n0 ih0 =>
    intro m v4 v5
    rw [fW_orderWith_41_l6]
    refine o_iload (pc := 6) 5 dX5_orderWith_6 rfl <| o_aload_n (pc := 8) 0 dX5_orderWith_8 rfl rfl <| o_getI (pc := 9) (ci := 5) (j := 0) (nn := 0) dX5_orderWith_9 (hF.1 _ _ rfl) rfl (Nat.le_of_ble_eq_true rfl) k_123 rfl <| ?_
    refine o_icmp_ge (pc := 12) (tgt := 81) dX5_orderWith_12 rfl (fun h1 => ?_) (fun h1 => ?_)
    · exact hk0_0 m v4 v5
    · refine o_iload (pc := 15) 5 dX5_orderWith_15 rfl <| o_iload_n (pc := 17) 2 dX5_orderWith_17 rfl rfl <| ?_
      refine o_icmp_ne (pc := 18) (tgt := 29) dX5_orderWith_18 rfl (fun h2 => ?_) (fun h2 => ?_)
      · refine o_aload_n (pc := 21) 3 dX5_orderWith_21 rfl rfl <| o_iload (pc := 22) 5 dX5_orderWith_22 rfl <| o_iload_n (pc := 24) 1 dX5_orderWith_24 rfl rfl <| ?_
        refine S_ck fun h3 => ?_
        refine o_iast (pc := 25) (nn := 6) dX5_orderWith_25 (hF.1 _ _ rfl) (ck_in h3) <| ?_
        refine o_lm fun m4 => ?_
        refine o_goto (pc := 26) (tgt := 75) dX5_orderWith_26 rfl <| o_iinc (pc := 75) 5 (v := v5 + 1) (ls' := [(5, .int (v5 + 1)), (0, .ref 1), (1, .int u1), (2, .int u2), (3, .ref 41), (4, .int v4)]) dX5_orderWith_75 rfl rfl (Nat.le_of_ble_eq_true rfl) rfl <| ?_
        refine o_ltL (ls := fun x5 => [(5, .int x5), (0, .ref 1), (1, .int u1), (2, .int u2), (3, .ref 41), (4, .int v4)]) fun x5 => ?_
        refine o_goto (pc := 78) (tgt := 6) dX5_orderWith_78 rfl <| ?_
        refine o_sub [1, 2, 3, 4, 5, 0] (ls' := [(0, .ref 1), (1, .int u1), (2, .int u2), (3, .ref 41), (4, .int v4), (5, .int x5)]) rfl ?_
        exact ih0 m4 v4 x5
      · refine o_iload (pc := 29) 4 dX5_orderWith_29 rfl <| o_aload_n (pc := 31) 0 dX5_orderWith_31 rfl rfl <| o_getI (pc := 32) (ci := 5) (j := 0) (nn := 0) dX5_orderWith_32 (hF.1 _ _ rfl) rfl (Nat.le_of_ble_eq_true rfl) k_123 rfl <| ?_
        refine o_icmp_ge (pc := 35) (tgt := 52) dX5_orderWith_35 rfl (fun h6 => ?_) (fun h6 => ?_)
        · refine o_iload (pc := 52) 4 dX5_orderWith_52 rfl <| o_aload_n (pc := 54) 0 dX5_orderWith_54 rfl rfl <| o_getI (pc := 55) (ci := 5) (j := 0) (nn := 0) dX5_orderWith_55 (hF.1 _ _ rfl) rfl (Nat.le_of_ble_eq_true rfl) k_123 rfl <| ?_
          refine o_icmp_ge (pc := 58) (tgt := 75) dX5_orderWith_58 rfl (fun h7 => ?_) (fun h7 => ?_)
          · refine o_iinc (pc := 75) 5 (v := v5 + 1) (ls' := [(5, .int (v5 + 1)), (0, .ref 1), (1, .int u1), (2, .int u2), (3, .ref 41), (4, .int v4)]) dX5_orderWith_75 rfl rfl (Nat.le_of_ble_eq_true rfl) rfl <| ?_
            refine o_ltL (ls := fun x8 => [(5, .int x8), (0, .ref 1), (1, .int u1), (2, .int u2), (3, .ref 41), (4, .int v4)]) fun x8 => ?_
            refine o_goto (pc := 78) (tgt := 6) dX5_orderWith_78 rfl <| ?_
            refine o_sub [1, 2, 3, 4, 5, 0] (ls' := [(0, .ref 1), (1, .int u1), (2, .int u2), (3, .ref 41), (4, .int v4), (5, .int x8)]) rfl ?_
            exact ih0 m v4 x8
          · refine o_aload_n (pc := 61) 3 dX5_orderWith_61 rfl rfl <| o_iload (pc := 62) 5 dX5_orderWith_62 rfl <| o_aload_n (pc := 64) 0 dX5_orderWith_64 rfl rfl <| o_getRc (pc := 65) (a := 12) (ci := 5) (j := 5) (nn := 0) dX5_orderWith_65 (hF.1 _ _ rfl) rfl (Nat.le_of_ble_eq_true rfl) k_134 rfl (hF.2 _ _ _ rfl) <| o_iload (pc := 68) 4 dX5_orderWith_68 rfl <| ?_
            refine S_ck fun h9 => ?_
            refine o_iald (pc := 70) (nn := 6) dX5_orderWith_70 (hF.1 _ _ rfl) (ck_in h9) <| ?_
            refine S_ck fun h10 => ?_
            refine o_iast (pc := 71) (nn := 6) dX5_orderWith_71 (hF.1 _ _ rfl) (ck_in h10) <| ?_
            refine o_lm fun m11 => ?_
            refine o_iinc (pc := 72) 4 (v := v4 + 1) (ls' := [(4, .int (v4 + 1)), (0, .ref 1), (1, .int u1), (2, .int u2), (3, .ref 41), (5, .int v5)]) dX5_orderWith_72 rfl rfl (Nat.le_of_ble_eq_true rfl) rfl <| ?_
            refine o_ltL (ls := fun x12 => [(4, .int x12), (0, .ref 1), (1, .int u1), (2, .int u2), (3, .ref 41), (5, .int v5)]) fun x12 => ?_
            refine o_iinc (pc := 75) 5 (v := v5 + 1) (ls' := [(5, .int (v5 + 1)), (4, .int x12), (0, .ref 1), (1, .int u1), (2, .int u2), (3, .ref 41)]) dX5_orderWith_75 rfl rfl (Nat.le_of_ble_eq_true rfl) rfl <| ?_
            refine o_ltL (ls := fun x13 => [(5, .int x13), (4, .int x12), (0, .ref 1), (1, .int u1), (2, .int u2), (3, .ref 41)]) fun x13 => ?_
            refine o_goto (pc := 78) (tgt := 6) dX5_orderWith_78 rfl <| ?_
            refine o_sub [2, 3, 4, 5, 1, 0] (ls' := [(0, .ref 1), (1, .int u1), (2, .int u2), (3, .ref 41), (4, .int x12), (5, .int x13)]) rfl ?_
            exact ih0 m11 x12 x13
        · refine o_aload_n (pc := 38) 0 dX5_orderWith_38 rfl rfl <| o_getRc (pc := 39) (a := 12) (ci := 5) (j := 5) (nn := 0) dX5_orderWith_39 (hF.1 _ _ rfl) rfl (Nat.le_of_ble_eq_true rfl) k_134 rfl (hF.2 _ _ _ rfl) <| o_iload (pc := 42) 4 dX5_orderWith_42 rfl <| ?_
          refine S_ck fun h14 => ?_
          refine o_iald (pc := 44) (nn := 6) dX5_orderWith_44 (hF.1 _ _ rfl) (ck_in h14) <| o_iload_n (pc := 45) 1 dX5_orderWith_45 rfl rfl <| ?_
          refine o_icmp_ne (pc := 46) (tgt := 52) dX5_orderWith_46 rfl (fun h15 => ?_) (fun h15 => ?_)
          · refine o_iinc (pc := 49) 4 (v := v4 + 1) (ls' := [(4, .int (v4 + 1)), (0, .ref 1), (1, .int u1), (2, .int u2), (3, .ref 41), (5, .int v5)]) dX5_orderWith_49 rfl rfl (Nat.le_of_ble_eq_true rfl) rfl <| ?_
            refine o_ltL (ls := fun x16 => [(4, .int x16), (0, .ref 1), (1, .int u1), (2, .int u2), (3, .ref 41), (5, .int v5)]) fun x16 => ?_
            refine o_iload (pc := 52) 0 dX5_orderWith_52 rfl <| o_aload_n (pc := 54) 1 dX5_orderWith_54 rfl rfl <| o_getI (pc := 55) (ci := 5) (j := 0) (nn := 0) dX5_orderWith_55 (hF.1 _ _ rfl) rfl (Nat.le_of_ble_eq_true rfl) k_123 rfl <| ?_
            refine o_icmp_ge (pc := 58) (tgt := 75) dX5_orderWith_58 rfl (fun h17 => ?_) (fun h17 => ?_)
            · refine o_iinc (pc := 75) 5 (v := v5 + 1) (ls' := [(5, .int (v5 + 1)), (4, .int x16), (0, .ref 1), (1, .int u1), (2, .int u2), (3, .ref 41)]) dX5_orderWith_75 rfl rfl (Nat.le_of_ble_eq_true rfl) rfl <| ?_
              refine o_ltL (ls := fun x18 => [(5, .int x18), (4, .int x16), (0, .ref 1), (1, .int u1), (2, .int u2), (3, .ref 41)]) fun x18 => ?_
              refine o_goto (pc := 78) (tgt := 6) dX5_orderWith_78 rfl <| ?_
              refine o_sub [2, 3, 4, 5, 1, 0] (ls' := [(0, .ref 1), (1, .int u1), (2, .int u2), (3, .ref 41), (4, .int x16), (5, .int x18)]) rfl ?_
              exact ih0 m x16 x18
            · refine o_aload_n (pc := 61) 4 dX5_orderWith_61 rfl rfl <| o_iload (pc := 62) 5 dX5_orderWith_62 rfl <| o_aload_n (pc := 64) 1 dX5_orderWith_64 rfl rfl <| o_getRc (pc := 65) (a := 12) (ci := 5) (j := 5) (nn := 0) dX5_orderWith_65 (hF.1 _ _ rfl) rfl (Nat.le_of_ble_eq_true rfl) k_134 rfl (hF.2 _ _ _ rfl) <| o_iload (pc := 68) 0 dX5_orderWith_68 rfl <| ?_
              refine S_ck fun h19 => ?_
              refine o_iald (pc := 70) (nn := 6) dX5_orderWith_70 (hF.1 _ _ rfl) (ck_in h19) <| ?_
              refine S_ck fun h20 => ?_
              refine o_iast (pc := 71) (nn := 6) dX5_orderWith_71 (hF.1 _ _ rfl) (ck_in h20) <| ?_
              refine o_lm fun m21 => ?_
              refine o_iinc (pc := 72) 0 (v := x16 + 1) (ls' := [(4, .int (x16 + 1)), (0, .ref 1), (1, .int u1), (2, .int u2), (3, .ref 41), (5, .int v5)]) dX5_orderWith_72 rfl rfl (Nat.le_of_ble_eq_true rfl) rfl <| ?_
              refine o_ltL (ls := fun x22 => [(4, .int x22), (0, .ref 1), (1, .int u1), (2, .int u2), (3, .ref 41), (5, .int v5)]) fun x22 => ?_
              refine o_iinc (pc := 75) 5 (v := v5 + 1) (ls' := [(5, .int (v5 + 1)), (4, .int x22), (0, .ref 1), (1, .int u1), (2, .int u2), (3, .ref 41)]) dX5_orderWith_75 rfl rfl (Nat.le_of_ble_eq_true rfl) rfl <| ?_
              refine o_ltL (ls := fun x23 => [(5, .int x23), (4, .int x22), (0, .ref 1), (1, .int u1), (2, .int u2), (3, .ref 41)]) fun x23 => ?_
              refine o_goto (pc := 78) (tgt := 6) dX5_orderWith_78 rfl <| ?_
              refine o_sub [2, 3, 4, 5, 1, 0] (ls' := [(0, .ref 1), (1, .int u1), (2, .int u2), (3, .ref 41), (4, .int x22), (5, .int x23)]) rfl ?_
              exact ih0 m21 x22 x23
          · refine o_iload (pc := 52) 4 dX5_orderWith_52 rfl <| o_aload_n (pc := 54) 0 dX5_orderWith_54 rfl rfl <| o_getI (pc := 55) (ci := 5) (j := 0) (nn := 0) dX5_orderWith_55 (hF.1 _ _ rfl) rfl (Nat.le_of_ble_eq_true rfl) k_123 rfl <| ?_
            refine o_icmp_ge (pc := 58) (tgt := 75) dX5_orderWith_58 rfl (fun h24 => ?_) (fun h24 => ?_)
            · refine o_iinc (pc := 75) 5 (v := v5 + 1) (ls' := [(5, .int (v5 + 1)), (0, .ref 1), (1, .int u1), (2, .int u2), (3, .ref 41), (4, .int v4)]) dX5_orderWith_75 rfl rfl (Nat.le_of_ble_eq_true rfl) rfl <| ?_
              refine o_ltL (ls := fun x25 => [(5, .int x25), (0, .ref 1), (1, .int u1), (2, .int u2), (3, .ref 41), (4, .int v4)]) fun x25 => ?_
              refine o_goto (pc := 78) (tgt := 6) dX5_orderWith_78 rfl <| ?_
              refine o_sub [1, 2, 3, 4, 5, 0] (ls' := [(0, .ref 1), (1, .int u1), (2, .int u2), (3, .ref 41), (4, .int v4), (5, .int x25)]) rfl ?_
              exact ih0 m v4 x25
            · refine o_aload_n (pc := 61) 3 dX5_orderWith_61 rfl rfl <| o_iload (pc := 62) 5 dX5_orderWith_62 rfl <| o_aload_n (pc := 64) 0 dX5_orderWith_64 rfl rfl <| o_getRc (pc := 65) (a := 12) (ci := 5) (j := 5) (nn := 0) dX5_orderWith_65 (hF.1 _ _ rfl) rfl (Nat.le_of_ble_eq_true rfl) k_134 rfl (hF.2 _ _ _ rfl) <| o_iload (pc := 68) 4 dX5_orderWith_68 rfl <| ?_
              refine S_ck fun h26 => ?_
              refine o_iald (pc := 70) (nn := 6) dX5_orderWith_70 (hF.1 _ _ rfl) (ck_in h26) <| ?_
              refine S_ck fun h27 => ?_
              refine o_iast (pc := 71) (nn := 6) dX5_orderWith_71 (hF.1 _ _ rfl) (ck_in h27) <| ?_
              refine o_lm fun m28 => ?_
              refine o_iinc (pc := 72) 4 (v := v4 + 1) (ls' := [(4, .int (v4 + 1)), (0, .ref 1), (1, .int u1), (2, .int u2), (3, .ref 41), (5, .int v5)]) dX5_orderWith_72 rfl rfl (Nat.le_of_ble_eq_true rfl) rfl <| ?_
              refine o_ltL (ls := fun x29 => [(4, .int x29), (0, .ref 1), (1, .int u1), (2, .int u2), (3, .ref 41), (5, .int v5)]) fun x29 => ?_
              refine o_iinc (pc := 75) 5 (v := v5 + 1) (ls' := [(5, .int (v5 + 1)), (4, .int x29), (0, .ref 1), (1, .int u1), (2, .int u2), (3, .ref 41)]) dX5_orderWith_75 rfl rfl (Nat.le_of_ble_eq_true rfl) rfl <| ?_
              refine o_ltL (ls := fun x30 => [(5, .int x30), (4, .int x29), (0, .ref 1), (1, .int u1), (2, .int u2), (3, .ref 41)]) fun x30 => ?_
              refine o_goto (pc := 78) (tgt := 6) dX5_orderWith_78 rfl <| ?_
              refine o_sub [2, 3, 4, 5, 1, 0] (ls' := [(0, .ref 1), (1, .int u1), (2, .int u2), (3, .ref 41), (4, .int x29), (5, .int x30)]) rfl ?_
              exact ih0 m28 x29 x30
def fW_orderWith_41 (m : MI) (a : Int32) (b : Int32) : Option (MI) :=
  fW_orderWith_41_l6 a b
    (fun m3 z1 z2 =>
      some m3
      )
    1000 m 0 0
theorem sW_orderWith_41 {sh : Sh} {R : RR} (hF : Fx sh R) (m : MI) (a : Int32) (b : Int32) : KS (eV sh R) false 0 0 0 YX5_orderWith sh R m [.ref 1, .int a, .int b, .ref 41] (fW_orderWith_41 m a b) := by
  refine KS_of pn_X5 (fun _ => Nat.le_of_ble_eq_true rfl) ?_
  change S _ _ _ _ _ _ _ _ _ _ [(0, .ref 1), (1, .int a), (2, .int b), (3, .ref 41)] [] _
  unfold fW_orderWith_41
  refine o_iconst (pc := 0) dX5_orderWith_0 lc_0 <| o_istore (pc := 1) (ls' := [(4, .int 0), (0, .ref 1), (1, .int a), (2, .int b), (3, .ref 41)]) dX5_orderWith_1 (Nat.le_of_ble_eq_true rfl) rfl <| o_iconst (pc := 3) dX5_orderWith_3 lc_0 <| o_istore (pc := 4) (ls' := [(5, .int 0), (4, .int 0), (0, .ref 1), (1, .int a), (2, .int b), (3, .ref 41)]) dX5_orderWith_4 (Nat.le_of_ble_eq_true rfl) rfl <| ?_
  refine o_sub [2, 3, 4, 5, 1, 0] (ls' := [(0, .ref 1), (1, .int a), (2, .int b), (3, .ref 41), (4, .int 0), (5, .int 0)]) rfl ?_
  refine sW_orderWith_41_l6 hF a b _ ?_ 1000 m 0 0
  · intro m3 z1 z2
    exact o_vret (pc := 81) dX5_orderWith_81 rfl rfl
def fC_place (sh : Sh) (R : RR) (m : MI) (a : Int32) (b : Int32) : Option (Int32 × MI) :=
  (fW_has m a).bind fun r1 =>
  if r1.1 = 0 then
    some (-1, r1.2)
  else
    (fW_has r1.2 b).bind fun r3 =>
    if r3.1 = 0 then
      some (-1, r3.2)
    else
      (fW_placeOf r3.2 a).bind fun r5 =>
      (fW_orderWith_41 r5.2 a b).bind fun r6 =>
      if cpk 0 0 (r6.1 1 0) 6 6 = true then
        lm (mI r6 12 (va_cpy (r6.1 41) (r6.1 12) (0 : Int32).toNatClampNeg (0 : Int32).toNatClampNeg (r6.1 1 0).toNatClampNeg)) fun m8 =>
        (fW_makeWhole sh R m8).bind fun r9 =>
        some (r5.1, r9)
      else none
theorem sC_place {sh : Sh} {R : RR} (hF : Fx sh R) (m : MI) (a : Int32) (b : Int32) : KS (eI sh R) false 3 0 0 YX6_place sh R m [.ref 0, .int a, .int b] (fC_place sh R m a b) := by
  refine KS_of pn_X6 (fun _ => Nat.le_of_ble_eq_true rfl) ?_
  change S _ _ _ _ _ _ _ _ _ _ [(0, .ref 0), (1, .int a), (2, .int b)] [] _
  unfold fC_place
  refine o_aload_n (pc := 0) 0 dX6_place_0 rfl rfl <| o_getRc (pc := 1) (a := 1) (ci := 6) (j := 0) (nn := 0) dX6_place_1 (hF.1 _ _ rfl) rfl (Nat.le_of_ble_eq_true rfl) k_292 rfl (hF.2 _ _ _ rfl) <| o_iload_n (pc := 4) 1 dX6_place_4 rfl rfl <| ?_
  refine o_callVI (Y2 := YX5_has) (pc := 5) (av := [.int a]) (rest := []) dX6_place_5 k_353 cm_X5_has (sW_has hF m a) (hF.1 _ _ rfl) rfl rfl (Nat.le_of_ble_eq_true rfl) (Nat.le_of_ble_eq_true rfl) fun r1 => ?_
  refine o_if_eq (pc := 8) (tgt := 22) dX6_place_8 rfl (fun h2 => ?_) (fun h2 => ?_)
  · refine o_iconst (pc := 22) dX6_place_22 lc_m1 <| ?_
    exact o_iret (pc := 23) dX6_place_23 rfl rfl
  · refine o_aload_n (pc := 11) 0 dX6_place_11 rfl rfl <| o_getRc (pc := 12) (a := 1) (ci := 6) (j := 0) (nn := 0) dX6_place_12 (hF.1 _ _ rfl) rfl (Nat.le_of_ble_eq_true rfl) k_292 rfl (hF.2 _ _ _ rfl) <| o_iload_n (pc := 15) 2 dX6_place_15 rfl rfl <| ?_
    refine o_callVI (Y2 := YX5_has) (pc := 16) (av := [.int b]) (rest := []) dX6_place_16 k_353 cm_X5_has (sW_has hF r1.2 b) (hF.1 _ _ rfl) rfl rfl (Nat.le_of_ble_eq_true rfl) (Nat.le_of_ble_eq_true rfl) fun r3 => ?_
    refine o_if_ne (pc := 19) (tgt := 24) dX6_place_19 rfl (fun h4 => ?_) (fun h4 => ?_)
    · refine o_iconst (pc := 22) dX6_place_22 lc_m1 <| ?_
      exact o_iret (pc := 23) dX6_place_23 rfl rfl
    · refine o_aload_n (pc := 24) 0 dX6_place_24 rfl rfl <| o_getRc (pc := 25) (a := 1) (ci := 6) (j := 0) (nn := 0) dX6_place_25 (hF.1 _ _ rfl) rfl (Nat.le_of_ble_eq_true rfl) k_292 rfl (hF.2 _ _ _ rfl) <| o_iload_n (pc := 28) 1 dX6_place_28 rfl rfl <| ?_
      refine o_callVI (Y2 := YX5_placeOf) (pc := 29) (av := [.int a]) (rest := []) dX6_place_29 k_357 cm_X5_placeOf (sW_placeOf hF r3.2 a) (hF.1 _ _ rfl) rfl rfl (Nat.le_of_ble_eq_true rfl) (Nat.le_of_ble_eq_true rfl) fun r5 => ?_
      refine o_istore_n (pc := 32) (ls' := [(3, .int r5.1), (0, .ref 0), (1, .int a), (2, .int b)]) dX6_place_32 rfl (Nat.le_of_ble_eq_true rfl) rfl <| o_aload_n (pc := 33) 1 dX6_place_33 rfl rfl <| o_getRc (pc := 34) (a := 1) (ci := 6) (j := 0) (nn := 0) dX6_place_34 (hF.1 _ _ rfl) rfl (Nat.le_of_ble_eq_true rfl) k_292 rfl (hF.2 _ _ _ rfl) <| o_iload_n (pc := 37) 2 dX6_place_37 rfl rfl <| o_iload_n (pc := 38) 3 dX6_place_38 rfl rfl <| o_aload_n (pc := 39) 1 dX6_place_39 rfl rfl <| o_getRc (pc := 40) (a := 41) (ci := 6) (j := 4) (nn := 0) dX6_place_40 (hF.1 _ _ rfl) rfl (Nat.le_of_ble_eq_true rfl) k_296 rfl (hF.2 _ _ _ rfl) <| ?_
      refine o_callVV (Y2 := YX5_orderWith) (pc := 43) (av := [.int a, .int b, .ref 41]) (rest := []) dX6_place_43 k_389 cm_X5_orderWith (sW_orderWith_41 hF r5.2 a b) (hF.1 _ _ rfl) rfl rfl (Nat.le_of_ble_eq_true rfl) (Nat.le_of_ble_eq_true rfl) fun r6 => ?_
      refine o_aload_n (pc := 46) 1 dX6_place_46 rfl rfl <| o_getRc (pc := 47) (a := 41) (ci := 6) (j := 4) (nn := 0) dX6_place_47 (hF.1 _ _ rfl) rfl (Nat.le_of_ble_eq_true rfl) k_296 rfl (hF.2 _ _ _ rfl) <| o_iconst (pc := 50) dX6_place_50 lc_0 <| o_aload_n (pc := 51) 1 dX6_place_51 rfl rfl <| o_getRc (pc := 52) (a := 1) (ci := 6) (j := 0) (nn := 0) dX6_place_52 (hF.1 _ _ rfl) rfl (Nat.le_of_ble_eq_true rfl) k_292 rfl (hF.2 _ _ _ rfl) <| o_getRc (pc := 55) (a := 12) (ci := 5) (j := 5) (nn := 0) dX6_place_55 (hF.1 _ _ rfl) rfl (Nat.le_of_ble_eq_true rfl) k_135 rfl (hF.2 _ _ _ rfl) <| o_iconst (pc := 58) dX6_place_58 lc_0 <| o_aload_n (pc := 59) 1 dX6_place_59 rfl rfl <| o_getRc (pc := 60) (a := 1) (ci := 6) (j := 0) (nn := 0) dX6_place_60 (hF.1 _ _ rfl) rfl (Nat.le_of_ble_eq_true rfl) k_292 rfl (hF.2 _ _ _ rfl) <| o_getI (pc := 63) (ci := 5) (j := 0) (nn := 0) dX6_place_63 (hF.1 _ _ rfl) rfl (Nat.le_of_ble_eq_true rfl) k_124 rfl <| ?_
      refine S_ck fun h7 => ?_
      refine o_cpi (pc := 66) dX6_place_66 k_393 k_395 k_394 k_82 (hF.1 _ _ rfl) (hF.1 _ _ rfl) h7 (Nat.le_of_ble_eq_true rfl) (Nat.le_of_ble_eq_true rfl) <| ?_
      refine o_lm fun m8 => ?_
      refine o_aload_n (pc := 69) 1 dX6_place_69 rfl rfl <| o_getRc (pc := 70) (a := 1) (ci := 6) (j := 0) (nn := 0) dX6_place_70 (hF.1 _ _ rfl) rfl (Nat.le_of_ble_eq_true rfl) k_292 rfl (hF.2 _ _ _ rfl) <| ?_
      refine o_callVV (Y2 := YX5_makeWhole) (pc := 73) (av := []) (rest := []) dX6_place_73 k_396 cm_X5_makeWhole (sW_makeWhole hF m8 ) (hF.1 _ _ rfl) rfl rfl (Nat.le_of_ble_eq_true rfl) (Nat.le_of_ble_eq_true rfl) fun r9 => ?_
      refine o_iload_n (pc := 76) 0 dX6_place_76 rfl rfl <| ?_
      exact o_iret (pc := 77) dX6_place_77 rfl rfl
def fC_feed (m : MI) (a : Int32) : Option (Int32 × MI) :=
  if a < 0 then
    some (-2, m)
  else
    if a ≤ 127 then
      if m.1 43 0 < 100 then
        (fP_add m a).bind fun r4 =>
        some (r4.1, r4.2)
      else
        some (-4, m)
    else
      some (-2, m)
theorem sC_feed {sh : Sh} {R : RR} (hF : Fx sh R) (m : MI) (a : Int32) : KS (eI sh R) false 1 0 0 YX6_feed sh R m [.ref 0, .int a] (fC_feed m a) := by
  refine KS_of pn_X6 (fun _ => Nat.le_of_ble_eq_true rfl) ?_
  change S _ _ _ _ _ _ _ _ _ _ [(0, .ref 0), (1, .int a)] [] _
  unfold fC_feed
  refine o_iload_n (pc := 0) 1 dX6_feed_0 rfl rfl <| ?_
  refine o_if_lt (pc := 1) (tgt := 10) dX6_feed_1 rfl (fun h1 => ?_) (fun h1 => ?_)
  · refine o_bipush (pc := 10) dX6_feed_10 lb_m2 <| ?_
    exact o_iret (pc := 12) dX6_feed_12 rfl rfl
  · refine o_iload_n (pc := 4) 1 dX6_feed_4 rfl rfl <| o_bipush (pc := 5) dX6_feed_5 lb_127 <| ?_
    refine o_icmp_le (pc := 7) (tgt := 13) dX6_feed_7 rfl (fun h2 => ?_) (fun h2 => ?_)
    · refine o_aload_n (pc := 13) 0 dX6_feed_13 rfl rfl <| o_getRc (pc := 14) (a := 43) (ci := 6) (j := 6) (nn := 0) dX6_feed_14 (hF.1 _ _ rfl) rfl (Nat.le_of_ble_eq_true rfl) k_298 rfl (hF.2 _ _ _ rfl) <| o_getI (pc := 17) (ci := 2) (j := 0) (nn := 0) dX6_feed_17 (hF.1 _ _ rfl) rfl (Nat.le_of_ble_eq_true rfl) k_226 rfl <| o_bipush (pc := 20) dX6_feed_20 lb_100 <| ?_
      refine o_icmp_lt (pc := 22) (tgt := 28) dX6_feed_22 rfl (fun h3 => ?_) (fun h3 => ?_)
      · refine o_aload_n (pc := 28) 0 dX6_feed_28 rfl rfl <| o_getRc (pc := 29) (a := 43) (ci := 6) (j := 6) (nn := 0) dX6_feed_29 (hF.1 _ _ rfl) rfl (Nat.le_of_ble_eq_true rfl) k_298 rfl (hF.2 _ _ _ rfl) <| o_iload_n (pc := 32) 1 dX6_feed_32 rfl rfl <| ?_
        refine o_callVI (Y2 := YX2_add) (pc := 33) (av := [.int a]) (rest := []) dX6_feed_33 k_401 cm_X2_add (sP_add hF m a) (hF.1 _ _ rfl) rfl rfl (Nat.le_of_ble_eq_true rfl) (Nat.le_of_ble_eq_true rfl) fun r4 => ?_
        exact o_iret (pc := 36) dX6_feed_36 rfl rfl
      · refine o_bipush (pc := 25) dX6_feed_25 lb_m4 <| ?_
        exact o_iret (pc := 27) dX6_feed_27 rfl rfl
    · refine o_bipush (pc := 10) dX6_feed_10 lb_m2 <| ?_
      exact o_iret (pc := 12) dX6_feed_12 rfl rfl
def fW_next (m : MI) : Option (Int32 × MI) :=
  if m.1 1 0 ≤ m.1 1 8 then
    some (-5, m)
  else
    if ck (m.1 1 8) 6 = true then
      some (m.1 12 (m.1 1 8).toNatClampNeg, m)
    else none
theorem sW_next {sh : Sh} {R : RR} (hF : Fx sh R) (m : MI) : KS (eI sh R) false 0 0 0 YX5_next sh R m [.ref 1] (fW_next m ) := by
  refine KS_of pn_X5 (fun _ => Nat.le_of_ble_eq_true rfl) ?_
  change S _ _ _ _ _ _ _ _ _ _ [(0, .ref 1)] [] _
  unfold fW_next
  refine o_aload_n (pc := 0) 0 dX5_next_0 rfl rfl <| o_getI (pc := 1) (ci := 5) (j := 8) (nn := 0) dX5_next_1 (hF.1 _ _ rfl) rfl (Nat.le_of_ble_eq_true rfl) k_140 rfl <| o_aload_n (pc := 4) 0 dX5_next_4 rfl rfl <| o_getI (pc := 5) (ci := 5) (j := 0) (nn := 0) dX5_next_5 (hF.1 _ _ rfl) rfl (Nat.le_of_ble_eq_true rfl) k_123 rfl <| ?_
  refine o_icmp_ge (pc := 8) (tgt := 23) dX5_next_8 rfl (fun h1 => ?_) (fun h1 => ?_)
  · refine o_bipush (pc := 23) dX5_next_23 lb_m5 <| ?_
    exact o_iret (pc := 25) dX5_next_25 rfl rfl
  · refine o_aload_n (pc := 11) 0 dX5_next_11 rfl rfl <| o_getRc (pc := 12) (a := 12) (ci := 5) (j := 5) (nn := 0) dX5_next_12 (hF.1 _ _ rfl) rfl (Nat.le_of_ble_eq_true rfl) k_134 rfl (hF.2 _ _ _ rfl) <| o_aload_n (pc := 15) 0 dX5_next_15 rfl rfl <| o_getI (pc := 16) (ci := 5) (j := 8) (nn := 0) dX5_next_16 (hF.1 _ _ rfl) rfl (Nat.le_of_ble_eq_true rfl) k_140 rfl <| ?_
    refine S_ck fun h2 => ?_
    refine o_iald (pc := 19) (nn := 6) dX5_next_19 (hF.1 _ _ rfl) (ck_in h2) <| o_goto (pc := 20) (tgt := 25) dX5_next_20 rfl <| ?_
    exact o_iret (pc := 25) dX5_next_25 rfl rfl
def fC_told (m : MI) (a : Int32) : Option (Int32 × MI) :=
  if a = 0 then
    some (m.1 1 9, m)
  else
    if a = 1 then
      some (m.1 1 6, m)
    else
      if a = 2 then
        some (m.1 1 7, m)
      else
        if a = 3 then
          some (m.1 1 8, m)
        else
          if a = 4 then
            (fW_next m).bind fun r6 =>
            some (r6.1, r6.2)
          else
            if 10 ≤ a then
              lt (a - 10) fun x8 =>
              (fW_has m x8).bind fun r9 =>
              if r9.1 = 0 then
                some (-1, r9.2)
              else
                if ck x8 6 = true then
                  some (r9.2.1 12 x8.toNatClampNeg, r9.2)
                else none
            else
              (fW_has m (-1)).bind fun r12 =>
              if r12.1 = 0 then
                some (-1, r12.2)
              else
                if ck (-1) 6 = true then
                  some (r12.2.1 12 (-1 : Int32).toNatClampNeg, r12.2)
                else none
theorem sC_told {sh : Sh} {R : RR} (hF : Fx sh R) (m : MI) (a : Int32) : KS (eI sh R) false 1 0 0 YX6_told sh R m [.ref 0, .int a] (fC_told m a) := by
  refine KS_of pn_X6 (fun _ => Nat.le_of_ble_eq_true rfl) ?_
  change S _ _ _ _ _ _ _ _ _ _ [(0, .ref 0), (1, .int a)] [] _
  unfold fC_told
  refine o_iload_n (pc := 0) 1 dX6_told_0 rfl rfl <| ?_
  refine S_ite (fun h1 => ?_) (fun h1 => ?_)
  · refine o_ts_in (pc := 1) (tgt := 36) 0 h1 dX6_told_1 (by decide) (by decide) rfl rfl ?_
    refine o_aload_n (pc := 36) 0 dX6_told_36 rfl rfl <| o_getRc (pc := 37) (a := 1) (ci := 6) (j := 0) (nn := 0) dX6_told_37 (hF.1 _ _ rfl) rfl (Nat.le_of_ble_eq_true rfl) k_292 rfl (hF.2 _ _ _ rfl) <| o_getI (pc := 40) (ci := 5) (j := 9) (nn := 0) dX6_told_40 (hF.1 _ _ rfl) rfl (Nat.le_of_ble_eq_true rfl) k_143 rfl <| ?_
    exact o_iret (pc := 43) dX6_told_43 rfl rfl
  refine S_ite (fun h2 => ?_) (fun h2 => ?_)
  · refine o_ts_in (pc := 1) (tgt := 44) 1 h2 dX6_told_1 (by decide) (by decide) rfl rfl ?_
    refine o_aload_n (pc := 44) 0 dX6_told_44 rfl rfl <| o_getRc (pc := 45) (a := 1) (ci := 6) (j := 0) (nn := 0) dX6_told_45 (hF.1 _ _ rfl) rfl (Nat.le_of_ble_eq_true rfl) k_292 rfl (hF.2 _ _ _ rfl) <| o_getI (pc := 48) (ci := 5) (j := 6) (nn := 0) dX6_told_48 (hF.1 _ _ rfl) rfl (Nat.le_of_ble_eq_true rfl) k_137 rfl <| ?_
    exact o_iret (pc := 51) dX6_told_51 rfl rfl
  refine S_ite (fun h3 => ?_) (fun h3 => ?_)
  · refine o_ts_in (pc := 1) (tgt := 52) 2 h3 dX6_told_1 (by decide) (by decide) rfl rfl ?_
    refine o_aload_n (pc := 52) 0 dX6_told_52 rfl rfl <| o_getRc (pc := 53) (a := 1) (ci := 6) (j := 0) (nn := 0) dX6_told_53 (hF.1 _ _ rfl) rfl (Nat.le_of_ble_eq_true rfl) k_292 rfl (hF.2 _ _ _ rfl) <| o_getI (pc := 56) (ci := 5) (j := 7) (nn := 0) dX6_told_56 (hF.1 _ _ rfl) rfl (Nat.le_of_ble_eq_true rfl) k_139 rfl <| ?_
    exact o_iret (pc := 59) dX6_told_59 rfl rfl
  refine S_ite (fun h4 => ?_) (fun h4 => ?_)
  · refine o_ts_in (pc := 1) (tgt := 60) 3 h4 dX6_told_1 (by decide) (by decide) rfl rfl ?_
    refine o_aload_n (pc := 60) 0 dX6_told_60 rfl rfl <| o_getRc (pc := 61) (a := 1) (ci := 6) (j := 0) (nn := 0) dX6_told_61 (hF.1 _ _ rfl) rfl (Nat.le_of_ble_eq_true rfl) k_292 rfl (hF.2 _ _ _ rfl) <| o_getI (pc := 64) (ci := 5) (j := 8) (nn := 0) dX6_told_64 (hF.1 _ _ rfl) rfl (Nat.le_of_ble_eq_true rfl) k_141 rfl <| ?_
    exact o_iret (pc := 67) dX6_told_67 rfl rfl
  refine S_ite (fun h5 => ?_) (fun h5 => ?_)
  · refine o_ts_in (pc := 1) (tgt := 68) 4 h5 dX6_told_1 (by decide) (by decide) rfl rfl ?_
    refine o_aload_n (pc := 68) 0 dX6_told_68 rfl rfl <| o_getRc (pc := 69) (a := 1) (ci := 6) (j := 0) (nn := 0) dX6_told_69 (hF.1 _ _ rfl) rfl (Nat.le_of_ble_eq_true rfl) k_292 rfl (hF.2 _ _ _ rfl) <| ?_
    refine o_callVI (Y2 := YX5_next) (pc := 72) (av := []) (rest := []) dX6_told_72 k_596 cm_X5_next (sW_next hF m ) (hF.1 _ _ rfl) rfl rfl (Nat.le_of_ble_eq_true rfl) (Nat.le_of_ble_eq_true rfl) fun r6 => ?_
    exact o_iret (pc := 75) dX6_told_75 rfl rfl
  refine o_ts_out (pc := 1) (tgt := 76) (ts_out (lo := 0) (hi := 4) [0, 1, 2, 3, 4] (by decide) (by decide) (fun c hc => by
      simp only [List.mem_cons, List.not_mem_nil, or_false] at hc
      rcases hc with rfl | rfl | rfl | rfl | rfl
      · exact h1
      · exact h2
      · exact h3
      · exact h4
      · exact h5)) dX6_told_1 rfl ?_
  refine o_iload_n (pc := 76) 1 dX6_told_76 rfl rfl <| o_bipush (pc := 77) dX6_told_77 lb_10 <| ?_
  refine o_icmp_ge (pc := 79) (tgt := 86) dX6_told_79 rfl (fun h7 => ?_) (fun h7 => ?_)
  · refine o_iload_n (pc := 86) 1 dX6_told_86 rfl rfl <| o_bipush (pc := 87) dX6_told_87 lb_10 <| o_isub (pc := 89) dX6_told_89 <| ?_
    refine o_lt fun x8 => ?_
    refine o_istore_n (pc := 90) (ls' := [(2, .int x8), (0, .ref 0), (1, .int a)]) dX6_told_90 rfl (Nat.le_of_ble_eq_true rfl) rfl <| o_aload_n (pc := 91) 1 dX6_told_91 rfl rfl <| o_getRc (pc := 92) (a := 1) (ci := 6) (j := 0) (nn := 0) dX6_told_92 (hF.1 _ _ rfl) rfl (Nat.le_of_ble_eq_true rfl) k_292 rfl (hF.2 _ _ _ rfl) <| o_iload_n (pc := 95) 0 dX6_told_95 rfl rfl <| ?_
    refine o_callVI (Y2 := YX5_has) (pc := 96) (av := [.int x8]) (rest := []) dX6_told_96 k_353 cm_X5_has (sW_has hF m x8) (hF.1 _ _ rfl) rfl rfl (Nat.le_of_ble_eq_true rfl) (Nat.le_of_ble_eq_true rfl) fun r9 => ?_
    refine o_if_eq (pc := 99) (tgt := 114) dX6_told_99 rfl (fun h10 => ?_) (fun h10 => ?_)
    · refine o_iconst (pc := 114) dX6_told_114 lc_m1 <| ?_
      exact o_iret (pc := 115) dX6_told_115 rfl rfl
    · refine o_aload_n (pc := 102) 1 dX6_told_102 rfl rfl <| o_getRc (pc := 103) (a := 1) (ci := 6) (j := 0) (nn := 0) dX6_told_103 (hF.1 _ _ rfl) rfl (Nat.le_of_ble_eq_true rfl) k_292 rfl (hF.2 _ _ _ rfl) <| o_getRc (pc := 106) (a := 12) (ci := 5) (j := 5) (nn := 0) dX6_told_106 (hF.1 _ _ rfl) rfl (Nat.le_of_ble_eq_true rfl) k_135 rfl (hF.2 _ _ _ rfl) <| o_iload_n (pc := 109) 0 dX6_told_109 rfl rfl <| ?_
      refine S_ck fun h11 => ?_
      refine o_iald (pc := 110) (nn := 6) dX6_told_110 (hF.1 _ _ rfl) (ck_in h11) <| o_goto (pc := 111) (tgt := 115) dX6_told_111 rfl <| ?_
      exact o_iret (pc := 115) dX6_told_115 rfl rfl
  · refine o_iconst (pc := 82) dX6_told_82 lc_m1 <| o_goto (pc := 83) (tgt := 90) dX6_told_83 rfl <| o_istore_n (pc := 90) (ls' := [(2, .int (-1)), (0, .ref 0), (1, .int a)]) dX6_told_90 rfl (Nat.le_of_ble_eq_true rfl) rfl <| o_aload_n (pc := 91) 1 dX6_told_91 rfl rfl <| o_getRc (pc := 92) (a := 1) (ci := 6) (j := 0) (nn := 0) dX6_told_92 (hF.1 _ _ rfl) rfl (Nat.le_of_ble_eq_true rfl) k_292 rfl (hF.2 _ _ _ rfl) <| o_iload_n (pc := 95) 0 dX6_told_95 rfl rfl <| ?_
    refine o_callVI (Y2 := YX5_has) (pc := 96) (av := [.int (-1)]) (rest := []) dX6_told_96 k_353 cm_X5_has (sW_has hF m (-1)) (hF.1 _ _ rfl) rfl rfl (Nat.le_of_ble_eq_true rfl) (Nat.le_of_ble_eq_true rfl) fun r12 => ?_
    refine o_if_eq (pc := 99) (tgt := 114) dX6_told_99 rfl (fun h13 => ?_) (fun h13 => ?_)
    · refine o_iconst (pc := 114) dX6_told_114 lc_m1 <| ?_
      exact o_iret (pc := 115) dX6_told_115 rfl rfl
    · refine o_aload_n (pc := 102) 1 dX6_told_102 rfl rfl <| o_getRc (pc := 103) (a := 1) (ci := 6) (j := 0) (nn := 0) dX6_told_103 (hF.1 _ _ rfl) rfl (Nat.le_of_ble_eq_true rfl) k_292 rfl (hF.2 _ _ _ rfl) <| o_getRc (pc := 106) (a := 12) (ci := 5) (j := 5) (nn := 0) dX6_told_106 (hF.1 _ _ rfl) rfl (Nat.le_of_ble_eq_true rfl) k_135 rfl (hF.2 _ _ _ rfl) <| o_iload_n (pc := 109) 0 dX6_told_109 rfl rfl <| ?_
      refine S_ck fun h14 => ?_
      refine o_iald (pc := 110) (nn := 6) dX6_told_110 (hF.1 _ _ rfl) (ck_in h14) <| o_goto (pc := 111) (tgt := 115) dX6_told_111 rfl <| ?_
      exact o_iret (pc := 115) dX6_told_115 rfl rfl
def fC_isDrawNumber (m : MI) (a : Int32) : Option (Int32 × MI) :=
  if a < 0 then
    some (0, m)
  else
    if 1000000 ≤ a then
      some (0, m)
    else
      some (1, m)
theorem sC_isDrawNumber {sh : Sh} {R : RR} (hF : Fx sh R) (m : MI) (a : Int32) : KS (eI sh R) false 0 0 0 YX6_isDrawNumber sh R m [.int a] (fC_isDrawNumber m a) := by
  refine KS_of pn_X6 (fun _ => Nat.le_of_ble_eq_true rfl) ?_
  change S _ _ _ _ _ _ _ _ _ _ [(0, .int a)] [] _
  unfold fC_isDrawNumber
  refine o_iload_n (pc := 0) 0 dX6_isDrawNumber_0 rfl rfl <| ?_
  refine o_if_lt (pc := 1) (tgt := 14) dX6_isDrawNumber_1 rfl (fun h1 => ?_) (fun h1 => ?_)
  · refine o_iconst (pc := 14) dX6_isDrawNumber_14 lc_0 <| ?_
    exact o_zret (pc := 15) dX6_isDrawNumber_15 rfl rfl rfl
  · refine o_iload_n (pc := 4) 0 dX6_isDrawNumber_4 rfl rfl <| o_ldc (pc := 5) dX6_isDrawNumber_5 k_607 <| ?_
    refine o_icmp_ge (pc := 7) (tgt := 14) dX6_isDrawNumber_7 rfl (fun h2 => ?_) (fun h2 => ?_)
    · refine o_iconst (pc := 14) dX6_isDrawNumber_14 lc_0 <| ?_
      exact o_zret (pc := 15) dX6_isDrawNumber_15 rfl rfl rfl
    · refine o_iconst (pc := 10) dX6_isDrawNumber_10 lc_1 <| o_goto (pc := 11) (tgt := 15) dX6_isDrawNumber_11 rfl <| ?_
      exact o_zret (pc := 15) dX6_isDrawNumber_15 rfl rfl rfl
