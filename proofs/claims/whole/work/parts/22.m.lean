def fM_holds_l10 (u1 : Int32) (u2 : Int32) (k0_0 : MI → Int32 → Int32 → Option (Int32 × MI)) : Nat → MI → Int32 → Int32 → Option (Int32 × MI)
  | 0, _, _, _ => none
  | n0 + 1, m, v3, v4 =>
    if ck u1 60 = true then
      if m.1 72 u1.toNatClampNeg ≤ v4 then
        k0_0 m v3 v4
      else
        if ck v4 600 = true then
          lt (m.1 73 v4.toNatClampNeg) fun x4 =>
          if x4 = -33 then
            if ck (v3 - 1) 100 = true then
              if m.1 76 (v3 - 1).toNatClampNeg = 0 then
                if ck (v3 - 1) 100 = true then
                  lm (mI m 76 (upd (m.1 76) (v3 - 1).toNatClampNeg (vp_nar .boolean 1))) fun m9 =>
                  lt (v4 + 1) fun x10 =>
                  fM_holds_l10 u1 u2 k0_0 n0 m9 v3 x10
                else none
              else
                if ck (v3 - 1) 100 = true then
                  lm (mI m 76 (upd (m.1 76) (v3 - 1).toNatClampNeg (vp_nar .boolean 0))) fun m12 =>
                  lt (v4 + 1) fun x13 =>
                  fM_holds_l10 u1 u2 k0_0 n0 m12 v3 x13
                else none
            else none
          else
            if 0 ≤ x4 then
              (fM_factOf m (x4 / 1000) u2).bind fun r15 =>
              lt ((x4 / 100) - (x4 / 100) / 10 * 10) fun x16 =>
              if x16 = 0 then
                if x4 - x4 / 100 * 100 ≤ r15.1 then
                  if ck v3 100 = true then
                    lm (mI r15.2 76 (upd (r15.2.1 76) v3.toNatClampNeg (vp_nar .boolean 0))) fun m20 =>
                    lt (v3 + 1) fun x21 =>
                    lt (v4 + 1) fun x22 =>
                    fM_holds_l10 u1 u2 k0_0 n0 m20 x21 x22
                  else none
                else
                  if ck v3 100 = true then
                    lm (mI r15.2 76 (upd (r15.2.1 76) v3.toNatClampNeg (vp_nar .boolean 1))) fun m24 =>
                    lt (v3 + 1) fun x25 =>
                    lt (v4 + 1) fun x26 =>
                    fM_holds_l10 u1 u2 k0_0 n0 m24 x25 x26
                  else none
              else
                if x16 = 1 then
                  if r15.1 = x4 - x4 / 100 * 100 then
                    if ck v3 100 = true then
                      lm (mI r15.2 76 (upd (r15.2.1 76) v3.toNatClampNeg (vp_nar .boolean 1))) fun m30 =>
                      lt (v3 + 1) fun x31 =>
                      lt (v4 + 1) fun x32 =>
                      fM_holds_l10 u1 u2 k0_0 n0 m30 x31 x32
                    else none
                  else
                    if ck v3 100 = true then
                      lm (mI r15.2 76 (upd (r15.2.1 76) v3.toNatClampNeg (vp_nar .boolean 0))) fun m34 =>
                      lt (v3 + 1) fun x35 =>
                      lt (v4 + 1) fun x36 =>
                      fM_holds_l10 u1 u2 k0_0 n0 m34 x35 x36
                    else none
                else
                  if r15.1 ≤ x4 - x4 / 100 * 100 then
                    if ck v3 100 = true then
                      lm (mI r15.2 76 (upd (r15.2.1 76) v3.toNatClampNeg (vp_nar .boolean 0))) fun m39 =>
                      lt (v3 + 1) fun x40 =>
                      lt (v4 + 1) fun x41 =>
                      fM_holds_l10 u1 u2 k0_0 n0 m39 x40 x41
                    else none
                  else
                    if ck v3 100 = true then
                      lm (mI r15.2 76 (upd (r15.2.1 76) v3.toNatClampNeg (vp_nar .boolean 1))) fun m43 =>
                      lt (v3 + 1) fun x44 =>
                      lt (v4 + 1) fun x45 =>
                      fM_holds_l10 u1 u2 k0_0 n0 m43 x44 x45
                    else none
            else
              lt (v3 + (-1)) fun x46 =>
              if x4 = -38 then
                if ck (x46 - 1) 100 = true then
                  if m.1 76 (x46 - 1).toNatClampNeg = 0 then
                    if ck (x46 - 1) 100 = true then
                      lm (mI m 76 (upd (m.1 76) (x46 - 1).toNatClampNeg (vp_nar .boolean 0))) fun m51 =>
                      lt (v4 + 1) fun x52 =>
                      fM_holds_l10 u1 u2 k0_0 n0 m51 x46 x52
                    else none
                  else
                    if ck x46 100 = true then
                      if m.1 76 x46.toNatClampNeg = 0 then
                        if ck (x46 - 1) 100 = true then
                          lm (mI m 76 (upd (m.1 76) (x46 - 1).toNatClampNeg (vp_nar .boolean 0))) fun m56 =>
                          lt (v4 + 1) fun x57 =>
                          fM_holds_l10 u1 u2 k0_0 n0 m56 x46 x57
                        else none
                      else
                        if ck (x46 - 1) 100 = true then
                          lm (mI m 76 (upd (m.1 76) (x46 - 1).toNatClampNeg (vp_nar .boolean 1))) fun m59 =>
                          lt (v4 + 1) fun x60 =>
                          fM_holds_l10 u1 u2 k0_0 n0 m59 x46 x60
                        else none
                    else none
                else none
              else
                if ck (x46 - 1) 100 = true then
                  if m.1 76 (x46 - 1).toNatClampNeg = 0 then
                    if ck x46 100 = true then
                      if m.1 76 x46.toNatClampNeg = 0 then
                        if ck (x46 - 1) 100 = true then
                          lm (mI m 76 (upd (m.1 76) (x46 - 1).toNatClampNeg (vp_nar .boolean 0))) fun m66 =>
                          lt (v4 + 1) fun x67 =>
                          fM_holds_l10 u1 u2 k0_0 n0 m66 x46 x67
                        else none
                      else
                        if ck (x46 - 1) 100 = true then
                          lm (mI m 76 (upd (m.1 76) (x46 - 1).toNatClampNeg (vp_nar .boolean 1))) fun m69 =>
                          lt (v4 + 1) fun x70 =>
                          fM_holds_l10 u1 u2 k0_0 n0 m69 x46 x70
                        else none
                    else none
                  else
                    if ck (x46 - 1) 100 = true then
                      lm (mI m 76 (upd (m.1 76) (x46 - 1).toNatClampNeg (vp_nar .boolean 1))) fun m72 =>
                      lt (v4 + 1) fun x73 =>
                      fM_holds_l10 u1 u2 k0_0 n0 m72 x46 x73
                    else none
                else none
        else none
    else none
theorem sM_holds_l10 {sh : Sh} {R : RR} (hF : Fx sh R) (u1 : Int32) (u2 : Int32) (k0_0 : MI → Int32 → Int32 → Option (Int32 × MI)) (hk0_0 : ∀ (m : MI) (v3 : Int32) (v4 : Int32) , S (eI sh R) false 1 0 0 YX7_holds sh R m 243 [(0, .ref 61), (1, .int u1), (2, .int u2), (3, .int v3), (4, .int v4)] [] (k0_0 m v3 v4)) : ∀ (n : Nat) (m : MI) (v3 : Int32) (v4 : Int32) , S (eI sh R) false 1 0 0 YX7_holds sh R m 10 [(0, .ref 61), (1, .int u1), (2, .int u2), (3, .int v3), (4, .int v4)] [] (fM_holds_l10 u1 u2 k0_0 n m v3 v4) := by
  intro n
  induction n with
  | zero => intros; exact S_none
  | succ n0 ih0 =>
    intro m v3 v4
    rw [fM_holds_l10]
    refine o_iload (pc := 10) 4 dX7_holds_10 rfl <| o_aload_n (pc := 12) 0 dX7_holds_12 rfl rfl <| o_getRc (pc := 13) (a := 72) (ci := 7) (j := 20) (nn := 0) dX7_holds_13 (hF.1 _ _ rfl) rfl (Nat.le_of_ble_eq_true rfl) k_903 rfl (hF.2 _ _ _ rfl) <| o_iload_n (pc := 16) 1 dX7_holds_16 rfl rfl <| ?_
    refine S_ck fun h1 => ?_
    refine o_iald (pc := 17) (nn := 60) dX7_holds_17 (hF.1 _ _ rfl) (ck_in h1) <| ?_
    refine o_icmp_ge (pc := 18) (tgt := 243) dX7_holds_18 rfl (fun h2 => ?_) (fun h2 => ?_)
    · exact hk0_0 m v3 v4
    · refine o_aload_n (pc := 21) 0 dX7_holds_21 rfl rfl <| o_getRc (pc := 22) (a := 73) (ci := 7) (j := 21) (nn := 0) dX7_holds_22 (hF.1 _ _ rfl) rfl (Nat.le_of_ble_eq_true rfl) k_904 rfl (hF.2 _ _ _ rfl) <| o_iload (pc := 25) 4 dX7_holds_25 rfl <| ?_
      refine S_ck fun h3 => ?_
      refine o_iald (pc := 27) (nn := 600) dX7_holds_27 (hF.1 _ _ rfl) (ck_in h3) <| ?_
      refine o_lt fun x4 => ?_
      refine o_istore (pc := 28) (ls' := [(5, .int x4), (0, .ref 61), (1, .int u1), (2, .int u2), (3, .int v3), (4, .int v4)]) dX7_holds_28 (Nat.le_of_ble_eq_true rfl) rfl <| o_iload (pc := 30) 0 dX7_holds_30 rfl <| o_bipush (pc := 32) dX7_holds_32 lb_m33 <| ?_
      refine o_icmp_ne (pc := 34) (tgt := 64) dX7_holds_34 rfl (fun h5 => ?_) (fun h5 => ?_)
      · refine o_aload_n (pc := 37) 1 dX7_holds_37 rfl rfl <| o_getRc (pc := 38) (a := 76) (ci := 7) (j := 27) (nn := 0) dX7_holds_38 (hF.1 _ _ rfl) rfl (Nat.le_of_ble_eq_true rfl) k_910 rfl (hF.2 _ _ _ rfl) <| o_iload_n (pc := 41) 4 dX7_holds_41 rfl rfl <| o_iconst (pc := 42) dX7_holds_42 lc_1 <| o_isub (pc := 43) dX7_holds_43 <| o_aload_n (pc := 44) 1 dX7_holds_44 rfl rfl <| o_getRc (pc := 45) (a := 76) (ci := 7) (j := 27) (nn := 0) dX7_holds_45 (hF.1 _ _ rfl) rfl (Nat.le_of_ble_eq_true rfl) k_910 rfl (hF.2 _ _ _ rfl) <| o_iload_n (pc := 48) 4 dX7_holds_48 rfl rfl <| o_iconst (pc := 49) dX7_holds_49 lc_1 <| o_isub (pc := 50) dX7_holds_50 <| ?_
        refine S_ck fun h6 => ?_
        refine o_zald (pc := 51) (nn := 100) dX7_holds_51 (hF.1 _ _ rfl) (ck_in h6) <| ?_
        refine o_if_ne (pc := 52) (tgt := 59) dX7_holds_52 rfl (fun h7 => ?_) (fun h7 => ?_)
        · refine o_iconst (pc := 55) dX7_holds_55 lc_1 <| o_goto (pc := 56) (tgt := 60) dX7_holds_56 rfl <| ?_
          refine S_ck fun h8 => ?_
          refine o_zast (pc := 60) (nn := 100) dX7_holds_60 (hF.1 _ _ rfl) (ck_in h8) <| ?_
          refine o_lm fun m9 => ?_
          refine o_goto (pc := 61) (tgt := 237) dX7_holds_61 rfl <| o_iinc (pc := 237) 5 (v := v4 + 1) (ls' := [(4, .int (v4 + 1)), (5, .int x4), (0, .ref 61), (1, .int u1), (2, .int u2), (3, .int v3)]) dX7_holds_237 rfl rfl (Nat.le_of_ble_eq_true rfl) rfl <| ?_
          refine o_ltL (ls := fun x10 => [(4, .int x10), (5, .int x4), (0, .ref 61), (1, .int u1), (2, .int u2), (3, .int v3)]) fun x10 => ?_
          refine o_goto (pc := 240) (tgt := 10) dX7_holds_240 rfl <| ?_
          refine o_sub [2, 3, 4, 5, 0] (ls' := [(0, .ref 61), (1, .int u1), (2, .int u2), (3, .int v3), (4, .int x10)]) rfl ?_
          exact ih0 m9 v3 x10
        · refine o_iconst (pc := 59) dX7_holds_59 lc_0 <| ?_
          refine S_ck fun h11 => ?_
          refine o_zast (pc := 60) (nn := 100) dX7_holds_60 (hF.1 _ _ rfl) (ck_in h11) <| ?_
          refine o_lm fun m12 => ?_
          refine o_goto (pc := 61) (tgt := 237) dX7_holds_61 rfl <| o_iinc (pc := 237) 5 (v := v4 + 1) (ls' := [(4, .int (v4 + 1)), (5, .int x4), (0, .ref 61), (1, .int u1), (2, .int u2), (3, .int v3)]) dX7_holds_237 rfl rfl (Nat.le_of_ble_eq_true rfl) rfl <| ?_
          refine o_ltL (ls := fun x13 => [(4, .int x13), (5, .int x4), (0, .ref 61), (1, .int u1), (2, .int u2), (3, .int v3)]) fun x13 => ?_
          refine o_goto (pc := 240) (tgt := 10) dX7_holds_240 rfl <| ?_
          refine o_sub [2, 3, 4, 5, 0] (ls' := [(0, .ref 61), (1, .int u1), (2, .int u2), (3, .int v3), (4, .int x13)]) rfl ?_
          exact ih0 m12 v3 x13
      · refine o_iload (pc := 64) 0 dX7_holds_64 rfl <| ?_
        refine o_if_ge (pc := 66) (tgt := 143) dX7_holds_66 rfl (fun h14 => ?_) (fun h14 => ?_)
        · refine o_aload_n (pc := 143) 1 dX7_holds_143 rfl rfl <| o_iload (pc := 144) 0 dX7_holds_144 rfl <| o_sipush (pc := 146) dX7_holds_146 ls_1000 <| o_idiv (pc := 149) dX7_holds_149 (by decide) <| o_iload_n (pc := 150) 3 dX7_holds_150 rfl rfl <| ?_
          refine o_callVI (Y2 := YX7_factOf) (pc := 151) (av := [.int (x4 / 1000), .int u2]) (rest := []) dX7_holds_151 k_1216 cm_X7_factOf (sM_factOf hF m (x4 / 1000) u2) (hF.1 _ _ rfl) rfl rfl (Nat.le_of_ble_eq_true rfl) (Nat.le_of_ble_eq_true rfl) fun r15 => ?_
          refine o_istore (pc := 154) (ls' := [(6, .int r15.1), (5, .int x4), (0, .ref 61), (1, .int u1), (2, .int u2), (3, .int v3), (4, .int v4)]) dX7_holds_154 (Nat.le_of_ble_eq_true rfl) rfl <| o_iload (pc := 156) 1 dX7_holds_156 rfl <| o_bipush (pc := 158) dX7_holds_158 lb_100 <| o_idiv (pc := 160) dX7_holds_160 (by decide) <| o_bipush (pc := 161) dX7_holds_161 lb_10 <| o_irem (pc := 163) dX7_holds_163 (by decide) <| ?_
          refine o_lt fun x16 => ?_
          refine o_istore (pc := 164) (ls' := [(7, .int x16), (6, .int r15.1), (5, .int x4), (0, .ref 61), (1, .int u1), (2, .int u2), (3, .int v3), (4, .int v4)]) dX7_holds_164 (Nat.le_of_ble_eq_true rfl) rfl <| o_aload_n (pc := 166) 3 dX7_holds_166 rfl rfl <| o_getRc (pc := 167) (a := 76) (ci := 7) (j := 27) (nn := 0) dX7_holds_167 (hF.1 _ _ rfl) rfl (Nat.le_of_ble_eq_true rfl) k_910 rfl (hF.2 _ _ _ rfl) <| o_iload_n (pc := 170) 6 dX7_holds_170 rfl rfl <| o_iload (pc := 171) 0 dX7_holds_171 rfl <| ?_
          refine o_if_ne (pc := 173) (tgt := 194) dX7_holds_173 rfl (fun h17 => ?_) (fun h17 => ?_)
          · refine o_iload (pc := 176) 1 dX7_holds_176 rfl <| o_iload (pc := 178) 2 dX7_holds_178 rfl <| o_bipush (pc := 180) dX7_holds_180 lb_100 <| o_irem (pc := 182) dX7_holds_182 (by decide) <| ?_
            refine o_icmp_ge (pc := 183) (tgt := 190) dX7_holds_183 rfl (fun h18 => ?_) (fun h18 => ?_)
            · refine o_iconst (pc := 190) dX7_holds_190 lc_0 <| o_goto (pc := 191) (tgt := 233) dX7_holds_191 rfl <| ?_
              refine S_ck fun h19 => ?_
              refine o_zast (pc := 233) (nn := 100) dX7_holds_233 (hF.1 _ _ rfl) (ck_in h19) <| ?_
              refine o_lm fun m20 => ?_
              refine o_iinc (pc := 234) 6 (v := v3 + 1) (ls' := [(3, .int (v3 + 1)), (7, .int x16), (6, .int r15.1), (5, .int x4), (0, .ref 61), (1, .int u1), (2, .int u2), (4, .int v4)]) dX7_holds_234 rfl rfl (Nat.le_of_ble_eq_true rfl) rfl <| ?_
              refine o_ltL (ls := fun x21 => [(3, .int x21), (7, .int x16), (6, .int r15.1), (5, .int x4), (0, .ref 61), (1, .int u1), (2, .int u2), (4, .int v4)]) fun x21 => ?_
              refine o_iinc (pc := 237) 7 (v := v4 + 1) (ls' := [(4, .int (v4 + 1)), (3, .int x21), (7, .int x16), (6, .int r15.1), (5, .int x4), (0, .ref 61), (1, .int u1), (2, .int u2)]) dX7_holds_237 rfl rfl (Nat.le_of_ble_eq_true rfl) rfl <| ?_
              refine o_ltL (ls := fun x22 => [(4, .int x22), (3, .int x21), (7, .int x16), (6, .int r15.1), (5, .int x4), (0, .ref 61), (1, .int u1), (2, .int u2)]) fun x22 => ?_
              refine o_goto (pc := 240) (tgt := 10) dX7_holds_240 rfl <| ?_
              refine o_sub [5, 6, 7, 1, 0] (ls' := [(0, .ref 61), (1, .int u1), (2, .int u2), (3, .int x21), (4, .int x22)]) rfl ?_
              exact ih0 m20 x21 x22
            · refine o_iconst (pc := 186) dX7_holds_186 lc_1 <| o_goto (pc := 187) (tgt := 233) dX7_holds_187 rfl <| ?_
              refine S_ck fun h23 => ?_
              refine o_zast (pc := 233) (nn := 100) dX7_holds_233 (hF.1 _ _ rfl) (ck_in h23) <| ?_
              refine o_lm fun m24 => ?_
              refine o_iinc (pc := 234) 6 (v := v3 + 1) (ls' := [(3, .int (v3 + 1)), (7, .int x16), (6, .int r15.1), (5, .int x4), (0, .ref 61), (1, .int u1), (2, .int u2), (4, .int v4)]) dX7_holds_234 rfl rfl (Nat.le_of_ble_eq_true rfl) rfl <| ?_
              refine o_ltL (ls := fun x25 => [(3, .int x25), (7, .int x16), (6, .int r15.1), (5, .int x4), (0, .ref 61), (1, .int u1), (2, .int u2), (4, .int v4)]) fun x25 => ?_
              refine o_iinc (pc := 237) 7 (v := v4 + 1) (ls' := [(4, .int (v4 + 1)), (3, .int x25), (7, .int x16), (6, .int r15.1), (5, .int x4), (0, .ref 61), (1, .int u1), (2, .int u2)]) dX7_holds_237 rfl rfl (Nat.le_of_ble_eq_true rfl) rfl <| ?_
              refine o_ltL (ls := fun x26 => [(4, .int x26), (3, .int x25), (7, .int x16), (6, .int r15.1), (5, .int x4), (0, .ref 61), (1, .int u1), (2, .int u2)]) fun x26 => ?_
              refine o_goto (pc := 240) (tgt := 10) dX7_holds_240 rfl <| ?_
              refine o_sub [5, 6, 7, 1, 0] (ls' := [(0, .ref 61), (1, .int u1), (2, .int u2), (3, .int x25), (4, .int x26)]) rfl ?_
              exact ih0 m24 x25 x26
          · refine o_iload (pc := 194) 0 dX7_holds_194 rfl <| o_iconst (pc := 196) dX7_holds_196 lc_1 <| ?_
            refine o_icmp_ne (pc := 197) (tgt := 218) dX7_holds_197 rfl (fun h27 => ?_) (fun h27 => ?_)
            · refine o_iload (pc := 200) 1 dX7_holds_200 rfl <| o_iload (pc := 202) 2 dX7_holds_202 rfl <| o_bipush (pc := 204) dX7_holds_204 lb_100 <| o_irem (pc := 206) dX7_holds_206 (by decide) <| ?_
              refine o_icmp_ne (pc := 207) (tgt := 214) dX7_holds_207 rfl (fun h28 => ?_) (fun h28 => ?_)
              · refine o_iconst (pc := 210) dX7_holds_210 lc_1 <| o_goto (pc := 211) (tgt := 233) dX7_holds_211 rfl <| ?_
                refine S_ck fun h29 => ?_
                refine o_zast (pc := 233) (nn := 100) dX7_holds_233 (hF.1 _ _ rfl) (ck_in h29) <| ?_
                refine o_lm fun m30 => ?_
                refine o_iinc (pc := 234) 6 (v := v3 + 1) (ls' := [(3, .int (v3 + 1)), (7, .int x16), (6, .int r15.1), (5, .int x4), (0, .ref 61), (1, .int u1), (2, .int u2), (4, .int v4)]) dX7_holds_234 rfl rfl (Nat.le_of_ble_eq_true rfl) rfl <| ?_
                refine o_ltL (ls := fun x31 => [(3, .int x31), (7, .int x16), (6, .int r15.1), (5, .int x4), (0, .ref 61), (1, .int u1), (2, .int u2), (4, .int v4)]) fun x31 => ?_
                refine o_iinc (pc := 237) 7 (v := v4 + 1) (ls' := [(4, .int (v4 + 1)), (3, .int x31), (7, .int x16), (6, .int r15.1), (5, .int x4), (0, .ref 61), (1, .int u1), (2, .int u2)]) dX7_holds_237 rfl rfl (Nat.le_of_ble_eq_true rfl) rfl <| ?_
                refine o_ltL (ls := fun x32 => [(4, .int x32), (3, .int x31), (7, .int x16), (6, .int r15.1), (5, .int x4), (0, .ref 61), (1, .int u1), (2, .int u2)]) fun x32 => ?_
                refine o_goto (pc := 240) (tgt := 10) dX7_holds_240 rfl <| ?_
                refine o_sub [5, 6, 7, 1, 0] (ls' := [(0, .ref 61), (1, .int u1), (2, .int u2), (3, .int x31), (4, .int x32)]) rfl ?_
                exact ih0 m30 x31 x32
              · refine o_iconst (pc := 214) dX7_holds_214 lc_0 <| o_goto (pc := 215) (tgt := 233) dX7_holds_215 rfl <| ?_
                refine S_ck fun h33 => ?_
                refine o_zast (pc := 233) (nn := 100) dX7_holds_233 (hF.1 _ _ rfl) (ck_in h33) <| ?_
                refine o_lm fun m34 => ?_
                refine o_iinc (pc := 234) 6 (v := v3 + 1) (ls' := [(3, .int (v3 + 1)), (7, .int x16), (6, .int r15.1), (5, .int x4), (0, .ref 61), (1, .int u1), (2, .int u2), (4, .int v4)]) dX7_holds_234 rfl rfl (Nat.le_of_ble_eq_true rfl) rfl <| ?_
                refine o_ltL (ls := fun x35 => [(3, .int x35), (7, .int x16), (6, .int r15.1), (5, .int x4), (0, .ref 61), (1, .int u1), (2, .int u2), (4, .int v4)]) fun x35 => ?_
                refine o_iinc (pc := 237) 7 (v := v4 + 1) (ls' := [(4, .int (v4 + 1)), (3, .int x35), (7, .int x16), (6, .int r15.1), (5, .int x4), (0, .ref 61), (1, .int u1), (2, .int u2)]) dX7_holds_237 rfl rfl (Nat.le_of_ble_eq_true rfl) rfl <| ?_
                refine o_ltL (ls := fun x36 => [(4, .int x36), (3, .int x35), (7, .int x16), (6, .int r15.1), (5, .int x4), (0, .ref 61), (1, .int u1), (2, .int u2)]) fun x36 => ?_
                refine o_goto (pc := 240) (tgt := 10) dX7_holds_240 rfl <| ?_
                refine o_sub [5, 6, 7, 1, 0] (ls' := [(0, .ref 61), (1, .int u1), (2, .int u2), (3, .int x35), (4, .int x36)]) rfl ?_
                exact ih0 m34 x35 x36
            · refine o_iload (pc := 218) 1 dX7_holds_218 rfl <| o_iload (pc := 220) 2 dX7_holds_220 rfl <| o_bipush (pc := 222) dX7_holds_222 lb_100 <| o_irem (pc := 224) dX7_holds_224 (by decide) <| ?_
              refine o_icmp_le (pc := 225) (tgt := 232) dX7_holds_225 rfl (fun h37 => ?_) (fun h37 => ?_)
              · refine o_iconst (pc := 232) dX7_holds_232 lc_0 <| ?_
                refine S_ck fun h38 => ?_
                refine o_zast (pc := 233) (nn := 100) dX7_holds_233 (hF.1 _ _ rfl) (ck_in h38) <| ?_
                refine o_lm fun m39 => ?_
                refine o_iinc (pc := 234) 6 (v := v3 + 1) (ls' := [(3, .int (v3 + 1)), (7, .int x16), (6, .int r15.1), (5, .int x4), (0, .ref 61), (1, .int u1), (2, .int u2), (4, .int v4)]) dX7_holds_234 rfl rfl (Nat.le_of_ble_eq_true rfl) rfl <| ?_
                refine o_ltL (ls := fun x40 => [(3, .int x40), (7, .int x16), (6, .int r15.1), (5, .int x4), (0, .ref 61), (1, .int u1), (2, .int u2), (4, .int v4)]) fun x40 => ?_
                refine o_iinc (pc := 237) 7 (v := v4 + 1) (ls' := [(4, .int (v4 + 1)), (3, .int x40), (7, .int x16), (6, .int r15.1), (5, .int x4), (0, .ref 61), (1, .int u1), (2, .int u2)]) dX7_holds_237 rfl rfl (Nat.le_of_ble_eq_true rfl) rfl <| ?_
                refine o_ltL (ls := fun x41 => [(4, .int x41), (3, .int x40), (7, .int x16), (6, .int r15.1), (5, .int x4), (0, .ref 61), (1, .int u1), (2, .int u2)]) fun x41 => ?_
                refine o_goto (pc := 240) (tgt := 10) dX7_holds_240 rfl <| ?_
                refine o_sub [5, 6, 7, 1, 0] (ls' := [(0, .ref 61), (1, .int u1), (2, .int u2), (3, .int x40), (4, .int x41)]) rfl ?_
                exact ih0 m39 x40 x41
              · refine o_iconst (pc := 228) dX7_holds_228 lc_1 <| o_goto (pc := 229) (tgt := 233) dX7_holds_229 rfl <| ?_
                refine S_ck fun h42 => ?_
                refine o_zast (pc := 233) (nn := 100) dX7_holds_233 (hF.1 _ _ rfl) (ck_in h42) <| ?_
                refine o_lm fun m43 => ?_
                refine o_iinc (pc := 234) 6 (v := v3 + 1) (ls' := [(3, .int (v3 + 1)), (7, .int x16), (6, .int r15.1), (5, .int x4), (0, .ref 61), (1, .int u1), (2, .int u2), (4, .int v4)]) dX7_holds_234 rfl rfl (Nat.le_of_ble_eq_true rfl) rfl <| ?_
                refine o_ltL (ls := fun x44 => [(3, .int x44), (7, .int x16), (6, .int r15.1), (5, .int x4), (0, .ref 61), (1, .int u1), (2, .int u2), (4, .int v4)]) fun x44 => ?_
                refine o_iinc (pc := 237) 7 (v := v4 + 1) (ls' := [(4, .int (v4 + 1)), (3, .int x44), (7, .int x16), (6, .int r15.1), (5, .int x4), (0, .ref 61), (1, .int u1), (2, .int u2)]) dX7_holds_237 rfl rfl (Nat.le_of_ble_eq_true rfl) rfl <| ?_
                refine o_ltL (ls := fun x45 => [(4, .int x45), (3, .int x44), (7, .int x16), (6, .int r15.1), (5, .int x4), (0, .ref 61), (1, .int u1), (2, .int u2)]) fun x45 => ?_
                refine o_goto (pc := 240) (tgt := 10) dX7_holds_240 rfl <| ?_
                refine o_sub [5, 6, 7, 1, 0] (ls' := [(0, .ref 61), (1, .int u1), (2, .int u2), (3, .int x44), (4, .int x45)]) rfl ?_
                exact ih0 m43 x44 x45
        · refine o_iinc (pc := 69) 4 (v := v3 + (-1)) (ls' := [(3, .int (v3 + (-1))), (5, .int x4), (0, .ref 61), (1, .int u1), (2, .int u2), (4, .int v4)]) dX7_holds_69 rfl rfl (Nat.le_of_ble_eq_true rfl) rfl <| ?_
          refine o_ltL (ls := fun x46 => [(3, .int x46), (5, .int x4), (0, .ref 61), (1, .int u1), (2, .int u2), (4, .int v4)]) fun x46 => ?_
          refine o_aload_n (pc := 72) 2 dX7_holds_72 rfl rfl <| o_getRc (pc := 73) (a := 76) (ci := 7) (j := 27) (nn := 0) dX7_holds_73 (hF.1 _ _ rfl) rfl (Nat.le_of_ble_eq_true rfl) k_910 rfl (hF.2 _ _ _ rfl) <| o_iload_n (pc := 76) 0 dX7_holds_76 rfl rfl <| o_iconst (pc := 77) dX7_holds_77 lc_1 <| o_isub (pc := 78) dX7_holds_78 <| o_iload (pc := 79) 1 dX7_holds_79 rfl <| o_bipush (pc := 81) dX7_holds_81 lb_m38 <| ?_
          refine o_icmp_ne (pc := 83) (tgt := 114) dX7_holds_83 rfl (fun h47 => ?_) (fun h47 => ?_)
          · refine o_aload_n (pc := 86) 2 dX7_holds_86 rfl rfl <| o_getRc (pc := 87) (a := 76) (ci := 7) (j := 27) (nn := 0) dX7_holds_87 (hF.1 _ _ rfl) rfl (Nat.le_of_ble_eq_true rfl) k_910 rfl (hF.2 _ _ _ rfl) <| o_iload_n (pc := 90) 0 dX7_holds_90 rfl rfl <| o_iconst (pc := 91) dX7_holds_91 lc_1 <| o_isub (pc := 92) dX7_holds_92 <| ?_
            refine S_ck fun h48 => ?_
            refine o_zald (pc := 93) (nn := 100) dX7_holds_93 (hF.1 _ _ rfl) (ck_in h48) <| ?_
            refine o_if_eq (pc := 94) (tgt := 110) dX7_holds_94 rfl (fun h49 => ?_) (fun h49 => ?_)
            · refine o_iconst (pc := 110) dX7_holds_110 lc_0 <| o_goto (pc := 111) (tgt := 139) dX7_holds_111 rfl <| ?_
              refine S_ck fun h50 => ?_
              refine o_zast (pc := 139) (nn := 100) dX7_holds_139 (hF.1 _ _ rfl) (ck_in h50) <| ?_
              refine o_lm fun m51 => ?_
              refine o_goto (pc := 140) (tgt := 237) dX7_holds_140 rfl <| o_iinc (pc := 237) 5 (v := v4 + 1) (ls' := [(4, .int (v4 + 1)), (3, .int x46), (5, .int x4), (0, .ref 61), (1, .int u1), (2, .int u2)]) dX7_holds_237 rfl rfl (Nat.le_of_ble_eq_true rfl) rfl <| ?_
              refine o_ltL (ls := fun x52 => [(4, .int x52), (3, .int x46), (5, .int x4), (0, .ref 61), (1, .int u1), (2, .int u2)]) fun x52 => ?_
              refine o_goto (pc := 240) (tgt := 10) dX7_holds_240 rfl <| ?_
              refine o_sub [3, 4, 5, 1, 0] (ls' := [(0, .ref 61), (1, .int u1), (2, .int u2), (3, .int x46), (4, .int x52)]) rfl ?_
              exact ih0 m51 x46 x52
            · refine o_aload_n (pc := 97) 2 dX7_holds_97 rfl rfl <| o_getRc (pc := 98) (a := 76) (ci := 7) (j := 27) (nn := 0) dX7_holds_98 (hF.1 _ _ rfl) rfl (Nat.le_of_ble_eq_true rfl) k_910 rfl (hF.2 _ _ _ rfl) <| o_iload_n (pc := 101) 0 dX7_holds_101 rfl rfl <| ?_
              refine S_ck fun h53 => ?_
              refine o_zald (pc := 102) (nn := 100) dX7_holds_102 (hF.1 _ _ rfl) (ck_in h53) <| ?_
              refine o_if_eq (pc := 103) (tgt := 110) dX7_holds_103 rfl (fun h54 => ?_) (fun h54 => ?_)
              · refine o_iconst (pc := 110) dX7_holds_110 lc_0 <| o_goto (pc := 111) (tgt := 139) dX7_holds_111 rfl <| ?_
                refine S_ck fun h55 => ?_
                refine o_zast (pc := 139) (nn := 100) dX7_holds_139 (hF.1 _ _ rfl) (ck_in h55) <| ?_
                refine o_lm fun m56 => ?_
                refine o_goto (pc := 140) (tgt := 237) dX7_holds_140 rfl <| o_iinc (pc := 237) 5 (v := v4 + 1) (ls' := [(4, .int (v4 + 1)), (3, .int x46), (5, .int x4), (0, .ref 61), (1, .int u1), (2, .int u2)]) dX7_holds_237 rfl rfl (Nat.le_of_ble_eq_true rfl) rfl <| ?_
                refine o_ltL (ls := fun x57 => [(4, .int x57), (3, .int x46), (5, .int x4), (0, .ref 61), (1, .int u1), (2, .int u2)]) fun x57 => ?_
                refine o_goto (pc := 240) (tgt := 10) dX7_holds_240 rfl <| ?_
                refine o_sub [3, 4, 5, 1, 0] (ls' := [(0, .ref 61), (1, .int u1), (2, .int u2), (3, .int x46), (4, .int x57)]) rfl ?_
                exact ih0 m56 x46 x57
              · refine o_iconst (pc := 106) dX7_holds_106 lc_1 <| o_goto (pc := 107) (tgt := 139) dX7_holds_107 rfl <| ?_
                refine S_ck fun h58 => ?_
                refine o_zast (pc := 139) (nn := 100) dX7_holds_139 (hF.1 _ _ rfl) (ck_in h58) <| ?_
                refine o_lm fun m59 => ?_
                refine o_goto (pc := 140) (tgt := 237) dX7_holds_140 rfl <| o_iinc (pc := 237) 5 (v := v4 + 1) (ls' := [(4, .int (v4 + 1)), (3, .int x46), (5, .int x4), (0, .ref 61), (1, .int u1), (2, .int u2)]) dX7_holds_237 rfl rfl (Nat.le_of_ble_eq_true rfl) rfl <| ?_
                refine o_ltL (ls := fun x60 => [(4, .int x60), (3, .int x46), (5, .int x4), (0, .ref 61), (1, .int u1), (2, .int u2)]) fun x60 => ?_
                refine o_goto (pc := 240) (tgt := 10) dX7_holds_240 rfl <| ?_
                refine o_sub [3, 4, 5, 1, 0] (ls' := [(0, .ref 61), (1, .int u1), (2, .int u2), (3, .int x46), (4, .int x60)]) rfl ?_
                exact ih0 m59 x46 x60
          · refine o_aload_n (pc := 114) 2 dX7_holds_114 rfl rfl <| o_getRc (pc := 115) (a := 76) (ci := 7) (j := 27) (nn := 0) dX7_holds_115 (hF.1 _ _ rfl) rfl (Nat.le_of_ble_eq_true rfl) k_910 rfl (hF.2 _ _ _ rfl) <| o_iload_n (pc := 118) 0 dX7_holds_118 rfl rfl <| o_iconst (pc := 119) dX7_holds_119 lc_1 <| o_isub (pc := 120) dX7_holds_120 <| ?_
            refine S_ck fun h61 => ?_
            refine o_zald (pc := 121) (nn := 100) dX7_holds_121 (hF.1 _ _ rfl) (ck_in h61) <| ?_
            refine o_if_ne (pc := 122) (tgt := 134) dX7_holds_122 rfl (fun h62 => ?_) (fun h62 => ?_)
            · refine o_aload_n (pc := 125) 2 dX7_holds_125 rfl rfl <| o_getRc (pc := 126) (a := 76) (ci := 7) (j := 27) (nn := 0) dX7_holds_126 (hF.1 _ _ rfl) rfl (Nat.le_of_ble_eq_true rfl) k_910 rfl (hF.2 _ _ _ rfl) <| o_iload_n (pc := 129) 0 dX7_holds_129 rfl rfl <| ?_
              refine S_ck fun h63 => ?_
              refine o_zald (pc := 130) (nn := 100) dX7_holds_130 (hF.1 _ _ rfl) (ck_in h63) <| ?_
              refine o_if_eq (pc := 131) (tgt := 138) dX7_holds_131 rfl (fun h64 => ?_) (fun h64 => ?_)
              · refine o_iconst (pc := 138) dX7_holds_138 lc_0 <| ?_
                refine S_ck fun h65 => ?_
                refine o_zast (pc := 139) (nn := 100) dX7_holds_139 (hF.1 _ _ rfl) (ck_in h65) <| ?_
                refine o_lm fun m66 => ?_
                refine o_goto (pc := 140) (tgt := 237) dX7_holds_140 rfl <| o_iinc (pc := 237) 5 (v := v4 + 1) (ls' := [(4, .int (v4 + 1)), (3, .int x46), (5, .int x4), (0, .ref 61), (1, .int u1), (2, .int u2)]) dX7_holds_237 rfl rfl (Nat.le_of_ble_eq_true rfl) rfl <| ?_
                refine o_ltL (ls := fun x67 => [(4, .int x67), (3, .int x46), (5, .int x4), (0, .ref 61), (1, .int u1), (2, .int u2)]) fun x67 => ?_
                refine o_goto (pc := 240) (tgt := 10) dX7_holds_240 rfl <| ?_
                refine o_sub [3, 4, 5, 1, 0] (ls' := [(0, .ref 61), (1, .int u1), (2, .int u2), (3, .int x46), (4, .int x67)]) rfl ?_
                exact ih0 m66 x46 x67
              · refine o_iconst (pc := 134) dX7_holds_134 lc_1 <| o_goto (pc := 135) (tgt := 139) dX7_holds_135 rfl <| ?_
                refine S_ck fun h68 => ?_
                refine o_zast (pc := 139) (nn := 100) dX7_holds_139 (hF.1 _ _ rfl) (ck_in h68) <| ?_
                refine o_lm fun m69 => ?_
                refine o_goto (pc := 140) (tgt := 237) dX7_holds_140 rfl <| o_iinc (pc := 237) 5 (v := v4 + 1) (ls' := [(4, .int (v4 + 1)), (3, .int x46), (5, .int x4), (0, .ref 61), (1, .int u1), (2, .int u2)]) dX7_holds_237 rfl rfl (Nat.le_of_ble_eq_true rfl) rfl <| ?_
                refine o_ltL (ls := fun x70 => [(4, .int x70), (3, .int x46), (5, .int x4), (0, .ref 61), (1, .int u1), (2, .int u2)]) fun x70 => ?_
                refine o_goto (pc := 240) (tgt := 10) dX7_holds_240 rfl <| ?_
                refine o_sub [3, 4, 5, 1, 0] (ls' := [(0, .ref 61), (1, .int u1), (2, .int u2), (3, .int x46), (4, .int x70)]) rfl ?_
                exact ih0 m69 x46 x70
            · refine o_iconst (pc := 134) dX7_holds_134 lc_1 <| o_goto (pc := 135) (tgt := 139) dX7_holds_135 rfl <| ?_
              refine S_ck fun h71 => ?_
              refine o_zast (pc := 139) (nn := 100) dX7_holds_139 (hF.1 _ _ rfl) (ck_in h71) <| ?_
              refine o_lm fun m72 => ?_
              refine o_goto (pc := 140) (tgt := 237) dX7_holds_140 rfl <| o_iinc (pc := 237) 5 (v := v4 + 1) (ls' := [(4, .int (v4 + 1)), (3, .int x46), (5, .int x4), (0, .ref 61), (1, .int u1), (2, .int u2)]) dX7_holds_237 rfl rfl (Nat.le_of_ble_eq_true rfl) rfl <| ?_
              refine o_ltL (ls := fun x73 => [(4, .int x73), (3, .int x46), (5, .int x4), (0, .ref 61), (1, .int u1), (2, .int u2)]) fun x73 => ?_
              refine o_goto (pc := 240) (tgt := 10) dX7_holds_240 rfl <| ?_
              refine o_sub [3, 4, 5, 1, 0] (ls' := [(0, .ref 61), (1, .int u1), (2, .int u2), (3, .int x46), (4, .int x73)]) rfl ?_
              exact ih0 m72 x46 x73
def fM_holds (m : MI) (a : Int32) (b : Int32) : Option (Int32 × MI) :=
  if ck a 60 = true then
    lt (m.1 71 a.toNatClampNeg) fun x2 =>
    fM_holds_l10 a b
      (fun m5 z3 z4 =>
        if zb (m5.1 76 (0 : Int32).toNatClampNeg) = true then some (m5.1 76 (0 : Int32).toNatClampNeg, m5) else none
        )
      1000 m 0 x2
  else none
theorem sM_holds {sh : Sh} {R : RR} (hF : Fx sh R) (m : MI) (a : Int32) (b : Int32) : KS (eI sh R) false 1 0 0 YX7_holds sh R m [.ref 61, .int a, .int b] (fM_holds m a b) := by
  refine KS_of pn_X7 (fun _ => Nat.le_of_ble_eq_true rfl) ?_
  change S _ _ _ _ _ _ _ _ _ _ [(0, .ref 61), (1, .int a), (2, .int b)] [] _
  unfold fM_holds
  refine o_iconst (pc := 0) dX7_holds_0 lc_0 <| o_istore_n (pc := 1) (ls' := [(3, .int 0), (0, .ref 61), (1, .int a), (2, .int b)]) dX7_holds_1 rfl (Nat.le_of_ble_eq_true rfl) rfl <| o_aload_n (pc := 2) 1 dX7_holds_2 rfl rfl <| o_getRc (pc := 3) (a := 71) (ci := 7) (j := 19) (nn := 0) dX7_holds_3 (hF.1 _ _ rfl) rfl (Nat.le_of_ble_eq_true rfl) k_902 rfl (hF.2 _ _ _ rfl) <| o_iload_n (pc := 6) 2 dX7_holds_6 rfl rfl <| ?_
  refine S_ck fun h1 => ?_
  refine o_iald (pc := 7) (nn := 60) dX7_holds_7 (hF.1 _ _ rfl) (ck_in h1) <| ?_
  refine o_lt fun x2 => ?_
  refine o_istore (pc := 8) (ls' := [(4, .int x2), (3, .int 0), (0, .ref 61), (1, .int a), (2, .int b)]) dX7_holds_8 (Nat.le_of_ble_eq_true rfl) rfl <| ?_
  refine o_sub [2, 3, 4, 1, 0] (ls' := [(0, .ref 61), (1, .int a), (2, .int b), (3, .int 0), (4, .int x2)]) rfl ?_
  refine sM_holds_l10 hF a b _ ?_ 1000 m 0 x2
  · intro m5 z3 z4
    refine o_aload_n (pc := 243) 0 dX7_holds_243 rfl rfl <| o_getRc (pc := 244) (a := 76) (ci := 7) (j := 27) (nn := 0) dX7_holds_244 (hF.1 _ _ rfl) rfl (Nat.le_of_ble_eq_true rfl) k_910 rfl (hF.2 _ _ _ rfl) <| o_iconst (pc := 247) dX7_holds_247 lc_0 <| o_zald (pc := 248) (nn := 100) dX7_holds_248 (hF.1 _ _ rfl) (ck_in rfl) <| ?_
    refine S_ck fun h6 => ?_
    exact o_zret (pc := 249) dX7_holds_249 rfl (zb_ok h6) rfl
def fM_plainly_l8 (u1 : Int32) (k0_0 : MI → Int32 → Int32 → Option (Int32 × MI)) : Nat → MI → Int32 → Int32 → Option (Int32 × MI)
  | 0, _, _, _ => none
  | n0 + 1, m, v2, v3 =>
    (fM_behind m).bind fun r1 =>
    if r1.1 ≤ v3 then
      k0_0 r1.2 v2 v3
    else
      if ck v3 60 = true then
        if 2 ≤ r1.2.1 69 v3.toNatClampNeg then
          lt (v3 + 1) fun x5 =>
          fM_plainly_l8 u1 k0_0 n0 r1.2 v2 x5
        else
          (fM_holds r1.2 v3 u1).bind fun r6 =>
          if r6.1 = 0 then
            lt (v3 + 1) fun x8 =>
            fM_plainly_l8 u1 k0_0 n0 r6.2 v2 x8
          else
            if ck v3 60 = true then
              if r6.2.1 69 v3.toNatClampNeg = 0 then
                if ck v3 60 = true then
                  lt (v2 + (r6.2.1 70 v3.toNatClampNeg)) fun x12 =>
                  lt (v3 + 1) fun x13 =>
                  fM_plainly_l8 u1 k0_0 n0 r6.2 x12 x13
                else none
              else
                if ck v3 60 = true then
                  lt (v2 + (-(r6.2.1 70 v3.toNatClampNeg))) fun x15 =>
                  lt (v3 + 1) fun x16 =>
                  fM_plainly_l8 u1 k0_0 n0 r6.2 x15 x16
                else none
            else none
      else none
theorem sM_plainly_l8 {sh : Sh} {R : RR} (hF : Fx sh R) (u1 : Int32) (k0_0 : MI → Int32 → Int32 → Option (Int32 × MI)) (hk0_0 : ∀ (m : MI) (v2 : Int32) (v3 : Int32) , S (eI sh R) false 2 0 0 YX7_plainly sh R m 72 [(0, .ref 61), (1, .int u1), (2, .int v2), (3, .int v3)] [] (k0_0 m v2 v3)) : ∀ (n : Nat) (m : MI) (v2 : Int32) (v3 : Int32) , S (eI sh R) false 2 0 0 YX7_plainly sh R m 8 [(0, .ref 61), (1, .int u1), (2, .int v2), (3, .int v3)] [] (fM_plainly_l8 u1 k0_0 n m v2 v3) := by
  intro n
  induction n with
  | zero => intros; exact S_none
  | succ n0 ih0 =>
    intro m v2 v3
    rw [fM_plainly_l8]
    refine o_iload_n (pc := 8) 3 dX7_plainly_8 rfl rfl <| o_aload_n (pc := 9) 0 dX7_plainly_9 rfl rfl <| ?_
    refine o_callVI (Y2 := YX7_behind) (pc := 10) (av := []) (rest := [.int v3]) dX7_plainly_10 k_875 cm_X7_behind (sM_behind hF m ) (hF.1 _ _ rfl) rfl rfl (Nat.le_of_ble_eq_true rfl) (Nat.le_of_ble_eq_true rfl) fun r1 => ?_
    refine o_icmp_ge (pc := 13) (tgt := 72) dX7_plainly_13 rfl (fun h2 => ?_) (fun h2 => ?_)
    · exact hk0_0 r1.2 v2 v3
    · refine o_aload_n (pc := 16) 0 dX7_plainly_16 rfl rfl <| o_getRc (pc := 17) (a := 69) (ci := 7) (j := 17) (nn := 0) dX7_plainly_17 (hF.1 _ _ rfl) rfl (Nat.le_of_ble_eq_true rfl) k_900 rfl (hF.2 _ _ _ rfl) <| o_iload_n (pc := 20) 3 dX7_plainly_20 rfl rfl <| ?_
      refine S_ck fun h3 => ?_
      refine o_iald (pc := 21) (nn := 60) dX7_plainly_21 (hF.1 _ _ rfl) (ck_in h3) <| o_iconst (pc := 22) dX7_plainly_22 lc_2 <| ?_
      refine o_icmp_ge (pc := 23) (tgt := 66) dX7_plainly_23 rfl (fun h4 => ?_) (fun h4 => ?_)
      · refine o_iinc (pc := 66) 3 (v := v3 + 1) (ls' := [(3, .int (v3 + 1)), (0, .ref 61), (1, .int u1), (2, .int v2)]) dX7_plainly_66 rfl rfl (Nat.le_of_ble_eq_true rfl) rfl <| ?_
        refine o_ltL (ls := fun x5 => [(3, .int x5), (0, .ref 61), (1, .int u1), (2, .int v2)]) fun x5 => ?_
        refine o_goto (pc := 69) (tgt := 8) dX7_plainly_69 rfl <| ?_
        refine o_sub [1, 2, 3, 0] (ls' := [(0, .ref 61), (1, .int u1), (2, .int v2), (3, .int x5)]) rfl ?_
        exact ih0 r1.2 v2 x5
      · refine o_aload_n (pc := 26) 0 dX7_plainly_26 rfl rfl <| o_iload_n (pc := 27) 3 dX7_plainly_27 rfl rfl <| o_iload_n (pc := 28) 1 dX7_plainly_28 rfl rfl <| ?_
        refine o_callVI (Y2 := YX7_holds) (pc := 29) (av := [.int v3, .int u1]) (rest := []) dX7_plainly_29 k_1212 cm_X7_holds (sM_holds hF r1.2 v3 u1) (hF.1 _ _ rfl) rfl rfl (Nat.le_of_ble_eq_true rfl) (Nat.le_of_ble_eq_true rfl) fun r6 => ?_
        refine o_if_ne (pc := 32) (tgt := 38) dX7_plainly_32 rfl (fun h7 => ?_) (fun h7 => ?_)
        · refine o_goto (pc := 35) (tgt := 66) dX7_plainly_35 rfl <| o_iinc (pc := 66) 3 (v := v3 + 1) (ls' := [(3, .int (v3 + 1)), (0, .ref 61), (1, .int u1), (2, .int v2)]) dX7_plainly_66 rfl rfl (Nat.le_of_ble_eq_true rfl) rfl <| ?_
          refine o_ltL (ls := fun x8 => [(3, .int x8), (0, .ref 61), (1, .int u1), (2, .int v2)]) fun x8 => ?_
          refine o_goto (pc := 69) (tgt := 8) dX7_plainly_69 rfl <| ?_
          refine o_sub [1, 2, 3, 0] (ls' := [(0, .ref 61), (1, .int u1), (2, .int v2), (3, .int x8)]) rfl ?_
          exact ih0 r6.2 v2 x8
        · refine o_iload_n (pc := 38) 2 dX7_plainly_38 rfl rfl <| o_aload_n (pc := 39) 0 dX7_plainly_39 rfl rfl <| o_getRc (pc := 40) (a := 69) (ci := 7) (j := 17) (nn := 0) dX7_plainly_40 (hF.1 _ _ rfl) rfl (Nat.le_of_ble_eq_true rfl) k_900 rfl (hF.2 _ _ _ rfl) <| o_iload_n (pc := 43) 3 dX7_plainly_43 rfl rfl <| ?_
          refine S_ck fun h9 => ?_
          refine o_iald (pc := 44) (nn := 60) dX7_plainly_44 (hF.1 _ _ rfl) (ck_in h9) <| ?_
          refine o_if_ne (pc := 45) (tgt := 57) dX7_plainly_45 rfl (fun h10 => ?_) (fun h10 => ?_)
          · refine o_aload_n (pc := 48) 0 dX7_plainly_48 rfl rfl <| o_getRc (pc := 49) (a := 70) (ci := 7) (j := 18) (nn := 0) dX7_plainly_49 (hF.1 _ _ rfl) rfl (Nat.le_of_ble_eq_true rfl) k_901 rfl (hF.2 _ _ _ rfl) <| o_iload_n (pc := 52) 3 dX7_plainly_52 rfl rfl <| ?_
            refine S_ck fun h11 => ?_
            refine o_iald (pc := 53) (nn := 60) dX7_plainly_53 (hF.1 _ _ rfl) (ck_in h11) <| o_goto (pc := 54) (tgt := 64) dX7_plainly_54 rfl <| o_iadd (pc := 64) dX7_plainly_64 <| ?_
            refine o_lt fun x12 => ?_
            refine o_istore_n (pc := 65) (ls' := [(2, .int x12), (0, .ref 61), (1, .int u1), (3, .int v3)]) dX7_plainly_65 rfl (Nat.le_of_ble_eq_true rfl) rfl <| o_iinc (pc := 66) 3 (v := v3 + 1) (ls' := [(3, .int (v3 + 1)), (2, .int x12), (0, .ref 61), (1, .int u1)]) dX7_plainly_66 rfl rfl (Nat.le_of_ble_eq_true rfl) rfl <| ?_
            refine o_ltL (ls := fun x13 => [(3, .int x13), (2, .int x12), (0, .ref 61), (1, .int u1)]) fun x13 => ?_
            refine o_goto (pc := 69) (tgt := 8) dX7_plainly_69 rfl <| ?_
            refine o_sub [2, 3, 1, 0] (ls' := [(0, .ref 61), (1, .int u1), (2, .int x12), (3, .int x13)]) rfl ?_
            exact ih0 r6.2 x12 x13
          · refine o_aload_n (pc := 57) 0 dX7_plainly_57 rfl rfl <| o_getRc (pc := 58) (a := 70) (ci := 7) (j := 18) (nn := 0) dX7_plainly_58 (hF.1 _ _ rfl) rfl (Nat.le_of_ble_eq_true rfl) k_901 rfl (hF.2 _ _ _ rfl) <| o_iload_n (pc := 61) 3 dX7_plainly_61 rfl rfl <| ?_
            refine S_ck fun h14 => ?_
            refine o_iald (pc := 62) (nn := 60) dX7_plainly_62 (hF.1 _ _ rfl) (ck_in h14) <| o_ineg (pc := 63) dX7_plainly_63 <| o_iadd (pc := 64) dX7_plainly_64 <| ?_
            refine o_lt fun x15 => ?_
            refine o_istore_n (pc := 65) (ls' := [(2, .int x15), (0, .ref 61), (1, .int u1), (3, .int v3)]) dX7_plainly_65 rfl (Nat.le_of_ble_eq_true rfl) rfl <| o_iinc (pc := 66) 3 (v := v3 + 1) (ls' := [(3, .int (v3 + 1)), (2, .int x15), (0, .ref 61), (1, .int u1)]) dX7_plainly_66 rfl rfl (Nat.le_of_ble_eq_true rfl) rfl <| ?_
            refine o_ltL (ls := fun x16 => [(3, .int x16), (2, .int x15), (0, .ref 61), (1, .int u1)]) fun x16 => ?_
            refine o_goto (pc := 69) (tgt := 8) dX7_plainly_69 rfl <| ?_
            refine o_sub [2, 3, 1, 0] (ls' := [(0, .ref 61), (1, .int u1), (2, .int x15), (3, .int x16)]) rfl ?_
            exact ih0 r6.2 x15 x16
def fM_plainly (m : MI) (a : Int32) : Option (Int32 × MI) :=
  (fM_begin m).bind fun r1 =>
  fM_plainly_l8 a
    (fun m4 z2 z3 =>
      if 0 ≤ z2 then
        some (z2, m4)
      else
        some (0, m4)
      )
    1000 r1.2 10 r1.1
theorem sM_plainly {sh : Sh} {R : RR} (hF : Fx sh R) (m : MI) (a : Int32) : KS (eI sh R) false 2 0 0 YX7_plainly sh R m [.ref 61, .int a] (fM_plainly m a) := by
  refine KS_of pn_X7 (fun _ => Nat.le_of_ble_eq_true rfl) ?_
  change S _ _ _ _ _ _ _ _ _ _ [(0, .ref 61), (1, .int a)] [] _
  unfold fM_plainly
  refine o_bipush (pc := 0) dX7_plainly_0 lb_10 <| o_istore_n (pc := 2) (ls' := [(2, .int 10), (0, .ref 61), (1, .int a)]) dX7_plainly_2 rfl (Nat.le_of_ble_eq_true rfl) rfl <| o_aload_n (pc := 3) 1 dX7_plainly_3 rfl rfl <| ?_
  refine o_callVI (Y2 := YX7_begin) (pc := 4) (av := []) (rest := []) dX7_plainly_4 k_871 cm_X7_begin (sM_begin hF m ) (hF.1 _ _ rfl) rfl rfl (Nat.le_of_ble_eq_true rfl) (Nat.le_of_ble_eq_true rfl) fun r1 => ?_
  refine o_istore_n (pc := 7) (ls' := [(3, .int r1.1), (2, .int 10), (0, .ref 61), (1, .int a)]) dX7_plainly_7 rfl (Nat.le_of_ble_eq_true rfl) rfl <| ?_
  refine o_sub [2, 3, 1, 0] (ls' := [(0, .ref 61), (1, .int a), (2, .int 10), (3, .int r1.1)]) rfl ?_
  refine sM_plainly_l8 hF a _ ?_ 1000 r1.2 10 r1.1
  · intro m4 z2 z3
    refine o_iload_n (pc := 72) 2 dX7_plainly_72 rfl rfl <| ?_
    refine o_if_ge (pc := 73) (tgt := 80) dX7_plainly_73 rfl (fun h5 => ?_) (fun h5 => ?_)
    · refine o_iload_n (pc := 80) 2 dX7_plainly_80 rfl rfl <| ?_
      exact o_iret (pc := 81) dX7_plainly_81 rfl rfl
    · refine o_iconst (pc := 76) dX7_plainly_76 lc_0 <| o_goto (pc := 77) (tgt := 81) dX7_plainly_77 rfl <| ?_
      exact o_iret (pc := 81) dX7_plainly_81 rfl rfl
def fM_keenly (m : MI) (a : Int32) : Option (Int32 × MI) :=
  (fM_plainly m a).bind fun r1 =>
  if ck a 6 = true then
    lt (r1.1 - (r1.2.1 63 a.toNatClampNeg)) fun x3 =>
    if 0 ≤ x3 then
      some (x3, r1.2)
    else
      some (0, r1.2)
  else none
theorem sM_keenly {sh : Sh} {R : RR} (hF : Fx sh R) (m : MI) (a : Int32) : KS (eI sh R) false 3 0 0 YX7_keenly sh R m [.ref 61, .int a] (fM_keenly m a) := by
  refine KS_of pn_X7 (fun _ => Nat.le_of_ble_eq_true rfl) ?_
  change S _ _ _ _ _ _ _ _ _ _ [(0, .ref 61), (1, .int a)] [] _
  unfold fM_keenly
  refine o_aload_n (pc := 0) 0 dX7_keenly_0 rfl rfl <| o_iload_n (pc := 1) 1 dX7_keenly_1 rfl rfl <| ?_
  refine o_callVI (Y2 := YX7_plainly) (pc := 2) (av := [.int a]) (rest := []) dX7_keenly_2 k_1208 cm_X7_plainly (sM_plainly hF m a) (hF.1 _ _ rfl) rfl rfl (Nat.le_of_ble_eq_true rfl) (Nat.le_of_ble_eq_true rfl) fun r1 => ?_
  refine o_aload_n (pc := 5) 0 dX7_keenly_5 rfl rfl <| o_getRc (pc := 6) (a := 63) (ci := 7) (j := 6) (nn := 0) dX7_keenly_6 (hF.1 _ _ rfl) rfl (Nat.le_of_ble_eq_true rfl) k_889 rfl (hF.2 _ _ _ rfl) <| o_iload_n (pc := 9) 1 dX7_keenly_9 rfl rfl <| ?_
  refine S_ck fun h2 => ?_
  refine o_iald (pc := 10) (nn := 6) dX7_keenly_10 (hF.1 _ _ rfl) (ck_in h2) <| o_isub (pc := 11) dX7_keenly_11 <| ?_
  refine o_lt fun x3 => ?_
  refine o_istore_n (pc := 12) (ls' := [(2, .int x3), (0, .ref 61), (1, .int a)]) dX7_keenly_12 rfl (Nat.le_of_ble_eq_true rfl) rfl <| o_iload_n (pc := 13) 0 dX7_keenly_13 rfl rfl <| ?_
  refine o_if_ge (pc := 14) (tgt := 21) dX7_keenly_14 rfl (fun h4 => ?_) (fun h4 => ?_)
  · refine o_iload_n (pc := 21) 0 dX7_keenly_21 rfl rfl <| ?_
    exact o_iret (pc := 22) dX7_keenly_22 rfl rfl
  · refine o_iconst (pc := 17) dX7_keenly_17 lc_0 <| o_goto (pc := 18) (tgt := 22) dX7_keenly_18 rfl <| ?_
    exact o_iret (pc := 22) dX7_keenly_22 rfl rfl
def fM_pull (m : MI) (a : Int32) (b : Int32) (c : Int32) (d : Int32) : Option (Int32 × MI) :=
  lm (mI m 61 (upd (m.1 61) 28 b)) fun m1 =>
  lm (mI m1 61 (upd (m1.1 61) 29 c)) fun m2 =>
  lm (mI m2 61 (upd (m2.1 61) 30 d)) fun m3 =>
  if ck a 6 = true then
    if m3.1 62 a.toNatClampNeg = 1 then
      (fM_keenly m3 a).bind fun r6 =>
      some (r6.1, r6.2)
    else
      if m3.1 62 a.toNatClampNeg = 2 then
        (fM_plainly m3 a).bind fun r8 =>
        if ck a 6 = true then
          some (r8.1 + (r8.2.1 63 a.toNatClampNeg), r8.2)
        else none
      else
        if m3.1 62 a.toNatClampNeg = 3 then
          some (10, m3)
        else
          if m3.1 62 a.toNatClampNeg = 4 then
            if c < b then
              (fM_keenly m3 a).bind fun r13 =>
              some (r13.1, r13.2)
            else
              some (0, m3)
          else
            if m3.1 62 a.toNatClampNeg = 5 then
              (fM_plainly m3 a).bind fun r15 =>
              if ck a 6 = true then
                some ((2 : Int32) * (r15.1 + (r15.2.1 63 a.toNatClampNeg)), r15.2)
              else none
            else
              if m3.1 62 a.toNatClampNeg = 6 then
                if ck a 6 = true then
                  if ck (((4 : Int32) * a) + ((m3.1 64 a.toNatClampNeg) - (m3.1 64 a.toNatClampNeg) / 4 * 4)) 24 = true then
                    some ((2 : Int32) * (m3.1 65 (((4 : Int32) * a) + ((m3.1 64 a.toNatClampNeg) - (m3.1 64 a.toNatClampNeg) / 4 * 4)).toNatClampNeg), m3)
                  else none
                else none
              else
                (fM_plainly m3 a).bind fun r20 =>
                some (r20.1, r20.2)
  else none
theorem sM_pull {sh : Sh} {R : RR} (hF : Fx sh R) (m : MI) (a : Int32) (b : Int32) (c : Int32) (d : Int32) : KS (eI sh R) false 4 0 0 YX7_pull sh R m [.ref 61, .int a, .int b, .int c, .int d] (fM_pull m a b c d) := by
  refine KS_of pn_X7 (fun _ => Nat.le_of_ble_eq_true rfl) ?_
  change S _ _ _ _ _ _ _ _ _ _ [(0, .ref 61), (1, .int a), (2, .int b), (3, .int c), (4, .int d)] [] _
  unfold fM_pull
  refine o_aload_n (pc := 0) 0 dX7_pull_0 rfl rfl <| o_iload_n (pc := 1) 2 dX7_pull_1 rfl rfl <| o_putI (pc := 2) (ci := 7) (j := 28) (nn := 0) dX7_pull_2 (hF.1 _ _ rfl) rfl (Nat.le_of_ble_eq_true rfl) k_911 rfl rfl rfl rfl rfl <| ?_
  refine o_lm fun m1 => ?_
  refine o_aload_n (pc := 5) 0 dX7_pull_5 rfl rfl <| o_iload_n (pc := 6) 3 dX7_pull_6 rfl rfl <| o_putI (pc := 7) (ci := 7) (j := 29) (nn := 0) dX7_pull_7 (hF.1 _ _ rfl) rfl (Nat.le_of_ble_eq_true rfl) k_912 rfl rfl rfl rfl rfl <| ?_
  refine o_lm fun m2 => ?_
  refine o_aload_n (pc := 10) 0 dX7_pull_10 rfl rfl <| o_iload (pc := 11) 4 dX7_pull_11 rfl <| o_putI (pc := 13) (ci := 7) (j := 30) (nn := 0) dX7_pull_13 (hF.1 _ _ rfl) rfl (Nat.le_of_ble_eq_true rfl) k_913 rfl rfl rfl rfl rfl <| ?_
  refine o_lm fun m3 => ?_
  refine o_aload_n (pc := 16) 0 dX7_pull_16 rfl rfl <| o_getRc (pc := 17) (a := 62) (ci := 7) (j := 5) (nn := 0) dX7_pull_17 (hF.1 _ _ rfl) rfl (Nat.le_of_ble_eq_true rfl) k_888 rfl (hF.2 _ _ _ rfl) <| o_iload_n (pc := 20) 1 dX7_pull_20 rfl rfl <| ?_
  refine S_ck fun h4 => ?_
  refine o_iald (pc := 21) (nn := 6) dX7_pull_21 (hF.1 _ _ rfl) (ck_in h4) <| ?_
  refine S_ite (fun h5 => ?_) (fun h5 => ?_)
  · refine o_ts_in (pc := 22) (tgt := 60) 1 h5 dX7_pull_22 (by decide) (by decide) rfl rfl ?_
    refine o_aload_n (pc := 60) 0 dX7_pull_60 rfl rfl <| o_iload_n (pc := 61) 1 dX7_pull_61 rfl rfl <| ?_
    refine o_callVI (Y2 := YX7_keenly) (pc := 62) (av := [.int a]) (rest := []) dX7_pull_62 k_1204 cm_X7_keenly (sM_keenly hF m3 a) (hF.1 _ _ rfl) rfl rfl (Nat.le_of_ble_eq_true rfl) (Nat.le_of_ble_eq_true rfl) fun r6 => ?_
    exact o_iret (pc := 65) dX7_pull_65 rfl rfl
  refine S_ite (fun h7 => ?_) (fun h7 => ?_)
  · refine o_ts_in (pc := 22) (tgt := 66) 2 h7 dX7_pull_22 (by decide) (by decide) rfl rfl ?_
    refine o_aload_n (pc := 66) 0 dX7_pull_66 rfl rfl <| o_iload_n (pc := 67) 1 dX7_pull_67 rfl rfl <| ?_
    refine o_callVI (Y2 := YX7_plainly) (pc := 68) (av := [.int a]) (rest := []) dX7_pull_68 k_1208 cm_X7_plainly (sM_plainly hF m3 a) (hF.1 _ _ rfl) rfl rfl (Nat.le_of_ble_eq_true rfl) (Nat.le_of_ble_eq_true rfl) fun r8 => ?_
    refine o_aload_n (pc := 71) 0 dX7_pull_71 rfl rfl <| o_getRc (pc := 72) (a := 63) (ci := 7) (j := 6) (nn := 0) dX7_pull_72 (hF.1 _ _ rfl) rfl (Nat.le_of_ble_eq_true rfl) k_889 rfl (hF.2 _ _ _ rfl) <| o_iload_n (pc := 75) 1 dX7_pull_75 rfl rfl <| ?_
    refine S_ck fun h9 => ?_
    refine o_iald (pc := 76) (nn := 6) dX7_pull_76 (hF.1 _ _ rfl) (ck_in h9) <| o_iadd (pc := 77) dX7_pull_77 <| ?_
    exact o_iret (pc := 78) dX7_pull_78 rfl rfl
  refine S_ite (fun h10 => ?_) (fun h10 => ?_)
  · refine o_ts_in (pc := 22) (tgt := 79) 3 h10 dX7_pull_22 (by decide) (by decide) rfl rfl ?_
    refine o_bipush (pc := 79) dX7_pull_79 lb_10 <| ?_
    exact o_iret (pc := 81) dX7_pull_81 rfl rfl
  refine S_ite (fun h11 => ?_) (fun h11 => ?_)
  · refine o_ts_in (pc := 22) (tgt := 82) 4 h11 dX7_pull_22 (by decide) (by decide) rfl rfl ?_
    refine o_iload_n (pc := 82) 3 dX7_pull_82 rfl rfl <| o_iload_n (pc := 83) 2 dX7_pull_83 rfl rfl <| ?_
    refine o_icmp_lt (pc := 84) (tgt := 91) dX7_pull_84 rfl (fun h12 => ?_) (fun h12 => ?_)
    · refine o_aload_n (pc := 91) 0 dX7_pull_91 rfl rfl <| o_iload_n (pc := 92) 1 dX7_pull_92 rfl rfl <| ?_
      refine o_callVI (Y2 := YX7_keenly) (pc := 93) (av := [.int a]) (rest := []) dX7_pull_93 k_1204 cm_X7_keenly (sM_keenly hF m3 a) (hF.1 _ _ rfl) rfl rfl (Nat.le_of_ble_eq_true rfl) (Nat.le_of_ble_eq_true rfl) fun r13 => ?_
      exact o_iret (pc := 96) dX7_pull_96 rfl rfl
    · refine o_iconst (pc := 87) dX7_pull_87 lc_0 <| o_goto (pc := 88) (tgt := 96) dX7_pull_88 rfl <| ?_
      exact o_iret (pc := 96) dX7_pull_96 rfl rfl
  refine S_ite (fun h14 => ?_) (fun h14 => ?_)
  · refine o_ts_in (pc := 22) (tgt := 97) 5 h14 dX7_pull_22 (by decide) (by decide) rfl rfl ?_
    refine o_iconst (pc := 97) dX7_pull_97 lc_2 <| o_aload_n (pc := 98) 0 dX7_pull_98 rfl rfl <| o_iload_n (pc := 99) 1 dX7_pull_99 rfl rfl <| ?_
    refine o_callVI (Y2 := YX7_plainly) (pc := 100) (av := [.int a]) (rest := [.int 2]) dX7_pull_100 k_1208 cm_X7_plainly (sM_plainly hF m3 a) (hF.1 _ _ rfl) rfl rfl (Nat.le_of_ble_eq_true rfl) (Nat.le_of_ble_eq_true rfl) fun r15 => ?_
    refine o_aload_n (pc := 103) 0 dX7_pull_103 rfl rfl <| o_getRc (pc := 104) (a := 63) (ci := 7) (j := 6) (nn := 0) dX7_pull_104 (hF.1 _ _ rfl) rfl (Nat.le_of_ble_eq_true rfl) k_889 rfl (hF.2 _ _ _ rfl) <| o_iload_n (pc := 107) 1 dX7_pull_107 rfl rfl <| ?_
    refine S_ck fun h16 => ?_
    refine o_iald (pc := 108) (nn := 6) dX7_pull_108 (hF.1 _ _ rfl) (ck_in h16) <| o_iadd (pc := 109) dX7_pull_109 <| o_imul (pc := 110) dX7_pull_110 <| ?_
    exact o_iret (pc := 111) dX7_pull_111 rfl rfl
  refine S_ite (fun h17 => ?_) (fun h17 => ?_)
  · refine o_ts_in (pc := 22) (tgt := 112) 6 h17 dX7_pull_22 (by decide) (by decide) rfl rfl ?_
    refine o_iconst (pc := 112) dX7_pull_112 lc_2 <| o_aload_n (pc := 113) 0 dX7_pull_113 rfl rfl <| o_getRc (pc := 114) (a := 65) (ci := 7) (j := 8) (nn := 0) dX7_pull_114 (hF.1 _ _ rfl) rfl (Nat.le_of_ble_eq_true rfl) k_891 rfl (hF.2 _ _ _ rfl) <| o_iconst (pc := 117) dX7_pull_117 lc_4 <| o_iload_n (pc := 118) 1 dX7_pull_118 rfl rfl <| o_imul (pc := 119) dX7_pull_119 <| o_aload_n (pc := 120) 0 dX7_pull_120 rfl rfl <| o_getRc (pc := 121) (a := 64) (ci := 7) (j := 7) (nn := 0) dX7_pull_121 (hF.1 _ _ rfl) rfl (Nat.le_of_ble_eq_true rfl) k_890 rfl (hF.2 _ _ _ rfl) <| o_iload_n (pc := 124) 1 dX7_pull_124 rfl rfl <| ?_
    refine S_ck fun h18 => ?_
    refine o_iald (pc := 125) (nn := 6) dX7_pull_125 (hF.1 _ _ rfl) (ck_in h18) <| o_iconst (pc := 126) dX7_pull_126 lc_4 <| o_irem (pc := 127) dX7_pull_127 (by decide) <| o_iadd (pc := 128) dX7_pull_128 <| ?_
    refine S_ck fun h19 => ?_
    refine o_iald (pc := 129) (nn := 24) dX7_pull_129 (hF.1 _ _ rfl) (ck_in h19) <| o_imul (pc := 130) dX7_pull_130 <| ?_
    exact o_iret (pc := 131) dX7_pull_131 rfl rfl
  refine o_ts_out (pc := 22) (tgt := 132) (ts_out (lo := 1) (hi := 6) [1, 2, 3, 4, 5, 6] (by decide) (by decide) (fun c hc => by
      simp only [List.mem_cons, List.not_mem_nil, or_false] at hc
      rcases hc with rfl | rfl | rfl | rfl | rfl | rfl
      · exact h5
      · exact h7
      · exact h10
      · exact h11
      · exact h14
      · exact h17)) dX7_pull_22 rfl ?_
  refine o_aload_n (pc := 132) 0 dX7_pull_132 rfl rfl <| o_iload_n (pc := 133) 1 dX7_pull_133 rfl rfl <| ?_
  refine o_callVI (Y2 := YX7_plainly) (pc := 134) (av := [.int a]) (rest := []) dX7_pull_134 k_1208 cm_X7_plainly (sM_plainly hF m3 a) (hF.1 _ _ rfl) rfl rfl (Nat.le_of_ble_eq_true rfl) (Nat.le_of_ble_eq_true rfl) fun r20 => ?_
  exact o_iret (pc := 137) dX7_pull_137 rfl rfl
def fM_chance (m : MI) (a : Int32) (b : Int32) (c : Int32) (d : Int32) : Option (Int32 × MI) :=
  if b = 0 then
    if b = 0 then
      some (0, m)
    else
      some (1000000, m)
  else
    if 0 < c then
      (fM_pull m a b c d).bind fun r4 =>
      ltl ((b.toInt64) * (r4.1.toInt64)) fun y5 =>
      if ¬ (y5 + ((10 : Int64) * (c.toInt64)) = 0) then
        some ((((1000000 : Int64) * y5) / (y5 + ((10 : Int64) * (c.toInt64)))).toInt32, r4.2)
      else none
    else
      if b = 0 then
        some (0, m)
      else
        some (1000000, m)
theorem sM_chance {sh : Sh} {R : RR} (hF : Fx sh R) (m : MI) (a : Int32) (b : Int32) (c : Int32) (d : Int32) : KS (eI sh R) false 5 0 0 YX7_chance sh R m [.ref 61, .int a, .int b, .int c, .int d] (fM_chance m a b c d) := by
  refine KS_of pn_X7 (fun _ => Nat.le_of_ble_eq_true rfl) ?_
  change S _ _ _ _ _ _ _ _ _ _ [(0, .ref 61), (1, .int a), (2, .int b), (3, .int c), (4, .int d)] [] _
  unfold fM_chance
  refine o_iload_n (pc := 0) 2 dX7_chance_0 rfl rfl <| ?_
  refine o_if_eq (pc := 1) (tgt := 8) dX7_chance_1 rfl (fun h1 => ?_) (fun h1 => ?_)
  · refine o_iload_n (pc := 8) 2 dX7_chance_8 rfl rfl <| ?_
    refine o_if_ne (pc := 9) (tgt := 16) dX7_chance_9 rfl (fun h2 => ?_) (fun h2 => ?_)
    · refine o_iconst (pc := 12) dX7_chance_12 lc_0 <| o_goto (pc := 13) (tgt := 19) dX7_chance_13 rfl <| ?_
      exact o_iret (pc := 19) dX7_chance_19 rfl rfl
    · refine o_ldcw (pc := 16) dX7_chance_16 k_1224 <| ?_
      exact o_iret (pc := 19) dX7_chance_19 rfl rfl
  · refine o_iload_n (pc := 4) 3 dX7_chance_4 rfl rfl <| ?_
    refine o_if_gt (pc := 5) (tgt := 20) dX7_chance_5 rfl (fun h3 => ?_) (fun h3 => ?_)
    · refine o_iload_n (pc := 20) 2 dX7_chance_20 rfl rfl <| o_i2l (pc := 21) dX7_chance_21 <| o_aload_n (pc := 22) 0 dX7_chance_22 rfl rfl <| o_iload_n (pc := 23) 1 dX7_chance_23 rfl rfl <| o_iload_n (pc := 24) 2 dX7_chance_24 rfl rfl <| o_iload_n (pc := 25) 3 dX7_chance_25 rfl rfl <| o_iload (pc := 26) 4 dX7_chance_26 rfl <| ?_
      refine o_callVI (Y2 := YX7_pull) (pc := 28) (av := [.int a, .int b, .int c, .int d]) (rest := [.long (b.toInt64)]) dX7_chance_28 k_1200 cm_X7_pull (sM_pull hF m a b c d) (hF.1 _ _ rfl) rfl rfl (Nat.le_of_ble_eq_true rfl) (Nat.le_of_ble_eq_true rfl) fun r4 => ?_
      refine o_i2l (pc := 31) dX7_chance_31 <| o_lmul (pc := 32) dX7_chance_32 <| ?_
      refine o_ltl fun y5 => ?_
      refine o_lstore (pc := 33) (ls' := [(5, .long y5), (0, .ref 61), (1, .int a), (2, .int b), (3, .int c), (4, .int d)]) dX7_chance_33 (Nat.le_of_ble_eq_true rfl) rfl <| o_ldc2 (pc := 35) dX7_chance_35 k_1225 <| o_lload (pc := 38) 0 dX7_chance_38 rfl <| o_lmul (pc := 40) dX7_chance_40 <| o_lload (pc := 41) 0 dX7_chance_41 rfl <| o_ldc2 (pc := 43) dX7_chance_43 k_1226 <| o_iload_n (pc := 46) 4 dX7_chance_46 rfl rfl <| o_i2l (pc := 47) dX7_chance_47 <| o_lmul (pc := 48) dX7_chance_48 <| o_ladd (pc := 49) dX7_chance_49 <| ?_
      refine S_ck fun h6 => ?_
      refine o_ldiv (pc := 50) dX7_chance_50 h6 <| o_l2i (pc := 51) dX7_chance_51 <| ?_
      exact o_iret (pc := 52) dX7_chance_52 rfl rfl
    · refine o_iload_n (pc := 8) 2 dX7_chance_8 rfl rfl <| ?_
      refine o_if_ne (pc := 9) (tgt := 16) dX7_chance_9 rfl (fun h7 => ?_) (fun h7 => ?_)
      · refine o_iconst (pc := 12) dX7_chance_12 lc_0 <| o_goto (pc := 13) (tgt := 19) dX7_chance_13 rfl <| ?_
        exact o_iret (pc := 19) dX7_chance_19 rfl rfl
      · refine o_ldcw (pc := 16) dX7_chance_16 k_1224 <| ?_
        exact o_iret (pc := 19) dX7_chance_19 rfl rfl
def fM_of (m : MI) (a : Int32) (b : Int32) : Option (Int32 × MI) :=
  (fM_isDrawer m a).bind fun r1 =>
  if r1.1 = 0 then
    some (-1, r1.2)
  else
    if b = 0 then
      if ck a 6 = true then
        some (r1.2.1 62 a.toNatClampNeg, r1.2)
      else none
    else
      if b = 1 then
        if ck a 6 = true then
          some (r1.2.1 63 a.toNatClampNeg, r1.2)
        else none
      else
        if b = 2 then
          if ck a 6 = true then
            some (r1.2.1 64 a.toNatClampNeg, r1.2)
          else none
        else
          if b = 3 then
            (fM_placeOf r1.2 a).bind fun r10 =>
            some (r10.1, r10.2)
          else
            if b = 4 then
              (fM_placeOf r1.2 a).bind fun r12 =>
              (fM_pull r12.2 a (r1.2.1 61 2) (r1.2.1 61 3) r12.1).bind fun r13 =>
              some (r13.1, r13.2)
            else
              if b = 5 then
                (fM_placeOf r1.2 a).bind fun r15 =>
                (fM_chance r15.2 a (r1.2.1 61 2) (r1.2.1 61 3) r15.1).bind fun r16 =>
                some (r16.1, r16.2)
              else
                some (-1, r1.2)
theorem sM_of {sh : Sh} {R : RR} (hF : Fx sh R) (m : MI) (a : Int32) (b : Int32) : KS (eI sh R) false 6 0 0 YX7_of sh R m [.ref 61, .int a, .int b] (fM_of m a b) := by
  refine KS_of pn_X7 (fun _ => Nat.le_of_ble_eq_true rfl) ?_
  change S _ _ _ _ _ _ _ _ _ _ [(0, .ref 61), (1, .int a), (2, .int b)] [] _
  unfold fM_of
  refine o_aload_n (pc := 0) 0 dX7_of_0 rfl rfl <| o_iload_n (pc := 1) 1 dX7_of_1 rfl rfl <| ?_
  refine o_callVI (Y2 := YX7_isDrawer) (pc := 2) (av := [.int a]) (rest := []) dX7_of_2 k_1104 cm_X7_isDrawer (sM_isDrawer hF m a) (hF.1 _ _ rfl) rfl rfl (Nat.le_of_ble_eq_true rfl) (Nat.le_of_ble_eq_true rfl) fun r1 => ?_
  refine o_if_ne (pc := 5) (tgt := 10) dX7_of_5 rfl (fun h2 => ?_) (fun h2 => ?_)
  · refine o_iconst (pc := 8) dX7_of_8 lc_m1 <| ?_
    exact o_iret (pc := 9) dX7_of_9 rfl rfl
  · refine o_iload_n (pc := 10) 2 dX7_of_10 rfl rfl <| ?_
    refine S_ite (fun h3 => ?_) (fun h3 => ?_)
    · refine o_ts_in (pc := 11) (tgt := 48) 0 h3 dX7_of_11 (by decide) (by decide) rfl rfl ?_
      refine o_aload_n (pc := 48) 0 dX7_of_48 rfl rfl <| o_getRc (pc := 49) (a := 62) (ci := 7) (j := 5) (nn := 0) dX7_of_49 (hF.1 _ _ rfl) rfl (Nat.le_of_ble_eq_true rfl) k_888 rfl (hF.2 _ _ _ rfl) <| o_iload_n (pc := 52) 1 dX7_of_52 rfl rfl <| ?_
      refine S_ck fun h4 => ?_
      refine o_iald (pc := 53) (nn := 6) dX7_of_53 (hF.1 _ _ rfl) (ck_in h4) <| ?_
      exact o_iret (pc := 54) dX7_of_54 rfl rfl
    refine S_ite (fun h5 => ?_) (fun h5 => ?_)
    · refine o_ts_in (pc := 11) (tgt := 55) 1 h5 dX7_of_11 (by decide) (by decide) rfl rfl ?_
      refine o_aload_n (pc := 55) 0 dX7_of_55 rfl rfl <| o_getRc (pc := 56) (a := 63) (ci := 7) (j := 6) (nn := 0) dX7_of_56 (hF.1 _ _ rfl) rfl (Nat.le_of_ble_eq_true rfl) k_889 rfl (hF.2 _ _ _ rfl) <| o_iload_n (pc := 59) 1 dX7_of_59 rfl rfl <| ?_
      refine S_ck fun h6 => ?_
      refine o_iald (pc := 60) (nn := 6) dX7_of_60 (hF.1 _ _ rfl) (ck_in h6) <| ?_
      exact o_iret (pc := 61) dX7_of_61 rfl rfl
    refine S_ite (fun h7 => ?_) (fun h7 => ?_)
    · refine o_ts_in (pc := 11) (tgt := 62) 2 h7 dX7_of_11 (by decide) (by decide) rfl rfl ?_
      refine o_aload_n (pc := 62) 0 dX7_of_62 rfl rfl <| o_getRc (pc := 63) (a := 64) (ci := 7) (j := 7) (nn := 0) dX7_of_63 (hF.1 _ _ rfl) rfl (Nat.le_of_ble_eq_true rfl) k_890 rfl (hF.2 _ _ _ rfl) <| o_iload_n (pc := 66) 1 dX7_of_66 rfl rfl <| ?_
      refine S_ck fun h8 => ?_
      refine o_iald (pc := 67) (nn := 6) dX7_of_67 (hF.1 _ _ rfl) (ck_in h8) <| ?_
      exact o_iret (pc := 68) dX7_of_68 rfl rfl
    refine S_ite (fun h9 => ?_) (fun h9 => ?_)
    · refine o_ts_in (pc := 11) (tgt := 69) 3 h9 dX7_of_11 (by decide) (by decide) rfl rfl ?_
      refine o_aload_n (pc := 69) 0 dX7_of_69 rfl rfl <| o_iload_n (pc := 70) 1 dX7_of_70 rfl rfl <| ?_
      refine o_callVI (Y2 := YX7_placeOf) (pc := 71) (av := [.int a]) (rest := []) dX7_of_71 k_1116 cm_X7_placeOf (sM_placeOf hF r1.2 a) (hF.1 _ _ rfl) rfl rfl (Nat.le_of_ble_eq_true rfl) (Nat.le_of_ble_eq_true rfl) fun r10 => ?_
      exact o_iret (pc := 74) dX7_of_74 rfl rfl
    refine S_ite (fun h11 => ?_) (fun h11 => ?_)
    · refine o_ts_in (pc := 11) (tgt := 75) 4 h11 dX7_of_11 (by decide) (by decide) rfl rfl ?_
      refine o_aload_n (pc := 75) 0 dX7_of_75 rfl rfl <| o_iload_n (pc := 76) 1 dX7_of_76 rfl rfl <| o_aload_n (pc := 77) 0 dX7_of_77 rfl rfl <| o_getI (pc := 78) (ci := 7) (j := 2) (nn := 0) dX7_of_78 (hF.1 _ _ rfl) rfl (Nat.le_of_ble_eq_true rfl) k_885 rfl <| o_aload_n (pc := 81) 0 dX7_of_81 rfl rfl <| o_getI (pc := 82) (ci := 7) (j := 3) (nn := 0) dX7_of_82 (hF.1 _ _ rfl) rfl (Nat.le_of_ble_eq_true rfl) k_886 rfl <| o_aload_n (pc := 85) 0 dX7_of_85 rfl rfl <| o_iload_n (pc := 86) 1 dX7_of_86 rfl rfl <| ?_
      refine o_callVI (Y2 := YX7_placeOf) (pc := 87) (av := [.int a]) (rest := [.int (r1.2.1 61 3), .int (r1.2.1 61 2), .int a, .ref 61]) dX7_of_87 k_1116 cm_X7_placeOf (sM_placeOf hF r1.2 a) (hF.1 _ _ rfl) rfl rfl (Nat.le_of_ble_eq_true rfl) (Nat.le_of_ble_eq_true rfl) fun r12 => ?_
      refine o_callVI (Y2 := YX7_pull) (pc := 90) (av := [.int a, .int (r1.2.1 61 2), .int (r1.2.1 61 3), .int r12.1]) (rest := []) dX7_of_90 k_1200 cm_X7_pull (sM_pull hF r12.2 a (r1.2.1 61 2) (r1.2.1 61 3) r12.1) (hF.1 _ _ rfl) rfl rfl (Nat.le_of_ble_eq_true rfl) (Nat.le_of_ble_eq_true rfl) fun r13 => ?_
      exact o_iret (pc := 93) dX7_of_93 rfl rfl
    refine S_ite (fun h14 => ?_) (fun h14 => ?_)
    · refine o_ts_in (pc := 11) (tgt := 94) 5 h14 dX7_of_11 (by decide) (by decide) rfl rfl ?_
      refine o_aload_n (pc := 94) 0 dX7_of_94 rfl rfl <| o_iload_n (pc := 95) 1 dX7_of_95 rfl rfl <| o_aload_n (pc := 96) 0 dX7_of_96 rfl rfl <| o_getI (pc := 97) (ci := 7) (j := 2) (nn := 0) dX7_of_97 (hF.1 _ _ rfl) rfl (Nat.le_of_ble_eq_true rfl) k_885 rfl <| o_aload_n (pc := 100) 0 dX7_of_100 rfl rfl <| o_getI (pc := 101) (ci := 7) (j := 3) (nn := 0) dX7_of_101 (hF.1 _ _ rfl) rfl (Nat.le_of_ble_eq_true rfl) k_886 rfl <| o_aload_n (pc := 104) 0 dX7_of_104 rfl rfl <| o_iload_n (pc := 105) 1 dX7_of_105 rfl rfl <| ?_
      refine o_callVI (Y2 := YX7_placeOf) (pc := 106) (av := [.int a]) (rest := [.int (r1.2.1 61 3), .int (r1.2.1 61 2), .int a, .ref 61]) dX7_of_106 k_1116 cm_X7_placeOf (sM_placeOf hF r1.2 a) (hF.1 _ _ rfl) rfl rfl (Nat.le_of_ble_eq_true rfl) (Nat.le_of_ble_eq_true rfl) fun r15 => ?_
      refine o_callVI (Y2 := YX7_chance) (pc := 109) (av := [.int a, .int (r1.2.1 61 2), .int (r1.2.1 61 3), .int r15.1]) (rest := []) dX7_of_109 k_1220 cm_X7_chance (sM_chance hF r15.2 a (r1.2.1 61 2) (r1.2.1 61 3) r15.1) (hF.1 _ _ rfl) rfl rfl (Nat.le_of_ble_eq_true rfl) (Nat.le_of_ble_eq_true rfl) fun r16 => ?_
      exact o_iret (pc := 112) dX7_of_112 rfl rfl
    refine o_ts_out (pc := 11) (tgt := 113) (ts_out (lo := 0) (hi := 5) [0, 1, 2, 3, 4, 5] (by decide) (by decide) (fun c hc => by
        simp only [List.mem_cons, List.not_mem_nil, or_false] at hc
        rcases hc with rfl | rfl | rfl | rfl | rfl | rfl
        · exact h3
        · exact h5
        · exact h7
        · exact h9
        · exact h11
        · exact h14)) dX7_of_11 rfl ?_
    refine o_iconst (pc := 113) dX7_of_113 lc_m1 <| ?_
    exact o_iret (pc := 114) dX7_of_114 rfl rfl
def fM_told (m : MI) (a : Int32) : Option (Int32 × MI) :=
  (fM_in m a 10 ((9 : Int32) + (m.1 61 0))).bind fun r1 =>
  if r1.1 = 0 then
    if a = 0 then
      some (r1.2.1 61 1, r1.2)
    else
      if a = 1 then
        some (r1.2.1 61 2, r1.2)
      else
        if a = 2 then
          some (r1.2.1 61 3, r1.2)
        else
          if a = 3 then
            some (r1.2.1 61 4, r1.2)
          else
            if a = 4 then
              if r1.2.1 61 0 = 0 then
                some (-5, r1.2)
              else
                if ck (r1.2.1 61 4) 6 = true then
                  some (r1.2.1 66 (r1.2.1 61 4).toNatClampNeg, r1.2)
                else none
            else
              some (-1, r1.2)
  else
    if ck (a - 10) 6 = true then
      some (r1.2.1 66 (a - 10).toNatClampNeg, r1.2)
    else none
theorem sM_told {sh : Sh} {R : RR} (hF : Fx sh R) (m : MI) (a : Int32) : KS (eI sh R) false 1 0 0 YX7_told sh R m [.ref 61, .int a] (fM_told m a) := by
  refine KS_of pn_X7 (fun _ => Nat.le_of_ble_eq_true rfl) ?_
  change S _ _ _ _ _ _ _ _ _ _ [(0, .ref 61), (1, .int a)] [] _
  unfold fM_told
  refine o_aload_n (pc := 0) 0 dX7_told_0 rfl rfl <| o_iload_n (pc := 1) 1 dX7_told_1 rfl rfl <| o_bipush (pc := 2) dX7_told_2 lb_10 <| o_bipush (pc := 4) dX7_told_4 lb_9 <| o_aload_n (pc := 6) 0 dX7_told_6 rfl rfl <| o_getI (pc := 7) (ci := 7) (j := 0) (nn := 0) dX7_told_7 (hF.1 _ _ rfl) rfl (Nat.le_of_ble_eq_true rfl) k_883 rfl <| o_iadd (pc := 10) dX7_told_10 <| ?_
  refine o_callVI (Y2 := YX7_in) (pc := 11) (av := [.int a, .int 10, .int ((9 : Int32) + (m.1 61 0))]) (rest := []) dX7_told_11 k_1096 cm_X7_in (sM_in hF m a 10 ((9 : Int32) + (m.1 61 0))) (hF.1 _ _ rfl) rfl rfl (Nat.le_of_ble_eq_true rfl) (Nat.le_of_ble_eq_true rfl) fun r1 => ?_
  refine o_if_eq (pc := 14) (tgt := 27) dX7_told_14 rfl (fun h2 => ?_) (fun h2 => ?_)
  · refine o_iload_n (pc := 27) 1 dX7_told_27 rfl rfl <| ?_
    refine S_ite (fun h3 => ?_) (fun h3 => ?_)
    · refine o_ts_in (pc := 28) (tgt := 64) 0 h3 dX7_told_28 (by decide) (by decide) rfl rfl ?_
      refine o_aload_n (pc := 64) 0 dX7_told_64 rfl rfl <| o_getI (pc := 65) (ci := 7) (j := 1) (nn := 0) dX7_told_65 (hF.1 _ _ rfl) rfl (Nat.le_of_ble_eq_true rfl) k_884 rfl <| ?_
      exact o_iret (pc := 68) dX7_told_68 rfl rfl
    refine S_ite (fun h4 => ?_) (fun h4 => ?_)
    · refine o_ts_in (pc := 28) (tgt := 69) 1 h4 dX7_told_28 (by decide) (by decide) rfl rfl ?_
      refine o_aload_n (pc := 69) 0 dX7_told_69 rfl rfl <| o_getI (pc := 70) (ci := 7) (j := 2) (nn := 0) dX7_told_70 (hF.1 _ _ rfl) rfl (Nat.le_of_ble_eq_true rfl) k_885 rfl <| ?_
      exact o_iret (pc := 73) dX7_told_73 rfl rfl
    refine S_ite (fun h5 => ?_) (fun h5 => ?_)
    · refine o_ts_in (pc := 28) (tgt := 74) 2 h5 dX7_told_28 (by decide) (by decide) rfl rfl ?_
      refine o_aload_n (pc := 74) 0 dX7_told_74 rfl rfl <| o_getI (pc := 75) (ci := 7) (j := 3) (nn := 0) dX7_told_75 (hF.1 _ _ rfl) rfl (Nat.le_of_ble_eq_true rfl) k_886 rfl <| ?_
      exact o_iret (pc := 78) dX7_told_78 rfl rfl
    refine S_ite (fun h6 => ?_) (fun h6 => ?_)
    · refine o_ts_in (pc := 28) (tgt := 79) 3 h6 dX7_told_28 (by decide) (by decide) rfl rfl ?_
      refine o_aload_n (pc := 79) 0 dX7_told_79 rfl rfl <| o_getI (pc := 80) (ci := 7) (j := 4) (nn := 0) dX7_told_80 (hF.1 _ _ rfl) rfl (Nat.le_of_ble_eq_true rfl) k_887 rfl <| ?_
      exact o_iret (pc := 83) dX7_told_83 rfl rfl
    refine S_ite (fun h7 => ?_) (fun h7 => ?_)
    · refine o_ts_in (pc := 28) (tgt := 84) 4 h7 dX7_told_28 (by decide) (by decide) rfl rfl ?_
      refine o_aload_n (pc := 84) 0 dX7_told_84 rfl rfl <| o_getI (pc := 85) (ci := 7) (j := 0) (nn := 0) dX7_told_85 (hF.1 _ _ rfl) rfl (Nat.le_of_ble_eq_true rfl) k_883 rfl <| ?_
      refine o_if_ne (pc := 88) (tgt := 96) dX7_told_88 rfl (fun h8 => ?_) (fun h8 => ?_)
      · refine o_bipush (pc := 91) dX7_told_91 lb_m5 <| o_goto (pc := 93) (tgt := 105) dX7_told_93 rfl <| ?_
        exact o_iret (pc := 105) dX7_told_105 rfl rfl
      · refine o_aload_n (pc := 96) 0 dX7_told_96 rfl rfl <| o_getRc (pc := 97) (a := 66) (ci := 7) (j := 9) (nn := 0) dX7_told_97 (hF.1 _ _ rfl) rfl (Nat.le_of_ble_eq_true rfl) k_892 rfl (hF.2 _ _ _ rfl) <| o_aload_n (pc := 100) 0 dX7_told_100 rfl rfl <| o_getI (pc := 101) (ci := 7) (j := 4) (nn := 0) dX7_told_101 (hF.1 _ _ rfl) rfl (Nat.le_of_ble_eq_true rfl) k_887 rfl <| ?_
        refine S_ck fun h9 => ?_
        refine o_iald (pc := 104) (nn := 6) dX7_told_104 (hF.1 _ _ rfl) (ck_in h9) <| ?_
        exact o_iret (pc := 105) dX7_told_105 rfl rfl
    refine o_ts_out (pc := 28) (tgt := 106) (ts_out (lo := 0) (hi := 4) [0, 1, 2, 3, 4] (by decide) (by decide) (fun c hc => by
        simp only [List.mem_cons, List.not_mem_nil, or_false] at hc
        rcases hc with rfl | rfl | rfl | rfl | rfl
        · exact h3
        · exact h4
        · exact h5
        · exact h6
        · exact h7)) dX7_told_28 rfl ?_
    refine o_iconst (pc := 106) dX7_told_106 lc_m1 <| ?_
    exact o_iret (pc := 107) dX7_told_107 rfl rfl
  · refine o_aload_n (pc := 17) 0 dX7_told_17 rfl rfl <| o_getRc (pc := 18) (a := 66) (ci := 7) (j := 9) (nn := 0) dX7_told_18 (hF.1 _ _ rfl) rfl (Nat.le_of_ble_eq_true rfl) k_892 rfl (hF.2 _ _ _ rfl) <| o_iload_n (pc := 21) 1 dX7_told_21 rfl rfl <| o_bipush (pc := 22) dX7_told_22 lb_10 <| o_isub (pc := 24) dX7_told_24 <| ?_
    refine S_ck fun h10 => ?_
    refine o_iald (pc := 25) (nn := 6) dX7_told_25 (hF.1 _ _ rfl) (ck_in h10) <| ?_
    exact o_iret (pc := 26) dX7_told_26 rfl rfl
def fM_goDraw (m : MI) (a : Int32) : Option (Int32 × MI) :=
  if ck (m.1 61 4) 6 = true then
    lt (m.1 66 (m.1 61 4).toNatClampNeg) fun x2 =>
    (fM_chance m x2 (m.1 61 2) (m.1 61 3) (m.1 61 4)).bind fun r3 =>
    if r3.1 ≤ a then
      lm (mI r3.2 61 (upd (r3.2.1 61) 3 ((r3.2.1 61 3) - 1))) fun m5 =>
      lm (mI m5 61 (upd (m5.1 61) 4 ((m5.1 61 4) + 1))) fun m6 =>
      some (0, m6)
    else
      lm (mI r3.2 61 (upd (r3.2.1 61) 2 ((r3.2.1 61 2) - 1))) fun m7 =>
      if ck x2 6 = true then
        if 999 ≤ m7.1 64 x2.toNatClampNeg then
          if ck x2 6 = true then
            lm (mI m7 64 (upd (m7.1 64) x2.toNatClampNeg 999)) fun m11 =>
            lm (mI m11 61 (upd (m11.1 61) 4 ((m11.1 61 4) + 1))) fun m12 =>
            some (1, m12)
          else none
        else
          if ck x2 6 = true then
            if ck x2 6 = true then
              lm (mI m7 64 (upd (m7.1 64) x2.toNatClampNeg ((m7.1 64 x2.toNatClampNeg) + 1))) fun m15 =>
              lm (mI m15 61 (upd (m15.1 61) 4 ((m15.1 61 4) + 1))) fun m16 =>
              some (1, m16)
            else none
          else none
      else none
  else none
theorem sM_goDraw {sh : Sh} {R : RR} (hF : Fx sh R) (m : MI) (a : Int32) : KS (eI sh R) false 6 0 0 YX7_goDraw sh R m [.ref 61, .int a] (fM_goDraw m a) := by
  refine KS_of pn_X7 (fun _ => Nat.le_of_ble_eq_true rfl) ?_
  change S _ _ _ _ _ _ _ _ _ _ [(0, .ref 61), (1, .int a)] [] _
  unfold fM_goDraw
  refine o_aload_n (pc := 0) 0 dX7_goDraw_0 rfl rfl <| o_getRc (pc := 1) (a := 66) (ci := 7) (j := 9) (nn := 0) dX7_goDraw_1 (hF.1 _ _ rfl) rfl (Nat.le_of_ble_eq_true rfl) k_892 rfl (hF.2 _ _ _ rfl) <| o_aload_n (pc := 4) 0 dX7_goDraw_4 rfl rfl <| o_getI (pc := 5) (ci := 7) (j := 4) (nn := 0) dX7_goDraw_5 (hF.1 _ _ rfl) rfl (Nat.le_of_ble_eq_true rfl) k_887 rfl <| ?_
  refine S_ck fun h1 => ?_
  refine o_iald (pc := 8) (nn := 6) dX7_goDraw_8 (hF.1 _ _ rfl) (ck_in h1) <| ?_
  refine o_lt fun x2 => ?_
  refine o_istore_n (pc := 9) (ls' := [(2, .int x2), (0, .ref 61), (1, .int a)]) dX7_goDraw_9 rfl (Nat.le_of_ble_eq_true rfl) rfl <| o_iload_n (pc := 10) 2 dX7_goDraw_10 rfl rfl <| o_aload_n (pc := 11) 1 dX7_goDraw_11 rfl rfl <| o_iload_n (pc := 12) 0 dX7_goDraw_12 rfl rfl <| o_aload_n (pc := 13) 1 dX7_goDraw_13 rfl rfl <| o_getI (pc := 14) (ci := 7) (j := 2) (nn := 0) dX7_goDraw_14 (hF.1 _ _ rfl) rfl (Nat.le_of_ble_eq_true rfl) k_885 rfl <| o_aload_n (pc := 17) 1 dX7_goDraw_17 rfl rfl <| o_getI (pc := 18) (ci := 7) (j := 3) (nn := 0) dX7_goDraw_18 (hF.1 _ _ rfl) rfl (Nat.le_of_ble_eq_true rfl) k_886 rfl <| o_aload_n (pc := 21) 1 dX7_goDraw_21 rfl rfl <| o_getI (pc := 22) (ci := 7) (j := 4) (nn := 0) dX7_goDraw_22 (hF.1 _ _ rfl) rfl (Nat.le_of_ble_eq_true rfl) k_887 rfl <| ?_
  refine o_callVI (Y2 := YX7_chance) (pc := 25) (av := [.int x2, .int (m.1 61 2), .int (m.1 61 3), .int (m.1 61 4)]) (rest := [.int a]) dX7_goDraw_25 k_1220 cm_X7_chance (sM_chance hF m x2 (m.1 61 2) (m.1 61 3) (m.1 61 4)) (hF.1 _ _ rfl) rfl rfl (Nat.le_of_ble_eq_true rfl) (Nat.le_of_ble_eq_true rfl) fun r3 => ?_
  refine o_icmp_ge (pc := 28) (tgt := 35) dX7_goDraw_28 rfl (fun h4 => ?_) (fun h4 => ?_)
  · refine o_iconst (pc := 35) dX7_goDraw_35 lc_0 <| o_istore_n (pc := 36) (ls' := [(3, .int 0), (2, .int x2), (0, .ref 61), (1, .int a)]) dX7_goDraw_36 rfl (Nat.le_of_ble_eq_true rfl) rfl <| o_iload_n (pc := 37) 0 dX7_goDraw_37 rfl rfl <| o_if_eq_t (pc := 38) (tgt := 86) dX7_goDraw_38 rfl (by decide) <| o_aload_n (pc := 86) 2 dX7_goDraw_86 rfl rfl <| o_dup (pc := 87) dX7_goDraw_87 rfl <| o_getI (pc := 88) (ci := 7) (j := 3) (nn := 0) dX7_goDraw_88 (hF.1 _ _ rfl) rfl (Nat.le_of_ble_eq_true rfl) k_886 rfl <| o_iconst (pc := 91) dX7_goDraw_91 lc_1 <| o_isub (pc := 92) dX7_goDraw_92 <| o_putI (pc := 93) (ci := 7) (j := 3) (nn := 0) dX7_goDraw_93 (hF.1 _ _ rfl) rfl (Nat.le_of_ble_eq_true rfl) k_886 rfl rfl rfl rfl rfl <| ?_
    refine o_lm fun m5 => ?_
    refine o_aload_n (pc := 96) 2 dX7_goDraw_96 rfl rfl <| o_dup (pc := 97) dX7_goDraw_97 rfl <| o_getI (pc := 98) (ci := 7) (j := 4) (nn := 0) dX7_goDraw_98 (hF.1 _ _ rfl) rfl (Nat.le_of_ble_eq_true rfl) k_887 rfl <| o_iconst (pc := 101) dX7_goDraw_101 lc_1 <| o_iadd (pc := 102) dX7_goDraw_102 <| o_putI (pc := 103) (ci := 7) (j := 4) (nn := 0) dX7_goDraw_103 (hF.1 _ _ rfl) rfl (Nat.le_of_ble_eq_true rfl) k_887 rfl rfl rfl rfl rfl <| ?_
    refine o_lm fun m6 => ?_
    refine o_iload_n (pc := 106) 0 dX7_goDraw_106 rfl rfl <| ?_
    exact o_zret (pc := 107) dX7_goDraw_107 rfl rfl rfl
  · refine o_iconst (pc := 31) dX7_goDraw_31 lc_1 <| o_goto (pc := 32) (tgt := 36) dX7_goDraw_32 rfl <| o_istore_n (pc := 36) (ls' := [(3, .int 1), (2, .int x2), (0, .ref 61), (1, .int a)]) dX7_goDraw_36 rfl (Nat.le_of_ble_eq_true rfl) rfl <| o_iload_n (pc := 37) 0 dX7_goDraw_37 rfl rfl <| o_if_eq_f (pc := 38) (tgt := 86) dX7_goDraw_38 rfl (by decide) <| o_aload_n (pc := 41) 2 dX7_goDraw_41 rfl rfl <| o_dup (pc := 42) dX7_goDraw_42 rfl <| o_getI (pc := 43) (ci := 7) (j := 2) (nn := 0) dX7_goDraw_43 (hF.1 _ _ rfl) rfl (Nat.le_of_ble_eq_true rfl) k_885 rfl <| o_iconst (pc := 46) dX7_goDraw_46 lc_1 <| o_isub (pc := 47) dX7_goDraw_47 <| ?_
    refine o_putI (pc := 48) (ci := 7) (j := 2) (nn := 0) dX7_goDraw_48 (hF.1 _ _ rfl) rfl (Nat.le_of_ble_eq_true rfl) k_885 rfl rfl rfl rfl rfl <| ?_
    refine o_lm fun m7 => ?_
    refine o_aload_n (pc := 51) 2 dX7_goDraw_51 rfl rfl <| o_getRc (pc := 52) (a := 64) (ci := 7) (j := 7) (nn := 0) dX7_goDraw_52 (hF.1 _ _ rfl) rfl (Nat.le_of_ble_eq_true rfl) k_890 rfl (hF.2 _ _ _ rfl) <| o_iload_n (pc := 55) 1 dX7_goDraw_55 rfl rfl <| o_aload_n (pc := 56) 2 dX7_goDraw_56 rfl rfl <| o_getRc (pc := 57) (a := 64) (ci := 7) (j := 7) (nn := 0) dX7_goDraw_57 (hF.1 _ _ rfl) rfl (Nat.le_of_ble_eq_true rfl) k_890 rfl (hF.2 _ _ _ rfl) <| o_iload_n (pc := 60) 1 dX7_goDraw_60 rfl rfl <| ?_
    refine S_ck fun h8 => ?_
    refine o_iald (pc := 61) (nn := 6) dX7_goDraw_61 (hF.1 _ _ rfl) (ck_in h8) <| o_sipush (pc := 62) dX7_goDraw_62 ls_999 <| ?_
    refine o_icmp_ge (pc := 65) (tgt := 79) dX7_goDraw_65 rfl (fun h9 => ?_) (fun h9 => ?_)
    · refine o_sipush (pc := 79) dX7_goDraw_79 ls_999 <| ?_
      refine S_ck fun h10 => ?_
      refine o_iast (pc := 82) (nn := 6) dX7_goDraw_82 (hF.1 _ _ rfl) (ck_in h10) <| ?_
      refine o_lm fun m11 => ?_
      refine o_goto (pc := 83) (tgt := 96) dX7_goDraw_83 rfl <| o_aload_n (pc := 96) 2 dX7_goDraw_96 rfl rfl <| o_dup (pc := 97) dX7_goDraw_97 rfl <| o_getI (pc := 98) (ci := 7) (j := 4) (nn := 0) dX7_goDraw_98 (hF.1 _ _ rfl) rfl (Nat.le_of_ble_eq_true rfl) k_887 rfl <| o_iconst (pc := 101) dX7_goDraw_101 lc_1 <| o_iadd (pc := 102) dX7_goDraw_102 <| o_putI (pc := 103) (ci := 7) (j := 4) (nn := 0) dX7_goDraw_103 (hF.1 _ _ rfl) rfl (Nat.le_of_ble_eq_true rfl) k_887 rfl rfl rfl rfl rfl <| ?_
      refine o_lm fun m12 => ?_
      refine o_iload_n (pc := 106) 0 dX7_goDraw_106 rfl rfl <| ?_
      exact o_zret (pc := 107) dX7_goDraw_107 rfl rfl rfl
    · refine o_aload_n (pc := 68) 2 dX7_goDraw_68 rfl rfl <| o_getRc (pc := 69) (a := 64) (ci := 7) (j := 7) (nn := 0) dX7_goDraw_69 (hF.1 _ _ rfl) rfl (Nat.le_of_ble_eq_true rfl) k_890 rfl (hF.2 _ _ _ rfl) <| o_iload_n (pc := 72) 1 dX7_goDraw_72 rfl rfl <| ?_
      refine S_ck fun h13 => ?_
      refine o_iald (pc := 73) (nn := 6) dX7_goDraw_73 (hF.1 _ _ rfl) (ck_in h13) <| o_iconst (pc := 74) dX7_goDraw_74 lc_1 <| o_iadd (pc := 75) dX7_goDraw_75 <| o_goto (pc := 76) (tgt := 82) dX7_goDraw_76 rfl <| ?_
      refine S_ck fun h14 => ?_
      refine o_iast (pc := 82) (nn := 6) dX7_goDraw_82 (hF.1 _ _ rfl) (ck_in h14) <| ?_
      refine o_lm fun m15 => ?_
      refine o_goto (pc := 83) (tgt := 96) dX7_goDraw_83 rfl <| o_aload_n (pc := 96) 2 dX7_goDraw_96 rfl rfl <| o_dup (pc := 97) dX7_goDraw_97 rfl <| o_getI (pc := 98) (ci := 7) (j := 4) (nn := 0) dX7_goDraw_98 (hF.1 _ _ rfl) rfl (Nat.le_of_ble_eq_true rfl) k_887 rfl <| o_iconst (pc := 101) dX7_goDraw_101 lc_1 <| o_iadd (pc := 102) dX7_goDraw_102 <| o_putI (pc := 103) (ci := 7) (j := 4) (nn := 0) dX7_goDraw_103 (hF.1 _ _ rfl) rfl (Nat.le_of_ble_eq_true rfl) k_887 rfl rfl rfl rfl rfl <| ?_
      refine o_lm fun m16 => ?_
      refine o_iload_n (pc := 106) 0 dX7_goDraw_106 rfl rfl <| ?_
      exact o_zret (pc := 107) dX7_goDraw_107 rfl rfl rfl
def fM_isEnd (m : MI) : Option (Int32 × MI) :=
  if m.1 61 2 = 0 then
    some (1, m)
  else
    if m.1 61 4 = m.1 61 0 then
      some (1, m)
    else
      some (0, m)
theorem sM_isEnd {sh : Sh} {R : RR} (hF : Fx sh R) (m : MI) : KS (eI sh R) false 0 0 0 YX7_isEnd sh R m [.ref 61] (fM_isEnd m ) := by
  refine KS_of pn_X7 (fun _ => Nat.le_of_ble_eq_true rfl) ?_
  change S _ _ _ _ _ _ _ _ _ _ [(0, .ref 61)] [] _
  unfold fM_isEnd
  refine o_aload_n (pc := 0) 0 dX7_isEnd_0 rfl rfl <| o_getI (pc := 1) (ci := 7) (j := 2) (nn := 0) dX7_isEnd_1 (hF.1 _ _ rfl) rfl (Nat.le_of_ble_eq_true rfl) k_885 rfl <| ?_
  refine o_if_eq (pc := 4) (tgt := 18) dX7_isEnd_4 rfl (fun h1 => ?_) (fun h1 => ?_)
  · refine o_iconst (pc := 18) dX7_isEnd_18 lc_1 <| o_goto (pc := 19) (tgt := 23) dX7_isEnd_19 rfl <| ?_
    exact o_zret (pc := 23) dX7_isEnd_23 rfl rfl rfl
  · refine o_aload_n (pc := 7) 0 dX7_isEnd_7 rfl rfl <| o_getI (pc := 8) (ci := 7) (j := 4) (nn := 0) dX7_isEnd_8 (hF.1 _ _ rfl) rfl (Nat.le_of_ble_eq_true rfl) k_887 rfl <| o_aload_n (pc := 11) 0 dX7_isEnd_11 rfl rfl <| o_getI (pc := 12) (ci := 7) (j := 0) (nn := 0) dX7_isEnd_12 (hF.1 _ _ rfl) rfl (Nat.le_of_ble_eq_true rfl) k_883 rfl <| ?_
    refine o_icmp_ne (pc := 15) (tgt := 22) dX7_isEnd_15 rfl (fun h2 => ?_) (fun h2 => ?_)
    · refine o_iconst (pc := 18) dX7_isEnd_18 lc_1 <| o_goto (pc := 19) (tgt := 23) dX7_isEnd_19 rfl <| ?_
      exact o_zret (pc := 23) dX7_isEnd_23 rfl rfl rfl
    · refine o_iconst (pc := 22) dX7_isEnd_22 lc_0 <| ?_
      exact o_zret (pc := 23) dX7_isEnd_23 rfl rfl rfl
def fM_draw (m : MI) (a : Int32) : Option (Int32 × MI) :=
  (fM_isDraw m a).bind fun r1 =>
  if r1.1 = 0 then
    some (-2, r1.2)
  else
    if r1.2.1 61 0 = 0 then
      some (-3, r1.2)
    else
      if r1.2.1 61 1 = 9999 then
        some (-3, r1.2)
      else
        if ck (r1.2.1 61 4) 6 = true then
          lt (r1.2.1 66 (r1.2.1 61 4).toNatClampNeg) fun x6 =>
          (fM_goDraw r1.2 a).bind fun r7 =>
          if r7.1 = 0 then
            lt (x6 + 0) fun x9 =>
            (fM_isEnd r7.2).bind fun r10 =>
            if r10.1 = 0 then
              some (x9, r10.2)
            else
              lm (mI r10.2 61 (upd (r10.2.1 61) 1 ((r10.2.1 61 1) + 1))) fun m12 =>
              (fM_layFist m12).bind fun r13 =>
              some (x9 + 100, r13)
          else
            lt (x6 + 10) fun x14 =>
            (fM_isEnd r7.2).bind fun r15 =>
            if r15.1 = 0 then
              some (x14, r15.2)
            else
              lm (mI r15.2 61 (upd (r15.2.1 61) 1 ((r15.2.1 61 1) + 1))) fun m17 =>
              (fM_layFist m17).bind fun r18 =>
              some (x14 + 100, r18)
        else none
theorem sM_draw {sh : Sh} {R : RR} (hF : Fx sh R) (m : MI) (a : Int32) : KS (eI sh R) false 7 0 0 YX7_draw sh R m [.ref 61, .int a] (fM_draw m a) := by
  refine KS_of pn_X7 (fun _ => Nat.le_of_ble_eq_true rfl) ?_
  change S _ _ _ _ _ _ _ _ _ _ [(0, .ref 61), (1, .int a)] [] _
  unfold fM_draw
  refine o_aload_n (pc := 0) 0 dX7_draw_0 rfl rfl <| o_iload_n (pc := 1) 1 dX7_draw_1 rfl rfl <| ?_
  refine o_callVI (Y2 := YX7_isDraw) (pc := 2) (av := [.int a]) (rest := []) dX7_draw_2 k_1235 cm_X7_isDraw (sM_isDraw hF m a) (hF.1 _ _ rfl) rfl rfl (Nat.le_of_ble_eq_true rfl) (Nat.le_of_ble_eq_true rfl) fun r1 => ?_
  refine o_if_ne (pc := 5) (tgt := 11) dX7_draw_5 rfl (fun h2 => ?_) (fun h2 => ?_)
  · refine o_bipush (pc := 8) dX7_draw_8 lb_m2 <| ?_
    exact o_iret (pc := 10) dX7_draw_10 rfl rfl
  · refine o_aload_n (pc := 11) 0 dX7_draw_11 rfl rfl <| o_getI (pc := 12) (ci := 7) (j := 0) (nn := 0) dX7_draw_12 (hF.1 _ _ rfl) rfl (Nat.le_of_ble_eq_true rfl) k_883 rfl <| ?_
    refine o_if_eq (pc := 15) (tgt := 28) dX7_draw_15 rfl (fun h3 => ?_) (fun h3 => ?_)
    · refine o_bipush (pc := 28) dX7_draw_28 lb_m3 <| ?_
      exact o_iret (pc := 30) dX7_draw_30 rfl rfl
    · refine o_aload_n (pc := 18) 0 dX7_draw_18 rfl rfl <| o_getI (pc := 19) (ci := 7) (j := 1) (nn := 0) dX7_draw_19 (hF.1 _ _ rfl) rfl (Nat.le_of_ble_eq_true rfl) k_884 rfl <| o_sipush (pc := 22) dX7_draw_22 ls_9999 <| ?_
      refine o_icmp_ne (pc := 25) (tgt := 31) dX7_draw_25 rfl (fun h4 => ?_) (fun h4 => ?_)
      · refine o_bipush (pc := 28) dX7_draw_28 lb_m3 <| ?_
        exact o_iret (pc := 30) dX7_draw_30 rfl rfl
      · refine o_aload_n (pc := 31) 0 dX7_draw_31 rfl rfl <| o_getRc (pc := 32) (a := 66) (ci := 7) (j := 9) (nn := 0) dX7_draw_32 (hF.1 _ _ rfl) rfl (Nat.le_of_ble_eq_true rfl) k_892 rfl (hF.2 _ _ _ rfl) <| o_aload_n (pc := 35) 0 dX7_draw_35 rfl rfl <| o_getI (pc := 36) (ci := 7) (j := 4) (nn := 0) dX7_draw_36 (hF.1 _ _ rfl) rfl (Nat.le_of_ble_eq_true rfl) k_887 rfl <| ?_
        refine S_ck fun h5 => ?_
        refine o_iald (pc := 39) (nn := 6) dX7_draw_39 (hF.1 _ _ rfl) (ck_in h5) <| ?_
        refine o_lt fun x6 => ?_
        refine o_istore_n (pc := 40) (ls' := [(2, .int x6), (0, .ref 61), (1, .int a)]) dX7_draw_40 rfl (Nat.le_of_ble_eq_true rfl) rfl <| o_iload_n (pc := 41) 0 dX7_draw_41 rfl rfl <| o_aload_n (pc := 42) 1 dX7_draw_42 rfl rfl <| o_iload_n (pc := 43) 2 dX7_draw_43 rfl rfl <| ?_
        refine o_callVI (Y2 := YX7_goDraw) (pc := 44) (av := [.int a]) (rest := [.int x6]) dX7_draw_44 k_1240 cm_X7_goDraw (sM_goDraw hF r1.2 a) (hF.1 _ _ rfl) rfl rfl (Nat.le_of_ble_eq_true rfl) (Nat.le_of_ble_eq_true rfl) fun r7 => ?_
        refine o_if_eq (pc := 47) (tgt := 55) dX7_draw_47 rfl (fun h8 => ?_) (fun h8 => ?_)
        · refine o_iconst (pc := 55) dX7_draw_55 lc_0 <| o_iadd (pc := 56) dX7_draw_56 <| ?_
          refine o_lt fun x9 => ?_
          refine o_istore_n (pc := 57) (ls' := [(2, .int x9), (0, .ref 61), (1, .int a)]) dX7_draw_57 rfl (Nat.le_of_ble_eq_true rfl) rfl <| o_aload_n (pc := 58) 1 dX7_draw_58 rfl rfl <| ?_
          refine o_callVI (Y2 := YX7_isEnd) (pc := 59) (av := []) (rest := []) dX7_draw_59 k_1244 cm_X7_isEnd (sM_isEnd hF r7.2 ) (hF.1 _ _ rfl) rfl rfl (Nat.le_of_ble_eq_true rfl) (Nat.le_of_ble_eq_true rfl) fun r10 => ?_
          refine o_if_ne (pc := 62) (tgt := 67) dX7_draw_62 rfl (fun h11 => ?_) (fun h11 => ?_)
          · refine o_iload_n (pc := 65) 0 dX7_draw_65 rfl rfl <| ?_
            exact o_iret (pc := 66) dX7_draw_66 rfl rfl
          · refine o_aload_n (pc := 67) 1 dX7_draw_67 rfl rfl <| o_dup (pc := 68) dX7_draw_68 rfl <| o_getI (pc := 69) (ci := 7) (j := 1) (nn := 0) dX7_draw_69 (hF.1 _ _ rfl) rfl (Nat.le_of_ble_eq_true rfl) k_884 rfl <| o_iconst (pc := 72) dX7_draw_72 lc_1 <| o_iadd (pc := 73) dX7_draw_73 <| o_putI (pc := 74) (ci := 7) (j := 1) (nn := 0) dX7_draw_74 (hF.1 _ _ rfl) rfl (Nat.le_of_ble_eq_true rfl) k_884 rfl rfl rfl rfl rfl <| ?_
            refine o_lm fun m12 => ?_
            refine o_aload_n (pc := 77) 1 dX7_draw_77 rfl rfl <| ?_
            refine o_callVV (Y2 := YX7_layFist) (pc := 78) (av := []) (rest := []) dX7_draw_78 k_859 cm_X7_layFist (sM_layFist hF m12 ) (hF.1 _ _ rfl) rfl rfl (Nat.le_of_ble_eq_true rfl) (Nat.le_of_ble_eq_true rfl) fun r13 => ?_
            refine o_iload_n (pc := 81) 0 dX7_draw_81 rfl rfl <| o_bipush (pc := 82) dX7_draw_82 lb_100 <| o_iadd (pc := 84) dX7_draw_84 <| ?_
            exact o_iret (pc := 85) dX7_draw_85 rfl rfl
        · refine o_bipush (pc := 50) dX7_draw_50 lb_10 <| o_goto (pc := 52) (tgt := 56) dX7_draw_52 rfl <| o_iadd (pc := 56) dX7_draw_56 <| ?_
          refine o_lt fun x14 => ?_
          refine o_istore_n (pc := 57) (ls' := [(2, .int x14), (0, .ref 61), (1, .int a)]) dX7_draw_57 rfl (Nat.le_of_ble_eq_true rfl) rfl <| o_aload_n (pc := 58) 1 dX7_draw_58 rfl rfl <| ?_
          refine o_callVI (Y2 := YX7_isEnd) (pc := 59) (av := []) (rest := []) dX7_draw_59 k_1244 cm_X7_isEnd (sM_isEnd hF r7.2 ) (hF.1 _ _ rfl) rfl rfl (Nat.le_of_ble_eq_true rfl) (Nat.le_of_ble_eq_true rfl) fun r15 => ?_
          refine o_if_ne (pc := 62) (tgt := 67) dX7_draw_62 rfl (fun h16 => ?_) (fun h16 => ?_)
          · refine o_iload_n (pc := 65) 0 dX7_draw_65 rfl rfl <| ?_
            exact o_iret (pc := 66) dX7_draw_66 rfl rfl
          · refine o_aload_n (pc := 67) 1 dX7_draw_67 rfl rfl <| o_dup (pc := 68) dX7_draw_68 rfl <| o_getI (pc := 69) (ci := 7) (j := 1) (nn := 0) dX7_draw_69 (hF.1 _ _ rfl) rfl (Nat.le_of_ble_eq_true rfl) k_884 rfl <| o_iconst (pc := 72) dX7_draw_72 lc_1 <| o_iadd (pc := 73) dX7_draw_73 <| o_putI (pc := 74) (ci := 7) (j := 1) (nn := 0) dX7_draw_74 (hF.1 _ _ rfl) rfl (Nat.le_of_ble_eq_true rfl) k_884 rfl rfl rfl rfl rfl <| ?_
            refine o_lm fun m17 => ?_
            refine o_aload_n (pc := 77) 1 dX7_draw_77 rfl rfl <| ?_
            refine o_callVV (Y2 := YX7_layFist) (pc := 78) (av := []) (rest := []) dX7_draw_78 k_859 cm_X7_layFist (sM_layFist hF m17 ) (hF.1 _ _ rfl) rfl rfl (Nat.le_of_ble_eq_true rfl) (Nat.le_of_ble_eq_true rfl) fun r18 => ?_
            refine o_iload_n (pc := 81) 0 dX7_draw_81 rfl rfl <| o_bipush (pc := 82) dX7_draw_82 lb_100 <| o_iadd (pc := 84) dX7_draw_84 <| ?_
            exact o_iret (pc := 85) dX7_draw_85 rfl rfl
