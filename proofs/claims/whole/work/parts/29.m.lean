def fP_readsClause (m : MI) : Option (Int32 × MI) :=
  (fP_word m).bind fun r1 =>
  if r1.1 < 0 then
    some (0, r1.2)
  else
    (fP_reads r1.2 32).bind fun r3 =>
    if r3.1 = 0 then
      some (0, r3.2)
    else
      (fP_number r3.2).bind fun r5 =>
      if 0 ≤ r5.1 then
        if r1.1 = 6 then
          lm (mI r5.2 43 (upd (r5.2.1 43) 3 r5.1)) fun m8 =>
          some (1, m8)
        else
          if r1.1 = 7 then
            lm (mI r5.2 43 (upd (r5.2.1 43) 4 r5.1)) fun m10 =>
            some (1, m10)
          else
            (fP_reads r5.2 32).bind fun r11 =>
            if r11.1 = 0 then
              some (0, r11.2)
            else
              (fP_readsEitherN 8 r11.2 0).bind fun r13 =>
              if r13.1 = 0 then
                some (0, r13.2)
              else
                (fH_clause r13.2 r1.1 r5.1).bind fun r15 =>
                (fP_keep r15.2 r15.1).bind fun r16 =>
                some (1, r16)
      else
        some (0, r5.2)
theorem sP_readsClause {sh : Sh} {R : RR} (hF : Fx sh R) (m : MI) : KS (eI sh R) false 73 0 0 YX2_readsClause sh R m [.ref 43] (fP_readsClause m ) := by
  refine KS_of pn_X2 (fun _ => Nat.le_of_ble_eq_true rfl) ?_
  change S _ _ _ _ _ _ _ _ _ _ [(0, .ref 43)] [] _
  unfold fP_readsClause
  refine o_aload_n (pc := 0) 0 dX2_readsClause_0 rfl rfl <| ?_
  refine o_callVI (Y2 := YX2_word) (pc := 1) (av := []) (rest := []) dX2_readsClause_1 k_417 cm_X2_word (sP_word hF m ) (hF.1 _ _ rfl) rfl rfl (Nat.le_of_ble_eq_true rfl) (Nat.le_of_ble_eq_true rfl) fun r1 => ?_
  refine o_istore_n (pc := 4) (ls' := [(1, .int r1.1), (0, .ref 43)]) dX2_readsClause_4 rfl (Nat.le_of_ble_eq_true rfl) rfl <| o_iload_n (pc := 5) 0 dX2_readsClause_5 rfl rfl <| ?_
  refine o_if_lt (pc := 6) (tgt := 18) dX2_readsClause_6 rfl (fun h2 => ?_) (fun h2 => ?_)
  · refine o_iconst (pc := 18) dX2_readsClause_18 lc_0 <| ?_
    exact o_zret (pc := 19) dX2_readsClause_19 rfl rfl rfl
  · refine o_aload_n (pc := 9) 1 dX2_readsClause_9 rfl rfl <| o_bipush (pc := 10) dX2_readsClause_10 lb_32 <| ?_
    refine o_callVI (Y2 := YX2_reads) (pc := 12) (av := [.int 32]) (rest := []) dX2_readsClause_12 k_474 cm_X2_reads (sP_reads hF r1.2 32) (hF.1 _ _ rfl) rfl rfl (Nat.le_of_ble_eq_true rfl) (Nat.le_of_ble_eq_true rfl) fun r3 => ?_
    refine o_if_ne (pc := 15) (tgt := 20) dX2_readsClause_15 rfl (fun h4 => ?_) (fun h4 => ?_)
    · refine o_iconst (pc := 18) dX2_readsClause_18 lc_0 <| ?_
      exact o_zret (pc := 19) dX2_readsClause_19 rfl rfl rfl
    · refine o_aload_n (pc := 20) 1 dX2_readsClause_20 rfl rfl <| ?_
      refine o_callVI (Y2 := YX2_number) (pc := 21) (av := []) (rest := []) dX2_readsClause_21 k_481 cm_X2_number (sP_number hF r3.2 ) (hF.1 _ _ rfl) rfl rfl (Nat.le_of_ble_eq_true rfl) (Nat.le_of_ble_eq_true rfl) fun r5 => ?_
      refine o_istore_n (pc := 24) (ls' := [(2, .int r5.1), (1, .int r1.1), (0, .ref 43)]) dX2_readsClause_24 rfl (Nat.le_of_ble_eq_true rfl) rfl <| o_iload_n (pc := 25) 0 dX2_readsClause_25 rfl rfl <| ?_
      refine o_if_ge (pc := 26) (tgt := 31) dX2_readsClause_26 rfl (fun h6 => ?_) (fun h6 => ?_)
      · refine o_iload_n (pc := 31) 1 dX2_readsClause_31 rfl rfl <| o_bipush (pc := 32) dX2_readsClause_32 lb_6 <| ?_
        refine o_icmp_ne (pc := 34) (tgt := 44) dX2_readsClause_34 rfl (fun h7 => ?_) (fun h7 => ?_)
        · refine o_aload_n (pc := 37) 2 dX2_readsClause_37 rfl rfl <| o_iload_n (pc := 38) 0 dX2_readsClause_38 rfl rfl <| o_putI (pc := 39) (ci := 2) (j := 3) (nn := 0) dX2_readsClause_39 (hF.1 _ _ rfl) rfl (Nat.le_of_ble_eq_true rfl) k_230 rfl rfl rfl rfl rfl <| ?_
          refine o_lm fun m8 => ?_
          refine o_iconst (pc := 42) dX2_readsClause_42 lc_1 <| ?_
          exact o_zret (pc := 43) dX2_readsClause_43 rfl rfl rfl
        · refine o_iload_n (pc := 44) 1 dX2_readsClause_44 rfl rfl <| o_bipush (pc := 45) dX2_readsClause_45 lb_7 <| ?_
          refine o_icmp_ne (pc := 47) (tgt := 57) dX2_readsClause_47 rfl (fun h9 => ?_) (fun h9 => ?_)
          · refine o_aload_n (pc := 50) 2 dX2_readsClause_50 rfl rfl <| o_iload_n (pc := 51) 0 dX2_readsClause_51 rfl rfl <| o_putI (pc := 52) (ci := 2) (j := 4) (nn := 0) dX2_readsClause_52 (hF.1 _ _ rfl) rfl (Nat.le_of_ble_eq_true rfl) k_231 rfl rfl rfl rfl rfl <| ?_
            refine o_lm fun m10 => ?_
            refine o_iconst (pc := 55) dX2_readsClause_55 lc_1 <| ?_
            exact o_zret (pc := 56) dX2_readsClause_56 rfl rfl rfl
          · refine o_aload_n (pc := 57) 2 dX2_readsClause_57 rfl rfl <| o_bipush (pc := 58) dX2_readsClause_58 lb_32 <| ?_
            refine o_callVI (Y2 := YX2_reads) (pc := 60) (av := [.int 32]) (rest := []) dX2_readsClause_60 k_474 cm_X2_reads (sP_reads hF r5.2 32) (hF.1 _ _ rfl) rfl rfl (Nat.le_of_ble_eq_true rfl) (Nat.le_of_ble_eq_true rfl) fun r11 => ?_
            refine o_if_eq (pc := 63) (tgt := 74) dX2_readsClause_63 rfl (fun h12 => ?_) (fun h12 => ?_)
            · refine o_iconst (pc := 74) dX2_readsClause_74 lc_0 <| ?_
              exact o_zret (pc := 75) dX2_readsClause_75 rfl rfl rfl
            · refine o_aload_n (pc := 66) 2 dX2_readsClause_66 rfl rfl <| o_iconst (pc := 67) dX2_readsClause_67 lc_0 <| ?_
              refine o_callVI (Y2 := YX2_readsEither) (pc := 68) (av := [.int 0]) (rest := []) dX2_readsClause_68 k_485 cm_X2_readsEither (sP_readsEitherN hF 8 r11.2 0) (hF.1 _ _ rfl) rfl rfl (Nat.le_of_ble_eq_true rfl) (Nat.le_of_ble_eq_true rfl) fun r13 => ?_
              refine o_if_ne (pc := 71) (tgt := 76) dX2_readsClause_71 rfl (fun h14 => ?_) (fun h14 => ?_)
              · refine o_iconst (pc := 74) dX2_readsClause_74 lc_0 <| ?_
                exact o_zret (pc := 75) dX2_readsClause_75 rfl rfl rfl
              · refine o_aload_n (pc := 76) 2 dX2_readsClause_76 rfl rfl <| o_iload_n (pc := 77) 1 dX2_readsClause_77 rfl rfl <| o_iload_n (pc := 78) 0 dX2_readsClause_78 rfl rfl <| ?_
                refine o_callSI (Y2 := YX1_clause) (pc := 79) (av := [.int r1.1, .int r5.1]) (rest := [.ref 43]) dX2_readsClause_79 k_567 cs_X1_clause (sH_clause hF r13.2 r1.1 r5.1) rfl rfl (Nat.le_of_ble_eq_true rfl) (Nat.le_of_ble_eq_true rfl) fun r15 => ?_
                refine o_callVV (Y2 := YX2_keep) (pc := 82) (av := [.int r15.1]) (rest := []) dX2_readsClause_82 k_563 cm_X2_keep (sP_keep hF r15.2 r15.1) (hF.1 _ _ rfl) rfl rfl (Nat.le_of_ble_eq_true rfl) (Nat.le_of_ble_eq_true rfl) fun r16 => ?_
                refine o_iconst (pc := 85) dX2_readsClause_85 lc_1 <| ?_
                exact o_zret (pc := 86) dX2_readsClause_86 rfl rfl rfl
      · refine o_iconst (pc := 29) dX2_readsClause_29 lc_0 <| ?_
        exact o_zret (pc := 30) dX2_readsClause_30 rfl rfl rfl
def fP_readsAll_l32 (k0_0 : MI → Int32 → Option (Int32 × MI)) : Nat → MI → Int32 → Option (Int32 × MI)
  | 0, _, _ => none
  | n0 + 1, m, v1 =>
    if 10 < v1 then
      k0_0 m v1
    else
      (fP_readsClause m).bind fun r2 =>
      if r2.1 = 0 then
        some (0, r2.2)
      else
        if r2.2.1 43 1 = r2.2.1 43 0 then
          some (1, r2.2)
        else
          if v1 = 10 then
            some (0, r2.2)
          else
            (fP_reads r2.2 59).bind fun r6 =>
            if r6.1 = 0 then
              some (0, r6.2)
            else
              lt (v1 + 1) fun x8 =>
              fP_readsAll_l32 k0_0 n0 r6.2 x8
theorem sP_readsAll_l32 {sh : Sh} {R : RR} (hF : Fx sh R) (k0_0 : MI → Int32 → Option (Int32 × MI)) (hk0_0 : ∀ (m : MI) (v1 : Int32) , S (eI sh R) false 74 0 0 YX2_readsAll sh R m 83 [(0, .ref 43), (1, .int v1)] [] (k0_0 m v1)) : ∀ (n : Nat) (m : MI) (v1 : Int32) , S (eI sh R) false 74 0 0 YX2_readsAll sh R m 32 [(0, .ref 43), (1, .int v1)] [] (fP_readsAll_l32 k0_0 n m v1) := by
  intro n
  induction n with
  | zero => intros; exact S_none
  | succ n0 ih0 =>
    intro m v1
    rw [fP_readsAll_l32]
    refine o_iload_n (pc := 32) 1 dX2_readsAll_32 rfl rfl <| o_bipush (pc := 33) dX2_readsAll_33 lb_10 <| ?_
    refine o_icmp_gt (pc := 35) (tgt := 83) dX2_readsAll_35 rfl (fun h1 => ?_) (fun h1 => ?_)
    · exact hk0_0 m v1
    · refine o_aload_n (pc := 38) 0 dX2_readsAll_38 rfl rfl <| ?_
      refine o_callVI (Y2 := YX2_readsClause) (pc := 39) (av := []) (rest := []) dX2_readsAll_39 k_413 cm_X2_readsClause (sP_readsClause hF m ) (hF.1 _ _ rfl) rfl rfl (Nat.le_of_ble_eq_true rfl) (Nat.le_of_ble_eq_true rfl) fun r2 => ?_
      refine o_if_ne (pc := 42) (tgt := 47) dX2_readsAll_42 rfl (fun h3 => ?_) (fun h3 => ?_)
      · refine o_iconst (pc := 45) dX2_readsAll_45 lc_0 <| ?_
        exact o_zret (pc := 46) dX2_readsAll_46 rfl rfl rfl
      · refine o_aload_n (pc := 47) 0 dX2_readsAll_47 rfl rfl <| o_getI (pc := 48) (ci := 2) (j := 1) (nn := 0) dX2_readsAll_48 (hF.1 _ _ rfl) rfl (Nat.le_of_ble_eq_true rfl) k_227 rfl <| o_aload_n (pc := 51) 0 dX2_readsAll_51 rfl rfl <| o_getI (pc := 52) (ci := 2) (j := 0) (nn := 0) dX2_readsAll_52 (hF.1 _ _ rfl) rfl (Nat.le_of_ble_eq_true rfl) k_225 rfl <| ?_
        refine o_icmp_ne (pc := 55) (tgt := 60) dX2_readsAll_55 rfl (fun h4 => ?_) (fun h4 => ?_)
        · refine o_iconst (pc := 58) dX2_readsAll_58 lc_1 <| ?_
          exact o_zret (pc := 59) dX2_readsAll_59 rfl rfl rfl
        · refine o_iload_n (pc := 60) 1 dX2_readsAll_60 rfl rfl <| o_bipush (pc := 61) dX2_readsAll_61 lb_10 <| ?_
          refine o_icmp_eq (pc := 63) (tgt := 75) dX2_readsAll_63 rfl (fun h5 => ?_) (fun h5 => ?_)
          · refine o_iconst (pc := 75) dX2_readsAll_75 lc_0 <| ?_
            exact o_zret (pc := 76) dX2_readsAll_76 rfl rfl rfl
          · refine o_aload_n (pc := 66) 0 dX2_readsAll_66 rfl rfl <| o_bipush (pc := 67) dX2_readsAll_67 lb_59 <| ?_
            refine o_callVI (Y2 := YX2_reads) (pc := 69) (av := [.int 59]) (rest := []) dX2_readsAll_69 k_474 cm_X2_reads (sP_reads hF r2.2 59) (hF.1 _ _ rfl) rfl rfl (Nat.le_of_ble_eq_true rfl) (Nat.le_of_ble_eq_true rfl) fun r6 => ?_
            refine o_if_ne (pc := 72) (tgt := 77) dX2_readsAll_72 rfl (fun h7 => ?_) (fun h7 => ?_)
            · refine o_iconst (pc := 75) dX2_readsAll_75 lc_0 <| ?_
              exact o_zret (pc := 76) dX2_readsAll_76 rfl rfl rfl
            · refine o_iinc (pc := 77) 1 (v := v1 + 1) (ls' := [(1, .int (v1 + 1)), (0, .ref 43)]) dX2_readsAll_77 rfl rfl (Nat.le_of_ble_eq_true rfl) rfl <| ?_
              refine o_ltL (ls := fun x8 => [(1, .int x8), (0, .ref 43)]) fun x8 => ?_
              refine o_goto (pc := 80) (tgt := 32) dX2_readsAll_80 rfl <| ?_
              refine o_sub [1, 0] (ls' := [(0, .ref 43), (1, .int x8)]) rfl ?_
              exact ih0 r6.2 x8
def fP_readsAll (m : MI) : Option (Int32 × MI) :=
  if ck (m.1 43 0) 101 = true then
    lm (mI m 44 (upd (m.1 44) (m.1 43 0).toNatClampNeg (-1))) fun m2 =>
    lm (mI m2 43 (upd (m2.1 43) 1 0)) fun m3 =>
    lm (mI m3 43 (upd (m3.1 43) 3 1)) fun m4 =>
    lm (mI m4 43 (upd (m4.1 43) 4 0)) fun m5 =>
    lm (mI m5 43 (upd (m5.1 43) 5 0)) fun m6 =>
    fP_readsAll_l32 
      (fun m8 z7 =>
        some (0, m8)
        )
      1000 m6 1
  else none
theorem sP_readsAll {sh : Sh} {R : RR} (hF : Fx sh R) (m : MI) : KS (eI sh R) false 74 0 0 YX2_readsAll sh R m [.ref 43] (fP_readsAll m ) := by
  refine KS_of pn_X2 (fun _ => Nat.le_of_ble_eq_true rfl) ?_
  change S _ _ _ _ _ _ _ _ _ _ [(0, .ref 43)] [] _
  unfold fP_readsAll
  refine o_aload_n (pc := 0) 0 dX2_readsAll_0 rfl rfl <| o_getRc (pc := 1) (a := 44) (ci := 2) (j := 2) (nn := 0) dX2_readsAll_1 (hF.1 _ _ rfl) rfl (Nat.le_of_ble_eq_true rfl) k_229 rfl (hF.2 _ _ _ rfl) <| o_aload_n (pc := 4) 0 dX2_readsAll_4 rfl rfl <| o_getI (pc := 5) (ci := 2) (j := 0) (nn := 0) dX2_readsAll_5 (hF.1 _ _ rfl) rfl (Nat.le_of_ble_eq_true rfl) k_225 rfl <| o_iconst (pc := 8) dX2_readsAll_8 lc_m1 <| ?_
  refine S_ck fun h1 => ?_
  refine o_iast (pc := 9) (nn := 101) dX2_readsAll_9 (hF.1 _ _ rfl) (ck_in h1) <| ?_
  refine o_lm fun m2 => ?_
  refine o_aload_n (pc := 10) 0 dX2_readsAll_10 rfl rfl <| o_iconst (pc := 11) dX2_readsAll_11 lc_0 <| o_putI (pc := 12) (ci := 2) (j := 1) (nn := 0) dX2_readsAll_12 (hF.1 _ _ rfl) rfl (Nat.le_of_ble_eq_true rfl) k_227 rfl rfl rfl rfl rfl <| ?_
  refine o_lm fun m3 => ?_
  refine o_aload_n (pc := 15) 0 dX2_readsAll_15 rfl rfl <| o_iconst (pc := 16) dX2_readsAll_16 lc_1 <| o_putI (pc := 17) (ci := 2) (j := 3) (nn := 0) dX2_readsAll_17 (hF.1 _ _ rfl) rfl (Nat.le_of_ble_eq_true rfl) k_230 rfl rfl rfl rfl rfl <| ?_
  refine o_lm fun m4 => ?_
  refine o_aload_n (pc := 20) 0 dX2_readsAll_20 rfl rfl <| o_iconst (pc := 21) dX2_readsAll_21 lc_0 <| o_putI (pc := 22) (ci := 2) (j := 4) (nn := 0) dX2_readsAll_22 (hF.1 _ _ rfl) rfl (Nat.le_of_ble_eq_true rfl) k_231 rfl rfl rfl rfl rfl <| ?_
  refine o_lm fun m5 => ?_
  refine o_aload_n (pc := 25) 0 dX2_readsAll_25 rfl rfl <| o_iconst (pc := 26) dX2_readsAll_26 lc_0 <| o_putI (pc := 27) (ci := 2) (j := 5) (nn := 0) dX2_readsAll_27 (hF.1 _ _ rfl) rfl (Nat.le_of_ble_eq_true rfl) k_232 rfl rfl rfl rfl rfl <| ?_
  refine o_lm fun m6 => ?_
  refine o_iconst (pc := 30) dX2_readsAll_30 lc_1 <| o_istore_n (pc := 31) (ls' := [(1, .int 1), (0, .ref 43)]) dX2_readsAll_31 rfl (Nat.le_of_ble_eq_true rfl) rfl <| ?_
  refine o_sub [1, 0] (ls' := [(0, .ref 43), (1, .int 1)]) rfl ?_
  refine sP_readsAll_l32 hF  _ ?_ 1000 m6 1
  · intro m8 z7
    refine o_iconst (pc := 83) dX2_readsAll_83 lc_0 <| ?_
    exact o_zret (pc := 84) dX2_readsAll_84 rfl rfl rfl
def fJA_fill_53178_l5 (sh : Sh) (R : RR) (u0 : Nat) (u1 : Int32) (u3 : Int32) (k0_0 : MI → Int32 → Option (MI)) : Nat → MI → Int32 → Option (MI)
  | 0, _, _ => none
  | n0 + 1, m, v2 =>
    if u3 ≤ v2 then
      k0_0 m v2
    else
      if kA sh u0 0 = true then
        if ck v2 (lenA sh u0) = true then
          lm (mI m u0 (upd (m.1 u0) v2.toNatClampNeg u1)) fun m4 =>
          lt (v2 + 1) fun x5 =>
          fJA_fill_53178_l5 sh R u0 u1 u3 k0_0 n0 m4 x5
        else none
      else none
theorem sJA_fill_53178_l5 {sh : Sh} {R : RR} (hF : Fx sh R) (u0 : Nat) (u1 : Int32) (u3 : Int32) (k0_0 : MI → Int32 → Option (MI)) (hk0_0 : ∀ (m : MI) (v2 : Int32) , S (eV sh R) false 0 0 0 YJ7_fill_53178 sh R m 20 [(0, .ref u0), (1, .int u1), (2, .int v2), (3, .int u3)] [] (k0_0 m v2)) : ∀ (n : Nat) (m : MI) (v2 : Int32) , S (eV sh R) false 0 0 0 YJ7_fill_53178 sh R m 5 [(0, .ref u0), (1, .int u1), (2, .int v2), (3, .int u3)] [] (fJA_fill_53178_l5 sh R u0 u1 u3 k0_0 n m v2) := by
  intro n
  induction n with
  | zero => intros; exact S_none
  | succ n0 ih0 =>
    intro m v2
    rw [fJA_fill_53178_l5]
    refine o_iload_n (pc := 5) 2 dJ7_fill_53178_5 rfl rfl <| o_iload_n (pc := 6) 3 dJ7_fill_53178_6 rfl rfl <| ?_
    refine o_icmp_ge (pc := 7) (tgt := 20) dJ7_fill_53178_7 rfl (fun h1 => ?_) (fun h1 => ?_)
    · exact hk0_0 m v2
    · refine o_aload_n (pc := 10) 0 dJ7_fill_53178_10 rfl rfl <| o_iload_n (pc := 11) 2 dJ7_fill_53178_11 rfl rfl <| o_iload_n (pc := 12) 1 dJ7_fill_53178_12 rfl rfl <| ?_
      refine S_ck fun h2 => ?_
      refine S_ck fun h3 => ?_
      refine o_iast (pc := 13) (nn := lenA sh u0) dJ7_fill_53178_13 (kA_ok h2) (ck_in h3) <| ?_
      refine o_lm fun m4 => ?_
      refine o_iinc (pc := 14) 2 (v := v2 + 1) (ls' := [(2, .int (v2 + 1)), (0, .ref u0), (1, .int u1), (3, .int u3)]) dJ7_fill_53178_14 rfl rfl (Nat.le_of_ble_eq_true rfl) rfl <| ?_
      refine o_ltL (ls := fun x5 => [(2, .int x5), (0, .ref u0), (1, .int u1), (3, .int u3)]) fun x5 => ?_
      refine o_goto (pc := 17) (tgt := 5) dJ7_fill_53178_17 rfl <| ?_
      refine o_sub [1, 2, 0, 3] (ls' := [(0, .ref u0), (1, .int u1), (2, .int x5), (3, .int u3)]) rfl ?_
      exact ih0 m4 x5
def fJA_fill_53178 (sh : Sh) (R : RR) (m : MI) (a : Nat) (b : Int32) : Option (MI) :=
  if kA sh a 0 = true then
    lt (Int32.ofNat (lenA sh a)) fun x2 =>
    fJA_fill_53178_l5 sh R a b x2
      (fun m4 z3 =>
        some m4
        )
      1000 m 0
  else none
theorem sJA_fill_53178 {sh : Sh} {R : RR} (hF : Fx sh R) (m : MI) (a : Nat) (b : Int32) : KS (eV sh R) false 0 0 0 YJ7_fill_53178 sh R m [.ref a, .int b] (fJA_fill_53178 sh R m a b) := by
  refine KS_of pn_J7 (fun _ => Nat.le_of_ble_eq_true rfl) ?_
  change S _ _ _ _ _ _ _ _ _ _ [(0, .ref a), (1, .int b)] [] _
  unfold fJA_fill_53178
  refine o_iconst (pc := 0) dJ7_fill_53178_0 lc_0 <| o_istore_n (pc := 1) (ls' := [(2, .int 0), (0, .ref a), (1, .int b)]) dJ7_fill_53178_1 rfl (Nat.le_of_ble_eq_true rfl) rfl <| o_aload_n (pc := 2) 1 dJ7_fill_53178_2 rfl rfl <| ?_
  refine S_ck fun h1 => ?_
  refine o_alenI (pc := 3) (nn := lenA sh a) dJ7_fill_53178_3 (kA_ok h1) rfl <| ?_
  refine o_lt fun x2 => ?_
  refine o_istore_n (pc := 4) (ls' := [(3, .int x2), (2, .int 0), (0, .ref a), (1, .int b)]) dJ7_fill_53178_4 rfl (Nat.le_of_ble_eq_true rfl) rfl <| ?_
  refine o_sub [2, 3, 1, 0] (ls' := [(0, .ref a), (1, .int b), (2, .int 0), (3, .int x2)]) rfl ?_
  refine sJA_fill_53178_l5 hF a b x2 _ ?_ 1000 m 0
  · intro m4 z3
    exact o_vret (pc := 20) dJ7_fill_53178_20 rfl rfl
def fW_wholeShorts (sh : Sh) (R : RR) (m : MI) : Option (Int32 × MI) :=
  mq (R 1 15) fun q2 =>
  if sh[q2]? = some (11, 0) then
    some (m.1 q2 0, m)
  else none
theorem sW_wholeShorts {sh : Sh} {R : RR} (hF : Fx sh R) (m : MI) : KS (eI sh R) false 0 0 0 YX5_wholeShorts sh R m [.ref 1] (fW_wholeShorts sh R m ) := by
  refine KS_of pn_X5 (fun _ => Nat.le_of_ble_eq_true rfl) ?_
  change S _ _ _ _ _ _ _ _ _ _ [(0, .ref 1)] [] _
  unfold fW_wholeShorts
  refine o_aload_n (pc := 0) 0 dX5_wholeShorts_0 rfl rfl <| ?_
  refine S_mq fun q2 h1 => ?_
  refine o_getRc (pc := 1) (a := q2) (ci := 5) (j := 15) (nn := 0) dX5_wholeShorts_1 (hF.1 _ _ rfl) rfl (Nat.le_of_ble_eq_true rfl) k_154 rfl h1 <| ?_
  refine S_ck fun h3 => ?_
  refine o_getI (pc := 4) (ci := 1) (j := 0) (nn := 0) dX5_wholeShorts_4 h3 rfl (Nat.le_of_ble_eq_true rfl) k_111 rfl <| ?_
  exact o_iret (pc := 7) dX5_wholeShorts_7 rfl rfl
def fW_wholeLongs (sh : Sh) (R : RR) (m : MI) : Option (Int32 × MI) :=
  mq (R 1 15) fun q2 =>
  if sh[q2]? = some (11, 0) then
    mq (R 1 15) fun q5 =>
    if sh[q5]? = some (11, 0) then
      some (if 0 < ((m.1 1 0) + (m.1 q2 1)) - (m.1 q5 0) then ((m.1 1 0) + (m.1 q2 1)) - (m.1 q5 0) else 0, m)
    else none
  else none
theorem sW_wholeLongs {sh : Sh} {R : RR} (hF : Fx sh R) (m : MI) : KS (eI sh R) false 1 0 0 YX5_wholeLongs sh R m [.ref 1] (fW_wholeLongs sh R m ) := by
  refine KS_of pn_X5 (fun _ => Nat.le_of_ble_eq_true rfl) ?_
  change S _ _ _ _ _ _ _ _ _ _ [(0, .ref 1)] [] _
  unfold fW_wholeLongs
  refine o_iconst (pc := 0) dX5_wholeLongs_0 lc_0 <| o_aload_n (pc := 1) 0 dX5_wholeLongs_1 rfl rfl <| o_getI (pc := 2) (ci := 5) (j := 0) (nn := 0) dX5_wholeLongs_2 (hF.1 _ _ rfl) rfl (Nat.le_of_ble_eq_true rfl) k_123 rfl <| o_aload_n (pc := 5) 0 dX5_wholeLongs_5 rfl rfl <| ?_
  refine S_mq fun q2 h1 => ?_
  refine o_getRc (pc := 6) (a := q2) (ci := 5) (j := 15) (nn := 0) dX5_wholeLongs_6 (hF.1 _ _ rfl) rfl (Nat.le_of_ble_eq_true rfl) k_154 rfl h1 <| ?_
  refine S_ck fun h3 => ?_
  refine o_getI (pc := 9) (ci := 1) (j := 1) (nn := 0) dX5_wholeLongs_9 h3 rfl (Nat.le_of_ble_eq_true rfl) k_113 rfl <| o_iadd (pc := 12) dX5_wholeLongs_12 <| o_aload_n (pc := 13) 0 dX5_wholeLongs_13 rfl rfl <| ?_
  refine S_mq fun q5 h4 => ?_
  refine o_getRc (pc := 14) (a := q5) (ci := 5) (j := 15) (nn := 0) dX5_wholeLongs_14 (hF.1 _ _ rfl) rfl (Nat.le_of_ble_eq_true rfl) k_154 rfl h4 <| ?_
  refine S_ck fun h6 => ?_
  refine o_getI (pc := 17) (ci := 1) (j := 0) (nn := 0) dX5_wholeLongs_17 h6 rfl (Nat.le_of_ble_eq_true rfl) k_111 rfl <| o_isub (pc := 20) dX5_wholeLongs_20 <| o_max (pc := 21) dX5_wholeLongs_21 k_346 k_347 k_81 k_348 (Nat.le_of_ble_eq_true rfl) (Nat.le_of_ble_eq_true rfl) <| ?_
  exact o_iret (pc := 24) dX5_wholeLongs_24 rfl rfl
def fW_makeWhole (sh : Sh) (R : RR) (m : MI) : Option (MI) :=
  (fW_wholeShorts sh R m).bind fun r1 =>
  lm (mI r1.2 1 (upd (r1.2.1 1) 6 r1.1)) fun m2 =>
  (fW_wholeLongs sh R m2).bind fun r3 =>
  lm (mI r3.2 1 (upd (r3.2.1 1) 7 r3.1)) fun m4 =>
  lm (mI m4 1 (upd (m4.1 1) 8 0)) fun m5 =>
  some m5
theorem sW_makeWhole {sh : Sh} {R : RR} (hF : Fx sh R) (m : MI) : KS (eV sh R) false 2 0 0 YX5_makeWhole sh R m [.ref 1] (fW_makeWhole sh R m ) := by
  refine KS_of pn_X5 (fun _ => Nat.le_of_ble_eq_true rfl) ?_
  change S _ _ _ _ _ _ _ _ _ _ [(0, .ref 1)] [] _
  unfold fW_makeWhole
  refine o_aload_n (pc := 0) 0 dX5_makeWhole_0 rfl rfl <| o_aload_n (pc := 1) 0 dX5_makeWhole_1 rfl rfl <| ?_
  refine o_callVI (Y2 := YX5_wholeShorts) (pc := 2) (av := []) (rest := [.ref 1]) dX5_makeWhole_2 k_338 cm_X5_wholeShorts (sW_wholeShorts hF m ) (hF.1 _ _ rfl) rfl rfl (Nat.le_of_ble_eq_true rfl) (Nat.le_of_ble_eq_true rfl) fun r1 => ?_
  refine o_putI (pc := 5) (ci := 5) (j := 6) (nn := 0) dX5_makeWhole_5 (hF.1 _ _ rfl) rfl (Nat.le_of_ble_eq_true rfl) k_136 rfl rfl rfl rfl rfl <| ?_
  refine o_lm fun m2 => ?_
  refine o_aload_n (pc := 8) 0 dX5_makeWhole_8 rfl rfl <| o_aload_n (pc := 9) 0 dX5_makeWhole_9 rfl rfl <| ?_
  refine o_callVI (Y2 := YX5_wholeLongs) (pc := 10) (av := []) (rest := [.ref 1]) dX5_makeWhole_10 k_342 cm_X5_wholeLongs (sW_wholeLongs hF m2 ) (hF.1 _ _ rfl) rfl rfl (Nat.le_of_ble_eq_true rfl) (Nat.le_of_ble_eq_true rfl) fun r3 => ?_
  refine o_putI (pc := 13) (ci := 5) (j := 7) (nn := 0) dX5_makeWhole_13 (hF.1 _ _ rfl) rfl (Nat.le_of_ble_eq_true rfl) k_138 rfl rfl rfl rfl rfl <| ?_
  refine o_lm fun m4 => ?_
  refine o_aload_n (pc := 16) 0 dX5_makeWhole_16 rfl rfl <| o_iconst (pc := 17) dX5_makeWhole_17 lc_0 <| o_putI (pc := 18) (ci := 5) (j := 8) (nn := 0) dX5_makeWhole_18 (hF.1 _ _ rfl) rfl (Nat.le_of_ble_eq_true rfl) k_140 rfl rfl rfl rfl rfl <| ?_
  refine o_lm fun m5 => ?_
  exact o_vret (pc := 21) dX5_makeWhole_21 rfl rfl
def fW_welcome (sh : Sh) (R : RR) (m : MI) (a : Int32) (b : Int32) : Option (Int32 × MI) :=
  lt (m.1 1 0) fun x1 =>
  if ck x1 6 = true then
    lm (mI m 2 (upd (m.1 2) x1.toNatClampNeg a)) fun m3 =>
    if ck x1 6 = true then
      lm (mI m3 3 (upd (m3.1 3) x1.toNatClampNeg b)) fun m5 =>
      if ck x1 6 = true then
        lm (mI m5 4 (upd (m5.1 4) x1.toNatClampNeg 0)) fun m7 =>
        if ck x1 6 = true then
          mq (R 11 x1.toNatClampNeg) fun q10 =>
          (fJA_fill_53178 sh R m7 q10 5).bind fun r11 =>
          if ck x1 6 = true then
            lm (mI r11 12 (upd (r11.1 12) x1.toNatClampNeg x1)) fun m13 =>
            lm (mI m13 1 (upd (m13.1 1) 0 ((m13.1 1 0) + 1))) fun m14 =>
            (fW_makeWhole sh R m14).bind fun r15 =>
            some (x1, r15)
          else none
        else none
      else none
    else none
  else none
theorem sW_welcome {sh : Sh} {R : RR} (hF : Fx sh R) (m : MI) (a : Int32) (b : Int32) : KS (eI sh R) false 3 0 0 YX5_welcome sh R m [.ref 1, .int a, .int b] (fW_welcome sh R m a b) := by
  refine KS_of pn_X5 (fun _ => Nat.le_of_ble_eq_true rfl) ?_
  change S _ _ _ _ _ _ _ _ _ _ [(0, .ref 1), (1, .int a), (2, .int b)] [] _
  unfold fW_welcome
  refine o_aload_n (pc := 0) 0 dX5_welcome_0 rfl rfl <| o_getI (pc := 1) (ci := 5) (j := 0) (nn := 0) dX5_welcome_1 (hF.1 _ _ rfl) rfl (Nat.le_of_ble_eq_true rfl) k_123 rfl <| ?_
  refine o_lt fun x1 => ?_
  refine o_istore_n (pc := 4) (ls' := [(3, .int x1), (0, .ref 1), (1, .int a), (2, .int b)]) dX5_welcome_4 rfl (Nat.le_of_ble_eq_true rfl) rfl <| o_aload_n (pc := 5) 1 dX5_welcome_5 rfl rfl <| o_getRc (pc := 6) (a := 2) (ci := 5) (j := 1) (nn := 0) dX5_welcome_6 (hF.1 _ _ rfl) rfl (Nat.le_of_ble_eq_true rfl) k_126 rfl (hF.2 _ _ _ rfl) <| o_iload_n (pc := 9) 0 dX5_welcome_9 rfl rfl <| o_iload_n (pc := 10) 2 dX5_welcome_10 rfl rfl <| ?_
  refine S_ck fun h2 => ?_
  refine o_iast (pc := 11) (nn := 6) dX5_welcome_11 (hF.1 _ _ rfl) (ck_in h2) <| ?_
  refine o_lm fun m3 => ?_
  refine o_aload_n (pc := 12) 1 dX5_welcome_12 rfl rfl <| o_getRc (pc := 13) (a := 3) (ci := 5) (j := 2) (nn := 0) dX5_welcome_13 (hF.1 _ _ rfl) rfl (Nat.le_of_ble_eq_true rfl) k_128 rfl (hF.2 _ _ _ rfl) <| o_iload_n (pc := 16) 0 dX5_welcome_16 rfl rfl <| o_iload_n (pc := 17) 3 dX5_welcome_17 rfl rfl <| ?_
  refine S_ck fun h4 => ?_
  refine o_iast (pc := 18) (nn := 6) dX5_welcome_18 (hF.1 _ _ rfl) (ck_in h4) <| ?_
  refine o_lm fun m5 => ?_
  refine o_aload_n (pc := 19) 1 dX5_welcome_19 rfl rfl <| o_getRc (pc := 20) (a := 4) (ci := 5) (j := 3) (nn := 0) dX5_welcome_20 (hF.1 _ _ rfl) rfl (Nat.le_of_ble_eq_true rfl) k_130 rfl (hF.2 _ _ _ rfl) <| o_iload_n (pc := 23) 0 dX5_welcome_23 rfl rfl <| o_iconst (pc := 24) dX5_welcome_24 lc_0 <| ?_
  refine S_ck fun h6 => ?_
  refine o_iast (pc := 25) (nn := 6) dX5_welcome_25 (hF.1 _ _ rfl) (ck_in h6) <| ?_
  refine o_lm fun m7 => ?_
  refine o_aload_n (pc := 26) 1 dX5_welcome_26 rfl rfl <| o_getRc (pc := 27) (a := 11) (ci := 5) (j := 4) (nn := 0) dX5_welcome_27 (hF.1 _ _ rfl) rfl (Nat.le_of_ble_eq_true rfl) k_132 rfl (hF.2 _ _ _ rfl) <| o_iload_n (pc := 30) 0 dX5_welcome_30 rfl rfl <| ?_
  refine S_ck fun h8 => ?_
  refine S_mq fun q10 h9 => ?_
  refine o_aaldI (pc := 31) (r := some q10) (nn := 6) dX5_welcome_31 (hF.1 _ _ rfl) (ck_in h8) h9 <| o_iconst (pc := 32) dX5_welcome_32 lc_5 <| ?_
  refine o_callSV (Y2 := YJ7_fill_53178) (pc := 33) (av := [.ref q10, .int 5]) (rest := []) dX5_welcome_33 k_331 cs_J7_fill_53178 (sJA_fill_53178 hF m7 q10 5) rfl rfl (Nat.le_of_ble_eq_true rfl) (Nat.le_of_ble_eq_true rfl) fun r11 => ?_
  refine o_aload_n (pc := 36) 1 dX5_welcome_36 rfl rfl <| o_getRc (pc := 37) (a := 12) (ci := 5) (j := 5) (nn := 0) dX5_welcome_37 (hF.1 _ _ rfl) rfl (Nat.le_of_ble_eq_true rfl) k_134 rfl (hF.2 _ _ _ rfl) <| o_iload_n (pc := 40) 0 dX5_welcome_40 rfl rfl <| o_iload_n (pc := 41) 0 dX5_welcome_41 rfl rfl <| ?_
  refine S_ck fun h12 => ?_
  refine o_iast (pc := 42) (nn := 6) dX5_welcome_42 (hF.1 _ _ rfl) (ck_in h12) <| ?_
  refine o_lm fun m13 => ?_
  refine o_aload_n (pc := 43) 1 dX5_welcome_43 rfl rfl <| o_dup (pc := 44) dX5_welcome_44 rfl <| o_getI (pc := 45) (ci := 5) (j := 0) (nn := 0) dX5_welcome_45 (hF.1 _ _ rfl) rfl (Nat.le_of_ble_eq_true rfl) k_123 rfl <| o_iconst (pc := 48) dX5_welcome_48 lc_1 <| o_iadd (pc := 49) dX5_welcome_49 <| o_putI (pc := 50) (ci := 5) (j := 0) (nn := 0) dX5_welcome_50 (hF.1 _ _ rfl) rfl (Nat.le_of_ble_eq_true rfl) k_123 rfl rfl rfl rfl rfl <| ?_
  refine o_lm fun m14 => ?_
  refine o_aload_n (pc := 53) 1 dX5_welcome_53 rfl rfl <| ?_
  refine o_callVV (Y2 := YX5_makeWhole) (pc := 54) (av := []) (rest := []) dX5_welcome_54 k_334 cm_X5_makeWhole (sW_makeWhole hF m14 ) (hF.1 _ _ rfl) rfl rfl (Nat.le_of_ble_eq_true rfl) (Nat.le_of_ble_eq_true rfl) fun r15 => ?_
  refine o_iload_n (pc := 57) 0 dX5_welcome_57 rfl rfl <| ?_
  exact o_iret (pc := 58) dX5_welcome_58 rfl rfl
def fC_drawer (sh : Sh) (R : RR) (m : MI) (a : Int32) (b : Int32) : Option (Int32 × MI) :=
  if a < 0 then
    some (-1, m)
  else
    if a < 7 then
      if b < 0 then
        some (-2, m)
      else
        if b ≤ 9 then
          if m.1 1 0 < 6 then
            (fW_welcome sh R m a b).bind fun r6 =>
            some (r6.1, r6.2)
          else
            some (-4, m)
        else
          some (-2, m)
    else
      some (-1, m)
theorem sC_drawer {sh : Sh} {R : RR} (hF : Fx sh R) (m : MI) (a : Int32) (b : Int32) : KS (eI sh R) false 4 0 0 YX6_drawer sh R m [.ref 0, .int a, .int b] (fC_drawer sh R m a b) := by
  refine KS_of pn_X6 (fun _ => Nat.le_of_ble_eq_true rfl) ?_
  change S _ _ _ _ _ _ _ _ _ _ [(0, .ref 0), (1, .int a), (2, .int b)] [] _
  unfold fC_drawer
  refine o_iload_n (pc := 0) 1 dX6_drawer_0 rfl rfl <| ?_
  refine o_if_lt (pc := 1) (tgt := 10) dX6_drawer_1 rfl (fun h1 => ?_) (fun h1 => ?_)
  · refine o_iconst (pc := 10) dX6_drawer_10 lc_m1 <| ?_
    exact o_iret (pc := 11) dX6_drawer_11 rfl rfl
  · refine o_iload_n (pc := 4) 1 dX6_drawer_4 rfl rfl <| o_bipush (pc := 5) dX6_drawer_5 lb_7 <| ?_
    refine o_icmp_lt (pc := 7) (tgt := 12) dX6_drawer_7 rfl (fun h2 => ?_) (fun h2 => ?_)
    · refine o_iload_n (pc := 12) 2 dX6_drawer_12 rfl rfl <| ?_
      refine o_if_lt (pc := 13) (tgt := 22) dX6_drawer_13 rfl (fun h3 => ?_) (fun h3 => ?_)
      · refine o_bipush (pc := 22) dX6_drawer_22 lb_m2 <| ?_
        exact o_iret (pc := 24) dX6_drawer_24 rfl rfl
      · refine o_iload_n (pc := 16) 2 dX6_drawer_16 rfl rfl <| o_bipush (pc := 17) dX6_drawer_17 lb_9 <| ?_
        refine o_icmp_le (pc := 19) (tgt := 25) dX6_drawer_19 rfl (fun h4 => ?_) (fun h4 => ?_)
        · refine o_aload_n (pc := 25) 0 dX6_drawer_25 rfl rfl <| o_getRc (pc := 26) (a := 1) (ci := 6) (j := 0) (nn := 0) dX6_drawer_26 (hF.1 _ _ rfl) rfl (Nat.le_of_ble_eq_true rfl) k_292 rfl (hF.2 _ _ _ rfl) <| o_getI (pc := 29) (ci := 5) (j := 0) (nn := 0) dX6_drawer_29 (hF.1 _ _ rfl) rfl (Nat.le_of_ble_eq_true rfl) k_124 rfl <| o_bipush (pc := 32) dX6_drawer_32 lb_6 <| ?_
          refine o_icmp_lt (pc := 34) (tgt := 40) dX6_drawer_34 rfl (fun h5 => ?_) (fun h5 => ?_)
          · refine o_aload_n (pc := 40) 0 dX6_drawer_40 rfl rfl <| o_getRc (pc := 41) (a := 1) (ci := 6) (j := 0) (nn := 0) dX6_drawer_41 (hF.1 _ _ rfl) rfl (Nat.le_of_ble_eq_true rfl) k_292 rfl (hF.2 _ _ _ rfl) <| o_iload_n (pc := 44) 1 dX6_drawer_44 rfl rfl <| o_iload_n (pc := 45) 2 dX6_drawer_45 rfl rfl <| ?_
            refine o_callVI (Y2 := YX5_welcome) (pc := 46) (av := [.int a, .int b]) (rest := []) dX6_drawer_46 k_327 cm_X5_welcome (sW_welcome hF m a b) (hF.1 _ _ rfl) rfl rfl (Nat.le_of_ble_eq_true rfl) (Nat.le_of_ble_eq_true rfl) fun r6 => ?_
            exact o_iret (pc := 49) dX6_drawer_49 rfl rfl
          · refine o_bipush (pc := 37) dX6_drawer_37 lb_m4 <| ?_
            exact o_iret (pc := 39) dX6_drawer_39 rfl rfl
        · refine o_bipush (pc := 22) dX6_drawer_22 lb_m2 <| ?_
          exact o_iret (pc := 24) dX6_drawer_24 rfl rfl
    · refine o_iconst (pc := 10) dX6_drawer_10 lc_m1 <| ?_
      exact o_iret (pc := 11) dX6_drawer_11 rfl rfl
def fW_has (m : MI) (a : Int32) : Option (Int32 × MI) :=
  if a < 0 then
    some (0, m)
  else
    if m.1 1 0 ≤ a then
      some (0, m)
    else
      some (1, m)
theorem sW_has {sh : Sh} {R : RR} (hF : Fx sh R) (m : MI) (a : Int32) : KS (eI sh R) false 0 0 0 YX5_has sh R m [.ref 1, .int a] (fW_has m a) := by
  refine KS_of pn_X5 (fun _ => Nat.le_of_ble_eq_true rfl) ?_
  change S _ _ _ _ _ _ _ _ _ _ [(0, .ref 1), (1, .int a)] [] _
  unfold fW_has
  refine o_iload_n (pc := 0) 1 dX5_has_0 rfl rfl <| ?_
  refine o_if_lt (pc := 1) (tgt := 16) dX5_has_1 rfl (fun h1 => ?_) (fun h1 => ?_)
  · refine o_iconst (pc := 16) dX5_has_16 lc_0 <| ?_
    exact o_zret (pc := 17) dX5_has_17 rfl rfl rfl
  · refine o_iload_n (pc := 4) 1 dX5_has_4 rfl rfl <| o_aload_n (pc := 5) 0 dX5_has_5 rfl rfl <| o_getI (pc := 6) (ci := 5) (j := 0) (nn := 0) dX5_has_6 (hF.1 _ _ rfl) rfl (Nat.le_of_ble_eq_true rfl) k_123 rfl <| ?_
    refine o_icmp_ge (pc := 9) (tgt := 16) dX5_has_9 rfl (fun h2 => ?_) (fun h2 => ?_)
    · refine o_iconst (pc := 16) dX5_has_16 lc_0 <| ?_
      exact o_zret (pc := 17) dX5_has_17 rfl rfl rfl
    · refine o_iconst (pc := 12) dX5_has_12 lc_1 <| o_goto (pc := 13) (tgt := 17) dX5_has_13 rfl <| ?_
      exact o_zret (pc := 17) dX5_has_17 rfl rfl rfl
def fW_placeOf_l2 (u1 : Int32) (k0_0 : MI → Int32 → Option (Int32 × MI)) : Nat → MI → Int32 → Option (Int32 × MI)
  | 0, _, _ => none
  | n0 + 1, m, v2 =>
    if (m.1 1 0) - 1 ≤ v2 then
      k0_0 m v2
    else
      if ck v2 6 = true then
        if m.1 12 v2.toNatClampNeg = u1 then
          k0_0 m v2
        else
          lt (v2 + 1) fun x4 =>
          fW_placeOf_l2 u1 k0_0 n0 m x4
      else none
theorem sW_placeOf_l2 {sh : Sh} {R : RR} (hF : Fx sh R) (u1 : Int32) (k0_0 : MI → Int32 → Option (Int32 × MI)) (hk0_0 : ∀ (m : MI) (v2 : Int32) , S (eI sh R) false 0 0 0 YX5_placeOf sh R m 28 [(0, .ref 1), (1, .int u1), (2, .int v2)] [] (k0_0 m v2)) : ∀ (n : Nat) (m : MI) (v2 : Int32) , S (eI sh R) false 0 0 0 YX5_placeOf sh R m 2 [(0, .ref 1), (1, .int u1), (2, .int v2)] [] (fW_placeOf_l2 u1 k0_0 n m v2) := by
  intro n
  induction n with
  | zero => intros; exact S_none
  | succ n0 ih0 =>
    intro m v2
    rw [fW_placeOf_l2]
    refine o_iload_n (pc := 2) 2 dX5_placeOf_2 rfl rfl <| o_aload_n (pc := 3) 0 dX5_placeOf_3 rfl rfl <| o_getI (pc := 4) (ci := 5) (j := 0) (nn := 0) dX5_placeOf_4 (hF.1 _ _ rfl) rfl (Nat.le_of_ble_eq_true rfl) k_123 rfl <| o_iconst (pc := 7) dX5_placeOf_7 lc_1 <| o_isub (pc := 8) dX5_placeOf_8 <| ?_
    refine o_icmp_ge (pc := 9) (tgt := 28) dX5_placeOf_9 rfl (fun h1 => ?_) (fun h1 => ?_)
    · exact hk0_0 m v2
    · refine o_aload_n (pc := 12) 0 dX5_placeOf_12 rfl rfl <| o_getRc (pc := 13) (a := 12) (ci := 5) (j := 5) (nn := 0) dX5_placeOf_13 (hF.1 _ _ rfl) rfl (Nat.le_of_ble_eq_true rfl) k_134 rfl (hF.2 _ _ _ rfl) <| o_iload_n (pc := 16) 2 dX5_placeOf_16 rfl rfl <| ?_
      refine S_ck fun h2 => ?_
      refine o_iald (pc := 17) (nn := 6) dX5_placeOf_17 (hF.1 _ _ rfl) (ck_in h2) <| o_iload_n (pc := 18) 1 dX5_placeOf_18 rfl rfl <| ?_
      refine o_icmp_eq (pc := 19) (tgt := 28) dX5_placeOf_19 rfl (fun h3 => ?_) (fun h3 => ?_)
      · exact hk0_0 m v2
      · refine o_iinc (pc := 22) 2 (v := v2 + 1) (ls' := [(2, .int (v2 + 1)), (0, .ref 1), (1, .int u1)]) dX5_placeOf_22 rfl rfl (Nat.le_of_ble_eq_true rfl) rfl <| ?_
        refine o_ltL (ls := fun x4 => [(2, .int x4), (0, .ref 1), (1, .int u1)]) fun x4 => ?_
        refine o_goto (pc := 25) (tgt := 2) dX5_placeOf_25 rfl <| ?_
        refine o_sub [1, 2, 0] (ls' := [(0, .ref 1), (1, .int u1), (2, .int x4)]) rfl ?_
        exact ih0 m x4
def fW_placeOf (m : MI) (a : Int32) : Option (Int32 × MI) :=
  fW_placeOf_l2 a
    (fun m2 z1 =>
      some (z1, m2)
      )
    1000 m 0
theorem sW_placeOf {sh : Sh} {R : RR} (hF : Fx sh R) (m : MI) (a : Int32) : KS (eI sh R) false 0 0 0 YX5_placeOf sh R m [.ref 1, .int a] (fW_placeOf m a) := by
  refine KS_of pn_X5 (fun _ => Nat.le_of_ble_eq_true rfl) ?_
  change S _ _ _ _ _ _ _ _ _ _ [(0, .ref 1), (1, .int a)] [] _
  unfold fW_placeOf
  refine o_iconst (pc := 0) dX5_placeOf_0 lc_0 <| o_istore_n (pc := 1) (ls' := [(2, .int 0), (0, .ref 1), (1, .int a)]) dX5_placeOf_1 rfl (Nat.le_of_ble_eq_true rfl) rfl <| ?_
  refine o_sub [1, 2, 0] (ls' := [(0, .ref 1), (1, .int a), (2, .int 0)]) rfl ?_
  refine sW_placeOf_l2 hF a _ ?_ 1000 m 0
  · intro m2 z1
    refine o_iload_n (pc := 28) 2 dX5_placeOf_28 rfl rfl <| ?_
    exact o_iret (pc := 29) dX5_placeOf_29 rfl rfl
def fH_plain_18_l8 (sh : Sh) (R : RR) (u0 : Nat) (k0_0 : MI → Int32 → Int32 → Int32 → Option (Int32 × MI)) : Nat → MI → Int32 → Int32 → Int32 → Option (Int32 × MI)
  | 0, _, _, _, _ => none
  | n0 + 1, m, v2, v3, v4 =>
    if sh[u0]? = some (11, 0) then
      mq (R u0 2) fun q3 =>
      if kA sh q3 0 = true then
        if Int32.ofNat (lenA sh q3) ≤ v4 then
          k0_0 m v2 v3 v4
        else
          mq (R u0 2) fun q7 =>
          if kA sh q7 0 = true then
            if ck v4 (lenA sh q7) = true then
              lt (m.1 q7 v4.toNatClampNeg) fun x10 =>
              if x10 &&& (7 : Int32) = 1 then
                lt (v3 ^^^ (1 : Int32)) fun x12 =>
                lt (v4 + 1) fun x13 =>
                fH_plain_18_l8 sh R u0 k0_0 n0 m v2 x12 x13
              else
                if x10 &&& (7 : Int32) = 2 then
                  lt ((v3 >>> (1 &&& 31)) &&& (v3 ||| (-2 : Int32))) fun x15 =>
                  lt (v4 + 1) fun x16 =>
                  fH_plain_18_l8 sh R u0 k0_0 n0 m v2 x15 x16
                else
                  if x10 &&& (7 : Int32) = 3 then
                    lt ((v3 >>> (1 &&& 31)) ||| (v3 &&& (1 : Int32))) fun x18 =>
                    lt (v4 + 1) fun x19 =>
                    fH_plain_18_l8 sh R u0 k0_0 n0 m v2 x18 x19
                  else
                    if x10 &&& (7 : Int32) = 4 then
                      lt (v2 + ((v3 &&& (1 : Int32)) * (x10 >>> (3 &&& 31)))) fun x21 =>
                      lt (v4 + 1) fun x22 =>
                      fH_plain_18_l8 sh R u0 k0_0 n0 m x21 0 x22
                    else
                      if x10 &&& (7 : Int32) = 5 then
                        lt (v2 - ((v3 &&& (1 : Int32)) * (x10 >>> (3 &&& 31)))) fun x24 =>
                        lt (v4 + 1) fun x25 =>
                        fH_plain_18_l8 sh R u0 k0_0 n0 m x24 0 x25
                      else
                        lt ((x10 >>> (3 &&& 31)) &&& (7 : Int32)) fun x26 =>
                        if 6 ≤ x26 then
                          lt (x10 >>> (8 &&& 31)) fun x28 =>
                          if x28 ≤ (0 : Int32) then
                            if (0 : Int32) = x28 then
                              if (1 : Int32) = (x10 >>> (6 &&& 31)) &&& (3 : Int32) then
                                lt ((v3 <<< (1 &&& 31)) ||| (1 : Int32)) fun x32 =>
                                lt (v4 + 1) fun x33 =>
                                fH_plain_18_l8 sh R u0 k0_0 n0 m v2 x32 x33
                              else
                                lt ((v3 <<< (1 &&& 31)) ||| (0 : Int32)) fun x34 =>
                                lt (v4 + 1) fun x35 =>
                                fH_plain_18_l8 sh R u0 k0_0 n0 m v2 x34 x35
                            else
                              if (2 : Int32) = (x10 >>> (6 &&& 31)) &&& (3 : Int32) then
                                lt ((v3 <<< (1 &&& 31)) ||| (1 : Int32)) fun x37 =>
                                lt (v4 + 1) fun x38 =>
                                fH_plain_18_l8 sh R u0 k0_0 n0 m v2 x37 x38
                              else
                                lt ((v3 <<< (1 &&& 31)) ||| (0 : Int32)) fun x39 =>
                                lt (v4 + 1) fun x40 =>
                                fH_plain_18_l8 sh R u0 k0_0 n0 m v2 x39 x40
                          else
                            if (0 : Int32) = (x10 >>> (6 &&& 31)) &&& (3 : Int32) then
                              lt ((v3 <<< (1 &&& 31)) ||| (1 : Int32)) fun x42 =>
                              lt (v4 + 1) fun x43 =>
                              fH_plain_18_l8 sh R u0 k0_0 n0 m v2 x42 x43
                            else
                              lt ((v3 <<< (1 &&& 31)) ||| (0 : Int32)) fun x44 =>
                              lt (v4 + 1) fun x45 =>
                              fH_plain_18_l8 sh R u0 k0_0 n0 m v2 x44 x45
                        else
                          if ck x26 6 = true then
                            lt (m.1 18 x26.toNatClampNeg) fun x47 =>
                            lt (x10 >>> (8 &&& 31)) fun x48 =>
                            if x48 ≤ x47 then
                              if x47 = x48 then
                                if (1 : Int32) = (x10 >>> (6 &&& 31)) &&& (3 : Int32) then
                                  lt ((v3 <<< (1 &&& 31)) ||| (1 : Int32)) fun x52 =>
                                  lt (v4 + 1) fun x53 =>
                                  fH_plain_18_l8 sh R u0 k0_0 n0 m v2 x52 x53
                                else
                                  lt ((v3 <<< (1 &&& 31)) ||| (0 : Int32)) fun x54 =>
                                  lt (v4 + 1) fun x55 =>
                                  fH_plain_18_l8 sh R u0 k0_0 n0 m v2 x54 x55
                              else
                                if (2 : Int32) = (x10 >>> (6 &&& 31)) &&& (3 : Int32) then
                                  lt ((v3 <<< (1 &&& 31)) ||| (1 : Int32)) fun x57 =>
                                  lt (v4 + 1) fun x58 =>
                                  fH_plain_18_l8 sh R u0 k0_0 n0 m v2 x57 x58
                                else
                                  lt ((v3 <<< (1 &&& 31)) ||| (0 : Int32)) fun x59 =>
                                  lt (v4 + 1) fun x60 =>
                                  fH_plain_18_l8 sh R u0 k0_0 n0 m v2 x59 x60
                            else
                              if (0 : Int32) = (x10 >>> (6 &&& 31)) &&& (3 : Int32) then
                                lt ((v3 <<< (1 &&& 31)) ||| (1 : Int32)) fun x62 =>
                                lt (v4 + 1) fun x63 =>
                                fH_plain_18_l8 sh R u0 k0_0 n0 m v2 x62 x63
                              else
                                lt ((v3 <<< (1 &&& 31)) ||| (0 : Int32)) fun x64 =>
                                lt (v4 + 1) fun x65 =>
                                fH_plain_18_l8 sh R u0 k0_0 n0 m v2 x64 x65
                          else none
            else none
          else none
      else none
    else none
theorem sH_plain_18_l8 {sh : Sh} {R : RR} (hF : Fx sh R) (u0 : Nat) (k0_0 : MI → Int32 → Int32 → Int32 → Option (Int32 × MI)) (hk0_0 : ∀ (m : MI) (v2 : Int32) (v3 : Int32) (v4 : Int32) , S (eI sh R) false 1 0 0 YX1_plain sh R m 216 [(0, .ref u0), (1, .ref 18), (2, .int v2), (3, .int v3), (4, .int v4)] [] (k0_0 m v2 v3 v4)) : ∀ (n : Nat) (m : MI) (v2 : Int32) (v3 : Int32) (v4 : Int32) , S (eI sh R) false 1 0 0 YX1_plain sh R m 8 [(0, .ref u0), (1, .ref 18), (2, .int v2), (3, .int v3), (4, .int v4)] [] (fH_plain_18_l8 sh R u0 k0_0 n m v2 v3 v4) := by
  intro n
  induction n with
  | zero => intros; exact S_none
  | succ n0 ih0 =>
    intro m v2 v3 v4
    rw [fH_plain_18_l8]
    refine o_iload (pc := 8) 4 dX1_plain_8 rfl <| o_aload_n (pc := 10) 0 dX1_plain_10 rfl rfl <| ?_
    refine S_ck fun h1 => ?_
    refine S_mq fun q3 h2 => ?_
    refine o_getRc (pc := 11) (a := q3) (ci := 1) (j := 2) (nn := 0) dX1_plain_11 h1 rfl (Nat.le_of_ble_eq_true rfl) k_114 rfl h2 <| ?_
    refine S_ck fun h4 => ?_
    refine o_alenI (pc := 14) (nn := lenA sh q3) dX1_plain_14 (kA_ok h4) rfl <| ?_
    refine o_icmp_ge (pc := 15) (tgt := 216) dX1_plain_15 rfl (fun h5 => ?_) (fun h5 => ?_)
    · exact hk0_0 m v2 v3 v4
    · refine o_aload_n (pc := 18) 0 dX1_plain_18 rfl rfl <| ?_
      refine S_mq fun q7 h6 => ?_
      refine o_getRc (pc := 19) (a := q7) (ci := 1) (j := 2) (nn := 0) dX1_plain_19 h1 rfl (Nat.le_of_ble_eq_true rfl) k_114 rfl h6 <| o_iload (pc := 22) 4 dX1_plain_22 rfl <| ?_
      refine S_ck fun h8 => ?_
      refine S_ck fun h9 => ?_
      refine o_iald (pc := 24) (nn := lenA sh q7) dX1_plain_24 (kA_ok h8) (ck_in h9) <| ?_
      refine o_lt fun x10 => ?_
      refine o_istore (pc := 25) (ls' := [(5, .int x10), (0, .ref u0), (1, .ref 18), (2, .int v2), (3, .int v3), (4, .int v4)]) dX1_plain_25 (Nat.le_of_ble_eq_true rfl) rfl <| o_iload (pc := 27) 0 dX1_plain_27 rfl <| o_bipush (pc := 29) dX1_plain_29 lb_7 <| o_iand (pc := 31) dX1_plain_31 <| ?_
      refine S_ite (fun h11 => ?_) (fun h11 => ?_)
      · refine o_ts_in (pc := 32) (tgt := 68) 1 h11 dX1_plain_32 (by decide) (by decide) rfl rfl ?_
        refine o_iload_n (pc := 68) 4 dX1_plain_68 rfl rfl <| o_iconst (pc := 69) dX1_plain_69 lc_1 <| o_ixor (pc := 70) dX1_plain_70 <| ?_
        refine o_lt fun x12 => ?_
        refine o_istore_n (pc := 71) (ls' := [(3, .int x12), (5, .int x10), (0, .ref u0), (1, .ref 18), (2, .int v2), (4, .int v4)]) dX1_plain_71 rfl (Nat.le_of_ble_eq_true rfl) rfl <| o_goto (pc := 72) (tgt := 210) dX1_plain_72 rfl <| o_iinc (pc := 210) 5 (v := v4 + 1) (ls' := [(4, .int (v4 + 1)), (3, .int x12), (5, .int x10), (0, .ref u0), (1, .ref 18), (2, .int v2)]) dX1_plain_210 rfl rfl (Nat.le_of_ble_eq_true rfl) rfl <| ?_
        refine o_ltL (ls := fun x13 => [(4, .int x13), (3, .int x12), (5, .int x10), (0, .ref u0), (1, .ref 18), (2, .int v2)]) fun x13 => ?_
        refine o_goto (pc := 213) (tgt := 8) dX1_plain_213 rfl <| ?_
        refine o_sub [3, 4, 5, 1, 0] (ls' := [(0, .ref u0), (1, .ref 18), (2, .int v2), (3, .int x12), (4, .int x13)]) rfl ?_
        exact ih0 m v2 x12 x13
      refine S_ite (fun h14 => ?_) (fun h14 => ?_)
      · refine o_ts_in (pc := 32) (tgt := 75) 2 h14 dX1_plain_32 (by decide) (by decide) rfl rfl ?_
        refine o_iload_n (pc := 75) 4 dX1_plain_75 rfl rfl <| o_iconst (pc := 76) dX1_plain_76 lc_1 <| o_ishr (pc := 77) dX1_plain_77 <| o_iload_n (pc := 78) 4 dX1_plain_78 rfl rfl <| o_bipush (pc := 79) dX1_plain_79 lb_m2 <| o_ior (pc := 81) dX1_plain_81 <| o_iand (pc := 82) dX1_plain_82 <| ?_
        refine o_lt fun x15 => ?_
        refine o_istore_n (pc := 83) (ls' := [(3, .int x15), (5, .int x10), (0, .ref u0), (1, .ref 18), (2, .int v2), (4, .int v4)]) dX1_plain_83 rfl (Nat.le_of_ble_eq_true rfl) rfl <| o_goto (pc := 84) (tgt := 210) dX1_plain_84 rfl <| o_iinc (pc := 210) 5 (v := v4 + 1) (ls' := [(4, .int (v4 + 1)), (3, .int x15), (5, .int x10), (0, .ref u0), (1, .ref 18), (2, .int v2)]) dX1_plain_210 rfl rfl (Nat.le_of_ble_eq_true rfl) rfl <| ?_
        refine o_ltL (ls := fun x16 => [(4, .int x16), (3, .int x15), (5, .int x10), (0, .ref u0), (1, .ref 18), (2, .int v2)]) fun x16 => ?_
        refine o_goto (pc := 213) (tgt := 8) dX1_plain_213 rfl <| ?_
        refine o_sub [3, 4, 5, 1, 0] (ls' := [(0, .ref u0), (1, .ref 18), (2, .int v2), (3, .int x15), (4, .int x16)]) rfl ?_
        exact ih0 m v2 x15 x16
      refine S_ite (fun h17 => ?_) (fun h17 => ?_)
      · refine o_ts_in (pc := 32) (tgt := 87) 3 h17 dX1_plain_32 (by decide) (by decide) rfl rfl ?_
        refine o_iload_n (pc := 87) 4 dX1_plain_87 rfl rfl <| o_iconst (pc := 88) dX1_plain_88 lc_1 <| o_ishr (pc := 89) dX1_plain_89 <| o_iload_n (pc := 90) 4 dX1_plain_90 rfl rfl <| o_iconst (pc := 91) dX1_plain_91 lc_1 <| o_iand (pc := 92) dX1_plain_92 <| o_ior (pc := 93) dX1_plain_93 <| ?_
        refine o_lt fun x18 => ?_
        refine o_istore_n (pc := 94) (ls' := [(3, .int x18), (5, .int x10), (0, .ref u0), (1, .ref 18), (2, .int v2), (4, .int v4)]) dX1_plain_94 rfl (Nat.le_of_ble_eq_true rfl) rfl <| o_goto (pc := 95) (tgt := 210) dX1_plain_95 rfl <| o_iinc (pc := 210) 5 (v := v4 + 1) (ls' := [(4, .int (v4 + 1)), (3, .int x18), (5, .int x10), (0, .ref u0), (1, .ref 18), (2, .int v2)]) dX1_plain_210 rfl rfl (Nat.le_of_ble_eq_true rfl) rfl <| ?_
        refine o_ltL (ls := fun x19 => [(4, .int x19), (3, .int x18), (5, .int x10), (0, .ref u0), (1, .ref 18), (2, .int v2)]) fun x19 => ?_
        refine o_goto (pc := 213) (tgt := 8) dX1_plain_213 rfl <| ?_
        refine o_sub [3, 4, 5, 1, 0] (ls' := [(0, .ref u0), (1, .ref 18), (2, .int v2), (3, .int x18), (4, .int x19)]) rfl ?_
        exact ih0 m v2 x18 x19
      refine S_ite (fun h20 => ?_) (fun h20 => ?_)
      · refine o_ts_in (pc := 32) (tgt := 98) 4 h20 dX1_plain_32 (by decide) (by decide) rfl rfl ?_
        refine o_iload_n (pc := 98) 3 dX1_plain_98 rfl rfl <| o_iload_n (pc := 99) 4 dX1_plain_99 rfl rfl <| o_iconst (pc := 100) dX1_plain_100 lc_1 <| o_iand (pc := 101) dX1_plain_101 <| o_iload (pc := 102) 0 dX1_plain_102 rfl <| o_iconst (pc := 104) dX1_plain_104 lc_3 <| o_ishr (pc := 105) dX1_plain_105 <| o_imul (pc := 106) dX1_plain_106 <| o_iadd (pc := 107) dX1_plain_107 <| ?_
        refine o_lt fun x21 => ?_
        refine o_istore_n (pc := 108) (ls' := [(2, .int x21), (5, .int x10), (0, .ref u0), (1, .ref 18), (3, .int v3), (4, .int v4)]) dX1_plain_108 rfl (Nat.le_of_ble_eq_true rfl) rfl <| o_iconst (pc := 109) dX1_plain_109 lc_0 <| o_istore_n (pc := 110) (ls' := [(3, .int 0), (2, .int x21), (5, .int x10), (0, .ref u0), (1, .ref 18), (4, .int v4)]) dX1_plain_110 rfl (Nat.le_of_ble_eq_true rfl) rfl <| o_goto (pc := 111) (tgt := 210) dX1_plain_111 rfl <| o_iinc (pc := 210) 5 (v := v4 + 1) (ls' := [(4, .int (v4 + 1)), (3, .int 0), (2, .int x21), (5, .int x10), (0, .ref u0), (1, .ref 18)]) dX1_plain_210 rfl rfl (Nat.le_of_ble_eq_true rfl) rfl <| ?_
        refine o_ltL (ls := fun x22 => [(4, .int x22), (3, .int 0), (2, .int x21), (5, .int x10), (0, .ref u0), (1, .ref 18)]) fun x22 => ?_
        refine o_goto (pc := 213) (tgt := 8) dX1_plain_213 rfl <| ?_
        refine o_sub [4, 5, 2, 1, 0] (ls' := [(0, .ref u0), (1, .ref 18), (2, .int x21), (3, .int 0), (4, .int x22)]) rfl ?_
        exact ih0 m x21 0 x22
      refine S_ite (fun h23 => ?_) (fun h23 => ?_)
      · refine o_ts_in (pc := 32) (tgt := 114) 5 h23 dX1_plain_32 (by decide) (by decide) rfl rfl ?_
        refine o_iload_n (pc := 114) 3 dX1_plain_114 rfl rfl <| o_iload_n (pc := 115) 4 dX1_plain_115 rfl rfl <| o_iconst (pc := 116) dX1_plain_116 lc_1 <| o_iand (pc := 117) dX1_plain_117 <| o_iload (pc := 118) 0 dX1_plain_118 rfl <| o_iconst (pc := 120) dX1_plain_120 lc_3 <| o_ishr (pc := 121) dX1_plain_121 <| o_imul (pc := 122) dX1_plain_122 <| o_isub (pc := 123) dX1_plain_123 <| ?_
        refine o_lt fun x24 => ?_
        refine o_istore_n (pc := 124) (ls' := [(2, .int x24), (5, .int x10), (0, .ref u0), (1, .ref 18), (3, .int v3), (4, .int v4)]) dX1_plain_124 rfl (Nat.le_of_ble_eq_true rfl) rfl <| o_iconst (pc := 125) dX1_plain_125 lc_0 <| o_istore_n (pc := 126) (ls' := [(3, .int 0), (2, .int x24), (5, .int x10), (0, .ref u0), (1, .ref 18), (4, .int v4)]) dX1_plain_126 rfl (Nat.le_of_ble_eq_true rfl) rfl <| o_goto (pc := 127) (tgt := 210) dX1_plain_127 rfl <| o_iinc (pc := 210) 5 (v := v4 + 1) (ls' := [(4, .int (v4 + 1)), (3, .int 0), (2, .int x24), (5, .int x10), (0, .ref u0), (1, .ref 18)]) dX1_plain_210 rfl rfl (Nat.le_of_ble_eq_true rfl) rfl <| ?_
        refine o_ltL (ls := fun x25 => [(4, .int x25), (3, .int 0), (2, .int x24), (5, .int x10), (0, .ref u0), (1, .ref 18)]) fun x25 => ?_
        refine o_goto (pc := 213) (tgt := 8) dX1_plain_213 rfl <| ?_
        refine o_sub [4, 5, 2, 1, 0] (ls' := [(0, .ref u0), (1, .ref 18), (2, .int x24), (3, .int 0), (4, .int x25)]) rfl ?_
        exact ih0 m x24 0 x25
      refine o_ts_out (pc := 32) (tgt := 130) (ts_out (lo := 1) (hi := 5) [1, 2, 3, 4, 5] (by decide) (by decide) (fun c hc => by
          simp only [List.mem_cons, List.not_mem_nil, or_false] at hc
          rcases hc with rfl | rfl | rfl | rfl | rfl
          · exact h11
          · exact h14
          · exact h17
          · exact h20
          · exact h23)) dX1_plain_32 rfl ?_
      refine o_iload (pc := 130) 0 dX1_plain_130 rfl <| o_iconst (pc := 132) dX1_plain_132 lc_3 <| o_ishr (pc := 133) dX1_plain_133 <| o_bipush (pc := 134) dX1_plain_134 lb_7 <| o_iand (pc := 136) dX1_plain_136 <| ?_
      refine o_lt fun x26 => ?_
      refine o_istore (pc := 137) (ls' := [(6, .int x26), (5, .int x10), (0, .ref u0), (1, .ref 18), (2, .int v2), (3, .int v3), (4, .int v4)]) dX1_plain_137 (Nat.le_of_ble_eq_true rfl) rfl <| o_iload (pc := 139) 0 dX1_plain_139 rfl <| o_bipush (pc := 141) dX1_plain_141 lb_6 <| ?_
      refine o_icmp_ge (pc := 143) (tgt := 153) dX1_plain_143 rfl (fun h27 => ?_) (fun h27 => ?_)
      · refine o_iconst (pc := 153) dX1_plain_153 lc_0 <| o_istore (pc := 154) (ls' := [(7, .int 0), (6, .int x26), (5, .int x10), (0, .ref u0), (1, .ref 18), (2, .int v2), (3, .int v3), (4, .int v4)]) dX1_plain_154 (Nat.le_of_ble_eq_true rfl) rfl <| o_iload (pc := 156) 2 dX1_plain_156 rfl <| o_bipush (pc := 158) dX1_plain_158 lb_8 <| o_ishr (pc := 160) dX1_plain_160 <| ?_
        refine o_lt fun x28 => ?_
        refine o_istore (pc := 161) (ls' := [(8, .int x28), (7, .int 0), (6, .int x26), (5, .int x10), (0, .ref u0), (1, .ref 18), (2, .int v2), (3, .int v3), (4, .int v4)]) dX1_plain_161 (Nat.le_of_ble_eq_true rfl) rfl <| o_iload (pc := 163) 1 dX1_plain_163 rfl <| o_iload (pc := 165) 0 dX1_plain_165 rfl <| ?_
        refine o_icmp_ge (pc := 167) (tgt := 174) dX1_plain_167 rfl (fun h29 => ?_) (fun h29 => ?_)
        · refine o_iload (pc := 174) 1 dX1_plain_174 rfl <| o_iload (pc := 176) 0 dX1_plain_176 rfl <| ?_
          refine o_icmp_ne (pc := 178) (tgt := 185) dX1_plain_178 rfl (fun h30 => ?_) (fun h30 => ?_)
          · refine o_iconst (pc := 181) dX1_plain_181 lc_1 <| o_goto (pc := 182) (tgt := 186) dX1_plain_182 rfl <| o_istore (pc := 186) (ls' := [(9, .int 1), (8, .int x28), (7, .int 0), (6, .int x26), (5, .int x10), (0, .ref u0), (1, .ref 18), (2, .int v2), (3, .int v3), (4, .int v4)]) dX1_plain_186 (Nat.le_of_ble_eq_true rfl) rfl <| o_iload_n (pc := 188) 8 dX1_plain_188 rfl rfl <| o_iconst (pc := 189) dX1_plain_189 lc_1 <| o_ishl (pc := 190) dX1_plain_190 <| o_iload (pc := 191) 0 dX1_plain_191 rfl <| o_iload (pc := 193) 4 dX1_plain_193 rfl <| o_bipush (pc := 195) dX1_plain_195 lb_6 <| o_ishr (pc := 197) dX1_plain_197 <| ?_
            refine o_iconst (pc := 198) dX1_plain_198 lc_3 <| o_iand (pc := 199) dX1_plain_199 <| ?_
            refine o_icmp_ne (pc := 200) (tgt := 207) dX1_plain_200 rfl (fun h31 => ?_) (fun h31 => ?_)
            · refine o_iconst (pc := 203) dX1_plain_203 lc_1 <| o_goto (pc := 204) (tgt := 208) dX1_plain_204 rfl <| o_ior (pc := 208) dX1_plain_208 <| ?_
              refine o_lt fun x32 => ?_
              refine o_istore_n (pc := 209) (ls' := [(3, .int x32), (9, .int 1), (8, .int x28), (7, .int 0), (6, .int x26), (5, .int x10), (0, .ref u0), (1, .ref 18), (2, .int v2), (4, .int v4)]) dX1_plain_209 rfl (Nat.le_of_ble_eq_true rfl) rfl <| o_iinc (pc := 210) 9 (v := v4 + 1) (ls' := [(4, .int (v4 + 1)), (3, .int x32), (9, .int 1), (8, .int x28), (7, .int 0), (6, .int x26), (5, .int x10), (0, .ref u0), (1, .ref 18), (2, .int v2)]) dX1_plain_210 rfl rfl (Nat.le_of_ble_eq_true rfl) rfl <| ?_
              refine o_ltL (ls := fun x33 => [(4, .int x33), (3, .int x32), (9, .int 1), (8, .int x28), (7, .int 0), (6, .int x26), (5, .int x10), (0, .ref u0), (1, .ref 18), (2, .int v2)]) fun x33 => ?_
              refine o_goto (pc := 213) (tgt := 8) dX1_plain_213 rfl <| ?_
              refine o_sub [7, 8, 9, 1, 0] (ls' := [(0, .ref u0), (1, .ref 18), (2, .int v2), (3, .int x32), (4, .int x33)]) rfl ?_
              exact ih0 m v2 x32 x33
            · refine o_iconst (pc := 207) dX1_plain_207 lc_0 <| o_ior (pc := 208) dX1_plain_208 <| ?_
              refine o_lt fun x34 => ?_
              refine o_istore_n (pc := 209) (ls' := [(3, .int x34), (9, .int 1), (8, .int x28), (7, .int 0), (6, .int x26), (5, .int x10), (0, .ref u0), (1, .ref 18), (2, .int v2), (4, .int v4)]) dX1_plain_209 rfl (Nat.le_of_ble_eq_true rfl) rfl <| o_iinc (pc := 210) 9 (v := v4 + 1) (ls' := [(4, .int (v4 + 1)), (3, .int x34), (9, .int 1), (8, .int x28), (7, .int 0), (6, .int x26), (5, .int x10), (0, .ref u0), (1, .ref 18), (2, .int v2)]) dX1_plain_210 rfl rfl (Nat.le_of_ble_eq_true rfl) rfl <| ?_
              refine o_ltL (ls := fun x35 => [(4, .int x35), (3, .int x34), (9, .int 1), (8, .int x28), (7, .int 0), (6, .int x26), (5, .int x10), (0, .ref u0), (1, .ref 18), (2, .int v2)]) fun x35 => ?_
              refine o_goto (pc := 213) (tgt := 8) dX1_plain_213 rfl <| ?_
              refine o_sub [7, 8, 9, 1, 0] (ls' := [(0, .ref u0), (1, .ref 18), (2, .int v2), (3, .int x34), (4, .int x35)]) rfl ?_
              exact ih0 m v2 x34 x35
          · refine o_iconst (pc := 185) dX1_plain_185 lc_2 <| o_istore (pc := 186) (ls' := [(9, .int 2), (8, .int x28), (7, .int 0), (6, .int x26), (5, .int x10), (0, .ref u0), (1, .ref 18), (2, .int v2), (3, .int v3), (4, .int v4)]) dX1_plain_186 (Nat.le_of_ble_eq_true rfl) rfl <| o_iload_n (pc := 188) 8 dX1_plain_188 rfl rfl <| o_iconst (pc := 189) dX1_plain_189 lc_1 <| o_ishl (pc := 190) dX1_plain_190 <| o_iload (pc := 191) 0 dX1_plain_191 rfl <| o_iload (pc := 193) 4 dX1_plain_193 rfl <| o_bipush (pc := 195) dX1_plain_195 lb_6 <| o_ishr (pc := 197) dX1_plain_197 <| o_iconst (pc := 198) dX1_plain_198 lc_3 <| ?_
            refine o_iand (pc := 199) dX1_plain_199 <| ?_
            refine o_icmp_ne (pc := 200) (tgt := 207) dX1_plain_200 rfl (fun h36 => ?_) (fun h36 => ?_)
            · refine o_iconst (pc := 203) dX1_plain_203 lc_1 <| o_goto (pc := 204) (tgt := 208) dX1_plain_204 rfl <| o_ior (pc := 208) dX1_plain_208 <| ?_
              refine o_lt fun x37 => ?_
              refine o_istore_n (pc := 209) (ls' := [(3, .int x37), (9, .int 2), (8, .int x28), (7, .int 0), (6, .int x26), (5, .int x10), (0, .ref u0), (1, .ref 18), (2, .int v2), (4, .int v4)]) dX1_plain_209 rfl (Nat.le_of_ble_eq_true rfl) rfl <| o_iinc (pc := 210) 9 (v := v4 + 1) (ls' := [(4, .int (v4 + 1)), (3, .int x37), (9, .int 2), (8, .int x28), (7, .int 0), (6, .int x26), (5, .int x10), (0, .ref u0), (1, .ref 18), (2, .int v2)]) dX1_plain_210 rfl rfl (Nat.le_of_ble_eq_true rfl) rfl <| ?_
              refine o_ltL (ls := fun x38 => [(4, .int x38), (3, .int x37), (9, .int 2), (8, .int x28), (7, .int 0), (6, .int x26), (5, .int x10), (0, .ref u0), (1, .ref 18), (2, .int v2)]) fun x38 => ?_
              refine o_goto (pc := 213) (tgt := 8) dX1_plain_213 rfl <| ?_
              refine o_sub [7, 8, 9, 1, 0] (ls' := [(0, .ref u0), (1, .ref 18), (2, .int v2), (3, .int x37), (4, .int x38)]) rfl ?_
              exact ih0 m v2 x37 x38
            · refine o_iconst (pc := 207) dX1_plain_207 lc_0 <| o_ior (pc := 208) dX1_plain_208 <| ?_
              refine o_lt fun x39 => ?_
              refine o_istore_n (pc := 209) (ls' := [(3, .int x39), (9, .int 2), (8, .int x28), (7, .int 0), (6, .int x26), (5, .int x10), (0, .ref u0), (1, .ref 18), (2, .int v2), (4, .int v4)]) dX1_plain_209 rfl (Nat.le_of_ble_eq_true rfl) rfl <| o_iinc (pc := 210) 9 (v := v4 + 1) (ls' := [(4, .int (v4 + 1)), (3, .int x39), (9, .int 2), (8, .int x28), (7, .int 0), (6, .int x26), (5, .int x10), (0, .ref u0), (1, .ref 18), (2, .int v2)]) dX1_plain_210 rfl rfl (Nat.le_of_ble_eq_true rfl) rfl <| ?_
              refine o_ltL (ls := fun x40 => [(4, .int x40), (3, .int x39), (9, .int 2), (8, .int x28), (7, .int 0), (6, .int x26), (5, .int x10), (0, .ref u0), (1, .ref 18), (2, .int v2)]) fun x40 => ?_
              refine o_goto (pc := 213) (tgt := 8) dX1_plain_213 rfl <| ?_
              refine o_sub [7, 8, 9, 1, 0] (ls' := [(0, .ref u0), (1, .ref 18), (2, .int v2), (3, .int x39), (4, .int x40)]) rfl ?_
              exact ih0 m v2 x39 x40
        · refine o_iconst (pc := 170) dX1_plain_170 lc_0 <| o_goto (pc := 171) (tgt := 186) dX1_plain_171 rfl <| o_istore (pc := 186) (ls' := [(9, .int 0), (8, .int x28), (7, .int 0), (6, .int x26), (5, .int x10), (0, .ref u0), (1, .ref 18), (2, .int v2), (3, .int v3), (4, .int v4)]) dX1_plain_186 (Nat.le_of_ble_eq_true rfl) rfl <| o_iload_n (pc := 188) 8 dX1_plain_188 rfl rfl <| o_iconst (pc := 189) dX1_plain_189 lc_1 <| o_ishl (pc := 190) dX1_plain_190 <| o_iload (pc := 191) 0 dX1_plain_191 rfl <| o_iload (pc := 193) 4 dX1_plain_193 rfl <| o_bipush (pc := 195) dX1_plain_195 lb_6 <| o_ishr (pc := 197) dX1_plain_197 <| ?_
          refine o_iconst (pc := 198) dX1_plain_198 lc_3 <| o_iand (pc := 199) dX1_plain_199 <| ?_
          refine o_icmp_ne (pc := 200) (tgt := 207) dX1_plain_200 rfl (fun h41 => ?_) (fun h41 => ?_)
          · refine o_iconst (pc := 203) dX1_plain_203 lc_1 <| o_goto (pc := 204) (tgt := 208) dX1_plain_204 rfl <| o_ior (pc := 208) dX1_plain_208 <| ?_
            refine o_lt fun x42 => ?_
            refine o_istore_n (pc := 209) (ls' := [(3, .int x42), (9, .int 0), (8, .int x28), (7, .int 0), (6, .int x26), (5, .int x10), (0, .ref u0), (1, .ref 18), (2, .int v2), (4, .int v4)]) dX1_plain_209 rfl (Nat.le_of_ble_eq_true rfl) rfl <| o_iinc (pc := 210) 9 (v := v4 + 1) (ls' := [(4, .int (v4 + 1)), (3, .int x42), (9, .int 0), (8, .int x28), (7, .int 0), (6, .int x26), (5, .int x10), (0, .ref u0), (1, .ref 18), (2, .int v2)]) dX1_plain_210 rfl rfl (Nat.le_of_ble_eq_true rfl) rfl <| ?_
            refine o_ltL (ls := fun x43 => [(4, .int x43), (3, .int x42), (9, .int 0), (8, .int x28), (7, .int 0), (6, .int x26), (5, .int x10), (0, .ref u0), (1, .ref 18), (2, .int v2)]) fun x43 => ?_
            refine o_goto (pc := 213) (tgt := 8) dX1_plain_213 rfl <| ?_
            refine o_sub [7, 8, 9, 1, 0] (ls' := [(0, .ref u0), (1, .ref 18), (2, .int v2), (3, .int x42), (4, .int x43)]) rfl ?_
            exact ih0 m v2 x42 x43
          · refine o_iconst (pc := 207) dX1_plain_207 lc_0 <| o_ior (pc := 208) dX1_plain_208 <| ?_
            refine o_lt fun x44 => ?_
            refine o_istore_n (pc := 209) (ls' := [(3, .int x44), (9, .int 0), (8, .int x28), (7, .int 0), (6, .int x26), (5, .int x10), (0, .ref u0), (1, .ref 18), (2, .int v2), (4, .int v4)]) dX1_plain_209 rfl (Nat.le_of_ble_eq_true rfl) rfl <| o_iinc (pc := 210) 9 (v := v4 + 1) (ls' := [(4, .int (v4 + 1)), (3, .int x44), (9, .int 0), (8, .int x28), (7, .int 0), (6, .int x26), (5, .int x10), (0, .ref u0), (1, .ref 18), (2, .int v2)]) dX1_plain_210 rfl rfl (Nat.le_of_ble_eq_true rfl) rfl <| ?_
            refine o_ltL (ls := fun x45 => [(4, .int x45), (3, .int x44), (9, .int 0), (8, .int x28), (7, .int 0), (6, .int x26), (5, .int x10), (0, .ref u0), (1, .ref 18), (2, .int v2)]) fun x45 => ?_
            refine o_goto (pc := 213) (tgt := 8) dX1_plain_213 rfl <| ?_
            refine o_sub [7, 8, 9, 1, 0] (ls' := [(0, .ref u0), (1, .ref 18), (2, .int v2), (3, .int x44), (4, .int x45)]) rfl ?_
            exact ih0 m v2 x44 x45
      · refine o_aload_n (pc := 146) 3 dX1_plain_146 rfl rfl <| o_iload (pc := 147) 0 dX1_plain_147 rfl <| ?_
        refine S_ck fun h46 => ?_
        refine o_iald (pc := 149) (nn := 6) dX1_plain_149 (hF.1 _ _ rfl) (ck_in h46) <| o_goto (pc := 150) (tgt := 154) dX1_plain_150 rfl <| ?_
        refine o_lt fun x47 => ?_
        refine o_istore (pc := 154) (ls' := [(7, .int x47), (6, .int x26), (5, .int x10), (0, .ref u0), (1, .ref 18), (2, .int v2), (3, .int v3), (4, .int v4)]) dX1_plain_154 (Nat.le_of_ble_eq_true rfl) rfl <| o_iload (pc := 156) 2 dX1_plain_156 rfl <| o_bipush (pc := 158) dX1_plain_158 lb_8 <| o_ishr (pc := 160) dX1_plain_160 <| ?_
        refine o_lt fun x48 => ?_
        refine o_istore (pc := 161) (ls' := [(8, .int x48), (7, .int x47), (6, .int x26), (5, .int x10), (0, .ref u0), (1, .ref 18), (2, .int v2), (3, .int v3), (4, .int v4)]) dX1_plain_161 (Nat.le_of_ble_eq_true rfl) rfl <| o_iload (pc := 163) 1 dX1_plain_163 rfl <| o_iload (pc := 165) 0 dX1_plain_165 rfl <| ?_
        refine o_icmp_ge (pc := 167) (tgt := 174) dX1_plain_167 rfl (fun h49 => ?_) (fun h49 => ?_)
        · refine o_iload (pc := 174) 1 dX1_plain_174 rfl <| o_iload (pc := 176) 0 dX1_plain_176 rfl <| ?_
          refine o_icmp_ne (pc := 178) (tgt := 185) dX1_plain_178 rfl (fun h50 => ?_) (fun h50 => ?_)
          · refine o_iconst (pc := 181) dX1_plain_181 lc_1 <| o_goto (pc := 182) (tgt := 186) dX1_plain_182 rfl <| o_istore (pc := 186) (ls' := [(9, .int 1), (8, .int x48), (7, .int x47), (6, .int x26), (5, .int x10), (0, .ref u0), (1, .ref 18), (2, .int v2), (3, .int v3), (4, .int v4)]) dX1_plain_186 (Nat.le_of_ble_eq_true rfl) rfl <| o_iload_n (pc := 188) 8 dX1_plain_188 rfl rfl <| o_iconst (pc := 189) dX1_plain_189 lc_1 <| o_ishl (pc := 190) dX1_plain_190 <| o_iload (pc := 191) 0 dX1_plain_191 rfl <| o_iload (pc := 193) 4 dX1_plain_193 rfl <| o_bipush (pc := 195) dX1_plain_195 lb_6 <| o_ishr (pc := 197) dX1_plain_197 <| ?_
            refine o_iconst (pc := 198) dX1_plain_198 lc_3 <| o_iand (pc := 199) dX1_plain_199 <| ?_
            refine o_icmp_ne (pc := 200) (tgt := 207) dX1_plain_200 rfl (fun h51 => ?_) (fun h51 => ?_)
            · refine o_iconst (pc := 203) dX1_plain_203 lc_1 <| o_goto (pc := 204) (tgt := 208) dX1_plain_204 rfl <| o_ior (pc := 208) dX1_plain_208 <| ?_
              refine o_lt fun x52 => ?_
              refine o_istore_n (pc := 209) (ls' := [(3, .int x52), (9, .int 1), (8, .int x48), (7, .int x47), (6, .int x26), (5, .int x10), (0, .ref u0), (1, .ref 18), (2, .int v2), (4, .int v4)]) dX1_plain_209 rfl (Nat.le_of_ble_eq_true rfl) rfl <| o_iinc (pc := 210) 9 (v := v4 + 1) (ls' := [(4, .int (v4 + 1)), (3, .int x52), (9, .int 1), (8, .int x48), (7, .int x47), (6, .int x26), (5, .int x10), (0, .ref u0), (1, .ref 18), (2, .int v2)]) dX1_plain_210 rfl rfl (Nat.le_of_ble_eq_true rfl) rfl <| ?_
              refine o_ltL (ls := fun x53 => [(4, .int x53), (3, .int x52), (9, .int 1), (8, .int x48), (7, .int x47), (6, .int x26), (5, .int x10), (0, .ref u0), (1, .ref 18), (2, .int v2)]) fun x53 => ?_
              refine o_goto (pc := 213) (tgt := 8) dX1_plain_213 rfl <| ?_
              refine o_sub [7, 8, 9, 1, 0] (ls' := [(0, .ref u0), (1, .ref 18), (2, .int v2), (3, .int x52), (4, .int x53)]) rfl ?_
              exact ih0 m v2 x52 x53
            · refine o_iconst (pc := 207) dX1_plain_207 lc_0 <| o_ior (pc := 208) dX1_plain_208 <| ?_
              refine o_lt fun x54 => ?_
              refine o_istore_n (pc := 209) (ls' := [(3, .int x54), (9, .int 1), (8, .int x48), (7, .int x47), (6, .int x26), (5, .int x10), (0, .ref u0), (1, .ref 18), (2, .int v2), (4, .int v4)]) dX1_plain_209 rfl (Nat.le_of_ble_eq_true rfl) rfl <| o_iinc (pc := 210) 9 (v := v4 + 1) (ls' := [(4, .int (v4 + 1)), (3, .int x54), (9, .int 1), (8, .int x48), (7, .int x47), (6, .int x26), (5, .int x10), (0, .ref u0), (1, .ref 18), (2, .int v2)]) dX1_plain_210 rfl rfl (Nat.le_of_ble_eq_true rfl) rfl <| ?_
              refine o_ltL (ls := fun x55 => [(4, .int x55), (3, .int x54), (9, .int 1), (8, .int x48), (7, .int x47), (6, .int x26), (5, .int x10), (0, .ref u0), (1, .ref 18), (2, .int v2)]) fun x55 => ?_
              refine o_goto (pc := 213) (tgt := 8) dX1_plain_213 rfl <| ?_
              refine o_sub [7, 8, 9, 1, 0] (ls' := [(0, .ref u0), (1, .ref 18), (2, .int v2), (3, .int x54), (4, .int x55)]) rfl ?_
              exact ih0 m v2 x54 x55
          · refine o_iconst (pc := 185) dX1_plain_185 lc_2 <| o_istore (pc := 186) (ls' := [(9, .int 2), (8, .int x48), (7, .int x47), (6, .int x26), (5, .int x10), (0, .ref u0), (1, .ref 18), (2, .int v2), (3, .int v3), (4, .int v4)]) dX1_plain_186 (Nat.le_of_ble_eq_true rfl) rfl <| o_iload_n (pc := 188) 8 dX1_plain_188 rfl rfl <| o_iconst (pc := 189) dX1_plain_189 lc_1 <| o_ishl (pc := 190) dX1_plain_190 <| o_iload (pc := 191) 0 dX1_plain_191 rfl <| o_iload (pc := 193) 4 dX1_plain_193 rfl <| o_bipush (pc := 195) dX1_plain_195 lb_6 <| o_ishr (pc := 197) dX1_plain_197 <| o_iconst (pc := 198) dX1_plain_198 lc_3 <| ?_
            refine o_iand (pc := 199) dX1_plain_199 <| ?_
            refine o_icmp_ne (pc := 200) (tgt := 207) dX1_plain_200 rfl (fun h56 => ?_) (fun h56 => ?_)
            · refine o_iconst (pc := 203) dX1_plain_203 lc_1 <| o_goto (pc := 204) (tgt := 208) dX1_plain_204 rfl <| o_ior (pc := 208) dX1_plain_208 <| ?_
              refine o_lt fun x57 => ?_
              refine o_istore_n (pc := 209) (ls' := [(3, .int x57), (9, .int 2), (8, .int x48), (7, .int x47), (6, .int x26), (5, .int x10), (0, .ref u0), (1, .ref 18), (2, .int v2), (4, .int v4)]) dX1_plain_209 rfl (Nat.le_of_ble_eq_true rfl) rfl <| o_iinc (pc := 210) 9 (v := v4 + 1) (ls' := [(4, .int (v4 + 1)), (3, .int x57), (9, .int 2), (8, .int x48), (7, .int x47), (6, .int x26), (5, .int x10), (0, .ref u0), (1, .ref 18), (2, .int v2)]) dX1_plain_210 rfl rfl (Nat.le_of_ble_eq_true rfl) rfl <| ?_
              refine o_ltL (ls := fun x58 => [(4, .int x58), (3, .int x57), (9, .int 2), (8, .int x48), (7, .int x47), (6, .int x26), (5, .int x10), (0, .ref u0), (1, .ref 18), (2, .int v2)]) fun x58 => ?_
              refine o_goto (pc := 213) (tgt := 8) dX1_plain_213 rfl <| ?_
              refine o_sub [7, 8, 9, 1, 0] (ls' := [(0, .ref u0), (1, .ref 18), (2, .int v2), (3, .int x57), (4, .int x58)]) rfl ?_
              exact ih0 m v2 x57 x58
            · refine o_iconst (pc := 207) dX1_plain_207 lc_0 <| o_ior (pc := 208) dX1_plain_208 <| ?_
              refine o_lt fun x59 => ?_
              refine o_istore_n (pc := 209) (ls' := [(3, .int x59), (9, .int 2), (8, .int x48), (7, .int x47), (6, .int x26), (5, .int x10), (0, .ref u0), (1, .ref 18), (2, .int v2), (4, .int v4)]) dX1_plain_209 rfl (Nat.le_of_ble_eq_true rfl) rfl <| o_iinc (pc := 210) 9 (v := v4 + 1) (ls' := [(4, .int (v4 + 1)), (3, .int x59), (9, .int 2), (8, .int x48), (7, .int x47), (6, .int x26), (5, .int x10), (0, .ref u0), (1, .ref 18), (2, .int v2)]) dX1_plain_210 rfl rfl (Nat.le_of_ble_eq_true rfl) rfl <| ?_
              refine o_ltL (ls := fun x60 => [(4, .int x60), (3, .int x59), (9, .int 2), (8, .int x48), (7, .int x47), (6, .int x26), (5, .int x10), (0, .ref u0), (1, .ref 18), (2, .int v2)]) fun x60 => ?_
              refine o_goto (pc := 213) (tgt := 8) dX1_plain_213 rfl <| ?_
              refine o_sub [7, 8, 9, 1, 0] (ls' := [(0, .ref u0), (1, .ref 18), (2, .int v2), (3, .int x59), (4, .int x60)]) rfl ?_
              exact ih0 m v2 x59 x60
        · refine o_iconst (pc := 170) dX1_plain_170 lc_0 <| o_goto (pc := 171) (tgt := 186) dX1_plain_171 rfl <| o_istore (pc := 186) (ls' := [(9, .int 0), (8, .int x48), (7, .int x47), (6, .int x26), (5, .int x10), (0, .ref u0), (1, .ref 18), (2, .int v2), (3, .int v3), (4, .int v4)]) dX1_plain_186 (Nat.le_of_ble_eq_true rfl) rfl <| o_iload_n (pc := 188) 8 dX1_plain_188 rfl rfl <| o_iconst (pc := 189) dX1_plain_189 lc_1 <| o_ishl (pc := 190) dX1_plain_190 <| o_iload (pc := 191) 0 dX1_plain_191 rfl <| o_iload (pc := 193) 4 dX1_plain_193 rfl <| o_bipush (pc := 195) dX1_plain_195 lb_6 <| o_ishr (pc := 197) dX1_plain_197 <| ?_
          refine o_iconst (pc := 198) dX1_plain_198 lc_3 <| o_iand (pc := 199) dX1_plain_199 <| ?_
          refine o_icmp_ne (pc := 200) (tgt := 207) dX1_plain_200 rfl (fun h61 => ?_) (fun h61 => ?_)
          · refine o_iconst (pc := 203) dX1_plain_203 lc_1 <| o_goto (pc := 204) (tgt := 208) dX1_plain_204 rfl <| o_ior (pc := 208) dX1_plain_208 <| ?_
            refine o_lt fun x62 => ?_
            refine o_istore_n (pc := 209) (ls' := [(3, .int x62), (9, .int 0), (8, .int x48), (7, .int x47), (6, .int x26), (5, .int x10), (0, .ref u0), (1, .ref 18), (2, .int v2), (4, .int v4)]) dX1_plain_209 rfl (Nat.le_of_ble_eq_true rfl) rfl <| o_iinc (pc := 210) 9 (v := v4 + 1) (ls' := [(4, .int (v4 + 1)), (3, .int x62), (9, .int 0), (8, .int x48), (7, .int x47), (6, .int x26), (5, .int x10), (0, .ref u0), (1, .ref 18), (2, .int v2)]) dX1_plain_210 rfl rfl (Nat.le_of_ble_eq_true rfl) rfl <| ?_
            refine o_ltL (ls := fun x63 => [(4, .int x63), (3, .int x62), (9, .int 0), (8, .int x48), (7, .int x47), (6, .int x26), (5, .int x10), (0, .ref u0), (1, .ref 18), (2, .int v2)]) fun x63 => ?_
            refine o_goto (pc := 213) (tgt := 8) dX1_plain_213 rfl <| ?_
            refine o_sub [7, 8, 9, 1, 0] (ls' := [(0, .ref u0), (1, .ref 18), (2, .int v2), (3, .int x62), (4, .int x63)]) rfl ?_
            exact ih0 m v2 x62 x63
          · refine o_iconst (pc := 207) dX1_plain_207 lc_0 <| o_ior (pc := 208) dX1_plain_208 <| ?_
            refine o_lt fun x64 => ?_
            refine o_istore_n (pc := 209) (ls' := [(3, .int x64), (9, .int 0), (8, .int x48), (7, .int x47), (6, .int x26), (5, .int x10), (0, .ref u0), (1, .ref 18), (2, .int v2), (4, .int v4)]) dX1_plain_209 rfl (Nat.le_of_ble_eq_true rfl) rfl <| o_iinc (pc := 210) 9 (v := v4 + 1) (ls' := [(4, .int (v4 + 1)), (3, .int x64), (9, .int 0), (8, .int x48), (7, .int x47), (6, .int x26), (5, .int x10), (0, .ref u0), (1, .ref 18), (2, .int v2)]) dX1_plain_210 rfl rfl (Nat.le_of_ble_eq_true rfl) rfl <| ?_
            refine o_ltL (ls := fun x65 => [(4, .int x65), (3, .int x64), (9, .int 0), (8, .int x48), (7, .int x47), (6, .int x26), (5, .int x10), (0, .ref u0), (1, .ref 18), (2, .int v2)]) fun x65 => ?_
            refine o_goto (pc := 213) (tgt := 8) dX1_plain_213 rfl <| ?_
            refine o_sub [7, 8, 9, 1, 0] (ls' := [(0, .ref u0), (1, .ref 18), (2, .int v2), (3, .int x64), (4, .int x65)]) rfl ?_
            exact ih0 m v2 x64 x65
def fH_plain_18 (sh : Sh) (R : RR) (m : MI) (t : Nat) : Option (Int32 × MI) :=
  fH_plain_18_l8 sh R t
    (fun m4 z1 z2 z3 =>
      some (if 0 < z1 then z1 else 0, m4)
      )
    1000 m 10 0 0
theorem sH_plain_18 {sh : Sh} {R : RR} (hF : Fx sh R) (m : MI) (t : Nat) : KS (eI sh R) false 1 0 0 YX1_plain sh R m [.ref t, .ref 18] (fH_plain_18 sh R m t) := by
  refine KS_of pn_X1 (fun _ => Nat.le_of_ble_eq_true rfl) ?_
  change S _ _ _ _ _ _ _ _ _ _ [(0, .ref t), (1, .ref 18)] [] _
  unfold fH_plain_18
  refine o_bipush (pc := 0) dX1_plain_0 lb_10 <| o_istore_n (pc := 2) (ls' := [(2, .int 10), (0, .ref t), (1, .ref 18)]) dX1_plain_2 rfl (Nat.le_of_ble_eq_true rfl) rfl <| o_iconst (pc := 3) dX1_plain_3 lc_0 <| o_istore_n (pc := 4) (ls' := [(3, .int 0), (2, .int 10), (0, .ref t), (1, .ref 18)]) dX1_plain_4 rfl (Nat.le_of_ble_eq_true rfl) rfl <| o_iconst (pc := 5) dX1_plain_5 lc_0 <| o_istore (pc := 6) (ls' := [(4, .int 0), (3, .int 0), (2, .int 10), (0, .ref t), (1, .ref 18)]) dX1_plain_6 (Nat.le_of_ble_eq_true rfl) rfl <| ?_
  refine o_sub [3, 4, 2, 1, 0] (ls' := [(0, .ref t), (1, .ref 18), (2, .int 10), (3, .int 0), (4, .int 0)]) rfl ?_
  refine sH_plain_18_l8 hF t _ ?_ 1000 m 10 0 0
  · intro m4 z1 z2 z3
    refine o_iconst (pc := 216) dX1_plain_216 lc_0 <| o_iload_n (pc := 217) 2 dX1_plain_217 rfl rfl <| o_max (pc := 218) dX1_plain_218 k_369 k_347 k_81 k_348 (Nat.le_of_ble_eq_true rfl) (Nat.le_of_ble_eq_true rfl) <| ?_
    exact o_iret (pc := 221) dX1_plain_221 rfl rfl
