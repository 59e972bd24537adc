def fM_tellsAct (m : MI) (a : Int32) (b : Int32) : Option (Int32 × MI) :=
  if ck a 6 = true then
    if m.1 62 a.toNatClampNeg = 3 then
      (fM_body m 40).bind fun r3 =>
      (fM_drawerTells r3 a b).bind fun r4 =>
      (fM_showsAct r4.2 a 1).bind fun r5 =>
      some (r4.1 + r5.1, r5.2)
    else
      if m.1 62 a.toNatClampNeg = 4 then
        (fM_drawerTells m a b).bind fun r7 =>
        some (r7.1, r7.2)
      else
        if m.1 62 a.toNatClampNeg = 5 then
          (fM_body m 60).bind fun r9 =>
          (fM_drawerTells r9 a (b - a)).bind fun r10 =>
          some (r10.1, r10.2)
        else
          if m.1 62 a.toNatClampNeg = 6 then
            (fM_body m 40).bind fun r12 =>
            (fM_drawerTells r12 a b).bind fun r13 =>
            (fM_showsAct r13.2 a 1).bind fun r14 =>
            some (r13.1 + r14.1, r14.2)
          else
            (fM_drawerTells m a b).bind fun r15 =>
            some (r15.1, r15.2)
  else none
theorem sM_tellsAct {sh : Sh} {R : RR} (hF : Fx sh R) (m : MI) (a : Int32) (b : Int32) : KS (eI sh R) false 7 0 0 YX7_tellsAct sh R m [.ref 61, .int a, .int b] (fM_tellsAct m a b) := by
  refine KS_of pn_X7 (fun _ => Nat.le_of_ble_eq_true rfl) ?_
  change S _ _ _ _ _ _ _ _ _ _ [(0, .ref 61), (1, .int a), (2, .int b)] [] _
  unfold fM_tellsAct
  refine o_aload_n (pc := 0) 0 dX7_tellsAct_0 rfl rfl <| o_getRc (pc := 1) (a := 62) (ci := 7) (j := 5) (nn := 0) dX7_tellsAct_1 (hF.1 _ _ rfl) rfl (Nat.le_of_ble_eq_true rfl) k_888 rfl (hF.2 _ _ _ rfl) <| o_iload_n (pc := 4) 1 dX7_tellsAct_4 rfl rfl <| ?_
  refine S_ck fun h1 => ?_
  refine o_iald (pc := 5) (nn := 6) dX7_tellsAct_5 (hF.1 _ _ rfl) (ck_in h1) <| ?_
  refine S_ite (fun h2 => ?_) (fun h2 => ?_)
  · refine o_ts_in (pc := 6) (tgt := 36) 3 h2 dX7_tellsAct_6 (by decide) (by decide) rfl rfl ?_
    refine o_aload_n (pc := 36) 0 dX7_tellsAct_36 rfl rfl <| o_bipush (pc := 37) dX7_tellsAct_37 lb_40 <| ?_
    refine o_callVV (Y2 := YX7_body) (pc := 39) (av := [.int 40]) (rest := []) dX7_tellsAct_39 k_1388 cm_X7_body (sM_body hF m 40) (hF.1 _ _ rfl) rfl rfl (Nat.le_of_ble_eq_true rfl) (Nat.le_of_ble_eq_true rfl) fun r3 => ?_
    refine o_aload_n (pc := 42) 0 dX7_tellsAct_42 rfl rfl <| o_iload_n (pc := 43) 1 dX7_tellsAct_43 rfl rfl <| o_iload_n (pc := 44) 2 dX7_tellsAct_44 rfl rfl <| ?_
    refine o_callVI (Y2 := YX7_drawerTells) (pc := 45) (av := [.int a, .int b]) (rest := []) dX7_tellsAct_45 k_1412 cm_X7_drawerTells (sM_drawerTells hF r3 a b) (hF.1 _ _ rfl) rfl rfl (Nat.le_of_ble_eq_true rfl) (Nat.le_of_ble_eq_true rfl) fun r4 => ?_
    refine o_istore_n (pc := 48) (ls' := [(3, .int r4.1), (0, .ref 61), (1, .int a), (2, .int b)]) dX7_tellsAct_48 rfl (Nat.le_of_ble_eq_true rfl) rfl <| o_iload_n (pc := 49) 0 dX7_tellsAct_49 rfl rfl <| o_aload_n (pc := 50) 1 dX7_tellsAct_50 rfl rfl <| o_iload_n (pc := 51) 2 dX7_tellsAct_51 rfl rfl <| o_iconst (pc := 52) dX7_tellsAct_52 lc_1 <| ?_
    refine o_callVI (Y2 := YX7_showsAct) (pc := 53) (av := [.int a, .int 1]) (rest := [.int r4.1]) dX7_tellsAct_53 k_1396 cm_X7_showsAct (sM_showsAct hF r4.2 a 1) (hF.1 _ _ rfl) rfl rfl (Nat.le_of_ble_eq_true rfl) (Nat.le_of_ble_eq_true rfl) fun r5 => ?_
    refine o_iadd (pc := 56) dX7_tellsAct_56 <| ?_
    exact o_iret (pc := 57) dX7_tellsAct_57 rfl rfl
  refine S_ite (fun h6 => ?_) (fun h6 => ?_)
  · refine o_ts_in (pc := 6) (tgt := 73) 4 h6 dX7_tellsAct_6 (by decide) (by decide) rfl rfl ?_
    refine o_aload_n (pc := 73) 0 dX7_tellsAct_73 rfl rfl <| o_iload_n (pc := 74) 1 dX7_tellsAct_74 rfl rfl <| o_iload_n (pc := 75) 2 dX7_tellsAct_75 rfl rfl <| ?_
    refine o_callVI (Y2 := YX7_drawerTells) (pc := 76) (av := [.int a, .int b]) (rest := []) dX7_tellsAct_76 k_1412 cm_X7_drawerTells (sM_drawerTells hF m a b) (hF.1 _ _ rfl) rfl rfl (Nat.le_of_ble_eq_true rfl) (Nat.le_of_ble_eq_true rfl) fun r7 => ?_
    exact o_iret (pc := 79) dX7_tellsAct_79 rfl rfl
  refine S_ite (fun h8 => ?_) (fun h8 => ?_)
  · refine o_ts_in (pc := 6) (tgt := 58) 5 h8 dX7_tellsAct_6 (by decide) (by decide) rfl rfl ?_
    refine o_aload_n (pc := 58) 0 dX7_tellsAct_58 rfl rfl <| o_bipush (pc := 59) dX7_tellsAct_59 lb_60 <| ?_
    refine o_callVV (Y2 := YX7_body) (pc := 61) (av := [.int 60]) (rest := []) dX7_tellsAct_61 k_1388 cm_X7_body (sM_body hF m 60) (hF.1 _ _ rfl) rfl rfl (Nat.le_of_ble_eq_true rfl) (Nat.le_of_ble_eq_true rfl) fun r9 => ?_
    refine o_aload_n (pc := 64) 0 dX7_tellsAct_64 rfl rfl <| o_iload_n (pc := 65) 1 dX7_tellsAct_65 rfl rfl <| o_iload_n (pc := 66) 2 dX7_tellsAct_66 rfl rfl <| o_iload_n (pc := 67) 1 dX7_tellsAct_67 rfl rfl <| o_isub (pc := 68) dX7_tellsAct_68 <| ?_
    refine o_callVI (Y2 := YX7_drawerTells) (pc := 69) (av := [.int a, .int (b - a)]) (rest := []) dX7_tellsAct_69 k_1412 cm_X7_drawerTells (sM_drawerTells hF r9 a (b - a)) (hF.1 _ _ rfl) rfl rfl (Nat.le_of_ble_eq_true rfl) (Nat.le_of_ble_eq_true rfl) fun r10 => ?_
    exact o_iret (pc := 72) dX7_tellsAct_72 rfl rfl
  refine S_ite (fun h11 => ?_) (fun h11 => ?_)
  · refine o_ts_in (pc := 6) (tgt := 36) 6 h11 dX7_tellsAct_6 (by decide) (by decide) rfl rfl ?_
    refine o_aload_n (pc := 36) 0 dX7_tellsAct_36 rfl rfl <| o_bipush (pc := 37) dX7_tellsAct_37 lb_40 <| ?_
    refine o_callVV (Y2 := YX7_body) (pc := 39) (av := [.int 40]) (rest := []) dX7_tellsAct_39 k_1388 cm_X7_body (sM_body hF m 40) (hF.1 _ _ rfl) rfl rfl (Nat.le_of_ble_eq_true rfl) (Nat.le_of_ble_eq_true rfl) fun r12 => ?_
    refine o_aload_n (pc := 42) 0 dX7_tellsAct_42 rfl rfl <| o_iload_n (pc := 43) 1 dX7_tellsAct_43 rfl rfl <| o_iload_n (pc := 44) 2 dX7_tellsAct_44 rfl rfl <| ?_
    refine o_callVI (Y2 := YX7_drawerTells) (pc := 45) (av := [.int a, .int b]) (rest := []) dX7_tellsAct_45 k_1412 cm_X7_drawerTells (sM_drawerTells hF r12 a b) (hF.1 _ _ rfl) rfl rfl (Nat.le_of_ble_eq_true rfl) (Nat.le_of_ble_eq_true rfl) fun r13 => ?_
    refine o_istore_n (pc := 48) (ls' := [(3, .int r13.1), (0, .ref 61), (1, .int a), (2, .int b)]) dX7_tellsAct_48 rfl (Nat.le_of_ble_eq_true rfl) rfl <| o_iload_n (pc := 49) 0 dX7_tellsAct_49 rfl rfl <| o_aload_n (pc := 50) 1 dX7_tellsAct_50 rfl rfl <| o_iload_n (pc := 51) 2 dX7_tellsAct_51 rfl rfl <| o_iconst (pc := 52) dX7_tellsAct_52 lc_1 <| ?_
    refine o_callVI (Y2 := YX7_showsAct) (pc := 53) (av := [.int a, .int 1]) (rest := [.int r13.1]) dX7_tellsAct_53 k_1396 cm_X7_showsAct (sM_showsAct hF r13.2 a 1) (hF.1 _ _ rfl) rfl rfl (Nat.le_of_ble_eq_true rfl) (Nat.le_of_ble_eq_true rfl) fun r14 => ?_
    refine o_iadd (pc := 56) dX7_tellsAct_56 <| ?_
    exact o_iret (pc := 57) dX7_tellsAct_57 rfl rfl
  refine o_ts_out (pc := 6) (tgt := 73) (ts_out (lo := 3) (hi := 6) [3, 4, 5, 6] (by decide) (by decide) (fun c hc => by
      simp only [List.mem_cons, List.not_mem_nil, or_false] at hc
      rcases hc with rfl | rfl | rfl | rfl
      · exact h2
      · exact h6
      · exact h8
      · exact h11)) dX7_tellsAct_6 rfl ?_
  refine o_aload_n (pc := 73) 0 dX7_tellsAct_73 rfl rfl <| o_iload_n (pc := 74) 1 dX7_tellsAct_74 rfl rfl <| o_iload_n (pc := 75) 2 dX7_tellsAct_75 rfl rfl <| ?_
  refine o_callVI (Y2 := YX7_drawerTells) (pc := 76) (av := [.int a, .int b]) (rest := []) dX7_tellsAct_76 k_1412 cm_X7_drawerTells (sM_drawerTells hF m a b) (hF.1 _ _ rfl) rfl rfl (Nat.le_of_ble_eq_true rfl) (Nat.le_of_ble_eq_true rfl) fun r15 => ?_
  exact o_iret (pc := 79) dX7_tellsAct_79 rfl rfl
def fM_act (m : MI) (a : Int32) (b : Int32) (c : Int32) : Option (Int32 × MI) :=
  lm (mI m 61 (upd (m.1 61) 63 0)) fun m1 =>
  (fM_isDrawer m1 a).bind fun r2 =>
  if r2.1 = 0 then
    some (0, r2.2)
  else
    (fM_in r2.2 b 0 2).bind fun r4 =>
    if r4.1 = 0 then
      some (0, r4.2)
    else
      if b = 0 then
        (fM_drawsAct r4.2 a c).bind fun r7 =>
        some (r7.1, r7.2)
      else
        if b = 1 then
          (fM_showsAct r4.2 a c).bind fun r9 =>
          some (r9.1, r9.2)
        else
          (fM_tellsAct r4.2 a c).bind fun r10 =>
          some (r10.1, r10.2)
theorem sM_act {sh : Sh} {R : RR} (hF : Fx sh R) (m : MI) (a : Int32) (b : Int32) (c : Int32) : KS (eI sh R) false 8 0 0 YX7_act sh R m [.ref 61, .int a, .int b, .int c] (fM_act m a b c) := by
  refine KS_of pn_X7 (fun _ => Nat.le_of_ble_eq_true rfl) ?_
  change S _ _ _ _ _ _ _ _ _ _ [(0, .ref 61), (1, .int a), (2, .int b), (3, .int c)] [] _
  unfold fM_act
  refine o_aload_n (pc := 0) 0 dX7_act_0 rfl rfl <| o_iconst (pc := 1) dX7_act_1 lc_0 <| o_putI (pc := 2) (ci := 7) (j := 63) (nn := 0) dX7_act_2 (hF.1 _ _ rfl) rfl (Nat.le_of_ble_eq_true rfl) k_946 rfl rfl rfl rfl rfl <| ?_
  refine o_lm fun m1 => ?_
  refine o_aload_n (pc := 5) 0 dX7_act_5 rfl rfl <| o_iload_n (pc := 6) 1 dX7_act_6 rfl rfl <| ?_
  refine o_callVI (Y2 := YX7_isDrawer) (pc := 7) (av := [.int a]) (rest := []) dX7_act_7 k_1104 cm_X7_isDrawer (sM_isDrawer hF m1 a) (hF.1 _ _ rfl) rfl rfl (Nat.le_of_ble_eq_true rfl) (Nat.le_of_ble_eq_true rfl) fun r2 => ?_
  refine o_if_eq (pc := 10) (tgt := 23) dX7_act_10 rfl (fun h3 => ?_) (fun h3 => ?_)
  · refine o_iconst (pc := 23) dX7_act_23 lc_0 <| ?_
    exact o_iret (pc := 24) dX7_act_24 rfl rfl
  · refine o_aload_n (pc := 13) 0 dX7_act_13 rfl rfl <| o_iload_n (pc := 14) 2 dX7_act_14 rfl rfl <| o_iconst (pc := 15) dX7_act_15 lc_0 <| o_iconst (pc := 16) dX7_act_16 lc_2 <| ?_
    refine o_callVI (Y2 := YX7_in) (pc := 17) (av := [.int b, .int 0, .int 2]) (rest := []) dX7_act_17 k_1096 cm_X7_in (sM_in hF r2.2 b 0 2) (hF.1 _ _ rfl) rfl rfl (Nat.le_of_ble_eq_true rfl) (Nat.le_of_ble_eq_true rfl) fun r4 => ?_
    refine o_if_ne (pc := 20) (tgt := 25) dX7_act_20 rfl (fun h5 => ?_) (fun h5 => ?_)
    · refine o_iconst (pc := 23) dX7_act_23 lc_0 <| ?_
      exact o_iret (pc := 24) dX7_act_24 rfl rfl
    · refine o_iload_n (pc := 25) 2 dX7_act_25 rfl rfl <| ?_
      refine o_if_ne (pc := 26) (tgt := 38) dX7_act_26 rfl (fun h6 => ?_) (fun h6 => ?_)
      · refine o_aload_n (pc := 29) 0 dX7_act_29 rfl rfl <| o_iload_n (pc := 30) 1 dX7_act_30 rfl rfl <| o_iload_n (pc := 31) 3 dX7_act_31 rfl rfl <| ?_
        refine o_callVI (Y2 := YX7_drawsAct) (pc := 32) (av := [.int a, .int c]) (rest := []) dX7_act_32 k_1384 cm_X7_drawsAct (sM_drawsAct hF r4.2 a c) (hF.1 _ _ rfl) rfl rfl (Nat.le_of_ble_eq_true rfl) (Nat.le_of_ble_eq_true rfl) fun r7 => ?_
        refine o_goto (pc := 35) (tgt := 58) dX7_act_35 rfl <| ?_
        exact o_iret (pc := 58) dX7_act_58 rfl rfl
      · refine o_iload_n (pc := 38) 2 dX7_act_38 rfl rfl <| o_iconst (pc := 39) dX7_act_39 lc_1 <| ?_
        refine o_icmp_ne (pc := 40) (tgt := 52) dX7_act_40 rfl (fun h8 => ?_) (fun h8 => ?_)
        · refine o_aload_n (pc := 43) 0 dX7_act_43 rfl rfl <| o_iload_n (pc := 44) 1 dX7_act_44 rfl rfl <| o_iload_n (pc := 45) 3 dX7_act_45 rfl rfl <| ?_
          refine o_callVI (Y2 := YX7_showsAct) (pc := 46) (av := [.int a, .int c]) (rest := []) dX7_act_46 k_1396 cm_X7_showsAct (sM_showsAct hF r4.2 a c) (hF.1 _ _ rfl) rfl rfl (Nat.le_of_ble_eq_true rfl) (Nat.le_of_ble_eq_true rfl) fun r9 => ?_
          refine o_goto (pc := 49) (tgt := 58) dX7_act_49 rfl <| ?_
          exact o_iret (pc := 58) dX7_act_58 rfl rfl
        · refine o_aload_n (pc := 52) 0 dX7_act_52 rfl rfl <| o_iload_n (pc := 53) 1 dX7_act_53 rfl rfl <| o_iload_n (pc := 54) 3 dX7_act_54 rfl rfl <| ?_
          refine o_callVI (Y2 := YX7_tellsAct) (pc := 55) (av := [.int a, .int c]) (rest := []) dX7_act_55 k_1408 cm_X7_tellsAct (sM_tellsAct hF r4.2 a c) (hF.1 _ _ rfl) rfl rfl (Nat.le_of_ble_eq_true rfl) (Nat.le_of_ble_eq_true rfl) fun r10 => ?_
          exact o_iret (pc := 58) dX7_act_58 rfl rfl
def fM_trace (m : MI) (a : Int32) : Option (Int32 × MI) :=
  (fM_in m a 0 19).bind fun r1 =>
  if r1.1 = 0 then
    some (-1, r1.2)
  else
    if r1.2.1 61 63 ≤ a then
      some (-1, r1.2)
    else
      if ck a 20 = true then
        some (r1.2.1 94 a.toNatClampNeg, r1.2)
      else none
theorem sM_trace {sh : Sh} {R : RR} (hF : Fx sh R) (m : MI) (a : Int32) : KS (eI sh R) false 1 0 0 YX7_trace sh R m [.ref 61, .int a] (fM_trace m a) := by
  refine KS_of pn_X7 (fun _ => Nat.le_of_ble_eq_true rfl) ?_
  change S _ _ _ _ _ _ _ _ _ _ [(0, .ref 61), (1, .int a)] [] _
  unfold fM_trace
  refine o_aload_n (pc := 0) 0 dX7_trace_0 rfl rfl <| o_iload_n (pc := 1) 1 dX7_trace_1 rfl rfl <| o_iconst (pc := 2) dX7_trace_2 lc_0 <| o_bipush (pc := 3) dX7_trace_3 lb_19 <| ?_
  refine o_callVI (Y2 := YX7_in) (pc := 5) (av := [.int a, .int 0, .int 19]) (rest := []) dX7_trace_5 k_1096 cm_X7_in (sM_in hF m a 0 19) (hF.1 _ _ rfl) rfl rfl (Nat.le_of_ble_eq_true rfl) (Nat.le_of_ble_eq_true rfl) fun r1 => ?_
  refine o_if_eq (pc := 8) (tgt := 28) dX7_trace_8 rfl (fun h2 => ?_) (fun h2 => ?_)
  · refine o_iconst (pc := 28) dX7_trace_28 lc_m1 <| ?_
    exact o_iret (pc := 29) dX7_trace_29 rfl rfl
  · refine o_iload_n (pc := 11) 1 dX7_trace_11 rfl rfl <| o_aload_n (pc := 12) 0 dX7_trace_12 rfl rfl <| o_getI (pc := 13) (ci := 7) (j := 63) (nn := 0) dX7_trace_13 (hF.1 _ _ rfl) rfl (Nat.le_of_ble_eq_true rfl) k_946 rfl <| ?_
    refine o_icmp_ge (pc := 16) (tgt := 28) dX7_trace_16 rfl (fun h3 => ?_) (fun h3 => ?_)
    · refine o_iconst (pc := 28) dX7_trace_28 lc_m1 <| ?_
      exact o_iret (pc := 29) dX7_trace_29 rfl rfl
    · refine o_aload_n (pc := 19) 0 dX7_trace_19 rfl rfl <| o_getRc (pc := 20) (a := 94) (ci := 7) (j := 64) (nn := 0) dX7_trace_20 (hF.1 _ _ rfl) rfl (Nat.le_of_ble_eq_true rfl) k_947 rfl (hF.2 _ _ _ rfl) <| o_iload_n (pc := 23) 1 dX7_trace_23 rfl rfl <| ?_
      refine S_ck fun h4 => ?_
      refine o_iald (pc := 24) (nn := 20) dX7_trace_24 (hF.1 _ _ rfl) (ck_in h4) <| o_goto (pc := 25) (tgt := 29) dX7_trace_25 rfl <| ?_
      exact o_iret (pc := 29) dX7_trace_29 rfl rfl
def fM_taken (m : MI) (a : Int32) (b : Int32) : Option (Int32 × MI) :=
  (fM_in m b 0 6).bind fun r1 =>
  if r1.1 = 0 then
    some (-2, r1.2)
  else
    (fM_isDrawer r1.2 a).bind fun r3 =>
    if r3.1 = 0 then
      some (-11, r3.2)
    else
      if ck a 6 = true then
        lt (r3.2.1 62 a.toNatClampNeg) fun x6 =>
        if b = 0 then
          some (x6, r3.2)
        else
          if x6 = b then
            some (x6, r3.2)
          else
            if b = 1 then
              if x6 = 4 then
                some (x6, r3.2)
              else
                if b = 2 then
                  if x6 = 5 then
                    some (x6, r3.2)
                  else
                    if b = 3 then
                      if x6 = 6 then
                        some (x6, r3.2)
                      else
                        some (-12, r3.2)
                    else
                      some (-12, r3.2)
                else
                  if b = 3 then
                    if x6 = 6 then
                      some (x6, r3.2)
                    else
                      some (-12, r3.2)
                  else
                    some (-12, r3.2)
            else
              if b = 2 then
                if x6 = 5 then
                  some (x6, r3.2)
                else
                  if b = 3 then
                    if x6 = 6 then
                      some (x6, r3.2)
                    else
                      some (-12, r3.2)
                  else
                    some (-12, r3.2)
              else
                if b = 3 then
                  if x6 = 6 then
                    some (x6, r3.2)
                  else
                    some (-12, r3.2)
                else
                  some (-12, r3.2)
      else none
theorem sM_taken {sh : Sh} {R : RR} (hF : Fx sh R) (m : MI) (a : Int32) (b : Int32) : KS (eI sh R) false 2 0 0 YX7_taken sh R m [.ref 61, .int a, .int b] (fM_taken m a b) := by
  refine KS_of pn_X7 (fun _ => Nat.le_of_ble_eq_true rfl) ?_
  change S _ _ _ _ _ _ _ _ _ _ [(0, .ref 61), (1, .int a), (2, .int b)] [] _
  unfold fM_taken
  refine o_aload_n (pc := 0) 0 dX7_taken_0 rfl rfl <| o_iload_n (pc := 1) 2 dX7_taken_1 rfl rfl <| o_iconst (pc := 2) dX7_taken_2 lc_0 <| o_bipush (pc := 3) dX7_taken_3 lb_6 <| ?_
  refine o_callVI (Y2 := YX7_in) (pc := 5) (av := [.int b, .int 0, .int 6]) (rest := []) dX7_taken_5 k_1096 cm_X7_in (sM_in hF m b 0 6) (hF.1 _ _ rfl) rfl rfl (Nat.le_of_ble_eq_true rfl) (Nat.le_of_ble_eq_true rfl) fun r1 => ?_
  refine o_if_ne (pc := 8) (tgt := 14) dX7_taken_8 rfl (fun h2 => ?_) (fun h2 => ?_)
  · refine o_bipush (pc := 11) dX7_taken_11 lb_m2 <| ?_
    exact o_iret (pc := 13) dX7_taken_13 rfl rfl
  · refine o_aload_n (pc := 14) 0 dX7_taken_14 rfl rfl <| o_iload_n (pc := 15) 1 dX7_taken_15 rfl rfl <| ?_
    refine o_callVI (Y2 := YX7_isDrawer) (pc := 16) (av := [.int a]) (rest := []) dX7_taken_16 k_1104 cm_X7_isDrawer (sM_isDrawer hF r1.2 a) (hF.1 _ _ rfl) rfl rfl (Nat.le_of_ble_eq_true rfl) (Nat.le_of_ble_eq_true rfl) fun r3 => ?_
    refine o_if_ne (pc := 19) (tgt := 25) dX7_taken_19 rfl (fun h4 => ?_) (fun h4 => ?_)
    · refine o_bipush (pc := 22) dX7_taken_22 lb_m11 <| ?_
      exact o_iret (pc := 24) dX7_taken_24 rfl rfl
    · refine o_aload_n (pc := 25) 0 dX7_taken_25 rfl rfl <| o_getRc (pc := 26) (a := 62) (ci := 7) (j := 5) (nn := 0) dX7_taken_26 (hF.1 _ _ rfl) rfl (Nat.le_of_ble_eq_true rfl) k_888 rfl (hF.2 _ _ _ rfl) <| o_iload_n (pc := 29) 1 dX7_taken_29 rfl rfl <| ?_
      refine S_ck fun h5 => ?_
      refine o_iald (pc := 30) (nn := 6) dX7_taken_30 (hF.1 _ _ rfl) (ck_in h5) <| ?_
      refine o_lt fun x6 => ?_
      refine o_istore_n (pc := 31) (ls' := [(3, .int x6), (0, .ref 61), (1, .int a), (2, .int b)]) dX7_taken_31 rfl (Nat.le_of_ble_eq_true rfl) rfl <| o_iload_n (pc := 32) 3 dX7_taken_32 rfl rfl <| ?_
      refine o_if_eq (pc := 33) (tgt := 72) dX7_taken_33 rfl (fun h7 => ?_) (fun h7 => ?_)
      · refine o_iload_n (pc := 72) 0 dX7_taken_72 rfl rfl <| o_goto (pc := 73) (tgt := 78) dX7_taken_73 rfl <| ?_
        exact o_iret (pc := 78) dX7_taken_78 rfl rfl
      · refine o_iload_n (pc := 36) 0 dX7_taken_36 rfl rfl <| o_iload_n (pc := 37) 3 dX7_taken_37 rfl rfl <| ?_
        refine o_icmp_eq (pc := 38) (tgt := 72) dX7_taken_38 rfl (fun h8 => ?_) (fun h8 => ?_)
        · refine o_iload_n (pc := 72) 0 dX7_taken_72 rfl rfl <| o_goto (pc := 73) (tgt := 78) dX7_taken_73 rfl <| ?_
          exact o_iret (pc := 78) dX7_taken_78 rfl rfl
        · refine o_iload_n (pc := 41) 3 dX7_taken_41 rfl rfl <| o_iconst (pc := 42) dX7_taken_42 lc_1 <| ?_
          refine o_icmp_ne (pc := 43) (tgt := 51) dX7_taken_43 rfl (fun h9 => ?_) (fun h9 => ?_)
          · refine o_iload_n (pc := 46) 0 dX7_taken_46 rfl rfl <| o_iconst (pc := 47) dX7_taken_47 lc_4 <| ?_
            refine o_icmp_eq (pc := 48) (tgt := 72) dX7_taken_48 rfl (fun h10 => ?_) (fun h10 => ?_)
            · refine o_iload_n (pc := 72) 0 dX7_taken_72 rfl rfl <| o_goto (pc := 73) (tgt := 78) dX7_taken_73 rfl <| ?_
              exact o_iret (pc := 78) dX7_taken_78 rfl rfl
            · refine o_iload_n (pc := 51) 3 dX7_taken_51 rfl rfl <| o_iconst (pc := 52) dX7_taken_52 lc_2 <| ?_
              refine o_icmp_ne (pc := 53) (tgt := 61) dX7_taken_53 rfl (fun h11 => ?_) (fun h11 => ?_)
              · refine o_iload_n (pc := 56) 0 dX7_taken_56 rfl rfl <| o_iconst (pc := 57) dX7_taken_57 lc_5 <| ?_
                refine o_icmp_eq (pc := 58) (tgt := 72) dX7_taken_58 rfl (fun h12 => ?_) (fun h12 => ?_)
                · refine o_iload_n (pc := 72) 0 dX7_taken_72 rfl rfl <| o_goto (pc := 73) (tgt := 78) dX7_taken_73 rfl <| ?_
                  exact o_iret (pc := 78) dX7_taken_78 rfl rfl
                · refine o_iload_n (pc := 61) 3 dX7_taken_61 rfl rfl <| o_iconst (pc := 62) dX7_taken_62 lc_3 <| ?_
                  refine o_icmp_ne (pc := 63) (tgt := 76) dX7_taken_63 rfl (fun h13 => ?_) (fun h13 => ?_)
                  · refine o_iload_n (pc := 66) 0 dX7_taken_66 rfl rfl <| o_bipush (pc := 67) dX7_taken_67 lb_6 <| ?_
                    refine o_icmp_ne (pc := 69) (tgt := 76) dX7_taken_69 rfl (fun h14 => ?_) (fun h14 => ?_)
                    · refine o_iload_n (pc := 72) 0 dX7_taken_72 rfl rfl <| o_goto (pc := 73) (tgt := 78) dX7_taken_73 rfl <| ?_
                      exact o_iret (pc := 78) dX7_taken_78 rfl rfl
                    · refine o_bipush (pc := 76) dX7_taken_76 lb_m12 <| ?_
                      exact o_iret (pc := 78) dX7_taken_78 rfl rfl
                  · refine o_bipush (pc := 76) dX7_taken_76 lb_m12 <| ?_
                    exact o_iret (pc := 78) dX7_taken_78 rfl rfl
              · refine o_iload_n (pc := 61) 3 dX7_taken_61 rfl rfl <| o_iconst (pc := 62) dX7_taken_62 lc_3 <| ?_
                refine o_icmp_ne (pc := 63) (tgt := 76) dX7_taken_63 rfl (fun h15 => ?_) (fun h15 => ?_)
                · refine o_iload_n (pc := 66) 0 dX7_taken_66 rfl rfl <| o_bipush (pc := 67) dX7_taken_67 lb_6 <| ?_
                  refine o_icmp_ne (pc := 69) (tgt := 76) dX7_taken_69 rfl (fun h16 => ?_) (fun h16 => ?_)
                  · refine o_iload_n (pc := 72) 0 dX7_taken_72 rfl rfl <| o_goto (pc := 73) (tgt := 78) dX7_taken_73 rfl <| ?_
                    exact o_iret (pc := 78) dX7_taken_78 rfl rfl
                  · refine o_bipush (pc := 76) dX7_taken_76 lb_m12 <| ?_
                    exact o_iret (pc := 78) dX7_taken_78 rfl rfl
                · refine o_bipush (pc := 76) dX7_taken_76 lb_m12 <| ?_
                  exact o_iret (pc := 78) dX7_taken_78 rfl rfl
          · refine o_iload_n (pc := 51) 3 dX7_taken_51 rfl rfl <| o_iconst (pc := 52) dX7_taken_52 lc_2 <| ?_
            refine o_icmp_ne (pc := 53) (tgt := 61) dX7_taken_53 rfl (fun h17 => ?_) (fun h17 => ?_)
            · refine o_iload_n (pc := 56) 0 dX7_taken_56 rfl rfl <| o_iconst (pc := 57) dX7_taken_57 lc_5 <| ?_
              refine o_icmp_eq (pc := 58) (tgt := 72) dX7_taken_58 rfl (fun h18 => ?_) (fun h18 => ?_)
              · refine o_iload_n (pc := 72) 0 dX7_taken_72 rfl rfl <| o_goto (pc := 73) (tgt := 78) dX7_taken_73 rfl <| ?_
                exact o_iret (pc := 78) dX7_taken_78 rfl rfl
              · refine o_iload_n (pc := 61) 3 dX7_taken_61 rfl rfl <| o_iconst (pc := 62) dX7_taken_62 lc_3 <| ?_
                refine o_icmp_ne (pc := 63) (tgt := 76) dX7_taken_63 rfl (fun h19 => ?_) (fun h19 => ?_)
                · refine o_iload_n (pc := 66) 0 dX7_taken_66 rfl rfl <| o_bipush (pc := 67) dX7_taken_67 lb_6 <| ?_
                  refine o_icmp_ne (pc := 69) (tgt := 76) dX7_taken_69 rfl (fun h20 => ?_) (fun h20 => ?_)
                  · refine o_iload_n (pc := 72) 0 dX7_taken_72 rfl rfl <| o_goto (pc := 73) (tgt := 78) dX7_taken_73 rfl <| ?_
                    exact o_iret (pc := 78) dX7_taken_78 rfl rfl
                  · refine o_bipush (pc := 76) dX7_taken_76 lb_m12 <| ?_
                    exact o_iret (pc := 78) dX7_taken_78 rfl rfl
                · refine o_bipush (pc := 76) dX7_taken_76 lb_m12 <| ?_
                  exact o_iret (pc := 78) dX7_taken_78 rfl rfl
            · refine o_iload_n (pc := 61) 3 dX7_taken_61 rfl rfl <| o_iconst (pc := 62) dX7_taken_62 lc_3 <| ?_
              refine o_icmp_ne (pc := 63) (tgt := 76) dX7_taken_63 rfl (fun h21 => ?_) (fun h21 => ?_)
              · refine o_iload_n (pc := 66) 0 dX7_taken_66 rfl rfl <| o_bipush (pc := 67) dX7_taken_67 lb_6 <| ?_
                refine o_icmp_ne (pc := 69) (tgt := 76) dX7_taken_69 rfl (fun h22 => ?_) (fun h22 => ?_)
                · refine o_iload_n (pc := 72) 0 dX7_taken_72 rfl rfl <| o_goto (pc := 73) (tgt := 78) dX7_taken_73 rfl <| ?_
                  exact o_iret (pc := 78) dX7_taken_78 rfl rfl
                · refine o_bipush (pc := 76) dX7_taken_76 lb_m12 <| ?_
                  exact o_iret (pc := 78) dX7_taken_78 rfl rfl
              · refine o_bipush (pc := 76) dX7_taken_76 lb_m12 <| ?_
                exact o_iret (pc := 78) dX7_taken_78 rfl rfl
def fM_count (m : MI) (a : Int32) : Option (Int32 × MI) :=
  if a = 0 then
    some (m.1 61 0, m)
  else
    if a = 1 then
      some (m.1 61 10, m)
    else
      if a = 2 then
        some (m.1 61 41, m)
      else
        if a = 3 then
          some (m.1 61 44, m)
        else
          if a = 4 then
            some (m.1 61 12, m)
          else
            if a = 5 then
              some (m.1 61 63, m)
            else
              some (-2, m)
theorem sM_count {sh : Sh} {R : RR} (hF : Fx sh R) (m : MI) (a : Int32) : KS (eI sh R) false 0 0 0 YX7_count sh R m [.ref 61, .int a] (fM_count m a) := by
  refine KS_of pn_X7 (fun _ => Nat.le_of_ble_eq_true rfl) ?_
  change S _ _ _ _ _ _ _ _ _ _ [(0, .ref 61), (1, .int a)] [] _
  unfold fM_count
  refine o_iload_n (pc := 0) 1 dX7_count_0 rfl rfl <| ?_
  refine S_ite (fun h1 => ?_) (fun h1 => ?_)
  · refine o_ts_in (pc := 1) (tgt := 40) 0 h1 dX7_count_1 (by decide) (by decide) rfl rfl ?_
    refine o_aload_n (pc := 40) 0 dX7_count_40 rfl rfl <| o_getI (pc := 41) (ci := 7) (j := 0) (nn := 0) dX7_count_41 (hF.1 _ _ rfl) rfl (Nat.le_of_ble_eq_true rfl) k_883 rfl <| ?_
    exact o_iret (pc := 44) dX7_count_44 rfl rfl
  refine S_ite (fun h2 => ?_) (fun h2 => ?_)
  · refine o_ts_in (pc := 1) (tgt := 45) 1 h2 dX7_count_1 (by decide) (by decide) rfl rfl ?_
    refine o_aload_n (pc := 45) 0 dX7_count_45 rfl rfl <| o_getI (pc := 46) (ci := 7) (j := 10) (nn := 0) dX7_count_46 (hF.1 _ _ rfl) rfl (Nat.le_of_ble_eq_true rfl) k_893 rfl <| ?_
    exact o_iret (pc := 49) dX7_count_49 rfl rfl
  refine S_ite (fun h3 => ?_) (fun h3 => ?_)
  · refine o_ts_in (pc := 1) (tgt := 50) 2 h3 dX7_count_1 (by decide) (by decide) rfl rfl ?_
    refine o_aload_n (pc := 50) 0 dX7_count_50 rfl rfl <| o_getI (pc := 51) (ci := 7) (j := 41) (nn := 0) dX7_count_51 (hF.1 _ _ rfl) rfl (Nat.le_of_ble_eq_true rfl) k_924 rfl <| ?_
    exact o_iret (pc := 54) dX7_count_54 rfl rfl
  refine S_ite (fun h4 => ?_) (fun h4 => ?_)
  · refine o_ts_in (pc := 1) (tgt := 55) 3 h4 dX7_count_1 (by decide) (by decide) rfl rfl ?_
    refine o_aload_n (pc := 55) 0 dX7_count_55 rfl rfl <| o_getI (pc := 56) (ci := 7) (j := 44) (nn := 0) dX7_count_56 (hF.1 _ _ rfl) rfl (Nat.le_of_ble_eq_true rfl) k_927 rfl <| ?_
    exact o_iret (pc := 59) dX7_count_59 rfl rfl
  refine S_ite (fun h5 => ?_) (fun h5 => ?_)
  · refine o_ts_in (pc := 1) (tgt := 60) 4 h5 dX7_count_1 (by decide) (by decide) rfl rfl ?_
    refine o_aload_n (pc := 60) 0 dX7_count_60 rfl rfl <| o_getI (pc := 61) (ci := 7) (j := 12) (nn := 0) dX7_count_61 (hF.1 _ _ rfl) rfl (Nat.le_of_ble_eq_true rfl) k_895 rfl <| ?_
    exact o_iret (pc := 64) dX7_count_64 rfl rfl
  refine S_ite (fun h6 => ?_) (fun h6 => ?_)
  · refine o_ts_in (pc := 1) (tgt := 65) 5 h6 dX7_count_1 (by decide) (by decide) rfl rfl ?_
    refine o_aload_n (pc := 65) 0 dX7_count_65 rfl rfl <| o_getI (pc := 66) (ci := 7) (j := 63) (nn := 0) dX7_count_66 (hF.1 _ _ rfl) rfl (Nat.le_of_ble_eq_true rfl) k_946 rfl <| ?_
    exact o_iret (pc := 69) dX7_count_69 rfl rfl
  refine o_ts_out (pc := 1) (tgt := 70) (ts_out (lo := 0) (hi := 5) [0, 1, 2, 3, 4, 5] (by decide) (by decide) (fun c hc => by
      simp only [List.mem_cons, List.not_mem_nil, or_false] at hc
      rcases hc with rfl | rfl | rfl | rfl | rfl | rfl
      · exact h1
      · exact h2
      · exact h3
      · exact h4
      · exact h5
      · exact h6)) dX7_count_1 rfl ?_
  refine o_bipush (pc := 70) dX7_count_70 lb_m2 <| ?_
  exact o_iret (pc := 72) dX7_count_72 rfl rfl
def fM_tape_l69 (u1 : Int32) (u2 : Int32) (u3 : Int32) (k0_0 : MI → Int32 → Option (Int32 × MI)) : Nat → MI → Int32 → Option (Int32 × MI)
  | 0, _, _ => none
  | n0 + 1, m, v4 =>
    if 60 ≤ v4 then
      k0_0 m v4
    else
      if ck (((60 : Int32) * u1) + v4) 360 = true then
        lm (mJ m 97 (vp_updL (m.2 97) (((60 : Int32) * u1) + v4).toNatClampNeg 0)) fun m3 =>
        lt (v4 + 1) fun x4 =>
        fM_tape_l69 u1 u2 u3 k0_0 n0 m3 x4
      else none
theorem sM_tape_l69 {sh : Sh} {R : RR} (hF : Fx sh R) (u1 : Int32) (u2 : Int32) (u3 : Int32) (k0_0 : MI → Int32 → Option (Int32 × MI)) (hk0_0 : ∀ (m : MI) (v4 : Int32) , S (eI sh R) false 2 0 0 YX7_tape sh R m 95 [(0, .ref 61), (1, .int u1), (2, .int u2), (3, .int u3), (4, .int v4)] [] (k0_0 m v4)) : ∀ (n : Nat) (m : MI) (v4 : Int32) , S (eI sh R) false 2 0 0 YX7_tape sh R m 69 [(0, .ref 61), (1, .int u1), (2, .int u2), (3, .int u3), (4, .int v4)] [] (fM_tape_l69 u1 u2 u3 k0_0 n m v4) := by
  intro n
  induction n with
  | zero => intros; exact S_none
  | succ n0 ih0 =>
    intro m v4
    rw [fM_tape_l69]
    refine o_iload (pc := 69) 4 dX7_tape_69 rfl <| o_bipush (pc := 71) dX7_tape_71 lb_60 <| ?_
    refine o_icmp_ge (pc := 73) (tgt := 95) dX7_tape_73 rfl (fun h1 => ?_) (fun h1 => ?_)
    · exact hk0_0 m v4
    · refine o_aload_n (pc := 76) 0 dX7_tape_76 rfl rfl <| o_getRc (pc := 77) (a := 97) (ci := 7) (j := 67) (nn := 0) dX7_tape_77 (hF.1 _ _ rfl) rfl (Nat.le_of_ble_eq_true rfl) k_950 rfl (hF.2 _ _ _ rfl) <| o_bipush (pc := 80) dX7_tape_80 lb_60 <| o_iload_n (pc := 82) 1 dX7_tape_82 rfl rfl <| o_imul (pc := 83) dX7_tape_83 <| o_iload (pc := 84) 4 dX7_tape_84 rfl <| o_iadd (pc := 86) dX7_tape_86 <| o_lconst (pc := 87) (x := 0) dX7_tape_87 rfl <| ?_
      refine S_ck fun h2 => ?_
      refine o_last (pc := 88) (nn := 360) dX7_tape_88 (hF.1 _ _ rfl) (ck_in h2) <| ?_
      refine o_lm fun m3 => ?_
      refine o_iinc (pc := 89) 4 (v := v4 + 1) (ls' := [(4, .int (v4 + 1)), (0, .ref 61), (1, .int u1), (2, .int u2), (3, .int u3)]) dX7_tape_89 rfl rfl (Nat.le_of_ble_eq_true rfl) rfl <| ?_
      refine o_ltL (ls := fun x4 => [(4, .int x4), (0, .ref 61), (1, .int u1), (2, .int u2), (3, .int u3)]) fun x4 => ?_
      refine o_goto (pc := 92) (tgt := 69) dX7_tape_92 rfl <| ?_
      refine o_sub [1, 2, 3, 4, 0] (ls' := [(0, .ref 61), (1, .int u1), (2, .int u2), (3, .int u3), (4, .int x4)]) rfl ?_
      exact ih0 m3 x4
def fM_tape (m : MI) (a : Int32) (b : Int32) (c : Int32) : Option (Int32 × MI) :=
  (fM_isTape m a).bind fun r1 =>
  if r1.1 = 0 then
    some (-1, r1.2)
  else
    (fM_in r1.2 b (-1) 4).bind fun r3 =>
    if r3.1 = 0 then
      some (-2, r3.2)
    else
      if b < 0 then
        if b < 0 then
          if ck a 6 = true then
            lm (mI r3.2 95 (upd (r3.2.1 95) a.toNatClampNeg b)) fun m8 =>
            if 0 ≤ b then
              if ck a 6 = true then
                lm (mI m8 96 (upd (m8.1 96) a.toNatClampNeg c)) fun m11 =>
                fM_tape_l69 a b c
                  (fun m13 z12 =>
                    some (1, m13)
                    )
                  1000 m11 0
              else none
            else
              if ck a 6 = true then
                lm (mI m8 96 (upd (m8.1 96) a.toNatClampNeg 0)) fun m15 =>
                fM_tape_l69 a b c
                  (fun m17 z16 =>
                    some (1, m17)
                    )
                  1000 m15 0
              else none
          else none
        else
          if 0 ≤ c then
            if ck a 6 = true then
              lm (mI r3.2 95 (upd (r3.2.1 95) a.toNatClampNeg b)) fun m20 =>
              if 0 ≤ b then
                if ck a 6 = true then
                  lm (mI m20 96 (upd (m20.1 96) a.toNatClampNeg c)) fun m23 =>
                  fM_tape_l69 a b c
                    (fun m25 z24 =>
                      some (1, m25)
                      )
                    1000 m23 0
                else none
              else
                if ck a 6 = true then
                  lm (mI m20 96 (upd (m20.1 96) a.toNatClampNeg 0)) fun m27 =>
                  fM_tape_l69 a b c
                    (fun m29 z28 =>
                      some (1, m29)
                      )
                    1000 m27 0
                else none
            else none
          else
            some (-14, r3.2)
      else
        if c ≤ 60 then
          if b < 0 then
            if ck a 6 = true then
              lm (mI r3.2 95 (upd (r3.2.1 95) a.toNatClampNeg b)) fun m33 =>
              if 0 ≤ b then
                if ck a 6 = true then
                  lm (mI m33 96 (upd (m33.1 96) a.toNatClampNeg c)) fun m36 =>
                  fM_tape_l69 a b c
                    (fun m38 z37 =>
                      some (1, m38)
                      )
                    1000 m36 0
                else none
              else
                if ck a 6 = true then
                  lm (mI m33 96 (upd (m33.1 96) a.toNatClampNeg 0)) fun m40 =>
                  fM_tape_l69 a b c
                    (fun m42 z41 =>
                      some (1, m42)
                      )
                    1000 m40 0
                else none
            else none
          else
            if 0 ≤ c then
              if ck a 6 = true then
                lm (mI r3.2 95 (upd (r3.2.1 95) a.toNatClampNeg b)) fun m45 =>
                if 0 ≤ b then
                  if ck a 6 = true then
                    lm (mI m45 96 (upd (m45.1 96) a.toNatClampNeg c)) fun m48 =>
                    fM_tape_l69 a b c
                      (fun m50 z49 =>
                        some (1, m50)
                        )
                      1000 m48 0
                  else none
                else
                  if ck a 6 = true then
                    lm (mI m45 96 (upd (m45.1 96) a.toNatClampNeg 0)) fun m52 =>
                    fM_tape_l69 a b c
                      (fun m54 z53 =>
                        some (1, m54)
                        )
                      1000 m52 0
                  else none
              else none
            else
              some (-14, r3.2)
        else
          some (-2, r3.2)
theorem sM_tape {sh : Sh} {R : RR} (hF : Fx sh R) (m : MI) (a : Int32) (b : Int32) (c : Int32) : KS (eI sh R) false 2 0 0 YX7_tape sh R m [.ref 61, .int a, .int b, .int c] (fM_tape m a b c) := by
  refine KS_of pn_X7 (fun _ => Nat.le_of_ble_eq_true rfl) ?_
  change S _ _ _ _ _ _ _ _ _ _ [(0, .ref 61), (1, .int a), (2, .int b), (3, .int c)] [] _
  unfold fM_tape
  refine o_aload_n (pc := 0) 0 dX7_tape_0 rfl rfl <| o_iload_n (pc := 1) 1 dX7_tape_1 rfl rfl <| ?_
  refine o_callVI (Y2 := YX7_isTape) (pc := 2) (av := [.int a]) (rest := []) dX7_tape_2 k_1368 cm_X7_isTape (sM_isTape hF m a) (hF.1 _ _ rfl) rfl rfl (Nat.le_of_ble_eq_true rfl) (Nat.le_of_ble_eq_true rfl) fun r1 => ?_
  refine o_if_ne (pc := 5) (tgt := 10) dX7_tape_5 rfl (fun h2 => ?_) (fun h2 => ?_)
  · refine o_iconst (pc := 8) dX7_tape_8 lc_m1 <| ?_
    exact o_iret (pc := 9) dX7_tape_9 rfl rfl
  · refine o_aload_n (pc := 10) 0 dX7_tape_10 rfl rfl <| o_iload_n (pc := 11) 2 dX7_tape_11 rfl rfl <| o_iconst (pc := 12) dX7_tape_12 lc_m1 <| o_iconst (pc := 13) dX7_tape_13 lc_4 <| ?_
    refine o_callVI (Y2 := YX7_in) (pc := 14) (av := [.int b, .int (-1), .int 4]) (rest := []) dX7_tape_14 k_1096 cm_X7_in (sM_in hF r1.2 b (-1) 4) (hF.1 _ _ rfl) rfl rfl (Nat.le_of_ble_eq_true rfl) (Nat.le_of_ble_eq_true rfl) fun r3 => ?_
    refine o_if_eq (pc := 17) (tgt := 30) dX7_tape_17 rfl (fun h4 => ?_) (fun h4 => ?_)
    · refine o_bipush (pc := 30) dX7_tape_30 lb_m2 <| ?_
      exact o_iret (pc := 32) dX7_tape_32 rfl rfl
    · refine o_iload_n (pc := 20) 2 dX7_tape_20 rfl rfl <| ?_
      refine o_if_lt (pc := 21) (tgt := 33) dX7_tape_21 rfl (fun h5 => ?_) (fun h5 => ?_)
      · refine o_iload_n (pc := 33) 2 dX7_tape_33 rfl rfl <| ?_
        refine o_if_lt (pc := 34) (tgt := 44) dX7_tape_34 rfl (fun h6 => ?_) (fun h6 => ?_)
        · refine o_aload_n (pc := 44) 0 dX7_tape_44 rfl rfl <| o_getRc (pc := 45) (a := 95) (ci := 7) (j := 65) (nn := 0) dX7_tape_45 (hF.1 _ _ rfl) rfl (Nat.le_of_ble_eq_true rfl) k_948 rfl (hF.2 _ _ _ rfl) <| o_iload_n (pc := 48) 1 dX7_tape_48 rfl rfl <| o_iload_n (pc := 49) 2 dX7_tape_49 rfl rfl <| ?_
          refine S_ck fun h7 => ?_
          refine o_iast (pc := 50) (nn := 6) dX7_tape_50 (hF.1 _ _ rfl) (ck_in h7) <| ?_
          refine o_lm fun m8 => ?_
          refine o_aload_n (pc := 51) 0 dX7_tape_51 rfl rfl <| o_getRc (pc := 52) (a := 96) (ci := 7) (j := 66) (nn := 0) dX7_tape_52 (hF.1 _ _ rfl) rfl (Nat.le_of_ble_eq_true rfl) k_949 rfl (hF.2 _ _ _ rfl) <| o_iload_n (pc := 55) 1 dX7_tape_55 rfl rfl <| o_iload_n (pc := 56) 2 dX7_tape_56 rfl rfl <| ?_
          refine o_if_ge (pc := 57) (tgt := 64) dX7_tape_57 rfl (fun h9 => ?_) (fun h9 => ?_)
          · refine o_iload_n (pc := 64) 3 dX7_tape_64 rfl rfl <| ?_
            refine S_ck fun h10 => ?_
            refine o_iast (pc := 65) (nn := 6) dX7_tape_65 (hF.1 _ _ rfl) (ck_in h10) <| ?_
            refine o_lm fun m11 => ?_
            refine o_iconst (pc := 66) dX7_tape_66 lc_0 <| o_istore (pc := 67) (ls' := [(4, .int 0), (0, .ref 61), (1, .int a), (2, .int b), (3, .int c)]) dX7_tape_67 (Nat.le_of_ble_eq_true rfl) rfl <| ?_
            refine o_sub [1, 2, 3, 4, 0] (ls' := [(0, .ref 61), (1, .int a), (2, .int b), (3, .int c), (4, .int 0)]) rfl ?_
            refine sM_tape_l69 hF a b c _ ?_ 1000 m11 0
            · intro m13 z12
              refine o_iconst (pc := 95) dX7_tape_95 lc_1 <| ?_
              exact o_iret (pc := 96) dX7_tape_96 rfl rfl
          · refine o_iconst (pc := 60) dX7_tape_60 lc_0 <| o_goto (pc := 61) (tgt := 65) dX7_tape_61 rfl <| ?_
            refine S_ck fun h14 => ?_
            refine o_iast (pc := 65) (nn := 6) dX7_tape_65 (hF.1 _ _ rfl) (ck_in h14) <| ?_
            refine o_lm fun m15 => ?_
            refine o_iconst (pc := 66) dX7_tape_66 lc_0 <| o_istore (pc := 67) (ls' := [(4, .int 0), (0, .ref 61), (1, .int a), (2, .int b), (3, .int c)]) dX7_tape_67 (Nat.le_of_ble_eq_true rfl) rfl <| ?_
            refine o_sub [1, 2, 3, 4, 0] (ls' := [(0, .ref 61), (1, .int a), (2, .int b), (3, .int c), (4, .int 0)]) rfl ?_
            refine sM_tape_l69 hF a b c _ ?_ 1000 m15 0
            · intro m17 z16
              refine o_iconst (pc := 95) dX7_tape_95 lc_1 <| ?_
              exact o_iret (pc := 96) dX7_tape_96 rfl rfl
        · refine o_iload_n (pc := 37) 3 dX7_tape_37 rfl rfl <| ?_
          refine o_if_ge (pc := 38) (tgt := 44) dX7_tape_38 rfl (fun h18 => ?_) (fun h18 => ?_)
          · refine o_aload_n (pc := 44) 0 dX7_tape_44 rfl rfl <| o_getRc (pc := 45) (a := 95) (ci := 7) (j := 65) (nn := 0) dX7_tape_45 (hF.1 _ _ rfl) rfl (Nat.le_of_ble_eq_true rfl) k_948 rfl (hF.2 _ _ _ rfl) <| o_iload_n (pc := 48) 1 dX7_tape_48 rfl rfl <| o_iload_n (pc := 49) 2 dX7_tape_49 rfl rfl <| ?_
            refine S_ck fun h19 => ?_
            refine o_iast (pc := 50) (nn := 6) dX7_tape_50 (hF.1 _ _ rfl) (ck_in h19) <| ?_
            refine o_lm fun m20 => ?_
            refine o_aload_n (pc := 51) 0 dX7_tape_51 rfl rfl <| o_getRc (pc := 52) (a := 96) (ci := 7) (j := 66) (nn := 0) dX7_tape_52 (hF.1 _ _ rfl) rfl (Nat.le_of_ble_eq_true rfl) k_949 rfl (hF.2 _ _ _ rfl) <| o_iload_n (pc := 55) 1 dX7_tape_55 rfl rfl <| o_iload_n (pc := 56) 2 dX7_tape_56 rfl rfl <| ?_
            refine o_if_ge (pc := 57) (tgt := 64) dX7_tape_57 rfl (fun h21 => ?_) (fun h21 => ?_)
            · refine o_iload_n (pc := 64) 3 dX7_tape_64 rfl rfl <| ?_
              refine S_ck fun h22 => ?_
              refine o_iast (pc := 65) (nn := 6) dX7_tape_65 (hF.1 _ _ rfl) (ck_in h22) <| ?_
              refine o_lm fun m23 => ?_
              refine o_iconst (pc := 66) dX7_tape_66 lc_0 <| o_istore (pc := 67) (ls' := [(4, .int 0), (0, .ref 61), (1, .int a), (2, .int b), (3, .int c)]) dX7_tape_67 (Nat.le_of_ble_eq_true rfl) rfl <| ?_
              refine o_sub [1, 2, 3, 4, 0] (ls' := [(0, .ref 61), (1, .int a), (2, .int b), (3, .int c), (4, .int 0)]) rfl ?_
              refine sM_tape_l69 hF a b c _ ?_ 1000 m23 0
              · intro m25 z24
                refine o_iconst (pc := 95) dX7_tape_95 lc_1 <| ?_
                exact o_iret (pc := 96) dX7_tape_96 rfl rfl
            · refine o_iconst (pc := 60) dX7_tape_60 lc_0 <| o_goto (pc := 61) (tgt := 65) dX7_tape_61 rfl <| ?_
              refine S_ck fun h26 => ?_
              refine o_iast (pc := 65) (nn := 6) dX7_tape_65 (hF.1 _ _ rfl) (ck_in h26) <| ?_
              refine o_lm fun m27 => ?_
              refine o_iconst (pc := 66) dX7_tape_66 lc_0 <| o_istore (pc := 67) (ls' := [(4, .int 0), (0, .ref 61), (1, .int a), (2, .int b), (3, .int c)]) dX7_tape_67 (Nat.le_of_ble_eq_true rfl) rfl <| ?_
              refine o_sub [1, 2, 3, 4, 0] (ls' := [(0, .ref 61), (1, .int a), (2, .int b), (3, .int c), (4, .int 0)]) rfl ?_
              refine sM_tape_l69 hF a b c _ ?_ 1000 m27 0
              · intro m29 z28
                refine o_iconst (pc := 95) dX7_tape_95 lc_1 <| ?_
                exact o_iret (pc := 96) dX7_tape_96 rfl rfl
          · refine o_bipush (pc := 41) dX7_tape_41 lb_m14 <| ?_
            exact o_iret (pc := 43) dX7_tape_43 rfl rfl
      · refine o_iload_n (pc := 24) 3 dX7_tape_24 rfl rfl <| o_bipush (pc := 25) dX7_tape_25 lb_60 <| ?_
        refine o_icmp_le (pc := 27) (tgt := 33) dX7_tape_27 rfl (fun h30 => ?_) (fun h30 => ?_)
        · refine o_iload_n (pc := 33) 2 dX7_tape_33 rfl rfl <| ?_
          refine o_if_lt (pc := 34) (tgt := 44) dX7_tape_34 rfl (fun h31 => ?_) (fun h31 => ?_)
          · refine o_aload_n (pc := 44) 0 dX7_tape_44 rfl rfl <| o_getRc (pc := 45) (a := 95) (ci := 7) (j := 65) (nn := 0) dX7_tape_45 (hF.1 _ _ rfl) rfl (Nat.le_of_ble_eq_true rfl) k_948 rfl (hF.2 _ _ _ rfl) <| o_iload_n (pc := 48) 1 dX7_tape_48 rfl rfl <| o_iload_n (pc := 49) 2 dX7_tape_49 rfl rfl <| ?_
            refine S_ck fun h32 => ?_
            refine o_iast (pc := 50) (nn := 6) dX7_tape_50 (hF.1 _ _ rfl) (ck_in h32) <| ?_
            refine o_lm fun m33 => ?_
            refine o_aload_n (pc := 51) 0 dX7_tape_51 rfl rfl <| o_getRc (pc := 52) (a := 96) (ci := 7) (j := 66) (nn := 0) dX7_tape_52 (hF.1 _ _ rfl) rfl (Nat.le_of_ble_eq_true rfl) k_949 rfl (hF.2 _ _ _ rfl) <| o_iload_n (pc := 55) 1 dX7_tape_55 rfl rfl <| o_iload_n (pc := 56) 2 dX7_tape_56 rfl rfl <| ?_
            refine o_if_ge (pc := 57) (tgt := 64) dX7_tape_57 rfl (fun h34 => ?_) (fun h34 => ?_)
            · refine o_iload_n (pc := 64) 3 dX7_tape_64 rfl rfl <| ?_
              refine S_ck fun h35 => ?_
              refine o_iast (pc := 65) (nn := 6) dX7_tape_65 (hF.1 _ _ rfl) (ck_in h35) <| ?_
              refine o_lm fun m36 => ?_
              refine o_iconst (pc := 66) dX7_tape_66 lc_0 <| o_istore (pc := 67) (ls' := [(4, .int 0), (0, .ref 61), (1, .int a), (2, .int b), (3, .int c)]) dX7_tape_67 (Nat.le_of_ble_eq_true rfl) rfl <| ?_
              refine o_sub [1, 2, 3, 4, 0] (ls' := [(0, .ref 61), (1, .int a), (2, .int b), (3, .int c), (4, .int 0)]) rfl ?_
              refine sM_tape_l69 hF a b c _ ?_ 1000 m36 0
              · intro m38 z37
                refine o_iconst (pc := 95) dX7_tape_95 lc_1 <| ?_
                exact o_iret (pc := 96) dX7_tape_96 rfl rfl
            · refine o_iconst (pc := 60) dX7_tape_60 lc_0 <| o_goto (pc := 61) (tgt := 65) dX7_tape_61 rfl <| ?_
              refine S_ck fun h39 => ?_
              refine o_iast (pc := 65) (nn := 6) dX7_tape_65 (hF.1 _ _ rfl) (ck_in h39) <| ?_
              refine o_lm fun m40 => ?_
              refine o_iconst (pc := 66) dX7_tape_66 lc_0 <| o_istore (pc := 67) (ls' := [(4, .int 0), (0, .ref 61), (1, .int a), (2, .int b), (3, .int c)]) dX7_tape_67 (Nat.le_of_ble_eq_true rfl) rfl <| ?_
              refine o_sub [1, 2, 3, 4, 0] (ls' := [(0, .ref 61), (1, .int a), (2, .int b), (3, .int c), (4, .int 0)]) rfl ?_
              refine sM_tape_l69 hF a b c _ ?_ 1000 m40 0
              · intro m42 z41
                refine o_iconst (pc := 95) dX7_tape_95 lc_1 <| ?_
                exact o_iret (pc := 96) dX7_tape_96 rfl rfl
          · refine o_iload_n (pc := 37) 3 dX7_tape_37 rfl rfl <| ?_
            refine o_if_ge (pc := 38) (tgt := 44) dX7_tape_38 rfl (fun h43 => ?_) (fun h43 => ?_)
            · refine o_aload_n (pc := 44) 0 dX7_tape_44 rfl rfl <| o_getRc (pc := 45) (a := 95) (ci := 7) (j := 65) (nn := 0) dX7_tape_45 (hF.1 _ _ rfl) rfl (Nat.le_of_ble_eq_true rfl) k_948 rfl (hF.2 _ _ _ rfl) <| o_iload_n (pc := 48) 1 dX7_tape_48 rfl rfl <| o_iload_n (pc := 49) 2 dX7_tape_49 rfl rfl <| ?_
              refine S_ck fun h44 => ?_
              refine o_iast (pc := 50) (nn := 6) dX7_tape_50 (hF.1 _ _ rfl) (ck_in h44) <| ?_
              refine o_lm fun m45 => ?_
              refine o_aload_n (pc := 51) 0 dX7_tape_51 rfl rfl <| o_getRc (pc := 52) (a := 96) (ci := 7) (j := 66) (nn := 0) dX7_tape_52 (hF.1 _ _ rfl) rfl (Nat.le_of_ble_eq_true rfl) k_949 rfl (hF.2 _ _ _ rfl) <| o_iload_n (pc := 55) 1 dX7_tape_55 rfl rfl <| o_iload_n (pc := 56) 2 dX7_tape_56 rfl rfl <| ?_
              refine o_if_ge (pc := 57) (tgt := 64) dX7_tape_57 rfl (fun h46 => ?_) (fun h46 => ?_)
              · refine o_iload_n (pc := 64) 3 dX7_tape_64 rfl rfl <| ?_
                refine S_ck fun h47 => ?_
                refine o_iast (pc := 65) (nn := 6) dX7_tape_65 (hF.1 _ _ rfl) (ck_in h47) <| ?_
                refine o_lm fun m48 => ?_
                refine o_iconst (pc := 66) dX7_tape_66 lc_0 <| o_istore (pc := 67) (ls' := [(4, .int 0), (0, .ref 61), (1, .int a), (2, .int b), (3, .int c)]) dX7_tape_67 (Nat.le_of_ble_eq_true rfl) rfl <| ?_
                refine o_sub [1, 2, 3, 4, 0] (ls' := [(0, .ref 61), (1, .int a), (2, .int b), (3, .int c), (4, .int 0)]) rfl ?_
                refine sM_tape_l69 hF a b c _ ?_ 1000 m48 0
                · intro m50 z49
                  refine o_iconst (pc := 95) dX7_tape_95 lc_1 <| ?_
                  exact o_iret (pc := 96) dX7_tape_96 rfl rfl
              · refine o_iconst (pc := 60) dX7_tape_60 lc_0 <| o_goto (pc := 61) (tgt := 65) dX7_tape_61 rfl <| ?_
                refine S_ck fun h51 => ?_
                refine o_iast (pc := 65) (nn := 6) dX7_tape_65 (hF.1 _ _ rfl) (ck_in h51) <| ?_
                refine o_lm fun m52 => ?_
                refine o_iconst (pc := 66) dX7_tape_66 lc_0 <| o_istore (pc := 67) (ls' := [(4, .int 0), (0, .ref 61), (1, .int a), (2, .int b), (3, .int c)]) dX7_tape_67 (Nat.le_of_ble_eq_true rfl) rfl <| ?_
                refine o_sub [1, 2, 3, 4, 0] (ls' := [(0, .ref 61), (1, .int a), (2, .int b), (3, .int c), (4, .int 0)]) rfl ?_
                refine sM_tape_l69 hF a b c _ ?_ 1000 m52 0
                · intro m54 z53
                  refine o_iconst (pc := 95) dX7_tape_95 lc_1 <| ?_
                  exact o_iret (pc := 96) dX7_tape_96 rfl rfl
            · refine o_bipush (pc := 41) dX7_tape_41 lb_m14 <| ?_
              exact o_iret (pc := 43) dX7_tape_43 rfl rfl
        · refine o_bipush (pc := 30) dX7_tape_30 lb_m2 <| ?_
          exact o_iret (pc := 32) dX7_tape_32 rfl rfl
def fM_narrow (m : MI) (a : Int32) (b : Int64) : Option (Int64 × MI) :=
  if a = 0 then
    some (((b.toInt32).toInt8.toInt32).toInt64, m)
  else
    if a = 1 then
      some (((b.toInt32).toInt16.toInt32).toInt64, m)
    else
      if a = 2 then
        some ((b.toInt32).toInt64, m)
      else
        if a = 4 then
          if lg_cmp b 0 = 0 then
            some (0, m)
          else
            some (1, m)
        else
          some (b, m)
theorem sM_narrow {sh : Sh} {R : RR} (hF : Fx sh R) (m : MI) (a : Int32) (b : Int64) : KS (eL sh R) false 0 0 0 YX7_narrow sh R m [.ref 61, .int a, .long b] (fM_narrow m a b) := by
  refine KS_of pn_X7 (fun _ => Nat.le_of_ble_eq_true rfl) ?_
  change S _ _ _ _ _ _ _ _ _ _ [(0, .ref 61), (1, .int a), (2, .long b)] [] _
  unfold fM_narrow
  refine o_iload_n (pc := 0) 1 dX7_narrow_0 rfl rfl <| ?_
  refine o_if_ne (pc := 1) (tgt := 11) dX7_narrow_1 rfl (fun h1 => ?_) (fun h1 => ?_)
  · refine o_lload_n (pc := 4) 2 dX7_narrow_4 rfl rfl <| o_l2i (pc := 5) dX7_narrow_5 <| o_i2b (pc := 6) dX7_narrow_6 <| o_i2l (pc := 7) dX7_narrow_7 <| o_goto (pc := 8) (tgt := 54) dX7_narrow_8 rfl <| ?_
    exact o_lret (pc := 54) dX7_narrow_54 rfl rfl
  · refine o_iload_n (pc := 11) 1 dX7_narrow_11 rfl rfl <| o_iconst (pc := 12) dX7_narrow_12 lc_1 <| ?_
    refine o_icmp_ne (pc := 13) (tgt := 23) dX7_narrow_13 rfl (fun h2 => ?_) (fun h2 => ?_)
    · refine o_lload_n (pc := 16) 2 dX7_narrow_16 rfl rfl <| o_l2i (pc := 17) dX7_narrow_17 <| o_i2s (pc := 18) dX7_narrow_18 <| o_i2l (pc := 19) dX7_narrow_19 <| o_goto (pc := 20) (tgt := 54) dX7_narrow_20 rfl <| ?_
      exact o_lret (pc := 54) dX7_narrow_54 rfl rfl
    · refine o_iload_n (pc := 23) 1 dX7_narrow_23 rfl rfl <| o_iconst (pc := 24) dX7_narrow_24 lc_2 <| ?_
      refine o_icmp_ne (pc := 25) (tgt := 34) dX7_narrow_25 rfl (fun h3 => ?_) (fun h3 => ?_)
      · refine o_lload_n (pc := 28) 2 dX7_narrow_28 rfl rfl <| o_l2i (pc := 29) dX7_narrow_29 <| o_i2l (pc := 30) dX7_narrow_30 <| o_goto (pc := 31) (tgt := 54) dX7_narrow_31 rfl <| ?_
        exact o_lret (pc := 54) dX7_narrow_54 rfl rfl
      · refine o_iload_n (pc := 34) 1 dX7_narrow_34 rfl rfl <| o_iconst (pc := 35) dX7_narrow_35 lc_4 <| ?_
        refine o_icmp_ne (pc := 36) (tgt := 53) dX7_narrow_36 rfl (fun h4 => ?_) (fun h4 => ?_)
        · refine o_lload_n (pc := 39) 2 dX7_narrow_39 rfl rfl <| o_lconst (pc := 40) (x := 0) dX7_narrow_40 rfl <| o_lcmp (pc := 41) dX7_narrow_41 <| ?_
          refine o_if_eq (pc := 42) (tgt := 49) dX7_narrow_42 rfl (fun h5 => ?_) (fun h5 => ?_)
          · refine o_lconst (pc := 49) (x := 0) dX7_narrow_49 rfl <| o_goto (pc := 50) (tgt := 54) dX7_narrow_50 rfl <| ?_
            exact o_lret (pc := 54) dX7_narrow_54 rfl rfl
          · refine o_lconst (pc := 45) (x := 1) dX7_narrow_45 rfl <| o_goto (pc := 46) (tgt := 54) dX7_narrow_46 rfl <| ?_
            exact o_lret (pc := 54) dX7_narrow_54 rfl rfl
        · refine o_lload_n (pc := 53) 2 dX7_narrow_53 rfl rfl <| ?_
          exact o_lret (pc := 54) dX7_narrow_54 rfl rfl
def fM_item (m : MI) (a : Int32) (b : Int32) (c : Int64) : Option (Int32 × MI) :=
  (fM_isTape m a).bind fun r1 =>
  if r1.1 = 0 then
    some (-1, r1.2)
  else
    if ck a 6 = true then
      if 0 ≤ r1.2.1 95 a.toNatClampNeg then
        if ck a 6 = true then
          (fM_in r1.2 b 0 ((r1.2.1 96 a.toNatClampNeg) - 1)).bind fun r6 =>
          if r6.1 = 0 then
            some (-13, r6.2)
          else
            if ck a 6 = true then
              (fM_narrow r6.2 (r6.2.1 95 a.toNatClampNeg) c).bind fun r9 =>
              if ck (((60 : Int32) * a) + b) 360 = true then
                lm (mJ r9.2 97 (vp_updL (r9.2.2 97) (((60 : Int32) * a) + b).toNatClampNeg r9.1)) fun m11 =>
                some (1, m11)
              else none
            else none
        else none
      else
        some (-11, r1.2)
    else none
theorem sM_item {sh : Sh} {R : RR} (hF : Fx sh R) (m : MI) (a : Int32) (b : Int32) (c : Int64) : KS (eI sh R) false 2 0 0 YX7_item sh R m [.ref 61, .int a, .int b, .long c] (fM_item m a b c) := by
  refine KS_of pn_X7 (fun _ => Nat.le_of_ble_eq_true rfl) ?_
  change S _ _ _ _ _ _ _ _ _ _ [(0, .ref 61), (1, .int a), (2, .int b), (3, .long c)] [] _
  unfold fM_item
  refine o_aload_n (pc := 0) 0 dX7_item_0 rfl rfl <| o_iload_n (pc := 1) 1 dX7_item_1 rfl rfl <| ?_
  refine o_callVI (Y2 := YX7_isTape) (pc := 2) (av := [.int a]) (rest := []) dX7_item_2 k_1368 cm_X7_isTape (sM_isTape hF m a) (hF.1 _ _ rfl) rfl rfl (Nat.le_of_ble_eq_true rfl) (Nat.le_of_ble_eq_true rfl) fun r1 => ?_
  refine o_if_ne (pc := 5) (tgt := 10) dX7_item_5 rfl (fun h2 => ?_) (fun h2 => ?_)
  · refine o_iconst (pc := 8) dX7_item_8 lc_m1 <| ?_
    exact o_iret (pc := 9) dX7_item_9 rfl rfl
  · refine o_aload_n (pc := 10) 0 dX7_item_10 rfl rfl <| o_getRc (pc := 11) (a := 95) (ci := 7) (j := 65) (nn := 0) dX7_item_11 (hF.1 _ _ rfl) rfl (Nat.le_of_ble_eq_true rfl) k_948 rfl (hF.2 _ _ _ rfl) <| o_iload_n (pc := 14) 1 dX7_item_14 rfl rfl <| ?_
    refine S_ck fun h3 => ?_
    refine o_iald (pc := 15) (nn := 6) dX7_item_15 (hF.1 _ _ rfl) (ck_in h3) <| ?_
    refine o_if_ge (pc := 16) (tgt := 22) dX7_item_16 rfl (fun h4 => ?_) (fun h4 => ?_)
    · refine o_aload_n (pc := 22) 0 dX7_item_22 rfl rfl <| o_iload_n (pc := 23) 2 dX7_item_23 rfl rfl <| o_iconst (pc := 24) dX7_item_24 lc_0 <| o_aload_n (pc := 25) 0 dX7_item_25 rfl rfl <| o_getRc (pc := 26) (a := 96) (ci := 7) (j := 66) (nn := 0) dX7_item_26 (hF.1 _ _ rfl) rfl (Nat.le_of_ble_eq_true rfl) k_949 rfl (hF.2 _ _ _ rfl) <| o_iload_n (pc := 29) 1 dX7_item_29 rfl rfl <| ?_
      refine S_ck fun h5 => ?_
      refine o_iald (pc := 30) (nn := 6) dX7_item_30 (hF.1 _ _ rfl) (ck_in h5) <| o_iconst (pc := 31) dX7_item_31 lc_1 <| o_isub (pc := 32) dX7_item_32 <| ?_
      refine o_callVI (Y2 := YX7_in) (pc := 33) (av := [.int b, .int 0, .int ((r1.2.1 96 a.toNatClampNeg) - 1)]) (rest := []) dX7_item_33 k_1096 cm_X7_in (sM_in hF r1.2 b 0 ((r1.2.1 96 a.toNatClampNeg) - 1)) (hF.1 _ _ rfl) rfl rfl (Nat.le_of_ble_eq_true rfl) (Nat.le_of_ble_eq_true rfl) fun r6 => ?_
      refine o_if_ne (pc := 36) (tgt := 42) dX7_item_36 rfl (fun h7 => ?_) (fun h7 => ?_)
      · refine o_bipush (pc := 39) dX7_item_39 lb_m13 <| ?_
        exact o_iret (pc := 41) dX7_item_41 rfl rfl
      · refine o_aload_n (pc := 42) 0 dX7_item_42 rfl rfl <| o_getRc (pc := 43) (a := 97) (ci := 7) (j := 67) (nn := 0) dX7_item_43 (hF.1 _ _ rfl) rfl (Nat.le_of_ble_eq_true rfl) k_950 rfl (hF.2 _ _ _ rfl) <| o_bipush (pc := 46) dX7_item_46 lb_60 <| o_iload_n (pc := 48) 1 dX7_item_48 rfl rfl <| o_imul (pc := 49) dX7_item_49 <| o_iload_n (pc := 50) 2 dX7_item_50 rfl rfl <| o_iadd (pc := 51) dX7_item_51 <| o_aload_n (pc := 52) 0 dX7_item_52 rfl rfl <| o_aload_n (pc := 53) 0 dX7_item_53 rfl rfl <| o_getRc (pc := 54) (a := 95) (ci := 7) (j := 65) (nn := 0) dX7_item_54 (hF.1 _ _ rfl) rfl (Nat.le_of_ble_eq_true rfl) k_948 rfl (hF.2 _ _ _ rfl) <| ?_
        refine o_iload_n (pc := 57) 1 dX7_item_57 rfl rfl <| ?_
        refine S_ck fun h8 => ?_
        refine o_iald (pc := 58) (nn := 6) dX7_item_58 (hF.1 _ _ rfl) (ck_in h8) <| o_lload_n (pc := 59) 3 dX7_item_59 rfl rfl <| ?_
        refine o_callVL (Y2 := YX7_narrow) (pc := 60) (av := [.int (r6.2.1 95 a.toNatClampNeg), .long c]) (rest := [.int (((60 : Int32) * a) + b), .ref 97]) dX7_item_60 k_1436 cm_X7_narrow (sM_narrow hF r6.2 (r6.2.1 95 a.toNatClampNeg) c) (hF.1 _ _ rfl) rfl rfl (Nat.le_of_ble_eq_true rfl) (Nat.le_of_ble_eq_true rfl) fun r9 => ?_
        refine S_ck fun h10 => ?_
        refine o_last (pc := 63) (nn := 360) dX7_item_63 (hF.1 _ _ rfl) (ck_in h10) <| ?_
        refine o_lm fun m11 => ?_
        refine o_iconst (pc := 64) dX7_item_64 lc_1 <| ?_
        exact o_iret (pc := 65) dX7_item_65 rfl rfl
    · refine o_bipush (pc := 19) dX7_item_19 lb_m11 <| ?_
      exact o_iret (pc := 21) dX7_item_21 rfl rfl
def fM_read (m : MI) (a : Int32) (b : Int32) : Option (Int64 × MI) :=
  (fM_isTape m a).bind fun r1 =>
  if r1.1 = 0 then
    some (-9223372036854775808, r1.2)
  else
    if ck a 6 = true then
      if r1.2.1 95 a.toNatClampNeg < 0 then
        some (-9223372036854775808, r1.2)
      else
        if ck a 6 = true then
          (fM_in r1.2 b 0 ((r1.2.1 96 a.toNatClampNeg) - 1)).bind fun r6 =>
          if r6.1 = 0 then
            some (-9223372036854775808, r6.2)
          else
            if ck (((60 : Int32) * a) + b) 360 = true then
              some (r6.2.2 97 (((60 : Int32) * a) + b).toNatClampNeg, r6.2)
            else none
        else none
    else none
theorem sM_read {sh : Sh} {R : RR} (hF : Fx sh R) (m : MI) (a : Int32) (b : Int32) : KS (eL sh R) false 2 0 0 YX7_read sh R m [.ref 61, .int a, .int b] (fM_read m a b) := by
  refine KS_of pn_X7 (fun _ => Nat.le_of_ble_eq_true rfl) ?_
  change S _ _ _ _ _ _ _ _ _ _ [(0, .ref 61), (1, .int a), (2, .int b)] [] _
  unfold fM_read
  refine o_aload_n (pc := 0) 0 dX7_read_0 rfl rfl <| o_iload_n (pc := 1) 1 dX7_read_1 rfl rfl <| ?_
  refine o_callVI (Y2 := YX7_isTape) (pc := 2) (av := [.int a]) (rest := []) dX7_read_2 k_1368 cm_X7_isTape (sM_isTape hF m a) (hF.1 _ _ rfl) rfl rfl (Nat.le_of_ble_eq_true rfl) (Nat.le_of_ble_eq_true rfl) fun r1 => ?_
  refine o_if_eq (pc := 5) (tgt := 34) dX7_read_5 rfl (fun h2 => ?_) (fun h2 => ?_)
  · refine o_ldc2 (pc := 34) dX7_read_34 k_1301 <| o_goto (pc := 37) (tgt := 51) dX7_read_37 rfl <| ?_
    exact o_lret (pc := 51) dX7_read_51 rfl rfl
  · refine o_aload_n (pc := 8) 0 dX7_read_8 rfl rfl <| o_getRc (pc := 9) (a := 95) (ci := 7) (j := 65) (nn := 0) dX7_read_9 (hF.1 _ _ rfl) rfl (Nat.le_of_ble_eq_true rfl) k_948 rfl (hF.2 _ _ _ rfl) <| o_iload_n (pc := 12) 1 dX7_read_12 rfl rfl <| ?_
    refine S_ck fun h3 => ?_
    refine o_iald (pc := 13) (nn := 6) dX7_read_13 (hF.1 _ _ rfl) (ck_in h3) <| ?_
    refine o_if_lt (pc := 14) (tgt := 34) dX7_read_14 rfl (fun h4 => ?_) (fun h4 => ?_)
    · refine o_ldc2 (pc := 34) dX7_read_34 k_1301 <| o_goto (pc := 37) (tgt := 51) dX7_read_37 rfl <| ?_
      exact o_lret (pc := 51) dX7_read_51 rfl rfl
    · refine o_aload_n (pc := 17) 0 dX7_read_17 rfl rfl <| o_iload_n (pc := 18) 2 dX7_read_18 rfl rfl <| o_iconst (pc := 19) dX7_read_19 lc_0 <| o_aload_n (pc := 20) 0 dX7_read_20 rfl rfl <| o_getRc (pc := 21) (a := 96) (ci := 7) (j := 66) (nn := 0) dX7_read_21 (hF.1 _ _ rfl) rfl (Nat.le_of_ble_eq_true rfl) k_949 rfl (hF.2 _ _ _ rfl) <| o_iload_n (pc := 24) 1 dX7_read_24 rfl rfl <| ?_
      refine S_ck fun h5 => ?_
      refine o_iald (pc := 25) (nn := 6) dX7_read_25 (hF.1 _ _ rfl) (ck_in h5) <| o_iconst (pc := 26) dX7_read_26 lc_1 <| o_isub (pc := 27) dX7_read_27 <| ?_
      refine o_callVI (Y2 := YX7_in) (pc := 28) (av := [.int b, .int 0, .int ((r1.2.1 96 a.toNatClampNeg) - 1)]) (rest := []) dX7_read_28 k_1096 cm_X7_in (sM_in hF r1.2 b 0 ((r1.2.1 96 a.toNatClampNeg) - 1)) (hF.1 _ _ rfl) rfl rfl (Nat.le_of_ble_eq_true rfl) (Nat.le_of_ble_eq_true rfl) fun r6 => ?_
      refine o_if_ne (pc := 31) (tgt := 40) dX7_read_31 rfl (fun h7 => ?_) (fun h7 => ?_)
      · refine o_ldc2 (pc := 34) dX7_read_34 k_1301 <| o_goto (pc := 37) (tgt := 51) dX7_read_37 rfl <| ?_
        exact o_lret (pc := 51) dX7_read_51 rfl rfl
      · refine o_aload_n (pc := 40) 0 dX7_read_40 rfl rfl <| o_getRc (pc := 41) (a := 97) (ci := 7) (j := 67) (nn := 0) dX7_read_41 (hF.1 _ _ rfl) rfl (Nat.le_of_ble_eq_true rfl) k_950 rfl (hF.2 _ _ _ rfl) <| o_bipush (pc := 44) dX7_read_44 lb_60 <| o_iload_n (pc := 46) 1 dX7_read_46 rfl rfl <| o_imul (pc := 47) dX7_read_47 <| o_iload_n (pc := 48) 2 dX7_read_48 rfl rfl <| o_iadd (pc := 49) dX7_read_49 <| ?_
        refine S_ck fun h8 => ?_
        refine o_lald (pc := 50) (nn := 360) dX7_read_50 (hF.1 _ _ rfl) (ck_in h8) <| ?_
        exact o_lret (pc := 51) dX7_read_51 rfl rfl
def fM_shift_l104 (u1 : Int32) (u2 : Int32) (u3 : Int32) (u4 : Int32) (u5 : Int32) (k0_0 : MI → Int32 → Option (Int32 × MI)) : Nat → MI → Int32 → Option (Int32 × MI)
  | 0, _, _ => none
  | n0 + 1, m, v6 =>
    if u5 ≤ v6 then
      k0_0 m v6
    else
      if ck ((((60 : Int32) * u1) + u2) + v6) 360 = true then
        if ck v6 60 = true then
          lm (mJ m 98 (vp_updL (m.2 98) v6.toNatClampNeg (m.2 97 ((((60 : Int32) * u1) + u2) + v6).toNatClampNeg))) fun m4 =>
          lt (v6 + 1) fun x5 =>
          fM_shift_l104 u1 u2 u3 u4 u5 k0_0 n0 m4 x5
        else none
      else none
theorem sM_shift_l104 {sh : Sh} {R : RR} (hF : Fx sh R) (u1 : Int32) (u2 : Int32) (u3 : Int32) (u4 : Int32) (u5 : Int32) (k0_0 : MI → Int32 → Option (Int32 × MI)) (hk0_0 : ∀ (m : MI) (v6 : Int32) , S (eI sh R) false 2 0 0 YX7_shift sh R m 138 [(0, .ref 61), (1, .int u1), (2, .int u2), (3, .int u3), (4, .int u4), (5, .int u5), (6, .int v6)] [] (k0_0 m v6)) : ∀ (n : Nat) (m : MI) (v6 : Int32) , S (eI sh R) false 2 0 0 YX7_shift sh R m 104 [(0, .ref 61), (1, .int u1), (2, .int u2), (3, .int u3), (4, .int u4), (5, .int u5), (6, .int v6)] [] (fM_shift_l104 u1 u2 u3 u4 u5 k0_0 n m v6) := by
  intro n
  induction n with
  | zero => intros; exact S_none
  | succ n0 ih0 =>
    intro m v6
    rw [fM_shift_l104]
    refine o_iload (pc := 104) 6 dX7_shift_104 rfl <| o_iload (pc := 106) 5 dX7_shift_106 rfl <| ?_
    refine o_icmp_ge (pc := 108) (tgt := 138) dX7_shift_108 rfl (fun h1 => ?_) (fun h1 => ?_)
    · exact hk0_0 m v6
    · refine o_aload_n (pc := 111) 0 dX7_shift_111 rfl rfl <| o_getRc (pc := 112) (a := 98) (ci := 7) (j := 68) (nn := 0) dX7_shift_112 (hF.1 _ _ rfl) rfl (Nat.le_of_ble_eq_true rfl) k_951 rfl (hF.2 _ _ _ rfl) <| o_iload (pc := 115) 6 dX7_shift_115 rfl <| o_aload_n (pc := 117) 0 dX7_shift_117 rfl rfl <| o_getRc (pc := 118) (a := 97) (ci := 7) (j := 67) (nn := 0) dX7_shift_118 (hF.1 _ _ rfl) rfl (Nat.le_of_ble_eq_true rfl) k_950 rfl (hF.2 _ _ _ rfl) <| o_bipush (pc := 121) dX7_shift_121 lb_60 <| o_iload_n (pc := 123) 1 dX7_shift_123 rfl rfl <| o_imul (pc := 124) dX7_shift_124 <| o_iload_n (pc := 125) 2 dX7_shift_125 rfl rfl <| o_iadd (pc := 126) dX7_shift_126 <| ?_
      refine o_iload (pc := 127) 6 dX7_shift_127 rfl <| o_iadd (pc := 129) dX7_shift_129 <| ?_
      refine S_ck fun h2 => ?_
      refine o_lald (pc := 130) (nn := 360) dX7_shift_130 (hF.1 _ _ rfl) (ck_in h2) <| ?_
      refine S_ck fun h3 => ?_
      refine o_last (pc := 131) (nn := 60) dX7_shift_131 (hF.1 _ _ rfl) (ck_in h3) <| ?_
      refine o_lm fun m4 => ?_
      refine o_iinc (pc := 132) 6 (v := v6 + 1) (ls' := [(6, .int (v6 + 1)), (0, .ref 61), (1, .int u1), (2, .int u2), (3, .int u3), (4, .int u4), (5, .int u5)]) dX7_shift_132 rfl rfl (Nat.le_of_ble_eq_true rfl) rfl <| ?_
      refine o_ltL (ls := fun x5 => [(6, .int x5), (0, .ref 61), (1, .int u1), (2, .int u2), (3, .int u3), (4, .int u4), (5, .int u5)]) fun x5 => ?_
      refine o_goto (pc := 135) (tgt := 104) dX7_shift_135 rfl <| ?_
      refine o_sub [1, 2, 3, 4, 5, 6, 0] (ls' := [(0, .ref 61), (1, .int u1), (2, .int u2), (3, .int u3), (4, .int u4), (5, .int u5), (6, .int x5)]) rfl ?_
      exact ih0 m4 x5
def fM_shift_l141 (u1 : Int32) (u2 : Int32) (u3 : Int32) (u4 : Int32) (u5 : Int32) (k0_0 : MI → Int32 → Option (Int32 × MI)) : Nat → MI → Int32 → Option (Int32 × MI)
  | 0, _, _ => none
  | n0 + 1, m, v6 =>
    if u5 ≤ v6 then
      k0_0 m v6
    else
      if ck v6 60 = true then
        if ck ((((60 : Int32) * u3) + u4) + v6) 360 = true then
          lm (mJ m 97 (vp_updL (m.2 97) ((((60 : Int32) * u3) + u4) + v6).toNatClampNeg (m.2 98 v6.toNatClampNeg))) fun m4 =>
          lt (v6 + 1) fun x5 =>
          fM_shift_l141 u1 u2 u3 u4 u5 k0_0 n0 m4 x5
        else none
      else none
theorem sM_shift_l141 {sh : Sh} {R : RR} (hF : Fx sh R) (u1 : Int32) (u2 : Int32) (u3 : Int32) (u4 : Int32) (u5 : Int32) (k0_0 : MI → Int32 → Option (Int32 × MI)) (hk0_0 : ∀ (m : MI) (v6 : Int32) , S (eI sh R) false 2 0 0 YX7_shift sh R m 176 [(0, .ref 61), (1, .int u1), (2, .int u2), (3, .int u3), (4, .int u4), (5, .int u5), (6, .int v6)] [] (k0_0 m v6)) : ∀ (n : Nat) (m : MI) (v6 : Int32) , S (eI sh R) false 2 0 0 YX7_shift sh R m 141 [(0, .ref 61), (1, .int u1), (2, .int u2), (3, .int u3), (4, .int u4), (5, .int u5), (6, .int v6)] [] (fM_shift_l141 u1 u2 u3 u4 u5 k0_0 n m v6) := by
  intro n
  induction n with
  | zero => intros; exact S_none
  | succ n0 ih0 =>
    intro m v6
    rw [fM_shift_l141]
    refine o_iload (pc := 141) 6 dX7_shift_141 rfl <| o_iload (pc := 143) 5 dX7_shift_143 rfl <| ?_
    refine o_icmp_ge (pc := 145) (tgt := 176) dX7_shift_145 rfl (fun h1 => ?_) (fun h1 => ?_)
    · exact hk0_0 m v6
    · refine o_aload_n (pc := 148) 0 dX7_shift_148 rfl rfl <| o_getRc (pc := 149) (a := 97) (ci := 7) (j := 67) (nn := 0) dX7_shift_149 (hF.1 _ _ rfl) rfl (Nat.le_of_ble_eq_true rfl) k_950 rfl (hF.2 _ _ _ rfl) <| o_bipush (pc := 152) dX7_shift_152 lb_60 <| o_iload_n (pc := 154) 3 dX7_shift_154 rfl rfl <| o_imul (pc := 155) dX7_shift_155 <| o_iload (pc := 156) 4 dX7_shift_156 rfl <| o_iadd (pc := 158) dX7_shift_158 <| o_iload (pc := 159) 6 dX7_shift_159 rfl <| o_iadd (pc := 161) dX7_shift_161 <| o_aload_n (pc := 162) 0 dX7_shift_162 rfl rfl <| ?_
      refine o_getRc (pc := 163) (a := 98) (ci := 7) (j := 68) (nn := 0) dX7_shift_163 (hF.1 _ _ rfl) rfl (Nat.le_of_ble_eq_true rfl) k_951 rfl (hF.2 _ _ _ rfl) <| o_iload (pc := 166) 6 dX7_shift_166 rfl <| ?_
      refine S_ck fun h2 => ?_
      refine o_lald (pc := 168) (nn := 60) dX7_shift_168 (hF.1 _ _ rfl) (ck_in h2) <| ?_
      refine S_ck fun h3 => ?_
      refine o_last (pc := 169) (nn := 360) dX7_shift_169 (hF.1 _ _ rfl) (ck_in h3) <| ?_
      refine o_lm fun m4 => ?_
      refine o_iinc (pc := 170) 6 (v := v6 + 1) (ls' := [(6, .int (v6 + 1)), (0, .ref 61), (1, .int u1), (2, .int u2), (3, .int u3), (4, .int u4), (5, .int u5)]) dX7_shift_170 rfl rfl (Nat.le_of_ble_eq_true rfl) rfl <| ?_
      refine o_ltL (ls := fun x5 => [(6, .int x5), (0, .ref 61), (1, .int u1), (2, .int u2), (3, .int u3), (4, .int u4), (5, .int u5)]) fun x5 => ?_
      refine o_goto (pc := 173) (tgt := 141) dX7_shift_173 rfl <| ?_
      refine o_sub [1, 2, 3, 4, 5, 6, 0] (ls' := [(0, .ref 61), (1, .int u1), (2, .int u2), (3, .int u3), (4, .int u4), (5, .int u5), (6, .int x5)]) rfl ?_
      exact ih0 m4 x5
def fM_shift (m : MI) (a : Int32) (b : Int32) (c : Int32) (d : Int32) (e : Int32) : Option (Int32 × MI) :=
  (fM_isTape m a).bind fun r1 =>
  if r1.1 = 0 then
    some (-1, r1.2)
  else
    (fM_isTape r1.2 c).bind fun r3 =>
    if r3.1 = 0 then
      some (-1, r3.2)
    else
      if ck a 6 = true then
        if r3.2.1 95 a.toNatClampNeg < 0 then
          some (-11, r3.2)
        else
          if ck c 6 = true then
            if 0 ≤ r3.2.1 95 c.toNatClampNeg then
              if ck a 6 = true then
                if ck c 6 = true then
                  if r3.2.1 95 a.toNatClampNeg = r3.2.1 95 c.toNatClampNeg then
                    if e < 0 then
                      some (-13, r3.2)
                    else
                      if b < 0 then
                        some (-13, r3.2)
                      else
                        if d < 0 then
                          some (-13, r3.2)
                        else
                          if ck a 6 = true then
                            if (r3.2.1 96 a.toNatClampNeg) - e < b then
                              some (-13, r3.2)
                            else
                              if ck c 6 = true then
                                if d ≤ (r3.2.1 96 c.toNatClampNeg) - e then
                                  fM_shift_l104 a b c d e
                                    (fun m20 z19 =>
                                      fM_shift_l141 a b c d e
                                        (fun m22 z21 =>
                                          some (e, m22)
                                          )
                                        1000 m20 0
                                      )
                                    1000 r3.2 0
                                else
                                  some (-13, r3.2)
                              else none
                          else none
                  else
                    some (-12, r3.2)
                else none
              else none
            else
              some (-11, r3.2)
          else none
      else none
theorem sM_shift {sh : Sh} {R : RR} (hF : Fx sh R) (m : MI) (a : Int32) (b : Int32) (c : Int32) (d : Int32) (e : Int32) : KS (eI sh R) false 2 0 0 YX7_shift sh R m [.ref 61, .int a, .int b, .int c, .int d, .int e] (fM_shift m a b c d e) := by
  refine KS_of pn_X7 (fun _ => Nat.le_of_ble_eq_true rfl) ?_
  change S _ _ _ _ _ _ _ _ _ _ [(0, .ref 61), (1, .int a), (2, .int b), (3, .int c), (4, .int d), (5, .int e)] [] _
  unfold fM_shift
  refine o_aload_n (pc := 0) 0 dX7_shift_0 rfl rfl <| o_iload_n (pc := 1) 1 dX7_shift_1 rfl rfl <| ?_
  refine o_callVI (Y2 := YX7_isTape) (pc := 2) (av := [.int a]) (rest := []) dX7_shift_2 k_1368 cm_X7_isTape (sM_isTape hF m a) (hF.1 _ _ rfl) rfl rfl (Nat.le_of_ble_eq_true rfl) (Nat.le_of_ble_eq_true rfl) fun r1 => ?_
  refine o_if_eq (pc := 5) (tgt := 16) dX7_shift_5 rfl (fun h2 => ?_) (fun h2 => ?_)
  · refine o_iconst (pc := 16) dX7_shift_16 lc_m1 <| ?_
    exact o_iret (pc := 17) dX7_shift_17 rfl rfl
  · refine o_aload_n (pc := 8) 0 dX7_shift_8 rfl rfl <| o_iload_n (pc := 9) 3 dX7_shift_9 rfl rfl <| ?_
    refine o_callVI (Y2 := YX7_isTape) (pc := 10) (av := [.int c]) (rest := []) dX7_shift_10 k_1368 cm_X7_isTape (sM_isTape hF r1.2 c) (hF.1 _ _ rfl) rfl rfl (Nat.le_of_ble_eq_true rfl) (Nat.le_of_ble_eq_true rfl) fun r3 => ?_
    refine o_if_ne (pc := 13) (tgt := 18) dX7_shift_13 rfl (fun h4 => ?_) (fun h4 => ?_)
    · refine o_iconst (pc := 16) dX7_shift_16 lc_m1 <| ?_
      exact o_iret (pc := 17) dX7_shift_17 rfl rfl
    · refine o_aload_n (pc := 18) 0 dX7_shift_18 rfl rfl <| o_getRc (pc := 19) (a := 95) (ci := 7) (j := 65) (nn := 0) dX7_shift_19 (hF.1 _ _ rfl) rfl (Nat.le_of_ble_eq_true rfl) k_948 rfl (hF.2 _ _ _ rfl) <| o_iload_n (pc := 22) 1 dX7_shift_22 rfl rfl <| ?_
      refine S_ck fun h5 => ?_
      refine o_iald (pc := 23) (nn := 6) dX7_shift_23 (hF.1 _ _ rfl) (ck_in h5) <| ?_
      refine o_if_lt (pc := 24) (tgt := 36) dX7_shift_24 rfl (fun h6 => ?_) (fun h6 => ?_)
      · refine o_bipush (pc := 36) dX7_shift_36 lb_m11 <| ?_
        exact o_iret (pc := 38) dX7_shift_38 rfl rfl
      · refine o_aload_n (pc := 27) 0 dX7_shift_27 rfl rfl <| o_getRc (pc := 28) (a := 95) (ci := 7) (j := 65) (nn := 0) dX7_shift_28 (hF.1 _ _ rfl) rfl (Nat.le_of_ble_eq_true rfl) k_948 rfl (hF.2 _ _ _ rfl) <| o_iload_n (pc := 31) 3 dX7_shift_31 rfl rfl <| ?_
        refine S_ck fun h7 => ?_
        refine o_iald (pc := 32) (nn := 6) dX7_shift_32 (hF.1 _ _ rfl) (ck_in h7) <| ?_
        refine o_if_ge (pc := 33) (tgt := 39) dX7_shift_33 rfl (fun h8 => ?_) (fun h8 => ?_)
        · refine o_aload_n (pc := 39) 0 dX7_shift_39 rfl rfl <| o_getRc (pc := 40) (a := 95) (ci := 7) (j := 65) (nn := 0) dX7_shift_40 (hF.1 _ _ rfl) rfl (Nat.le_of_ble_eq_true rfl) k_948 rfl (hF.2 _ _ _ rfl) <| o_iload_n (pc := 43) 1 dX7_shift_43 rfl rfl <| ?_
          refine S_ck fun h9 => ?_
          refine o_iald (pc := 44) (nn := 6) dX7_shift_44 (hF.1 _ _ rfl) (ck_in h9) <| o_aload_n (pc := 45) 0 dX7_shift_45 rfl rfl <| o_getRc (pc := 46) (a := 95) (ci := 7) (j := 65) (nn := 0) dX7_shift_46 (hF.1 _ _ rfl) rfl (Nat.le_of_ble_eq_true rfl) k_948 rfl (hF.2 _ _ _ rfl) <| o_iload_n (pc := 49) 3 dX7_shift_49 rfl rfl <| ?_
          refine S_ck fun h10 => ?_
          refine o_iald (pc := 50) (nn := 6) dX7_shift_50 (hF.1 _ _ rfl) (ck_in h10) <| ?_
          refine o_icmp_eq (pc := 51) (tgt := 57) dX7_shift_51 rfl (fun h11 => ?_) (fun h11 => ?_)
          · refine o_iload (pc := 57) 5 dX7_shift_57 rfl <| ?_
            refine o_if_lt (pc := 59) (tgt := 98) dX7_shift_59 rfl (fun h12 => ?_) (fun h12 => ?_)
            · refine o_bipush (pc := 98) dX7_shift_98 lb_m13 <| ?_
              exact o_iret (pc := 100) dX7_shift_100 rfl rfl
            · refine o_iload_n (pc := 62) 2 dX7_shift_62 rfl rfl <| ?_
              refine o_if_lt (pc := 63) (tgt := 98) dX7_shift_63 rfl (fun h13 => ?_) (fun h13 => ?_)
              · refine o_bipush (pc := 98) dX7_shift_98 lb_m13 <| ?_
                exact o_iret (pc := 100) dX7_shift_100 rfl rfl
              · refine o_iload (pc := 66) 4 dX7_shift_66 rfl <| ?_
                refine o_if_lt (pc := 68) (tgt := 98) dX7_shift_68 rfl (fun h14 => ?_) (fun h14 => ?_)
                · refine o_bipush (pc := 98) dX7_shift_98 lb_m13 <| ?_
                  exact o_iret (pc := 100) dX7_shift_100 rfl rfl
                · refine o_iload_n (pc := 71) 2 dX7_shift_71 rfl rfl <| o_aload_n (pc := 72) 0 dX7_shift_72 rfl rfl <| o_getRc (pc := 73) (a := 96) (ci := 7) (j := 66) (nn := 0) dX7_shift_73 (hF.1 _ _ rfl) rfl (Nat.le_of_ble_eq_true rfl) k_949 rfl (hF.2 _ _ _ rfl) <| o_iload_n (pc := 76) 1 dX7_shift_76 rfl rfl <| ?_
                  refine S_ck fun h15 => ?_
                  refine o_iald (pc := 77) (nn := 6) dX7_shift_77 (hF.1 _ _ rfl) (ck_in h15) <| o_iload (pc := 78) 5 dX7_shift_78 rfl <| o_isub (pc := 80) dX7_shift_80 <| ?_
                  refine o_icmp_gt (pc := 81) (tgt := 98) dX7_shift_81 rfl (fun h16 => ?_) (fun h16 => ?_)
                  · refine o_bipush (pc := 98) dX7_shift_98 lb_m13 <| ?_
                    exact o_iret (pc := 100) dX7_shift_100 rfl rfl
                  · refine o_iload (pc := 84) 4 dX7_shift_84 rfl <| o_aload_n (pc := 86) 0 dX7_shift_86 rfl rfl <| o_getRc (pc := 87) (a := 96) (ci := 7) (j := 66) (nn := 0) dX7_shift_87 (hF.1 _ _ rfl) rfl (Nat.le_of_ble_eq_true rfl) k_949 rfl (hF.2 _ _ _ rfl) <| o_iload_n (pc := 90) 3 dX7_shift_90 rfl rfl <| ?_
                    refine S_ck fun h17 => ?_
                    refine o_iald (pc := 91) (nn := 6) dX7_shift_91 (hF.1 _ _ rfl) (ck_in h17) <| o_iload (pc := 92) 5 dX7_shift_92 rfl <| o_isub (pc := 94) dX7_shift_94 <| ?_
                    refine o_icmp_le (pc := 95) (tgt := 101) dX7_shift_95 rfl (fun h18 => ?_) (fun h18 => ?_)
                    · refine o_iconst (pc := 101) dX7_shift_101 lc_0 <| o_istore (pc := 102) (ls' := [(6, .int 0), (0, .ref 61), (1, .int a), (2, .int b), (3, .int c), (4, .int d), (5, .int e)]) dX7_shift_102 (Nat.le_of_ble_eq_true rfl) rfl <| ?_
                      refine o_sub [1, 2, 3, 4, 5, 6, 0] (ls' := [(0, .ref 61), (1, .int a), (2, .int b), (3, .int c), (4, .int d), (5, .int e), (6, .int 0)]) rfl ?_
                      refine sM_shift_l104 hF a b c d e _ ?_ 1000 r3.2 0
                      · intro m20 z19
                        refine o_iconst (pc := 138) dX7_shift_138 lc_0 <| o_istore (pc := 139) (ls' := [(6, .int 0), (0, .ref 61), (1, .int a), (2, .int b), (3, .int c), (4, .int d), (5, .int e)]) dX7_shift_139 (Nat.le_of_ble_eq_true rfl) rfl <| ?_
                        refine o_sub [1, 2, 3, 4, 5, 6, 0] (ls' := [(0, .ref 61), (1, .int a), (2, .int b), (3, .int c), (4, .int d), (5, .int e), (6, .int 0)]) rfl ?_
                        refine sM_shift_l141 hF a b c d e _ ?_ 1000 m20 0
                        · intro m22 z21
                          refine o_iload (pc := 176) 5 dX7_shift_176 rfl <| ?_
                          exact o_iret (pc := 178) dX7_shift_178 rfl rfl
                    · refine o_bipush (pc := 98) dX7_shift_98 lb_m13 <| ?_
                      exact o_iret (pc := 100) dX7_shift_100 rfl rfl
          · refine o_bipush (pc := 54) dX7_shift_54 lb_m12 <| ?_
            exact o_iret (pc := 56) dX7_shift_56 rfl rfl
        · refine o_bipush (pc := 36) dX7_shift_36 lb_m11 <| ?_
          exact o_iret (pc := 38) dX7_shift_38 rfl rfl
def fA_bodyOf_l4 (u0 : Int32) (u1 : Int32) (k0_0 : MI → Int32 → Int32 → Option (Int32 × MI)) : Nat → MI → Int32 → Int32 → Option (Int32 × MI)
  | 0, _, _, _ => none
  | n0 + 1, m, v2, v3 =>
    if 7 ≤ v3 then
      k0_0 m v2 v3
    else
      if v2 < 0 then
        k0_0 m v2 v3
      else
        if ck ((v2 * 3) + u1) 21 = true then
          lt (tabB ((v2 * 3) + u1).toNatClampNeg) fun x4 =>
          if x4 = 0 then
            if ck v2 7 = true then
              lt (tabA v2.toNatClampNeg) fun x7 =>
              lt (v3 + 1) fun x8 =>
              fA_bodyOf_l4 u0 u1 k0_0 n0 m x7 x8
            else none
          else
            some (x4, m)
        else none
theorem sA_bodyOf_l4 {sh : Sh} {R : RR} (hF : Fx sh R) (u0 : Int32) (u1 : Int32) (k0_0 : MI → Int32 → Int32 → Option (Int32 × MI)) (hk0_0 : ∀ (m : MI) (v2 : Int32) (v3 : Int32) , S (eI sh R) false 0 0 0 YX0_bodyOf sh R m 45 [(0, .int u0), (1, .int u1), (2, .int v2), (3, .int v3)] [] (k0_0 m v2 v3)) : ∀ (n : Nat) (m : MI) (v2 : Int32) (v3 : Int32) , S (eI sh R) false 0 0 0 YX0_bodyOf sh R m 4 [(0, .int u0), (1, .int u1), (2, .int v2), (3, .int v3)] [] (fA_bodyOf_l4 u0 u1 k0_0 n m v2 v3) := by
  intro n
  induction n with
  | zero => intros; exact S_none
  | succ n0 ih0 =>
    intro m v2 v3
    rw [fA_bodyOf_l4]
    refine o_iload_n (pc := 4) 3 dX0_bodyOf_4 rfl rfl <| o_bipush (pc := 5) dX0_bodyOf_5 lb_7 <| ?_
    refine o_icmp_ge (pc := 7) (tgt := 45) dX0_bodyOf_7 rfl (fun h1 => ?_) (fun h1 => ?_)
    · exact hk0_0 m v2 v3
    · refine o_iload_n (pc := 10) 2 dX0_bodyOf_10 rfl rfl <| ?_
      refine o_if_lt (pc := 11) (tgt := 45) dX0_bodyOf_11 rfl (fun h2 => ?_) (fun h2 => ?_)
      · exact hk0_0 m v2 v3
      · refine o_getsB (pc := 14) dX0_bodyOf_14 k_796 <| o_iload_n (pc := 17) 2 dX0_bodyOf_17 rfl rfl <| o_iconst (pc := 18) dX0_bodyOf_18 lc_3 <| o_imul (pc := 19) dX0_bodyOf_19 <| o_iload_n (pc := 20) 1 dX0_bodyOf_20 rfl rfl <| o_iadd (pc := 21) dX0_bodyOf_21 <| ?_
        refine S_ck fun h3 => ?_
        refine o_tabB (pc := 22) dX0_bodyOf_22 (ck_in h3) <| ?_
        refine o_lt fun x4 => ?_
        refine o_istore (pc := 23) (ls' := [(4, .int x4), (0, .int u0), (1, .int u1), (2, .int v2), (3, .int v3)]) dX0_bodyOf_23 (Nat.le_of_ble_eq_true rfl) rfl <| o_iload (pc := 25) 0 dX0_bodyOf_25 rfl <| ?_
        refine o_if_eq (pc := 27) (tgt := 33) dX0_bodyOf_27 rfl (fun h5 => ?_) (fun h5 => ?_)
        · refine o_getsAN (pc := 33) rfl dX0_bodyOf_33 <| o_iload_n (pc := 36) 3 dX0_bodyOf_36 rfl rfl <| ?_
          refine S_ck fun h6 => ?_
          refine o_tabA (pc := 37) dX0_bodyOf_37 (ck_in h6) <| ?_
          refine o_lt fun x7 => ?_
          refine o_istore_n (pc := 38) (ls' := [(2, .int x7), (4, .int x4), (0, .int u0), (1, .int u1), (3, .int v3)]) dX0_bodyOf_38 rfl (Nat.le_of_ble_eq_true rfl) rfl <| o_iinc (pc := 39) 4 (v := v3 + 1) (ls' := [(3, .int (v3 + 1)), (2, .int x7), (4, .int x4), (0, .int u0), (1, .int u1)]) dX0_bodyOf_39 rfl rfl (Nat.le_of_ble_eq_true rfl) rfl <| ?_
          refine o_ltL (ls := fun x8 => [(3, .int x8), (2, .int x7), (4, .int x4), (0, .int u0), (1, .int u1)]) fun x8 => ?_
          refine o_goto (pc := 42) (tgt := 4) dX0_bodyOf_42 rfl <| ?_
          refine o_sub [3, 4, 1, 0] (ls' := [(0, .int u0), (1, .int u1), (2, .int x7), (3, .int x8)]) rfl ?_
          exact ih0 m x7 x8
        · refine o_iload (pc := 30) 0 dX0_bodyOf_30 rfl <| ?_
          exact o_iret (pc := 32) dX0_bodyOf_32 rfl rfl
def fA_bodyOf (m : MI) (a : Int32) (b : Int32) : Option (Int32 × MI) :=
  fA_bodyOf_l4 a b
    (fun m3 z1 z2 =>
      some (0, m3)
      )
    1000 m a 0
theorem sA_bodyOf {sh : Sh} {R : RR} (hF : Fx sh R) (m : MI) (a : Int32) (b : Int32) : KS (eI sh R) false 0 0 0 YX0_bodyOf sh R m [.int a, .int b] (fA_bodyOf m a b) := by
  refine KS_of pn_X0 (fun _ => Nat.le_of_ble_eq_true rfl) ?_
  change S _ _ _ _ _ _ _ _ _ _ [(0, .int a), (1, .int b)] [] _
  unfold fA_bodyOf
  refine o_iload_n (pc := 0) 0 dX0_bodyOf_0 rfl rfl <| o_istore_n (pc := 1) (ls' := [(2, .int a), (0, .int a), (1, .int b)]) dX0_bodyOf_1 rfl (Nat.le_of_ble_eq_true rfl) rfl <| o_iconst (pc := 2) dX0_bodyOf_2 lc_0 <| o_istore_n (pc := 3) (ls' := [(3, .int 0), (2, .int a), (0, .int a), (1, .int b)]) dX0_bodyOf_3 rfl (Nat.le_of_ble_eq_true rfl) rfl <| ?_
  refine o_sub [2, 3, 1, 0] (ls' := [(0, .int a), (1, .int b), (2, .int a), (3, .int 0)]) rfl ?_
  refine sA_bodyOf_l4 hF a b _ ?_ 1000 m a 0
  · intro m3 z1 z2
    refine o_iconst (pc := 45) dX0_bodyOf_45 lc_0 <| ?_
    exact o_iret (pc := 46) dX0_bodyOf_46 rfl rfl
def fA_keep (m : MI) (a : Int32) : Option (MI) :=
  if 20 ≤ m.1 46 0 then
    lm (mI m 46 (upd (m.1 46) 0 ((m.1 46 0) + 1))) fun m2 =>
    some m2
  else
    if ck (m.1 46 0) 20 = true then
      lm (mI m 47 (upd (m.1 47) (m.1 46 0).toNatClampNeg a)) fun m4 =>
      lm (mI m4 46 (upd (m4.1 46) 0 ((m4.1 46 0) + 1))) fun m5 =>
      some m5
    else none
theorem sA_keep {sh : Sh} {R : RR} (hF : Fx sh R) (m : MI) (a : Int32) : KS (eV sh R) false 0 0 0 YX0_keep sh R m [.ref 46, .int a] (fA_keep m a) := by
  refine KS_of pn_X0 (fun _ => Nat.le_of_ble_eq_true rfl) ?_
  change S _ _ _ _ _ _ _ _ _ _ [(0, .ref 46), (1, .int a)] [] _
  unfold fA_keep
  refine o_aload_n (pc := 0) 0 dX0_keep_0 rfl rfl <| o_getI (pc := 1) (ci := 0) (j := 0) (nn := 0) dX0_keep_1 (hF.1 _ _ rfl) rfl (Nat.le_of_ble_eq_true rfl) k_255 rfl <| o_bipush (pc := 4) dX0_keep_4 lb_20 <| ?_
  refine o_icmp_ge (pc := 6) (tgt := 19) dX0_keep_6 rfl (fun h1 => ?_) (fun h1 => ?_)
  · refine o_aload_n (pc := 19) 0 dX0_keep_19 rfl rfl <| o_dup (pc := 20) dX0_keep_20 rfl <| o_getI (pc := 21) (ci := 0) (j := 0) (nn := 0) dX0_keep_21 (hF.1 _ _ rfl) rfl (Nat.le_of_ble_eq_true rfl) k_255 rfl <| o_iconst (pc := 24) dX0_keep_24 lc_1 <| o_iadd (pc := 25) dX0_keep_25 <| o_putI (pc := 26) (ci := 0) (j := 0) (nn := 0) dX0_keep_26 (hF.1 _ _ rfl) rfl (Nat.le_of_ble_eq_true rfl) k_255 rfl rfl rfl rfl rfl <| ?_
    refine o_lm fun m2 => ?_
    exact o_vret (pc := 29) dX0_keep_29 rfl rfl
  · refine o_aload_n (pc := 9) 0 dX0_keep_9 rfl rfl <| o_getRc (pc := 10) (a := 47) (ci := 0) (j := 1) (nn := 0) dX0_keep_10 (hF.1 _ _ rfl) rfl (Nat.le_of_ble_eq_true rfl) k_257 rfl (hF.2 _ _ _ rfl) <| o_aload_n (pc := 13) 0 dX0_keep_13 rfl rfl <| o_getI (pc := 14) (ci := 0) (j := 0) (nn := 0) dX0_keep_14 (hF.1 _ _ rfl) rfl (Nat.le_of_ble_eq_true rfl) k_255 rfl <| o_iload_n (pc := 17) 1 dX0_keep_17 rfl rfl <| ?_
    refine S_ck fun h3 => ?_
    refine o_iast (pc := 18) (nn := 20) dX0_keep_18 (hF.1 _ _ rfl) (ck_in h3) <| ?_
    refine o_lm fun m4 => ?_
    refine o_aload_n (pc := 19) 0 dX0_keep_19 rfl rfl <| o_dup (pc := 20) dX0_keep_20 rfl <| o_getI (pc := 21) (ci := 0) (j := 0) (nn := 0) dX0_keep_21 (hF.1 _ _ rfl) rfl (Nat.le_of_ble_eq_true rfl) k_255 rfl <| o_iconst (pc := 24) dX0_keep_24 lc_1 <| o_iadd (pc := 25) dX0_keep_25 <| o_putI (pc := 26) (ci := 0) (j := 0) (nn := 0) dX0_keep_26 (hF.1 _ _ rfl) rfl (Nat.le_of_ble_eq_true rfl) k_255 rfl rfl rfl rfl rfl <| ?_
    refine o_lm fun m5 => ?_
    exact o_vret (pc := 29) dX0_keep_29 rfl rfl
