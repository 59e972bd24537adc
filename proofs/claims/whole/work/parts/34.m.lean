def fC_tape (sh : Sh) (R : RR) (m : MI) (a : Int32) (b : Int32) (c : Int32) : Option (Int32 × MI) :=
  (fC_tapeAt sh R m a).bind fun r1 =>
  mn r1.1 (
    some (-1, r1.2)
    ) fun a2 =>
    if b = -1 then
      if sh[a2]? = some (14, 0) then
        (fT_become sh R r1.2 a2 (-1) 0).bind fun r5 =>
        some (1, r5)
      else none
    else
      if b < 0 then
        some (-2, r1.2)
      else
        if 5 ≤ b then
          some (-2, r1.2)
        else
          if c ≤ 60 then
            if 0 ≤ c then
              if sh[a2]? = some (14, 0) then
                (fT_become sh R r1.2 a2 b c).bind fun r11 =>
                some (1, r11)
              else none
            else
              some (-14, r1.2)
          else
            some (-2, r1.2)
theorem sC_tape {sh : Sh} {R : RR} (hF : Fx sh R) (m : MI) (a : Int32) (b : Int32) (c : Int32) : KS (eI sh R) false 2 0 0 YX6_tape sh R m [.ref 0, .int a, .int b, .int c] (fC_tape sh R m a b c) := by
  refine KS_of pn_X6 (fun _ => Nat.le_of_ble_eq_true rfl) ?_
  change S _ _ _ _ _ _ _ _ _ _ [(0, .ref 0), (1, .int a), (2, .int b), (3, .int c)] [] _
  unfold fC_tape
  refine o_aload_n (pc := 0) 0 dX6_tape_0 rfl rfl <| o_iload_n (pc := 1) 1 dX6_tape_1 rfl rfl <| ?_
  refine o_callVQ (Y2 := YX6_tapeAt) (pc := 2) (av := [.int a]) (rest := []) dX6_tape_2 k_760 cm_X6_tapeAt (sC_tapeAt hF m a) (hF.1 _ _ rfl) rfl rfl (Nat.le_of_ble_eq_true rfl) (Nat.le_of_ble_eq_true rfl) fun r1 => ?_
  refine o_mn (q := r1.1) (ls := fun q => [(0, .ref 0), (1, .int a), (2, .int b), (3, .int c)]) (st := fun q => [va_rf q]) ?_ (fun a2 => ?_)
  · show S _ _ _ _ _ _ _ _ _ _ [(0, .ref 0), (1, .int a), (2, .int b), (3, .int c)] [.null] _
    refine o_astoreN (pc := 5) (ls' := [(4, .null), (0, .ref 0), (1, .int a), (2, .int b), (3, .int c)]) dX6_tape_5 (Nat.le_of_ble_eq_true rfl) rfl <| o_aloadN (pc := 7) 0 dX6_tape_7 rfl <| o_ifnonnull_f (pc := 9) dX6_tape_9 <| o_iconst (pc := 12) dX6_tape_12 lc_m1 <| ?_
    exact o_iret (pc := 13) dX6_tape_13 rfl rfl
  show S _ _ _ _ _ _ _ _ _ _ [(0, .ref 0), (1, .int a), (2, .int b), (3, .int c)] [.ref a2] _
  refine o_astore (pc := 5) (ls' := [(4, .ref a2), (0, .ref 0), (1, .int a), (2, .int b), (3, .int c)]) dX6_tape_5 (Nat.le_of_ble_eq_true rfl) rfl <| o_aload (pc := 7) 0 dX6_tape_7 rfl <| o_ifnonnull_t (pc := 9) (tgt := 14) dX6_tape_9 rfl <| o_iload_n (pc := 14) 3 dX6_tape_14 rfl rfl <| o_iconst (pc := 15) dX6_tape_15 lc_m1 <| ?_
  refine o_icmp_ne (pc := 16) (tgt := 28) dX6_tape_16 rfl (fun h4 => ?_) (fun h4 => ?_)
  · refine o_aload (pc := 19) 0 dX6_tape_19 rfl <| o_iconst (pc := 21) dX6_tape_21 lc_m1 <| o_iconst (pc := 22) dX6_tape_22 lc_0 <| ?_
    refine S_ck fun h6 => ?_
    refine o_callVV (Y2 := YX4_become) (pc := 23) (av := [.int (-1), .int 0]) (rest := []) dX6_tape_23 k_828 cm_X4_become (sT_become hF r1.2 a2 (-1) 0) h6 rfl rfl (Nat.le_of_ble_eq_true rfl) (Nat.le_of_ble_eq_true rfl) fun r5 => ?_
    refine o_iconst (pc := 26) dX6_tape_26 lc_1 <| ?_
    exact o_iret (pc := 27) dX6_tape_27 rfl rfl
  · refine o_iload_n (pc := 28) 3 dX6_tape_28 rfl rfl <| ?_
    refine o_if_lt (pc := 29) (tgt := 43) dX6_tape_29 rfl (fun h7 => ?_) (fun h7 => ?_)
    · refine o_bipush (pc := 43) dX6_tape_43 lb_m2 <| ?_
      exact o_iret (pc := 45) dX6_tape_45 rfl rfl
    · refine o_iload_n (pc := 32) 3 dX6_tape_32 rfl rfl <| o_iconst (pc := 33) dX6_tape_33 lc_5 <| ?_
      refine o_icmp_ge (pc := 34) (tgt := 43) dX6_tape_34 rfl (fun h8 => ?_) (fun h8 => ?_)
      · refine o_bipush (pc := 43) dX6_tape_43 lb_m2 <| ?_
        exact o_iret (pc := 45) dX6_tape_45 rfl rfl
      · refine o_iload_n (pc := 37) 4 dX6_tape_37 rfl rfl <| o_bipush (pc := 38) dX6_tape_38 lb_60 <| ?_
        refine o_icmp_le (pc := 40) (tgt := 46) dX6_tape_40 rfl (fun h9 => ?_) (fun h9 => ?_)
        · refine o_iload_n (pc := 46) 4 dX6_tape_46 rfl rfl <| ?_
          refine o_if_ge (pc := 47) (tgt := 53) dX6_tape_47 rfl (fun h10 => ?_) (fun h10 => ?_)
          · refine o_aload (pc := 53) 0 dX6_tape_53 rfl <| o_iload_n (pc := 55) 3 dX6_tape_55 rfl rfl <| o_iload_n (pc := 56) 4 dX6_tape_56 rfl rfl <| ?_
            refine S_ck fun h12 => ?_
            refine o_callVV (Y2 := YX4_become) (pc := 57) (av := [.int b, .int c]) (rest := []) dX6_tape_57 k_828 cm_X4_become (sT_become hF r1.2 a2 b c) h12 rfl rfl (Nat.le_of_ble_eq_true rfl) (Nat.le_of_ble_eq_true rfl) fun r11 => ?_
            refine o_iconst (pc := 60) dX6_tape_60 lc_1 <| ?_
            exact o_iret (pc := 61) dX6_tape_61 rfl rfl
          · refine o_bipush (pc := 50) dX6_tape_50 lb_m14 <| ?_
            exact o_iret (pc := 52) dX6_tape_52 rfl rfl
        · refine o_bipush (pc := 43) dX6_tape_43 lb_m2 <| ?_
          exact o_iret (pc := 45) dX6_tape_45 rfl rfl
def fT_cut (sh : Sh) (R : RR) (m : MI) (t : Nat) (a : Int64) : Option (Int64 × MI) :=
  if sh[t]? = some (14, 0) then
    if m.1 t 0 = 0 then
      some (((a.toInt32).toInt8.toInt32).toInt64, m)
    else
      if m.1 t 0 = 1 then
        some (((a.toInt32).toInt16.toInt32).toInt64, m)
      else
        if m.1 t 0 = 2 then
          some ((a.toInt32).toInt64, m)
        else
          if m.1 t 0 = 3 then
            some (a, m)
          else
            if m.1 t 0 = 4 then
              if lg_cmp a 0 = 0 then
                some (0, m)
              else
                some (1, m)
            else
              some (a, m)
  else none
theorem sT_cut {sh : Sh} {R : RR} (hF : Fx sh R) (m : MI) (t : Nat) (a : Int64) : KS (eL sh R) false 0 0 0 YX4_cut sh R m [.ref t, .long a] (fT_cut sh R m t a) := by
  refine KS_of pn_X4 (fun _ => Nat.le_of_ble_eq_true rfl) ?_
  change S _ _ _ _ _ _ _ _ _ _ [(0, .ref t), (1, .long a)] [] _
  unfold fT_cut
  refine o_aload_n (pc := 0) 0 dX4_cut_0 rfl rfl <| ?_
  refine S_ck fun h1 => ?_
  refine o_getI (pc := 1) (ci := 4) (j := 0) (nn := 0) dX4_cut_1 h1 rfl (Nat.le_of_ble_eq_true rfl) k_280 rfl <| ?_
  refine S_ite (fun h2 => ?_) (fun h2 => ?_)
  · refine o_ts_in (pc := 4) (tgt := 40) 0 h2 dX4_cut_4 (by decide) (by decide) rfl rfl ?_
    refine o_lload_n (pc := 40) 1 dX4_cut_40 rfl rfl <| o_l2i (pc := 41) dX4_cut_41 <| o_i2b (pc := 42) dX4_cut_42 <| o_i2l (pc := 43) dX4_cut_43 <| ?_
    exact o_lret (pc := 44) dX4_cut_44 rfl rfl
  refine S_ite (fun h3 => ?_) (fun h3 => ?_)
  · refine o_ts_in (pc := 4) (tgt := 45) 1 h3 dX4_cut_4 (by decide) (by decide) rfl rfl ?_
    refine o_lload_n (pc := 45) 1 dX4_cut_45 rfl rfl <| o_l2i (pc := 46) dX4_cut_46 <| o_i2s (pc := 47) dX4_cut_47 <| o_i2l (pc := 48) dX4_cut_48 <| ?_
    exact o_lret (pc := 49) dX4_cut_49 rfl rfl
  refine S_ite (fun h4 => ?_) (fun h4 => ?_)
  · refine o_ts_in (pc := 4) (tgt := 50) 2 h4 dX4_cut_4 (by decide) (by decide) rfl rfl ?_
    refine o_lload_n (pc := 50) 1 dX4_cut_50 rfl rfl <| o_l2i (pc := 51) dX4_cut_51 <| o_i2l (pc := 52) dX4_cut_52 <| ?_
    exact o_lret (pc := 53) dX4_cut_53 rfl rfl
  refine S_ite (fun h5 => ?_) (fun h5 => ?_)
  · refine o_ts_in (pc := 4) (tgt := 66) 3 h5 dX4_cut_4 (by decide) (by decide) rfl rfl ?_
    refine o_lload_n (pc := 66) 1 dX4_cut_66 rfl rfl <| ?_
    exact o_lret (pc := 67) dX4_cut_67 rfl rfl
  refine S_ite (fun h6 => ?_) (fun h6 => ?_)
  · refine o_ts_in (pc := 4) (tgt := 54) 4 h6 dX4_cut_4 (by decide) (by decide) rfl rfl ?_
    refine o_lload_n (pc := 54) 1 dX4_cut_54 rfl rfl <| o_lconst (pc := 55) (x := 0) dX4_cut_55 rfl <| o_lcmp (pc := 56) dX4_cut_56 <| ?_
    refine o_if_eq (pc := 57) (tgt := 64) dX4_cut_57 rfl (fun h7 => ?_) (fun h7 => ?_)
    · refine o_lconst (pc := 64) (x := 0) dX4_cut_64 rfl <| ?_
      exact o_lret (pc := 65) dX4_cut_65 rfl rfl
    · refine o_lconst (pc := 60) (x := 1) dX4_cut_60 rfl <| o_goto (pc := 61) (tgt := 65) dX4_cut_61 rfl <| ?_
      exact o_lret (pc := 65) dX4_cut_65 rfl rfl
  refine o_ts_out (pc := 4) (tgt := 66) (ts_out (lo := 0) (hi := 4) [0, 1, 2, 3, 4] (by decide) (by decide) (fun c hc => by
      simp only [List.mem_cons, List.not_mem_nil, or_false] at hc
      rcases hc with rfl | rfl | rfl | rfl | rfl
      · exact h2
      · exact h3
      · exact h4
      · exact h5
      · exact h6)) dX4_cut_4 rfl ?_
  refine o_lload_n (pc := 66) 1 dX4_cut_66 rfl rfl <| ?_
  exact o_lret (pc := 67) dX4_cut_67 rfl rfl
def fC_item (sh : Sh) (R : RR) (m : MI) (a : Int32) (b : Int32) (c : Int64) : Option (Int32 × MI) :=
  (fC_tapeAt sh R m a).bind fun r1 =>
  mn r1.1 (
    some (-1, r1.2)
    ) fun a2 =>
    if sh[a2]? = some (14, 0) then
      if r1.2.1 a2 0 = -1 then
        some (-11, r1.2)
      else
        (fT_has sh R r1.2 a2 b).bind fun r6 =>
        if r6.1 = 0 then
          some (-13, r6.2)
        else
          mq (R a2 2) fun q9 =>
          (fT_cut sh R r6.2 a2 c).bind fun r10 =>
          if kA sh q9 1 = true then
            if ck b (lenA sh q9) = true then
              lm (mJ r10.2 q9 (vp_updL (r10.2.2 q9) b.toNatClampNeg r10.1)) fun m13 =>
              some (1, m13)
            else none
          else none
    else none
theorem sC_item {sh : Sh} {R : RR} (hF : Fx sh R) (m : MI) (a : Int32) (b : Int32) (c : Int64) : KS (eI sh R) false 1 0 0 YX6_item sh R m [.ref 0, .int a, .int b, .long c] (fC_item sh R m a b c) := by
  refine KS_of pn_X6 (fun _ => Nat.le_of_ble_eq_true rfl) ?_
  change S _ _ _ _ _ _ _ _ _ _ [(0, .ref 0), (1, .int a), (2, .int b), (3, .long c)] [] _
  unfold fC_item
  refine o_aload_n (pc := 0) 0 dX6_item_0 rfl rfl <| o_iload_n (pc := 1) 1 dX6_item_1 rfl rfl <| ?_
  refine o_callVQ (Y2 := YX6_tapeAt) (pc := 2) (av := [.int a]) (rest := []) dX6_item_2 k_760 cm_X6_tapeAt (sC_tapeAt hF m a) (hF.1 _ _ rfl) rfl rfl (Nat.le_of_ble_eq_true rfl) (Nat.le_of_ble_eq_true rfl) fun r1 => ?_
  refine o_mn (q := r1.1) (ls := fun q => [(0, .ref 0), (1, .int a), (2, .int b), (3, .long c)]) (st := fun q => [va_rf q]) ?_ (fun a2 => ?_)
  · show S _ _ _ _ _ _ _ _ _ _ [(0, .ref 0), (1, .int a), (2, .int b), (3, .long c)] [.null] _
    refine o_astoreN (pc := 5) (ls' := [(5, .null), (0, .ref 0), (1, .int a), (2, .int b), (3, .long c)]) dX6_item_5 (Nat.le_of_ble_eq_true rfl) rfl <| o_aloadN (pc := 7) 0 dX6_item_7 rfl <| o_ifnonnull_f (pc := 9) dX6_item_9 <| o_iconst (pc := 12) dX6_item_12 lc_m1 <| ?_
    exact o_iret (pc := 13) dX6_item_13 rfl rfl
  show S _ _ _ _ _ _ _ _ _ _ [(0, .ref 0), (1, .int a), (2, .int b), (3, .long c)] [.ref a2] _
  refine o_astore (pc := 5) (ls' := [(5, .ref a2), (0, .ref 0), (1, .int a), (2, .int b), (3, .long c)]) dX6_item_5 (Nat.le_of_ble_eq_true rfl) rfl <| o_aload (pc := 7) 0 dX6_item_7 rfl <| o_ifnonnull_t (pc := 9) (tgt := 14) dX6_item_9 rfl <| o_aload (pc := 14) 0 dX6_item_14 rfl <| ?_
  refine S_ck fun h4 => ?_
  refine o_getI (pc := 16) (ci := 4) (j := 0) (nn := 0) dX6_item_16 h4 rfl (Nat.le_of_ble_eq_true rfl) k_281 rfl <| o_iconst (pc := 19) dX6_item_19 lc_m1 <| ?_
  refine o_icmp_ne (pc := 20) (tgt := 26) dX6_item_20 rfl (fun h5 => ?_) (fun h5 => ?_)
  · refine o_bipush (pc := 23) dX6_item_23 lb_m11 <| ?_
    exact o_iret (pc := 25) dX6_item_25 rfl rfl
  · refine o_aload (pc := 26) 0 dX6_item_26 rfl <| o_iload_n (pc := 28) 3 dX6_item_28 rfl rfl <| ?_
    refine o_callVI (Y2 := YX4_has) (pc := 29) (av := [.int b]) (rest := []) dX6_item_29 k_764 cm_X4_has (sT_has hF r1.2 a2 b) h4 rfl rfl (Nat.le_of_ble_eq_true rfl) (Nat.le_of_ble_eq_true rfl) fun r6 => ?_
    refine o_if_ne (pc := 32) (tgt := 38) dX6_item_32 rfl (fun h7 => ?_) (fun h7 => ?_)
    · refine o_bipush (pc := 35) dX6_item_35 lb_m13 <| ?_
      exact o_iret (pc := 37) dX6_item_37 rfl rfl
    · refine o_aload (pc := 38) 0 dX6_item_38 rfl <| ?_
      refine S_mq fun q9 h8 => ?_
      refine o_getRc (pc := 40) (a := q9) (ci := 4) (j := 2) (nn := 0) dX6_item_40 h4 rfl (Nat.le_of_ble_eq_true rfl) k_284 rfl h8 <| o_iload_n (pc := 43) 3 dX6_item_43 rfl rfl <| o_aload (pc := 44) 0 dX6_item_44 rfl <| o_lload_n (pc := 46) 4 dX6_item_46 rfl rfl <| ?_
      refine o_callVL (Y2 := YX4_cut) (pc := 47) (av := [.long c]) (rest := [.int b, .ref q9]) dX6_item_47 k_837 cm_X4_cut (sT_cut hF r6.2 a2 c) h4 rfl rfl (Nat.le_of_ble_eq_true rfl) (Nat.le_of_ble_eq_true rfl) fun r10 => ?_
      refine S_ck fun h11 => ?_
      refine S_ck fun h12 => ?_
      refine o_last (pc := 50) (nn := lenA sh q9) dX6_item_50 (kA_ok h11) (ck_in h12) <| ?_
      refine o_lm fun m13 => ?_
      refine o_iconst (pc := 51) dX6_item_51 lc_1 <| ?_
      exact o_iret (pc := 52) dX6_item_52 rfl rfl
def fC_read (sh : Sh) (R : RR) (m : MI) (a : Int32) (b : Int32) : Option (Int64 × MI) :=
  (fC_tapeAt sh R m a).bind fun r1 =>
  mn r1.1 (
    some (-9223372036854775808, r1.2)
    ) fun a2 =>
    if sh[a2]? = some (14, 0) then
      (fT_has sh R r1.2 a2 b).bind fun r4 =>
      if r4.1 = 0 then
        some (-9223372036854775808, r4.2)
      else
        mq (R a2 2) fun q8 =>
        if kA sh q8 1 = true then
          if ck b (lenA sh q8) = true then
            some (r4.2.2 q8 b.toNatClampNeg, r4.2)
          else none
        else none
    else none
theorem sC_read {sh : Sh} {R : RR} (hF : Fx sh R) (m : MI) (a : Int32) (b : Int32) : KS (eL sh R) false 1 0 0 YX6_read sh R m [.ref 0, .int a, .int b] (fC_read sh R m a b) := by
  refine KS_of pn_X6 (fun _ => Nat.le_of_ble_eq_true rfl) ?_
  change S _ _ _ _ _ _ _ _ _ _ [(0, .ref 0), (1, .int a), (2, .int b)] [] _
  unfold fC_read
  refine o_aload_n (pc := 0) 0 dX6_read_0 rfl rfl <| o_iload_n (pc := 1) 1 dX6_read_1 rfl rfl <| ?_
  refine o_callVQ (Y2 := YX6_tapeAt) (pc := 2) (av := [.int a]) (rest := []) dX6_read_2 k_760 cm_X6_tapeAt (sC_tapeAt hF m a) (hF.1 _ _ rfl) rfl rfl (Nat.le_of_ble_eq_true rfl) (Nat.le_of_ble_eq_true rfl) fun r1 => ?_
  refine o_mn (q := r1.1) (ls := fun q => [(0, .ref 0), (1, .int a), (2, .int b)]) (st := fun q => [va_rf q]) ?_ (fun a2 => ?_)
  · show S _ _ _ _ _ _ _ _ _ _ [(0, .ref 0), (1, .int a), (2, .int b)] [.null] _
    refine o_astore_nN (pc := 5) (ls' := [(3, .null), (0, .ref 0), (1, .int a), (2, .int b)]) dX6_read_5 rfl (Nat.le_of_ble_eq_true rfl) rfl <| o_aload_nN (pc := 6) 0 dX6_read_6 rfl rfl <| o_ifnull_t (pc := 7) (tgt := 18) dX6_read_7 rfl <| o_ldc2 (pc := 18) dX6_read_18 k_690 <| o_goto (pc := 21) (tgt := 30) dX6_read_21 rfl <| ?_
    exact o_lret (pc := 30) dX6_read_30 rfl rfl
  show S _ _ _ _ _ _ _ _ _ _ [(0, .ref 0), (1, .int a), (2, .int b)] [.ref a2] _
  refine o_astore_n (pc := 5) (ls' := [(3, .ref a2), (0, .ref 0), (1, .int a), (2, .int b)]) dX6_read_5 rfl (Nat.le_of_ble_eq_true rfl) rfl <| o_aload_n (pc := 6) 0 dX6_read_6 rfl rfl <| o_ifnull_f (pc := 7) dX6_read_7 <| o_aload_n (pc := 10) 0 dX6_read_10 rfl rfl <| o_iload_n (pc := 11) 3 dX6_read_11 rfl rfl <| ?_
  refine S_ck fun h5 => ?_
  refine o_callVI (Y2 := YX4_has) (pc := 12) (av := [.int b]) (rest := []) dX6_read_12 k_764 cm_X4_has (sT_has hF r1.2 a2 b) h5 rfl rfl (Nat.le_of_ble_eq_true rfl) (Nat.le_of_ble_eq_true rfl) fun r4 => ?_
  refine o_if_ne (pc := 15) (tgt := 24) dX6_read_15 rfl (fun h6 => ?_) (fun h6 => ?_)
  · refine o_ldc2 (pc := 18) dX6_read_18 k_690 <| o_goto (pc := 21) (tgt := 30) dX6_read_21 rfl <| ?_
    exact o_lret (pc := 30) dX6_read_30 rfl rfl
  · refine o_aload_n (pc := 24) 0 dX6_read_24 rfl rfl <| ?_
    refine S_mq fun q8 h7 => ?_
    refine o_getRc (pc := 25) (a := q8) (ci := 4) (j := 2) (nn := 0) dX6_read_25 h5 rfl (Nat.le_of_ble_eq_true rfl) k_284 rfl h7 <| o_iload_n (pc := 28) 3 dX6_read_28 rfl rfl <| ?_
    refine S_ck fun h9 => ?_
    refine S_ck fun h10 => ?_
    refine o_lald (pc := 29) (nn := lenA sh q8) dX6_read_29 (kA_ok h9) (ck_in h10) <| ?_
    exact o_lret (pc := 30) dX6_read_30 rfl rfl
def fT_hasRun (sh : Sh) (R : RR) (m : MI) (t : Nat) (a : Int32) (b : Int32) : Option (Int32 × MI) :=
  if b < 0 then
    some (0, m)
  else
    if a < 0 then
      some (0, m)
    else
      if sh[t]? = some (14, 0) then
        if m.1 t 1 < a then
          some (0, m)
        else
          if (m.1 t 1) - a < b then
            some (0, m)
          else
            some (1, m)
      else none
theorem sT_hasRun {sh : Sh} {R : RR} (hF : Fx sh R) (m : MI) (t : Nat) (a : Int32) (b : Int32) : KS (eI sh R) false 0 0 0 YX4_hasRun sh R m [.ref t, .int a, .int b] (fT_hasRun sh R m t a b) := by
  refine KS_of pn_X4 (fun _ => Nat.le_of_ble_eq_true rfl) ?_
  change S _ _ _ _ _ _ _ _ _ _ [(0, .ref t), (1, .int a), (2, .int b)] [] _
  unfold fT_hasRun
  refine o_iload_n (pc := 0) 2 dX4_hasRun_0 rfl rfl <| ?_
  refine o_if_lt (pc := 1) (tgt := 30) dX4_hasRun_1 rfl (fun h1 => ?_) (fun h1 => ?_)
  · refine o_iconst (pc := 30) dX4_hasRun_30 lc_0 <| ?_
    exact o_zret (pc := 31) dX4_hasRun_31 rfl rfl rfl
  · refine o_iload_n (pc := 4) 1 dX4_hasRun_4 rfl rfl <| ?_
    refine o_if_lt (pc := 5) (tgt := 30) dX4_hasRun_5 rfl (fun h2 => ?_) (fun h2 => ?_)
    · refine o_iconst (pc := 30) dX4_hasRun_30 lc_0 <| ?_
      exact o_zret (pc := 31) dX4_hasRun_31 rfl rfl rfl
    · refine o_iload_n (pc := 8) 1 dX4_hasRun_8 rfl rfl <| o_aload_n (pc := 9) 0 dX4_hasRun_9 rfl rfl <| ?_
      refine S_ck fun h3 => ?_
      refine o_getI (pc := 10) (ci := 4) (j := 1) (nn := 0) dX4_hasRun_10 h3 rfl (Nat.le_of_ble_eq_true rfl) k_282 rfl <| ?_
      refine o_icmp_gt (pc := 13) (tgt := 30) dX4_hasRun_13 rfl (fun h4 => ?_) (fun h4 => ?_)
      · refine o_iconst (pc := 30) dX4_hasRun_30 lc_0 <| ?_
        exact o_zret (pc := 31) dX4_hasRun_31 rfl rfl rfl
      · refine o_iload_n (pc := 16) 2 dX4_hasRun_16 rfl rfl <| o_aload_n (pc := 17) 0 dX4_hasRun_17 rfl rfl <| o_getI (pc := 18) (ci := 4) (j := 1) (nn := 0) dX4_hasRun_18 h3 rfl (Nat.le_of_ble_eq_true rfl) k_282 rfl <| o_iload_n (pc := 21) 1 dX4_hasRun_21 rfl rfl <| o_isub (pc := 22) dX4_hasRun_22 <| ?_
        refine o_icmp_gt (pc := 23) (tgt := 30) dX4_hasRun_23 rfl (fun h5 => ?_) (fun h5 => ?_)
        · refine o_iconst (pc := 30) dX4_hasRun_30 lc_0 <| ?_
          exact o_zret (pc := 31) dX4_hasRun_31 rfl rfl rfl
        · refine o_iconst (pc := 26) dX4_hasRun_26 lc_1 <| o_goto (pc := 27) (tgt := 31) dX4_hasRun_27 rfl <| ?_
          exact o_zret (pc := 31) dX4_hasRun_31 rfl rfl rfl
def fC_shift (sh : Sh) (R : RR) (m : MI) (a : Int32) (b : Int32) (c : Int32) (d : Int32) (e : Int32) : Option (Int32 × MI) :=
  (fC_tapeAt sh R m a).bind fun r1 =>
  mn r1.1 (
    (fC_tapeAt sh R r1.2 c).bind fun r4 =>
    mn r4.1 (
      some (-1, r4.2)
      ) fun a5 =>
      some (-1, r4.2)
    ) fun a2 =>
    (fC_tapeAt sh R r1.2 c).bind fun r7 =>
    mn r7.1 (
      some (-1, r7.2)
      ) fun a8 =>
      if sh[a2]? = some (14, 0) then
        if r7.2.1 a2 0 = -1 then
          some (-11, r7.2)
        else
          if sh[a8]? = some (14, 0) then
            if r7.2.1 a8 0 = -1 then
              some (-11, r7.2)
            else
              if r7.2.1 a2 0 = r7.2.1 a8 0 then
                (fT_hasRun sh R r7.2 a2 b e).bind fun r15 =>
                if r15.1 = 0 then
                  some (-13, r15.2)
                else
                  (fT_hasRun sh R r15.2 a8 d e).bind fun r17 =>
                  if r17.1 = 0 then
                    some (-13, r17.2)
                  else
                    mq (R a2 2) fun q20 =>
                    mq (R a8 2) fun q22 =>
                    if kA sh q20 1 = true then
                      if kA sh q22 1 = true then
                        if cpk b d e (lenA sh q20) (lenA sh q22) = true then
                          lm (mJ r17.2 q22 (va_cpy (r17.2.2 q20) (r17.2.2 q22) b.toNatClampNeg d.toNatClampNeg e.toNatClampNeg)) fun m26 =>
                          some (e, m26)
                        else none
                      else none
                    else none
              else
                some (-12, r7.2)
          else none
      else none
theorem sC_shift {sh : Sh} {R : RR} (hF : Fx sh R) (m : MI) (a : Int32) (b : Int32) (c : Int32) (d : Int32) (e : Int32) : KS (eI sh R) false 1 0 0 YX6_shift sh R m [.ref 0, .int a, .int b, .int c, .int d, .int e] (fC_shift sh R m a b c d e) := by
  refine KS_of pn_X6 (fun _ => Nat.le_of_ble_eq_true rfl) ?_
  change S _ _ _ _ _ _ _ _ _ _ [(0, .ref 0), (1, .int a), (2, .int b), (3, .int c), (4, .int d), (5, .int e)] [] _
  unfold fC_shift
  refine o_aload_n (pc := 0) 0 dX6_shift_0 rfl rfl <| o_iload_n (pc := 1) 1 dX6_shift_1 rfl rfl <| ?_
  refine o_callVQ (Y2 := YX6_tapeAt) (pc := 2) (av := [.int a]) (rest := []) dX6_shift_2 k_760 cm_X6_tapeAt (sC_tapeAt hF m a) (hF.1 _ _ rfl) rfl rfl (Nat.le_of_ble_eq_true rfl) (Nat.le_of_ble_eq_true rfl) fun r1 => ?_
  refine o_mn (q := r1.1) (ls := fun q => [(0, .ref 0), (1, .int a), (2, .int b), (3, .int c), (4, .int d), (5, .int e)]) (st := fun q => [va_rf q]) ?_ (fun a2 => ?_)
  · show S _ _ _ _ _ _ _ _ _ _ [(0, .ref 0), (1, .int a), (2, .int b), (3, .int c), (4, .int d), (5, .int e)] [.null] _
    refine o_astoreN (pc := 5) (ls' := [(6, .null), (0, .ref 0), (1, .int a), (2, .int b), (3, .int c), (4, .int d), (5, .int e)]) dX6_shift_5 (Nat.le_of_ble_eq_true rfl) rfl <| o_aload_n (pc := 7) 1 dX6_shift_7 rfl rfl <| o_iload_n (pc := 8) 4 dX6_shift_8 rfl rfl <| ?_
    refine o_callVQ (Y2 := YX6_tapeAt) (pc := 9) (av := [.int c]) (rest := []) dX6_shift_9 k_760 cm_X6_tapeAt (sC_tapeAt hF r1.2 c) (hF.1 _ _ rfl) rfl rfl (Nat.le_of_ble_eq_true rfl) (Nat.le_of_ble_eq_true rfl) fun r4 => ?_
    refine o_mn (q := r4.1) (ls := fun q => [(6, .null), (0, .ref 0), (1, .int a), (2, .int b), (3, .int c), (4, .int d), (5, .int e)]) (st := fun q => [va_rf q]) ?_ (fun a5 => ?_)
    · show S _ _ _ _ _ _ _ _ _ _ [(6, .null), (0, .ref 0), (1, .int a), (2, .int b), (3, .int c), (4, .int d), (5, .int e)] [.null] _
      refine o_astoreN (pc := 12) (ls' := [(7, .null), (6, .null), (0, .ref 0), (1, .int a), (2, .int b), (3, .int c), (4, .int d), (5, .int e)]) dX6_shift_12 (Nat.le_of_ble_eq_true rfl) rfl <| o_aloadN (pc := 14) 1 dX6_shift_14 rfl <| o_ifnull_t (pc := 16) (tgt := 24) dX6_shift_16 rfl <| o_iconst (pc := 24) dX6_shift_24 lc_m1 <| ?_
      exact o_iret (pc := 25) dX6_shift_25 rfl rfl
    show S _ _ _ _ _ _ _ _ _ _ [(6, .null), (0, .ref 0), (1, .int a), (2, .int b), (3, .int c), (4, .int d), (5, .int e)] [.ref a5] _
    refine o_astore (pc := 12) (ls' := [(7, .ref a5), (6, .null), (0, .ref 0), (1, .int a), (2, .int b), (3, .int c), (4, .int d), (5, .int e)]) dX6_shift_12 (Nat.le_of_ble_eq_true rfl) rfl <| o_aloadN (pc := 14) 1 dX6_shift_14 rfl <| o_ifnull_t (pc := 16) (tgt := 24) dX6_shift_16 rfl <| o_iconst (pc := 24) dX6_shift_24 lc_m1 <| ?_
    exact o_iret (pc := 25) dX6_shift_25 rfl rfl
  show S _ _ _ _ _ _ _ _ _ _ [(0, .ref 0), (1, .int a), (2, .int b), (3, .int c), (4, .int d), (5, .int e)] [.ref a2] _
  refine o_astore (pc := 5) (ls' := [(6, .ref a2), (0, .ref 0), (1, .int a), (2, .int b), (3, .int c), (4, .int d), (5, .int e)]) dX6_shift_5 (Nat.le_of_ble_eq_true rfl) rfl <| o_aload_n (pc := 7) 1 dX6_shift_7 rfl rfl <| o_iload_n (pc := 8) 4 dX6_shift_8 rfl rfl <| ?_
  refine o_callVQ (Y2 := YX6_tapeAt) (pc := 9) (av := [.int c]) (rest := []) dX6_shift_9 k_760 cm_X6_tapeAt (sC_tapeAt hF r1.2 c) (hF.1 _ _ rfl) rfl rfl (Nat.le_of_ble_eq_true rfl) (Nat.le_of_ble_eq_true rfl) fun r7 => ?_
  refine o_mn (q := r7.1) (ls := fun q => [(6, .ref a2), (0, .ref 0), (1, .int a), (2, .int b), (3, .int c), (4, .int d), (5, .int e)]) (st := fun q => [va_rf q]) ?_ (fun a8 => ?_)
  · show S _ _ _ _ _ _ _ _ _ _ [(6, .ref a2), (0, .ref 0), (1, .int a), (2, .int b), (3, .int c), (4, .int d), (5, .int e)] [.null] _
    refine o_astoreN (pc := 12) (ls' := [(7, .null), (6, .ref a2), (0, .ref 0), (1, .int a), (2, .int b), (3, .int c), (4, .int d), (5, .int e)]) dX6_shift_12 (Nat.le_of_ble_eq_true rfl) rfl <| o_aload (pc := 14) 1 dX6_shift_14 rfl <| o_ifnull_f (pc := 16) dX6_shift_16 <| o_aloadN (pc := 19) 0 dX6_shift_19 rfl <| o_ifnonnull_f (pc := 21) dX6_shift_21 <| o_iconst (pc := 24) dX6_shift_24 lc_m1 <| ?_
    exact o_iret (pc := 25) dX6_shift_25 rfl rfl
  show S _ _ _ _ _ _ _ _ _ _ [(6, .ref a2), (0, .ref 0), (1, .int a), (2, .int b), (3, .int c), (4, .int d), (5, .int e)] [.ref a8] _
  refine o_astore (pc := 12) (ls' := [(7, .ref a8), (6, .ref a2), (0, .ref 0), (1, .int a), (2, .int b), (3, .int c), (4, .int d), (5, .int e)]) dX6_shift_12 (Nat.le_of_ble_eq_true rfl) rfl <| o_aload (pc := 14) 1 dX6_shift_14 rfl <| o_ifnull_f (pc := 16) dX6_shift_16 <| o_aload (pc := 19) 0 dX6_shift_19 rfl <| o_ifnonnull_t (pc := 21) (tgt := 26) dX6_shift_21 rfl <| o_aload (pc := 26) 1 dX6_shift_26 rfl <| ?_
  refine S_ck fun h10 => ?_
  refine o_getI (pc := 28) (ci := 4) (j := 0) (nn := 0) dX6_shift_28 h10 rfl (Nat.le_of_ble_eq_true rfl) k_281 rfl <| o_iconst (pc := 31) dX6_shift_31 lc_m1 <| ?_
  refine o_icmp_eq (pc := 32) (tgt := 44) dX6_shift_32 rfl (fun h11 => ?_) (fun h11 => ?_)
  · refine o_bipush (pc := 44) dX6_shift_44 lb_m11 <| ?_
    exact o_iret (pc := 46) dX6_shift_46 rfl rfl
  · refine o_aload (pc := 35) 0 dX6_shift_35 rfl <| ?_
    refine S_ck fun h12 => ?_
    refine o_getI (pc := 37) (ci := 4) (j := 0) (nn := 0) dX6_shift_37 h12 rfl (Nat.le_of_ble_eq_true rfl) k_281 rfl <| o_iconst (pc := 40) dX6_shift_40 lc_m1 <| ?_
    refine o_icmp_ne (pc := 41) (tgt := 47) dX6_shift_41 rfl (fun h13 => ?_) (fun h13 => ?_)
    · refine o_bipush (pc := 44) dX6_shift_44 lb_m11 <| ?_
      exact o_iret (pc := 46) dX6_shift_46 rfl rfl
    · refine o_aload (pc := 47) 1 dX6_shift_47 rfl <| o_getI (pc := 49) (ci := 4) (j := 0) (nn := 0) dX6_shift_49 h10 rfl (Nat.le_of_ble_eq_true rfl) k_281 rfl <| o_aload (pc := 52) 0 dX6_shift_52 rfl <| o_getI (pc := 54) (ci := 4) (j := 0) (nn := 0) dX6_shift_54 h12 rfl (Nat.le_of_ble_eq_true rfl) k_281 rfl <| ?_
      refine o_icmp_eq (pc := 57) (tgt := 63) dX6_shift_57 rfl (fun h14 => ?_) (fun h14 => ?_)
      · refine o_aload (pc := 63) 1 dX6_shift_63 rfl <| o_iload_n (pc := 65) 4 dX6_shift_65 rfl rfl <| o_iload (pc := 66) 7 dX6_shift_66 rfl <| ?_
        refine o_callVI (Y2 := YX4_hasRun) (pc := 68) (av := [.int b, .int e]) (rest := []) dX6_shift_68 k_849 cm_X4_hasRun (sT_hasRun hF r7.2 a2 b e) h10 rfl rfl (Nat.le_of_ble_eq_true rfl) (Nat.le_of_ble_eq_true rfl) fun r15 => ?_
        refine o_if_eq (pc := 71) (tgt := 86) dX6_shift_71 rfl (fun h16 => ?_) (fun h16 => ?_)
        · refine o_bipush (pc := 86) dX6_shift_86 lb_m13 <| ?_
          exact o_iret (pc := 88) dX6_shift_88 rfl rfl
        · refine o_aload (pc := 74) 0 dX6_shift_74 rfl <| o_iload (pc := 76) 6 dX6_shift_76 rfl <| o_iload (pc := 78) 7 dX6_shift_78 rfl <| ?_
          refine o_callVI (Y2 := YX4_hasRun) (pc := 80) (av := [.int d, .int e]) (rest := []) dX6_shift_80 k_849 cm_X4_hasRun (sT_hasRun hF r15.2 a8 d e) h12 rfl rfl (Nat.le_of_ble_eq_true rfl) (Nat.le_of_ble_eq_true rfl) fun r17 => ?_
          refine o_if_ne (pc := 83) (tgt := 89) dX6_shift_83 rfl (fun h18 => ?_) (fun h18 => ?_)
          · refine o_bipush (pc := 86) dX6_shift_86 lb_m13 <| ?_
            exact o_iret (pc := 88) dX6_shift_88 rfl rfl
          · refine o_aload (pc := 89) 1 dX6_shift_89 rfl <| ?_
            refine S_mq fun q20 h19 => ?_
            refine o_getRc (pc := 91) (a := q20) (ci := 4) (j := 2) (nn := 0) dX6_shift_91 h10 rfl (Nat.le_of_ble_eq_true rfl) k_284 rfl h19 <| o_iload_n (pc := 94) 4 dX6_shift_94 rfl rfl <| o_aload (pc := 95) 0 dX6_shift_95 rfl <| ?_
            refine S_mq fun q22 h21 => ?_
            refine o_getRc (pc := 97) (a := q22) (ci := 4) (j := 2) (nn := 0) dX6_shift_97 h12 rfl (Nat.le_of_ble_eq_true rfl) k_284 rfl h21 <| o_iload (pc := 100) 6 dX6_shift_100 rfl <| o_iload (pc := 102) 7 dX6_shift_102 rfl <| ?_
            refine S_ck fun h23 => ?_
            refine S_ck fun h24 => ?_
            refine S_ck fun h25 => ?_
            refine o_cpl (pc := 104) dX6_shift_104 k_393 k_395 k_394 k_82 (kA_ok h23) (kA_ok h24) h25 (Nat.le_of_ble_eq_true rfl) (Nat.le_of_ble_eq_true rfl) <| ?_
            refine o_lm fun m26 => ?_
            refine o_iload (pc := 107) 7 dX6_shift_107 rfl <| ?_
            exact o_iret (pc := 109) dX6_shift_109 rfl rfl
      · refine o_bipush (pc := 60) dX6_shift_60 lb_m12 <| ?_
        exact o_iret (pc := 62) dX6_shift_62 rfl rfl
