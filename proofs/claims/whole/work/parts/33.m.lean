def fW_firstShortOfBook_l25 (sh : Sh) (R : RR) (u1 : Int32) (u2 : Int32) (k0_0 : MI → Int32 → Int32 → Option (Int32 × MI)) : Nat → MI → Int32 → Int32 → Option (Int32 × MI)
  | 0, _, _, _ => none
  | n0 + 1, m, v3, v4 =>
    if m.1 1 13 ≤ v4 then
      k0_0 m v3 v4
    else
      if ck v4 8 = true then
        if ck v3 6 = true then
          (fW_chance sh R m (m.1 12 v3.toNatClampNeg) v3 u1 (u2 - v3)).bind fun r4 =>
          if r4.1 ≤ m.1 15 v4.toNatClampNeg then
            if r4.2.1 1 0 ≤ v3 + 1 then
              lt (v4 + 1) fun x7 =>
              fW_firstShortOfBook_l25 sh R u1 u2 k0_0 n0 r4.2 0 x7
            else
              lt (v3 + 1) fun x8 =>
              lt (v4 + 1) fun x9 =>
              fW_firstShortOfBook_l25 sh R u1 u2 k0_0 n0 r4.2 x8 x9
          else
            some (v4, r4.2)
        else none
      else none
theorem sW_firstShortOfBook_l25 {sh : Sh} {R : RR} (hF : Fx sh R) (u1 : Int32) (u2 : Int32) (k0_0 : MI → Int32 → Int32 → Option (Int32 × MI)) (hk0_0 : ∀ (m : MI) (v3 : Int32) (v4 : Int32) , S (eI sh R) false 4 0 0 YX5_firstShortOfBook sh R m 86 [(0, .ref 1), (1, .int u1), (2, .int u2), (3, .int v3), (4, .int v4)] [] (k0_0 m v3 v4)) : ∀ (n : Nat) (m : MI) (v3 : Int32) (v4 : Int32) , S (eI sh R) false 4 0 0 YX5_firstShortOfBook sh R m 25 [(0, .ref 1), (1, .int u1), (2, .int u2), (3, .int v3), (4, .int v4)] [] (fW_firstShortOfBook_l25 sh R u1 u2 k0_0 n m v3 v4) := by
  intro n
  induction n with
  | zero => intros; exact S_none
  | succ n0 ih0 =>
    intro m v3 v4
    rw [fW_firstShortOfBook_l25]
    refine o_iload (pc := 25) 4 dX5_firstShortOfBook_25 rfl <| o_aload_n (pc := 27) 0 dX5_firstShortOfBook_27 rfl rfl <| o_getI (pc := 28) (ci := 5) (j := 13) (nn := 0) dX5_firstShortOfBook_28 (hF.1 _ _ rfl) rfl (Nat.le_of_ble_eq_true rfl) k_150 rfl <| ?_
    refine o_icmp_ge (pc := 31) (tgt := 86) dX5_firstShortOfBook_31 rfl (fun h1 => ?_) (fun h1 => ?_)
    · exact hk0_0 m v3 v4
    · refine o_aload_n (pc := 34) 0 dX5_firstShortOfBook_34 rfl rfl <| o_getRc (pc := 35) (a := 15) (ci := 5) (j := 14) (nn := 0) dX5_firstShortOfBook_35 (hF.1 _ _ rfl) rfl (Nat.le_of_ble_eq_true rfl) k_152 rfl (hF.2 _ _ _ rfl) <| o_iload (pc := 38) 4 dX5_firstShortOfBook_38 rfl <| ?_
      refine S_ck fun h2 => ?_
      refine o_iald (pc := 40) (nn := 8) dX5_firstShortOfBook_40 (hF.1 _ _ rfl) (ck_in h2) <| o_aload_n (pc := 41) 0 dX5_firstShortOfBook_41 rfl rfl <| o_aload_n (pc := 42) 0 dX5_firstShortOfBook_42 rfl rfl <| o_getRc (pc := 43) (a := 12) (ci := 5) (j := 5) (nn := 0) dX5_firstShortOfBook_43 (hF.1 _ _ rfl) rfl (Nat.le_of_ble_eq_true rfl) k_134 rfl (hF.2 _ _ _ rfl) <| o_iload_n (pc := 46) 3 dX5_firstShortOfBook_46 rfl rfl <| ?_
      refine S_ck fun h3 => ?_
      refine o_iald (pc := 47) (nn := 6) dX5_firstShortOfBook_47 (hF.1 _ _ rfl) (ck_in h3) <| o_iload_n (pc := 48) 3 dX5_firstShortOfBook_48 rfl rfl <| o_iload_n (pc := 49) 1 dX5_firstShortOfBook_49 rfl rfl <| o_iload_n (pc := 50) 2 dX5_firstShortOfBook_50 rfl rfl <| o_iload_n (pc := 51) 3 dX5_firstShortOfBook_51 rfl rfl <| o_isub (pc := 52) dX5_firstShortOfBook_52 <| ?_
      refine o_callVI (Y2 := YX5_chance) (pc := 53) (av := [.int (m.1 12 v3.toNatClampNeg), .int v3, .int u1, .int (u2 - v3)]) (rest := [.int (m.1 15 v4.toNatClampNeg)]) dX5_firstShortOfBook_53 k_612 cm_X5_chance (sW_chance hF m (m.1 12 v3.toNatClampNeg) v3 u1 (u2 - v3)) (hF.1 _ _ rfl) rfl rfl (Nat.le_of_ble_eq_true rfl) (Nat.le_of_ble_eq_true rfl) fun r4 => ?_
      refine o_icmp_ge (pc := 56) (tgt := 62) dX5_firstShortOfBook_56 rfl (fun h5 => ?_) (fun h5 => ?_)
      · refine o_iload_n (pc := 62) 3 dX5_firstShortOfBook_62 rfl rfl <| o_iconst (pc := 63) dX5_firstShortOfBook_63 lc_1 <| o_iadd (pc := 64) dX5_firstShortOfBook_64 <| o_aload_n (pc := 65) 0 dX5_firstShortOfBook_65 rfl rfl <| o_getI (pc := 66) (ci := 5) (j := 0) (nn := 0) dX5_firstShortOfBook_66 (hF.1 _ _ rfl) rfl (Nat.le_of_ble_eq_true rfl) k_123 rfl <| ?_
        refine o_icmp_ge (pc := 69) (tgt := 78) dX5_firstShortOfBook_69 rfl (fun h6 => ?_) (fun h6 => ?_)
        · refine o_iconst (pc := 78) dX5_firstShortOfBook_78 lc_0 <| o_istore_n (pc := 79) (ls' := [(3, .int 0), (0, .ref 1), (1, .int u1), (2, .int u2), (4, .int v4)]) dX5_firstShortOfBook_79 rfl (Nat.le_of_ble_eq_true rfl) rfl <| o_iinc (pc := 80) 4 (v := v4 + 1) (ls' := [(4, .int (v4 + 1)), (3, .int 0), (0, .ref 1), (1, .int u1), (2, .int u2)]) dX5_firstShortOfBook_80 rfl rfl (Nat.le_of_ble_eq_true rfl) rfl <| ?_
          refine o_ltL (ls := fun x7 => [(4, .int x7), (3, .int 0), (0, .ref 1), (1, .int u1), (2, .int u2)]) fun x7 => ?_
          refine o_goto (pc := 83) (tgt := 25) dX5_firstShortOfBook_83 rfl <| ?_
          refine o_sub [2, 3, 4, 1, 0] (ls' := [(0, .ref 1), (1, .int u1), (2, .int u2), (3, .int 0), (4, .int x7)]) rfl ?_
          exact ih0 r4.2 0 x7
        · refine o_iload_n (pc := 72) 3 dX5_firstShortOfBook_72 rfl rfl <| o_iconst (pc := 73) dX5_firstShortOfBook_73 lc_1 <| o_iadd (pc := 74) dX5_firstShortOfBook_74 <| o_goto (pc := 75) (tgt := 79) dX5_firstShortOfBook_75 rfl <| ?_
          refine o_lt fun x8 => ?_
          refine o_istore_n (pc := 79) (ls' := [(3, .int x8), (0, .ref 1), (1, .int u1), (2, .int u2), (4, .int v4)]) dX5_firstShortOfBook_79 rfl (Nat.le_of_ble_eq_true rfl) rfl <| o_iinc (pc := 80) 4 (v := v4 + 1) (ls' := [(4, .int (v4 + 1)), (3, .int x8), (0, .ref 1), (1, .int u1), (2, .int u2)]) dX5_firstShortOfBook_80 rfl rfl (Nat.le_of_ble_eq_true rfl) rfl <| ?_
          refine o_ltL (ls := fun x9 => [(4, .int x9), (3, .int x8), (0, .ref 1), (1, .int u1), (2, .int u2)]) fun x9 => ?_
          refine o_goto (pc := 83) (tgt := 25) dX5_firstShortOfBook_83 rfl <| ?_
          refine o_sub [2, 3, 4, 1, 0] (ls' := [(0, .ref 1), (1, .int u1), (2, .int u2), (3, .int x8), (4, .int x9)]) rfl ?_
          exact ih0 r4.2 x8 x9
      · refine o_iload (pc := 59) 4 dX5_firstShortOfBook_59 rfl <| ?_
        exact o_iret (pc := 61) dX5_firstShortOfBook_61 rfl rfl
def fW_firstShortOfBook (sh : Sh) (R : RR) (m : MI) : Option (Int32 × MI) :=
  if m.1 1 0 = 0 then
    some (-5, m)
  else
    (fW_wholeShorts sh R m).bind fun r2 =>
    (fW_wholeLongs sh R r2.2).bind fun r3 =>
    fW_firstShortOfBook_l25 sh R r2.1 r3.1
      (fun m6 z4 z5 =>
        some (-5, m6)
        )
      1000 r3.2 0 0
theorem sW_firstShortOfBook {sh : Sh} {R : RR} (hF : Fx sh R) (m : MI) : KS (eI sh R) false 4 0 0 YX5_firstShortOfBook sh R m [.ref 1] (fW_firstShortOfBook sh R m ) := by
  refine KS_of pn_X5 (fun _ => Nat.le_of_ble_eq_true rfl) ?_
  change S _ _ _ _ _ _ _ _ _ _ [(0, .ref 1)] [] _
  unfold fW_firstShortOfBook
  refine o_aload_n (pc := 0) 0 dX5_firstShortOfBook_0 rfl rfl <| o_getI (pc := 1) (ci := 5) (j := 0) (nn := 0) dX5_firstShortOfBook_1 (hF.1 _ _ rfl) rfl (Nat.le_of_ble_eq_true rfl) k_123 rfl <| ?_
  refine o_if_ne (pc := 4) (tgt := 10) dX5_firstShortOfBook_4 rfl (fun h1 => ?_) (fun h1 => ?_)
  · refine o_bipush (pc := 7) dX5_firstShortOfBook_7 lb_m5 <| ?_
    exact o_iret (pc := 9) dX5_firstShortOfBook_9 rfl rfl
  · refine o_aload_n (pc := 10) 0 dX5_firstShortOfBook_10 rfl rfl <| ?_
    refine o_callVI (Y2 := YX5_wholeShorts) (pc := 11) (av := []) (rest := []) dX5_firstShortOfBook_11 k_338 cm_X5_wholeShorts (sW_wholeShorts hF m ) (hF.1 _ _ rfl) rfl rfl (Nat.le_of_ble_eq_true rfl) (Nat.le_of_ble_eq_true rfl) fun r2 => ?_
    refine o_istore_n (pc := 14) (ls' := [(1, .int r2.1), (0, .ref 1)]) dX5_firstShortOfBook_14 rfl (Nat.le_of_ble_eq_true rfl) rfl <| o_aload_n (pc := 15) 1 dX5_firstShortOfBook_15 rfl rfl <| ?_
    refine o_callVI (Y2 := YX5_wholeLongs) (pc := 16) (av := []) (rest := []) dX5_firstShortOfBook_16 k_342 cm_X5_wholeLongs (sW_wholeLongs hF r2.2 ) (hF.1 _ _ rfl) rfl rfl (Nat.le_of_ble_eq_true rfl) (Nat.le_of_ble_eq_true rfl) fun r3 => ?_
    refine o_istore_n (pc := 19) (ls' := [(2, .int r3.1), (1, .int r2.1), (0, .ref 1)]) dX5_firstShortOfBook_19 rfl (Nat.le_of_ble_eq_true rfl) rfl <| o_iconst (pc := 20) dX5_firstShortOfBook_20 lc_0 <| o_istore_n (pc := 21) (ls' := [(3, .int 0), (2, .int r3.1), (1, .int r2.1), (0, .ref 1)]) dX5_firstShortOfBook_21 rfl (Nat.le_of_ble_eq_true rfl) rfl <| o_iconst (pc := 22) dX5_firstShortOfBook_22 lc_0 <| o_istore (pc := 23) (ls' := [(4, .int 0), (3, .int 0), (2, .int r3.1), (1, .int r2.1), (0, .ref 1)]) dX5_firstShortOfBook_23 (Nat.le_of_ble_eq_true rfl) rfl <| ?_
    refine o_sub [4, 3, 2, 1, 0] (ls' := [(0, .ref 1), (1, .int r2.1), (2, .int r3.1), (3, .int 0), (4, .int 0)]) rfl ?_
    refine sW_firstShortOfBook_l25 hF r2.1 r3.1 _ ?_ 1000 r3.2 0 0
    · intro m6 z4 z5
      refine o_bipush (pc := 86) dX5_firstShortOfBook_86 lb_m5 <| ?_
      exact o_iret (pc := 88) dX5_firstShortOfBook_88 rfl rfl
def fC_looked (sh : Sh) (R : RR) (m : MI) : Option (Int32 × MI) :=
  (fW_firstShortOfBook sh R m).bind fun r1 =>
  some (r1.1, r1.2)
theorem sC_looked {sh : Sh} {R : RR} (hF : Fx sh R) (m : MI) : KS (eI sh R) false 5 0 0 YX6_looked sh R m [.ref 0] (fC_looked sh R m ) := by
  refine KS_of pn_X6 (fun _ => Nat.le_of_ble_eq_true rfl) ?_
  change S _ _ _ _ _ _ _ _ _ _ [(0, .ref 0)] [] _
  unfold fC_looked
  refine o_aload_n (pc := 0) 0 dX6_looked_0 rfl rfl <| o_getRc (pc := 1) (a := 1) (ci := 6) (j := 0) (nn := 0) dX6_looked_1 (hF.1 _ _ rfl) rfl (Nat.le_of_ble_eq_true rfl) k_292 rfl (hF.2 _ _ _ rfl) <| ?_
  refine o_callVI (Y2 := YX5_firstShortOfBook) (pc := 4) (av := []) (rest := []) dX6_looked_4 k_752 cm_X5_firstShortOfBook (sW_firstShortOfBook hF m ) (hF.1 _ _ rfl) rfl rfl (Nat.le_of_ble_eq_true rfl) (Nat.le_of_ble_eq_true rfl) fun r1 => ?_
  exact o_iret (pc := 7) dX6_looked_7 rfl rfl
def fC_tapeAt (sh : Sh) (R : RR) (m : MI) (a : Int32) : Option (Option Nat × MI) :=
  if a < 0 then
    some (none, m)
  else
    if a < 6 then
      if ck a 6 = true then
        some (R 48 a.toNatClampNeg, m)
      else none
    else
      some (none, m)
theorem sC_tapeAt {sh : Sh} {R : RR} (hF : Fx sh R) (m : MI) (a : Int32) : KS (eQ sh R) false 0 0 0 YX6_tapeAt sh R m [.ref 0, .int a] (fC_tapeAt sh R m a) := by
  refine KS_of pn_X6 (fun _ => Nat.le_of_ble_eq_true rfl) ?_
  change S _ _ _ _ _ _ _ _ _ _ [(0, .ref 0), (1, .int a)] [] _
  unfold fC_tapeAt
  refine o_iload_n (pc := 0) 1 dX6_tapeAt_0 rfl rfl <| ?_
  refine o_if_lt (pc := 1) (tgt := 10) dX6_tapeAt_1 rfl (fun h1 => ?_) (fun h1 => ?_)
  · refine o_null (pc := 10) dX6_tapeAt_10 <| o_goto (pc := 11) (tgt := 20) dX6_tapeAt_11 rfl <| ?_
    exact o_aret (pc := 20) (q := none) dX6_tapeAt_20 rfl (Or.inl ⟨_, rfl⟩) rfl
  · refine o_iload_n (pc := 4) 1 dX6_tapeAt_4 rfl rfl <| o_bipush (pc := 5) dX6_tapeAt_5 lb_6 <| ?_
    refine o_icmp_lt (pc := 7) (tgt := 14) dX6_tapeAt_7 rfl (fun h2 => ?_) (fun h2 => ?_)
    · refine o_aload_n (pc := 14) 0 dX6_tapeAt_14 rfl rfl <| o_getRc (pc := 15) (a := 48) (ci := 6) (j := 9) (nn := 0) dX6_tapeAt_15 (hF.1 _ _ rfl) rfl (Nat.le_of_ble_eq_true rfl) k_301 rfl (hF.2 _ _ _ rfl) <| o_iload_n (pc := 18) 1 dX6_tapeAt_18 rfl rfl <| ?_
      refine S_ck fun h3 => ?_
      refine o_aald (pc := 19) (nn := 6) dX6_tapeAt_19 (hF.1 _ _ rfl) (ck_in h3) rfl <| ?_
      exact o_aret (pc := 20) (q := R 48 a.toNatClampNeg) dX6_tapeAt_20 rfl (Or.inl ⟨_, rfl⟩) rfl
    · refine o_null (pc := 10) dX6_tapeAt_10 <| o_goto (pc := 11) (tgt := 20) dX6_tapeAt_11 rfl <| ?_
      exact o_aret (pc := 20) (q := none) dX6_tapeAt_20 rfl (Or.inl ⟨_, rfl⟩) rfl
def fT_has (sh : Sh) (R : RR) (m : MI) (t : Nat) (a : Int32) : Option (Int32 × MI) :=
  if a < 0 then
    some (0, m)
  else
    if sh[t]? = some (14, 0) then
      if m.1 t 1 ≤ a then
        some (0, m)
      else
        some (1, m)
    else none
theorem sT_has {sh : Sh} {R : RR} (hF : Fx sh R) (m : MI) (t : Nat) (a : Int32) : KS (eI sh R) false 0 0 0 YX4_has sh R m [.ref t, .int a] (fT_has sh R m t a) := by
  refine KS_of pn_X4 (fun _ => Nat.le_of_ble_eq_true rfl) ?_
  change S _ _ _ _ _ _ _ _ _ _ [(0, .ref t), (1, .int a)] [] _
  unfold fT_has
  refine o_iload_n (pc := 0) 1 dX4_has_0 rfl rfl <| ?_
  refine o_if_lt (pc := 1) (tgt := 16) dX4_has_1 rfl (fun h1 => ?_) (fun h1 => ?_)
  · refine o_iconst (pc := 16) dX4_has_16 lc_0 <| ?_
    exact o_zret (pc := 17) dX4_has_17 rfl rfl rfl
  · refine o_iload_n (pc := 4) 1 dX4_has_4 rfl rfl <| o_aload_n (pc := 5) 0 dX4_has_5 rfl rfl <| ?_
    refine S_ck fun h2 => ?_
    refine o_getI (pc := 6) (ci := 4) (j := 1) (nn := 0) dX4_has_6 h2 rfl (Nat.le_of_ble_eq_true rfl) k_282 rfl <| ?_
    refine o_icmp_ge (pc := 9) (tgt := 16) dX4_has_9 rfl (fun h3 => ?_) (fun h3 => ?_)
    · refine o_iconst (pc := 16) dX4_has_16 lc_0 <| ?_
      exact o_zret (pc := 17) dX4_has_17 rfl rfl rfl
    · refine o_iconst (pc := 12) dX4_has_12 lc_1 <| o_goto (pc := 13) (tgt := 17) dX4_has_13 rfl <| ?_
      exact o_zret (pc := 17) dX4_has_17 rfl rfl rfl
def fC_judge_l34 (sh : Sh) (R : RR) (u1 : Int32) (u2 : Int32) (u3 : Nat) (k0_0 : MI → Int32 → Option (Int32 × MI)) : Nat → MI → Int32 → Option (Int32 × MI)
  | 0, _, _ => none
  | n0 + 1, m, v4 =>
    if m.1 1 0 ≤ v4 then
      k0_0 m v4
    else
      if sh[u3]? = some (14, 0) then
        (fT_has sh R m u3 (u2 + v4)).bind fun r2 =>
        if r2.1 = 0 then
          some (100 + v4, r2.2)
        else
          mq (R u3 2) fun q6 =>
          if kA sh q6 1 = true then
            if ck (u2 + v4) (lenA sh q6) = true then
              if ck v4 6 = true then
                if lg_cmp (r2.2.2 q6 (u2 + v4).toNatClampNeg) ((r2.2.1 4 v4.toNatClampNeg).toInt64) = 0 then
                  lt (v4 + 1) fun x11 =>
                  fC_judge_l34 sh R u1 u2 u3 k0_0 n0 r2.2 x11
                else
                  some (v4, r2.2)
              else none
            else none
          else none
      else none
theorem sC_judge_l34 {sh : Sh} {R : RR} (hF : Fx sh R) (u1 : Int32) (u2 : Int32) (u3 : Nat) (k0_0 : MI → Int32 → Option (Int32 × MI)) (hk0_0 : ∀ (m : MI) (v4 : Int32) , S (eI sh R) false 1 0 0 YX6_judge sh R m 96 [(0, .ref 0), (1, .int u1), (2, .int u2), (3, .ref u3), (4, .int v4)] [] (k0_0 m v4)) : ∀ (n : Nat) (m : MI) (v4 : Int32) , S (eI sh R) false 1 0 0 YX6_judge sh R m 34 [(0, .ref 0), (1, .int u1), (2, .int u2), (3, .ref u3), (4, .int v4)] [] (fC_judge_l34 sh R u1 u2 u3 k0_0 n m v4) := by
  intro n
  induction n with
  | zero => intros; exact S_none
  | succ n0 ih0 =>
    intro m v4
    rw [fC_judge_l34]
    refine o_iload (pc := 34) 4 dX6_judge_34 rfl <| o_aload_n (pc := 36) 0 dX6_judge_36 rfl rfl <| o_getRc (pc := 37) (a := 1) (ci := 6) (j := 0) (nn := 0) dX6_judge_37 (hF.1 _ _ rfl) rfl (Nat.le_of_ble_eq_true rfl) k_292 rfl (hF.2 _ _ _ rfl) <| o_getI (pc := 40) (ci := 5) (j := 0) (nn := 0) dX6_judge_40 (hF.1 _ _ rfl) rfl (Nat.le_of_ble_eq_true rfl) k_124 rfl <| ?_
    refine o_icmp_ge (pc := 43) (tgt := 96) dX6_judge_43 rfl (fun h1 => ?_) (fun h1 => ?_)
    · exact hk0_0 m v4
    · refine o_aload_n (pc := 46) 3 dX6_judge_46 rfl rfl <| o_iload_n (pc := 47) 2 dX6_judge_47 rfl rfl <| o_iload (pc := 48) 4 dX6_judge_48 rfl <| o_iadd (pc := 50) dX6_judge_50 <| ?_
      refine S_ck fun h3 => ?_
      refine o_callVI (Y2 := YX4_has) (pc := 51) (av := [.int (u2 + v4)]) (rest := []) dX6_judge_51 k_764 cm_X4_has (sT_has hF m u3 (u2 + v4)) h3 rfl rfl (Nat.le_of_ble_eq_true rfl) (Nat.le_of_ble_eq_true rfl) fun r2 => ?_
      refine o_if_ne (pc := 54) (tgt := 63) dX6_judge_54 rfl (fun h4 => ?_) (fun h4 => ?_)
      · refine o_bipush (pc := 57) dX6_judge_57 lb_100 <| o_iload (pc := 59) 4 dX6_judge_59 rfl <| o_iadd (pc := 61) dX6_judge_61 <| ?_
        exact o_iret (pc := 62) dX6_judge_62 rfl rfl
      · refine o_aload_n (pc := 63) 3 dX6_judge_63 rfl rfl <| ?_
        refine S_mq fun q6 h5 => ?_
        refine o_getRc (pc := 64) (a := q6) (ci := 4) (j := 2) (nn := 0) dX6_judge_64 h3 rfl (Nat.le_of_ble_eq_true rfl) k_284 rfl h5 <| o_iload_n (pc := 67) 2 dX6_judge_67 rfl rfl <| o_iload (pc := 68) 4 dX6_judge_68 rfl <| o_iadd (pc := 70) dX6_judge_70 <| ?_
        refine S_ck fun h7 => ?_
        refine S_ck fun h8 => ?_
        refine o_lald (pc := 71) (nn := lenA sh q6) dX6_judge_71 (kA_ok h7) (ck_in h8) <| o_aload_n (pc := 72) 0 dX6_judge_72 rfl rfl <| o_getRc (pc := 73) (a := 1) (ci := 6) (j := 0) (nn := 0) dX6_judge_73 (hF.1 _ _ rfl) rfl (Nat.le_of_ble_eq_true rfl) k_292 rfl (hF.2 _ _ _ rfl) <| o_getRc (pc := 76) (a := 4) (ci := 5) (j := 3) (nn := 0) dX6_judge_76 (hF.1 _ _ rfl) rfl (Nat.le_of_ble_eq_true rfl) k_131 rfl (hF.2 _ _ _ rfl) <| o_iload (pc := 79) 4 dX6_judge_79 rfl <| ?_
        refine S_ck fun h9 => ?_
        refine o_iald (pc := 81) (nn := 6) dX6_judge_81 (hF.1 _ _ rfl) (ck_in h9) <| o_i2l (pc := 82) dX6_judge_82 <| o_lcmp (pc := 83) dX6_judge_83 <| ?_
        refine o_if_eq (pc := 84) (tgt := 90) dX6_judge_84 rfl (fun h10 => ?_) (fun h10 => ?_)
        · refine o_iinc (pc := 90) 4 (v := v4 + 1) (ls' := [(4, .int (v4 + 1)), (0, .ref 0), (1, .int u1), (2, .int u2), (3, .ref u3)]) dX6_judge_90 rfl rfl (Nat.le_of_ble_eq_true rfl) rfl <| ?_
          refine o_ltL (ls := fun x11 => [(4, .int x11), (0, .ref 0), (1, .int u1), (2, .int u2), (3, .ref u3)]) fun x11 => ?_
          refine o_goto (pc := 93) (tgt := 34) dX6_judge_93 rfl <| ?_
          refine o_sub [1, 2, 3, 4, 0] (ls' := [(0, .ref 0), (1, .int u1), (2, .int u2), (3, .ref u3), (4, .int x11)]) rfl ?_
          exact ih0 r2.2 x11
        · refine o_iload (pc := 87) 4 dX6_judge_87 rfl <| ?_
          exact o_iret (pc := 89) dX6_judge_89 rfl rfl
def fC_judge (sh : Sh) (R : RR) (m : MI) (a : Int32) (b : Int32) : Option (Int32 × MI) :=
  (fC_tapeAt sh R m a).bind fun r1 =>
  mn r1.1 (
    some (-1, r1.2)
    ) fun a2 =>
    if sh[a2]? = some (14, 0) then
      if r1.2.1 a2 0 = -1 then
        fC_judge_l34 sh R a b a2
          (fun m7 z6 =>
            some (-5, m7)
            )
          1000 r1.2 0
      else
        if r1.2.1 a2 0 = 2 then
          fC_judge_l34 sh R a b a2
            (fun m10 z9 =>
              some (-5, m10)
              )
            1000 r1.2 0
        else
          some (-12, r1.2)
    else none
theorem sC_judge {sh : Sh} {R : RR} (hF : Fx sh R) (m : MI) (a : Int32) (b : Int32) : KS (eI sh R) false 1 0 0 YX6_judge sh R m [.ref 0, .int a, .int b] (fC_judge sh R m a b) := by
  refine KS_of pn_X6 (fun _ => Nat.le_of_ble_eq_true rfl) ?_
  change S _ _ _ _ _ _ _ _ _ _ [(0, .ref 0), (1, .int a), (2, .int b)] [] _
  unfold fC_judge
  refine o_aload_n (pc := 0) 0 dX6_judge_0 rfl rfl <| o_iload_n (pc := 1) 1 dX6_judge_1 rfl rfl <| ?_
  refine o_callVQ (Y2 := YX6_tapeAt) (pc := 2) (av := [.int a]) (rest := []) dX6_judge_2 k_760 cm_X6_tapeAt (sC_tapeAt hF m a) (hF.1 _ _ rfl) rfl rfl (Nat.le_of_ble_eq_true rfl) (Nat.le_of_ble_eq_true rfl) fun r1 => ?_
  refine o_mn (q := r1.1) (ls := fun q => [(0, .ref 0), (1, .int a), (2, .int b)]) (st := fun q => [va_rf q]) ?_ (fun a2 => ?_)
  · show S _ _ _ _ _ _ _ _ _ _ [(0, .ref 0), (1, .int a), (2, .int b)] [.null] _
    refine o_astore_nN (pc := 5) (ls' := [(3, .null), (0, .ref 0), (1, .int a), (2, .int b)]) dX6_judge_5 rfl (Nat.le_of_ble_eq_true rfl) rfl <| o_aload_nN (pc := 6) 0 dX6_judge_6 rfl rfl <| o_ifnonnull_f (pc := 7) dX6_judge_7 <| o_iconst (pc := 10) dX6_judge_10 lc_m1 <| ?_
    exact o_iret (pc := 11) dX6_judge_11 rfl rfl
  show S _ _ _ _ _ _ _ _ _ _ [(0, .ref 0), (1, .int a), (2, .int b)] [.ref a2] _
  refine o_astore_n (pc := 5) (ls' := [(3, .ref a2), (0, .ref 0), (1, .int a), (2, .int b)]) dX6_judge_5 rfl (Nat.le_of_ble_eq_true rfl) rfl <| o_aload_n (pc := 6) 0 dX6_judge_6 rfl rfl <| o_ifnonnull_t (pc := 7) (tgt := 12) dX6_judge_7 rfl <| o_aload_n (pc := 12) 0 dX6_judge_12 rfl rfl <| ?_
  refine S_ck fun h4 => ?_
  refine o_getI (pc := 13) (ci := 4) (j := 0) (nn := 0) dX6_judge_13 h4 rfl (Nat.le_of_ble_eq_true rfl) k_281 rfl <| o_iconst (pc := 16) dX6_judge_16 lc_m1 <| ?_
  refine o_icmp_eq (pc := 17) (tgt := 31) dX6_judge_17 rfl (fun h5 => ?_) (fun h5 => ?_)
  · refine o_iconst (pc := 31) dX6_judge_31 lc_0 <| o_istore (pc := 32) (ls' := [(4, .int 0), (3, .ref a2), (0, .ref 0), (1, .int a), (2, .int b)]) dX6_judge_32 (Nat.le_of_ble_eq_true rfl) rfl <| ?_
    refine o_sub [2, 3, 4, 1, 0] (ls' := [(0, .ref 0), (1, .int a), (2, .int b), (3, .ref a2), (4, .int 0)]) rfl ?_
    refine sC_judge_l34 hF a b a2 _ ?_ 1000 r1.2 0
    · intro m7 z6
      refine o_bipush (pc := 96) dX6_judge_96 lb_m5 <| ?_
      exact o_iret (pc := 98) dX6_judge_98 rfl rfl
  · refine o_aload_n (pc := 20) 0 dX6_judge_20 rfl rfl <| o_getI (pc := 21) (ci := 4) (j := 0) (nn := 0) dX6_judge_21 h4 rfl (Nat.le_of_ble_eq_true rfl) k_281 rfl <| o_iconst (pc := 24) dX6_judge_24 lc_2 <| ?_
    refine o_icmp_eq (pc := 25) (tgt := 31) dX6_judge_25 rfl (fun h8 => ?_) (fun h8 => ?_)
    · refine o_iconst (pc := 31) dX6_judge_31 lc_0 <| o_istore (pc := 32) (ls' := [(4, .int 0), (3, .ref a2), (0, .ref 0), (1, .int a), (2, .int b)]) dX6_judge_32 (Nat.le_of_ble_eq_true rfl) rfl <| ?_
      refine o_sub [2, 3, 4, 1, 0] (ls' := [(0, .ref 0), (1, .int a), (2, .int b), (3, .ref a2), (4, .int 0)]) rfl ?_
      refine sC_judge_l34 hF a b a2 _ ?_ 1000 r1.2 0
      · intro m10 z9
        refine o_bipush (pc := 96) dX6_judge_96 lb_m5 <| ?_
        exact o_iret (pc := 98) dX6_judge_98 rfl rfl
    · refine o_bipush (pc := 28) dX6_judge_28 lb_m12 <| ?_
      exact o_iret (pc := 30) dX6_judge_30 rfl rfl
def fC_act (m : MI) (a : Int32) (b : Int32) (c : Int32) : Option (Int32 × MI) :=
  lm (mI m 46 (upd (m.1 46) 0 0)) fun m1 =>
  (fW_has m1 a).bind fun r2 =>
  if r2.1 = 0 then
    some (0, r2.2)
  else
    if b < 0 then
      some (0, r2.2)
    else
      if b < 3 then
        if ck a 6 = true then
          if ck a 6 = true then
            (fA_begin r2.2 a (r2.2.1 2 a.toNatClampNeg) (r2.2.1 3 a.toNatClampNeg) b c).bind fun r8 =>
            some (r8.1, r8.2)
          else none
        else none
      else
        some (0, r2.2)
theorem sC_act {sh : Sh} {R : RR} (hF : Fx sh R) (m : MI) (a : Int32) (b : Int32) (c : Int32) : KS (eI sh R) false 22 0 0 YX6_act sh R m [.ref 0, .int a, .int b, .int c] (fC_act m a b c) := by
  refine KS_of pn_X6 (fun _ => Nat.le_of_ble_eq_true rfl) ?_
  change S _ _ _ _ _ _ _ _ _ _ [(0, .ref 0), (1, .int a), (2, .int b), (3, .int c)] [] _
  unfold fC_act
  refine o_aload_n (pc := 0) 0 dX6_act_0 rfl rfl <| o_getRc (pc := 1) (a := 46) (ci := 6) (j := 8) (nn := 0) dX6_act_1 (hF.1 _ _ rfl) rfl (Nat.le_of_ble_eq_true rfl) k_300 rfl (hF.2 _ _ _ rfl) <| o_iconst (pc := 4) dX6_act_4 lc_0 <| o_putI (pc := 5) (ci := 0) (j := 0) (nn := 0) dX6_act_5 (hF.1 _ _ rfl) rfl (Nat.le_of_ble_eq_true rfl) k_256 rfl rfl rfl rfl rfl <| ?_
  refine o_lm fun m1 => ?_
  refine o_aload_n (pc := 8) 0 dX6_act_8 rfl rfl <| o_getRc (pc := 9) (a := 1) (ci := 6) (j := 0) (nn := 0) dX6_act_9 (hF.1 _ _ rfl) rfl (Nat.le_of_ble_eq_true rfl) k_292 rfl (hF.2 _ _ _ rfl) <| o_iload_n (pc := 12) 1 dX6_act_12 rfl rfl <| ?_
  refine o_callVI (Y2 := YX5_has) (pc := 13) (av := [.int a]) (rest := []) dX6_act_13 k_353 cm_X5_has (sW_has hF m1 a) (hF.1 _ _ rfl) rfl rfl (Nat.le_of_ble_eq_true rfl) (Nat.le_of_ble_eq_true rfl) fun r2 => ?_
  refine o_if_eq (pc := 16) (tgt := 28) dX6_act_16 rfl (fun h3 => ?_) (fun h3 => ?_)
  · refine o_iconst (pc := 28) dX6_act_28 lc_0 <| ?_
    exact o_iret (pc := 29) dX6_act_29 rfl rfl
  · refine o_iload_n (pc := 19) 2 dX6_act_19 rfl rfl <| ?_
    refine o_if_lt (pc := 20) (tgt := 28) dX6_act_20 rfl (fun h4 => ?_) (fun h4 => ?_)
    · refine o_iconst (pc := 28) dX6_act_28 lc_0 <| ?_
      exact o_iret (pc := 29) dX6_act_29 rfl rfl
    · refine o_iload_n (pc := 23) 2 dX6_act_23 rfl rfl <| o_iconst (pc := 24) dX6_act_24 lc_3 <| ?_
      refine o_icmp_lt (pc := 25) (tgt := 30) dX6_act_25 rfl (fun h5 => ?_) (fun h5 => ?_)
      · refine o_aload_n (pc := 30) 0 dX6_act_30 rfl rfl <| o_getRc (pc := 31) (a := 46) (ci := 6) (j := 8) (nn := 0) dX6_act_31 (hF.1 _ _ rfl) rfl (Nat.le_of_ble_eq_true rfl) k_300 rfl (hF.2 _ _ _ rfl) <| o_iload_n (pc := 34) 1 dX6_act_34 rfl rfl <| o_aload_n (pc := 35) 0 dX6_act_35 rfl rfl <| o_getRc (pc := 36) (a := 1) (ci := 6) (j := 0) (nn := 0) dX6_act_36 (hF.1 _ _ rfl) rfl (Nat.le_of_ble_eq_true rfl) k_292 rfl (hF.2 _ _ _ rfl) <| o_getRc (pc := 39) (a := 2) (ci := 5) (j := 1) (nn := 0) dX6_act_39 (hF.1 _ _ rfl) rfl (Nat.le_of_ble_eq_true rfl) k_127 rfl (hF.2 _ _ _ rfl) <| o_iload_n (pc := 42) 1 dX6_act_42 rfl rfl <| ?_
        refine S_ck fun h6 => ?_
        refine o_iald (pc := 43) (nn := 6) dX6_act_43 (hF.1 _ _ rfl) (ck_in h6) <| o_aload_n (pc := 44) 0 dX6_act_44 rfl rfl <| o_getRc (pc := 45) (a := 1) (ci := 6) (j := 0) (nn := 0) dX6_act_45 (hF.1 _ _ rfl) rfl (Nat.le_of_ble_eq_true rfl) k_292 rfl (hF.2 _ _ _ rfl) <| o_getRc (pc := 48) (a := 3) (ci := 5) (j := 2) (nn := 0) dX6_act_48 (hF.1 _ _ rfl) rfl (Nat.le_of_ble_eq_true rfl) k_129 rfl (hF.2 _ _ _ rfl) <| o_iload_n (pc := 51) 1 dX6_act_51 rfl rfl <| ?_
        refine S_ck fun h7 => ?_
        refine o_iald (pc := 52) (nn := 6) dX6_act_52 (hF.1 _ _ rfl) (ck_in h7) <| o_iload_n (pc := 53) 2 dX6_act_53 rfl rfl <| o_iload_n (pc := 54) 3 dX6_act_54 rfl rfl <| ?_
        refine o_callVI (Y2 := YX0_begin) (pc := 55) (av := [.int a, .int (r2.2.1 2 a.toNatClampNeg), .int (r2.2.1 3 a.toNatClampNeg), .int b, .int c]) (rest := []) dX6_act_55 k_785 cm_X0_begin (sA_begin hF r2.2 a (r2.2.1 2 a.toNatClampNeg) (r2.2.1 3 a.toNatClampNeg) b c) (hF.1 _ _ rfl) rfl rfl (Nat.le_of_ble_eq_true rfl) (Nat.le_of_ble_eq_true rfl) fun r8 => ?_
        exact o_iret (pc := 58) dX6_act_58 rfl rfl
      · refine o_iconst (pc := 28) dX6_act_28 lc_0 <| ?_
        exact o_iret (pc := 29) dX6_act_29 rfl rfl
def fC_trace (m : MI) (a : Int32) : Option (Int32 × MI) :=
  if a < 0 then
    some (-1, m)
  else
    if m.1 46 0 ≤ a then
      some (-1, m)
    else
      if a < 20 then
        if ck a 20 = true then
          some (m.1 47 a.toNatClampNeg, m)
        else none
      else
        some (-1, m)
theorem sC_trace {sh : Sh} {R : RR} (hF : Fx sh R) (m : MI) (a : Int32) : KS (eI sh R) false 0 0 0 YX6_trace sh R m [.ref 0, .int a] (fC_trace m a) := by
  refine KS_of pn_X6 (fun _ => Nat.le_of_ble_eq_true rfl) ?_
  change S _ _ _ _ _ _ _ _ _ _ [(0, .ref 0), (1, .int a)] [] _
  unfold fC_trace
  refine o_iload_n (pc := 0) 1 dX6_trace_0 rfl rfl <| ?_
  refine o_if_lt (pc := 1) (tgt := 21) dX6_trace_1 rfl (fun h1 => ?_) (fun h1 => ?_)
  · refine o_iconst (pc := 21) dX6_trace_21 lc_m1 <| o_goto (pc := 22) (tgt := 34) dX6_trace_22 rfl <| ?_
    exact o_iret (pc := 34) dX6_trace_34 rfl rfl
  · refine o_iload_n (pc := 4) 1 dX6_trace_4 rfl rfl <| o_aload_n (pc := 5) 0 dX6_trace_5 rfl rfl <| o_getRc (pc := 6) (a := 46) (ci := 6) (j := 8) (nn := 0) dX6_trace_6 (hF.1 _ _ rfl) rfl (Nat.le_of_ble_eq_true rfl) k_300 rfl (hF.2 _ _ _ rfl) <| o_getI (pc := 9) (ci := 0) (j := 0) (nn := 0) dX6_trace_9 (hF.1 _ _ rfl) rfl (Nat.le_of_ble_eq_true rfl) k_256 rfl <| ?_
    refine o_icmp_ge (pc := 12) (tgt := 21) dX6_trace_12 rfl (fun h2 => ?_) (fun h2 => ?_)
    · refine o_iconst (pc := 21) dX6_trace_21 lc_m1 <| o_goto (pc := 22) (tgt := 34) dX6_trace_22 rfl <| ?_
      exact o_iret (pc := 34) dX6_trace_34 rfl rfl
    · refine o_iload_n (pc := 15) 1 dX6_trace_15 rfl rfl <| o_bipush (pc := 16) dX6_trace_16 lb_20 <| ?_
      refine o_icmp_lt (pc := 18) (tgt := 25) dX6_trace_18 rfl (fun h3 => ?_) (fun h3 => ?_)
      · refine o_aload_n (pc := 25) 0 dX6_trace_25 rfl rfl <| o_getRc (pc := 26) (a := 46) (ci := 6) (j := 8) (nn := 0) dX6_trace_26 (hF.1 _ _ rfl) rfl (Nat.le_of_ble_eq_true rfl) k_300 rfl (hF.2 _ _ _ rfl) <| o_getRc (pc := 29) (a := 47) (ci := 0) (j := 1) (nn := 0) dX6_trace_29 (hF.1 _ _ rfl) rfl (Nat.le_of_ble_eq_true rfl) k_258 rfl (hF.2 _ _ _ rfl) <| o_iload_n (pc := 32) 1 dX6_trace_32 rfl rfl <| ?_
        refine S_ck fun h4 => ?_
        refine o_iald (pc := 33) (nn := 20) dX6_trace_33 (hF.1 _ _ rfl) (ck_in h4) <| ?_
        exact o_iret (pc := 34) dX6_trace_34 rfl rfl
      · refine o_iconst (pc := 21) dX6_trace_21 lc_m1 <| o_goto (pc := 22) (tgt := 34) dX6_trace_22 rfl <| ?_
        exact o_iret (pc := 34) dX6_trace_34 rfl rfl
def fC_isKindOf_l4 (u0 : Int32) (u1 : Int32) (k0_0 : MI → Int32 → Int32 → Option (Int32 × MI)) : Nat → MI → Int32 → Int32 → Option (Int32 × MI)
  | 0, _, _, _ => none
  | n0 + 1, m, v2, v3 =>
    if 7 ≤ v3 then
      k0_0 m v2 v3
    else
      if v2 < 0 then
        k0_0 m v2 v3
      else
        if v2 = u1 then
          some (1, m)
        else
          if ck v2 7 = true then
            lt (tabA v2.toNatClampNeg) fun x5 =>
            lt (v3 + 1) fun x6 =>
            fC_isKindOf_l4 u0 u1 k0_0 n0 m x5 x6
          else none
theorem sC_isKindOf_l4 {sh : Sh} {R : RR} (hF : Fx sh R) (u0 : Int32) (u1 : Int32) (k0_0 : MI → Int32 → Int32 → Option (Int32 × MI)) (hk0_0 : ∀ (m : MI) (v2 : Int32) (v3 : Int32) , S (eI sh R) false 0 0 0 YX6_isKindOf sh R m 33 [(0, .int u0), (1, .int u1), (2, .int v2), (3, .int v3)] [] (k0_0 m v2 v3)) : ∀ (n : Nat) (m : MI) (v2 : Int32) (v3 : Int32) , S (eI sh R) false 0 0 0 YX6_isKindOf sh R m 4 [(0, .int u0), (1, .int u1), (2, .int v2), (3, .int v3)] [] (fC_isKindOf_l4 u0 u1 k0_0 n m v2 v3) := by
  intro n
  induction n with
  | zero => intros; exact S_none
  | succ n0 ih0 =>
    intro m v2 v3
    rw [fC_isKindOf_l4]
    refine o_iload_n (pc := 4) 3 dX6_isKindOf_4 rfl rfl <| o_bipush (pc := 5) dX6_isKindOf_5 lb_7 <| ?_
    refine o_icmp_ge (pc := 7) (tgt := 33) dX6_isKindOf_7 rfl (fun h1 => ?_) (fun h1 => ?_)
    · exact hk0_0 m v2 v3
    · refine o_iload_n (pc := 10) 2 dX6_isKindOf_10 rfl rfl <| ?_
      refine o_if_lt (pc := 11) (tgt := 33) dX6_isKindOf_11 rfl (fun h2 => ?_) (fun h2 => ?_)
      · exact hk0_0 m v2 v3
      · refine o_iload_n (pc := 14) 2 dX6_isKindOf_14 rfl rfl <| o_iload_n (pc := 15) 1 dX6_isKindOf_15 rfl rfl <| ?_
        refine o_icmp_ne (pc := 16) (tgt := 21) dX6_isKindOf_16 rfl (fun h3 => ?_) (fun h3 => ?_)
        · refine o_iconst (pc := 19) dX6_isKindOf_19 lc_1 <| ?_
          exact o_zret (pc := 20) dX6_isKindOf_20 rfl rfl rfl
        · refine o_getsA (pc := 21) dX6_isKindOf_21 k_819 <| o_iload_n (pc := 24) 2 dX6_isKindOf_24 rfl rfl <| ?_
          refine S_ck fun h4 => ?_
          refine o_tabA (pc := 25) dX6_isKindOf_25 (ck_in h4) <| ?_
          refine o_lt fun x5 => ?_
          refine o_istore_n (pc := 26) (ls' := [(2, .int x5), (0, .int u0), (1, .int u1), (3, .int v3)]) dX6_isKindOf_26 rfl (Nat.le_of_ble_eq_true rfl) rfl <| o_iinc (pc := 27) 3 (v := v3 + 1) (ls' := [(3, .int (v3 + 1)), (2, .int x5), (0, .int u0), (1, .int u1)]) dX6_isKindOf_27 rfl rfl (Nat.le_of_ble_eq_true rfl) rfl <| ?_
          refine o_ltL (ls := fun x6 => [(3, .int x6), (2, .int x5), (0, .int u0), (1, .int u1)]) fun x6 => ?_
          refine o_goto (pc := 30) (tgt := 4) dX6_isKindOf_30 rfl <| ?_
          refine o_sub [2, 3, 1, 0] (ls' := [(0, .int u0), (1, .int u1), (2, .int x5), (3, .int x6)]) rfl ?_
          exact ih0 m x5 x6
def fC_isKindOf (m : MI) (a : Int32) (b : Int32) : Option (Int32 × MI) :=
  fC_isKindOf_l4 a b
    (fun m3 z1 z2 =>
      some (0, m3)
      )
    1000 m a 0
theorem sC_isKindOf {sh : Sh} {R : RR} (hF : Fx sh R) (m : MI) (a : Int32) (b : Int32) : KS (eI sh R) false 0 0 0 YX6_isKindOf sh R m [.int a, .int b] (fC_isKindOf m a b) := by
  refine KS_of pn_X6 (fun _ => Nat.le_of_ble_eq_true rfl) ?_
  change S _ _ _ _ _ _ _ _ _ _ [(0, .int a), (1, .int b)] [] _
  unfold fC_isKindOf
  refine o_iload_n (pc := 0) 0 dX6_isKindOf_0 rfl rfl <| o_istore_n (pc := 1) (ls' := [(2, .int a), (0, .int a), (1, .int b)]) dX6_isKindOf_1 rfl (Nat.le_of_ble_eq_true rfl) rfl <| o_iconst (pc := 2) dX6_isKindOf_2 lc_0 <| o_istore_n (pc := 3) (ls' := [(3, .int 0), (2, .int a), (0, .int a), (1, .int b)]) dX6_isKindOf_3 rfl (Nat.le_of_ble_eq_true rfl) rfl <| ?_
  refine o_sub [2, 3, 1, 0] (ls' := [(0, .int a), (1, .int b), (2, .int a), (3, .int 0)]) rfl ?_
  refine sC_isKindOf_l4 hF a b _ ?_ 1000 m a 0
  · intro m3 z1 z2
    refine o_iconst (pc := 33) dX6_isKindOf_33 lc_0 <| ?_
    exact o_zret (pc := 34) dX6_isKindOf_34 rfl rfl rfl
def fC_taken (m : MI) (a : Int32) (b : Int32) : Option (Int32 × MI) :=
  if b < 0 then
    some (-2, m)
  else
    if b < 7 then
      (fW_has m a).bind fun r3 =>
      if r3.1 = 0 then
        some (-11, r3.2)
      else
        if ck a 6 = true then
          (fC_isKindOf r3.2 (r3.2.1 2 a.toNatClampNeg) b).bind fun r6 =>
          if r6.1 = 0 then
            some (-12, r6.2)
          else
            if ck a 6 = true then
              some (r6.2.1 2 a.toNatClampNeg, r6.2)
            else none
        else none
    else
      some (-2, m)
theorem sC_taken {sh : Sh} {R : RR} (hF : Fx sh R) (m : MI) (a : Int32) (b : Int32) : KS (eI sh R) false 1 0 0 YX6_taken sh R m [.ref 0, .int a, .int b] (fC_taken m a b) := by
  refine KS_of pn_X6 (fun _ => Nat.le_of_ble_eq_true rfl) ?_
  change S _ _ _ _ _ _ _ _ _ _ [(0, .ref 0), (1, .int a), (2, .int b)] [] _
  unfold fC_taken
  refine o_iload_n (pc := 0) 2 dX6_taken_0 rfl rfl <| ?_
  refine o_if_lt (pc := 1) (tgt := 10) dX6_taken_1 rfl (fun h1 => ?_) (fun h1 => ?_)
  · refine o_bipush (pc := 10) dX6_taken_10 lb_m2 <| ?_
    exact o_iret (pc := 12) dX6_taken_12 rfl rfl
  · refine o_iload_n (pc := 4) 2 dX6_taken_4 rfl rfl <| o_bipush (pc := 5) dX6_taken_5 lb_7 <| ?_
    refine o_icmp_lt (pc := 7) (tgt := 13) dX6_taken_7 rfl (fun h2 => ?_) (fun h2 => ?_)
    · refine o_aload_n (pc := 13) 0 dX6_taken_13 rfl rfl <| o_getRc (pc := 14) (a := 1) (ci := 6) (j := 0) (nn := 0) dX6_taken_14 (hF.1 _ _ rfl) rfl (Nat.le_of_ble_eq_true rfl) k_292 rfl (hF.2 _ _ _ rfl) <| o_iload_n (pc := 17) 1 dX6_taken_17 rfl rfl <| ?_
      refine o_callVI (Y2 := YX5_has) (pc := 18) (av := [.int a]) (rest := []) dX6_taken_18 k_353 cm_X5_has (sW_has hF m a) (hF.1 _ _ rfl) rfl rfl (Nat.le_of_ble_eq_true rfl) (Nat.le_of_ble_eq_true rfl) fun r3 => ?_
      refine o_if_ne (pc := 21) (tgt := 27) dX6_taken_21 rfl (fun h4 => ?_) (fun h4 => ?_)
      · refine o_bipush (pc := 24) dX6_taken_24 lb_m11 <| ?_
        exact o_iret (pc := 26) dX6_taken_26 rfl rfl
      · refine o_aload_n (pc := 27) 0 dX6_taken_27 rfl rfl <| o_getRc (pc := 28) (a := 1) (ci := 6) (j := 0) (nn := 0) dX6_taken_28 (hF.1 _ _ rfl) rfl (Nat.le_of_ble_eq_true rfl) k_292 rfl (hF.2 _ _ _ rfl) <| o_getRc (pc := 31) (a := 2) (ci := 5) (j := 1) (nn := 0) dX6_taken_31 (hF.1 _ _ rfl) rfl (Nat.le_of_ble_eq_true rfl) k_127 rfl (hF.2 _ _ _ rfl) <| o_iload_n (pc := 34) 1 dX6_taken_34 rfl rfl <| ?_
        refine S_ck fun h5 => ?_
        refine o_iald (pc := 35) (nn := 6) dX6_taken_35 (hF.1 _ _ rfl) (ck_in h5) <| o_iload_n (pc := 36) 2 dX6_taken_36 rfl rfl <| ?_
        refine o_callSI (Y2 := YX6_isKindOf) (pc := 37) (av := [.int (r3.2.1 2 a.toNatClampNeg), .int b]) (rest := []) dX6_taken_37 k_816 cs_X6_isKindOf (sC_isKindOf hF r3.2 (r3.2.1 2 a.toNatClampNeg) b) rfl rfl (Nat.le_of_ble_eq_true rfl) (Nat.le_of_ble_eq_true rfl) fun r6 => ?_
        refine o_if_eq (pc := 40) (tgt := 55) dX6_taken_40 rfl (fun h7 => ?_) (fun h7 => ?_)
        · refine o_bipush (pc := 55) dX6_taken_55 lb_m12 <| ?_
          exact o_iret (pc := 57) dX6_taken_57 rfl rfl
        · refine o_aload_n (pc := 43) 0 dX6_taken_43 rfl rfl <| o_getRc (pc := 44) (a := 1) (ci := 6) (j := 0) (nn := 0) dX6_taken_44 (hF.1 _ _ rfl) rfl (Nat.le_of_ble_eq_true rfl) k_292 rfl (hF.2 _ _ _ rfl) <| o_getRc (pc := 47) (a := 2) (ci := 5) (j := 1) (nn := 0) dX6_taken_47 (hF.1 _ _ rfl) rfl (Nat.le_of_ble_eq_true rfl) k_127 rfl (hF.2 _ _ _ rfl) <| o_iload_n (pc := 50) 1 dX6_taken_50 rfl rfl <| ?_
          refine S_ck fun h8 => ?_
          refine o_iald (pc := 51) (nn := 6) dX6_taken_51 (hF.1 _ _ rfl) (ck_in h8) <| o_goto (pc := 52) (tgt := 57) dX6_taken_52 rfl <| ?_
          exact o_iret (pc := 57) dX6_taken_57 rfl rfl
    · refine o_bipush (pc := 10) dX6_taken_10 lb_m2 <| ?_
      exact o_iret (pc := 12) dX6_taken_12 rfl rfl
def fC_count (m : MI) (a : Int32) : Option (Int32 × MI) :=
  if a = 0 then
    some (m.1 1 0, m)
  else
    if a = 1 then
      some (m.1 0 7, m)
    else
      if a = 2 then
        some (m.1 1 10, m)
      else
        if a = 3 then
          some (m.1 1 13, m)
        else
          if a = 4 then
            some (m.1 43 0, m)
          else
            if a = 5 then
              some (m.1 46 0, m)
            else
              some (-2, m)
theorem sC_count {sh : Sh} {R : RR} (hF : Fx sh R) (m : MI) (a : Int32) : KS (eI sh R) false 0 0 0 YX6_count sh R m [.ref 0, .int a] (fC_count m a) := by
  refine KS_of pn_X6 (fun _ => Nat.le_of_ble_eq_true rfl) ?_
  change S _ _ _ _ _ _ _ _ _ _ [(0, .ref 0), (1, .int a)] [] _
  unfold fC_count
  refine o_iload_n (pc := 0) 1 dX6_count_0 rfl rfl <| ?_
  refine S_ite (fun h1 => ?_) (fun h1 => ?_)
  · refine o_ts_in (pc := 1) (tgt := 40) 0 h1 dX6_count_1 (by decide) (by decide) rfl rfl ?_
    refine o_aload_n (pc := 40) 0 dX6_count_40 rfl rfl <| o_getRc (pc := 41) (a := 1) (ci := 6) (j := 0) (nn := 0) dX6_count_41 (hF.1 _ _ rfl) rfl (Nat.le_of_ble_eq_true rfl) k_292 rfl (hF.2 _ _ _ rfl) <| o_getI (pc := 44) (ci := 5) (j := 0) (nn := 0) dX6_count_44 (hF.1 _ _ rfl) rfl (Nat.le_of_ble_eq_true rfl) k_124 rfl <| ?_
    exact o_iret (pc := 47) dX6_count_47 rfl rfl
  refine S_ite (fun h2 => ?_) (fun h2 => ?_)
  · refine o_ts_in (pc := 1) (tgt := 48) 1 h2 dX6_count_1 (by decide) (by decide) rfl rfl ?_
    refine o_aload_n (pc := 48) 0 dX6_count_48 rfl rfl <| o_getI (pc := 49) (ci := 6) (j := 7) (nn := 0) dX6_count_49 (hF.1 _ _ rfl) rfl (Nat.le_of_ble_eq_true rfl) k_299 rfl <| ?_
    exact o_iret (pc := 52) dX6_count_52 rfl rfl
  refine S_ite (fun h3 => ?_) (fun h3 => ?_)
  · refine o_ts_in (pc := 1) (tgt := 53) 2 h3 dX6_count_1 (by decide) (by decide) rfl rfl ?_
    refine o_aload_n (pc := 53) 0 dX6_count_53 rfl rfl <| o_getRc (pc := 54) (a := 1) (ci := 6) (j := 0) (nn := 0) dX6_count_54 (hF.1 _ _ rfl) rfl (Nat.le_of_ble_eq_true rfl) k_292 rfl (hF.2 _ _ _ rfl) <| o_getI (pc := 57) (ci := 5) (j := 10) (nn := 0) dX6_count_57 (hF.1 _ _ rfl) rfl (Nat.le_of_ble_eq_true rfl) k_145 rfl <| ?_
    exact o_iret (pc := 60) dX6_count_60 rfl rfl
  refine S_ite (fun h4 => ?_) (fun h4 => ?_)
  · refine o_ts_in (pc := 1) (tgt := 61) 3 h4 dX6_count_1 (by decide) (by decide) rfl rfl ?_
    refine o_aload_n (pc := 61) 0 dX6_count_61 rfl rfl <| o_getRc (pc := 62) (a := 1) (ci := 6) (j := 0) (nn := 0) dX6_count_62 (hF.1 _ _ rfl) rfl (Nat.le_of_ble_eq_true rfl) k_292 rfl (hF.2 _ _ _ rfl) <| o_getI (pc := 65) (ci := 5) (j := 13) (nn := 0) dX6_count_65 (hF.1 _ _ rfl) rfl (Nat.le_of_ble_eq_true rfl) k_151 rfl <| ?_
    exact o_iret (pc := 68) dX6_count_68 rfl rfl
  refine S_ite (fun h5 => ?_) (fun h5 => ?_)
  · refine o_ts_in (pc := 1) (tgt := 69) 4 h5 dX6_count_1 (by decide) (by decide) rfl rfl ?_
    refine o_aload_n (pc := 69) 0 dX6_count_69 rfl rfl <| o_getRc (pc := 70) (a := 43) (ci := 6) (j := 6) (nn := 0) dX6_count_70 (hF.1 _ _ rfl) rfl (Nat.le_of_ble_eq_true rfl) k_298 rfl (hF.2 _ _ _ rfl) <| o_getI (pc := 73) (ci := 2) (j := 0) (nn := 0) dX6_count_73 (hF.1 _ _ rfl) rfl (Nat.le_of_ble_eq_true rfl) k_226 rfl <| ?_
    exact o_iret (pc := 76) dX6_count_76 rfl rfl
  refine S_ite (fun h6 => ?_) (fun h6 => ?_)
  · refine o_ts_in (pc := 1) (tgt := 77) 5 h6 dX6_count_1 (by decide) (by decide) rfl rfl ?_
    refine o_aload_n (pc := 77) 0 dX6_count_77 rfl rfl <| o_getRc (pc := 78) (a := 46) (ci := 6) (j := 8) (nn := 0) dX6_count_78 (hF.1 _ _ rfl) rfl (Nat.le_of_ble_eq_true rfl) k_300 rfl (hF.2 _ _ _ rfl) <| o_getI (pc := 81) (ci := 0) (j := 0) (nn := 0) dX6_count_81 (hF.1 _ _ rfl) rfl (Nat.le_of_ble_eq_true rfl) k_256 rfl <| ?_
    exact o_iret (pc := 84) dX6_count_84 rfl rfl
  refine o_ts_out (pc := 1) (tgt := 85) (ts_out (lo := 0) (hi := 5) [0, 1, 2, 3, 4, 5] (by decide) (by decide) (fun c hc => by
      simp only [List.mem_cons, List.not_mem_nil, or_false] at hc
      rcases hc with rfl | rfl | rfl | rfl | rfl | rfl
      · exact h1
      · exact h2
      · exact h3
      · exact h4
      · exact h5
      · exact h6)) dX6_count_1 rfl ?_
  refine o_bipush (pc := 85) dX6_count_85 lb_m2 <| ?_
  exact o_iret (pc := 87) dX6_count_87 rfl rfl
def fT_become (sh : Sh) (R : RR) (m : MI) (t : Nat) (a : Int32) (b : Int32) : Option (MI) :=
  if sh[t]? = some (14, 0) then
    lm (mI m t (upd (m.1 t) 0 a)) fun m2 =>
    lm (mI m2 t (upd (m2.1 t) 1 b)) fun m3 =>
    mq (R t 2) fun q5 =>
    (fJA_fill_d0a16 sh R m3 q5 0).bind fun r6 =>
    some r6
  else none
theorem sT_become {sh : Sh} {R : RR} (hF : Fx sh R) (m : MI) (t : Nat) (a : Int32) (b : Int32) : KS (eV sh R) false 1 0 0 YX4_become sh R m [.ref t, .int a, .int b] (fT_become sh R m t a b) := by
  refine KS_of pn_X4 (fun _ => Nat.le_of_ble_eq_true rfl) ?_
  change S _ _ _ _ _ _ _ _ _ _ [(0, .ref t), (1, .int a), (2, .int b)] [] _
  unfold fT_become
  refine o_aload_n (pc := 0) 0 dX4_become_0 rfl rfl <| o_iload_n (pc := 1) 1 dX4_become_1 rfl rfl <| ?_
  refine S_ck fun h1 => ?_
  refine o_putI (pc := 2) (ci := 4) (j := 0) (nn := 0) dX4_become_2 h1 rfl (Nat.le_of_ble_eq_true rfl) k_280 rfl rfl rfl rfl rfl <| ?_
  refine o_lm fun m2 => ?_
  refine o_aload_n (pc := 5) 0 dX4_become_5 rfl rfl <| o_iload_n (pc := 6) 2 dX4_become_6 rfl rfl <| o_putI (pc := 7) (ci := 4) (j := 1) (nn := 0) dX4_become_7 h1 rfl (Nat.le_of_ble_eq_true rfl) k_282 rfl rfl rfl rfl rfl <| ?_
  refine o_lm fun m3 => ?_
  refine o_aload_n (pc := 10) 0 dX4_become_10 rfl rfl <| ?_
  refine S_mq fun q5 h4 => ?_
  refine o_getRc (pc := 11) (a := q5) (ci := 4) (j := 2) (nn := 0) dX4_become_11 h1 rfl (Nat.le_of_ble_eq_true rfl) k_283 rfl h4 <| o_lconst (pc := 14) (x := 0) dX4_become_14 rfl <| ?_
  refine o_callSV (Y2 := YJ7_fill_d0a16) (pc := 15) (av := [.ref q5, .long 0]) (rest := []) dX4_become_15 k_832 cs_J7_fill_d0a16 (sJA_fill_d0a16 hF m3 q5 0) rfl rfl (Nat.le_of_ble_eq_true rfl) (Nat.le_of_ble_eq_true rfl) fun r6 => ?_
  exact o_vret (pc := 18) dX4_become_18 rfl rfl
def fC_tape (sh : Sh) (R : RR) (m : MI) (a : Int32) (b : Int32) (c : Int32) : Option (Int32 × MI) :=
  (fC_tapeAt sh R m a).bind fun r1 =>
  mn r1.1 (
    some (-1, r1.2)
    ) fun a2 =>
    if b = -1 then
      if sh[a2]? = some (14, 0) then
        (fT_become sh R r1.2 a2 (-1) 0).bind fun r5 =>
        some (1, r5)
      else none
    else
      if b < 0 then
        some (-2, r1.2)
      else
        if 5 ≤ b then
          some (-2, r1.2)
        else
          if c ≤ 60 then
            if 0 ≤ c then
              (fT_become sh R r1.2 a2 b c).bind fun r11 =>
              some (1, r11)
            else
              some (-14, r1.2)
          else
            some (-2, r1.2)
theorem sC_tape {sh : Sh} {R : RR} (hF : Fx sh R) (m : MI) (a : Int32) (b : Int32) (c : Int32) : KS (eI sh R) false 2 0 0 YX6_tape sh R m [.ref 0, .int a, .int b, .int c] (fC_tape sh R m a b c) := by
  refine KS_of pn_X6 (fun _ => Nat.le_of_ble_eq_true rfl) ?_
  change S _ _ _ _ _ _ _ _ _ _ [(0, .ref 0), (1, .int a), (2, .int b), (3, .int c)] [] _
  unfold fC_tape
  refine o_aload_n (pc := 0) 0 dX6_tape_0 rfl rfl <| o_iload_n (pc := 1) 1 dX6_tape_1 rfl rfl <| ?_
  refine o_callVQ (Y2 := YX6_tapeAt) (pc := 2) (av := [.int a]) (rest := []) dX6_tape_2 k_760 cm_X6_tapeAt (sC_tapeAt hF m a) (hF.1 _ _ rfl) rfl rfl (Nat.le_of_ble_eq_true rfl) (Nat.le_of_ble_eq_true rfl) fun r1 => ?_
  refine o_mn (q := r1.1) (ls := fun q => [(0, .ref 0), (1, .int a), (2, .int b), (3, .int c)]) (st := fun q => [va_rf q]) ?_ (fun a2 => ?_)
  · show S _ _ _ _ _ _ _ _ _ _ [(0, .ref 0), (1, .int a), (2, .int b), (3, .int c)] [.null] _
    refine o_astoreN (pc := 5) (ls' := [(4, .null), (0, .ref 0), (1, .int a), (2, .int b), (3, .int c)]) dX6_tape_5 (Nat.le_of_ble_eq_true rfl) rfl <| o_aloadN (pc := 7) 0 dX6_tape_7 rfl <| o_ifnonnull_f (pc := 9) dX6_tape_9 <| o_iconst (pc := 12) dX6_tape_12 lc_m1 <| ?_
    exact o_iret (pc := 13) dX6_tape_13 rfl rfl
  show S _ _ _ _ _ _ _ _ _ _ [(0, .ref 0), (1, .int a), (2, .int b), (3, .int c)] [.ref a2] _
  refine o_astore (pc := 5) (ls' := [(4, .ref a2), (0, .ref 0), (1, .int a), (2, .int b), (3, .int c)]) dX6_tape_5 (Nat.le_of_ble_eq_true rfl) rfl <| o_aload (pc := 7) 0 dX6_tape_7 rfl <| o_ifnonnull_t (pc := 9) (tgt := 14) dX6_tape_9 rfl <| o_iload_n (pc := 14) 3 dX6_tape_14 rfl rfl <| o_iconst (pc := 15) dX6_tape_15 lc_m1 <| ?_
  refine o_icmp_ne (pc := 16) (tgt := 28) dX6_tape_16 rfl (fun h4 => ?_) (fun h4 => ?_)
  · refine o_aload (pc := 19) 0 dX6_tape_19 rfl <| o_iconst (pc := 21) dX6_tape_21 lc_m1 <| o_iconst (pc := 22) dX6_tape_22 lc_0 <| ?_
    refine S_ck fun h6 => ?_
    refine o_callVV (Y2 := YX4_become) (pc := 23) (av := [.int (-1), .int 0]) (rest := []) dX6_tape_23 k_828 cm_X4_become (sT_become hF r1.2 a2 (-1) 0) h6 rfl rfl (Nat.le_of_ble_eq_true rfl) (Nat.le_of_ble_eq_true rfl) fun r5 => ?_
    refine o_iconst (pc := 26) dX6_tape_26 lc_1 <| ?_
    exact o_iret (pc := 27) dX6_tape_27 rfl rfl
  · refine o_iload_n (pc := 28) 3 dX6_tape_28 rfl rfl <| ?_
    refine o_if_lt (pc := 29) (tgt := 43) dX6_tape_29 rfl (fun h7 => ?_) (fun h7 => ?_)
    · refine o_bipush (pc := 43) dX6_tape_43 lb_m2 <| ?_
      exact o_iret (pc := 45) dX6_tape_45 rfl rfl
    · refine o_iload_n (pc := 32) 3 dX6_tape_32 rfl rfl <| o_iconst (pc := 33) dX6_tape_33 lc_5 <| ?_
      refine o_icmp_ge (pc := 34) (tgt := 43) dX6_tape_34 rfl (fun h8 => ?_) (fun h8 => ?_)
      · refine o_bipush (pc := 43) dX6_tape_43 lb_m2 <| ?_
        exact o_iret (pc := 45) dX6_tape_45 rfl rfl
      · refine o_iload_n (pc := 37) 4 dX6_tape_37 rfl rfl <| o_bipush (pc := 38) dX6_tape_38 lb_60 <| ?_
        refine o_icmp_le (pc := 40) (tgt := 46) dX6_tape_40 rfl (fun h9 => ?_) (fun h9 => ?_)
        · refine o_iload_n (pc := 46) 4 dX6_tape_46 rfl rfl <| ?_
          refine o_if_ge (pc := 47) (tgt := 53) dX6_tape_47 rfl (fun h10 => ?_) (fun h10 => ?_)
          · refine o_aload (pc := 53) 0 dX6_tape_53 rfl <| o_iload_n (pc := 55) 3 dX6_tape_55 rfl rfl <| o_iload_n (pc := 56) 4 dX6_tape_56 rfl rfl <| ?_
            refine o_callVV (Y2 := YX4_become) (pc := 57) (av := [.int b, .int c]) (rest := []) dX6_tape_57 k_828 cm_X4_become (sT_become hF r1.2 a2 b c) h6 rfl rfl (Nat.le_of_ble_eq_true rfl) (Nat.le_of_ble_eq_true rfl) fun r11 => ?_
            refine o_iconst (pc := 60) dX6_tape_60 lc_1 <| ?_
            exact o_iret (pc := 61) dX6_tape_61 rfl rfl
          · refine o_bipush (pc := 50) dX6_tape_50 lb_m14 <| ?_
            exact o_iret (pc := 52) dX6_tape_52 rfl rfl
        · refine o_bipush (pc := 43) dX6_tape_43 lb_m2 <| ?_
          exact o_iret (pc := 45) dX6_tape_45 rfl rfl
def fT_cut (sh : Sh) (R : RR) (m : MI) (t : Nat) (a : Int64) : Option (Int64 × MI) :=
  if sh[t]? = some (14, 0) then
    if m.1 t 0 = 0 then
      some (((a.toInt32).toInt8.toInt32).toInt64, m)
    else
      if m.1 t 0 = 1 then
        some (((a.toInt32).toInt16.toInt32).toInt64, m)
      else
        if m.1 t 0 = 2 then
          some ((a.toInt32).toInt64, m)
        else
          if m.1 t 0 = 3 then
            some (a, m)
          else
            if m.1 t 0 = 4 then
              if lg_cmp a 0 = 0 then
                some (0, m)
              else
                some (1, m)
            else
              some (a, m)
  else none
theorem sT_cut {sh : Sh} {R : RR} (hF : Fx sh R) (m : MI) (t : Nat) (a : Int64) : KS (eL sh R) false 0 0 0 YX4_cut sh R m [.ref t, .long a] (fT_cut sh R m t a) := by
  refine KS_of pn_X4 (fun _ => Nat.le_of_ble_eq_true rfl) ?_
  change S _ _ _ _ _ _ _ _ _ _ [(0, .ref t), (1, .long a)] [] _
  unfold fT_cut
  refine o_aload_n (pc := 0) 0 dX4_cut_0 rfl rfl <| ?_
  refine S_ck fun h1 => ?_
  refine o_getI (pc := 1) (ci := 4) (j := 0) (nn := 0) dX4_cut_1 h1 rfl (Nat.le_of_ble_eq_true rfl) k_280 rfl <| ?_
  refine S_ite (fun h2 => ?_) (fun h2 => ?_)
  · refine o_ts_in (pc := 4) (tgt := 40) 0 h2 dX4_cut_4 (by decide) (by decide) rfl rfl ?_
    refine o_lload_n (pc := 40) 1 dX4_cut_40 rfl rfl <| o_l2i (pc := 41) dX4_cut_41 <| o_i2b (pc := 42) dX4_cut_42 <| o_i2l (pc := 43) dX4_cut_43 <| ?_
    exact o_lret (pc := 44) dX4_cut_44 rfl rfl
  refine S_ite (fun h3 => ?_) (fun h3 => ?_)
  · refine o_ts_in (pc := 4) (tgt := 45) 1 h3 dX4_cut_4 (by decide) (by decide) rfl rfl ?_
    refine o_lload_n (pc := 45) 1 dX4_cut_45 rfl rfl <| o_l2i (pc := 46) dX4_cut_46 <| o_i2s (pc := 47) dX4_cut_47 <| o_i2l (pc := 48) dX4_cut_48 <| ?_
    exact o_lret (pc := 49) dX4_cut_49 rfl rfl
  refine S_ite (fun h4 => ?_) (fun h4 => ?_)
  · refine o_ts_in (pc := 4) (tgt := 50) 2 h4 dX4_cut_4 (by decide) (by decide) rfl rfl ?_
    refine o_lload_n (pc := 50) 1 dX4_cut_50 rfl rfl <| o_l2i (pc := 51) dX4_cut_51 <| o_i2l (pc := 52) dX4_cut_52 <| ?_
    exact o_lret (pc := 53) dX4_cut_53 rfl rfl
  refine S_ite (fun h5 => ?_) (fun h5 => ?_)
  · refine o_ts_in (pc := 4) (tgt := 66) 3 h5 dX4_cut_4 (by decide) (by decide) rfl rfl ?_
    refine o_lload_n (pc := 66) 1 dX4_cut_66 rfl rfl <| ?_
    exact o_lret (pc := 67) dX4_cut_67 rfl rfl
  refine S_ite (fun h6 => ?_) (fun h6 => ?_)
  · refine o_ts_in (pc := 4) (tgt := 54) 4 h6 dX4_cut_4 (by decide) (by decide) rfl rfl ?_
    refine o_lload_n (pc := 54) 1 dX4_cut_54 rfl rfl <| o_lconst (pc := 55) (x := 0) dX4_cut_55 rfl <| o_lcmp (pc := 56) dX4_cut_56 <| ?_
    refine o_if_eq (pc := 57) (tgt := 64) dX4_cut_57 rfl (fun h7 => ?_) (fun h7 => ?_)
    · refine o_lconst (pc := 64) (x := 0) dX4_cut_64 rfl <| ?_
      exact o_lret (pc := 65) dX4_cut_65 rfl rfl
    · refine o_lconst (pc := 60) (x := 1) dX4_cut_60 rfl <| o_goto (pc := 61) (tgt := 65) dX4_cut_61 rfl <| ?_
      exact o_lret (pc := 65) dX4_cut_65 rfl rfl
  refine o_ts_out (pc := 4) (tgt := 66) (ts_out (lo := 0) (hi := 4) [0, 1, 2, 3, 4] (by decide) (by decide) (fun c hc => by
      simp only [List.mem_cons, List.not_mem_nil, or_false] at hc
      rcases hc with rfl | rfl | rfl | rfl | rfl
      · exact h2
      · exact h3
      · exact h4
      · exact h5
      · exact h6)) dX4_cut_4 rfl ?_
  refine o_lload_n (pc := 66) 1 dX4_cut_66 rfl rfl <| ?_
  exact o_lret (pc := 67) dX4_cut_67 rfl rfl
def fC_item (sh : Sh) (R : RR) (m : MI) (a : Int32) (b : Int32) (c : Int64) : Option (Int32 × MI) :=
  (fC_tapeAt sh R m a).bind fun r1 =>
  mn r1.1 (
    some (-1, r1.2)
    ) fun a2 =>
    if sh[a2]? = some (14, 0) then
      if r1.2.1 a2 0 = -1 then
        some (-11, r1.2)
      else
        (fT_has sh R r1.2 a2 b).bind fun r6 =>
        if r6.1 = 0 then
          some (-13, r6.2)
        else
          mq (R a2 2) fun q9 =>
          (fT_cut sh R r6.2 a2 c).bind fun r10 =>
          if kA sh q9 1 = true then
            if ck b (lenA sh q9) = true then
              lm (mJ r10.2 q9 (vp_updL (r10.2.2 q9) b.toNatClampNeg r10.1)) fun m13 =>
              some (1, m13)
            else none
          else none
    else none
theorem sC_item {sh : Sh} {R : RR} (hF : Fx sh R) (m : MI) (a : Int32) (b : Int32) (c : Int64) : KS (eI sh R) false 1 0 0 YX6_item sh R m [.ref 0, .int a, .int b, .long c] (fC_item sh R m a b c) := by
  refine KS_of pn_X6 (fun _ => Nat.le_of_ble_eq_true rfl) ?_
  change S _ _ _ _ _ _ _ _ _ _ [(0, .ref 0), (1, .int a), (2, .int b), (3, .long c)] [] _
  unfold fC_item
  refine o_aload_n (pc := 0) 0 dX6_item_0 rfl rfl <| o_iload_n (pc := 1) 1 dX6_item_1 rfl rfl <| ?_
  refine o_callVQ (Y2 := YX6_tapeAt) (pc := 2) (av := [.int a]) (rest := []) dX6_item_2 k_760 cm_X6_tapeAt (sC_tapeAt hF m a) (hF.1 _ _ rfl) rfl rfl (Nat.le_of_ble_eq_true rfl) (Nat.le_of_ble_eq_true rfl) fun r1 => ?_
  refine o_mn (q := r1.1) (ls := fun q => [(0, .ref 0), (1, .int a), (2, .int b), (3, .long c)]) (st := fun q => [va_rf q]) ?_ (fun a2 => ?_)
  · show S _ _ _ _ _ _ _ _ _ _ [(0, .ref 0), (1, .int a), (2, .int b), (3, .long c)] [.null] _
    refine o_astoreN (pc := 5) (ls' := [(5, .null), (0, .ref 0), (1, .int a), (2, .int b), (3, .long c)]) dX6_item_5 (Nat.le_of_ble_eq_true rfl) rfl <| o_aloadN (pc := 7) 0 dX6_item_7 rfl <| o_ifnonnull_f (pc := 9) dX6_item_9 <| o_iconst (pc := 12) dX6_item_12 lc_m1 <| ?_
    exact o_iret (pc := 13) dX6_item_13 rfl rfl
  show S _ _ _ _ _ _ _ _ _ _ [(0, .ref 0), (1, .int a), (2, .int b), (3, .long c)] [.ref a2] _
  refine o_astore (pc := 5) (ls' := [(5, .ref a2), (0, .ref 0), (1, .int a), (2, .int b), (3, .long c)]) dX6_item_5 (Nat.le_of_ble_eq_true rfl) rfl <| o_aload (pc := 7) 0 dX6_item_7 rfl <| o_ifnonnull_t (pc := 9) (tgt := 14) dX6_item_9 rfl <| o_aload (pc := 14) 0 dX6_item_14 rfl <| ?_
  refine S_ck fun h4 => ?_
  refine o_getI (pc := 16) (ci := 4) (j := 0) (nn := 0) dX6_item_16 h4 rfl (Nat.le_of_ble_eq_true rfl) k_281 rfl <| o_iconst (pc := 19) dX6_item_19 lc_m1 <| ?_
  refine o_icmp_ne (pc := 20) (tgt := 26) dX6_item_20 rfl (fun h5 => ?_) (fun h5 => ?_)
  · refine o_bipush (pc := 23) dX6_item_23 lb_m11 <| ?_
    exact o_iret (pc := 25) dX6_item_25 rfl rfl
  · refine o_aload (pc := 26) 0 dX6_item_26 rfl <| o_iload_n (pc := 28) 3 dX6_item_28 rfl rfl <| ?_
    refine o_callVI (Y2 := YX4_has) (pc := 29) (av := [.int b]) (rest := []) dX6_item_29 k_764 cm_X4_has (sT_has hF r1.2 a2 b) h4 rfl rfl (Nat.le_of_ble_eq_true rfl) (Nat.le_of_ble_eq_true rfl) fun r6 => ?_
    refine o_if_ne (pc := 32) (tgt := 38) dX6_item_32 rfl (fun h7 => ?_) (fun h7 => ?_)
    · refine o_bipush (pc := 35) dX6_item_35 lb_m13 <| ?_
      exact o_iret (pc := 37) dX6_item_37 rfl rfl
    · refine o_aload (pc := 38) 0 dX6_item_38 rfl <| ?_
      refine S_mq fun q9 h8 => ?_
      refine o_getRc (pc := 40) (a := q9) (ci := 4) (j := 2) (nn := 0) dX6_item_40 h4 rfl (Nat.le_of_ble_eq_true rfl) k_284 rfl h8 <| o_iload_n (pc := 43) 3 dX6_item_43 rfl rfl <| o_aload (pc := 44) 0 dX6_item_44 rfl <| o_lload_n (pc := 46) 4 dX6_item_46 rfl rfl <| ?_
      refine o_callVL (Y2 := YX4_cut) (pc := 47) (av := [.long c]) (rest := [.int b, .ref q9]) dX6_item_47 k_837 cm_X4_cut (sT_cut hF r6.2 a2 c) h4 rfl rfl (Nat.le_of_ble_eq_true rfl) (Nat.le_of_ble_eq_true rfl) fun r10 => ?_
      refine S_ck fun h11 => ?_
      refine S_ck fun h12 => ?_
      refine o_last (pc := 50) (nn := lenA sh q9) dX6_item_50 (kA_ok h11) (ck_in h12) <| ?_
      refine o_lm fun m13 => ?_
      refine o_iconst (pc := 51) dX6_item_51 lc_1 <| ?_
      exact o_iret (pc := 52) dX6_item_52 rfl rfl
def fC_read (sh : Sh) (R : RR) (m : MI) (a : Int32) (b : Int32) : Option (Int64 × MI) :=
  (fC_tapeAt sh R m a).bind fun r1 =>
  mn r1.1 (
    some (-9223372036854775808, r1.2)
    ) fun a2 =>
    if sh[a2]? = some (14, 0) then
      (fT_has sh R r1.2 a2 b).bind fun r4 =>
      if r4.1 = 0 then
        some (-9223372036854775808, r4.2)
      else
        mq (R a2 2) fun q8 =>
        if kA sh q8 1 = true then
          if ck b (lenA sh q8) = true then
            some (r4.2.2 q8 b.toNatClampNeg, r4.2)
          else none
        else none
    else none
theorem sC_read {sh : Sh} {R : RR} (hF : Fx sh R) (m : MI) (a : Int32) (b : Int32) : KS (eL sh R) false 1 0 0 YX6_read sh R m [.ref 0, .int a, .int b] (fC_read sh R m a b) := by
  refine KS_of pn_X6 (fun _ => Nat.le_of_ble_eq_true rfl) ?_
  change S _ _ _ _ _ _ _ _ _ _ [(0, .ref 0), (1, .int a), (2, .int b)] [] _
  unfold fC_read
  refine o_aload_n (pc := 0) 0 dX6_read_0 rfl rfl <| o_iload_n (pc := 1) 1 dX6_read_1 rfl rfl <| ?_
  refine o_callVQ (Y2 := YX6_tapeAt) (pc := 2) (av := [.int a]) (rest := []) dX6_read_2 k_760 cm_X6_tapeAt (sC_tapeAt hF m a) (hF.1 _ _ rfl) rfl rfl (Nat.le_of_ble_eq_true rfl) (Nat.le_of_ble_eq_true rfl) fun r1 => ?_
  refine o_mn (q := r1.1) (ls := fun q => [(0, .ref 0), (1, .int a), (2, .int b)]) (st := fun q => [va_rf q]) ?_ (fun a2 => ?_)
  · show S _ _ _ _ _ _ _ _ _ _ [(0, .ref 0), (1, .int a), (2, .int b)] [.null] _
    refine o_astore_nN (pc := 5) (ls' := [(3, .null), (0, .ref 0), (1, .int a), (2, .int b)]) dX6_read_5 rfl (Nat.le_of_ble_eq_true rfl) rfl <| o_aload_nN (pc := 6) 0 dX6_read_6 rfl rfl <| o_ifnull_t (pc := 7) (tgt := 18) dX6_read_7 rfl <| o_ldc2 (pc := 18) dX6_read_18 k_690 <| o_goto (pc := 21) (tgt := 30) dX6_read_21 rfl <| ?_
    exact o_lret (pc := 30) dX6_read_30 rfl rfl
  show S _ _ _ _ _ _ _ _ _ _ [(0, .ref 0), (1, .int a), (2, .int b)] [.ref a2] _
  refine o_astore_n (pc := 5) (ls' := [(3, .ref a2), (0, .ref 0), (1, .int a), (2, .int b)]) dX6_read_5 rfl (Nat.le_of_ble_eq_true rfl) rfl <| o_aload_n (pc := 6) 0 dX6_read_6 rfl rfl <| o_ifnull_f (pc := 7) dX6_read_7 <| o_aload_n (pc := 10) 0 dX6_read_10 rfl rfl <| o_iload_n (pc := 11) 3 dX6_read_11 rfl rfl <| ?_
  refine S_ck fun h5 => ?_
  refine o_callVI (Y2 := YX4_has) (pc := 12) (av := [.int b]) (rest := []) dX6_read_12 k_764 cm_X4_has (sT_has hF r1.2 a2 b) h5 rfl rfl (Nat.le_of_ble_eq_true rfl) (Nat.le_of_ble_eq_true rfl) fun r4 => ?_
  refine o_if_ne (pc := 15) (tgt := 24) dX6_read_15 rfl (fun h6 => ?_) (fun h6 => ?_)
  · refine o_ldc2 (pc := 18) dX6_read_18 k_690 <| o_goto (pc := 21) (tgt := 30) dX6_read_21 rfl <| ?_
    exact o_lret (pc := 30) dX6_read_30 rfl rfl
  · refine o_aload_n (pc := 24) 0 dX6_read_24 rfl rfl <| ?_
    refine S_mq fun q8 h7 => ?_
    refine o_getRc (pc := 25) (a := q8) (ci := 4) (j := 2) (nn := 0) dX6_read_25 h5 rfl (Nat.le_of_ble_eq_true rfl) k_284 rfl h7 <| o_iload_n (pc := 28) 3 dX6_read_28 rfl rfl <| ?_
    refine S_ck fun h9 => ?_
    refine S_ck fun h10 => ?_
    refine o_lald (pc := 29) (nn := lenA sh q8) dX6_read_29 (kA_ok h9) (ck_in h10) <| ?_
    exact o_lret (pc := 30) dX6_read_30 rfl rfl
def fT_hasRun (sh : Sh) (R : RR) (m : MI) (t : Nat) (a : Int32) (b : Int32) : Option (Int32 × MI) :=
  if b < 0 then
    some (0, m)
  else
    if a < 0 then
      some (0, m)
    else
      if sh[t]? = some (14, 0) then
        if m.1 t 1 < a then
          some (0, m)
        else
          if (m.1 t 1) - a < b then
            some (0, m)
          else
            some (1, m)
      else none
theorem sT_hasRun {sh : Sh} {R : RR} (hF : Fx sh R) (m : MI) (t : Nat) (a : Int32) (b : Int32) : KS (eI sh R) false 0 0 0 YX4_hasRun sh R m [.ref t, .int a, .int b] (fT_hasRun sh R m t a b) := by
  refine KS_of pn_X4 (fun _ => Nat.le_of_ble_eq_true rfl) ?_
  change S _ _ _ _ _ _ _ _ _ _ [(0, .ref t), (1, .int a), (2, .int b)] [] _
  unfold fT_hasRun
  refine o_iload_n (pc := 0) 2 dX4_hasRun_0 rfl rfl <| ?_
  refine o_if_lt (pc := 1) (tgt := 30) dX4_hasRun_1 rfl (fun h1 => ?_) (fun h1 => ?_)
  · refine o_iconst (pc := 30) dX4_hasRun_30 lc_0 <| ?_
    exact o_zret (pc := 31) dX4_hasRun_31 rfl rfl rfl
  · refine o_iload_n (pc := 4) 1 dX4_hasRun_4 rfl rfl <| ?_
    refine o_if_lt (pc := 5) (tgt := 30) dX4_hasRun_5 rfl (fun h2 => ?_) (fun h2 => ?_)
    · refine o_iconst (pc := 30) dX4_hasRun_30 lc_0 <| ?_
      exact o_zret (pc := 31) dX4_hasRun_31 rfl rfl rfl
    · refine o_iload_n (pc := 8) 1 dX4_hasRun_8 rfl rfl <| o_aload_n (pc := 9) 0 dX4_hasRun_9 rfl rfl <| ?_
      refine S_ck fun h3 => ?_
      refine o_getI (pc := 10) (ci := 4) (j := 1) (nn := 0) dX4_hasRun_10 h3 rfl (Nat.le_of_ble_eq_true rfl) k_282 rfl <| ?_
      refine o_icmp_gt (pc := 13) (tgt := 30) dX4_hasRun_13 rfl (fun h4 => ?_) (fun h4 => ?_)
      · refine o_iconst (pc := 30) dX4_hasRun_30 lc_0 <| ?_
        exact o_zret (pc := 31) dX4_hasRun_31 rfl rfl rfl
      · refine o_iload_n (pc := 16) 2 dX4_hasRun_16 rfl rfl <| o_aload_n (pc := 17) 0 dX4_hasRun_17 rfl rfl <| o_getI (pc := 18) (ci := 4) (j := 1) (nn := 0) dX4_hasRun_18 h3 rfl (Nat.le_of_ble_eq_true rfl) k_282 rfl <| o_iload_n (pc := 21) 1 dX4_hasRun_21 rfl rfl <| o_isub (pc := 22) dX4_hasRun_22 <| ?_
        refine o_icmp_gt (pc := 23) (tgt := 30) dX4_hasRun_23 rfl (fun h5 => ?_) (fun h5 => ?_)
        · refine o_iconst (pc := 30) dX4_hasRun_30 lc_0 <| ?_
          exact o_zret (pc := 31) dX4_hasRun_31 rfl rfl rfl
        · refine o_iconst (pc := 26) dX4_hasRun_26 lc_1 <| o_goto (pc := 27) (tgt := 31) dX4_hasRun_27 rfl <| ?_
          exact o_zret (pc := 31) dX4_hasRun_31 rfl rfl rfl
def fC_shift (sh : Sh) (R : RR) (m : MI) (a : Int32) (b : Int32) (c : Int32) (d : Int32) (e : Int32) : Option (Int32 × MI) :=
  (fC_tapeAt sh R m a).bind fun r1 =>
  mn r1.1 (
    (fC_tapeAt sh R r1.2 c).bind fun r4 =>
    mn r4.1 (
      some (-1, r4.2)
      ) fun a5 =>
      some (-1, r4.2)
    ) fun a2 =>
    (fC_tapeAt sh R r1.2 c).bind fun r7 =>
    mn r7.1 (
      some (-1, r7.2)
      ) fun a8 =>
      if sh[a2]? = some (14, 0) then
        if r7.2.1 a2 0 = -1 then
          some (-11, r7.2)
        else
          if sh[a8]? = some (14, 0) then
            if r7.2.1 a8 0 = -1 then
              some (-11, r7.2)
            else
              if r7.2.1 a2 0 = r7.2.1 a8 0 then
                (fT_hasRun sh R r7.2 a2 b e).bind fun r15 =>
                if r15.1 = 0 then
                  some (-13, r15.2)
                else
                  (fT_hasRun sh R r15.2 a8 d e).bind fun r17 =>
                  if r17.1 = 0 then
                    some (-13, r17.2)
                  else
                    mq (R a2 2) fun q20 =>
                    mq (R a8 2) fun q22 =>
                    if kA sh q20 0 = true then
                      if kA sh q22 0 = true then
                        if cpk b d e lenA sh q20 lenA sh q22 = true then
                          lm (mI r17.2 q22 (va_cpy (r17.2.1 q20) (r17.2.1 q22) b.toNatClampNeg d.toNatClampNeg e.toNatClampNeg)) fun m26 =>
                          some (e, m26)
                        else none
                      else none
                    else none
              else
                some (-12, r7.2)
          else none
      else none
theorem sC_shift {sh : Sh} {R : RR} (hF : Fx sh R) (m : MI) (a : Int32) (b : Int32) (c : Int32) (d : Int32) (e : Int32) : KS (eI sh R) false 1 0 0 YX6_shift sh R m [.ref 0, .int a, .int b, .int c, .int d, .int e] (fC_shift sh R m a b c d e) := by
  refine KS_of pn_X6 (fun _ => Nat.le_of_ble_eq_true rfl) ?_
  change S _ _ _ _ _ _ _ _ _ _ [(0, .ref 0), (1, .int a), (2, .int b), (3, .int c), (4, .int d), (5, .int e)] [] _
  unfold fC_shift
  refine o_aload_n (pc := 0) 0 dX6_shift_0 rfl rfl <| o_iload_n (pc := 1) 1 dX6_shift_1 rfl rfl <| ?_
  refine o_callVQ (Y2 := YX6_tapeAt) (pc := 2) (av := [.int a]) (rest := []) dX6_shift_2 k_760 cm_X6_tapeAt (sC_tapeAt hF m a) (hF.1 _ _ rfl) rfl rfl (Nat.le_of_ble_eq_true rfl) (Nat.le_of_ble_eq_true rfl) fun r1 => ?_
  refine o_mn (q := r1.1) (ls := fun q => [(0, .ref 0), (1, .int a), (2, .int b), (3, .int c), (4, .int d), (5, .int e)]) (st := fun q => [va_rf q]) ?_ (fun a2 => ?_)
  · show S _ _ _ _ _ _ _ _ _ _ [(0, .ref 0), (1, .int a), (2, .int b), (3, .int c), (4, .int d), (5, .int e)] [.null] _
    refine o_astoreN (pc := 5) (ls' := [(6, .null), (0, .ref 0), (1, .int a), (2, .int b), (3, .int c), (4, .int d), (5, .int e)]) dX6_shift_5 (Nat.le_of_ble_eq_true rfl) rfl <| o_aload_n (pc := 7) 1 dX6_shift_7 rfl rfl <| o_iload_n (pc := 8) 4 dX6_shift_8 rfl rfl <| ?_
    refine o_callVQ (Y2 := YX6_tapeAt) (pc := 9) (av := [.int c]) (rest := []) dX6_shift_9 k_760 cm_X6_tapeAt (sC_tapeAt hF r1.2 c) (hF.1 _ _ rfl) rfl rfl (Nat.le_of_ble_eq_true rfl) (Nat.le_of_ble_eq_true rfl) fun r4 => ?_
    refine o_mn (q := r4.1) (ls := fun q => [(6, .null), (0, .ref 0), (1, .int a), (2, .int b), (3, .int c), (4, .int d), (5, .int e)]) (st := fun q => [va_rf q]) ?_ (fun a5 => ?_)
    · show S _ _ _ _ _ _ _ _ _ _ [(6, .null), (0, .ref 0), (1, .int a), (2, .int b), (3, .int c), (4, .int d), (5, .int e)] [.null] _
      refine o_astoreN (pc := 12) (ls' := [(7, .null), (6, .null), (0, .ref 0), (1, .int a), (2, .int b), (3, .int c), (4, .int d), (5, .int e)]) dX6_shift_12 (Nat.le_of_ble_eq_true rfl) rfl <| o_aloadN (pc := 14) 1 dX6_shift_14 rfl <| o_ifnull_t (pc := 16) (tgt := 24) dX6_shift_16 rfl <| o_iconst (pc := 24) dX6_shift_24 lc_m1 <| ?_
      exact o_iret (pc := 25) dX6_shift_25 rfl rfl
    show S _ _ _ _ _ _ _ _ _ _ [(6, .null), (0, .ref 0), (1, .int a), (2, .int b), (3, .int c), (4, .int d), (5, .int e)] [.ref a5] _
    refine o_astore (pc := 12) (ls' := [(7, .ref a5), (6, .null), (0, .ref 0), (1, .int a), (2, .int b), (3, .int c), (4, .int d), (5, .int e)]) dX6_shift_12 (Nat.le_of_ble_eq_true rfl) rfl <| o_aloadN (pc := 14) 1 dX6_shift_14 rfl <| o_ifnull_t (pc := 16) (tgt := 24) dX6_shift_16 rfl <| o_iconst (pc := 24) dX6_shift_24 lc_m1 <| ?_
    exact o_iret (pc := 25) dX6_shift_25 rfl rfl
  show S _ _ _ _ _ _ _ _ _ _ [(0, .ref 0), (1, .int a), (2, .int b), (3, .int c), (4, .int d), (5, .int e)] [.ref a2] _
  refine o_astore (pc := 5) (ls' := [(6, .ref a2), (0, .ref 0), (1, .int a), (2, .int b), (3, .int c), (4, .int d), (5, .int e)]) dX6_shift_5 (Nat.le_of_ble_eq_true rfl) rfl <| o_aload_n (pc := 7) 1 dX6_shift_7 rfl rfl <| o_iload_n (pc := 8) 4 dX6_shift_8 rfl rfl <| ?_
  refine o_callVQ (Y2 := YX6_tapeAt) (pc := 9) (av := [.int c]) (rest := []) dX6_shift_9 k_760 cm_X6_tapeAt (sC_tapeAt hF r1.2 c) (hF.1 _ _ rfl) rfl rfl (Nat.le_of_ble_eq_true rfl) (Nat.le_of_ble_eq_true rfl) fun r7 => ?_
  refine o_mn (q := r7.1) (ls := fun q => [(6, .ref a2), (0, .ref 0), (1, .int a), (2, .int b), (3, .int c), (4, .int d), (5, .int e)]) (st := fun q => [va_rf q]) ?_ (fun a8 => ?_)
  · show S _ _ _ _ _ _ _ _ _ _ [(6, .ref a2), (0, .ref 0), (1, .int a), (2, .int b), (3, .int c), (4, .int d), (5, .int e)] [.null] _
    refine o_astoreN (pc := 12) (ls' := [(7, .null), (6, .ref a2), (0, .ref 0), (1, .int a), (2, .int b), (3, .int c), (4, .int d), (5, .int e)]) dX6_shift_12 (Nat.le_of_ble_eq_true rfl) rfl <| o_aload (pc := 14) 1 dX6_shift_14 rfl <| o_ifnull_f (pc := 16) dX6_shift_16 <| o_aloadN (pc := 19) 0 dX6_shift_19 rfl <| o_ifnonnull_f (pc := 21) dX6_shift_21 <| o_iconst (pc := 24) dX6_shift_24 lc_m1 <| ?_
    exact o_iret (pc := 25) dX6_shift_25 rfl rfl
  show S _ _ _ _ _ _ _ _ _ _ [(6, .ref a2), (0, .ref 0), (1, .int a), (2, .int b), (3, .int c), (4, .int d), (5, .int e)] [.ref a8] _
  refine o_astore (pc := 12) (ls' := [(7, .ref a8), (6, .ref a2), (0, .ref 0), (1, .int a), (2, .int b), (3, .int c), (4, .int d), (5, .int e)]) dX6_shift_12 (Nat.le_of_ble_eq_true rfl) rfl <| o_aload (pc := 14) 1 dX6_shift_14 rfl <| o_ifnull_f (pc := 16) dX6_shift_16 <| o_aload (pc := 19) 0 dX6_shift_19 rfl <| o_ifnonnull_t (pc := 21) (tgt := 26) dX6_shift_21 rfl <| o_aload (pc := 26) 1 dX6_shift_26 rfl <| ?_
  refine S_ck fun h10 => ?_
  refine o_getI (pc := 28) (ci := 4) (j := 0) (nn := 0) dX6_shift_28 h10 rfl (Nat.le_of_ble_eq_true rfl) k_281 rfl <| o_iconst (pc := 31) dX6_shift_31 lc_m1 <| ?_
  refine o_icmp_eq (pc := 32) (tgt := 44) dX6_shift_32 rfl (fun h11 => ?_) (fun h11 => ?_)
  · refine o_bipush (pc := 44) dX6_shift_44 lb_m11 <| ?_
    exact o_iret (pc := 46) dX6_shift_46 rfl rfl
  · refine o_aload (pc := 35) 0 dX6_shift_35 rfl <| ?_
    refine S_ck fun h12 => ?_
    refine o_getI (pc := 37) (ci := 4) (j := 0) (nn := 0) dX6_shift_37 h12 rfl (Nat.le_of_ble_eq_true rfl) k_281 rfl <| o_iconst (pc := 40) dX6_shift_40 lc_m1 <| ?_
    refine o_icmp_ne (pc := 41) (tgt := 47) dX6_shift_41 rfl (fun h13 => ?_) (fun h13 => ?_)
    · refine o_bipush (pc := 44) dX6_shift_44 lb_m11 <| ?_
      exact o_iret (pc := 46) dX6_shift_46 rfl rfl
    · refine o_aload (pc := 47) 1 dX6_shift_47 rfl <| o_getI (pc := 49) (ci := 4) (j := 0) (nn := 0) dX6_shift_49 h10 rfl (Nat.le_of_ble_eq_true rfl) k_281 rfl <| o_aload (pc := 52) 0 dX6_shift_52 rfl <| o_getI (pc := 54) (ci := 4) (j := 0) (nn := 0) dX6_shift_54 h12 rfl (Nat.le_of_ble_eq_true rfl) k_281 rfl <| ?_
      refine o_icmp_eq (pc := 57) (tgt := 63) dX6_shift_57 rfl (fun h14 => ?_) (fun h14 => ?_)
      · refine o_aload (pc := 63) 1 dX6_shift_63 rfl <| o_iload_n (pc := 65) 4 dX6_shift_65 rfl rfl <| o_iload (pc := 66) 7 dX6_shift_66 rfl <| ?_
        refine o_callVI (Y2 := YX4_hasRun) (pc := 68) (av := [.int b, .int e]) (rest := []) dX6_shift_68 k_849 cm_X4_hasRun (sT_hasRun hF r7.2 a2 b e) h10 rfl rfl (Nat.le_of_ble_eq_true rfl) (Nat.le_of_ble_eq_true rfl) fun r15 => ?_
        refine o_if_eq (pc := 71) (tgt := 86) dX6_shift_71 rfl (fun h16 => ?_) (fun h16 => ?_)
        · refine o_bipush (pc := 86) dX6_shift_86 lb_m13 <| ?_
          exact o_iret (pc := 88) dX6_shift_88 rfl rfl
        · refine o_aload (pc := 74) 0 dX6_shift_74 rfl <| o_iload (pc := 76) 6 dX6_shift_76 rfl <| o_iload (pc := 78) 7 dX6_shift_78 rfl <| ?_
          refine o_callVI (Y2 := YX4_hasRun) (pc := 80) (av := [.int d, .int e]) (rest := []) dX6_shift_80 k_849 cm_X4_hasRun (sT_hasRun hF r15.2 a8 d e) h12 rfl rfl (Nat.le_of_ble_eq_true rfl) (Nat.le_of_ble_eq_true rfl) fun r17 => ?_
          refine o_if_ne (pc := 83) (tgt := 89) dX6_shift_83 rfl (fun h18 => ?_) (fun h18 => ?_)
          · refine o_bipush (pc := 86) dX6_shift_86 lb_m13 <| ?_
            exact o_iret (pc := 88) dX6_shift_88 rfl rfl
          · refine o_aload (pc := 89) 1 dX6_shift_89 rfl <| ?_
            refine S_mq fun q20 h19 => ?_
            refine o_getRc (pc := 91) (a := q20) (ci := 4) (j := 2) (nn := 0) dX6_shift_91 h10 rfl (Nat.le_of_ble_eq_true rfl) k_284 rfl h19 <| o_iload_n (pc := 94) 4 dX6_shift_94 rfl rfl <| o_aload (pc := 95) 0 dX6_shift_95 rfl <| ?_
            refine S_mq fun q22 h21 => ?_
            refine o_getRc (pc := 97) (a := q22) (ci := 4) (j := 2) (nn := 0) dX6_shift_97 h12 rfl (Nat.le_of_ble_eq_true rfl) k_284 rfl h21 <| o_iload (pc := 100) 6 dX6_shift_100 rfl <| o_iload (pc := 102) 7 dX6_shift_102 rfl <| ?_
            refine S_ck fun h23 => ?_
            refine S_ck fun h24 => ?_
            refine S_ck fun h25 => ?_
            refine o_cpi (pc := 104) dX6_shift_104 k_393 k_395 k_394 k_82 (kA_ok h23) (kA_ok h24) h25 (Nat.le_of_ble_eq_true rfl) (Nat.le_of_ble_eq_true rfl) <| ?_
            refine o_lm fun m26 => ?_
            refine o_iload (pc := 107) 7 dX6_shift_107 rfl <| ?_
            exact o_iret (pc := 109) dX6_shift_109 rfl rfl
      · refine o_bipush (pc := 60) dX6_shift_60 lb_m12 <| ?_
        exact o_iret (pc := 62) dX6_shift_62 rfl rfl
