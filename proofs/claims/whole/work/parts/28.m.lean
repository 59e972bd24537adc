def fP_readsFactor_l2 (u1 : Int32) (k0_0 : MI → Int32 → Option (Int32 × MI)) : Nat → MI → Int32 → Option (Int32 × MI)
  | 0, _, _ => none
  | n0 + 1, m, v2 =>
    if 4 ≤ v2 then
      k0_0 m v2
    else
      (fP_reads m 33).bind fun r2 =>
      if r2.1 = 0 then
        k0_0 r2.2 v2
      else
        lt (v2 + 1) fun x4 =>
        fP_readsFactor_l2 u1 k0_0 n0 r2.2 x4
theorem sP_readsFactor_l2 {sh : Sh} {R : RR} (hF : Fx sh R) {dr : Nat} (u1 : Int32) (k0_0 : MI → Int32 → Option (Int32 × MI)) (hk0_0 : ∀ (m : MI) (v2 : Int32) , S (eI sh R) false (dr + 8) 0 0 YX2_readsFactor sh R m 22 [(0, .ref 43), (1, .int u1), (2, .int v2)] [] (k0_0 m v2)) : ∀ (n : Nat) (m : MI) (v2 : Int32) , S (eI sh R) false (dr + 8) 0 0 YX2_readsFactor sh R m 2 [(0, .ref 43), (1, .int u1), (2, .int v2)] [] (fP_readsFactor_l2 u1 k0_0 n m v2) := by
  intro n
  induction n with
  | zero => intros; exact S_none
  | succ n0 ih0 =>
    intro m v2
    rw [fP_readsFactor_l2]
    refine o_iload_n (pc := 2) 2 dX2_readsFactor_2 rfl rfl <| o_iconst (pc := 3) dX2_readsFactor_3 lc_4 <| ?_
    refine o_icmp_ge (pc := 4) (tgt := 22) dX2_readsFactor_4 rfl (fun h1 => ?_) (fun h1 => ?_)
    · exact hk0_0 m v2
    · refine o_aload_n (pc := 7) 0 dX2_readsFactor_7 rfl rfl <| o_bipush (pc := 8) dX2_readsFactor_8 lb_33 <| ?_
      refine o_callVI (Y2 := YX2_reads) (pc := 10) (av := [.int 33]) (rest := []) dX2_readsFactor_10 k_474 cm_X2_reads (sP_reads hF m 33) (hF.1 _ _ rfl) rfl rfl (Nat.le_of_ble_eq_true rfl) (by omega) fun r2 => ?_
      refine o_if_eq (pc := 13) (tgt := 22) dX2_readsFactor_13 rfl (fun h3 => ?_) (fun h3 => ?_)
      · exact hk0_0 r2.2 v2
      · refine o_iinc (pc := 16) 2 (v := v2 + 1) (ls' := [(2, .int (v2 + 1)), (0, .ref 43), (1, .int u1)]) dX2_readsFactor_16 rfl rfl (Nat.le_of_ble_eq_true rfl) rfl <| ?_
        refine o_ltL (ls := fun x4 => [(2, .int x4), (0, .ref 43), (1, .int u1)]) fun x4 => ?_
        refine o_goto (pc := 19) (tgt := 2) dX2_readsFactor_19 rfl <| ?_
        refine o_sub [1, 2, 0] (ls' := [(0, .ref 43), (1, .int u1), (2, .int x4)]) rfl ?_
        exact ih0 r2.2 x4
def fP_readsFactor_l74 (u1 : Int32) (u2 : Int32) (u3 : Int32) (k0_0 : MI → Int32 → Option (Int32 × MI)) : Nat → MI → Int32 → Option (Int32 × MI)
  | 0, _, _ => none
  | n0 + 1, m, v4 =>
    if u3 = 0 then
      k0_0 m v4
    else
      if v4 ≤ 0 then
        k0_0 m v4
      else
        (fP_keep m 1).bind fun r3 =>
        lt (v4 + (-1)) fun x4 =>
        fP_readsFactor_l74 u1 u2 u3 k0_0 n0 r3 x4
theorem sP_readsFactor_l74 {sh : Sh} {R : RR} (hF : Fx sh R) {dr : Nat} (u1 : Int32) (u2 : Int32) (u3 : Int32) (k0_0 : MI → Int32 → Option (Int32 × MI)) (hk0_0 : ∀ (m : MI) (v4 : Int32) , S (eI sh R) false (dr + 8) 0 0 YX2_readsFactor sh R m 94 [(0, .ref 43), (1, .int u1), (2, .int u2), (3, .int u3), (4, .int v4)] [] (k0_0 m v4)) : ∀ (n : Nat) (m : MI) (v4 : Int32) , S (eI sh R) false (dr + 8) 0 0 YX2_readsFactor sh R m 74 [(0, .ref 43), (1, .int u1), (2, .int u2), (3, .int u3), (4, .int v4)] [] (fP_readsFactor_l74 u1 u2 u3 k0_0 n m v4) := by
  intro n
  induction n with
  | zero => intros; exact S_none
  | succ n0 ih0 =>
    intro m v4
    rw [fP_readsFactor_l74]
    refine o_iload_n (pc := 74) 3 dX2_readsFactor_74 rfl rfl <| ?_
    refine o_if_eq (pc := 75) (tgt := 94) dX2_readsFactor_75 rfl (fun h1 => ?_) (fun h1 => ?_)
    · exact hk0_0 m v4
    · refine o_iload (pc := 78) 4 dX2_readsFactor_78 rfl <| ?_
      refine o_if_le (pc := 80) (tgt := 94) dX2_readsFactor_80 rfl (fun h2 => ?_) (fun h2 => ?_)
      · exact hk0_0 m v4
      · refine o_aload_n (pc := 83) 0 dX2_readsFactor_83 rfl rfl <| o_iconst (pc := 84) dX2_readsFactor_84 lc_1 <| ?_
        refine o_callVV (Y2 := YX2_keep) (pc := 85) (av := [.int 1]) (rest := []) dX2_readsFactor_85 k_563 cm_X2_keep (sP_keep hF m 1) (hF.1 _ _ rfl) rfl rfl (Nat.le_of_ble_eq_true rfl) (by omega) fun r3 => ?_
        refine o_iinc (pc := 88) 4 (v := v4 + (-1)) (ls' := [(4, .int (v4 + (-1))), (0, .ref 43), (1, .int u1), (2, .int u2), (3, .int u3)]) dX2_readsFactor_88 rfl rfl (Nat.le_of_ble_eq_true rfl) rfl <| ?_
        refine o_ltL (ls := fun x4 => [(4, .int x4), (0, .ref 43), (1, .int u1), (2, .int u2), (3, .int u3)]) fun x4 => ?_
        refine o_goto (pc := 91) (tgt := 74) dX2_readsFactor_91 rfl <| ?_
        refine o_sub [1, 2, 3, 4, 0] (ls' := [(0, .ref 43), (1, .int u1), (2, .int u2), (3, .int u3), (4, .int x4)]) rfl ?_
        exact ih0 r3 x4
def fP_readsFactor_l74b (u1 : Int32) (u2 : Int32) (k0_0 : MI → Int32 → Option (Int32 × MI)) : Nat → MI → Int32 → Option (Int32 × MI)
  | 0, _, _ => none
  | n0 + 1, m, v4 =>
    k0_0 m v4
theorem sP_readsFactor_l74b {sh : Sh} {R : RR} (hF : Fx sh R) {dr : Nat} (u1 : Int32) (u2 : Int32) (k0_0 : MI → Int32 → Option (Int32 × MI)) (hk0_0 : ∀ (m : MI) (v4 : Int32) , S (eI sh R) false (dr + 8) 0 0 YX2_readsFactor sh R m 94 [(0, .ref 43), (1, .int u1), (2, .int u2), (3, .int 0), (4, .int v4)] [] (k0_0 m v4)) : ∀ (n : Nat) (m : MI) (v4 : Int32) , S (eI sh R) false (dr + 8) 0 0 YX2_readsFactor sh R m 74 [(0, .ref 43), (1, .int u1), (2, .int u2), (3, .int 0), (4, .int v4)] [] (fP_readsFactor_l74b u1 u2 k0_0 n m v4) := by
  intro n
  induction n with
  | zero => intros; exact S_none
  | succ n0 ih0 =>
    intro m v4
    rw [fP_readsFactor_l74b]
    refine o_iload_n (pc := 74) 3 dX2_readsFactor_74 rfl rfl <| o_if_eq_t (pc := 75) (tgt := 94) dX2_readsFactor_75 rfl (by decide) <| ?_
    exact hk0_0 m v4
def fP_readsFactor_l74bb (u1 : Int32) (u2 : Int32) (k0_0 : MI → Int32 → Option (Int32 × MI)) : Nat → MI → Int32 → Option (Int32 × MI)
  | 0, _, _ => none
  | n0 + 1, m, v4 =>
    if v4 ≤ 0 then
      k0_0 m v4
    else
      (fP_keep m 1).bind fun r2 =>
      lt (v4 + (-1)) fun x3 =>
      fP_readsFactor_l74bb u1 u2 k0_0 n0 r2 x3
theorem sP_readsFactor_l74bb {sh : Sh} {R : RR} (hF : Fx sh R) {dr : Nat} (u1 : Int32) (u2 : Int32) (k0_0 : MI → Int32 → Option (Int32 × MI)) (hk0_0 : ∀ (m : MI) (v4 : Int32) , S (eI sh R) false (dr + 8) 0 0 YX2_readsFactor sh R m 94 [(0, .ref 43), (1, .int u1), (2, .int u2), (3, .int 1), (4, .int v4)] [] (k0_0 m v4)) : ∀ (n : Nat) (m : MI) (v4 : Int32) , S (eI sh R) false (dr + 8) 0 0 YX2_readsFactor sh R m 74 [(0, .ref 43), (1, .int u1), (2, .int u2), (3, .int 1), (4, .int v4)] [] (fP_readsFactor_l74bb u1 u2 k0_0 n m v4) := by
  intro n
  induction n with
  | zero => intros; exact S_none
  | succ n0 ih0 =>
    intro m v4
    rw [fP_readsFactor_l74bb]
    refine o_iload_n (pc := 74) 3 dX2_readsFactor_74 rfl rfl <| o_if_eq_f (pc := 75) (tgt := 94) dX2_readsFactor_75 rfl (by decide) <| o_iload (pc := 78) 4 dX2_readsFactor_78 rfl <| ?_
    refine o_if_le (pc := 80) (tgt := 94) dX2_readsFactor_80 rfl (fun h1 => ?_) (fun h1 => ?_)
    · exact hk0_0 m v4
    · refine o_aload_n (pc := 83) 0 dX2_readsFactor_83 rfl rfl <| o_iconst (pc := 84) dX2_readsFactor_84 lc_1 <| ?_
      refine o_callVV (Y2 := YX2_keep) (pc := 85) (av := [.int 1]) (rest := []) dX2_readsFactor_85 k_563 cm_X2_keep (sP_keep hF m 1) (hF.1 _ _ rfl) rfl rfl (Nat.le_of_ble_eq_true rfl) (by omega) fun r2 => ?_
      refine o_iinc (pc := 88) 4 (v := v4 + (-1)) (ls' := [(4, .int (v4 + (-1))), (0, .ref 43), (1, .int u1), (2, .int u2), (3, .int 1)]) dX2_readsFactor_88 rfl rfl (Nat.le_of_ble_eq_true rfl) rfl <| ?_
      refine o_ltL (ls := fun x3 => [(4, .int x3), (0, .ref 43), (1, .int u1), (2, .int u2), (3, .int 1)]) fun x3 => ?_
      refine o_goto (pc := 91) (tgt := 74) dX2_readsFactor_91 rfl <| ?_
      refine o_sub [1, 2, 3, 4, 0] (ls' := [(0, .ref 43), (1, .int u1), (2, .int u2), (3, .int 1), (4, .int x3)]) rfl ?_
      exact ih0 r2 x3
def fP_readsFactor (rec : MI → Int32 → Option (Int32 × MI)) (m : MI) (a : Int32) : Option (Int32 × MI) :=
  fP_readsFactor_l2 a
    (fun m2 z1 =>
      if 4 ≤ z1 then
        (fP_readsTest m2).bind fun r4 =>
        lt (z1 - a) fun x5 =>
        fP_readsFactor_l74 a z1 r4.1
          (fun m7 z6 =>
            if zb r4.1 = true then some (r4.1, m7) else none
            )
          1000 r4.2 x5
      else
        (fP_reads m2 40).bind fun r9 =>
        if r9.1 = 0 then
          (fP_readsTest r9.2).bind fun r11 =>
          lt (z1 - a) fun x12 =>
          fP_readsFactor_l74 a z1 r11.1
            (fun m14 z13 =>
              if zb r11.1 = true then some (r11.1, m14) else none
              )
            1000 r11.2 x12
        else
          (rec r9.2 (z1 + 1)).bind fun r16 =>
          if r16.1 = 0 then
            lt (z1 - a) fun x18 =>
            fP_readsFactor_l74b a z1
              (fun m20 z19 =>
                some (0, m20)
                )
              1000 r16.2 x18
          else
            (fP_reads r16.2 41).bind fun r21 =>
            if r21.1 = 0 then
              lt (z1 - a) fun x23 =>
              fP_readsFactor_l74b a z1
                (fun m25 z24 =>
                  some (0, m25)
                  )
                1000 r21.2 x23
            else
              lt (z1 - a) fun x26 =>
              fP_readsFactor_l74bb a z1
                (fun m28 z27 =>
                  some (1, m28)
                  )
                1000 r21.2 x26
      )
    1000 m a
theorem sP_readsFactor {sh : Sh} {R : RR} (hF : Fx sh R) {rec : MI → Int32 → Option (Int32 × MI)} {dr : Nat} (hrec : ∀ (m : MI) (a : Int32) , KS (eI sh R) false dr 0 0 YX2_readsEither sh R m [.ref 43, .int a] (rec m a)) (m : MI) (a : Int32) : KS (eI sh R) false (dr + 8) 0 0 YX2_readsFactor sh R m [.ref 43, .int a] (fP_readsFactor rec m a) := by
  refine KS_of pn_X2 (fun _ => Nat.le_of_ble_eq_true rfl) ?_
  change S _ _ _ _ _ _ _ _ _ _ [(0, .ref 43), (1, .int a)] [] _
  unfold fP_readsFactor
  refine o_iload_n (pc := 0) 1 dX2_readsFactor_0 rfl rfl <| o_istore_n (pc := 1) (ls' := [(2, .int a), (0, .ref 43), (1, .int a)]) dX2_readsFactor_1 rfl (Nat.le_of_ble_eq_true rfl) rfl <| ?_
  refine o_sub [1, 2, 0] (ls' := [(0, .ref 43), (1, .int a), (2, .int a)]) rfl ?_
  refine sP_readsFactor_l2 hF a _ ?_ 1000 m a
  · intro m2 z1
    refine o_iload_n (pc := 22) 2 dX2_readsFactor_22 rfl rfl <| o_iconst (pc := 23) dX2_readsFactor_23 lc_4 <| ?_
    refine o_icmp_ge (pc := 24) (tgt := 64) dX2_readsFactor_24 rfl (fun h3 => ?_) (fun h3 => ?_)
    · refine o_aload_n (pc := 64) 0 dX2_readsFactor_64 rfl rfl <| ?_
      refine o_callVI (Y2 := YX2_readsTest) (pc := 65) (av := []) (rest := []) dX2_readsFactor_65 k_493 cm_X2_readsTest (sP_readsTest hF m2 ) (hF.1 _ _ rfl) rfl rfl (Nat.le_of_ble_eq_true rfl) (by omega) fun r4 => ?_
      refine o_istore_n (pc := 68) (ls' := [(3, .int r4.1), (0, .ref 43), (1, .int a), (2, .int z1)]) dX2_readsFactor_68 rfl (Nat.le_of_ble_eq_true rfl) rfl <| o_iload_n (pc := 69) 3 dX2_readsFactor_69 rfl rfl <| o_iload_n (pc := 70) 2 dX2_readsFactor_70 rfl rfl <| o_isub (pc := 71) dX2_readsFactor_71 <| ?_
      refine o_lt fun x5 => ?_
      refine o_istore (pc := 72) (ls' := [(4, .int x5), (3, .int r4.1), (0, .ref 43), (1, .int a), (2, .int z1)]) dX2_readsFactor_72 (Nat.le_of_ble_eq_true rfl) rfl <| ?_
      refine o_sub [2, 3, 4, 1, 0] (ls' := [(0, .ref 43), (1, .int a), (2, .int z1), (3, .int r4.1), (4, .int x5)]) rfl ?_
      refine sP_readsFactor_l74 hF a z1 r4.1 _ ?_ 1000 r4.2 x5
      · intro m7 z6
        refine o_iload_n (pc := 94) 3 dX2_readsFactor_94 rfl rfl <| ?_
        refine S_ck fun h8 => ?_
        exact o_zret (pc := 95) dX2_readsFactor_95 rfl (zb_ok h8) rfl
    · refine o_aload_n (pc := 27) 0 dX2_readsFactor_27 rfl rfl <| o_bipush (pc := 28) dX2_readsFactor_28 lb_40 <| ?_
      refine o_callVI (Y2 := YX2_reads) (pc := 30) (av := [.int 40]) (rest := []) dX2_readsFactor_30 k_474 cm_X2_reads (sP_reads hF m2 40) (hF.1 _ _ rfl) rfl rfl (Nat.le_of_ble_eq_true rfl) (by omega) fun r9 => ?_
      refine o_if_eq (pc := 33) (tgt := 64) dX2_readsFactor_33 rfl (fun h10 => ?_) (fun h10 => ?_)
      · refine o_aload_n (pc := 64) 0 dX2_readsFactor_64 rfl rfl <| ?_
        refine o_callVI (Y2 := YX2_readsTest) (pc := 65) (av := []) (rest := []) dX2_readsFactor_65 k_493 cm_X2_readsTest (sP_readsTest hF r9.2 ) (hF.1 _ _ rfl) rfl rfl (Nat.le_of_ble_eq_true rfl) (by omega) fun r11 => ?_
        refine o_istore_n (pc := 68) (ls' := [(3, .int r11.1), (0, .ref 43), (1, .int a), (2, .int z1)]) dX2_readsFactor_68 rfl (Nat.le_of_ble_eq_true rfl) rfl <| o_iload_n (pc := 69) 3 dX2_readsFactor_69 rfl rfl <| o_iload_n (pc := 70) 2 dX2_readsFactor_70 rfl rfl <| o_isub (pc := 71) dX2_readsFactor_71 <| ?_
        refine o_lt fun x12 => ?_
        refine o_istore (pc := 72) (ls' := [(4, .int x12), (3, .int r11.1), (0, .ref 43), (1, .int a), (2, .int z1)]) dX2_readsFactor_72 (Nat.le_of_ble_eq_true rfl) rfl <| ?_
        refine o_sub [2, 3, 4, 1, 0] (ls' := [(0, .ref 43), (1, .int a), (2, .int z1), (3, .int r11.1), (4, .int x12)]) rfl ?_
        refine sP_readsFactor_l74 hF a z1 r11.1 _ ?_ 1000 r11.2 x12
        · intro m14 z13
          refine o_iload_n (pc := 94) 3 dX2_readsFactor_94 rfl rfl <| ?_
          refine S_ck fun h15 => ?_
          exact o_zret (pc := 95) dX2_readsFactor_95 rfl (zb_ok h15) rfl
      · refine o_aload_n (pc := 36) 0 dX2_readsFactor_36 rfl rfl <| o_iload_n (pc := 37) 2 dX2_readsFactor_37 rfl rfl <| o_iconst (pc := 38) dX2_readsFactor_38 lc_1 <| o_iadd (pc := 39) dX2_readsFactor_39 <| ?_
        refine o_callVI (Y2 := YX2_readsEither) (pc := 40) (av := [.int (z1 + 1)]) (rest := []) dX2_readsFactor_40 k_485 cm_X2_readsEither (hrec r9.2 (z1 + 1)) (hF.1 _ _ rfl) rfl rfl (Nat.le_of_ble_eq_true rfl) (by omega) fun r16 => ?_
        refine o_if_eq (pc := 43) (tgt := 59) dX2_readsFactor_43 rfl (fun h17 => ?_) (fun h17 => ?_)
        · refine o_iconst (pc := 59) dX2_readsFactor_59 lc_0 <| o_istore_n (pc := 60) (ls' := [(3, .int 0), (0, .ref 43), (1, .int a), (2, .int z1)]) dX2_readsFactor_60 rfl (Nat.le_of_ble_eq_true rfl) rfl <| o_goto (pc := 61) (tgt := 69) dX2_readsFactor_61 rfl <| o_iload_n (pc := 69) 3 dX2_readsFactor_69 rfl rfl <| o_iload_n (pc := 70) 2 dX2_readsFactor_70 rfl rfl <| o_isub (pc := 71) dX2_readsFactor_71 <| ?_
          refine o_lt fun x18 => ?_
          refine o_istore (pc := 72) (ls' := [(4, .int x18), (3, .int 0), (0, .ref 43), (1, .int a), (2, .int z1)]) dX2_readsFactor_72 (Nat.le_of_ble_eq_true rfl) rfl <| ?_
          refine o_sub [2, 3, 4, 1, 0] (ls' := [(0, .ref 43), (1, .int a), (2, .int z1), (3, .int 0), (4, .int x18)]) rfl ?_
          refine sP_readsFactor_l74b hF a z1 _ ?_ 1000 r16.2 x18
          · intro m20 z19
            refine o_iload_n (pc := 94) 3 dX2_readsFactor_94 rfl rfl <| ?_
            exact o_zret (pc := 95) dX2_readsFactor_95 rfl rfl rfl
        · refine o_aload_n (pc := 46) 0 dX2_readsFactor_46 rfl rfl <| o_bipush (pc := 47) dX2_readsFactor_47 lb_41 <| ?_
          refine o_callVI (Y2 := YX2_reads) (pc := 49) (av := [.int 41]) (rest := []) dX2_readsFactor_49 k_474 cm_X2_reads (sP_reads hF r16.2 41) (hF.1 _ _ rfl) rfl rfl (Nat.le_of_ble_eq_true rfl) (by omega) fun r21 => ?_
          refine o_if_eq (pc := 52) (tgt := 59) dX2_readsFactor_52 rfl (fun h22 => ?_) (fun h22 => ?_)
          · refine o_iconst (pc := 59) dX2_readsFactor_59 lc_0 <| o_istore_n (pc := 60) (ls' := [(3, .int 0), (0, .ref 43), (1, .int a), (2, .int z1)]) dX2_readsFactor_60 rfl (Nat.le_of_ble_eq_true rfl) rfl <| o_goto (pc := 61) (tgt := 69) dX2_readsFactor_61 rfl <| o_iload_n (pc := 69) 3 dX2_readsFactor_69 rfl rfl <| o_iload_n (pc := 70) 2 dX2_readsFactor_70 rfl rfl <| o_isub (pc := 71) dX2_readsFactor_71 <| ?_
            refine o_lt fun x23 => ?_
            refine o_istore (pc := 72) (ls' := [(4, .int x23), (3, .int 0), (0, .ref 43), (1, .int a), (2, .int z1)]) dX2_readsFactor_72 (Nat.le_of_ble_eq_true rfl) rfl <| ?_
            refine o_sub [2, 3, 4, 1, 0] (ls' := [(0, .ref 43), (1, .int a), (2, .int z1), (3, .int 0), (4, .int x23)]) rfl ?_
            refine sP_readsFactor_l74b hF a z1 _ ?_ 1000 r21.2 x23
            · intro m25 z24
              refine o_iload_n (pc := 94) 3 dX2_readsFactor_94 rfl rfl <| ?_
              exact o_zret (pc := 95) dX2_readsFactor_95 rfl rfl rfl
          · refine o_iconst (pc := 55) dX2_readsFactor_55 lc_1 <| o_goto (pc := 56) (tgt := 60) dX2_readsFactor_56 rfl <| o_istore_n (pc := 60) (ls' := [(3, .int 1), (0, .ref 43), (1, .int a), (2, .int z1)]) dX2_readsFactor_60 rfl (Nat.le_of_ble_eq_true rfl) rfl <| o_goto (pc := 61) (tgt := 69) dX2_readsFactor_61 rfl <| o_iload_n (pc := 69) 3 dX2_readsFactor_69 rfl rfl <| o_iload_n (pc := 70) 2 dX2_readsFactor_70 rfl rfl <| o_isub (pc := 71) dX2_readsFactor_71 <| ?_
            refine o_lt fun x26 => ?_
            refine o_istore (pc := 72) (ls' := [(4, .int x26), (3, .int 1), (0, .ref 43), (1, .int a), (2, .int z1)]) dX2_readsFactor_72 (Nat.le_of_ble_eq_true rfl) rfl <| ?_
            refine o_sub [2, 3, 4, 1, 0] (ls' := [(0, .ref 43), (1, .int a), (2, .int z1), (3, .int 1), (4, .int x26)]) rfl ?_
            refine sP_readsFactor_l74bb hF a z1 _ ?_ 1000 r21.2 x26
            · intro m28 z27
              refine o_iload_n (pc := 94) 3 dX2_readsFactor_94 rfl rfl <| ?_
              exact o_zret (pc := 95) dX2_readsFactor_95 rfl rfl rfl
def fP_readsEither_l7 (rec : MI → Int32 → Option (Int32 × MI)) (u1 : Int32) (k0_0 : MI → Int32 → Int32 → Int32 → Option (Int32 × MI)) : Nat → MI → Int32 → Int32 → Int32 → Option (Int32 × MI)
  | 0, _, _, _, _ => none
  | n0 + 1, m, v2, v3, v4 =>
    if 100 ≤ v4 then
      k0_0 m v2 v3 v4
    else
      (fP_readsFactor rec m u1).bind fun r2 =>
      if r2.1 = 0 then
        some (0, r2.2)
      else
        if v2 = 0 then
          (fP_reads r2.2 38).bind fun r5 =>
          if r5.1 = 0 then
            if v3 = 0 then
              (fP_reads r5.2 124).bind fun r8 =>
              if r8.1 = 0 then
                some (1, r8.2)
              else
                lt (v4 + 1) fun x10 =>
                fP_readsEither_l7 rec u1 k0_0 n0 r8.2 r5.1 r8.1 x10
            else
              (fP_keep r5.2 3).bind fun r11 =>
              (fP_reads r11 124).bind fun r12 =>
              if r12.1 = 0 then
                some (1, r12.2)
              else
                lt (v4 + 1) fun x14 =>
                fP_readsEither_l7 rec u1 k0_0 n0 r12.2 r5.1 r12.1 x14
          else
            lt (v4 + 1) fun x15 =>
            fP_readsEither_l7 rec u1 k0_0 n0 r5.2 r5.1 v3 x15
        else
          (fP_keep r2.2 2).bind fun r16 =>
          (fP_reads r16 38).bind fun r17 =>
          if r17.1 = 0 then
            if v3 = 0 then
              (fP_reads r17.2 124).bind fun r20 =>
              if r20.1 = 0 then
                some (1, r20.2)
              else
                lt (v4 + 1) fun x22 =>
                fP_readsEither_l7 rec u1 k0_0 n0 r20.2 r17.1 r20.1 x22
            else
              (fP_keep r17.2 3).bind fun r23 =>
              (fP_reads r23 124).bind fun r24 =>
              if r24.1 = 0 then
                some (1, r24.2)
              else
                lt (v4 + 1) fun x26 =>
                fP_readsEither_l7 rec u1 k0_0 n0 r24.2 r17.1 r24.1 x26
          else
            lt (v4 + 1) fun x27 =>
            fP_readsEither_l7 rec u1 k0_0 n0 r17.2 r17.1 v3 x27
theorem sP_readsEither_l7 {sh : Sh} {R : RR} (hF : Fx sh R) {rec : MI → Int32 → Option (Int32 × MI)} {dr : Nat} (hrec : ∀ (m : MI) (a : Int32) , KS (eI sh R) false dr 0 0 YX2_readsEither sh R m [.ref 43, .int a] (rec m a)) (u1 : Int32) (k0_0 : MI → Int32 → Int32 → Int32 → Option (Int32 × MI)) (hk0_0 : ∀ (m : MI) (v2 : Int32) (v3 : Int32) (v4 : Int32) , S (eI sh R) false (dr + 9) 0 0 YX2_readsEither sh R m 75 [(0, .ref 43), (1, .int u1), (2, .int v2), (3, .int v3), (4, .int v4)] [] (k0_0 m v2 v3 v4)) : ∀ (n : Nat) (m : MI) (v2 : Int32) (v3 : Int32) (v4 : Int32) , S (eI sh R) false (dr + 9) 0 0 YX2_readsEither sh R m 7 [(0, .ref 43), (1, .int u1), (2, .int v2), (3, .int v3), (4, .int v4)] [] (fP_readsEither_l7 rec u1 k0_0 n m v2 v3 v4) := by
  intro n
  induction n with
  | zero => intros; exact S_none
  | succ n0 ih0 =>
    intro m v2 v3 v4
    rw [fP_readsEither_l7]
    refine o_iload (pc := 7) 4 dX2_readsEither_7 rfl <| o_bipush (pc := 9) dX2_readsEither_9 lb_100 <| ?_
    refine o_icmp_ge (pc := 11) (tgt := 75) dX2_readsEither_11 rfl (fun h1 => ?_) (fun h1 => ?_)
    · exact hk0_0 m v2 v3 v4
    · refine o_aload_n (pc := 14) 0 dX2_readsEither_14 rfl rfl <| o_iload_n (pc := 15) 1 dX2_readsEither_15 rfl rfl <| ?_
      refine o_callVI (Y2 := YX2_readsFactor) (pc := 16) (av := [.int u1]) (rest := []) dX2_readsEither_16 k_489 cm_X2_readsFactor (sP_readsFactor hF hrec m u1) (hF.1 _ _ rfl) rfl rfl (Nat.le_of_ble_eq_true rfl) (by omega) fun r2 => ?_
      refine o_if_ne (pc := 19) (tgt := 24) dX2_readsEither_19 rfl (fun h3 => ?_) (fun h3 => ?_)
      · refine o_iconst (pc := 22) dX2_readsEither_22 lc_0 <| ?_
        exact o_zret (pc := 23) dX2_readsEither_23 rfl rfl rfl
      · refine o_iload_n (pc := 24) 2 dX2_readsEither_24 rfl rfl <| ?_
        refine o_if_eq (pc := 25) (tgt := 33) dX2_readsEither_25 rfl (fun h4 => ?_) (fun h4 => ?_)
        · refine o_aload_n (pc := 33) 0 dX2_readsEither_33 rfl rfl <| o_bipush (pc := 34) dX2_readsEither_34 lb_38 <| ?_
          refine o_callVI (Y2 := YX2_reads) (pc := 36) (av := [.int 38]) (rest := []) dX2_readsEither_36 k_474 cm_X2_reads (sP_reads hF r2.2 38) (hF.1 _ _ rfl) rfl rfl (Nat.le_of_ble_eq_true rfl) (by omega) fun r5 => ?_
          refine o_istore_n (pc := 39) (ls' := [(2, .int r5.1), (0, .ref 43), (1, .int u1), (3, .int v3), (4, .int v4)]) dX2_readsEither_39 rfl (Nat.le_of_ble_eq_true rfl) rfl <| o_iload_n (pc := 40) 0 dX2_readsEither_40 rfl rfl <| ?_
          refine o_if_eq (pc := 41) (tgt := 47) dX2_readsEither_41 rfl (fun h6 => ?_) (fun h6 => ?_)
          · refine o_iload_n (pc := 47) 3 dX2_readsEither_47 rfl rfl <| ?_
            refine o_if_eq (pc := 48) (tgt := 56) dX2_readsEither_48 rfl (fun h7 => ?_) (fun h7 => ?_)
            · refine o_aload_n (pc := 56) 1 dX2_readsEither_56 rfl rfl <| o_bipush (pc := 57) dX2_readsEither_57 lb_124 <| ?_
              refine o_callVI (Y2 := YX2_reads) (pc := 59) (av := [.int 124]) (rest := []) dX2_readsEither_59 k_474 cm_X2_reads (sP_reads hF r5.2 124) (hF.1 _ _ rfl) rfl rfl (Nat.le_of_ble_eq_true rfl) (by omega) fun r8 => ?_
              refine o_istore_n (pc := 62) (ls' := [(3, .int r8.1), (2, .int r5.1), (0, .ref 43), (1, .int u1), (4, .int v4)]) dX2_readsEither_62 rfl (Nat.le_of_ble_eq_true rfl) rfl <| o_iload_n (pc := 63) 0 dX2_readsEither_63 rfl rfl <| ?_
              refine o_if_ne (pc := 64) (tgt := 69) dX2_readsEither_64 rfl (fun h9 => ?_) (fun h9 => ?_)
              · refine o_iconst (pc := 67) dX2_readsEither_67 lc_1 <| ?_
                exact o_zret (pc := 68) dX2_readsEither_68 rfl rfl rfl
              · refine o_iinc (pc := 69) 4 (v := v4 + 1) (ls' := [(4, .int (v4 + 1)), (3, .int r8.1), (2, .int r5.1), (0, .ref 43), (1, .int u1)]) dX2_readsEither_69 rfl rfl (Nat.le_of_ble_eq_true rfl) rfl <| ?_
                refine o_ltL (ls := fun x10 => [(4, .int x10), (3, .int r8.1), (2, .int r5.1), (0, .ref 43), (1, .int u1)]) fun x10 => ?_
                refine o_goto (pc := 72) (tgt := 7) dX2_readsEither_72 rfl <| ?_
                refine o_sub [3, 4, 2, 1, 0] (ls' := [(0, .ref 43), (1, .int u1), (2, .int r5.1), (3, .int r8.1), (4, .int x10)]) rfl ?_
                exact ih0 r8.2 r5.1 r8.1 x10
            · refine o_aload_n (pc := 51) 1 dX2_readsEither_51 rfl rfl <| o_iconst (pc := 52) dX2_readsEither_52 lc_3 <| ?_
              refine o_callVV (Y2 := YX2_keep) (pc := 53) (av := [.int 3]) (rest := []) dX2_readsEither_53 k_563 cm_X2_keep (sP_keep hF r5.2 3) (hF.1 _ _ rfl) rfl rfl (Nat.le_of_ble_eq_true rfl) (by omega) fun r11 => ?_
              refine o_aload_n (pc := 56) 1 dX2_readsEither_56 rfl rfl <| o_bipush (pc := 57) dX2_readsEither_57 lb_124 <| ?_
              refine o_callVI (Y2 := YX2_reads) (pc := 59) (av := [.int 124]) (rest := []) dX2_readsEither_59 k_474 cm_X2_reads (sP_reads hF r11 124) (hF.1 _ _ rfl) rfl rfl (Nat.le_of_ble_eq_true rfl) (by omega) fun r12 => ?_
              refine o_istore_n (pc := 62) (ls' := [(3, .int r12.1), (2, .int r5.1), (0, .ref 43), (1, .int u1), (4, .int v4)]) dX2_readsEither_62 rfl (Nat.le_of_ble_eq_true rfl) rfl <| o_iload_n (pc := 63) 0 dX2_readsEither_63 rfl rfl <| ?_
              refine o_if_ne (pc := 64) (tgt := 69) dX2_readsEither_64 rfl (fun h13 => ?_) (fun h13 => ?_)
              · refine o_iconst (pc := 67) dX2_readsEither_67 lc_1 <| ?_
                exact o_zret (pc := 68) dX2_readsEither_68 rfl rfl rfl
              · refine o_iinc (pc := 69) 4 (v := v4 + 1) (ls' := [(4, .int (v4 + 1)), (3, .int r12.1), (2, .int r5.1), (0, .ref 43), (1, .int u1)]) dX2_readsEither_69 rfl rfl (Nat.le_of_ble_eq_true rfl) rfl <| ?_
                refine o_ltL (ls := fun x14 => [(4, .int x14), (3, .int r12.1), (2, .int r5.1), (0, .ref 43), (1, .int u1)]) fun x14 => ?_
                refine o_goto (pc := 72) (tgt := 7) dX2_readsEither_72 rfl <| ?_
                refine o_sub [3, 4, 2, 1, 0] (ls' := [(0, .ref 43), (1, .int u1), (2, .int r5.1), (3, .int r12.1), (4, .int x14)]) rfl ?_
                exact ih0 r12.2 r5.1 r12.1 x14
          · refine o_goto (pc := 44) (tgt := 69) dX2_readsEither_44 rfl <| o_iinc (pc := 69) 4 (v := v4 + 1) (ls' := [(4, .int (v4 + 1)), (2, .int r5.1), (0, .ref 43), (1, .int u1), (3, .int v3)]) dX2_readsEither_69 rfl rfl (Nat.le_of_ble_eq_true rfl) rfl <| ?_
            refine o_ltL (ls := fun x15 => [(4, .int x15), (2, .int r5.1), (0, .ref 43), (1, .int u1), (3, .int v3)]) fun x15 => ?_
            refine o_goto (pc := 72) (tgt := 7) dX2_readsEither_72 rfl <| ?_
            refine o_sub [2, 3, 1, 4, 0] (ls' := [(0, .ref 43), (1, .int u1), (2, .int r5.1), (3, .int v3), (4, .int x15)]) rfl ?_
            exact ih0 r5.2 r5.1 v3 x15
        · refine o_aload_n (pc := 28) 0 dX2_readsEither_28 rfl rfl <| o_iconst (pc := 29) dX2_readsEither_29 lc_2 <| ?_
          refine o_callVV (Y2 := YX2_keep) (pc := 30) (av := [.int 2]) (rest := []) dX2_readsEither_30 k_563 cm_X2_keep (sP_keep hF r2.2 2) (hF.1 _ _ rfl) rfl rfl (Nat.le_of_ble_eq_true rfl) (by omega) fun r16 => ?_
          refine o_aload_n (pc := 33) 0 dX2_readsEither_33 rfl rfl <| o_bipush (pc := 34) dX2_readsEither_34 lb_38 <| ?_
          refine o_callVI (Y2 := YX2_reads) (pc := 36) (av := [.int 38]) (rest := []) dX2_readsEither_36 k_474 cm_X2_reads (sP_reads hF r16 38) (hF.1 _ _ rfl) rfl rfl (Nat.le_of_ble_eq_true rfl) (by omega) fun r17 => ?_
          refine o_istore_n (pc := 39) (ls' := [(2, .int r17.1), (0, .ref 43), (1, .int u1), (3, .int v3), (4, .int v4)]) dX2_readsEither_39 rfl (Nat.le_of_ble_eq_true rfl) rfl <| o_iload_n (pc := 40) 0 dX2_readsEither_40 rfl rfl <| ?_
          refine o_if_eq (pc := 41) (tgt := 47) dX2_readsEither_41 rfl (fun h18 => ?_) (fun h18 => ?_)
          · refine o_iload_n (pc := 47) 3 dX2_readsEither_47 rfl rfl <| ?_
            refine o_if_eq (pc := 48) (tgt := 56) dX2_readsEither_48 rfl (fun h19 => ?_) (fun h19 => ?_)
            · refine o_aload_n (pc := 56) 1 dX2_readsEither_56 rfl rfl <| o_bipush (pc := 57) dX2_readsEither_57 lb_124 <| ?_
              refine o_callVI (Y2 := YX2_reads) (pc := 59) (av := [.int 124]) (rest := []) dX2_readsEither_59 k_474 cm_X2_reads (sP_reads hF r17.2 124) (hF.1 _ _ rfl) rfl rfl (Nat.le_of_ble_eq_true rfl) (by omega) fun r20 => ?_
              refine o_istore_n (pc := 62) (ls' := [(3, .int r20.1), (2, .int r17.1), (0, .ref 43), (1, .int u1), (4, .int v4)]) dX2_readsEither_62 rfl (Nat.le_of_ble_eq_true rfl) rfl <| o_iload_n (pc := 63) 0 dX2_readsEither_63 rfl rfl <| ?_
              refine o_if_ne (pc := 64) (tgt := 69) dX2_readsEither_64 rfl (fun h21 => ?_) (fun h21 => ?_)
              · refine o_iconst (pc := 67) dX2_readsEither_67 lc_1 <| ?_
                exact o_zret (pc := 68) dX2_readsEither_68 rfl rfl rfl
              · refine o_iinc (pc := 69) 4 (v := v4 + 1) (ls' := [(4, .int (v4 + 1)), (3, .int r20.1), (2, .int r17.1), (0, .ref 43), (1, .int u1)]) dX2_readsEither_69 rfl rfl (Nat.le_of_ble_eq_true rfl) rfl <| ?_
                refine o_ltL (ls := fun x22 => [(4, .int x22), (3, .int r20.1), (2, .int r17.1), (0, .ref 43), (1, .int u1)]) fun x22 => ?_
                refine o_goto (pc := 72) (tgt := 7) dX2_readsEither_72 rfl <| ?_
                refine o_sub [3, 4, 2, 1, 0] (ls' := [(0, .ref 43), (1, .int u1), (2, .int r17.1), (3, .int r20.1), (4, .int x22)]) rfl ?_
                exact ih0 r20.2 r17.1 r20.1 x22
            · refine o_aload_n (pc := 51) 1 dX2_readsEither_51 rfl rfl <| o_iconst (pc := 52) dX2_readsEither_52 lc_3 <| ?_
              refine o_callVV (Y2 := YX2_keep) (pc := 53) (av := [.int 3]) (rest := []) dX2_readsEither_53 k_563 cm_X2_keep (sP_keep hF r17.2 3) (hF.1 _ _ rfl) rfl rfl (Nat.le_of_ble_eq_true rfl) (by omega) fun r23 => ?_
              refine o_aload_n (pc := 56) 1 dX2_readsEither_56 rfl rfl <| o_bipush (pc := 57) dX2_readsEither_57 lb_124 <| ?_
              refine o_callVI (Y2 := YX2_reads) (pc := 59) (av := [.int 124]) (rest := []) dX2_readsEither_59 k_474 cm_X2_reads (sP_reads hF r23 124) (hF.1 _ _ rfl) rfl rfl (Nat.le_of_ble_eq_true rfl) (by omega) fun r24 => ?_
              refine o_istore_n (pc := 62) (ls' := [(3, .int r24.1), (2, .int r17.1), (0, .ref 43), (1, .int u1), (4, .int v4)]) dX2_readsEither_62 rfl (Nat.le_of_ble_eq_true rfl) rfl <| o_iload_n (pc := 63) 0 dX2_readsEither_63 rfl rfl <| ?_
              refine o_if_ne (pc := 64) (tgt := 69) dX2_readsEither_64 rfl (fun h25 => ?_) (fun h25 => ?_)
              · refine o_iconst (pc := 67) dX2_readsEither_67 lc_1 <| ?_
                exact o_zret (pc := 68) dX2_readsEither_68 rfl rfl rfl
              · refine o_iinc (pc := 69) 4 (v := v4 + 1) (ls' := [(4, .int (v4 + 1)), (3, .int r24.1), (2, .int r17.1), (0, .ref 43), (1, .int u1)]) dX2_readsEither_69 rfl rfl (Nat.le_of_ble_eq_true rfl) rfl <| ?_
                refine o_ltL (ls := fun x26 => [(4, .int x26), (3, .int r24.1), (2, .int r17.1), (0, .ref 43), (1, .int u1)]) fun x26 => ?_
                refine o_goto (pc := 72) (tgt := 7) dX2_readsEither_72 rfl <| ?_
                refine o_sub [3, 4, 2, 1, 0] (ls' := [(0, .ref 43), (1, .int u1), (2, .int r17.1), (3, .int r24.1), (4, .int x26)]) rfl ?_
                exact ih0 r24.2 r17.1 r24.1 x26
          · refine o_goto (pc := 44) (tgt := 69) dX2_readsEither_44 rfl <| o_iinc (pc := 69) 4 (v := v4 + 1) (ls' := [(4, .int (v4 + 1)), (2, .int r17.1), (0, .ref 43), (1, .int u1), (3, .int v3)]) dX2_readsEither_69 rfl rfl (Nat.le_of_ble_eq_true rfl) rfl <| ?_
            refine o_ltL (ls := fun x27 => [(4, .int x27), (2, .int r17.1), (0, .ref 43), (1, .int u1), (3, .int v3)]) fun x27 => ?_
            refine o_goto (pc := 72) (tgt := 7) dX2_readsEither_72 rfl <| ?_
            refine o_sub [2, 3, 1, 4, 0] (ls' := [(0, .ref 43), (1, .int u1), (2, .int r17.1), (3, .int v3), (4, .int x27)]) rfl ?_
            exact ih0 r17.2 r17.1 v3 x27
def fP_readsEither (rec : MI → Int32 → Option (Int32 × MI)) (m : MI) (a : Int32) : Option (Int32 × MI) :=
  fP_readsEither_l7 rec a
    (fun m4 z1 z2 z3 =>
      some (0, m4)
      )
    1000 m 0 0 0
theorem sP_readsEither {sh : Sh} {R : RR} (hF : Fx sh R) {rec : MI → Int32 → Option (Int32 × MI)} {dr : Nat} (hrec : ∀ (m : MI) (a : Int32) , KS (eI sh R) false dr 0 0 YX2_readsEither sh R m [.ref 43, .int a] (rec m a)) (m : MI) (a : Int32) : KS (eI sh R) false (dr + 9) 0 0 YX2_readsEither sh R m [.ref 43, .int a] (fP_readsEither rec m a) := by
  refine KS_of pn_X2 (fun _ => Nat.le_of_ble_eq_true rfl) ?_
  change S _ _ _ _ _ _ _ _ _ _ [(0, .ref 43), (1, .int a)] [] _
  unfold fP_readsEither
  refine o_iconst (pc := 0) dX2_readsEither_0 lc_0 <| o_istore_n (pc := 1) (ls' := [(2, .int 0), (0, .ref 43), (1, .int a)]) dX2_readsEither_1 rfl (Nat.le_of_ble_eq_true rfl) rfl <| o_iconst (pc := 2) dX2_readsEither_2 lc_0 <| o_istore_n (pc := 3) (ls' := [(3, .int 0), (2, .int 0), (0, .ref 43), (1, .int a)]) dX2_readsEither_3 rfl (Nat.le_of_ble_eq_true rfl) rfl <| o_iconst (pc := 4) dX2_readsEither_4 lc_0 <| o_istore (pc := 5) (ls' := [(4, .int 0), (3, .int 0), (2, .int 0), (0, .ref 43), (1, .int a)]) dX2_readsEither_5 (Nat.le_of_ble_eq_true rfl) rfl <| ?_
  refine o_sub [3, 4, 2, 1, 0] (ls' := [(0, .ref 43), (1, .int a), (2, .int 0), (3, .int 0), (4, .int 0)]) rfl ?_
  refine sP_readsEither_l7 hF hrec a _ ?_ 1000 m 0 0 0
  · intro m4 z1 z2 z3
    refine o_iconst (pc := 75) dX2_readsEither_75 lc_0 <| ?_
    exact o_zret (pc := 76) dX2_readsEither_76 rfl rfl rfl
def fP_readsEitherN : Nat → MI → Int32 → Option (Int32 × MI)
  | 0, _, _ => none
  | n + 1, m, a => fP_readsEither (fP_readsEitherN n) m a
theorem sP_readsEitherN {sh : Sh} {R : RR} (hF : Fx sh R) : ∀ (n : Nat) (m : MI) (a : Int32) , KS (eI sh R) false (9 * n) 0 0 YX2_readsEither sh R m [.ref 43, .int a] (fP_readsEitherN n m a) := by
  intro n
  induction n with
  | zero => intro m a r h; cases h
  | succ n ih => intro m a; exact sP_readsEither hF ih m a
def fP_add (m : MI) (a : Int32) : Option (Int32 × MI) :=
  if ck (m.1 43 0) 101 = true then
    lm (mI m 44 (upd (m.1 44) (m.1 43 0).toNatClampNeg a)) fun m2 =>
    lm (mI m2 43 (upd (m2.1 43) 0 ((m2.1 43 0) + 1))) fun m3 =>
    some (m3.1 43 0, m3)
  else none
theorem sP_add {sh : Sh} {R : RR} (hF : Fx sh R) (m : MI) (a : Int32) : KS (eI sh R) false 0 0 0 YX2_add sh R m [.ref 43, .int a] (fP_add m a) := by
  refine KS_of pn_X2 (fun _ => Nat.le_of_ble_eq_true rfl) ?_
  change S _ _ _ _ _ _ _ _ _ _ [(0, .ref 43), (1, .int a)] [] _
  unfold fP_add
  refine o_aload_n (pc := 0) 0 dX2_add_0 rfl rfl <| o_getRc (pc := 1) (a := 44) (ci := 2) (j := 2) (nn := 0) dX2_add_1 (hF.1 _ _ rfl) rfl (Nat.le_of_ble_eq_true rfl) k_229 rfl (hF.2 _ _ _ rfl) <| o_aload_n (pc := 4) 0 dX2_add_4 rfl rfl <| o_getI (pc := 5) (ci := 2) (j := 0) (nn := 0) dX2_add_5 (hF.1 _ _ rfl) rfl (Nat.le_of_ble_eq_true rfl) k_225 rfl <| o_iload_n (pc := 8) 1 dX2_add_8 rfl rfl <| ?_
  refine S_ck fun h1 => ?_
  refine o_iast (pc := 9) (nn := 101) dX2_add_9 (hF.1 _ _ rfl) (ck_in h1) <| ?_
  refine o_lm fun m2 => ?_
  refine o_aload_n (pc := 10) 0 dX2_add_10 rfl rfl <| o_dup (pc := 11) dX2_add_11 rfl <| o_getI (pc := 12) (ci := 2) (j := 0) (nn := 0) dX2_add_12 (hF.1 _ _ rfl) rfl (Nat.le_of_ble_eq_true rfl) k_225 rfl <| o_iconst (pc := 15) dX2_add_15 lc_1 <| o_iadd (pc := 16) dX2_add_16 <| o_putI (pc := 17) (ci := 2) (j := 0) (nn := 0) dX2_add_17 (hF.1 _ _ rfl) rfl (Nat.le_of_ble_eq_true rfl) k_225 rfl rfl rfl rfl rfl <| ?_
  refine o_lm fun m3 => ?_
  refine o_aload_n (pc := 20) 0 dX2_add_20 rfl rfl <| o_getI (pc := 21) (ci := 2) (j := 0) (nn := 0) dX2_add_21 (hF.1 _ _ rfl) rfl (Nat.le_of_ble_eq_true rfl) k_225 rfl <| ?_
  exact o_iret (pc := 24) dX2_add_24 rfl rfl
def fJS_coder_7d493_1010 (m : MI) : Option (Int32 × MI) :=
  some (0, m)
theorem sJS_coder_7d493_1010 {sh : Sh} {R : RR} (hF : Fx sh R) (m : MI) : KS (eI sh R) false 0 0 0 YJ0_coder_7d493 sh R m [.ref 1010] (fJS_coder_7d493_1010 m ) := by
  refine KS_of pn_J0 (fun _ => Nat.le_of_ble_eq_true rfl) ?_
  change S _ _ _ _ _ _ _ _ _ _ [(0, .ref 1010)] [] _
  unfold fJS_coder_7d493_1010
  refine o_getsC (pc := 0) dJ0_coder_7d493_0 k_434 <| o_if_eq_f (pc := 3) (tgt := 13) dJ0_coder_7d493_3 rfl (by decide) <| o_aload_n (pc := 6) 0 dJ0_coder_7d493_6 rfl rfl <| o_getSC (pc := 7) 0 (Nat.le_of_ble_eq_true rfl) dJ0_coder_7d493_7 k_1450 <| o_goto (pc := 10) (tgt := 14) dJ0_coder_7d493_10 rfl <| ?_
  exact o_zret (pc := 14) dJ0_coder_7d493_14 rfl rfl rfl
def fJS_length_8abf5_1010 (m : MI) : Option (Int32 × MI) :=
  (fJS_coder_7d493_1010 m).bind fun r1 =>
  some ((4 : Int32) >>> (r1.1 &&& 31), r1.2)
theorem sJS_length_8abf5_1010 {sh : Sh} {R : RR} (hF : Fx sh R) (m : MI) : KS (eI sh R) false 1 0 0 YJ0_length_8abf5 sh R m [.ref 1010] (fJS_length_8abf5_1010 m ) := by
  refine KS_of pn_J0 (fun _ => Nat.le_of_ble_eq_true rfl) ?_
  change S _ _ _ _ _ _ _ _ _ _ [(0, .ref 1010)] [] _
  unfold fJS_length_8abf5_1010
  refine o_aload_n (pc := 0) 0 dJ0_length_8abf5_0 rfl rfl <| o_getSV (pc := 1) 0 (Nat.le_of_ble_eq_true rfl) dJ0_length_8abf5_1 k_1449 <| o_alenS (pc := 4) 0 (Nat.le_of_ble_eq_true rfl) (v := 4) rfl dJ0_length_8abf5_4 <| o_aload_n (pc := 5) 0 dJ0_length_8abf5_5 rfl rfl <| ?_
  refine o_callVT (Y2 := YJ0_coder_7d493) (pc := 6) (av := []) (rest := [.int 4]) 0 (Nat.le_of_ble_eq_true rfl) dJ0_length_8abf5_6 k_430 cmt_J0_coder_7d493 (sJS_coder_7d493_1010 hF m ) rfl rfl (Nat.le_of_ble_eq_true rfl) (Nat.le_of_ble_eq_true rfl) fun r1 => ?_
  refine o_ishr (pc := 9) dJ0_length_8abf5_9 <| ?_
  exact o_iret (pc := 10) dJ0_length_8abf5_10 rfl rfl
def fJS_isLatin1_aae02_1010 (m : MI) : Option (Int32 × MI) :=
  some (1, m)
theorem sJS_isLatin1_aae02_1010 {sh : Sh} {R : RR} (hF : Fx sh R) (m : MI) : KS (eI sh R) false 0 0 0 YJ0_isLatin1_aae02 sh R m [.ref 1010] (fJS_isLatin1_aae02_1010 m ) := by
  refine KS_of pn_J0 (fun _ => Nat.le_of_ble_eq_true rfl) ?_
  change S _ _ _ _ _ _ _ _ _ _ [(0, .ref 1010)] [] _
  unfold fJS_isLatin1_aae02_1010
  refine o_getsC (pc := 0) dJ0_isLatin1_aae02_0 k_434 <| o_if_eq_f (pc := 3) (tgt := 17) dJ0_isLatin1_aae02_3 rfl (by decide) <| o_aload_n (pc := 6) 0 dJ0_isLatin1_aae02_6 rfl rfl <| o_getSC (pc := 7) 0 (Nat.le_of_ble_eq_true rfl) dJ0_isLatin1_aae02_7 k_1450 <| o_if_ne_f (pc := 10) (tgt := 17) dJ0_isLatin1_aae02_10 rfl (by decide) <| o_iconst (pc := 13) dJ0_isLatin1_aae02_13 lc_1 <| o_goto (pc := 14) (tgt := 18) dJ0_isLatin1_aae02_14 rfl <| ?_
  exact o_zret (pc := 18) dJ0_isLatin1_aae02_18 rfl rfl rfl
def fJP_checkIndex (m : MI) (a : Int32) (b : Int32) : Option (Int32 × MI) :=
  if a < 0 then
    none
  else
    if a < b then
      some (a, m)
    else
      none
theorem sJP_checkIndex_8e157_n {sh : Sh} {R : RR} (hF : Fx sh R) (m : MI) (a : Int32) (b : Int32) : KS (eI sh R) false 0 0 0 YJ3_checkIndex_8e157 sh R m [.int a, .int b, .null] (fJP_checkIndex m a b) := by
  refine KS_of pn_J3 (fun _ => Nat.le_of_ble_eq_true rfl) ?_
  change S _ _ _ _ _ _ _ _ _ _ [(0, .int a), (1, .int b), (2, .null)] [] _
  unfold fJP_checkIndex
  refine o_iload_n (pc := 0) 0 dJ3_checkIndex_8e157_0 rfl rfl <| ?_
  refine o_if_lt (pc := 1) (tgt := 9) dJ3_checkIndex_8e157_1 rfl (fun h1 => ?_) (fun h1 => ?_)
  · exact S_none
  · refine o_iload_n (pc := 4) 0 dJ3_checkIndex_8e157_4 rfl rfl <| o_iload_n (pc := 5) 1 dJ3_checkIndex_8e157_5 rfl rfl <| ?_
    refine o_icmp_lt (pc := 6) (tgt := 16) dJ3_checkIndex_8e157_6 rfl (fun h2 => ?_) (fun h2 => ?_)
    · refine o_iload_n (pc := 16) 0 dJ3_checkIndex_8e157_16 rfl rfl <| ?_
      exact o_iret (pc := 17) dJ3_checkIndex_8e157_17 rfl rfl
    · exact S_none
theorem sJP_checkIndex_8e157_1030 {sh : Sh} {R : RR} (hF : Fx sh R) (m : MI) (a : Int32) (b : Int32) : KS (eI sh R) false 0 0 0 YJ3_checkIndex_8e157 sh R m [.int a, .int b, .ref 1030] (fJP_checkIndex m a b) := by
  refine KS_of pn_J3 (fun _ => Nat.le_of_ble_eq_true rfl) ?_
  change S _ _ _ _ _ _ _ _ _ _ [(0, .int a), (1, .int b), (2, .ref 1030)] [] _
  unfold fJP_checkIndex
  refine o_iload_n (pc := 0) 0 dJ3_checkIndex_8e157_0 rfl rfl <| ?_
  refine o_if_lt (pc := 1) (tgt := 9) dJ3_checkIndex_8e157_1 rfl (fun h1 => ?_) (fun h1 => ?_)
  · exact S_none
  · refine o_iload_n (pc := 4) 0 dJ3_checkIndex_8e157_4 rfl rfl <| o_iload_n (pc := 5) 1 dJ3_checkIndex_8e157_5 rfl rfl <| ?_
    refine o_icmp_lt (pc := 6) (tgt := 16) dJ3_checkIndex_8e157_6 rfl (fun h2 => ?_) (fun h2 => ?_)
    · refine o_iload_n (pc := 16) 0 dJ3_checkIndex_8e157_16 rfl rfl <| ?_
      exact o_iret (pc := 17) dJ3_checkIndex_8e157_17 rfl rfl
    · exact S_none
def fJS_checkIndex_df160 (m : MI) (a : Int32) (b : Int32) : Option (MI) :=
  (fJP_checkIndex m a b).bind fun r1 =>
  some r1.2
theorem sJS_checkIndex_df160 {sh : Sh} {R : RR} (hF : Fx sh R) (m : MI) (a : Int32) (b : Int32) : KS (eV sh R) false 1 0 0 YJ0_checkIndex_df160 sh R m [.int a, .int b] (fJS_checkIndex_df160 m a b) := by
  refine KS_of pn_J0 (fun _ => Nat.le_of_ble_eq_true rfl) ?_
  change S _ _ _ _ _ _ _ _ _ _ [(0, .int a), (1, .int b)] [] _
  unfold fJS_checkIndex_df160
  refine o_iload_n (pc := 0) 0 dJ0_checkIndex_df160_0 rfl rfl <| o_iload_n (pc := 1) 1 dJ0_checkIndex_df160_1 rfl rfl <| ?_
  refine o_getsF (pc := 2) dJ0_checkIndex_df160_2 k_450 ?_ ?_
  · refine o_callSI (Y2 := YJ3_checkIndex_8e157) (pc := 5) (av := [.int a, .int b, .null]) (rest := []) dJ0_checkIndex_df160_5 k_452 cs_J3_checkIndex_8e157 (sJP_checkIndex_8e157_n hF m a b) rfl rfl (Nat.le_of_ble_eq_true rfl) (Nat.le_of_ble_eq_true rfl) fun r1 => ?_
    refine o_pop (pc := 8) dJ0_checkIndex_df160_8 rfl <| ?_
    exact o_vret (pc := 9) dJ0_checkIndex_df160_9 rfl rfl
  · refine o_callSI (Y2 := YJ3_checkIndex_8e157) (pc := 5) (av := [.int a, .int b, .ref 1030]) (rest := []) dJ0_checkIndex_df160_5 k_452 cs_J3_checkIndex_8e157 (sJP_checkIndex_8e157_1030 hF m a b) rfl rfl (Nat.le_of_ble_eq_true rfl) (Nat.le_of_ble_eq_true rfl) fun r1 => ?_
    refine o_pop (pc := 8) dJ0_checkIndex_df160_8 rfl <| ?_
    exact o_vret (pc := 9) dJ0_checkIndex_df160_9 rfl rfl
def fJL_charAt_3b067_1020 (m : MI) (b : Int32) : Option (Int32 × MI) :=
  (fJS_checkIndex_df160 m b 4).bind fun r1 =>
  if ck b 4 = true then
    if cb ((((((sByt.getD 0 []).getD b.toNatClampNeg 0)) &&& (255 : Int32)).toUInt32 % 65536).toInt32) = true then some ((((((sByt.getD 0 []).getD b.toNatClampNeg 0)) &&& (255 : Int32)).toUInt32 % 65536).toInt32, r1) else none
  else none
theorem sJL_charAt_3b067_1020 {sh : Sh} {R : RR} (hF : Fx sh R) (m : MI) (b : Int32) : KS (eI sh R) false 2 0 0 YJ1_charAt_3b067 sh R m [.ref 1020, .int b] (fJL_charAt_3b067_1020 m b) := by
  refine KS_of pn_J1 (fun _ => Nat.le_of_ble_eq_true rfl) ?_
  change S _ _ _ _ _ _ _ _ _ _ [(0, .ref 1020), (1, .int b)] [] _
  unfold fJL_charAt_3b067_1020
  refine o_iload_n (pc := 0) 1 dJ1_charAt_3b067_0 rfl rfl <| o_aload_n (pc := 1) 0 dJ1_charAt_3b067_1 rfl rfl <| o_alenS (pc := 2) 0 (Nat.le_of_ble_eq_true rfl) (v := 4) rfl dJ1_charAt_3b067_2 <| ?_
  refine o_callSV (Y2 := YJ0_checkIndex_df160) (pc := 3) (av := [.int b, .int 4]) (rest := []) dJ1_charAt_3b067_3 k_447 cs_J0_checkIndex_df160 (sJS_checkIndex_df160 hF m b 4) rfl rfl (Nat.le_of_ble_eq_true rfl) (Nat.le_of_ble_eq_true rfl) fun r1 => ?_
  refine o_aload_n (pc := 6) 0 dJ1_charAt_3b067_6 rfl rfl <| o_iload_n (pc := 7) 1 dJ1_charAt_3b067_7 rfl rfl <| ?_
  refine S_ck fun h2 => ?_
  refine o_baldS (pc := 8) 0 (Nat.le_of_ble_eq_true rfl) (nn := 4) rfl (ck_in h2) dJ1_charAt_3b067_8 <| o_sipush (pc := 9) dJ1_charAt_3b067_9 ls_255 <| o_iand (pc := 12) dJ1_charAt_3b067_12 <| o_i2c (pc := 13) dJ1_charAt_3b067_13 <| ?_
  refine S_ck fun h3 => ?_
  exact o_zret (pc := 14) dJ1_charAt_3b067_14 rfl (cb_ok h3) rfl
def fJS_charAt_5068e_1010 (m : MI) (a : Int32) : Option (Int32 × MI) :=
  (fJS_isLatin1_aae02_1010 m).bind fun r1 =>
  if r1.1 = 0 then
    none
  else
    (fJL_charAt_3b067_1020 r1.2 a).bind fun r3 =>
    if cb r3.1 = true then some (r3.1, r3.2) else none
theorem sJS_charAt_5068e_1010 {sh : Sh} {R : RR} (hF : Fx sh R) (m : MI) (a : Int32) : KS (eI sh R) false 3 0 0 YJ0_charAt_5068e sh R m [.ref 1010, .int a] (fJS_charAt_5068e_1010 m a) := by
  refine KS_of pn_J0 (fun _ => Nat.le_of_ble_eq_true rfl) ?_
  change S _ _ _ _ _ _ _ _ _ _ [(0, .ref 1010), (1, .int a)] [] _
  unfold fJS_charAt_5068e_1010
  refine o_aload_n (pc := 0) 0 dJ0_charAt_5068e_0 rfl rfl <| ?_
  refine o_callVT (Y2 := YJ0_isLatin1_aae02) (pc := 1) (av := []) (rest := []) 0 (Nat.le_of_ble_eq_true rfl) dJ0_charAt_5068e_1 k_440 cmt_J0_isLatin1_aae02 (sJS_isLatin1_aae02_1010 hF m ) rfl rfl (Nat.le_of_ble_eq_true rfl) (Nat.le_of_ble_eq_true rfl) fun r1 => ?_
  refine o_if_eq (pc := 4) (tgt := 16) dJ0_charAt_5068e_4 rfl (fun h2 => ?_) (fun h2 => ?_)
  · exact S_none
  · refine o_aload_n (pc := 7) 0 dJ0_charAt_5068e_7 rfl rfl <| o_getSV (pc := 8) 0 (Nat.le_of_ble_eq_true rfl) dJ0_charAt_5068e_8 k_1449 <| o_iload_n (pc := 11) 1 dJ0_charAt_5068e_11 rfl rfl <| ?_
    refine o_callSI (Y2 := YJ1_charAt_3b067) (pc := 12) (av := [.ref 1020, .int a]) (rest := []) dJ0_charAt_5068e_12 k_444 cs_J1_charAt_3b067 (sJL_charAt_3b067_1020 hF r1.2 a) rfl rfl (Nat.le_of_ble_eq_true rfl) (Nat.le_of_ble_eq_true rfl) fun r3 => ?_
    refine S_ck fun h4 => ?_
    exact o_zret (pc := 15) dJ0_charAt_5068e_15 rfl (cb_ok h4) rfl
def fP_readsWord_1010_l2 (k0_0 : MI → Int32 → Option (Int32 × MI)) : Nat → MI → Int32 → Option (Int32 × MI)
  | 0, _, _ => none
  | n0 + 1, m, v2 =>
    (fJS_length_8abf5_1010 m).bind fun r1 =>
    if r1.1 ≤ v2 then
      k0_0 r1.2 v2
    else
      (fJS_charAt_5068e_1010 r1.2 v2).bind fun r3 =>
      (fP_reads r3.2 r3.1).bind fun r4 =>
      if r4.1 = 0 then
        some (0, r4.2)
      else
        lt (v2 + 1) fun x6 =>
        fP_readsWord_1010_l2 k0_0 n0 r4.2 x6
theorem sP_readsWord_1010_l2 {sh : Sh} {R : RR} (hF : Fx sh R) (k0_0 : MI → Int32 → Option (Int32 × MI)) (hk0_0 : ∀ (m : MI) (v2 : Int32) , S (eI sh R) false 4 0 0 YX2_readsWord sh R m 30 [(0, .ref 43), (1, .ref 1010), (2, .int v2)] [] (k0_0 m v2)) : ∀ (n : Nat) (m : MI) (v2 : Int32) , S (eI sh R) false 4 0 0 YX2_readsWord sh R m 2 [(0, .ref 43), (1, .ref 1010), (2, .int v2)] [] (fP_readsWord_1010_l2 k0_0 n m v2) := by
  intro n
  induction n with
  | zero => intros; exact S_none
  | succ n0 ih0 =>
    intro m v2
    rw [fP_readsWord_1010_l2]
    refine o_iload_n (pc := 2) 2 dX2_readsWord_2 rfl rfl <| o_aload_n (pc := 3) 1 dX2_readsWord_3 rfl rfl <| ?_
    refine o_callVT (Y2 := YJ0_length_8abf5) (pc := 4) (av := []) (rest := [.int v2]) 0 (Nat.le_of_ble_eq_true rfl) dX2_readsWord_4 k_426 cmt_J0_length_8abf5 (sJS_length_8abf5_1010 hF m ) rfl rfl (Nat.le_of_ble_eq_true rfl) (Nat.le_of_ble_eq_true rfl) fun r1 => ?_
    refine o_icmp_ge (pc := 7) (tgt := 30) dX2_readsWord_7 rfl (fun h2 => ?_) (fun h2 => ?_)
    · exact hk0_0 r1.2 v2
    · refine o_aload_n (pc := 10) 0 dX2_readsWord_10 rfl rfl <| o_aload_n (pc := 11) 1 dX2_readsWord_11 rfl rfl <| o_iload_n (pc := 12) 2 dX2_readsWord_12 rfl rfl <| ?_
      refine o_callVT (Y2 := YJ0_charAt_5068e) (pc := 13) (av := [.int v2]) (rest := [.ref 43]) 0 (Nat.le_of_ble_eq_true rfl) dX2_readsWord_13 k_436 cmt_J0_charAt_5068e (sJS_charAt_5068e_1010 hF r1.2 v2) rfl rfl (Nat.le_of_ble_eq_true rfl) (Nat.le_of_ble_eq_true rfl) fun r3 => ?_
      refine o_callVI (Y2 := YX2_reads) (pc := 16) (av := [.int r3.1]) (rest := []) dX2_readsWord_16 k_474 cm_X2_reads (sP_reads hF r3.2 r3.1) (hF.1 _ _ rfl) rfl rfl (Nat.le_of_ble_eq_true rfl) (Nat.le_of_ble_eq_true rfl) fun r4 => ?_
      refine o_if_ne (pc := 19) (tgt := 24) dX2_readsWord_19 rfl (fun h5 => ?_) (fun h5 => ?_)
      · refine o_iconst (pc := 22) dX2_readsWord_22 lc_0 <| ?_
        exact o_zret (pc := 23) dX2_readsWord_23 rfl rfl rfl
      · refine o_iinc (pc := 24) 2 (v := v2 + 1) (ls' := [(2, .int (v2 + 1)), (0, .ref 43), (1, .ref 1010)]) dX2_readsWord_24 rfl rfl (Nat.le_of_ble_eq_true rfl) rfl <| ?_
        refine o_ltL (ls := fun x6 => [(2, .int x6), (0, .ref 43), (1, .ref 1010)]) fun x6 => ?_
        refine o_goto (pc := 27) (tgt := 2) dX2_readsWord_27 rfl <| ?_
        refine o_sub [1, 2, 0] (ls' := [(0, .ref 43), (1, .ref 1010), (2, .int x6)]) rfl ?_
        exact ih0 r4.2 x6
def fP_readsWord_1010 (m : MI) : Option (Int32 × MI) :=
  fP_readsWord_1010_l2 
    (fun m2 z1 =>
      some (1, m2)
      )
    1000 m 0
theorem sP_readsWord_1010 {sh : Sh} {R : RR} (hF : Fx sh R) (m : MI) : KS (eI sh R) false 4 0 0 YX2_readsWord sh R m [.ref 43, .ref 1010] (fP_readsWord_1010 m ) := by
  refine KS_of pn_X2 (fun _ => Nat.le_of_ble_eq_true rfl) ?_
  change S _ _ _ _ _ _ _ _ _ _ [(0, .ref 43), (1, .ref 1010)] [] _
  unfold fP_readsWord_1010
  refine o_iconst (pc := 0) dX2_readsWord_0 lc_0 <| o_istore_n (pc := 1) (ls' := [(2, .int 0), (0, .ref 43), (1, .ref 1010)]) dX2_readsWord_1 rfl (Nat.le_of_ble_eq_true rfl) rfl <| ?_
  refine o_sub [1, 2, 0] (ls' := [(0, .ref 43), (1, .ref 1010), (2, .int 0)]) rfl ?_
  refine sP_readsWord_1010_l2 hF  _ ?_ 1000 m 0
  · intro m2 z1
    refine o_iconst (pc := 30) dX2_readsWord_30 lc_1 <| ?_
    exact o_zret (pc := 31) dX2_readsWord_31 rfl rfl rfl
def fJS_coder_7d493_1011 (m : MI) : Option (Int32 × MI) :=
  some (0, m)
theorem sJS_coder_7d493_1011 {sh : Sh} {R : RR} (hF : Fx sh R) (m : MI) : KS (eI sh R) false 0 0 0 YJ0_coder_7d493 sh R m [.ref 1011] (fJS_coder_7d493_1011 m ) := by
  refine KS_of pn_J0 (fun _ => Nat.le_of_ble_eq_true rfl) ?_
  change S _ _ _ _ _ _ _ _ _ _ [(0, .ref 1011)] [] _
  unfold fJS_coder_7d493_1011
  refine o_getsC (pc := 0) dJ0_coder_7d493_0 k_434 <| o_if_eq_f (pc := 3) (tgt := 13) dJ0_coder_7d493_3 rfl (by decide) <| o_aload_n (pc := 6) 0 dJ0_coder_7d493_6 rfl rfl <| o_getSC (pc := 7) 1 (Nat.le_of_ble_eq_true rfl) dJ0_coder_7d493_7 k_1450 <| o_goto (pc := 10) (tgt := 14) dJ0_coder_7d493_10 rfl <| ?_
  exact o_zret (pc := 14) dJ0_coder_7d493_14 rfl rfl rfl
def fJS_length_8abf5_1011 (m : MI) : Option (Int32 × MI) :=
  (fJS_coder_7d493_1011 m).bind fun r1 =>
  some ((4 : Int32) >>> (r1.1 &&& 31), r1.2)
theorem sJS_length_8abf5_1011 {sh : Sh} {R : RR} (hF : Fx sh R) (m : MI) : KS (eI sh R) false 1 0 0 YJ0_length_8abf5 sh R m [.ref 1011] (fJS_length_8abf5_1011 m ) := by
  refine KS_of pn_J0 (fun _ => Nat.le_of_ble_eq_true rfl) ?_
  change S _ _ _ _ _ _ _ _ _ _ [(0, .ref 1011)] [] _
  unfold fJS_length_8abf5_1011
  refine o_aload_n (pc := 0) 0 dJ0_length_8abf5_0 rfl rfl <| o_getSV (pc := 1) 1 (Nat.le_of_ble_eq_true rfl) dJ0_length_8abf5_1 k_1449 <| o_alenS (pc := 4) 1 (Nat.le_of_ble_eq_true rfl) (v := 4) rfl dJ0_length_8abf5_4 <| o_aload_n (pc := 5) 0 dJ0_length_8abf5_5 rfl rfl <| ?_
  refine o_callVT (Y2 := YJ0_coder_7d493) (pc := 6) (av := []) (rest := [.int 4]) 1 (Nat.le_of_ble_eq_true rfl) dJ0_length_8abf5_6 k_430 cmt_J0_coder_7d493 (sJS_coder_7d493_1011 hF m ) rfl rfl (Nat.le_of_ble_eq_true rfl) (Nat.le_of_ble_eq_true rfl) fun r1 => ?_
  refine o_ishr (pc := 9) dJ0_length_8abf5_9 <| ?_
  exact o_iret (pc := 10) dJ0_length_8abf5_10 rfl rfl
def fJS_isLatin1_aae02_1011 (m : MI) : Option (Int32 × MI) :=
  some (1, m)
theorem sJS_isLatin1_aae02_1011 {sh : Sh} {R : RR} (hF : Fx sh R) (m : MI) : KS (eI sh R) false 0 0 0 YJ0_isLatin1_aae02 sh R m [.ref 1011] (fJS_isLatin1_aae02_1011 m ) := by
  refine KS_of pn_J0 (fun _ => Nat.le_of_ble_eq_true rfl) ?_
  change S _ _ _ _ _ _ _ _ _ _ [(0, .ref 1011)] [] _
  unfold fJS_isLatin1_aae02_1011
  refine o_getsC (pc := 0) dJ0_isLatin1_aae02_0 k_434 <| o_if_eq_f (pc := 3) (tgt := 17) dJ0_isLatin1_aae02_3 rfl (by decide) <| o_aload_n (pc := 6) 0 dJ0_isLatin1_aae02_6 rfl rfl <| o_getSC (pc := 7) 1 (Nat.le_of_ble_eq_true rfl) dJ0_isLatin1_aae02_7 k_1450 <| o_if_ne_f (pc := 10) (tgt := 17) dJ0_isLatin1_aae02_10 rfl (by decide) <| o_iconst (pc := 13) dJ0_isLatin1_aae02_13 lc_1 <| o_goto (pc := 14) (tgt := 18) dJ0_isLatin1_aae02_14 rfl <| ?_
  exact o_zret (pc := 18) dJ0_isLatin1_aae02_18 rfl rfl rfl
def fJL_charAt_3b067_1021 (m : MI) (b : Int32) : Option (Int32 × MI) :=
  (fJS_checkIndex_df160 m b 4).bind fun r1 =>
  if ck b 4 = true then
    if cb ((((((sByt.getD 1 []).getD b.toNatClampNeg 0)) &&& (255 : Int32)).toUInt32 % 65536).toInt32) = true then some ((((((sByt.getD 1 []).getD b.toNatClampNeg 0)) &&& (255 : Int32)).toUInt32 % 65536).toInt32, r1) else none
  else none
theorem sJL_charAt_3b067_1021 {sh : Sh} {R : RR} (hF : Fx sh R) (m : MI) (b : Int32) : KS (eI sh R) false 2 0 0 YJ1_charAt_3b067 sh R m [.ref 1021, .int b] (fJL_charAt_3b067_1021 m b) := by
  refine KS_of pn_J1 (fun _ => Nat.le_of_ble_eq_true rfl) ?_
  change S _ _ _ _ _ _ _ _ _ _ [(0, .ref 1021), (1, .int b)] [] _
  unfold fJL_charAt_3b067_1021
  refine o_iload_n (pc := 0) 1 dJ1_charAt_3b067_0 rfl rfl <| o_aload_n (pc := 1) 0 dJ1_charAt_3b067_1 rfl rfl <| o_alenS (pc := 2) 1 (Nat.le_of_ble_eq_true rfl) (v := 4) rfl dJ1_charAt_3b067_2 <| ?_
  refine o_callSV (Y2 := YJ0_checkIndex_df160) (pc := 3) (av := [.int b, .int 4]) (rest := []) dJ1_charAt_3b067_3 k_447 cs_J0_checkIndex_df160 (sJS_checkIndex_df160 hF m b 4) rfl rfl (Nat.le_of_ble_eq_true rfl) (Nat.le_of_ble_eq_true rfl) fun r1 => ?_
  refine o_aload_n (pc := 6) 0 dJ1_charAt_3b067_6 rfl rfl <| o_iload_n (pc := 7) 1 dJ1_charAt_3b067_7 rfl rfl <| ?_
  refine S_ck fun h2 => ?_
  refine o_baldS (pc := 8) 1 (Nat.le_of_ble_eq_true rfl) (nn := 4) rfl (ck_in h2) dJ1_charAt_3b067_8 <| o_sipush (pc := 9) dJ1_charAt_3b067_9 ls_255 <| o_iand (pc := 12) dJ1_charAt_3b067_12 <| o_i2c (pc := 13) dJ1_charAt_3b067_13 <| ?_
  refine S_ck fun h3 => ?_
  exact o_zret (pc := 14) dJ1_charAt_3b067_14 rfl (cb_ok h3) rfl
def fJS_charAt_5068e_1011 (m : MI) (a : Int32) : Option (Int32 × MI) :=
  (fJS_isLatin1_aae02_1011 m).bind fun r1 =>
  if r1.1 = 0 then
    none
  else
    (fJL_charAt_3b067_1021 r1.2 a).bind fun r3 =>
    if cb r3.1 = true then some (r3.1, r3.2) else none
theorem sJS_charAt_5068e_1011 {sh : Sh} {R : RR} (hF : Fx sh R) (m : MI) (a : Int32) : KS (eI sh R) false 3 0 0 YJ0_charAt_5068e sh R m [.ref 1011, .int a] (fJS_charAt_5068e_1011 m a) := by
  refine KS_of pn_J0 (fun _ => Nat.le_of_ble_eq_true rfl) ?_
  change S _ _ _ _ _ _ _ _ _ _ [(0, .ref 1011), (1, .int a)] [] _
  unfold fJS_charAt_5068e_1011
  refine o_aload_n (pc := 0) 0 dJ0_charAt_5068e_0 rfl rfl <| ?_
  refine o_callVT (Y2 := YJ0_isLatin1_aae02) (pc := 1) (av := []) (rest := []) 1 (Nat.le_of_ble_eq_true rfl) dJ0_charAt_5068e_1 k_440 cmt_J0_isLatin1_aae02 (sJS_isLatin1_aae02_1011 hF m ) rfl rfl (Nat.le_of_ble_eq_true rfl) (Nat.le_of_ble_eq_true rfl) fun r1 => ?_
  refine o_if_eq (pc := 4) (tgt := 16) dJ0_charAt_5068e_4 rfl (fun h2 => ?_) (fun h2 => ?_)
  · exact S_none
  · refine o_aload_n (pc := 7) 0 dJ0_charAt_5068e_7 rfl rfl <| o_getSV (pc := 8) 1 (Nat.le_of_ble_eq_true rfl) dJ0_charAt_5068e_8 k_1449 <| o_iload_n (pc := 11) 1 dJ0_charAt_5068e_11 rfl rfl <| ?_
    refine o_callSI (Y2 := YJ1_charAt_3b067) (pc := 12) (av := [.ref 1021, .int a]) (rest := []) dJ0_charAt_5068e_12 k_444 cs_J1_charAt_3b067 (sJL_charAt_3b067_1021 hF r1.2 a) rfl rfl (Nat.le_of_ble_eq_true rfl) (Nat.le_of_ble_eq_true rfl) fun r3 => ?_
    refine S_ck fun h4 => ?_
    exact o_zret (pc := 15) dJ0_charAt_5068e_15 rfl (cb_ok h4) rfl
def fP_readsWord_1011_l2 (k0_0 : MI → Int32 → Option (Int32 × MI)) : Nat → MI → Int32 → Option (Int32 × MI)
  | 0, _, _ => none
  | n0 + 1, m, v2 =>
    (fJS_length_8abf5_1011 m).bind fun r1 =>
    if r1.1 ≤ v2 then
      k0_0 r1.2 v2
    else
      (fJS_charAt_5068e_1011 r1.2 v2).bind fun r3 =>
      (fP_reads r3.2 r3.1).bind fun r4 =>
      if r4.1 = 0 then
        some (0, r4.2)
      else
        lt (v2 + 1) fun x6 =>
        fP_readsWord_1011_l2 k0_0 n0 r4.2 x6
theorem sP_readsWord_1011_l2 {sh : Sh} {R : RR} (hF : Fx sh R) (k0_0 : MI → Int32 → Option (Int32 × MI)) (hk0_0 : ∀ (m : MI) (v2 : Int32) , S (eI sh R) false 4 0 0 YX2_readsWord sh R m 30 [(0, .ref 43), (1, .ref 1011), (2, .int v2)] [] (k0_0 m v2)) : ∀ (n : Nat) (m : MI) (v2 : Int32) , S (eI sh R) false 4 0 0 YX2_readsWord sh R m 2 [(0, .ref 43), (1, .ref 1011), (2, .int v2)] [] (fP_readsWord_1011_l2 k0_0 n m v2) := by
  intro n
  induction n with
  | zero => intros; exact S_none
  | succ n0 ih0 =>
    intro m v2
    rw [fP_readsWord_1011_l2]
    refine o_iload_n (pc := 2) 2 dX2_readsWord_2 rfl rfl <| o_aload_n (pc := 3) 1 dX2_readsWord_3 rfl rfl <| ?_
    refine o_callVT (Y2 := YJ0_length_8abf5) (pc := 4) (av := []) (rest := [.int v2]) 1 (Nat.le_of_ble_eq_true rfl) dX2_readsWord_4 k_426 cmt_J0_length_8abf5 (sJS_length_8abf5_1011 hF m ) rfl rfl (Nat.le_of_ble_eq_true rfl) (Nat.le_of_ble_eq_true rfl) fun r1 => ?_
    refine o_icmp_ge (pc := 7) (tgt := 30) dX2_readsWord_7 rfl (fun h2 => ?_) (fun h2 => ?_)
    · exact hk0_0 r1.2 v2
    · refine o_aload_n (pc := 10) 0 dX2_readsWord_10 rfl rfl <| o_aload_n (pc := 11) 1 dX2_readsWord_11 rfl rfl <| o_iload_n (pc := 12) 2 dX2_readsWord_12 rfl rfl <| ?_
      refine o_callVT (Y2 := YJ0_charAt_5068e) (pc := 13) (av := [.int v2]) (rest := [.ref 43]) 1 (Nat.le_of_ble_eq_true rfl) dX2_readsWord_13 k_436 cmt_J0_charAt_5068e (sJS_charAt_5068e_1011 hF r1.2 v2) rfl rfl (Nat.le_of_ble_eq_true rfl) (Nat.le_of_ble_eq_true rfl) fun r3 => ?_
      refine o_callVI (Y2 := YX2_reads) (pc := 16) (av := [.int r3.1]) (rest := []) dX2_readsWord_16 k_474 cm_X2_reads (sP_reads hF r3.2 r3.1) (hF.1 _ _ rfl) rfl rfl (Nat.le_of_ble_eq_true rfl) (Nat.le_of_ble_eq_true rfl) fun r4 => ?_
      refine o_if_ne (pc := 19) (tgt := 24) dX2_readsWord_19 rfl (fun h5 => ?_) (fun h5 => ?_)
      · refine o_iconst (pc := 22) dX2_readsWord_22 lc_0 <| ?_
        exact o_zret (pc := 23) dX2_readsWord_23 rfl rfl rfl
      · refine o_iinc (pc := 24) 2 (v := v2 + 1) (ls' := [(2, .int (v2 + 1)), (0, .ref 43), (1, .ref 1011)]) dX2_readsWord_24 rfl rfl (Nat.le_of_ble_eq_true rfl) rfl <| ?_
        refine o_ltL (ls := fun x6 => [(2, .int x6), (0, .ref 43), (1, .ref 1011)]) fun x6 => ?_
        refine o_goto (pc := 27) (tgt := 2) dX2_readsWord_27 rfl <| ?_
        refine o_sub [1, 2, 0] (ls' := [(0, .ref 43), (1, .ref 1011), (2, .int x6)]) rfl ?_
        exact ih0 r4.2 x6
def fP_readsWord_1011 (m : MI) : Option (Int32 × MI) :=
  fP_readsWord_1011_l2 
    (fun m2 z1 =>
      some (1, m2)
      )
    1000 m 0
theorem sP_readsWord_1011 {sh : Sh} {R : RR} (hF : Fx sh R) (m : MI) : KS (eI sh R) false 4 0 0 YX2_readsWord sh R m [.ref 43, .ref 1011] (fP_readsWord_1011 m ) := by
  refine KS_of pn_X2 (fun _ => Nat.le_of_ble_eq_true rfl) ?_
  change S _ _ _ _ _ _ _ _ _ _ [(0, .ref 43), (1, .ref 1011)] [] _
  unfold fP_readsWord_1011
  refine o_iconst (pc := 0) dX2_readsWord_0 lc_0 <| o_istore_n (pc := 1) (ls' := [(2, .int 0), (0, .ref 43), (1, .ref 1011)]) dX2_readsWord_1 rfl (Nat.le_of_ble_eq_true rfl) rfl <| ?_
  refine o_sub [1, 2, 0] (ls' := [(0, .ref 43), (1, .ref 1011), (2, .int 0)]) rfl ?_
  refine sP_readsWord_1011_l2 hF  _ ?_ 1000 m 0
  · intro m2 z1
    refine o_iconst (pc := 30) dX2_readsWord_30 lc_1 <| ?_
    exact o_zret (pc := 31) dX2_readsWord_31 rfl rfl rfl
def fJS_coder_7d493_1012 (m : MI) : Option (Int32 × MI) :=
  some (0, m)
theorem sJS_coder_7d493_1012 {sh : Sh} {R : RR} (hF : Fx sh R) (m : MI) : KS (eI sh R) false 0 0 0 YJ0_coder_7d493 sh R m [.ref 1012] (fJS_coder_7d493_1012 m ) := by
  refine KS_of pn_J0 (fun _ => Nat.le_of_ble_eq_true rfl) ?_
  change S _ _ _ _ _ _ _ _ _ _ [(0, .ref 1012)] [] _
  unfold fJS_coder_7d493_1012
  refine o_getsC (pc := 0) dJ0_coder_7d493_0 k_434 <| o_if_eq_f (pc := 3) (tgt := 13) dJ0_coder_7d493_3 rfl (by decide) <| o_aload_n (pc := 6) 0 dJ0_coder_7d493_6 rfl rfl <| o_getSC (pc := 7) 2 (Nat.le_of_ble_eq_true rfl) dJ0_coder_7d493_7 k_1450 <| o_goto (pc := 10) (tgt := 14) dJ0_coder_7d493_10 rfl <| ?_
  exact o_zret (pc := 14) dJ0_coder_7d493_14 rfl rfl rfl
def fJS_length_8abf5_1012 (m : MI) : Option (Int32 × MI) :=
  (fJS_coder_7d493_1012 m).bind fun r1 =>
  some ((2 : Int32) >>> (r1.1 &&& 31), r1.2)
theorem sJS_length_8abf5_1012 {sh : Sh} {R : RR} (hF : Fx sh R) (m : MI) : KS (eI sh R) false 1 0 0 YJ0_length_8abf5 sh R m [.ref 1012] (fJS_length_8abf5_1012 m ) := by
  refine KS_of pn_J0 (fun _ => Nat.le_of_ble_eq_true rfl) ?_
  change S _ _ _ _ _ _ _ _ _ _ [(0, .ref 1012)] [] _
  unfold fJS_length_8abf5_1012
  refine o_aload_n (pc := 0) 0 dJ0_length_8abf5_0 rfl rfl <| o_getSV (pc := 1) 2 (Nat.le_of_ble_eq_true rfl) dJ0_length_8abf5_1 k_1449 <| o_alenS (pc := 4) 2 (Nat.le_of_ble_eq_true rfl) (v := 2) rfl dJ0_length_8abf5_4 <| o_aload_n (pc := 5) 0 dJ0_length_8abf5_5 rfl rfl <| ?_
  refine o_callVT (Y2 := YJ0_coder_7d493) (pc := 6) (av := []) (rest := [.int 2]) 2 (Nat.le_of_ble_eq_true rfl) dJ0_length_8abf5_6 k_430 cmt_J0_coder_7d493 (sJS_coder_7d493_1012 hF m ) rfl rfl (Nat.le_of_ble_eq_true rfl) (Nat.le_of_ble_eq_true rfl) fun r1 => ?_
  refine o_ishr (pc := 9) dJ0_length_8abf5_9 <| ?_
  exact o_iret (pc := 10) dJ0_length_8abf5_10 rfl rfl
def fJS_isLatin1_aae02_1012 (m : MI) : Option (Int32 × MI) :=
  some (1, m)
theorem sJS_isLatin1_aae02_1012 {sh : Sh} {R : RR} (hF : Fx sh R) (m : MI) : KS (eI sh R) false 0 0 0 YJ0_isLatin1_aae02 sh R m [.ref 1012] (fJS_isLatin1_aae02_1012 m ) := by
  refine KS_of pn_J0 (fun _ => Nat.le_of_ble_eq_true rfl) ?_
  change S _ _ _ _ _ _ _ _ _ _ [(0, .ref 1012)] [] _
  unfold fJS_isLatin1_aae02_1012
  refine o_getsC (pc := 0) dJ0_isLatin1_aae02_0 k_434 <| o_if_eq_f (pc := 3) (tgt := 17) dJ0_isLatin1_aae02_3 rfl (by decide) <| o_aload_n (pc := 6) 0 dJ0_isLatin1_aae02_6 rfl rfl <| o_getSC (pc := 7) 2 (Nat.le_of_ble_eq_true rfl) dJ0_isLatin1_aae02_7 k_1450 <| o_if_ne_f (pc := 10) (tgt := 17) dJ0_isLatin1_aae02_10 rfl (by decide) <| o_iconst (pc := 13) dJ0_isLatin1_aae02_13 lc_1 <| o_goto (pc := 14) (tgt := 18) dJ0_isLatin1_aae02_14 rfl <| ?_
  exact o_zret (pc := 18) dJ0_isLatin1_aae02_18 rfl rfl rfl
def fJL_charAt_3b067_1022 (m : MI) (b : Int32) : Option (Int32 × MI) :=
  (fJS_checkIndex_df160 m b 2).bind fun r1 =>
  if ck b 2 = true then
    if cb ((((((sByt.getD 2 []).getD b.toNatClampNeg 0)) &&& (255 : Int32)).toUInt32 % 65536).toInt32) = true then some ((((((sByt.getD 2 []).getD b.toNatClampNeg 0)) &&& (255 : Int32)).toUInt32 % 65536).toInt32, r1) else none
  else none
theorem sJL_charAt_3b067_1022 {sh : Sh} {R : RR} (hF : Fx sh R) (m : MI) (b : Int32) : KS (eI sh R) false 2 0 0 YJ1_charAt_3b067 sh R m [.ref 1022, .int b] (fJL_charAt_3b067_1022 m b) := by
  refine KS_of pn_J1 (fun _ => Nat.le_of_ble_eq_true rfl) ?_
  change S _ _ _ _ _ _ _ _ _ _ [(0, .ref 1022), (1, .int b)] [] _
  unfold fJL_charAt_3b067_1022
  refine o_iload_n (pc := 0) 1 dJ1_charAt_3b067_0 rfl rfl <| o_aload_n (pc := 1) 0 dJ1_charAt_3b067_1 rfl rfl <| o_alenS (pc := 2) 2 (Nat.le_of_ble_eq_true rfl) (v := 2) rfl dJ1_charAt_3b067_2 <| ?_
  refine o_callSV (Y2 := YJ0_checkIndex_df160) (pc := 3) (av := [.int b, .int 2]) (rest := []) dJ1_charAt_3b067_3 k_447 cs_J0_checkIndex_df160 (sJS_checkIndex_df160 hF m b 2) rfl rfl (Nat.le_of_ble_eq_true rfl) (Nat.le_of_ble_eq_true rfl) fun r1 => ?_
  refine o_aload_n (pc := 6) 0 dJ1_charAt_3b067_6 rfl rfl <| o_iload_n (pc := 7) 1 dJ1_charAt_3b067_7 rfl rfl <| ?_
  refine S_ck fun h2 => ?_
  refine o_baldS (pc := 8) 2 (Nat.le_of_ble_eq_true rfl) (nn := 2) rfl (ck_in h2) dJ1_charAt_3b067_8 <| o_sipush (pc := 9) dJ1_charAt_3b067_9 ls_255 <| o_iand (pc := 12) dJ1_charAt_3b067_12 <| o_i2c (pc := 13) dJ1_charAt_3b067_13 <| ?_
  refine S_ck fun h3 => ?_
  exact o_zret (pc := 14) dJ1_charAt_3b067_14 rfl (cb_ok h3) rfl
def fJS_charAt_5068e_1012 (m : MI) (a : Int32) : Option (Int32 × MI) :=
  (fJS_isLatin1_aae02_1012 m).bind fun r1 =>
  if r1.1 = 0 then
    none
  else
    (fJL_charAt_3b067_1022 r1.2 a).bind fun r3 =>
    if cb r3.1 = true then some (r3.1, r3.2) else none
theorem sJS_charAt_5068e_1012 {sh : Sh} {R : RR} (hF : Fx sh R) (m : MI) (a : Int32) : KS (eI sh R) false 3 0 0 YJ0_charAt_5068e sh R m [.ref 1012, .int a] (fJS_charAt_5068e_1012 m a) := by
  refine KS_of pn_J0 (fun _ => Nat.le_of_ble_eq_true rfl) ?_
  change S _ _ _ _ _ _ _ _ _ _ [(0, .ref 1012), (1, .int a)] [] _
  unfold fJS_charAt_5068e_1012
  refine o_aload_n (pc := 0) 0 dJ0_charAt_5068e_0 rfl rfl <| ?_
  refine o_callVT (Y2 := YJ0_isLatin1_aae02) (pc := 1) (av := []) (rest := []) 2 (Nat.le_of_ble_eq_true rfl) dJ0_charAt_5068e_1 k_440 cmt_J0_isLatin1_aae02 (sJS_isLatin1_aae02_1012 hF m ) rfl rfl (Nat.le_of_ble_eq_true rfl) (Nat.le_of_ble_eq_true rfl) fun r1 => ?_
  refine o_if_eq (pc := 4) (tgt := 16) dJ0_charAt_5068e_4 rfl (fun h2 => ?_) (fun h2 => ?_)
  · exact S_none
  · refine o_aload_n (pc := 7) 0 dJ0_charAt_5068e_7 rfl rfl <| o_getSV (pc := 8) 2 (Nat.le_of_ble_eq_true rfl) dJ0_charAt_5068e_8 k_1449 <| o_iload_n (pc := 11) 1 dJ0_charAt_5068e_11 rfl rfl <| ?_
    refine o_callSI (Y2 := YJ1_charAt_3b067) (pc := 12) (av := [.ref 1022, .int a]) (rest := []) dJ0_charAt_5068e_12 k_444 cs_J1_charAt_3b067 (sJL_charAt_3b067_1022 hF r1.2 a) rfl rfl (Nat.le_of_ble_eq_true rfl) (Nat.le_of_ble_eq_true rfl) fun r3 => ?_
    refine S_ck fun h4 => ?_
    exact o_zret (pc := 15) dJ0_charAt_5068e_15 rfl (cb_ok h4) rfl
def fP_readsWord_1012_l2 (k0_0 : MI → Int32 → Option (Int32 × MI)) : Nat → MI → Int32 → Option (Int32 × MI)
  | 0, _, _ => none
  | n0 + 1, m, v2 =>
    (fJS_length_8abf5_1012 m).bind fun r1 =>
    if r1.1 ≤ v2 then
      k0_0 r1.2 v2
    else
      (fJS_charAt_5068e_1012 r1.2 v2).bind fun r3 =>
      (fP_reads r3.2 r3.1).bind fun r4 =>
      if r4.1 = 0 then
        some (0, r4.2)
      else
        lt (v2 + 1) fun x6 =>
        fP_readsWord_1012_l2 k0_0 n0 r4.2 x6
theorem sP_readsWord_1012_l2 {sh : Sh} {R : RR} (hF : Fx sh R) (k0_0 : MI → Int32 → Option (Int32 × MI)) (hk0_0 : ∀ (m : MI) (v2 : Int32) , S (eI sh R) false 4 0 0 YX2_readsWord sh R m 30 [(0, .ref 43), (1, .ref 1012), (2, .int v2)] [] (k0_0 m v2)) : ∀ (n : Nat) (m : MI) (v2 : Int32) , S (eI sh R) false 4 0 0 YX2_readsWord sh R m 2 [(0, .ref 43), (1, .ref 1012), (2, .int v2)] [] (fP_readsWord_1012_l2 k0_0 n m v2) := by
  intro n
  induction n with
  | zero => intros; exact S_none
  | succ n0 ih0 =>
    intro m v2
    rw [fP_readsWord_1012_l2]
    refine o_iload_n (pc := 2) 2 dX2_readsWord_2 rfl rfl <| o_aload_n (pc := 3) 1 dX2_readsWord_3 rfl rfl <| ?_
    refine o_callVT (Y2 := YJ0_length_8abf5) (pc := 4) (av := []) (rest := [.int v2]) 2 (Nat.le_of_ble_eq_true rfl) dX2_readsWord_4 k_426 cmt_J0_length_8abf5 (sJS_length_8abf5_1012 hF m ) rfl rfl (Nat.le_of_ble_eq_true rfl) (Nat.le_of_ble_eq_true rfl) fun r1 => ?_
    refine o_icmp_ge (pc := 7) (tgt := 30) dX2_readsWord_7 rfl (fun h2 => ?_) (fun h2 => ?_)
    · exact hk0_0 r1.2 v2
    · refine o_aload_n (pc := 10) 0 dX2_readsWord_10 rfl rfl <| o_aload_n (pc := 11) 1 dX2_readsWord_11 rfl rfl <| o_iload_n (pc := 12) 2 dX2_readsWord_12 rfl rfl <| ?_
      refine o_callVT (Y2 := YJ0_charAt_5068e) (pc := 13) (av := [.int v2]) (rest := [.ref 43]) 2 (Nat.le_of_ble_eq_true rfl) dX2_readsWord_13 k_436 cmt_J0_charAt_5068e (sJS_charAt_5068e_1012 hF r1.2 v2) rfl rfl (Nat.le_of_ble_eq_true rfl) (Nat.le_of_ble_eq_true rfl) fun r3 => ?_
      refine o_callVI (Y2 := YX2_reads) (pc := 16) (av := [.int r3.1]) (rest := []) dX2_readsWord_16 k_474 cm_X2_reads (sP_reads hF r3.2 r3.1) (hF.1 _ _ rfl) rfl rfl (Nat.le_of_ble_eq_true rfl) (Nat.le_of_ble_eq_true rfl) fun r4 => ?_
      refine o_if_ne (pc := 19) (tgt := 24) dX2_readsWord_19 rfl (fun h5 => ?_) (fun h5 => ?_)
      · refine o_iconst (pc := 22) dX2_readsWord_22 lc_0 <| ?_
        exact o_zret (pc := 23) dX2_readsWord_23 rfl rfl rfl
      · refine o_iinc (pc := 24) 2 (v := v2 + 1) (ls' := [(2, .int (v2 + 1)), (0, .ref 43), (1, .ref 1012)]) dX2_readsWord_24 rfl rfl (Nat.le_of_ble_eq_true rfl) rfl <| ?_
        refine o_ltL (ls := fun x6 => [(2, .int x6), (0, .ref 43), (1, .ref 1012)]) fun x6 => ?_
        refine o_goto (pc := 27) (tgt := 2) dX2_readsWord_27 rfl <| ?_
        refine o_sub [1, 2, 0] (ls' := [(0, .ref 43), (1, .ref 1012), (2, .int x6)]) rfl ?_
        exact ih0 r4.2 x6
def fP_readsWord_1012 (m : MI) : Option (Int32 × MI) :=
  fP_readsWord_1012_l2 
    (fun m2 z1 =>
      some (1, m2)
      )
    1000 m 0
theorem sP_readsWord_1012 {sh : Sh} {R : RR} (hF : Fx sh R) (m : MI) : KS (eI sh R) false 4 0 0 YX2_readsWord sh R m [.ref 43, .ref 1012] (fP_readsWord_1012 m ) := by
  refine KS_of pn_X2 (fun _ => Nat.le_of_ble_eq_true rfl) ?_
  change S _ _ _ _ _ _ _ _ _ _ [(0, .ref 43), (1, .ref 1012)] [] _
  unfold fP_readsWord_1012
  refine o_iconst (pc := 0) dX2_readsWord_0 lc_0 <| o_istore_n (pc := 1) (ls' := [(2, .int 0), (0, .ref 43), (1, .ref 1012)]) dX2_readsWord_1 rfl (Nat.le_of_ble_eq_true rfl) rfl <| ?_
  refine o_sub [1, 2, 0] (ls' := [(0, .ref 43), (1, .ref 1012), (2, .int 0)]) rfl ?_
  refine sP_readsWord_1012_l2 hF  _ ?_ 1000 m 0
  · intro m2 z1
    refine o_iconst (pc := 30) dX2_readsWord_30 lc_1 <| ?_
    exact o_zret (pc := 31) dX2_readsWord_31 rfl rfl rfl
def fJS_coder_7d493_1013 (m : MI) : Option (Int32 × MI) :=
  some (0, m)
theorem sJS_coder_7d493_1013 {sh : Sh} {R : RR} (hF : Fx sh R) (m : MI) : KS (eI sh R) false 0 0 0 YJ0_coder_7d493 sh R m [.ref 1013] (fJS_coder_7d493_1013 m ) := by
  refine KS_of pn_J0 (fun _ => Nat.le_of_ble_eq_true rfl) ?_
  change S _ _ _ _ _ _ _ _ _ _ [(0, .ref 1013)] [] _
  unfold fJS_coder_7d493_1013
  refine o_getsC (pc := 0) dJ0_coder_7d493_0 k_434 <| o_if_eq_f (pc := 3) (tgt := 13) dJ0_coder_7d493_3 rfl (by decide) <| o_aload_n (pc := 6) 0 dJ0_coder_7d493_6 rfl rfl <| o_getSC (pc := 7) 3 (Nat.le_of_ble_eq_true rfl) dJ0_coder_7d493_7 k_1450 <| o_goto (pc := 10) (tgt := 14) dJ0_coder_7d493_10 rfl <| ?_
  exact o_zret (pc := 14) dJ0_coder_7d493_14 rfl rfl rfl
def fJS_length_8abf5_1013 (m : MI) : Option (Int32 × MI) :=
  (fJS_coder_7d493_1013 m).bind fun r1 =>
  some ((3 : Int32) >>> (r1.1 &&& 31), r1.2)
theorem sJS_length_8abf5_1013 {sh : Sh} {R : RR} (hF : Fx sh R) (m : MI) : KS (eI sh R) false 1 0 0 YJ0_length_8abf5 sh R m [.ref 1013] (fJS_length_8abf5_1013 m ) := by
  refine KS_of pn_J0 (fun _ => Nat.le_of_ble_eq_true rfl) ?_
  change S _ _ _ _ _ _ _ _ _ _ [(0, .ref 1013)] [] _
  unfold fJS_length_8abf5_1013
  refine o_aload_n (pc := 0) 0 dJ0_length_8abf5_0 rfl rfl <| o_getSV (pc := 1) 3 (Nat.le_of_ble_eq_true rfl) dJ0_length_8abf5_1 k_1449 <| o_alenS (pc := 4) 3 (Nat.le_of_ble_eq_true rfl) (v := 3) rfl dJ0_length_8abf5_4 <| o_aload_n (pc := 5) 0 dJ0_length_8abf5_5 rfl rfl <| ?_
  refine o_callVT (Y2 := YJ0_coder_7d493) (pc := 6) (av := []) (rest := [.int 3]) 3 (Nat.le_of_ble_eq_true rfl) dJ0_length_8abf5_6 k_430 cmt_J0_coder_7d493 (sJS_coder_7d493_1013 hF m ) rfl rfl (Nat.le_of_ble_eq_true rfl) (Nat.le_of_ble_eq_true rfl) fun r1 => ?_
  refine o_ishr (pc := 9) dJ0_length_8abf5_9 <| ?_
  exact o_iret (pc := 10) dJ0_length_8abf5_10 rfl rfl
def fJS_isLatin1_aae02_1013 (m : MI) : Option (Int32 × MI) :=
  some (1, m)
theorem sJS_isLatin1_aae02_1013 {sh : Sh} {R : RR} (hF : Fx sh R) (m : MI) : KS (eI sh R) false 0 0 0 YJ0_isLatin1_aae02 sh R m [.ref 1013] (fJS_isLatin1_aae02_1013 m ) := by
  refine KS_of pn_J0 (fun _ => Nat.le_of_ble_eq_true rfl) ?_
  change S _ _ _ _ _ _ _ _ _ _ [(0, .ref 1013)] [] _
  unfold fJS_isLatin1_aae02_1013
  refine o_getsC (pc := 0) dJ0_isLatin1_aae02_0 k_434 <| o_if_eq_f (pc := 3) (tgt := 17) dJ0_isLatin1_aae02_3 rfl (by decide) <| o_aload_n (pc := 6) 0 dJ0_isLatin1_aae02_6 rfl rfl <| o_getSC (pc := 7) 3 (Nat.le_of_ble_eq_true rfl) dJ0_isLatin1_aae02_7 k_1450 <| o_if_ne_f (pc := 10) (tgt := 17) dJ0_isLatin1_aae02_10 rfl (by decide) <| o_iconst (pc := 13) dJ0_isLatin1_aae02_13 lc_1 <| o_goto (pc := 14) (tgt := 18) dJ0_isLatin1_aae02_14 rfl <| ?_
  exact o_zret (pc := 18) dJ0_isLatin1_aae02_18 rfl rfl rfl
def fJL_charAt_3b067_1023 (m : MI) (b : Int32) : Option (Int32 × MI) :=
  (fJS_checkIndex_df160 m b 3).bind fun r1 =>
  if ck b 3 = true then
    if cb ((((((sByt.getD 3 []).getD b.toNatClampNeg 0)) &&& (255 : Int32)).toUInt32 % 65536).toInt32) = true then some ((((((sByt.getD 3 []).getD b.toNatClampNeg 0)) &&& (255 : Int32)).toUInt32 % 65536).toInt32, r1) else none
  else none
theorem sJL_charAt_3b067_1023 {sh : Sh} {R : RR} (hF : Fx sh R) (m : MI) (b : Int32) : KS (eI sh R) false 2 0 0 YJ1_charAt_3b067 sh R m [.ref 1023, .int b] (fJL_charAt_3b067_1023 m b) := by
  refine KS_of pn_J1 (fun _ => Nat.le_of_ble_eq_true rfl) ?_
  change S _ _ _ _ _ _ _ _ _ _ [(0, .ref 1023), (1, .int b)] [] _
  unfold fJL_charAt_3b067_1023
  refine o_iload_n (pc := 0) 1 dJ1_charAt_3b067_0 rfl rfl <| o_aload_n (pc := 1) 0 dJ1_charAt_3b067_1 rfl rfl <| o_alenS (pc := 2) 3 (Nat.le_of_ble_eq_true rfl) (v := 3) rfl dJ1_charAt_3b067_2 <| ?_
  refine o_callSV (Y2 := YJ0_checkIndex_df160) (pc := 3) (av := [.int b, .int 3]) (rest := []) dJ1_charAt_3b067_3 k_447 cs_J0_checkIndex_df160 (sJS_checkIndex_df160 hF m b 3) rfl rfl (Nat.le_of_ble_eq_true rfl) (Nat.le_of_ble_eq_true rfl) fun r1 => ?_
  refine o_aload_n (pc := 6) 0 dJ1_charAt_3b067_6 rfl rfl <| o_iload_n (pc := 7) 1 dJ1_charAt_3b067_7 rfl rfl <| ?_
  refine S_ck fun h2 => ?_
  refine o_baldS (pc := 8) 3 (Nat.le_of_ble_eq_true rfl) (nn := 3) rfl (ck_in h2) dJ1_charAt_3b067_8 <| o_sipush (pc := 9) dJ1_charAt_3b067_9 ls_255 <| o_iand (pc := 12) dJ1_charAt_3b067_12 <| o_i2c (pc := 13) dJ1_charAt_3b067_13 <| ?_
  refine S_ck fun h3 => ?_
  exact o_zret (pc := 14) dJ1_charAt_3b067_14 rfl (cb_ok h3) rfl
def fJS_charAt_5068e_1013 (m : MI) (a : Int32) : Option (Int32 × MI) :=
  (fJS_isLatin1_aae02_1013 m).bind fun r1 =>
  if r1.1 = 0 then
    none
  else
    (fJL_charAt_3b067_1023 r1.2 a).bind fun r3 =>
    if cb r3.1 = true then some (r3.1, r3.2) else none
theorem sJS_charAt_5068e_1013 {sh : Sh} {R : RR} (hF : Fx sh R) (m : MI) (a : Int32) : KS (eI sh R) false 3 0 0 YJ0_charAt_5068e sh R m [.ref 1013, .int a] (fJS_charAt_5068e_1013 m a) := by
  refine KS_of pn_J0 (fun _ => Nat.le_of_ble_eq_true rfl) ?_
  change S _ _ _ _ _ _ _ _ _ _ [(0, .ref 1013), (1, .int a)] [] _
  unfold fJS_charAt_5068e_1013
  refine o_aload_n (pc := 0) 0 dJ0_charAt_5068e_0 rfl rfl <| ?_
  refine o_callVT (Y2 := YJ0_isLatin1_aae02) (pc := 1) (av := []) (rest := []) 3 (Nat.le_of_ble_eq_true rfl) dJ0_charAt_5068e_1 k_440 cmt_J0_isLatin1_aae02 (sJS_isLatin1_aae02_1013 hF m ) rfl rfl (Nat.le_of_ble_eq_true rfl) (Nat.le_of_ble_eq_true rfl) fun r1 => ?_
  refine o_if_eq (pc := 4) (tgt := 16) dJ0_charAt_5068e_4 rfl (fun h2 => ?_) (fun h2 => ?_)
  · exact S_none
  · refine o_aload_n (pc := 7) 0 dJ0_charAt_5068e_7 rfl rfl <| o_getSV (pc := 8) 3 (Nat.le_of_ble_eq_true rfl) dJ0_charAt_5068e_8 k_1449 <| o_iload_n (pc := 11) 1 dJ0_charAt_5068e_11 rfl rfl <| ?_
    refine o_callSI (Y2 := YJ1_charAt_3b067) (pc := 12) (av := [.ref 1023, .int a]) (rest := []) dJ0_charAt_5068e_12 k_444 cs_J1_charAt_3b067 (sJL_charAt_3b067_1023 hF r1.2 a) rfl rfl (Nat.le_of_ble_eq_true rfl) (Nat.le_of_ble_eq_true rfl) fun r3 => ?_
    refine S_ck fun h4 => ?_
    exact o_zret (pc := 15) dJ0_charAt_5068e_15 rfl (cb_ok h4) rfl
def fP_readsWord_1013_l2 (k0_0 : MI → Int32 → Option (Int32 × MI)) : Nat → MI → Int32 → Option (Int32 × MI)
  | 0, _, _ => none
  | n0 + 1, m, v2 =>
    (fJS_length_8abf5_1013 m).bind fun r1 =>
    if r1.1 ≤ v2 then
      k0_0 r1.2 v2
    else
      (fJS_charAt_5068e_1013 r1.2 v2).bind fun r3 =>
      (fP_reads r3.2 r3.1).bind fun r4 =>
      if r4.1 = 0 then
        some (0, r4.2)
      else
        lt (v2 + 1) fun x6 =>
        fP_readsWord_1013_l2 k0_0 n0 r4.2 x6
theorem sP_readsWord_1013_l2 {sh : Sh} {R : RR} (hF : Fx sh R) (k0_0 : MI → Int32 → Option (Int32 × MI)) (hk0_0 : ∀ (m : MI) (v2 : Int32) , S (eI sh R) false 4 0 0 YX2_readsWord sh R m 30 [(0, .ref 43), (1, .ref 1013), (2, .int v2)] [] (k0_0 m v2)) : ∀ (n : Nat) (m : MI) (v2 : Int32) , S (eI sh R) false 4 0 0 YX2_readsWord sh R m 2 [(0, .ref 43), (1, .ref 1013), (2, .int v2)] [] (fP_readsWord_1013_l2 k0_0 n m v2) := by
  intro n
  induction n with
  | zero => intros; exact S_none
  | succ n0 ih0 =>
    intro m v2
    rw [fP_readsWord_1013_l2]
    refine o_iload_n (pc := 2) 2 dX2_readsWord_2 rfl rfl <| o_aload_n (pc := 3) 1 dX2_readsWord_3 rfl rfl <| ?_
    refine o_callVT (Y2 := YJ0_length_8abf5) (pc := 4) (av := []) (rest := [.int v2]) 3 (Nat.le_of_ble_eq_true rfl) dX2_readsWord_4 k_426 cmt_J0_length_8abf5 (sJS_length_8abf5_1013 hF m ) rfl rfl (Nat.le_of_ble_eq_true rfl) (Nat.le_of_ble_eq_true rfl) fun r1 => ?_
    refine o_icmp_ge (pc := 7) (tgt := 30) dX2_readsWord_7 rfl (fun h2 => ?_) (fun h2 => ?_)
    · exact hk0_0 r1.2 v2
    · refine o_aload_n (pc := 10) 0 dX2_readsWord_10 rfl rfl <| o_aload_n (pc := 11) 1 dX2_readsWord_11 rfl rfl <| o_iload_n (pc := 12) 2 dX2_readsWord_12 rfl rfl <| ?_
      refine o_callVT (Y2 := YJ0_charAt_5068e) (pc := 13) (av := [.int v2]) (rest := [.ref 43]) 3 (Nat.le_of_ble_eq_true rfl) dX2_readsWord_13 k_436 cmt_J0_charAt_5068e (sJS_charAt_5068e_1013 hF r1.2 v2) rfl rfl (Nat.le_of_ble_eq_true rfl) (Nat.le_of_ble_eq_true rfl) fun r3 => ?_
      refine o_callVI (Y2 := YX2_reads) (pc := 16) (av := [.int r3.1]) (rest := []) dX2_readsWord_16 k_474 cm_X2_reads (sP_reads hF r3.2 r3.1) (hF.1 _ _ rfl) rfl rfl (Nat.le_of_ble_eq_true rfl) (Nat.le_of_ble_eq_true rfl) fun r4 => ?_
      refine o_if_ne (pc := 19) (tgt := 24) dX2_readsWord_19 rfl (fun h5 => ?_) (fun h5 => ?_)
      · refine o_iconst (pc := 22) dX2_readsWord_22 lc_0 <| ?_
        exact o_zret (pc := 23) dX2_readsWord_23 rfl rfl rfl
      · refine o_iinc (pc := 24) 2 (v := v2 + 1) (ls' := [(2, .int (v2 + 1)), (0, .ref 43), (1, .ref 1013)]) dX2_readsWord_24 rfl rfl (Nat.le_of_ble_eq_true rfl) rfl <| ?_
        refine o_ltL (ls := fun x6 => [(2, .int x6), (0, .ref 43), (1, .ref 1013)]) fun x6 => ?_
        refine o_goto (pc := 27) (tgt := 2) dX2_readsWord_27 rfl <| ?_
        refine o_sub [1, 2, 0] (ls' := [(0, .ref 43), (1, .ref 1013), (2, .int x6)]) rfl ?_
        exact ih0 r4.2 x6
def fP_readsWord_1013 (m : MI) : Option (Int32 × MI) :=
  fP_readsWord_1013_l2 
    (fun m2 z1 =>
      some (1, m2)
      )
    1000 m 0
theorem sP_readsWord_1013 {sh : Sh} {R : RR} (hF : Fx sh R) (m : MI) : KS (eI sh R) false 4 0 0 YX2_readsWord sh R m [.ref 43, .ref 1013] (fP_readsWord_1013 m ) := by
  refine KS_of pn_X2 (fun _ => Nat.le_of_ble_eq_true rfl) ?_
  change S _ _ _ _ _ _ _ _ _ _ [(0, .ref 43), (1, .ref 1013)] [] _
  unfold fP_readsWord_1013
  refine o_iconst (pc := 0) dX2_readsWord_0 lc_0 <| o_istore_n (pc := 1) (ls' := [(2, .int 0), (0, .ref 43), (1, .ref 1013)]) dX2_readsWord_1 rfl (Nat.le_of_ble_eq_true rfl) rfl <| ?_
  refine o_sub [1, 2, 0] (ls' := [(0, .ref 43), (1, .ref 1013), (2, .int 0)]) rfl ?_
  refine sP_readsWord_1013_l2 hF  _ ?_ 1000 m 0
  · intro m2 z1
    refine o_iconst (pc := 30) dX2_readsWord_30 lc_1 <| ?_
    exact o_zret (pc := 31) dX2_readsWord_31 rfl rfl rfl
def fP_word (m : MI) : Option (Int32 × MI) :=
  if ck (m.1 43 1) 101 = true then
    if m.1 44 (m.1 43 1).toNatClampNeg = 108 then
      (fP_readsWord_1010 m).bind fun r3 =>
      if r3.1 = 0 then
        some (-1, r3.2)
      else
        some (4, r3.2)
    else
      if ck (m.1 43 1) 101 = true then
        if m.1 44 (m.1 43 1).toNatClampNeg = 109 then
          (fP_readsWord_1011 m).bind fun r7 =>
          if r7.1 = 0 then
            some (-1, r7.2)
          else
            some (7, r7.2)
        else
          (fP_readsWord_1012 m).bind fun r9 =>
          if r9.1 = 0 then
            some (-1, r9.2)
          else
            (fP_reads r9.2 121).bind fun r11 =>
            if r11.1 = 0 then
              (fP_readsWord_1013 r11.2).bind fun r13 =>
              if r13.1 = 0 then
                some (-1, r13.2)
              else
                some (6, r13.2)
            else
              some (5, r11.2)
      else none
  else none
theorem sP_word {sh : Sh} {R : RR} (hF : Fx sh R) (m : MI) : KS (eI sh R) false 5 0 0 YX2_word sh R m [.ref 43] (fP_word m ) := by
  refine KS_of pn_X2 (fun _ => Nat.le_of_ble_eq_true rfl) ?_
  change S _ _ _ _ _ _ _ _ _ _ [(0, .ref 43)] [] _
  unfold fP_word
  refine o_aload_n (pc := 0) 0 dX2_word_0 rfl rfl <| o_getRc (pc := 1) (a := 44) (ci := 2) (j := 2) (nn := 0) dX2_word_1 (hF.1 _ _ rfl) rfl (Nat.le_of_ble_eq_true rfl) k_229 rfl (hF.2 _ _ _ rfl) <| o_aload_n (pc := 4) 0 dX2_word_4 rfl rfl <| o_getI (pc := 5) (ci := 2) (j := 1) (nn := 0) dX2_word_5 (hF.1 _ _ rfl) rfl (Nat.le_of_ble_eq_true rfl) k_227 rfl <| ?_
  refine S_ck fun h1 => ?_
  refine o_iald (pc := 8) (nn := 101) dX2_word_8 (hF.1 _ _ rfl) (ck_in h1) <| o_bipush (pc := 9) dX2_word_9 lb_108 <| ?_
  refine o_icmp_ne (pc := 11) (tgt := 29) dX2_word_11 rfl (fun h2 => ?_) (fun h2 => ?_)
  · refine o_aload_n (pc := 14) 0 dX2_word_14 rfl rfl <| o_ldcS (pc := 15) 0 (Nat.le_of_ble_eq_true rfl) rfl dX2_word_15 <| ?_
    refine o_callVI (Y2 := YX2_readsWord) (pc := 17) (av := [.ref 1010]) (rest := []) dX2_word_17 k_422 cm_X2_readsWord (sP_readsWord_1010 hF m ) (hF.1 _ _ rfl) rfl rfl (Nat.le_of_ble_eq_true rfl) (Nat.le_of_ble_eq_true rfl) fun r3 => ?_
    refine o_if_eq (pc := 20) (tgt := 27) dX2_word_20 rfl (fun h4 => ?_) (fun h4 => ?_)
    · refine o_iconst (pc := 27) dX2_word_27 lc_m1 <| ?_
      exact o_iret (pc := 28) dX2_word_28 rfl rfl
    · refine o_iconst (pc := 23) dX2_word_23 lc_4 <| o_goto (pc := 24) (tgt := 28) dX2_word_24 rfl <| ?_
      exact o_iret (pc := 28) dX2_word_28 rfl rfl
  · refine o_aload_n (pc := 29) 0 dX2_word_29 rfl rfl <| o_getRc (pc := 30) (a := 44) (ci := 2) (j := 2) (nn := 0) dX2_word_30 (hF.1 _ _ rfl) rfl (Nat.le_of_ble_eq_true rfl) k_229 rfl (hF.2 _ _ _ rfl) <| o_aload_n (pc := 33) 0 dX2_word_33 rfl rfl <| o_getI (pc := 34) (ci := 2) (j := 1) (nn := 0) dX2_word_34 (hF.1 _ _ rfl) rfl (Nat.le_of_ble_eq_true rfl) k_227 rfl <| ?_
    refine S_ck fun h5 => ?_
    refine o_iald (pc := 37) (nn := 101) dX2_word_37 (hF.1 _ _ rfl) (ck_in h5) <| o_bipush (pc := 38) dX2_word_38 lb_109 <| ?_
    refine o_icmp_ne (pc := 40) (tgt := 59) dX2_word_40 rfl (fun h6 => ?_) (fun h6 => ?_)
    · refine o_aload_n (pc := 43) 0 dX2_word_43 rfl rfl <| o_ldcS (pc := 44) 1 (Nat.le_of_ble_eq_true rfl) rfl dX2_word_44 <| ?_
      refine o_callVI (Y2 := YX2_readsWord) (pc := 46) (av := [.ref 1011]) (rest := []) dX2_word_46 k_422 cm_X2_readsWord (sP_readsWord_1011 hF m ) (hF.1 _ _ rfl) rfl rfl (Nat.le_of_ble_eq_true rfl) (Nat.le_of_ble_eq_true rfl) fun r7 => ?_
      refine o_if_eq (pc := 49) (tgt := 57) dX2_word_49 rfl (fun h8 => ?_) (fun h8 => ?_)
      · refine o_iconst (pc := 57) dX2_word_57 lc_m1 <| ?_
        exact o_iret (pc := 58) dX2_word_58 rfl rfl
      · refine o_bipush (pc := 52) dX2_word_52 lb_7 <| o_goto (pc := 54) (tgt := 58) dX2_word_54 rfl <| ?_
        exact o_iret (pc := 58) dX2_word_58 rfl rfl
    · refine o_aload_n (pc := 59) 0 dX2_word_59 rfl rfl <| o_ldcS (pc := 60) 2 (Nat.le_of_ble_eq_true rfl) rfl dX2_word_60 <| ?_
      refine o_callVI (Y2 := YX2_readsWord) (pc := 62) (av := [.ref 1012]) (rest := []) dX2_word_62 k_422 cm_X2_readsWord (sP_readsWord_1012 hF m ) (hF.1 _ _ rfl) rfl rfl (Nat.le_of_ble_eq_true rfl) (Nat.le_of_ble_eq_true rfl) fun r9 => ?_
      refine o_if_ne (pc := 65) (tgt := 70) dX2_word_65 rfl (fun h10 => ?_) (fun h10 => ?_)
      · refine o_iconst (pc := 68) dX2_word_68 lc_m1 <| ?_
        exact o_iret (pc := 69) dX2_word_69 rfl rfl
      · refine o_aload_n (pc := 70) 0 dX2_word_70 rfl rfl <| o_bipush (pc := 71) dX2_word_71 lb_121 <| ?_
        refine o_callVI (Y2 := YX2_reads) (pc := 73) (av := [.int 121]) (rest := []) dX2_word_73 k_474 cm_X2_reads (sP_reads hF r9.2 121) (hF.1 _ _ rfl) rfl rfl (Nat.le_of_ble_eq_true rfl) (Nat.le_of_ble_eq_true rfl) fun r11 => ?_
        refine o_if_eq (pc := 76) (tgt := 81) dX2_word_76 rfl (fun h12 => ?_) (fun h12 => ?_)
        · refine o_aload_n (pc := 81) 0 dX2_word_81 rfl rfl <| o_ldcS (pc := 82) 3 (Nat.le_of_ble_eq_true rfl) rfl dX2_word_82 <| ?_
          refine o_callVI (Y2 := YX2_readsWord) (pc := 84) (av := [.ref 1013]) (rest := []) dX2_word_84 k_422 cm_X2_readsWord (sP_readsWord_1013 hF r11.2 ) (hF.1 _ _ rfl) rfl rfl (Nat.le_of_ble_eq_true rfl) (Nat.le_of_ble_eq_true rfl) fun r13 => ?_
          refine o_if_eq (pc := 87) (tgt := 95) dX2_word_87 rfl (fun h14 => ?_) (fun h14 => ?_)
          · refine o_iconst (pc := 95) dX2_word_95 lc_m1 <| ?_
            exact o_iret (pc := 96) dX2_word_96 rfl rfl
          · refine o_bipush (pc := 90) dX2_word_90 lb_6 <| o_goto (pc := 92) (tgt := 96) dX2_word_92 rfl <| ?_
            exact o_iret (pc := 96) dX2_word_96 rfl rfl
        · refine o_iconst (pc := 79) dX2_word_79 lc_5 <| ?_
          exact o_iret (pc := 80) dX2_word_80 rfl rfl
def fH_clause (m : MI) (a : Int32) (b : Int32) : Option (Int32 × MI) :=
  some (a ||| (b <<< (3 &&& 31)), m)
theorem sH_clause {sh : Sh} {R : RR} (hF : Fx sh R) (m : MI) (a : Int32) (b : Int32) : KS (eI sh R) false 0 0 0 YX1_clause sh R m [.int a, .int b] (fH_clause m a b) := by
  refine KS_of pn_X1 (fun _ => Nat.le_of_ble_eq_true rfl) ?_
  change S _ _ _ _ _ _ _ _ _ _ [(0, .int a), (1, .int b)] [] _
  unfold fH_clause
  refine o_iload_n (pc := 0) 0 dX1_clause_0 rfl rfl <| o_iload_n (pc := 1) 1 dX1_clause_1 rfl rfl <| o_iconst (pc := 2) dX1_clause_2 lc_3 <| o_ishl (pc := 3) dX1_clause_3 <| o_ior (pc := 4) dX1_clause_4 <| ?_
  exact o_iret (pc := 5) dX1_clause_5 rfl rfl
