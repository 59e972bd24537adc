def fM_layLikely_l19 (u1 : Int32) (u2 : Int32) (k0_0 : MI → Int32 → Option (MI)) : Nat → MI → Int32 → Option (MI)
  | 0, _, _ => none
  | n0 + 1, m, v3 =>
    if 5 ≤ v3 then
      k0_0 m v3
    else
      if v3 = u1 then
        if ck v3 5 = true then
          lm (mI m 79 (upd (m.1 79) v3.toNatClampNeg 1000000)) fun m4 =>
          lt (v3 + 1) fun x5 =>
          fM_layLikely_l19 u1 u2 k0_0 n0 m4 x5
        else none
      else
        if ck v3 5 = true then
          lm (mI m 79 (upd (m.1 79) v3.toNatClampNeg 0)) fun m7 =>
          lt (v3 + 1) fun x8 =>
          fM_layLikely_l19 u1 u2 k0_0 n0 m7 x8
        else none
theorem sM_layLikely_l19 {sh : Sh} {R : RR} (hF : Fx sh R) (u1 : Int32) (u2 : Int32) (k0_0 : MI → Int32 → Option (MI)) (hk0_0 : ∀ (m : MI) (v3 : Int32) , S (eV sh R) false 6 0 0 YX7_layLikely sh R m 48 [(0, .ref 61), (1, .int u1), (2, .int u2), (3, .int v3)] [] (k0_0 m v3)) : ∀ (n : Nat) (m : MI) (v3 : Int32) , S (eV sh R) false 6 0 0 YX7_layLikely sh R m 19 [(0, .ref 61), (1, .int u1), (2, .int u2), (3, .int v3)] [] (fM_layLikely_l19 u1 u2 k0_0 n m v3) := by
  intro n
  induction n with
  | zero => intros; exact S_none
  | succ n0 ih0 =>
    intro m v3
    rw [fM_layLikely_l19]
    refine o_iload_n (pc := 19) 3 dX7_layLikely_19 rfl rfl <| o_iconst (pc := 20) dX7_layLikely_20 lc_5 <| ?_
    refine o_icmp_ge (pc := 21) (tgt := 48) dX7_layLikely_21 rfl (fun h1 => ?_) (fun h1 => ?_)
    · exact hk0_0 m v3
    · refine o_aload_n (pc := 24) 0 dX7_layLikely_24 rfl rfl <| o_getRc (pc := 25) (a := 79) (ci := 7) (j := 33) (nn := 0) dX7_layLikely_25 (hF.1 _ _ rfl) rfl (Nat.le_of_ble_eq_true rfl) k_916 rfl (hF.2 _ _ _ rfl) <| o_iload_n (pc := 28) 3 dX7_layLikely_28 rfl rfl <| o_iload_n (pc := 29) 3 dX7_layLikely_29 rfl rfl <| o_iload_n (pc := 30) 1 dX7_layLikely_30 rfl rfl <| ?_
      refine o_icmp_ne (pc := 31) (tgt := 40) dX7_layLikely_31 rfl (fun h2 => ?_) (fun h2 => ?_)
      · refine o_ldcw (pc := 34) dX7_layLikely_34 k_1224 <| o_goto (pc := 37) (tgt := 41) dX7_layLikely_37 rfl <| ?_
        refine S_ck fun h3 => ?_
        refine o_iast (pc := 41) (nn := 5) dX7_layLikely_41 (hF.1 _ _ rfl) (ck_in h3) <| ?_
        refine o_lm fun m4 => ?_
        refine o_iinc (pc := 42) 3 (v := v3 + 1) (ls' := [(3, .int (v3 + 1)), (0, .ref 61), (1, .int u1), (2, .int u2)]) dX7_layLikely_42 rfl rfl (Nat.le_of_ble_eq_true rfl) rfl <| ?_
        refine o_ltL (ls := fun x5 => [(3, .int x5), (0, .ref 61), (1, .int u1), (2, .int u2)]) fun x5 => ?_
        refine o_goto (pc := 45) (tgt := 19) dX7_layLikely_45 rfl <| ?_
        refine o_sub [1, 2, 3, 0] (ls' := [(0, .ref 61), (1, .int u1), (2, .int u2), (3, .int x5)]) rfl ?_
        exact ih0 m4 x5
      · refine o_iconst (pc := 40) dX7_layLikely_40 lc_0 <| ?_
        refine S_ck fun h6 => ?_
        refine o_iast (pc := 41) (nn := 5) dX7_layLikely_41 (hF.1 _ _ rfl) (ck_in h6) <| ?_
        refine o_lm fun m7 => ?_
        refine o_iinc (pc := 42) 3 (v := v3 + 1) (ls' := [(3, .int (v3 + 1)), (0, .ref 61), (1, .int u1), (2, .int u2)]) dX7_layLikely_42 rfl rfl (Nat.le_of_ble_eq_true rfl) rfl <| ?_
        refine o_ltL (ls := fun x8 => [(3, .int x8), (0, .ref 61), (1, .int u1), (2, .int u2)]) fun x8 => ?_
        refine o_goto (pc := 45) (tgt := 19) dX7_layLikely_45 rfl <| ?_
        refine o_sub [1, 2, 3, 0] (ls' := [(0, .ref 61), (1, .int u1), (2, .int u2), (3, .int x8)]) rfl ?_
        exact ih0 m7 x8
def fM_layLikely_l86 (u1 : Int32) (u2 : Int32) (u3 : Int32) (u4 : Int32) (k1_0 : MI → Int32 → Int32 → Option (MI)) : Nat → MI → Int32 → Int32 → Option (MI)
  | 0, _, _, _ => none
  | n1 + 1, m, v5, v6 =>
    if 4 ≤ v6 then
      k1_0 m v5 v6
    else
      if ck v6 5 = true then
        (fM_chance m u4 v6 ((u2 - u3) - v6) u3).bind fun r3 =>
        if ck v6 5 = true then
          lm (mI r3.2 78 (upd (r3.2.1 78) v6.toNatClampNeg (((((m.1 79 v6.toNatClampNeg).toInt64) * (r3.1.toInt64)) / 1000000).toInt32))) fun m5 =>
          if ck v6 5 = true then
            lt (v5 + (m5.1 78 v6.toNatClampNeg)) fun x7 =>
            lt (v6 + 1) fun x8 =>
            fM_layLikely_l86 u1 u2 u3 u4 k1_0 n1 m5 x7 x8
          else none
        else none
      else none
theorem sM_layLikely_l86 {sh : Sh} {R : RR} (hF : Fx sh R) (u1 : Int32) (u2 : Int32) (u3 : Int32) (u4 : Int32) (k1_0 : MI → Int32 → Int32 → Option (MI)) (hk1_0 : ∀ (m : MI) (v5 : Int32) (v6 : Int32) , S (eV sh R) false 6 0 0 YX7_layLikely sh R m 147 [(0, .ref 61), (1, .int u1), (2, .int u2), (3, .int u3), (4, .int u4), (5, .int v5), (6, .int v6)] [] (k1_0 m v5 v6)) : ∀ (n : Nat) (m : MI) (v5 : Int32) (v6 : Int32) , S (eV sh R) false 6 0 0 YX7_layLikely sh R m 86 [(0, .ref 61), (1, .int u1), (2, .int u2), (3, .int u3), (4, .int u4), (5, .int v5), (6, .int v6)] [] (fM_layLikely_l86 u1 u2 u3 u4 k1_0 n m v5 v6) := by
  intro n
  induction n with
  | zero => intros; exact S_none
  | succ n1 ih1 =>
    intro m v5 v6
    rw [fM_layLikely_l86]
    refine o_iload (pc := 86) 6 dX7_layLikely_86 rfl <| o_iconst (pc := 88) dX7_layLikely_88 lc_4 <| ?_
    refine o_icmp_ge (pc := 89) (tgt := 147) dX7_layLikely_89 rfl (fun h1 => ?_) (fun h1 => ?_)
    · exact hk1_0 m v5 v6
    · refine o_aload_n (pc := 92) 0 dX7_layLikely_92 rfl rfl <| o_getRc (pc := 93) (a := 78) (ci := 7) (j := 32) (nn := 0) dX7_layLikely_93 (hF.1 _ _ rfl) rfl (Nat.le_of_ble_eq_true rfl) k_915 rfl (hF.2 _ _ _ rfl) <| o_iload (pc := 96) 6 dX7_layLikely_96 rfl <| o_aload_n (pc := 98) 0 dX7_layLikely_98 rfl rfl <| o_getRc (pc := 99) (a := 79) (ci := 7) (j := 33) (nn := 0) dX7_layLikely_99 (hF.1 _ _ rfl) rfl (Nat.le_of_ble_eq_true rfl) k_916 rfl (hF.2 _ _ _ rfl) <| o_iload (pc := 102) 6 dX7_layLikely_102 rfl <| ?_
      refine S_ck fun h2 => ?_
      refine o_iald (pc := 104) (nn := 5) dX7_layLikely_104 (hF.1 _ _ rfl) (ck_in h2) <| o_i2l (pc := 105) dX7_layLikely_105 <| o_aload_n (pc := 106) 0 dX7_layLikely_106 rfl rfl <| o_iload (pc := 107) 4 dX7_layLikely_107 rfl <| o_iload (pc := 109) 6 dX7_layLikely_109 rfl <| o_iload_n (pc := 111) 2 dX7_layLikely_111 rfl rfl <| o_iload_n (pc := 112) 3 dX7_layLikely_112 rfl rfl <| o_isub (pc := 113) dX7_layLikely_113 <| o_iload (pc := 114) 6 dX7_layLikely_114 rfl <| o_isub (pc := 116) dX7_layLikely_116 <| ?_
      refine o_iload_n (pc := 117) 3 dX7_layLikely_117 rfl rfl <| ?_
      refine o_callVI (Y2 := YX7_chance) (pc := 118) (av := [.int u4, .int v6, .int ((u2 - u3) - v6), .int u3]) (rest := [.long ((m.1 79 v6.toNatClampNeg).toInt64), .int v6, .ref 78]) dX7_layLikely_118 k_1220 cm_X7_chance (sM_chance hF m u4 v6 ((u2 - u3) - v6) u3) (hF.1 _ _ rfl) rfl rfl (Nat.le_of_ble_eq_true rfl) (Nat.le_of_ble_eq_true rfl) fun r3 => ?_
      refine o_i2l (pc := 121) dX7_layLikely_121 <| o_lmul (pc := 122) dX7_layLikely_122 <| o_ldc2 (pc := 123) dX7_layLikely_123 k_1225 <| o_ldiv (pc := 126) dX7_layLikely_126 (by decide) <| o_l2i (pc := 127) dX7_layLikely_127 <| ?_
      refine S_ck fun h4 => ?_
      refine o_iast (pc := 128) (nn := 5) dX7_layLikely_128 (hF.1 _ _ rfl) (ck_in h4) <| ?_
      refine o_lm fun m5 => ?_
      refine o_iload (pc := 129) 5 dX7_layLikely_129 rfl <| o_aload_n (pc := 131) 0 dX7_layLikely_131 rfl rfl <| o_getRc (pc := 132) (a := 78) (ci := 7) (j := 32) (nn := 0) dX7_layLikely_132 (hF.1 _ _ rfl) rfl (Nat.le_of_ble_eq_true rfl) k_915 rfl (hF.2 _ _ _ rfl) <| o_iload (pc := 135) 6 dX7_layLikely_135 rfl <| ?_
      refine S_ck fun h6 => ?_
      refine o_iald (pc := 137) (nn := 5) dX7_layLikely_137 (hF.1 _ _ rfl) (ck_in h6) <| o_iadd (pc := 138) dX7_layLikely_138 <| ?_
      refine o_lt fun x7 => ?_
      refine o_istore (pc := 139) (ls' := [(5, .int x7), (0, .ref 61), (1, .int u1), (2, .int u2), (3, .int u3), (4, .int u4), (6, .int v6)]) dX7_layLikely_139 (Nat.le_of_ble_eq_true rfl) rfl <| o_iinc (pc := 141) 6 (v := v6 + 1) (ls' := [(6, .int (v6 + 1)), (5, .int x7), (0, .ref 61), (1, .int u1), (2, .int u2), (3, .int u3), (4, .int u4)]) dX7_layLikely_141 rfl rfl (Nat.le_of_ble_eq_true rfl) rfl <| ?_
      refine o_ltL (ls := fun x8 => [(6, .int x8), (5, .int x7), (0, .ref 61), (1, .int u1), (2, .int u2), (3, .int u3), (4, .int u4)]) fun x8 => ?_
      refine o_goto (pc := 144) (tgt := 86) dX7_layLikely_144 rfl <| ?_
      refine o_sub [2, 3, 4, 5, 6, 1, 0] (ls' := [(0, .ref 61), (1, .int u1), (2, .int u2), (3, .int u3), (4, .int u4), (5, .int x7), (6, .int x8)]) rfl ?_
      exact ih1 m5 x7 x8
def fM_layLikely_l159 (u1 : Int32) (u2 : Int32) (u3 : Int32) (u4 : Int32) (u5 : Int32) (k1_0 : MI → Int32 → Option (MI)) : Nat → MI → Int32 → Option (MI)
  | 0, _, _ => none
  | n1 + 1, m, v6 =>
    if 4 ≤ v6 then
      k1_0 m v6
    else
      if ck v6 5 = true then
        if ck (v6 + 1) 5 = true then
          if ck v6 5 = true then
            if ck v6 5 = true then
              lm (mI m 79 (upd (m.1 79) v6.toNatClampNeg ((m.1 79 v6.toNatClampNeg) + ((m.1 78 (v6 + 1).toNatClampNeg) - (m.1 78 v6.toNatClampNeg))))) fun m6 =>
              lt (v6 + 1) fun x7 =>
              fM_layLikely_l159 u1 u2 u3 u4 u5 k1_0 n1 m6 x7
            else none
          else none
        else none
      else none
theorem sM_layLikely_l159 {sh : Sh} {R : RR} (hF : Fx sh R) (u1 : Int32) (u2 : Int32) (u3 : Int32) (u4 : Int32) (u5 : Int32) (k1_0 : MI → Int32 → Option (MI)) (hk1_0 : ∀ (m : MI) (v6 : Int32) , S (eV sh R) false 6 0 0 YX7_layLikely sh R m 198 [(0, .ref 61), (1, .int u1), (2, .int u2), (3, .int u3), (4, .int u4), (5, .int u5), (6, .int v6)] [] (k1_0 m v6)) : ∀ (n : Nat) (m : MI) (v6 : Int32) , S (eV sh R) false 6 0 0 YX7_layLikely sh R m 159 [(0, .ref 61), (1, .int u1), (2, .int u2), (3, .int u3), (4, .int u4), (5, .int u5), (6, .int v6)] [] (fM_layLikely_l159 u1 u2 u3 u4 u5 k1_0 n m v6) := by
  intro n
  induction n with
  | zero => intros; exact S_none
  | succ n1 ih1 =>
    intro m v6
    rw [fM_layLikely_l159]
    refine o_iload (pc := 159) 6 dX7_layLikely_159 rfl <| o_iconst (pc := 161) dX7_layLikely_161 lc_4 <| ?_
    refine o_icmp_ge (pc := 162) (tgt := 198) dX7_layLikely_162 rfl (fun h1 => ?_) (fun h1 => ?_)
    · exact hk1_0 m v6
    · refine o_aload_n (pc := 165) 0 dX7_layLikely_165 rfl rfl <| o_getRc (pc := 166) (a := 79) (ci := 7) (j := 33) (nn := 0) dX7_layLikely_166 (hF.1 _ _ rfl) rfl (Nat.le_of_ble_eq_true rfl) k_916 rfl (hF.2 _ _ _ rfl) <| o_iload (pc := 169) 6 dX7_layLikely_169 rfl <| o_dup2 (pc := 171) dX7_layLikely_171 rfl rfl <| ?_
      refine S_ck fun h2 => ?_
      refine o_iald (pc := 172) (nn := 5) dX7_layLikely_172 (hF.1 _ _ rfl) (ck_in h2) <| o_aload_n (pc := 173) 0 dX7_layLikely_173 rfl rfl <| o_getRc (pc := 174) (a := 78) (ci := 7) (j := 32) (nn := 0) dX7_layLikely_174 (hF.1 _ _ rfl) rfl (Nat.le_of_ble_eq_true rfl) k_915 rfl (hF.2 _ _ _ rfl) <| o_iload (pc := 177) 6 dX7_layLikely_177 rfl <| o_iconst (pc := 179) dX7_layLikely_179 lc_1 <| o_iadd (pc := 180) dX7_layLikely_180 <| ?_
      refine S_ck fun h3 => ?_
      refine o_iald (pc := 181) (nn := 5) dX7_layLikely_181 (hF.1 _ _ rfl) (ck_in h3) <| o_aload_n (pc := 182) 0 dX7_layLikely_182 rfl rfl <| o_getRc (pc := 183) (a := 78) (ci := 7) (j := 32) (nn := 0) dX7_layLikely_183 (hF.1 _ _ rfl) rfl (Nat.le_of_ble_eq_true rfl) k_915 rfl (hF.2 _ _ _ rfl) <| o_iload (pc := 186) 6 dX7_layLikely_186 rfl <| ?_
      refine S_ck fun h4 => ?_
      refine o_iald (pc := 188) (nn := 5) dX7_layLikely_188 (hF.1 _ _ rfl) (ck_in h4) <| o_isub (pc := 189) dX7_layLikely_189 <| o_iadd (pc := 190) dX7_layLikely_190 <| ?_
      refine S_ck fun h5 => ?_
      refine o_iast (pc := 191) (nn := 5) dX7_layLikely_191 (hF.1 _ _ rfl) (ck_in h5) <| ?_
      refine o_lm fun m6 => ?_
      refine o_iinc (pc := 192) 6 (v := v6 + 1) (ls' := [(6, .int (v6 + 1)), (0, .ref 61), (1, .int u1), (2, .int u2), (3, .int u3), (4, .int u4), (5, .int u5)]) dX7_layLikely_192 rfl rfl (Nat.le_of_ble_eq_true rfl) rfl <| ?_
      refine o_ltL (ls := fun x7 => [(6, .int x7), (0, .ref 61), (1, .int u1), (2, .int u2), (3, .int u3), (4, .int u4), (5, .int u5)]) fun x7 => ?_
      refine o_goto (pc := 195) (tgt := 159) dX7_layLikely_195 rfl <| ?_
      refine o_sub [1, 2, 3, 4, 5, 6, 0] (ls' := [(0, .ref 61), (1, .int u1), (2, .int u2), (3, .int u3), (4, .int u4), (5, .int u5), (6, .int x7)]) rfl ?_
      exact ih1 m6 x7
def fM_layLikely_l64 (u1 : Int32) (u2 : Int32) (k0_0 : MI → Int32 → Option (MI)) : Nat → MI → Int32 → Option (MI)
  | 0, _, _ => none
  | n0 + 1, m, v3 =>
    if m.1 61 0 ≤ v3 then
      k0_0 m v3
    else
      if ck v3 6 = true then
        lt (m.1 66 v3.toNatClampNeg) fun x3 =>
        fM_layLikely_l86 u1 u2 v3 x3
          (fun m6 z4 z5 =>
            if ck x3 6 = true then
              lm (mI m6 77 (upd (m6.1 77) x3.toNatClampNeg z4)) fun m8 =>
              fM_layLikely_l159 u1 u2 v3 x3 z4
                (fun m10 z9 =>
                  lt (v3 + 1) fun x11 =>
                  fM_layLikely_l64 u1 u2 k0_0 n0 m10 x11
                  )
                1000 m8 0
            else none
            )
          1000 m 0 1
      else none
theorem sM_layLikely_l64 {sh : Sh} {R : RR} (hF : Fx sh R) (u1 : Int32) (u2 : Int32) (k0_0 : MI → Int32 → Option (MI)) (hk0_0 : ∀ (m : MI) (v3 : Int32) , S (eV sh R) false 6 0 0 YX7_layLikely sh R m 204 [(0, .ref 61), (1, .int u1), (2, .int u2), (3, .int v3)] [] (k0_0 m v3)) : ∀ (n : Nat) (m : MI) (v3 : Int32) , S (eV sh R) false 6 0 0 YX7_layLikely sh R m 64 [(0, .ref 61), (1, .int u1), (2, .int u2), (3, .int v3)] [] (fM_layLikely_l64 u1 u2 k0_0 n m v3) := by
  intro n
  induction n with
  | zero => intros; exact S_none
  | succ n0 ih0 =>
    intro m v3
    rw [fM_layLikely_l64]
    refine o_iload_n (pc := 64) 3 dX7_layLikely_64 rfl rfl <| o_aload_n (pc := 65) 0 dX7_layLikely_65 rfl rfl <| o_getI (pc := 66) (ci := 7) (j := 0) (nn := 0) dX7_layLikely_66 (hF.1 _ _ rfl) rfl (Nat.le_of_ble_eq_true rfl) k_883 rfl <| ?_
    refine o_icmp_ge (pc := 69) (tgt := 204) dX7_layLikely_69 rfl (fun h1 => ?_) (fun h1 => ?_)
    · exact hk0_0 m v3
    · refine o_aload_n (pc := 72) 0 dX7_layLikely_72 rfl rfl <| o_getRc (pc := 73) (a := 66) (ci := 7) (j := 9) (nn := 0) dX7_layLikely_73 (hF.1 _ _ rfl) rfl (Nat.le_of_ble_eq_true rfl) k_892 rfl (hF.2 _ _ _ rfl) <| o_iload_n (pc := 76) 3 dX7_layLikely_76 rfl rfl <| ?_
      refine S_ck fun h2 => ?_
      refine o_iald (pc := 77) (nn := 6) dX7_layLikely_77 (hF.1 _ _ rfl) (ck_in h2) <| ?_
      refine o_lt fun x3 => ?_
      refine o_istore (pc := 78) (ls' := [(4, .int x3), (0, .ref 61), (1, .int u1), (2, .int u2), (3, .int v3)]) dX7_layLikely_78 (Nat.le_of_ble_eq_true rfl) rfl <| o_iconst (pc := 80) dX7_layLikely_80 lc_0 <| o_istore (pc := 81) (ls' := [(5, .int 0), (4, .int x3), (0, .ref 61), (1, .int u1), (2, .int u2), (3, .int v3)]) dX7_layLikely_81 (Nat.le_of_ble_eq_true rfl) rfl <| o_iconst (pc := 83) dX7_layLikely_83 lc_1 <| o_istore (pc := 84) (ls' := [(6, .int 1), (5, .int 0), (4, .int x3), (0, .ref 61), (1, .int u1), (2, .int u2), (3, .int v3)]) dX7_layLikely_84 (Nat.le_of_ble_eq_true rfl) rfl <| ?_
      refine o_sub [3, 4, 5, 6, 2, 1, 0] (ls' := [(0, .ref 61), (1, .int u1), (2, .int u2), (3, .int v3), (4, .int x3), (5, .int 0), (6, .int 1)]) rfl ?_
      refine sM_layLikely_l86 hF u1 u2 v3 x3 _ ?_ 1000 m 0 1
      · intro m6 z4 z5
        refine o_aload_n (pc := 147) 0 dX7_layLikely_147 rfl rfl <| o_getRc (pc := 148) (a := 77) (ci := 7) (j := 31) (nn := 0) dX7_layLikely_148 (hF.1 _ _ rfl) rfl (Nat.le_of_ble_eq_true rfl) k_914 rfl (hF.2 _ _ _ rfl) <| o_iload (pc := 151) 4 dX7_layLikely_151 rfl <| o_iload (pc := 153) 5 dX7_layLikely_153 rfl <| ?_
        refine S_ck fun h7 => ?_
        refine o_iast (pc := 155) (nn := 6) dX7_layLikely_155 (hF.1 _ _ rfl) (ck_in h7) <| ?_
        refine o_lm fun m8 => ?_
        refine o_iconst (pc := 156) dX7_layLikely_156 lc_0 <| o_istore (pc := 157) (ls' := [(6, .int 0), (0, .ref 61), (1, .int u1), (2, .int u2), (3, .int v3), (4, .int x3), (5, .int z4)]) dX7_layLikely_157 (Nat.le_of_ble_eq_true rfl) rfl <| ?_
        refine o_sub [1, 2, 3, 4, 5, 6, 0] (ls' := [(0, .ref 61), (1, .int u1), (2, .int u2), (3, .int v3), (4, .int x3), (5, .int z4), (6, .int 0)]) rfl ?_
        refine sM_layLikely_l159 hF u1 u2 v3 x3 z4 _ ?_ 1000 m8 0
        · intro m10 z9
          refine o_iinc (pc := 198) 3 (v := v3 + 1) (ls' := [(3, .int (v3 + 1)), (0, .ref 61), (1, .int u1), (2, .int u2), (4, .int x3), (5, .int z4), (6, .int z9)]) dX7_layLikely_198 rfl rfl (Nat.le_of_ble_eq_true rfl) rfl <| ?_
          refine o_ltL (ls := fun x11 => [(3, .int x11), (0, .ref 61), (1, .int u1), (2, .int u2), (4, .int x3), (5, .int z4), (6, .int z9)]) fun x11 => ?_
          refine o_goto (pc := 201) (tgt := 64) dX7_layLikely_201 rfl <| ?_
          refine o_sub [1, 2, 3, 0] (ls' := [(0, .ref 61), (1, .int u1), (2, .int u2), (3, .int x11)]) rfl ?_
          exact ih0 m10 x11
def fM_layLikely (m : MI) : Option (MI) :=
  (fM_wholeShorts m).bind fun r1 =>
  (fM_wholeLongs r1.2).bind fun r2 =>
  lt ((r1.1 + r2.1) + (r2.2.1 61 34)) fun x3 =>
  fM_layLikely_l19 r1.1 x3
    (fun m5 z4 =>
      lm (mI m5 78 (upd (m5.1 78) (0 : Int32).toNatClampNeg 0)) fun m6 =>
      lm (mI m6 78 (upd (m6.1 78) (4 : Int32).toNatClampNeg 0)) fun m7 =>
      fM_layLikely_l64 r1.1 x3
        (fun m9 z8 =>
          some m9
          )
        1000 m7 0
      )
    1000 r2.2 0
theorem sM_layLikely {sh : Sh} {R : RR} (hF : Fx sh R) (m : MI) : KS (eV sh R) false 6 0 0 YX7_layLikely sh R m [.ref 61] (fM_layLikely m ) := by
  refine KS_of pn_X7 (fun _ => Nat.le_of_ble_eq_true rfl) ?_
  change S _ _ _ _ _ _ _ _ _ _ [(0, .ref 61)] [] _
  unfold fM_layLikely
  refine o_aload_n (pc := 0) 0 dX7_layLikely_0 rfl rfl <| ?_
  refine o_callVI (Y2 := YX7_wholeShorts) (pc := 1) (av := []) (rest := []) dX7_layLikely_1 k_863 cm_X7_wholeShorts (sM_wholeShorts hF m ) (hF.1 _ _ rfl) rfl rfl (Nat.le_of_ble_eq_true rfl) (Nat.le_of_ble_eq_true rfl) fun r1 => ?_
  refine o_istore_n (pc := 4) (ls' := [(1, .int r1.1), (0, .ref 61)]) dX7_layLikely_4 rfl (Nat.le_of_ble_eq_true rfl) rfl <| o_iload_n (pc := 5) 0 dX7_layLikely_5 rfl rfl <| o_aload_n (pc := 6) 1 dX7_layLikely_6 rfl rfl <| ?_
  refine o_callVI (Y2 := YX7_wholeLongs) (pc := 7) (av := []) (rest := [.int r1.1]) dX7_layLikely_7 k_879 cm_X7_wholeLongs (sM_wholeLongs hF r1.2 ) (hF.1 _ _ rfl) rfl rfl (Nat.le_of_ble_eq_true rfl) (Nat.le_of_ble_eq_true rfl) fun r2 => ?_
  refine o_iadd (pc := 10) dX7_layLikely_10 <| o_aload_n (pc := 11) 1 dX7_layLikely_11 rfl rfl <| o_getI (pc := 12) (ci := 7) (j := 34) (nn := 0) dX7_layLikely_12 (hF.1 _ _ rfl) rfl (Nat.le_of_ble_eq_true rfl) k_917 rfl <| o_iadd (pc := 15) dX7_layLikely_15 <| ?_
  refine o_lt fun x3 => ?_
  refine o_istore_n (pc := 16) (ls' := [(2, .int x3), (1, .int r1.1), (0, .ref 61)]) dX7_layLikely_16 rfl (Nat.le_of_ble_eq_true rfl) rfl <| o_iconst (pc := 17) dX7_layLikely_17 lc_0 <| o_istore_n (pc := 18) (ls' := [(3, .int 0), (2, .int x3), (1, .int r1.1), (0, .ref 61)]) dX7_layLikely_18 rfl (Nat.le_of_ble_eq_true rfl) rfl <| ?_
  refine o_sub [3, 2, 1, 0] (ls' := [(0, .ref 61), (1, .int r1.1), (2, .int x3), (3, .int 0)]) rfl ?_
  refine sM_layLikely_l19 hF r1.1 x3 _ ?_ 1000 r2.2 0
  · intro m5 z4
    refine o_aload_n (pc := 48) 0 dX7_layLikely_48 rfl rfl <| o_getRc (pc := 49) (a := 78) (ci := 7) (j := 32) (nn := 0) dX7_layLikely_49 (hF.1 _ _ rfl) rfl (Nat.le_of_ble_eq_true rfl) k_915 rfl (hF.2 _ _ _ rfl) <| o_iconst (pc := 52) dX7_layLikely_52 lc_0 <| o_iconst (pc := 53) dX7_layLikely_53 lc_0 <| o_iast (pc := 54) (nn := 5) dX7_layLikely_54 (hF.1 _ _ rfl) (ck_in rfl) <| ?_
    refine o_lm fun m6 => ?_
    refine o_aload_n (pc := 55) 0 dX7_layLikely_55 rfl rfl <| o_getRc (pc := 56) (a := 78) (ci := 7) (j := 32) (nn := 0) dX7_layLikely_56 (hF.1 _ _ rfl) rfl (Nat.le_of_ble_eq_true rfl) k_915 rfl (hF.2 _ _ _ rfl) <| o_iconst (pc := 59) dX7_layLikely_59 lc_4 <| o_iconst (pc := 60) dX7_layLikely_60 lc_0 <| o_iast (pc := 61) (nn := 5) dX7_layLikely_61 (hF.1 _ _ rfl) (ck_in rfl) <| ?_
    refine o_lm fun m7 => ?_
    refine o_iconst (pc := 62) dX7_layLikely_62 lc_0 <| o_istore_n (pc := 63) (ls' := [(3, .int 0), (0, .ref 61), (1, .int r1.1), (2, .int x3)]) dX7_layLikely_63 rfl (Nat.le_of_ble_eq_true rfl) rfl <| ?_
    refine o_sub [1, 2, 3, 0] (ls' := [(0, .ref 61), (1, .int r1.1), (2, .int x3), (3, .int 0)]) rfl ?_
    refine sM_layLikely_l64 hF r1.1 x3 _ ?_ 1000 m7 0
    · intro m9 z8
      exact o_vret (pc := 204) dX7_layLikely_204 rfl rfl
def fM_likely (m : MI) (a : Int32) : Option (Int32 × MI) :=
  (fM_isDrawer m a).bind fun r1 =>
  if r1.1 = 0 then
    some (-1, r1.2)
  else
    (fM_layLikely r1.2).bind fun r3 =>
    if ck a 6 = true then
      some (r3.1 77 a.toNatClampNeg, r3)
    else none
theorem sM_likely {sh : Sh} {R : RR} (hF : Fx sh R) (m : MI) (a : Int32) : KS (eI sh R) false 7 0 0 YX7_likely sh R m [.ref 61, .int a] (fM_likely m a) := by
  refine KS_of pn_X7 (fun _ => Nat.le_of_ble_eq_true rfl) ?_
  change S _ _ _ _ _ _ _ _ _ _ [(0, .ref 61), (1, .int a)] [] _
  unfold fM_likely
  refine o_aload_n (pc := 0) 0 dX7_likely_0 rfl rfl <| o_iload_n (pc := 1) 1 dX7_likely_1 rfl rfl <| ?_
  refine o_callVI (Y2 := YX7_isDrawer) (pc := 2) (av := [.int a]) (rest := []) dX7_likely_2 k_1104 cm_X7_isDrawer (sM_isDrawer hF m a) (hF.1 _ _ rfl) rfl rfl (Nat.le_of_ble_eq_true rfl) (Nat.le_of_ble_eq_true rfl) fun r1 => ?_
  refine o_if_ne (pc := 5) (tgt := 10) dX7_likely_5 rfl (fun h2 => ?_) (fun h2 => ?_)
  · refine o_iconst (pc := 8) dX7_likely_8 lc_m1 <| ?_
    exact o_iret (pc := 9) dX7_likely_9 rfl rfl
  · refine o_aload_n (pc := 10) 0 dX7_likely_10 rfl rfl <| ?_
    refine o_callVV (Y2 := YX7_layLikely) (pc := 11) (av := []) (rest := []) dX7_likely_11 k_1252 cm_X7_layLikely (sM_layLikely hF r1.2 ) (hF.1 _ _ rfl) rfl rfl (Nat.le_of_ble_eq_true rfl) (Nat.le_of_ble_eq_true rfl) fun r3 => ?_
    refine o_aload_n (pc := 14) 0 dX7_likely_14 rfl rfl <| o_getRc (pc := 15) (a := 77) (ci := 7) (j := 31) (nn := 0) dX7_likely_15 (hF.1 _ _ rfl) rfl (Nat.le_of_ble_eq_true rfl) k_914 rfl (hF.2 _ _ _ rfl) <| o_iload_n (pc := 18) 1 dX7_likely_18 rfl rfl <| ?_
    refine S_ck fun h4 => ?_
    refine o_iald (pc := 19) (nn := 6) dX7_likely_19 (hF.1 _ _ rfl) (ck_in h4) <| ?_
    exact o_iret (pc := 20) dX7_likely_20 rfl rfl
def fM_evenNow_l12 (k0_0 : MI → Int32 → Int32 → Int32 → Option (Int32 × MI)) : Nat → MI → Int32 → Int32 → Int32 → Option (Int32 × MI)
  | 0, _, _, _, _ => none
  | n0 + 1, m, v1, v2, v3 =>
    if m.1 61 0 ≤ v3 then
      k0_0 m v1 v2 v3
    else
      if ck v3 6 = true then
        if v1 ≤ m.1 77 v3.toNatClampNeg then
          if ck v3 6 = true then
            if m.1 77 v3.toNatClampNeg ≤ v2 then
              lt (v3 + 1) fun x6 =>
              fM_evenNow_l12 k0_0 n0 m v1 v2 x6
            else
              if ck v3 6 = true then
                lt (m.1 77 v3.toNatClampNeg) fun x8 =>
                lt (v3 + 1) fun x9 =>
                fM_evenNow_l12 k0_0 n0 m v1 x8 x9
              else none
          else none
        else
          if ck v3 6 = true then
            lt (m.1 77 v3.toNatClampNeg) fun x11 =>
            if ck v3 6 = true then
              if m.1 77 v3.toNatClampNeg ≤ v2 then
                lt (v3 + 1) fun x14 =>
                fM_evenNow_l12 k0_0 n0 m x11 v2 x14
              else
                if ck v3 6 = true then
                  lt (m.1 77 v3.toNatClampNeg) fun x16 =>
                  lt (v3 + 1) fun x17 =>
                  fM_evenNow_l12 k0_0 n0 m x11 x16 x17
                else none
            else none
          else none
      else none
theorem sM_evenNow_l12 {sh : Sh} {R : RR} (hF : Fx sh R) (k0_0 : MI → Int32 → Int32 → Int32 → Option (Int32 × MI)) (hk0_0 : ∀ (m : MI) (v1 : Int32) (v2 : Int32) (v3 : Int32) , S (eI sh R) false 7 0 0 YX7_evenNow sh R m 68 [(0, .ref 61), (1, .int v1), (2, .int v2), (3, .int v3)] [] (k0_0 m v1 v2 v3)) : ∀ (n : Nat) (m : MI) (v1 : Int32) (v2 : Int32) (v3 : Int32) , S (eI sh R) false 7 0 0 YX7_evenNow sh R m 12 [(0, .ref 61), (1, .int v1), (2, .int v2), (3, .int v3)] [] (fM_evenNow_l12 k0_0 n m v1 v2 v3) := by
  intro n
  induction n with
  | zero => intros; exact S_none
  | succ n0 ih0 =>
    intro m v1 v2 v3
    rw [fM_evenNow_l12]
    refine o_iload_n (pc := 12) 3 dX7_evenNow_12 rfl rfl <| o_aload_n (pc := 13) 0 dX7_evenNow_13 rfl rfl <| o_getI (pc := 14) (ci := 7) (j := 0) (nn := 0) dX7_evenNow_14 (hF.1 _ _ rfl) rfl (Nat.le_of_ble_eq_true rfl) k_883 rfl <| ?_
    refine o_icmp_ge (pc := 17) (tgt := 68) dX7_evenNow_17 rfl (fun h1 => ?_) (fun h1 => ?_)
    · exact hk0_0 m v1 v2 v3
    · refine o_aload_n (pc := 20) 0 dX7_evenNow_20 rfl rfl <| o_getRc (pc := 21) (a := 77) (ci := 7) (j := 31) (nn := 0) dX7_evenNow_21 (hF.1 _ _ rfl) rfl (Nat.le_of_ble_eq_true rfl) k_914 rfl (hF.2 _ _ _ rfl) <| o_iload_n (pc := 24) 3 dX7_evenNow_24 rfl rfl <| ?_
      refine S_ck fun h2 => ?_
      refine o_iald (pc := 25) (nn := 6) dX7_evenNow_25 (hF.1 _ _ rfl) (ck_in h2) <| o_iload_n (pc := 26) 1 dX7_evenNow_26 rfl rfl <| ?_
      refine o_icmp_ge (pc := 27) (tgt := 39) dX7_evenNow_27 rfl (fun h3 => ?_) (fun h3 => ?_)
      · refine o_iload_n (pc := 39) 1 dX7_evenNow_39 rfl rfl <| o_istore_n (pc := 40) (ls' := [(1, .int v1), (0, .ref 61), (2, .int v2), (3, .int v3)]) dX7_evenNow_40 rfl (Nat.le_of_ble_eq_true rfl) rfl <| o_aload_n (pc := 41) 1 dX7_evenNow_41 rfl rfl <| o_getRc (pc := 42) (a := 77) (ci := 7) (j := 31) (nn := 0) dX7_evenNow_42 (hF.1 _ _ rfl) rfl (Nat.le_of_ble_eq_true rfl) k_914 rfl (hF.2 _ _ _ rfl) <| o_iload_n (pc := 45) 3 dX7_evenNow_45 rfl rfl <| ?_
        refine S_ck fun h4 => ?_
        refine o_iald (pc := 46) (nn := 6) dX7_evenNow_46 (hF.1 _ _ rfl) (ck_in h4) <| o_iload_n (pc := 47) 2 dX7_evenNow_47 rfl rfl <| ?_
        refine o_icmp_le (pc := 48) (tgt := 60) dX7_evenNow_48 rfl (fun h5 => ?_) (fun h5 => ?_)
        · refine o_iload_n (pc := 60) 2 dX7_evenNow_60 rfl rfl <| o_istore_n (pc := 61) (ls' := [(2, .int v2), (1, .int v1), (0, .ref 61), (3, .int v3)]) dX7_evenNow_61 rfl (Nat.le_of_ble_eq_true rfl) rfl <| o_iinc (pc := 62) 3 (v := v3 + 1) (ls' := [(3, .int (v3 + 1)), (2, .int v2), (1, .int v1), (0, .ref 61)]) dX7_evenNow_62 rfl rfl (Nat.le_of_ble_eq_true rfl) rfl <| ?_
          refine o_ltL (ls := fun x6 => [(3, .int x6), (2, .int v2), (1, .int v1), (0, .ref 61)]) fun x6 => ?_
          refine o_goto (pc := 65) (tgt := 12) dX7_evenNow_65 rfl <| ?_
          refine o_sub [3, 2, 1, 0] (ls' := [(0, .ref 61), (1, .int v1), (2, .int v2), (3, .int x6)]) rfl ?_
          exact ih0 m v1 v2 x6
        · refine o_aload_n (pc := 51) 1 dX7_evenNow_51 rfl rfl <| o_getRc (pc := 52) (a := 77) (ci := 7) (j := 31) (nn := 0) dX7_evenNow_52 (hF.1 _ _ rfl) rfl (Nat.le_of_ble_eq_true rfl) k_914 rfl (hF.2 _ _ _ rfl) <| o_iload_n (pc := 55) 3 dX7_evenNow_55 rfl rfl <| ?_
          refine S_ck fun h7 => ?_
          refine o_iald (pc := 56) (nn := 6) dX7_evenNow_56 (hF.1 _ _ rfl) (ck_in h7) <| o_goto (pc := 57) (tgt := 61) dX7_evenNow_57 rfl <| ?_
          refine o_lt fun x8 => ?_
          refine o_istore_n (pc := 61) (ls' := [(2, .int x8), (1, .int v1), (0, .ref 61), (3, .int v3)]) dX7_evenNow_61 rfl (Nat.le_of_ble_eq_true rfl) rfl <| o_iinc (pc := 62) 3 (v := v3 + 1) (ls' := [(3, .int (v3 + 1)), (2, .int x8), (1, .int v1), (0, .ref 61)]) dX7_evenNow_62 rfl rfl (Nat.le_of_ble_eq_true rfl) rfl <| ?_
          refine o_ltL (ls := fun x9 => [(3, .int x9), (2, .int x8), (1, .int v1), (0, .ref 61)]) fun x9 => ?_
          refine o_goto (pc := 65) (tgt := 12) dX7_evenNow_65 rfl <| ?_
          refine o_sub [3, 2, 1, 0] (ls' := [(0, .ref 61), (1, .int v1), (2, .int x8), (3, .int x9)]) rfl ?_
          exact ih0 m v1 x8 x9
      · refine o_aload_n (pc := 30) 0 dX7_evenNow_30 rfl rfl <| o_getRc (pc := 31) (a := 77) (ci := 7) (j := 31) (nn := 0) dX7_evenNow_31 (hF.1 _ _ rfl) rfl (Nat.le_of_ble_eq_true rfl) k_914 rfl (hF.2 _ _ _ rfl) <| o_iload_n (pc := 34) 3 dX7_evenNow_34 rfl rfl <| ?_
        refine S_ck fun h10 => ?_
        refine o_iald (pc := 35) (nn := 6) dX7_evenNow_35 (hF.1 _ _ rfl) (ck_in h10) <| o_goto (pc := 36) (tgt := 40) dX7_evenNow_36 rfl <| ?_
        refine o_lt fun x11 => ?_
        refine o_istore_n (pc := 40) (ls' := [(1, .int x11), (0, .ref 61), (2, .int v2), (3, .int v3)]) dX7_evenNow_40 rfl (Nat.le_of_ble_eq_true rfl) rfl <| o_aload_n (pc := 41) 1 dX7_evenNow_41 rfl rfl <| o_getRc (pc := 42) (a := 77) (ci := 7) (j := 31) (nn := 0) dX7_evenNow_42 (hF.1 _ _ rfl) rfl (Nat.le_of_ble_eq_true rfl) k_914 rfl (hF.2 _ _ _ rfl) <| o_iload_n (pc := 45) 3 dX7_evenNow_45 rfl rfl <| ?_
        refine S_ck fun h12 => ?_
        refine o_iald (pc := 46) (nn := 6) dX7_evenNow_46 (hF.1 _ _ rfl) (ck_in h12) <| o_iload_n (pc := 47) 2 dX7_evenNow_47 rfl rfl <| ?_
        refine o_icmp_le (pc := 48) (tgt := 60) dX7_evenNow_48 rfl (fun h13 => ?_) (fun h13 => ?_)
        · refine o_iload_n (pc := 60) 2 dX7_evenNow_60 rfl rfl <| o_istore_n (pc := 61) (ls' := [(2, .int v2), (1, .int x11), (0, .ref 61), (3, .int v3)]) dX7_evenNow_61 rfl (Nat.le_of_ble_eq_true rfl) rfl <| o_iinc (pc := 62) 3 (v := v3 + 1) (ls' := [(3, .int (v3 + 1)), (2, .int v2), (1, .int x11), (0, .ref 61)]) dX7_evenNow_62 rfl rfl (Nat.le_of_ble_eq_true rfl) rfl <| ?_
          refine o_ltL (ls := fun x14 => [(3, .int x14), (2, .int v2), (1, .int x11), (0, .ref 61)]) fun x14 => ?_
          refine o_goto (pc := 65) (tgt := 12) dX7_evenNow_65 rfl <| ?_
          refine o_sub [3, 2, 1, 0] (ls' := [(0, .ref 61), (1, .int x11), (2, .int v2), (3, .int x14)]) rfl ?_
          exact ih0 m x11 v2 x14
        · refine o_aload_n (pc := 51) 1 dX7_evenNow_51 rfl rfl <| o_getRc (pc := 52) (a := 77) (ci := 7) (j := 31) (nn := 0) dX7_evenNow_52 (hF.1 _ _ rfl) rfl (Nat.le_of_ble_eq_true rfl) k_914 rfl (hF.2 _ _ _ rfl) <| o_iload_n (pc := 55) 3 dX7_evenNow_55 rfl rfl <| ?_
          refine S_ck fun h15 => ?_
          refine o_iald (pc := 56) (nn := 6) dX7_evenNow_56 (hF.1 _ _ rfl) (ck_in h15) <| o_goto (pc := 57) (tgt := 61) dX7_evenNow_57 rfl <| ?_
          refine o_lt fun x16 => ?_
          refine o_istore_n (pc := 61) (ls' := [(2, .int x16), (1, .int x11), (0, .ref 61), (3, .int v3)]) dX7_evenNow_61 rfl (Nat.le_of_ble_eq_true rfl) rfl <| o_iinc (pc := 62) 3 (v := v3 + 1) (ls' := [(3, .int (v3 + 1)), (2, .int x16), (1, .int x11), (0, .ref 61)]) dX7_evenNow_62 rfl rfl (Nat.le_of_ble_eq_true rfl) rfl <| ?_
          refine o_ltL (ls := fun x17 => [(3, .int x17), (2, .int x16), (1, .int x11), (0, .ref 61)]) fun x17 => ?_
          refine o_goto (pc := 65) (tgt := 12) dX7_evenNow_65 rfl <| ?_
          refine o_sub [3, 2, 1, 0] (ls' := [(0, .ref 61), (1, .int x11), (2, .int x16), (3, .int x17)]) rfl ?_
          exact ih0 m x11 x16 x17
def fM_evenNow (m : MI) : Option (Int32 × MI) :=
  (fM_layLikely m).bind fun r1 =>
  fM_evenNow_l12 
    (fun m5 z2 z3 z4 =>
      some (z3 - z2, m5)
      )
    1000 r1 1000000 0 0
theorem sM_evenNow {sh : Sh} {R : RR} (hF : Fx sh R) (m : MI) : KS (eI sh R) false 7 0 0 YX7_evenNow sh R m [.ref 61] (fM_evenNow m ) := by
  refine KS_of pn_X7 (fun _ => Nat.le_of_ble_eq_true rfl) ?_
  change S _ _ _ _ _ _ _ _ _ _ [(0, .ref 61)] [] _
  unfold fM_evenNow
  refine o_aload_n (pc := 0) 0 dX7_evenNow_0 rfl rfl <| ?_
  refine o_callVV (Y2 := YX7_layLikely) (pc := 1) (av := []) (rest := []) dX7_evenNow_1 k_1252 cm_X7_layLikely (sM_layLikely hF m ) (hF.1 _ _ rfl) rfl rfl (Nat.le_of_ble_eq_true rfl) (Nat.le_of_ble_eq_true rfl) fun r1 => ?_
  refine o_ldcw (pc := 4) dX7_evenNow_4 k_1224 <| o_istore_n (pc := 7) (ls' := [(1, .int 1000000), (0, .ref 61)]) dX7_evenNow_7 rfl (Nat.le_of_ble_eq_true rfl) rfl <| o_iconst (pc := 8) dX7_evenNow_8 lc_0 <| o_istore_n (pc := 9) (ls' := [(2, .int 0), (1, .int 1000000), (0, .ref 61)]) dX7_evenNow_9 rfl (Nat.le_of_ble_eq_true rfl) rfl <| o_iconst (pc := 10) dX7_evenNow_10 lc_0 <| o_istore_n (pc := 11) (ls' := [(3, .int 0), (2, .int 0), (1, .int 1000000), (0, .ref 61)]) dX7_evenNow_11 rfl (Nat.le_of_ble_eq_true rfl) rfl <| ?_
  refine o_sub [3, 2, 1, 0] (ls' := [(0, .ref 61), (1, .int 1000000), (2, .int 0), (3, .int 0)]) rfl ?_
  refine sM_evenNow_l12 hF  _ ?_ 1000 r1 1000000 0 0
  · intro m5 z2 z3 z4
    refine o_iload_n (pc := 68) 2 dX7_evenNow_68 rfl rfl <| o_iload_n (pc := 69) 1 dX7_evenNow_69 rfl rfl <| o_isub (pc := 70) dX7_evenNow_70 <| ?_
    exact o_iret (pc := 71) dX7_evenNow_71 rfl rfl
def fM_even (m : MI) : Option (Int32 × MI) :=
  if m.1 61 0 = 0 then
    some (-5, m)
  else
    (fM_evenNow m).bind fun r2 =>
    some (r2.1, r2.2)
theorem sM_even {sh : Sh} {R : RR} (hF : Fx sh R) (m : MI) : KS (eI sh R) false 8 0 0 YX7_even sh R m [.ref 61] (fM_even m ) := by
  refine KS_of pn_X7 (fun _ => Nat.le_of_ble_eq_true rfl) ?_
  change S _ _ _ _ _ _ _ _ _ _ [(0, .ref 61)] [] _
  unfold fM_even
  refine o_aload_n (pc := 0) 0 dX7_even_0 rfl rfl <| o_getI (pc := 1) (ci := 7) (j := 0) (nn := 0) dX7_even_1 (hF.1 _ _ rfl) rfl (Nat.le_of_ble_eq_true rfl) k_883 rfl <| ?_
  refine o_if_ne (pc := 4) (tgt := 12) dX7_even_4 rfl (fun h1 => ?_) (fun h1 => ?_)
  · refine o_bipush (pc := 7) dX7_even_7 lb_m5 <| o_goto (pc := 9) (tgt := 16) dX7_even_9 rfl <| ?_
    exact o_iret (pc := 16) dX7_even_16 rfl rfl
  · refine o_aload_n (pc := 12) 0 dX7_even_12 rfl rfl <| ?_
    refine o_callVI (Y2 := YX7_evenNow) (pc := 13) (av := []) (rest := []) dX7_even_13 k_1260 cm_X7_evenNow (sM_evenNow hF m ) (hF.1 _ _ rfl) rfl rfl (Nat.le_of_ble_eq_true rfl) (Nat.le_of_ble_eq_true rfl) fun r2 => ?_
    exact o_iret (pc := 16) dX7_even_16 rfl rfl
def fM_keepOrder_l2 (k0_0 : MI → Int32 → Option (MI)) : Nat → MI → Int32 → Option (MI)
  | 0, _, _ => none
  | n0 + 1, m, v1 =>
    if 6 ≤ v1 then
      k0_0 m v1
    else
      if ck v1 6 = true then
        if ck v1 6 = true then
          lm (mI m 80 (upd (m.1 80) v1.toNatClampNeg (m.1 66 v1.toNatClampNeg))) fun m4 =>
          lt (v1 + 1) fun x5 =>
          fM_keepOrder_l2 k0_0 n0 m4 x5
        else none
      else none
theorem sM_keepOrder_l2 {sh : Sh} {R : RR} (hF : Fx sh R) (k0_0 : MI → Int32 → Option (MI)) (hk0_0 : ∀ (m : MI) (v1 : Int32) , S (eV sh R) false 0 0 0 YX7_keepOrder sh R m 26 [(0, .ref 61), (1, .int v1)] [] (k0_0 m v1)) : ∀ (n : Nat) (m : MI) (v1 : Int32) , S (eV sh R) false 0 0 0 YX7_keepOrder sh R m 2 [(0, .ref 61), (1, .int v1)] [] (fM_keepOrder_l2 k0_0 n m v1) := by
  intro n
  induction n with
  | zero => intros; exact S_none
  | succ n0 ih0 =>
    intro m v1
    rw [fM_keepOrder_l2]
    refine o_iload_n (pc := 2) 1 dX7_keepOrder_2 rfl rfl <| o_bipush (pc := 3) dX7_keepOrder_3 lb_6 <| ?_
    refine o_icmp_ge (pc := 5) (tgt := 26) dX7_keepOrder_5 rfl (fun h1 => ?_) (fun h1 => ?_)
    · exact hk0_0 m v1
    · refine o_aload_n (pc := 8) 0 dX7_keepOrder_8 rfl rfl <| o_getRc (pc := 9) (a := 80) (ci := 7) (j := 35) (nn := 0) dX7_keepOrder_9 (hF.1 _ _ rfl) rfl (Nat.le_of_ble_eq_true rfl) k_918 rfl (hF.2 _ _ _ rfl) <| o_iload_n (pc := 12) 1 dX7_keepOrder_12 rfl rfl <| o_aload_n (pc := 13) 0 dX7_keepOrder_13 rfl rfl <| o_getRc (pc := 14) (a := 66) (ci := 7) (j := 9) (nn := 0) dX7_keepOrder_14 (hF.1 _ _ rfl) rfl (Nat.le_of_ble_eq_true rfl) k_892 rfl (hF.2 _ _ _ rfl) <| o_iload_n (pc := 17) 1 dX7_keepOrder_17 rfl rfl <| ?_
      refine S_ck fun h2 => ?_
      refine o_iald (pc := 18) (nn := 6) dX7_keepOrder_18 (hF.1 _ _ rfl) (ck_in h2) <| ?_
      refine S_ck fun h3 => ?_
      refine o_iast (pc := 19) (nn := 6) dX7_keepOrder_19 (hF.1 _ _ rfl) (ck_in h3) <| ?_
      refine o_lm fun m4 => ?_
      refine o_iinc (pc := 20) 1 (v := v1 + 1) (ls' := [(1, .int (v1 + 1)), (0, .ref 61)]) dX7_keepOrder_20 rfl rfl (Nat.le_of_ble_eq_true rfl) rfl <| ?_
      refine o_ltL (ls := fun x5 => [(1, .int x5), (0, .ref 61)]) fun x5 => ?_
      refine o_goto (pc := 23) (tgt := 2) dX7_keepOrder_23 rfl <| ?_
      refine o_sub [1, 0] (ls' := [(0, .ref 61), (1, .int x5)]) rfl ?_
      exact ih0 m4 x5
def fM_keepOrder (m : MI) : Option (MI) :=
  fM_keepOrder_l2 
    (fun m2 z1 =>
      some m2
      )
    1000 m 0
theorem sM_keepOrder {sh : Sh} {R : RR} (hF : Fx sh R) (m : MI) : KS (eV sh R) false 0 0 0 YX7_keepOrder sh R m [.ref 61] (fM_keepOrder m ) := by
  refine KS_of pn_X7 (fun _ => Nat.le_of_ble_eq_true rfl) ?_
  change S _ _ _ _ _ _ _ _ _ _ [(0, .ref 61)] [] _
  unfold fM_keepOrder
  refine o_iconst (pc := 0) dX7_keepOrder_0 lc_0 <| o_istore_n (pc := 1) (ls' := [(1, .int 0), (0, .ref 61)]) dX7_keepOrder_1 rfl (Nat.le_of_ble_eq_true rfl) rfl <| ?_
  refine o_sub [1, 0] (ls' := [(0, .ref 61), (1, .int 0)]) rfl ?_
  refine sM_keepOrder_l2 hF  _ ?_ 1000 m 0
  · intro m2 z1
    exact o_vret (pc := 26) dX7_keepOrder_26 rfl rfl
def fM_putOrder_l2 (k0_0 : MI → Int32 → Option (MI)) : Nat → MI → Int32 → Option (MI)
  | 0, _, _ => none
  | n0 + 1, m, v1 =>
    if 6 ≤ v1 then
      k0_0 m v1
    else
      if ck v1 6 = true then
        if ck v1 6 = true then
          lm (mI m 66 (upd (m.1 66) v1.toNatClampNeg (m.1 80 v1.toNatClampNeg))) fun m4 =>
          lt (v1 + 1) fun x5 =>
          fM_putOrder_l2 k0_0 n0 m4 x5
        else none
      else none
theorem sM_putOrder_l2 {sh : Sh} {R : RR} (hF : Fx sh R) (k0_0 : MI → Int32 → Option (MI)) (hk0_0 : ∀ (m : MI) (v1 : Int32) , S (eV sh R) false 0 0 0 YX7_putOrder sh R m 26 [(0, .ref 61), (1, .int v1)] [] (k0_0 m v1)) : ∀ (n : Nat) (m : MI) (v1 : Int32) , S (eV sh R) false 0 0 0 YX7_putOrder sh R m 2 [(0, .ref 61), (1, .int v1)] [] (fM_putOrder_l2 k0_0 n m v1) := by
  intro n
  induction n with
  | zero => intros; exact S_none
  | succ n0 ih0 =>
    intro m v1
    rw [fM_putOrder_l2]
    refine o_iload_n (pc := 2) 1 dX7_putOrder_2 rfl rfl <| o_bipush (pc := 3) dX7_putOrder_3 lb_6 <| ?_
    refine o_icmp_ge (pc := 5) (tgt := 26) dX7_putOrder_5 rfl (fun h1 => ?_) (fun h1 => ?_)
    · exact hk0_0 m v1
    · refine o_aload_n (pc := 8) 0 dX7_putOrder_8 rfl rfl <| o_getRc (pc := 9) (a := 66) (ci := 7) (j := 9) (nn := 0) dX7_putOrder_9 (hF.1 _ _ rfl) rfl (Nat.le_of_ble_eq_true rfl) k_892 rfl (hF.2 _ _ _ rfl) <| o_iload_n (pc := 12) 1 dX7_putOrder_12 rfl rfl <| o_aload_n (pc := 13) 0 dX7_putOrder_13 rfl rfl <| o_getRc (pc := 14) (a := 80) (ci := 7) (j := 35) (nn := 0) dX7_putOrder_14 (hF.1 _ _ rfl) rfl (Nat.le_of_ble_eq_true rfl) k_918 rfl (hF.2 _ _ _ rfl) <| o_iload_n (pc := 17) 1 dX7_putOrder_17 rfl rfl <| ?_
      refine S_ck fun h2 => ?_
      refine o_iald (pc := 18) (nn := 6) dX7_putOrder_18 (hF.1 _ _ rfl) (ck_in h2) <| ?_
      refine S_ck fun h3 => ?_
      refine o_iast (pc := 19) (nn := 6) dX7_putOrder_19 (hF.1 _ _ rfl) (ck_in h3) <| ?_
      refine o_lm fun m4 => ?_
      refine o_iinc (pc := 20) 1 (v := v1 + 1) (ls' := [(1, .int (v1 + 1)), (0, .ref 61)]) dX7_putOrder_20 rfl rfl (Nat.le_of_ble_eq_true rfl) rfl <| ?_
      refine o_ltL (ls := fun x5 => [(1, .int x5), (0, .ref 61)]) fun x5 => ?_
      refine o_goto (pc := 23) (tgt := 2) dX7_putOrder_23 rfl <| ?_
      refine o_sub [1, 0] (ls' := [(0, .ref 61), (1, .int x5)]) rfl ?_
      exact ih0 m4 x5
def fM_putOrder (m : MI) : Option (MI) :=
  fM_putOrder_l2 
    (fun m2 z1 =>
      some m2
      )
    1000 m 0
theorem sM_putOrder {sh : Sh} {R : RR} (hF : Fx sh R) (m : MI) : KS (eV sh R) false 0 0 0 YX7_putOrder sh R m [.ref 61] (fM_putOrder m ) := by
  refine KS_of pn_X7 (fun _ => Nat.le_of_ble_eq_true rfl) ?_
  change S _ _ _ _ _ _ _ _ _ _ [(0, .ref 61)] [] _
  unfold fM_putOrder
  refine o_iconst (pc := 0) dX7_putOrder_0 lc_0 <| o_istore_n (pc := 1) (ls' := [(1, .int 0), (0, .ref 61)]) dX7_putOrder_1 rfl (Nat.le_of_ble_eq_true rfl) rfl <| ?_
  refine o_sub [1, 0] (ls' := [(0, .ref 61), (1, .int 0)]) rfl ?_
  refine sM_putOrder_l2 hF  _ ?_ 1000 m 0
  · intro m2 z1
    exact o_vret (pc := 26) dX7_putOrder_26 rfl rfl
def fM_layOrder_l4 (u1 : Int32) (k0_0 : MI → Int32 → Int32 → Option (Int32 × MI)) : Nat → MI → Int32 → Int32 → Option (Int32 × MI)
  | 0, _, _, _ => none
  | n0 + 1, m, v2, v3 =>
    if m.1 61 0 < v3 then
      k0_0 m v2 v3
    else
      lt (v2 * v3) fun x2 =>
      lt (v3 + 1) fun x3 =>
      fM_layOrder_l4 u1 k0_0 n0 m x2 x3
theorem sM_layOrder_l4 {sh : Sh} {R : RR} (hF : Fx sh R) (u1 : Int32) (k0_0 : MI → Int32 → Int32 → Option (Int32 × MI)) (hk0_0 : ∀ (m : MI) (v2 : Int32) (v3 : Int32) , S (eI sh R) false 1 0 0 YX7_layOrder sh R m 22 [(0, .ref 61), (1, .int u1), (2, .int v2), (3, .int v3)] [] (k0_0 m v2 v3)) : ∀ (n : Nat) (m : MI) (v2 : Int32) (v3 : Int32) , S (eI sh R) false 1 0 0 YX7_layOrder sh R m 4 [(0, .ref 61), (1, .int u1), (2, .int v2), (3, .int v3)] [] (fM_layOrder_l4 u1 k0_0 n m v2 v3) := by
  intro n
  induction n with
  | zero => intros; exact S_none
  | succ n0 ih0 =>
    intro m v2 v3
    rw [fM_layOrder_l4]
    refine o_iload_n (pc := 4) 3 dX7_layOrder_4 rfl rfl <| o_aload_n (pc := 5) 0 dX7_layOrder_5 rfl rfl <| o_getI (pc := 6) (ci := 7) (j := 0) (nn := 0) dX7_layOrder_6 (hF.1 _ _ rfl) rfl (Nat.le_of_ble_eq_true rfl) k_883 rfl <| ?_
    refine o_icmp_gt (pc := 9) (tgt := 22) dX7_layOrder_9 rfl (fun h1 => ?_) (fun h1 => ?_)
    · exact hk0_0 m v2 v3
    · refine o_iload_n (pc := 12) 2 dX7_layOrder_12 rfl rfl <| o_iload_n (pc := 13) 3 dX7_layOrder_13 rfl rfl <| o_imul (pc := 14) dX7_layOrder_14 <| ?_
      refine o_lt fun x2 => ?_
      refine o_istore_n (pc := 15) (ls' := [(2, .int x2), (0, .ref 61), (1, .int u1), (3, .int v3)]) dX7_layOrder_15 rfl (Nat.le_of_ble_eq_true rfl) rfl <| o_iinc (pc := 16) 3 (v := v3 + 1) (ls' := [(3, .int (v3 + 1)), (2, .int x2), (0, .ref 61), (1, .int u1)]) dX7_layOrder_16 rfl rfl (Nat.le_of_ble_eq_true rfl) rfl <| ?_
      refine o_ltL (ls := fun x3 => [(3, .int x3), (2, .int x2), (0, .ref 61), (1, .int u1)]) fun x3 => ?_
      refine o_goto (pc := 19) (tgt := 4) dX7_layOrder_19 rfl <| ?_
      refine o_sub [2, 3, 1, 0] (ls' := [(0, .ref 61), (1, .int u1), (2, .int x2), (3, .int x3)]) rfl ?_
      exact ih0 m x2 x3
def fM_layOrder_l78 (u1 : Int32) (u2 : Int32) (u3 : Int32) (u4 : Int32) (u5 : Int32) (k1_0 : MI → Int32 → Int32 → Option (Int32 × MI)) : Nat → MI → Int32 → Int32 → Option (Int32 × MI)
  | 0, _, _, _ => none
  | n1 + 1, m, v6, v7 =>
    (fM_has m u3 v7).bind fun r1 =>
    if r1.1 = 0 then
      (fM_has r1.2 u3 v7).bind fun r3 =>
      if r3.1 = 0 then
        lt (v6 - 0) fun x5 =>
        lt (v7 + 1) fun x6 =>
        fM_layOrder_l78 u1 u2 u3 u4 u5 k1_0 n1 r3.2 x5 x6
      else
        lt (v6 - 1) fun x7 =>
        lt (v7 + 1) fun x8 =>
        fM_layOrder_l78 u1 u2 u3 u4 u5 k1_0 n1 r3.2 x7 x8
    else
      if v6 ≤ 0 then
        k1_0 r1.2 v6 v7
      else
        (fM_has r1.2 u3 v7).bind fun r10 =>
        if r10.1 = 0 then
          lt (v6 - 0) fun x12 =>
          lt (v7 + 1) fun x13 =>
          fM_layOrder_l78 u1 u2 u3 u4 u5 k1_0 n1 r10.2 x12 x13
        else
          lt (v6 - 1) fun x14 =>
          lt (v7 + 1) fun x15 =>
          fM_layOrder_l78 u1 u2 u3 u4 u5 k1_0 n1 r10.2 x14 x15
theorem sM_layOrder_l78 {sh : Sh} {R : RR} (hF : Fx sh R) (u1 : Int32) (u2 : Int32) (u3 : Int32) (u4 : Int32) (u5 : Int32) (k1_0 : MI → Int32 → Int32 → Option (Int32 × MI)) (hk1_0 : ∀ (m : MI) (v6 : Int32) (v7 : Int32) , S (eI sh R) false 1 0 0 YX7_layOrder sh R m 119 [(0, .ref 61), (1, .int u1), (2, .int u2), (3, .int u3), (4, .int u4), (5, .int u5), (6, .int v6), (7, .int v7)] [] (k1_0 m v6 v7)) : ∀ (n : Nat) (m : MI) (v6 : Int32) (v7 : Int32) , S (eI sh R) false 1 0 0 YX7_layOrder sh R m 78 [(0, .ref 61), (1, .int u1), (2, .int u2), (3, .int u3), (4, .int u4), (5, .int u5), (6, .int v6), (7, .int v7)] [] (fM_layOrder_l78 u1 u2 u3 u4 u5 k1_0 n m v6 v7) := by
  intro n
  induction n with
  | zero => intros; exact S_none
  | succ n1 ih1 =>
    intro m v6 v7
    rw [fM_layOrder_l78]
    refine o_aload_n (pc := 78) 0 dX7_layOrder_78 rfl rfl <| o_iload_n (pc := 79) 3 dX7_layOrder_79 rfl rfl <| o_iload (pc := 80) 7 dX7_layOrder_80 rfl <| ?_
    refine o_callVI (Y2 := YX7_has) (pc := 82) (av := [.int u3, .int v7]) (rest := []) dX7_layOrder_82 k_1277 cm_X7_has (sM_has hF m u3 v7) (hF.1 _ _ rfl) rfl rfl (Nat.le_of_ble_eq_true rfl) (Nat.le_of_ble_eq_true rfl) fun r1 => ?_
    refine o_if_eq (pc := 85) (tgt := 93) dX7_layOrder_85 rfl (fun h2 => ?_) (fun h2 => ?_)
    · refine o_iload (pc := 93) 6 dX7_layOrder_93 rfl <| o_aload_n (pc := 95) 0 dX7_layOrder_95 rfl rfl <| o_iload_n (pc := 96) 3 dX7_layOrder_96 rfl rfl <| o_iload (pc := 97) 7 dX7_layOrder_97 rfl <| ?_
      refine o_callVI (Y2 := YX7_has) (pc := 99) (av := [.int u3, .int v7]) (rest := [.int v6]) dX7_layOrder_99 k_1277 cm_X7_has (sM_has hF r1.2 u3 v7) (hF.1 _ _ rfl) rfl rfl (Nat.le_of_ble_eq_true rfl) (Nat.le_of_ble_eq_true rfl) fun r3 => ?_
      refine o_if_eq (pc := 102) (tgt := 109) dX7_layOrder_102 rfl (fun h4 => ?_) (fun h4 => ?_)
      · refine o_iconst (pc := 109) dX7_layOrder_109 lc_0 <| o_isub (pc := 110) dX7_layOrder_110 <| ?_
        refine o_lt fun x5 => ?_
        refine o_istore (pc := 111) (ls' := [(6, .int x5), (0, .ref 61), (1, .int u1), (2, .int u2), (3, .int u3), (4, .int u4), (5, .int u5), (7, .int v7)]) dX7_layOrder_111 (Nat.le_of_ble_eq_true rfl) rfl <| o_iinc (pc := 113) 7 (v := v7 + 1) (ls' := [(7, .int (v7 + 1)), (6, .int x5), (0, .ref 61), (1, .int u1), (2, .int u2), (3, .int u3), (4, .int u4), (5, .int u5)]) dX7_layOrder_113 rfl rfl (Nat.le_of_ble_eq_true rfl) rfl <| ?_
        refine o_ltL (ls := fun x6 => [(7, .int x6), (6, .int x5), (0, .ref 61), (1, .int u1), (2, .int u2), (3, .int u3), (4, .int u4), (5, .int u5)]) fun x6 => ?_
        refine o_goto (pc := 116) (tgt := 78) dX7_layOrder_116 rfl <| ?_
        refine o_sub [2, 3, 4, 5, 6, 7, 1, 0] (ls' := [(0, .ref 61), (1, .int u1), (2, .int u2), (3, .int u3), (4, .int u4), (5, .int u5), (6, .int x5), (7, .int x6)]) rfl ?_
        exact ih1 r3.2 x5 x6
      · refine o_iconst (pc := 105) dX7_layOrder_105 lc_1 <| o_goto (pc := 106) (tgt := 110) dX7_layOrder_106 rfl <| o_isub (pc := 110) dX7_layOrder_110 <| ?_
        refine o_lt fun x7 => ?_
        refine o_istore (pc := 111) (ls' := [(6, .int x7), (0, .ref 61), (1, .int u1), (2, .int u2), (3, .int u3), (4, .int u4), (5, .int u5), (7, .int v7)]) dX7_layOrder_111 (Nat.le_of_ble_eq_true rfl) rfl <| o_iinc (pc := 113) 7 (v := v7 + 1) (ls' := [(7, .int (v7 + 1)), (6, .int x7), (0, .ref 61), (1, .int u1), (2, .int u2), (3, .int u3), (4, .int u4), (5, .int u5)]) dX7_layOrder_113 rfl rfl (Nat.le_of_ble_eq_true rfl) rfl <| ?_
        refine o_ltL (ls := fun x8 => [(7, .int x8), (6, .int x7), (0, .ref 61), (1, .int u1), (2, .int u2), (3, .int u3), (4, .int u4), (5, .int u5)]) fun x8 => ?_
        refine o_goto (pc := 116) (tgt := 78) dX7_layOrder_116 rfl <| ?_
        refine o_sub [2, 3, 4, 5, 6, 7, 1, 0] (ls' := [(0, .ref 61), (1, .int u1), (2, .int u2), (3, .int u3), (4, .int u4), (5, .int u5), (6, .int x7), (7, .int x8)]) rfl ?_
        exact ih1 r3.2 x7 x8
    · refine o_iload (pc := 88) 6 dX7_layOrder_88 rfl <| ?_
      refine o_if_le (pc := 90) (tgt := 119) dX7_layOrder_90 rfl (fun h9 => ?_) (fun h9 => ?_)
      · exact hk1_0 r1.2 v6 v7
      · refine o_iload (pc := 93) 6 dX7_layOrder_93 rfl <| o_aload_n (pc := 95) 0 dX7_layOrder_95 rfl rfl <| o_iload_n (pc := 96) 3 dX7_layOrder_96 rfl rfl <| o_iload (pc := 97) 7 dX7_layOrder_97 rfl <| ?_
        refine o_callVI (Y2 := YX7_has) (pc := 99) (av := [.int u3, .int v7]) (rest := [.int v6]) dX7_layOrder_99 k_1277 cm_X7_has (sM_has hF r1.2 u3 v7) (hF.1 _ _ rfl) rfl rfl (Nat.le_of_ble_eq_true rfl) (Nat.le_of_ble_eq_true rfl) fun r10 => ?_
        refine o_if_eq (pc := 102) (tgt := 109) dX7_layOrder_102 rfl (fun h11 => ?_) (fun h11 => ?_)
        · refine o_iconst (pc := 109) dX7_layOrder_109 lc_0 <| o_isub (pc := 110) dX7_layOrder_110 <| ?_
          refine o_lt fun x12 => ?_
          refine o_istore (pc := 111) (ls' := [(6, .int x12), (0, .ref 61), (1, .int u1), (2, .int u2), (3, .int u3), (4, .int u4), (5, .int u5), (7, .int v7)]) dX7_layOrder_111 (Nat.le_of_ble_eq_true rfl) rfl <| o_iinc (pc := 113) 7 (v := v7 + 1) (ls' := [(7, .int (v7 + 1)), (6, .int x12), (0, .ref 61), (1, .int u1), (2, .int u2), (3, .int u3), (4, .int u4), (5, .int u5)]) dX7_layOrder_113 rfl rfl (Nat.le_of_ble_eq_true rfl) rfl <| ?_
          refine o_ltL (ls := fun x13 => [(7, .int x13), (6, .int x12), (0, .ref 61), (1, .int u1), (2, .int u2), (3, .int u3), (4, .int u4), (5, .int u5)]) fun x13 => ?_
          refine o_goto (pc := 116) (tgt := 78) dX7_layOrder_116 rfl <| ?_
          refine o_sub [2, 3, 4, 5, 6, 7, 1, 0] (ls' := [(0, .ref 61), (1, .int u1), (2, .int u2), (3, .int u3), (4, .int u4), (5, .int u5), (6, .int x12), (7, .int x13)]) rfl ?_
          exact ih1 r10.2 x12 x13
        · refine o_iconst (pc := 105) dX7_layOrder_105 lc_1 <| o_goto (pc := 106) (tgt := 110) dX7_layOrder_106 rfl <| o_isub (pc := 110) dX7_layOrder_110 <| ?_
          refine o_lt fun x14 => ?_
          refine o_istore (pc := 111) (ls' := [(6, .int x14), (0, .ref 61), (1, .int u1), (2, .int u2), (3, .int u3), (4, .int u4), (5, .int u5), (7, .int v7)]) dX7_layOrder_111 (Nat.le_of_ble_eq_true rfl) rfl <| o_iinc (pc := 113) 7 (v := v7 + 1) (ls' := [(7, .int (v7 + 1)), (6, .int x14), (0, .ref 61), (1, .int u1), (2, .int u2), (3, .int u3), (4, .int u4), (5, .int u5)]) dX7_layOrder_113 rfl rfl (Nat.le_of_ble_eq_true rfl) rfl <| ?_
          refine o_ltL (ls := fun x15 => [(7, .int x15), (6, .int x14), (0, .ref 61), (1, .int u1), (2, .int u2), (3, .int u3), (4, .int u4), (5, .int u5)]) fun x15 => ?_
          refine o_goto (pc := 116) (tgt := 78) dX7_layOrder_116 rfl <| ?_
          refine o_sub [2, 3, 4, 5, 6, 7, 1, 0] (ls' := [(0, .ref 61), (1, .int u1), (2, .int u2), (3, .int u3), (4, .int u4), (5, .int u5), (6, .int x14), (7, .int x15)]) rfl ?_
          exact ih1 r10.2 x14 x15
def fM_layOrder_l44 (u1 : Int32) (k0_0 : MI → Int32 → Int32 → Int32 → Int32 → Option (Int32 × MI)) : Nat → MI → Int32 → Int32 → Int32 → Int32 → Option (Int32 × MI)
  | 0, _, _, _, _, _ => none
  | n0 + 1, m, v2, v3, v4, v5 =>
    if m.1 61 0 ≤ v5 then
      k0_0 m v2 v3 v4 v5
    else
      if ¬ ((m.1 61 0) - v5 = 0) then
        lt (v2 / ((m.1 61 0) - v5)) fun x3 =>
        if ¬ (x3 = 0) then
          lt (v4 / x3) fun x5 =>
          if ¬ (x3 = 0) then
            lt (v4 - v4 / x3 * x3) fun x7 =>
            fM_layOrder_l78 u1 x3 v3 x7 v5
              (fun m10 z8 z9 =>
                if ck v5 6 = true then
                  lm (mI m10 66 (upd (m10.1 66) v5.toNatClampNeg z9)) fun m12 =>
                  lt (v3 &&& (((1 : Int32) <<< (z9 &&& 31)) ^^^ (-1 : Int32))) fun x13 =>
                  lt (v5 + 1) fun x14 =>
                  fM_layOrder_l44 u1 k0_0 n0 m12 x3 x13 x7 x14
                else none
                )
              1000 m x5 0
          else none
        else none
      else none
theorem sM_layOrder_l44 {sh : Sh} {R : RR} (hF : Fx sh R) (u1 : Int32) (k0_0 : MI → Int32 → Int32 → Int32 → Int32 → Option (Int32 × MI)) (hk0_0 : ∀ (m : MI) (v2 : Int32) (v3 : Int32) (v4 : Int32) (v5 : Int32) , S (eI sh R) false 1 0 0 YX7_layOrder sh R m 143 [(0, .ref 61), (1, .int u1), (2, .int v2), (3, .int v3), (4, .int v4), (5, .int v5)] [] (k0_0 m v2 v3 v4 v5)) : ∀ (n : Nat) (m : MI) (v2 : Int32) (v3 : Int32) (v4 : Int32) (v5 : Int32) , S (eI sh R) false 1 0 0 YX7_layOrder sh R m 44 [(0, .ref 61), (1, .int u1), (2, .int v2), (3, .int v3), (4, .int v4), (5, .int v5)] [] (fM_layOrder_l44 u1 k0_0 n m v2 v3 v4 v5) := by
  intro n
  induction n with
  | zero => intros; exact S_none
  | succ n0 ih0 =>
    intro m v2 v3 v4 v5
    rw [fM_layOrder_l44]
    refine o_iload (pc := 44) 5 dX7_layOrder_44 rfl <| o_aload_n (pc := 46) 0 dX7_layOrder_46 rfl rfl <| o_getI (pc := 47) (ci := 7) (j := 0) (nn := 0) dX7_layOrder_47 (hF.1 _ _ rfl) rfl (Nat.le_of_ble_eq_true rfl) k_883 rfl <| ?_
    refine o_icmp_ge (pc := 50) (tgt := 143) dX7_layOrder_50 rfl (fun h1 => ?_) (fun h1 => ?_)
    · exact hk0_0 m v2 v3 v4 v5
    · refine o_iload_n (pc := 53) 2 dX7_layOrder_53 rfl rfl <| o_aload_n (pc := 54) 0 dX7_layOrder_54 rfl rfl <| o_getI (pc := 55) (ci := 7) (j := 0) (nn := 0) dX7_layOrder_55 (hF.1 _ _ rfl) rfl (Nat.le_of_ble_eq_true rfl) k_883 rfl <| o_iload (pc := 58) 5 dX7_layOrder_58 rfl <| o_isub (pc := 60) dX7_layOrder_60 <| ?_
      refine S_ck fun h2 => ?_
      refine o_idiv (pc := 61) dX7_layOrder_61 h2 <| ?_
      refine o_lt fun x3 => ?_
      refine o_istore_n (pc := 62) (ls' := [(2, .int x3), (0, .ref 61), (1, .int u1), (3, .int v3), (4, .int v4), (5, .int v5)]) dX7_layOrder_62 rfl (Nat.le_of_ble_eq_true rfl) rfl <| o_iload (pc := 63) 4 dX7_layOrder_63 rfl <| o_iload_n (pc := 65) 0 dX7_layOrder_65 rfl rfl <| ?_
      refine S_ck fun h4 => ?_
      refine o_idiv (pc := 66) dX7_layOrder_66 h4 <| ?_
      refine o_lt fun x5 => ?_
      refine o_istore (pc := 67) (ls' := [(6, .int x5), (2, .int x3), (0, .ref 61), (1, .int u1), (3, .int v3), (4, .int v4), (5, .int v5)]) dX7_layOrder_67 (Nat.le_of_ble_eq_true rfl) rfl <| o_iload (pc := 69) 5 dX7_layOrder_69 rfl <| o_iload_n (pc := 71) 1 dX7_layOrder_71 rfl rfl <| ?_
      refine S_ck fun h6 => ?_
      refine o_irem (pc := 72) dX7_layOrder_72 h6 <| ?_
      refine o_lt fun x7 => ?_
      refine o_istore (pc := 73) (ls' := [(4, .int x7), (6, .int x5), (2, .int x3), (0, .ref 61), (1, .int u1), (3, .int v3), (5, .int v5)]) dX7_layOrder_73 (Nat.le_of_ble_eq_true rfl) rfl <| o_iconst (pc := 75) dX7_layOrder_75 lc_0 <| o_istore (pc := 76) (ls' := [(7, .int 0), (4, .int x7), (6, .int x5), (2, .int x3), (0, .ref 61), (1, .int u1), (3, .int v3), (5, .int v5)]) dX7_layOrder_76 (Nat.le_of_ble_eq_true rfl) rfl <| ?_
      refine o_sub [4, 5, 3, 6, 1, 7, 2, 0] (ls' := [(0, .ref 61), (1, .int u1), (2, .int x3), (3, .int v3), (4, .int x7), (5, .int v5), (6, .int x5), (7, .int 0)]) rfl ?_
      refine sM_layOrder_l78 hF u1 x3 v3 x7 v5 _ ?_ 1000 m x5 0
      · intro m10 z8 z9
        refine o_aload_n (pc := 119) 0 dX7_layOrder_119 rfl rfl <| o_getRc (pc := 120) (a := 66) (ci := 7) (j := 9) (nn := 0) dX7_layOrder_120 (hF.1 _ _ rfl) rfl (Nat.le_of_ble_eq_true rfl) k_892 rfl (hF.2 _ _ _ rfl) <| o_iload (pc := 123) 5 dX7_layOrder_123 rfl <| o_iload (pc := 125) 7 dX7_layOrder_125 rfl <| ?_
        refine S_ck fun h11 => ?_
        refine o_iast (pc := 127) (nn := 6) dX7_layOrder_127 (hF.1 _ _ rfl) (ck_in h11) <| ?_
        refine o_lm fun m12 => ?_
        refine o_iload_n (pc := 128) 3 dX7_layOrder_128 rfl rfl <| o_iconst (pc := 129) dX7_layOrder_129 lc_1 <| o_iload (pc := 130) 7 dX7_layOrder_130 rfl <| o_ishl (pc := 132) dX7_layOrder_132 <| o_iconst (pc := 133) dX7_layOrder_133 lc_m1 <| o_ixor (pc := 134) dX7_layOrder_134 <| o_iand (pc := 135) dX7_layOrder_135 <| ?_
        refine o_lt fun x13 => ?_
        refine o_istore_n (pc := 136) (ls' := [(3, .int x13), (0, .ref 61), (1, .int u1), (2, .int x3), (4, .int x7), (5, .int v5), (6, .int z8), (7, .int z9)]) dX7_layOrder_136 rfl (Nat.le_of_ble_eq_true rfl) rfl <| o_iinc (pc := 137) 5 (v := v5 + 1) (ls' := [(5, .int (v5 + 1)), (3, .int x13), (0, .ref 61), (1, .int u1), (2, .int x3), (4, .int x7), (6, .int z8), (7, .int z9)]) dX7_layOrder_137 rfl rfl (Nat.le_of_ble_eq_true rfl) rfl <| ?_
        refine o_ltL (ls := fun x14 => [(5, .int x14), (3, .int x13), (0, .ref 61), (1, .int u1), (2, .int x3), (4, .int x7), (6, .int z8), (7, .int z9)]) fun x14 => ?_
        refine o_goto (pc := 140) (tgt := 44) dX7_layOrder_140 rfl <| ?_
        refine o_sub [2, 3, 4, 1, 5, 0] (ls' := [(0, .ref 61), (1, .int u1), (2, .int x3), (3, .int x13), (4, .int x7), (5, .int x14)]) rfl ?_
        exact ih0 m12 x3 x13 x7 x14
def fM_layOrder (m : MI) (a : Int32) : Option (Int32 × MI) :=
  fM_layOrder_l4 a
    (fun m3 z1 z2 =>
      if a < z1 then
        lt (((1 : Int32) <<< ((m3.1 61 0) &&& 31)) - 1) fun x5 =>
        fM_layOrder_l44 a
          (fun m10 z6 z7 z8 z9 =>
            some (1, m10)
            )
          1000 m3 z1 x5 a 0
      else
        some (0, m3)
      )
    1000 m 1 2
theorem sM_layOrder {sh : Sh} {R : RR} (hF : Fx sh R) (m : MI) (a : Int32) : KS (eI sh R) false 1 0 0 YX7_layOrder sh R m [.ref 61, .int a] (fM_layOrder m a) := by
  refine KS_of pn_X7 (fun _ => Nat.le_of_ble_eq_true rfl) ?_
  change S _ _ _ _ _ _ _ _ _ _ [(0, .ref 61), (1, .int a)] [] _
  unfold fM_layOrder
  refine o_iconst (pc := 0) dX7_layOrder_0 lc_1 <| o_istore_n (pc := 1) (ls' := [(2, .int 1), (0, .ref 61), (1, .int a)]) dX7_layOrder_1 rfl (Nat.le_of_ble_eq_true rfl) rfl <| o_iconst (pc := 2) dX7_layOrder_2 lc_2 <| o_istore_n (pc := 3) (ls' := [(3, .int 2), (2, .int 1), (0, .ref 61), (1, .int a)]) dX7_layOrder_3 rfl (Nat.le_of_ble_eq_true rfl) rfl <| ?_
  refine o_sub [2, 3, 1, 0] (ls' := [(0, .ref 61), (1, .int a), (2, .int 1), (3, .int 2)]) rfl ?_
  refine sM_layOrder_l4 hF a _ ?_ 1000 m 1 2
  · intro m3 z1 z2
    refine o_iload_n (pc := 22) 1 dX7_layOrder_22 rfl rfl <| o_iload_n (pc := 23) 2 dX7_layOrder_23 rfl rfl <| ?_
    refine o_icmp_lt (pc := 24) (tgt := 29) dX7_layOrder_24 rfl (fun h4 => ?_) (fun h4 => ?_)
    · refine o_iconst (pc := 29) dX7_layOrder_29 lc_1 <| o_aload_n (pc := 30) 0 dX7_layOrder_30 rfl rfl <| o_getI (pc := 31) (ci := 7) (j := 0) (nn := 0) dX7_layOrder_31 (hF.1 _ _ rfl) rfl (Nat.le_of_ble_eq_true rfl) k_883 rfl <| o_ishl (pc := 34) dX7_layOrder_34 <| o_iconst (pc := 35) dX7_layOrder_35 lc_1 <| o_isub (pc := 36) dX7_layOrder_36 <| ?_
      refine o_lt fun x5 => ?_
      refine o_istore_n (pc := 37) (ls' := [(3, .int x5), (0, .ref 61), (1, .int a), (2, .int z1)]) dX7_layOrder_37 rfl (Nat.le_of_ble_eq_true rfl) rfl <| o_iload_n (pc := 38) 2 dX7_layOrder_38 rfl rfl <| o_istore (pc := 39) (ls' := [(4, .int a), (3, .int x5), (0, .ref 61), (1, .int a), (2, .int z1)]) dX7_layOrder_39 (Nat.le_of_ble_eq_true rfl) rfl <| o_iconst (pc := 41) dX7_layOrder_41 lc_0 <| o_istore (pc := 42) (ls' := [(5, .int 0), (4, .int a), (3, .int x5), (0, .ref 61), (1, .int a), (2, .int z1)]) dX7_layOrder_42 (Nat.le_of_ble_eq_true rfl) rfl <| ?_
      refine o_sub [3, 4, 5, 2, 1, 0] (ls' := [(0, .ref 61), (1, .int a), (2, .int z1), (3, .int x5), (4, .int a), (5, .int 0)]) rfl ?_
      refine sM_layOrder_l44 hF a _ ?_ 1000 m3 z1 x5 a 0
      · intro m10 z6 z7 z8 z9
        refine o_iconst (pc := 143) dX7_layOrder_143 lc_1 <| ?_
        exact o_zret (pc := 144) dX7_layOrder_144 rfl rfl rfl
    · refine o_iconst (pc := 27) dX7_layOrder_27 lc_0 <| ?_
      exact o_zret (pc := 28) dX7_layOrder_28 rfl rfl rfl
def fM_best_l72 (u1 : Int32) (u2 : Int32) (u3 : Int32) (u4 : Int32) (k1_0 : MI → Int32 → Option (Int32 × MI)) : Nat → MI → Int32 → Option (Int32 × MI)
  | 0, _, _ => none
  | n1 + 1, m, v5 =>
    if 6 ≤ v5 then
      k1_0 m v5
    else
      if ck v5 6 = true then
        if ck v5 6 = true then
          lm (mI m 81 (upd (m.1 81) v5.toNatClampNeg (m.1 66 v5.toNatClampNeg))) fun m4 =>
          lt (v5 + 1) fun x5 =>
          fM_best_l72 u1 u2 u3 u4 k1_0 n1 m4 x5
        else none
      else none
theorem sM_best_l72 {sh : Sh} {R : RR} (hF : Fx sh R) (u1 : Int32) (u2 : Int32) (u3 : Int32) (u4 : Int32) (k1_0 : MI → Int32 → Option (Int32 × MI)) (hk1_0 : ∀ (m : MI) (v5 : Int32) , S (eI sh R) false 8 0 0 YX7_best sh R m 99 [(0, .ref 61), (1, .int u1), (2, .int u2), (3, .int u3), (4, .int u4), (5, .int v5)] [] (k1_0 m v5)) : ∀ (n : Nat) (m : MI) (v5 : Int32) , S (eI sh R) false 8 0 0 YX7_best sh R m 72 [(0, .ref 61), (1, .int u1), (2, .int u2), (3, .int u3), (4, .int u4), (5, .int v5)] [] (fM_best_l72 u1 u2 u3 u4 k1_0 n m v5) := by
  intro n
  induction n with
  | zero => intros; exact S_none
  | succ n1 ih1 =>
    intro m v5
    rw [fM_best_l72]
    refine o_iload (pc := 72) 5 dX7_best_72 rfl <| o_bipush (pc := 74) dX7_best_74 lb_6 <| ?_
    refine o_icmp_ge (pc := 76) (tgt := 99) dX7_best_76 rfl (fun h1 => ?_) (fun h1 => ?_)
    · exact hk1_0 m v5
    · refine o_aload_n (pc := 79) 0 dX7_best_79 rfl rfl <| o_getRc (pc := 80) (a := 81) (ci := 7) (j := 36) (nn := 0) dX7_best_80 (hF.1 _ _ rfl) rfl (Nat.le_of_ble_eq_true rfl) k_919 rfl (hF.2 _ _ _ rfl) <| o_iload (pc := 83) 5 dX7_best_83 rfl <| o_aload_n (pc := 85) 0 dX7_best_85 rfl rfl <| o_getRc (pc := 86) (a := 66) (ci := 7) (j := 9) (nn := 0) dX7_best_86 (hF.1 _ _ rfl) rfl (Nat.le_of_ble_eq_true rfl) k_892 rfl (hF.2 _ _ _ rfl) <| o_iload (pc := 89) 5 dX7_best_89 rfl <| ?_
      refine S_ck fun h2 => ?_
      refine o_iald (pc := 91) (nn := 6) dX7_best_91 (hF.1 _ _ rfl) (ck_in h2) <| ?_
      refine S_ck fun h3 => ?_
      refine o_iast (pc := 92) (nn := 6) dX7_best_92 (hF.1 _ _ rfl) (ck_in h3) <| ?_
      refine o_lm fun m4 => ?_
      refine o_iinc (pc := 93) 5 (v := v5 + 1) (ls' := [(5, .int (v5 + 1)), (0, .ref 61), (1, .int u1), (2, .int u2), (3, .int u3), (4, .int u4)]) dX7_best_93 rfl rfl (Nat.le_of_ble_eq_true rfl) rfl <| ?_
      refine o_ltL (ls := fun x5 => [(5, .int x5), (0, .ref 61), (1, .int u1), (2, .int u2), (3, .int u3), (4, .int u4)]) fun x5 => ?_
      refine o_goto (pc := 96) (tgt := 72) dX7_best_96 rfl <| ?_
      refine o_sub [1, 2, 3, 4, 5, 0] (ls' := [(0, .ref 61), (1, .int u1), (2, .int u2), (3, .int u3), (4, .int u4), (5, .int x5)]) rfl ?_
      exact ih1 m4 x5
def fM_best_l43 (u1 : Int32) (k0_0 : MI → Int32 → Int32 → Option (Int32 × MI)) : Nat → MI → Int32 → Int32 → Option (Int32 × MI)
  | 0, _, _, _ => none
  | n0 + 1, m, v2, v3 =>
    (fM_layOrder m v3).bind fun r1 =>
    if r1.1 = 0 then
      k0_0 r1.2 v2 v3
    else
      (fM_evenNow r1.2).bind fun r3 =>
      if r3.1 < v2 then
        fM_best_l72 u1 r3.1 v3 r3.1
          (fun m6 z5 =>
            lt (v3 + 1) fun x7 =>
            fM_best_l43 u1 k0_0 n0 m6 r3.1 x7
            )
          1000 r3.2 0
      else
        lt (v3 + 1) fun x8 =>
        fM_best_l43 u1 k0_0 n0 r3.2 v2 x8
theorem sM_best_l43 {sh : Sh} {R : RR} (hF : Fx sh R) (u1 : Int32) (k0_0 : MI → Int32 → Int32 → Option (Int32 × MI)) (hk0_0 : ∀ (m : MI) (v2 : Int32) (v3 : Int32) , S (eI sh R) false 8 0 0 YX7_best sh R m 105 [(0, .ref 61), (1, .int u1), (2, .int v2), (3, .int v3)] [] (k0_0 m v2 v3)) : ∀ (n : Nat) (m : MI) (v2 : Int32) (v3 : Int32) , S (eI sh R) false 8 0 0 YX7_best sh R m 43 [(0, .ref 61), (1, .int u1), (2, .int v2), (3, .int v3)] [] (fM_best_l43 u1 k0_0 n m v2 v3) := by
  intro n
  induction n with
  | zero => intros; exact S_none
  | succ n0 ih0 =>
    intro m v2 v3
    rw [fM_best_l43]
    refine o_aload_n (pc := 43) 0 dX7_best_43 rfl rfl <| o_iload_n (pc := 44) 3 dX7_best_44 rfl rfl <| ?_
    refine o_callVI (Y2 := YX7_layOrder) (pc := 45) (av := [.int v3]) (rest := []) dX7_best_45 k_1273 cm_X7_layOrder (sM_layOrder hF m v3) (hF.1 _ _ rfl) rfl rfl (Nat.le_of_ble_eq_true rfl) (Nat.le_of_ble_eq_true rfl) fun r1 => ?_
    refine o_if_eq (pc := 48) (tgt := 105) dX7_best_48 rfl (fun h2 => ?_) (fun h2 => ?_)
    · exact hk0_0 r1.2 v2 v3
    · refine o_aload_n (pc := 51) 0 dX7_best_51 rfl rfl <| ?_
      refine o_callVI (Y2 := YX7_evenNow) (pc := 52) (av := []) (rest := []) dX7_best_52 k_1260 cm_X7_evenNow (sM_evenNow hF r1.2 ) (hF.1 _ _ rfl) rfl rfl (Nat.le_of_ble_eq_true rfl) (Nat.le_of_ble_eq_true rfl) fun r3 => ?_
      refine o_istore (pc := 55) (ls' := [(4, .int r3.1), (0, .ref 61), (1, .int u1), (2, .int v2), (3, .int v3)]) dX7_best_55 (Nat.le_of_ble_eq_true rfl) rfl <| o_iload (pc := 57) 0 dX7_best_57 rfl <| o_iload_n (pc := 59) 3 dX7_best_59 rfl rfl <| ?_
      refine o_icmp_lt (pc := 60) (tgt := 66) dX7_best_60 rfl (fun h4 => ?_) (fun h4 => ?_)
      · refine o_iload (pc := 66) 0 dX7_best_66 rfl <| o_istore_n (pc := 68) (ls' := [(2, .int r3.1), (4, .int r3.1), (0, .ref 61), (1, .int u1), (3, .int v3)]) dX7_best_68 rfl (Nat.le_of_ble_eq_true rfl) rfl <| o_iconst (pc := 69) dX7_best_69 lc_0 <| o_istore (pc := 70) (ls' := [(5, .int 0), (2, .int r3.1), (4, .int r3.1), (0, .ref 61), (1, .int u1), (3, .int v3)]) dX7_best_70 (Nat.le_of_ble_eq_true rfl) rfl <| ?_
        refine o_sub [3, 4, 1, 5, 2, 0] (ls' := [(0, .ref 61), (1, .int u1), (2, .int r3.1), (3, .int v3), (4, .int r3.1), (5, .int 0)]) rfl ?_
        refine sM_best_l72 hF u1 r3.1 v3 r3.1 _ ?_ 1000 r3.2 0
        · intro m6 z5
          refine o_iinc (pc := 99) 3 (v := v3 + 1) (ls' := [(3, .int (v3 + 1)), (0, .ref 61), (1, .int u1), (2, .int r3.1), (4, .int r3.1), (5, .int z5)]) dX7_best_99 rfl rfl (Nat.le_of_ble_eq_true rfl) rfl <| ?_
          refine o_ltL (ls := fun x7 => [(3, .int x7), (0, .ref 61), (1, .int u1), (2, .int r3.1), (4, .int r3.1), (5, .int z5)]) fun x7 => ?_
          refine o_goto (pc := 102) (tgt := 43) dX7_best_102 rfl <| ?_
          refine o_sub [1, 2, 3, 0] (ls' := [(0, .ref 61), (1, .int u1), (2, .int r3.1), (3, .int x7)]) rfl ?_
          exact ih0 m6 r3.1 x7
      · refine o_goto (pc := 63) (tgt := 99) dX7_best_63 rfl <| o_iinc (pc := 99) 4 (v := v3 + 1) (ls' := [(3, .int (v3 + 1)), (4, .int r3.1), (0, .ref 61), (1, .int u1), (2, .int v2)]) dX7_best_99 rfl rfl (Nat.le_of_ble_eq_true rfl) rfl <| ?_
        refine o_ltL (ls := fun x8 => [(3, .int x8), (4, .int r3.1), (0, .ref 61), (1, .int u1), (2, .int v2)]) fun x8 => ?_
        refine o_goto (pc := 102) (tgt := 43) dX7_best_102 rfl <| ?_
        refine o_sub [2, 3, 4, 0] (ls' := [(0, .ref 61), (1, .int u1), (2, .int v2), (3, .int x8)]) rfl ?_
        exact ih0 r3.2 v2 x8
def fM_best (m : MI) (a : Int32) : Option (Int32 × MI) :=
  (fM_in m a (-1) 4).bind fun r1 =>
  if r1.1 = 0 then
    some (-1, r1.2)
  else
    if r1.2.1 61 0 = 0 then
      some (-5, r1.2)
    else
      if r1.2.1 61 0 ≤ 5 then
        (fM_keepOrder r1.2).bind fun r5 =>
        fM_best_l43 a
          (fun m8 z6 z7 =>
            (fM_putOrder m8).bind fun r9 =>
            if 0 ≤ a then
              if r9.1 61 0 ≤ a then
                some (-5, r9)
              else
                if ck a 6 = true then
                  some (r9.1 81 a.toNatClampNeg, r9)
                else none
            else
              some (z6, r9)
            )
          1000 r5 1000001 0
      else
        some (-9, r1.2)
theorem sM_best {sh : Sh} {R : RR} (hF : Fx sh R) (m : MI) (a : Int32) : KS (eI sh R) false 8 0 0 YX7_best sh R m [.ref 61, .int a] (fM_best m a) := by
  refine KS_of pn_X7 (fun _ => Nat.le_of_ble_eq_true rfl) ?_
  change S _ _ _ _ _ _ _ _ _ _ [(0, .ref 61), (1, .int a)] [] _
  unfold fM_best
  refine o_aload_n (pc := 0) 0 dX7_best_0 rfl rfl <| o_iload_n (pc := 1) 1 dX7_best_1 rfl rfl <| o_iconst (pc := 2) dX7_best_2 lc_m1 <| o_iconst (pc := 3) dX7_best_3 lc_4 <| ?_
  refine o_callVI (Y2 := YX7_in) (pc := 4) (av := [.int a, .int (-1), .int 4]) (rest := []) dX7_best_4 k_1096 cm_X7_in (sM_in hF m a (-1) 4) (hF.1 _ _ rfl) rfl rfl (Nat.le_of_ble_eq_true rfl) (Nat.le_of_ble_eq_true rfl) fun r1 => ?_
  refine o_if_ne (pc := 7) (tgt := 12) dX7_best_7 rfl (fun h2 => ?_) (fun h2 => ?_)
  · refine o_iconst (pc := 10) dX7_best_10 lc_m1 <| ?_
    exact o_iret (pc := 11) dX7_best_11 rfl rfl
  · refine o_aload_n (pc := 12) 0 dX7_best_12 rfl rfl <| o_getI (pc := 13) (ci := 7) (j := 0) (nn := 0) dX7_best_13 (hF.1 _ _ rfl) rfl (Nat.le_of_ble_eq_true rfl) k_883 rfl <| ?_
    refine o_if_ne (pc := 16) (tgt := 22) dX7_best_16 rfl (fun h3 => ?_) (fun h3 => ?_)
    · refine o_bipush (pc := 19) dX7_best_19 lb_m5 <| ?_
      exact o_iret (pc := 21) dX7_best_21 rfl rfl
    · refine o_aload_n (pc := 22) 0 dX7_best_22 rfl rfl <| o_getI (pc := 23) (ci := 7) (j := 0) (nn := 0) dX7_best_23 (hF.1 _ _ rfl) rfl (Nat.le_of_ble_eq_true rfl) k_883 rfl <| o_iconst (pc := 26) dX7_best_26 lc_5 <| ?_
      refine o_icmp_le (pc := 27) (tgt := 33) dX7_best_27 rfl (fun h4 => ?_) (fun h4 => ?_)
      · refine o_ldcw (pc := 33) dX7_best_33 k_1268 <| o_istore_n (pc := 36) (ls' := [(2, .int 1000001), (0, .ref 61), (1, .int a)]) dX7_best_36 rfl (Nat.le_of_ble_eq_true rfl) rfl <| o_aload_n (pc := 37) 1 dX7_best_37 rfl rfl <| ?_
        refine o_callVV (Y2 := YX7_keepOrder) (pc := 38) (av := []) (rest := []) dX7_best_38 k_1269 cm_X7_keepOrder (sM_keepOrder hF r1.2 ) (hF.1 _ _ rfl) rfl rfl (Nat.le_of_ble_eq_true rfl) (Nat.le_of_ble_eq_true rfl) fun r5 => ?_
        refine o_iconst (pc := 41) dX7_best_41 lc_0 <| o_istore_n (pc := 42) (ls' := [(3, .int 0), (2, .int 1000001), (0, .ref 61), (1, .int a)]) dX7_best_42 rfl (Nat.le_of_ble_eq_true rfl) rfl <| ?_
        refine o_sub [2, 3, 1, 0] (ls' := [(0, .ref 61), (1, .int a), (2, .int 1000001), (3, .int 0)]) rfl ?_
        refine sM_best_l43 hF a _ ?_ 1000 r5 1000001 0
        · intro m8 z6 z7
          refine o_aload_n (pc := 105) 0 dX7_best_105 rfl rfl <| ?_
          refine o_callVV (Y2 := YX7_putOrder) (pc := 106) (av := []) (rest := []) dX7_best_106 k_1281 cm_X7_putOrder (sM_putOrder hF m8 ) (hF.1 _ _ rfl) rfl rfl (Nat.le_of_ble_eq_true rfl) (Nat.le_of_ble_eq_true rfl) fun r9 => ?_
          refine o_iload_n (pc := 109) 1 dX7_best_109 rfl rfl <| ?_
          refine o_if_ge (pc := 110) (tgt := 117) dX7_best_110 rfl (fun h10 => ?_) (fun h10 => ?_)
          · refine o_iload_n (pc := 117) 1 dX7_best_117 rfl rfl <| o_aload_n (pc := 118) 0 dX7_best_118 rfl rfl <| o_getI (pc := 119) (ci := 7) (j := 0) (nn := 0) dX7_best_119 (hF.1 _ _ rfl) rfl (Nat.le_of_ble_eq_true rfl) k_883 rfl <| ?_
            refine o_icmp_ge (pc := 122) (tgt := 134) dX7_best_122 rfl (fun h11 => ?_) (fun h11 => ?_)
            · refine o_bipush (pc := 134) dX7_best_134 lb_m5 <| ?_
              exact o_iret (pc := 136) dX7_best_136 rfl rfl
            · refine o_aload_n (pc := 125) 0 dX7_best_125 rfl rfl <| o_getRc (pc := 126) (a := 81) (ci := 7) (j := 36) (nn := 0) dX7_best_126 (hF.1 _ _ rfl) rfl (Nat.le_of_ble_eq_true rfl) k_919 rfl (hF.2 _ _ _ rfl) <| o_iload_n (pc := 129) 1 dX7_best_129 rfl rfl <| ?_
              refine S_ck fun h12 => ?_
              refine o_iald (pc := 130) (nn := 6) dX7_best_130 (hF.1 _ _ rfl) (ck_in h12) <| o_goto (pc := 131) (tgt := 136) dX7_best_131 rfl <| ?_
              exact o_iret (pc := 136) dX7_best_136 rfl rfl
          · refine o_iload_n (pc := 113) 2 dX7_best_113 rfl rfl <| o_goto (pc := 114) (tgt := 136) dX7_best_114 rfl <| ?_
            exact o_iret (pc := 136) dX7_best_136 rfl rfl
      · refine o_bipush (pc := 30) dX7_best_30 lb_m9 <| ?_
        exact o_iret (pc := 32) dX7_best_32 rfl rfl
def fM_safest_l34 (u1 : Int32) (u2 : Int32) (k0_0 : MI → Int32 → Int32 → Int32 → Option (Int32 × MI)) : Nat → MI → Int32 → Int32 → Int32 → Option (Int32 × MI)
  | 0, _, _, _, _ => none
  | n0 + 1, m, v3, v4, v5 =>
    if m.1 61 0 ≤ v5 then
      k0_0 m v3 v4 v5
    else
      (fM_puts m u1 v5).bind fun r2 =>
      (fM_layLikely r2).bind fun r3 =>
      if ck u1 6 = true then
        if r3.1 77 u1.toNatClampNeg < v4 then
          if ck u1 6 = true then
            lt (r3.1 77 u1.toNatClampNeg) fun x7 =>
            lt (v5 + 1) fun x8 =>
            fM_safest_l34 u1 u2 k0_0 n0 r3 v5 x7 x8
          else none
        else
          lt (v5 + 1) fun x9 =>
          fM_safest_l34 u1 u2 k0_0 n0 r3 v3 v4 x9
      else none
theorem sM_safest_l34 {sh : Sh} {R : RR} (hF : Fx sh R) (u1 : Int32) (u2 : Int32) (k0_0 : MI → Int32 → Int32 → Int32 → Option (Int32 × MI)) (hk0_0 : ∀ (m : MI) (v3 : Int32) (v4 : Int32) (v5 : Int32) , S (eI sh R) false 7 0 0 YX7_safest sh R m 85 [(0, .ref 61), (1, .int u1), (2, .int u2), (3, .int v3), (4, .int v4), (5, .int v5)] [] (k0_0 m v3 v4 v5)) : ∀ (n : Nat) (m : MI) (v3 : Int32) (v4 : Int32) (v5 : Int32) , S (eI sh R) false 7 0 0 YX7_safest sh R m 34 [(0, .ref 61), (1, .int u1), (2, .int u2), (3, .int v3), (4, .int v4), (5, .int v5)] [] (fM_safest_l34 u1 u2 k0_0 n m v3 v4 v5) := by
  intro n
  induction n with
  | zero => intros; exact S_none
  | succ n0 ih0 =>
    intro m v3 v4 v5
    rw [fM_safest_l34]
    refine o_iload (pc := 34) 5 dX7_safest_34 rfl <| o_aload_n (pc := 36) 0 dX7_safest_36 rfl rfl <| o_getI (pc := 37) (ci := 7) (j := 0) (nn := 0) dX7_safest_37 (hF.1 _ _ rfl) rfl (Nat.le_of_ble_eq_true rfl) k_883 rfl <| ?_
    refine o_icmp_ge (pc := 40) (tgt := 85) dX7_safest_40 rfl (fun h1 => ?_) (fun h1 => ?_)
    · exact hk0_0 m v3 v4 v5
    · refine o_aload_n (pc := 43) 0 dX7_safest_43 rfl rfl <| o_iload_n (pc := 44) 1 dX7_safest_44 rfl rfl <| o_iload (pc := 45) 5 dX7_safest_45 rfl <| ?_
      refine o_callVV (Y2 := YX7_puts) (pc := 47) (av := [.int u1, .int v5]) (rest := []) dX7_safest_47 k_1120 cm_X7_puts (sM_puts hF m u1 v5) (hF.1 _ _ rfl) rfl rfl (Nat.le_of_ble_eq_true rfl) (Nat.le_of_ble_eq_true rfl) fun r2 => ?_
      refine o_aload_n (pc := 50) 0 dX7_safest_50 rfl rfl <| ?_
      refine o_callVV (Y2 := YX7_layLikely) (pc := 51) (av := []) (rest := []) dX7_safest_51 k_1252 cm_X7_layLikely (sM_layLikely hF r2 ) (hF.1 _ _ rfl) rfl rfl (Nat.le_of_ble_eq_true rfl) (Nat.le_of_ble_eq_true rfl) fun r3 => ?_
      refine o_aload_n (pc := 54) 0 dX7_safest_54 rfl rfl <| o_getRc (pc := 55) (a := 77) (ci := 7) (j := 31) (nn := 0) dX7_safest_55 (hF.1 _ _ rfl) rfl (Nat.le_of_ble_eq_true rfl) k_914 rfl (hF.2 _ _ _ rfl) <| o_iload_n (pc := 58) 1 dX7_safest_58 rfl rfl <| ?_
      refine S_ck fun h4 => ?_
      refine o_iald (pc := 59) (nn := 6) dX7_safest_59 (hF.1 _ _ rfl) (ck_in h4) <| o_iload (pc := 60) 4 dX7_safest_60 rfl <| ?_
      refine o_icmp_lt (pc := 62) (tgt := 68) dX7_safest_62 rfl (fun h5 => ?_) (fun h5 => ?_)
      · refine o_iload (pc := 68) 5 dX7_safest_68 rfl <| o_istore_n (pc := 70) (ls' := [(3, .int v5), (0, .ref 61), (1, .int u1), (2, .int u2), (4, .int v4), (5, .int v5)]) dX7_safest_70 rfl (Nat.le_of_ble_eq_true rfl) rfl <| o_aload_n (pc := 71) 1 dX7_safest_71 rfl rfl <| o_getRc (pc := 72) (a := 77) (ci := 7) (j := 31) (nn := 0) dX7_safest_72 (hF.1 _ _ rfl) rfl (Nat.le_of_ble_eq_true rfl) k_914 rfl (hF.2 _ _ _ rfl) <| o_iload_n (pc := 75) 2 dX7_safest_75 rfl rfl <| ?_
        refine S_ck fun h6 => ?_
        refine o_iald (pc := 76) (nn := 6) dX7_safest_76 (hF.1 _ _ rfl) (ck_in h6) <| ?_
        refine o_lt fun x7 => ?_
        refine o_istore (pc := 77) (ls' := [(4, .int x7), (3, .int v5), (0, .ref 61), (1, .int u1), (2, .int u2), (5, .int v5)]) dX7_safest_77 (Nat.le_of_ble_eq_true rfl) rfl <| o_iinc (pc := 79) 5 (v := v5 + 1) (ls' := [(5, .int (v5 + 1)), (4, .int x7), (3, .int v5), (0, .ref 61), (1, .int u1), (2, .int u2)]) dX7_safest_79 rfl rfl (Nat.le_of_ble_eq_true rfl) rfl <| ?_
        refine o_ltL (ls := fun x8 => [(5, .int x8), (4, .int x7), (3, .int v5), (0, .ref 61), (1, .int u1), (2, .int u2)]) fun x8 => ?_
        refine o_goto (pc := 82) (tgt := 34) dX7_safest_82 rfl <| ?_
        refine o_sub [3, 4, 5, 2, 1, 0] (ls' := [(0, .ref 61), (1, .int u1), (2, .int u2), (3, .int v5), (4, .int x7), (5, .int x8)]) rfl ?_
        exact ih0 r3 v5 x7 x8
      · refine o_goto (pc := 65) (tgt := 79) dX7_safest_65 rfl <| o_iinc (pc := 79) 5 (v := v5 + 1) (ls' := [(5, .int (v5 + 1)), (0, .ref 61), (1, .int u1), (2, .int u2), (3, .int v3), (4, .int v4)]) dX7_safest_79 rfl rfl (Nat.le_of_ble_eq_true rfl) rfl <| ?_
        refine o_ltL (ls := fun x9 => [(5, .int x9), (0, .ref 61), (1, .int u1), (2, .int u2), (3, .int v3), (4, .int v4)]) fun x9 => ?_
        refine o_goto (pc := 82) (tgt := 34) dX7_safest_82 rfl <| ?_
        refine o_sub [1, 2, 3, 4, 5, 0] (ls' := [(0, .ref 61), (1, .int u1), (2, .int u2), (3, .int v3), (4, .int v4), (5, .int x9)]) rfl ?_
        exact ih0 r3 v3 v4 x9
def fM_safest (m : MI) (a : Int32) (b : Int32) : Option (Int32 × MI) :=
  (fM_isDrawer m a).bind fun r1 =>
  if r1.1 = 0 then
    some (-1, r1.2)
  else
    (fM_in r1.2 b 0 1).bind fun r3 =>
    if r3.1 = 0 then
      some (-1, r3.2)
    else
      (fM_keepOrder r3.2).bind fun r5 =>
      fM_safest_l34 a b
        (fun m9 z6 z7 z8 =>
          (fM_putOrder m9).bind fun r10 =>
          if b = 0 then
            some (z6, r10)
          else
            some (z7, r10)
          )
        1000 r5 0 1000001 0
theorem sM_safest {sh : Sh} {R : RR} (hF : Fx sh R) (m : MI) (a : Int32) (b : Int32) : KS (eI sh R) false 7 0 0 YX7_safest sh R m [.ref 61, .int a, .int b] (fM_safest m a b) := by
  refine KS_of pn_X7 (fun _ => Nat.le_of_ble_eq_true rfl) ?_
  change S _ _ _ _ _ _ _ _ _ _ [(0, .ref 61), (1, .int a), (2, .int b)] [] _
  unfold fM_safest
  refine o_aload_n (pc := 0) 0 dX7_safest_0 rfl rfl <| o_iload_n (pc := 1) 1 dX7_safest_1 rfl rfl <| ?_
  refine o_callVI (Y2 := YX7_isDrawer) (pc := 2) (av := [.int a]) (rest := []) dX7_safest_2 k_1104 cm_X7_isDrawer (sM_isDrawer hF m a) (hF.1 _ _ rfl) rfl rfl (Nat.le_of_ble_eq_true rfl) (Nat.le_of_ble_eq_true rfl) fun r1 => ?_
  refine o_if_eq (pc := 5) (tgt := 18) dX7_safest_5 rfl (fun h2 => ?_) (fun h2 => ?_)
  · refine o_iconst (pc := 18) dX7_safest_18 lc_m1 <| ?_
    exact o_iret (pc := 19) dX7_safest_19 rfl rfl
  · refine o_aload_n (pc := 8) 0 dX7_safest_8 rfl rfl <| o_iload_n (pc := 9) 2 dX7_safest_9 rfl rfl <| o_iconst (pc := 10) dX7_safest_10 lc_0 <| o_iconst (pc := 11) dX7_safest_11 lc_1 <| ?_
    refine o_callVI (Y2 := YX7_in) (pc := 12) (av := [.int b, .int 0, .int 1]) (rest := []) dX7_safest_12 k_1096 cm_X7_in (sM_in hF r1.2 b 0 1) (hF.1 _ _ rfl) rfl rfl (Nat.le_of_ble_eq_true rfl) (Nat.le_of_ble_eq_true rfl) fun r3 => ?_
    refine o_if_ne (pc := 15) (tgt := 20) dX7_safest_15 rfl (fun h4 => ?_) (fun h4 => ?_)
    · refine o_iconst (pc := 18) dX7_safest_18 lc_m1 <| ?_
      exact o_iret (pc := 19) dX7_safest_19 rfl rfl
    · refine o_aload_n (pc := 20) 0 dX7_safest_20 rfl rfl <| ?_
      refine o_callVV (Y2 := YX7_keepOrder) (pc := 21) (av := []) (rest := []) dX7_safest_21 k_1269 cm_X7_keepOrder (sM_keepOrder hF r3.2 ) (hF.1 _ _ rfl) rfl rfl (Nat.le_of_ble_eq_true rfl) (Nat.le_of_ble_eq_true rfl) fun r5 => ?_
      refine o_iconst (pc := 24) dX7_safest_24 lc_0 <| o_istore_n (pc := 25) (ls' := [(3, .int 0), (0, .ref 61), (1, .int a), (2, .int b)]) dX7_safest_25 rfl (Nat.le_of_ble_eq_true rfl) rfl <| o_ldcw (pc := 26) dX7_safest_26 k_1268 <| o_istore (pc := 29) (ls' := [(4, .int 1000001), (3, .int 0), (0, .ref 61), (1, .int a), (2, .int b)]) dX7_safest_29 (Nat.le_of_ble_eq_true rfl) rfl <| o_iconst (pc := 31) dX7_safest_31 lc_0 <| o_istore (pc := 32) (ls' := [(5, .int 0), (4, .int 1000001), (3, .int 0), (0, .ref 61), (1, .int a), (2, .int b)]) dX7_safest_32 (Nat.le_of_ble_eq_true rfl) rfl <| ?_
      refine o_sub [3, 4, 5, 2, 1, 0] (ls' := [(0, .ref 61), (1, .int a), (2, .int b), (3, .int 0), (4, .int 1000001), (5, .int 0)]) rfl ?_
      refine sM_safest_l34 hF a b _ ?_ 1000 r5 0 1000001 0
      · intro m9 z6 z7 z8
        refine o_aload_n (pc := 85) 0 dX7_safest_85 rfl rfl <| ?_
        refine o_callVV (Y2 := YX7_putOrder) (pc := 86) (av := []) (rest := []) dX7_safest_86 k_1281 cm_X7_putOrder (sM_putOrder hF m9 ) (hF.1 _ _ rfl) rfl rfl (Nat.le_of_ble_eq_true rfl) (Nat.le_of_ble_eq_true rfl) fun r10 => ?_
        refine o_iload_n (pc := 89) 2 dX7_safest_89 rfl rfl <| ?_
        refine o_if_ne (pc := 90) (tgt := 97) dX7_safest_90 rfl (fun h11 => ?_) (fun h11 => ?_)
        · refine o_iload_n (pc := 93) 3 dX7_safest_93 rfl rfl <| o_goto (pc := 94) (tgt := 99) dX7_safest_94 rfl <| ?_
          exact o_iret (pc := 99) dX7_safest_99 rfl rfl
        · refine o_iload (pc := 97) 4 dX7_safest_97 rfl <| ?_
          exact o_iret (pc := 99) dX7_safest_99 rfl rfl
def fM_enough_l33 (u1 : Int32) (u2 : Int32) (k0_0 : MI → Int32 → Option (Int32 × MI)) : Nat → MI → Int32 → Option (Int32 × MI)
  | 0, _, _ => none
  | n0 + 1, m, v3 =>
    if 21 ≤ m.1 61 34 then
      k0_0 m v3
    else
      if 0 ≤ v3 then
        k0_0 m v3
      else
        (fM_layLikely m).bind fun r3 =>
        if ck u1 6 = true then
          if u2 < r3.1 77 u1.toNatClampNeg then
            lm (mI r3 61 (upd (r3.1 61) 34 ((r3.1 61 34) + 1))) fun m6 =>
            fM_enough_l33 u1 u2 k0_0 n0 m6 (-5)
          else
            lt (r3.1 61 34) fun x7 =>
            lm (mI r3 61 (upd (r3.1 61) 34 ((r3.1 61 34) + 1))) fun m8 =>
            fM_enough_l33 u1 u2 k0_0 n0 m8 x7
        else none
theorem sM_enough_l33 {sh : Sh} {R : RR} (hF : Fx sh R) (u1 : Int32) (u2 : Int32) (k0_0 : MI → Int32 → Option (Int32 × MI)) (hk0_0 : ∀ (m : MI) (v3 : Int32) , S (eI sh R) false 7 0 0 YX7_enough sh R m 83 [(0, .ref 61), (1, .int u1), (2, .int u2), (3, .int v3)] [] (k0_0 m v3)) : ∀ (n : Nat) (m : MI) (v3 : Int32) , S (eI sh R) false 7 0 0 YX7_enough sh R m 33 [(0, .ref 61), (1, .int u1), (2, .int u2), (3, .int v3)] [] (fM_enough_l33 u1 u2 k0_0 n m v3) := by
  intro n
  induction n with
  | zero => intros; exact S_none
  | succ n0 ih0 =>
    intro m v3
    rw [fM_enough_l33]
    refine o_aload_n (pc := 33) 0 dX7_enough_33 rfl rfl <| o_getI (pc := 34) (ci := 7) (j := 34) (nn := 0) dX7_enough_34 (hF.1 _ _ rfl) rfl (Nat.le_of_ble_eq_true rfl) k_917 rfl <| o_bipush (pc := 37) dX7_enough_37 lb_21 <| ?_
    refine o_icmp_ge (pc := 39) (tgt := 83) dX7_enough_39 rfl (fun h1 => ?_) (fun h1 => ?_)
    · exact hk0_0 m v3
    · refine o_iload_n (pc := 42) 3 dX7_enough_42 rfl rfl <| ?_
      refine o_if_ge (pc := 43) (tgt := 83) dX7_enough_43 rfl (fun h2 => ?_) (fun h2 => ?_)
      · exact hk0_0 m v3
      · refine o_aload_n (pc := 46) 0 dX7_enough_46 rfl rfl <| ?_
        refine o_callVV (Y2 := YX7_layLikely) (pc := 47) (av := []) (rest := []) dX7_enough_47 k_1252 cm_X7_layLikely (sM_layLikely hF m ) (hF.1 _ _ rfl) rfl rfl (Nat.le_of_ble_eq_true rfl) (Nat.le_of_ble_eq_true rfl) fun r3 => ?_
        refine o_aload_n (pc := 50) 0 dX7_enough_50 rfl rfl <| o_getRc (pc := 51) (a := 77) (ci := 7) (j := 31) (nn := 0) dX7_enough_51 (hF.1 _ _ rfl) rfl (Nat.le_of_ble_eq_true rfl) k_914 rfl (hF.2 _ _ _ rfl) <| o_iload_n (pc := 54) 1 dX7_enough_54 rfl rfl <| ?_
        refine S_ck fun h4 => ?_
        refine o_iald (pc := 55) (nn := 6) dX7_enough_55 (hF.1 _ _ rfl) (ck_in h4) <| o_iload_n (pc := 56) 2 dX7_enough_56 rfl rfl <| ?_
        refine o_icmp_gt (pc := 57) (tgt := 67) dX7_enough_57 rfl (fun h5 => ?_) (fun h5 => ?_)
        · refine o_bipush (pc := 67) dX7_enough_67 lb_m5 <| o_istore_n (pc := 69) (ls' := [(3, .int (-5)), (0, .ref 61), (1, .int u1), (2, .int u2)]) dX7_enough_69 rfl (Nat.le_of_ble_eq_true rfl) rfl <| o_aload_n (pc := 70) 1 dX7_enough_70 rfl rfl <| o_dup (pc := 71) dX7_enough_71 rfl <| o_getI (pc := 72) (ci := 7) (j := 34) (nn := 0) dX7_enough_72 (hF.1 _ _ rfl) rfl (Nat.le_of_ble_eq_true rfl) k_917 rfl <| o_iconst (pc := 75) dX7_enough_75 lc_1 <| o_iadd (pc := 76) dX7_enough_76 <| o_putI (pc := 77) (ci := 7) (j := 34) (nn := 0) dX7_enough_77 (hF.1 _ _ rfl) rfl (Nat.le_of_ble_eq_true rfl) k_917 rfl rfl rfl rfl rfl <| ?_
          refine o_lm fun m6 => ?_
          refine o_goto (pc := 80) (tgt := 33) dX7_enough_80 rfl <| ?_
          refine o_sub [1, 2, 3, 0] (ls' := [(0, .ref 61), (1, .int u1), (2, .int u2), (3, .int (-5))]) rfl ?_
          exact ih0 m6 (-5)
        · refine o_aload_n (pc := 60) 0 dX7_enough_60 rfl rfl <| o_getI (pc := 61) (ci := 7) (j := 34) (nn := 0) dX7_enough_61 (hF.1 _ _ rfl) rfl (Nat.le_of_ble_eq_true rfl) k_917 rfl <| o_goto (pc := 64) (tgt := 69) dX7_enough_64 rfl <| ?_
          refine o_lt fun x7 => ?_
          refine o_istore_n (pc := 69) (ls' := [(3, .int x7), (0, .ref 61), (1, .int u1), (2, .int u2)]) dX7_enough_69 rfl (Nat.le_of_ble_eq_true rfl) rfl <| o_aload_n (pc := 70) 1 dX7_enough_70 rfl rfl <| o_dup (pc := 71) dX7_enough_71 rfl <| o_getI (pc := 72) (ci := 7) (j := 34) (nn := 0) dX7_enough_72 (hF.1 _ _ rfl) rfl (Nat.le_of_ble_eq_true rfl) k_917 rfl <| o_iconst (pc := 75) dX7_enough_75 lc_1 <| o_iadd (pc := 76) dX7_enough_76 <| o_putI (pc := 77) (ci := 7) (j := 34) (nn := 0) dX7_enough_77 (hF.1 _ _ rfl) rfl (Nat.le_of_ble_eq_true rfl) k_917 rfl rfl rfl rfl rfl <| ?_
          refine o_lm fun m8 => ?_
          refine o_goto (pc := 80) (tgt := 33) dX7_enough_80 rfl <| ?_
          refine o_sub [1, 2, 3, 0] (ls' := [(0, .ref 61), (1, .int u1), (2, .int u2), (3, .int x7)]) rfl ?_
          exact ih0 m8 x7
def fM_enough (m : MI) (a : Int32) (b : Int32) : Option (Int32 × MI) :=
  (fM_isDrawer m a).bind fun r1 =>
  if r1.1 = 0 then
    some (-1, r1.2)
  else
    (fM_in r1.2 b 0 1000000).bind fun r3 =>
    if r3.1 = 0 then
      some (-2, r3.2)
    else
      lm (mI r3.2 61 (upd (r3.2.1 61) 34 0)) fun m5 =>
      fM_enough_l33 a b
        (fun m7 z6 =>
          lm (mI m7 61 (upd (m7.1 61) 34 0)) fun m8 =>
          some (z6, m8)
          )
        1000 m5 (-5)
theorem sM_enough {sh : Sh} {R : RR} (hF : Fx sh R) (m : MI) (a : Int32) (b : Int32) : KS (eI sh R) false 7 0 0 YX7_enough sh R m [.ref 61, .int a, .int b] (fM_enough m a b) := by
  refine KS_of pn_X7 (fun _ => Nat.le_of_ble_eq_true rfl) ?_
  change S _ _ _ _ _ _ _ _ _ _ [(0, .ref 61), (1, .int a), (2, .int b)] [] _
  unfold fM_enough
  refine o_aload_n (pc := 0) 0 dX7_enough_0 rfl rfl <| o_iload_n (pc := 1) 1 dX7_enough_1 rfl rfl <| ?_
  refine o_callVI (Y2 := YX7_isDrawer) (pc := 2) (av := [.int a]) (rest := []) dX7_enough_2 k_1104 cm_X7_isDrawer (sM_isDrawer hF m a) (hF.1 _ _ rfl) rfl rfl (Nat.le_of_ble_eq_true rfl) (Nat.le_of_ble_eq_true rfl) fun r1 => ?_
  refine o_if_ne (pc := 5) (tgt := 10) dX7_enough_5 rfl (fun h2 => ?_) (fun h2 => ?_)
  · refine o_iconst (pc := 8) dX7_enough_8 lc_m1 <| ?_
    exact o_iret (pc := 9) dX7_enough_9 rfl rfl
  · refine o_aload_n (pc := 10) 0 dX7_enough_10 rfl rfl <| o_iload_n (pc := 11) 2 dX7_enough_11 rfl rfl <| o_iconst (pc := 12) dX7_enough_12 lc_0 <| o_ldcw (pc := 13) dX7_enough_13 k_1224 <| ?_
    refine o_callVI (Y2 := YX7_in) (pc := 16) (av := [.int b, .int 0, .int 1000000]) (rest := []) dX7_enough_16 k_1096 cm_X7_in (sM_in hF r1.2 b 0 1000000) (hF.1 _ _ rfl) rfl rfl (Nat.le_of_ble_eq_true rfl) (Nat.le_of_ble_eq_true rfl) fun r3 => ?_
    refine o_if_ne (pc := 19) (tgt := 25) dX7_enough_19 rfl (fun h4 => ?_) (fun h4 => ?_)
    · refine o_bipush (pc := 22) dX7_enough_22 lb_m2 <| ?_
      exact o_iret (pc := 24) dX7_enough_24 rfl rfl
    · refine o_bipush (pc := 25) dX7_enough_25 lb_m5 <| o_istore_n (pc := 27) (ls' := [(3, .int (-5)), (0, .ref 61), (1, .int a), (2, .int b)]) dX7_enough_27 rfl (Nat.le_of_ble_eq_true rfl) rfl <| o_aload_n (pc := 28) 1 dX7_enough_28 rfl rfl <| o_iconst (pc := 29) dX7_enough_29 lc_0 <| o_putI (pc := 30) (ci := 7) (j := 34) (nn := 0) dX7_enough_30 (hF.1 _ _ rfl) rfl (Nat.le_of_ble_eq_true rfl) k_917 rfl rfl rfl rfl rfl <| ?_
      refine o_lm fun m5 => ?_
      refine o_sub [1, 2, 3, 0] (ls' := [(0, .ref 61), (1, .int a), (2, .int b), (3, .int (-5))]) rfl ?_
      refine sM_enough_l33 hF a b _ ?_ 1000 m5 (-5)
      · intro m7 z6
        refine o_aload_n (pc := 83) 0 dX7_enough_83 rfl rfl <| o_iconst (pc := 84) dX7_enough_84 lc_0 <| o_putI (pc := 85) (ci := 7) (j := 34) (nn := 0) dX7_enough_85 (hF.1 _ _ rfl) rfl (Nat.le_of_ble_eq_true rfl) k_917 rfl rfl rfl rfl rfl <| ?_
        refine o_lm fun m8 => ?_
        refine o_iload_n (pc := 88) 3 dX7_enough_88 rfl rfl <| ?_
        exact o_iret (pc := 89) dX7_enough_89 rfl rfl
