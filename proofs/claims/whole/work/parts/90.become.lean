theorem k_776 : (Cond.methodLink "ShortStraw$Winter" 79 ⟨"java/lang/System", "arraycopy", "(Ljava/lang/Object;ILjava/lang/Object;II)V"⟩) ∈ tW := tW_of 776 (by decide +kernel) rfl

def eB (w o : Nat) (sh : Sh) (R : RR) : EM MI := eV sh (ur R w (va_up (R w) 15 (R o 15)))
def fW_become_19_l55 (sh : Sh) (R : RR) (k0_0 : MI → Int32 → Option (MI)) : Nat → MI → Int32 → Option (MI)
  | 0, _, _ => none
  | n0 + 1, m, v2 =>
    if 6 ≤ v2 then
      k0_0 m v2
    else
      if ck v2 6 = true then
        mq (R 11 v2.toNatClampNeg) fun q4 =>
        if ck v2 6 = true then
          mq (R 29 v2.toNatClampNeg) fun q7 =>
          if kA sh q4 0 = true then
            if kA sh q7 0 = true then
              if cpk 0 0 4 (lenA sh q4) (lenA sh q7) = true then
                lm (mI m q7 (va_cpy (m.1 q4) (m.1 q7) (0 : Int32).toNatClampNeg (0 : Int32).toNatClampNeg (4 : Int32).toNatClampNeg)) fun m11 =>
                lt (v2 + 1) fun x12 =>
                fW_become_19_l55 sh R k0_0 n0 m11 x12
              else none
            else none
          else none
        else none
      else none
theorem sW_become_19_l55 {sh : Sh} {R : RR} (hF : Fx sh R) (k0_0 : MI → Int32 → Option (MI)) (hk0_0 : ∀ (m : MI) (v2 : Int32) , S (eB 19 1 sh R) false 1 0 0 YX5_become sh R m 85 [(0, .ref 19), (1, .ref 1), (2, .int v2)] [] (k0_0 m v2)) : ∀ (n : Nat) (m : MI) (v2 : Int32) , S (eB 19 1 sh R) false 1 0 0 YX5_become sh R m 55 [(0, .ref 19), (1, .ref 1), (2, .int v2)] [] (fW_become_19_l55 sh R k0_0 n m v2) := by
  intro n
  induction n with
  | zero => intros; exact S_none
  | succ n0 ih0 =>
    intro m v2
    rw [fW_become_19_l55]
    refine o_iload_n (pc := 55) 2 dX5_become_55 rfl rfl <| o_bipush (pc := 56) dX5_become_56 lb_6 <| ?_
    refine o_icmp_ge (pc := 58) (tgt := 85) dX5_become_58 rfl (fun h1 => ?_) (fun h1 => ?_)
    · exact hk0_0 m v2
    · refine o_aload_n (pc := 61) 1 dX5_become_61 rfl rfl <| o_getRc (pc := 62) (a := 11) (ci := 5) (j := 4) (nn := 0) dX5_become_62 (hF.1 _ _ rfl) rfl (Nat.le_of_ble_eq_true rfl) k_132 rfl (hF.2 _ _ _ rfl) <| o_iload_n (pc := 65) 2 dX5_become_65 rfl rfl <| ?_
      refine S_ck fun h2 => ?_
      refine S_mq fun q4 h3 => ?_
      refine o_aaldI (pc := 66) (r := some q4) (nn := 6) dX5_become_66 (hF.1 _ _ rfl) (ck_in h2) h3 <| o_iconst (pc := 67) dX5_become_67 lc_0 <| o_aload_n (pc := 68) 0 dX5_become_68 rfl rfl <| o_getRc (pc := 69) (a := 29) (ci := 5) (j := 4) (nn := 0) dX5_become_69 (hF.1 _ _ rfl) rfl (Nat.le_of_ble_eq_true rfl) k_132 rfl (hF.2 _ _ _ rfl) <| o_iload_n (pc := 72) 2 dX5_become_72 rfl rfl <| ?_
      refine S_ck fun h5 => ?_
      refine S_mq fun q7 h6 => ?_
      refine o_aaldI (pc := 73) (r := some q7) (nn := 6) dX5_become_73 (hF.1 _ _ rfl) (ck_in h5) h6 <| o_iconst (pc := 74) dX5_become_74 lc_0 <| o_iconst (pc := 75) dX5_become_75 lc_4 <| ?_
      refine S_ck fun h8 => ?_
      refine S_ck fun h9 => ?_
      refine S_ck fun h10 => ?_
      refine o_cpi (pc := 76) dX5_become_76 k_776 k_395 k_394 k_82 (kA_ok h8) (kA_ok h9) h10 (Nat.le_of_ble_eq_true rfl) (Nat.le_of_ble_eq_true rfl) <| ?_
      refine o_lm fun m11 => ?_
      refine o_iinc (pc := 79) 2 (v := v2 + 1) (ls' := [(2, .int (v2 + 1)), (0, .ref 19), (1, .ref 1)]) dX5_become_79 rfl rfl (Nat.le_of_ble_eq_true rfl) rfl <| ?_
      refine o_ltL (ls := fun x12 => [(2, .int x12), (0, .ref 19), (1, .ref 1)]) fun x12 => ?_
      refine o_goto (pc := 82) (tgt := 55) dX5_become_82 rfl <| ?_
      refine o_sub [1, 2, 0] (ls' := [(0, .ref 19), (1, .ref 1), (2, .int x12)]) rfl ?_
      exact ih0 m11 x12
def fW_become_19 (sh : Sh) (R : RR) (m : MI) : Option (MI) :=
  lm (mI m 19 (upd (m.1 19) 0 (m.1 1 0))) fun m1 =>
  lm (mI m1 20 (va_cpy (m1.1 2) (m1.1 20) (0 : Int32).toNatClampNeg (0 : Int32).toNatClampNeg (6 : Int32).toNatClampNeg)) fun m2 =>
  lm (mI m2 21 (va_cpy (m2.1 3) (m2.1 21) (0 : Int32).toNatClampNeg (0 : Int32).toNatClampNeg (6 : Int32).toNatClampNeg)) fun m3 =>
  lm (mI m3 22 (va_cpy (m3.1 4) (m3.1 22) (0 : Int32).toNatClampNeg (0 : Int32).toNatClampNeg (6 : Int32).toNatClampNeg)) fun m4 =>
  fW_become_19_l55 sh R 
    (fun m6 z5 =>
      lm (mI m6 30 (va_cpy (m6.1 12) (m6.1 30) (0 : Int32).toNatClampNeg (0 : Int32).toNatClampNeg (6 : Int32).toNatClampNeg)) fun m7 =>
      lm (mI m7 19 (upd (m7.1 19) 6 (m7.1 1 6))) fun m8 =>
      lm (mI m8 19 (upd (m8.1 19) 7 (m8.1 1 7))) fun m9 =>
      lm (mI m9 19 (upd (m9.1 19) 8 (m9.1 1 8))) fun m10 =>
      lm (mI m10 19 (upd (m10.1 19) 9 (m10.1 1 9))) fun m11 =>
      lm (mI m11 19 (upd (m11.1 19) 10 (m11.1 1 10))) fun m12 =>
      lm (mI m12 31 (va_cpy (m12.1 13) (m12.1 31) (0 : Int32).toNatClampNeg (0 : Int32).toNatClampNeg (6 : Int32).toNatClampNeg)) fun m13 =>
      lm (mI m13 32 (va_cpy (m13.1 14) (m13.1 32) (0 : Int32).toNatClampNeg (0 : Int32).toNatClampNeg (6 : Int32).toNatClampNeg)) fun m14 =>
      lm (mI m14 19 (upd (m14.1 19) 13 (m14.1 1 13))) fun m15 =>
      lm (mI m15 33 (va_cpy (m15.1 15) (m15.1 33) (0 : Int32).toNatClampNeg (0 : Int32).toNatClampNeg (8 : Int32).toNatClampNeg)) fun m16 =>
      mq (R 1 15) fun q18 =>
      some m16
      )
    1000 m4 0
theorem sW_become_19 {sh : Sh} {R : RR} (hF : Fx sh R) (m : MI) : KS (eB 19 1 sh R) false 1 0 0 YX5_become sh R m [.ref 19, .ref 1] (fW_become_19 sh R m ) := by
  refine KS_of pn_X5 (fun _ => Nat.le_of_ble_eq_true rfl) ?_
  change S _ _ _ _ _ _ _ _ _ _ [(0, .ref 19), (1, .ref 1)] [] _
  unfold fW_become_19
  refine o_aload_n (pc := 0) 0 dX5_become_0 rfl rfl <| o_aload_n (pc := 1) 1 dX5_become_1 rfl rfl <| o_getI (pc := 2) (ci := 5) (j := 0) (nn := 0) dX5_become_2 (hF.1 _ _ rfl) rfl (Nat.le_of_ble_eq_true rfl) k_123 rfl <| o_putI (pc := 5) (ci := 5) (j := 0) (nn := 0) dX5_become_5 (hF.1 _ _ rfl) rfl (Nat.le_of_ble_eq_true rfl) k_123 rfl rfl rfl rfl rfl <| ?_
  refine o_lm fun m1 => ?_
  refine o_aload_n (pc := 8) 1 dX5_become_8 rfl rfl <| o_getRc (pc := 9) (a := 2) (ci := 5) (j := 1) (nn := 0) dX5_become_9 (hF.1 _ _ rfl) rfl (Nat.le_of_ble_eq_true rfl) k_126 rfl (hF.2 _ _ _ rfl) <| o_iconst (pc := 12) dX5_become_12 lc_0 <| o_aload_n (pc := 13) 0 dX5_become_13 rfl rfl <| o_getRc (pc := 14) (a := 20) (ci := 5) (j := 1) (nn := 0) dX5_become_14 (hF.1 _ _ rfl) rfl (Nat.le_of_ble_eq_true rfl) k_126 rfl (hF.2 _ _ _ rfl) <| o_iconst (pc := 17) dX5_become_17 lc_0 <| o_bipush (pc := 18) dX5_become_18 lb_6 <| o_cpi (pc := 20) dX5_become_20 k_776 k_395 k_394 k_82 (hF.1 _ _ rfl) (hF.1 _ _ rfl) (show cpk 0 0 6 6 6 = true from rfl) (Nat.le_of_ble_eq_true rfl) (Nat.le_of_ble_eq_true rfl) <| ?_
  refine o_lm fun m2 => ?_
  refine o_aload_n (pc := 23) 1 dX5_become_23 rfl rfl <| o_getRc (pc := 24) (a := 3) (ci := 5) (j := 2) (nn := 0) dX5_become_24 (hF.1 _ _ rfl) rfl (Nat.le_of_ble_eq_true rfl) k_128 rfl (hF.2 _ _ _ rfl) <| o_iconst (pc := 27) dX5_become_27 lc_0 <| o_aload_n (pc := 28) 0 dX5_become_28 rfl rfl <| o_getRc (pc := 29) (a := 21) (ci := 5) (j := 2) (nn := 0) dX5_become_29 (hF.1 _ _ rfl) rfl (Nat.le_of_ble_eq_true rfl) k_128 rfl (hF.2 _ _ _ rfl) <| o_iconst (pc := 32) dX5_become_32 lc_0 <| o_bipush (pc := 33) dX5_become_33 lb_6 <| o_cpi (pc := 35) dX5_become_35 k_776 k_395 k_394 k_82 (hF.1 _ _ rfl) (hF.1 _ _ rfl) (show cpk 0 0 6 6 6 = true from rfl) (Nat.le_of_ble_eq_true rfl) (Nat.le_of_ble_eq_true rfl) <| ?_
  refine o_lm fun m3 => ?_
  refine o_aload_n (pc := 38) 1 dX5_become_38 rfl rfl <| o_getRc (pc := 39) (a := 4) (ci := 5) (j := 3) (nn := 0) dX5_become_39 (hF.1 _ _ rfl) rfl (Nat.le_of_ble_eq_true rfl) k_130 rfl (hF.2 _ _ _ rfl) <| o_iconst (pc := 42) dX5_become_42 lc_0 <| o_aload_n (pc := 43) 0 dX5_become_43 rfl rfl <| o_getRc (pc := 44) (a := 22) (ci := 5) (j := 3) (nn := 0) dX5_become_44 (hF.1 _ _ rfl) rfl (Nat.le_of_ble_eq_true rfl) k_130 rfl (hF.2 _ _ _ rfl) <| o_iconst (pc := 47) dX5_become_47 lc_0 <| o_bipush (pc := 48) dX5_become_48 lb_6 <| o_cpi (pc := 50) dX5_become_50 k_776 k_395 k_394 k_82 (hF.1 _ _ rfl) (hF.1 _ _ rfl) (show cpk 0 0 6 6 6 = true from rfl) (Nat.le_of_ble_eq_true rfl) (Nat.le_of_ble_eq_true rfl) <| ?_
  refine o_lm fun m4 => ?_
  refine o_iconst (pc := 53) dX5_become_53 lc_0 <| o_istore_n (pc := 54) (ls' := [(2, .int 0), (0, .ref 19), (1, .ref 1)]) dX5_become_54 rfl (Nat.le_of_ble_eq_true rfl) rfl <| ?_
  refine o_sub [1, 2, 0] (ls' := [(0, .ref 19), (1, .ref 1), (2, .int 0)]) rfl ?_
  refine sW_become_19_l55 hF  _ ?_ 1000 m4 0
  · intro m6 z5
    refine o_aload_n (pc := 85) 1 dX5_become_85 rfl rfl <| o_getRc (pc := 86) (a := 12) (ci := 5) (j := 5) (nn := 0) dX5_become_86 (hF.1 _ _ rfl) rfl (Nat.le_of_ble_eq_true rfl) k_134 rfl (hF.2 _ _ _ rfl) <| o_iconst (pc := 89) dX5_become_89 lc_0 <| o_aload_n (pc := 90) 0 dX5_become_90 rfl rfl <| o_getRc (pc := 91) (a := 30) (ci := 5) (j := 5) (nn := 0) dX5_become_91 (hF.1 _ _ rfl) rfl (Nat.le_of_ble_eq_true rfl) k_134 rfl (hF.2 _ _ _ rfl) <| o_iconst (pc := 94) dX5_become_94 lc_0 <| o_bipush (pc := 95) dX5_become_95 lb_6 <| o_cpi (pc := 97) dX5_become_97 k_776 k_395 k_394 k_82 (hF.1 _ _ rfl) (hF.1 _ _ rfl) (show cpk 0 0 6 6 6 = true from rfl) (Nat.le_of_ble_eq_true rfl) (Nat.le_of_ble_eq_true rfl) <| ?_
    refine o_lm fun m7 => ?_
    refine o_aload_n (pc := 100) 0 dX5_become_100 rfl rfl <| o_aload_n (pc := 101) 1 dX5_become_101 rfl rfl <| o_getI (pc := 102) (ci := 5) (j := 6) (nn := 0) dX5_become_102 (hF.1 _ _ rfl) rfl (Nat.le_of_ble_eq_true rfl) k_136 rfl <| o_putI (pc := 105) (ci := 5) (j := 6) (nn := 0) dX5_become_105 (hF.1 _ _ rfl) rfl (Nat.le_of_ble_eq_true rfl) k_136 rfl rfl rfl rfl rfl <| ?_
    refine o_lm fun m8 => ?_
    refine o_aload_n (pc := 108) 0 dX5_become_108 rfl rfl <| o_aload_n (pc := 109) 1 dX5_become_109 rfl rfl <| o_getI (pc := 110) (ci := 5) (j := 7) (nn := 0) dX5_become_110 (hF.1 _ _ rfl) rfl (Nat.le_of_ble_eq_true rfl) k_138 rfl <| o_putI (pc := 113) (ci := 5) (j := 7) (nn := 0) dX5_become_113 (hF.1 _ _ rfl) rfl (Nat.le_of_ble_eq_true rfl) k_138 rfl rfl rfl rfl rfl <| ?_
    refine o_lm fun m9 => ?_
    refine o_aload_n (pc := 116) 0 dX5_become_116 rfl rfl <| o_aload_n (pc := 117) 1 dX5_become_117 rfl rfl <| o_getI (pc := 118) (ci := 5) (j := 8) (nn := 0) dX5_become_118 (hF.1 _ _ rfl) rfl (Nat.le_of_ble_eq_true rfl) k_140 rfl <| o_putI (pc := 121) (ci := 5) (j := 8) (nn := 0) dX5_become_121 (hF.1 _ _ rfl) rfl (Nat.le_of_ble_eq_true rfl) k_140 rfl rfl rfl rfl rfl <| ?_
    refine o_lm fun m10 => ?_
    refine o_aload_n (pc := 124) 0 dX5_become_124 rfl rfl <| o_aload_n (pc := 125) 1 dX5_become_125 rfl rfl <| o_getI (pc := 126) (ci := 5) (j := 9) (nn := 0) dX5_become_126 (hF.1 _ _ rfl) rfl (Nat.le_of_ble_eq_true rfl) k_142 rfl <| o_putI (pc := 129) (ci := 5) (j := 9) (nn := 0) dX5_become_129 (hF.1 _ _ rfl) rfl (Nat.le_of_ble_eq_true rfl) k_142 rfl rfl rfl rfl rfl <| ?_
    refine o_lm fun m11 => ?_
    refine o_aload_n (pc := 132) 0 dX5_become_132 rfl rfl <| o_aload_n (pc := 133) 1 dX5_become_133 rfl rfl <| o_getI (pc := 134) (ci := 5) (j := 10) (nn := 0) dX5_become_134 (hF.1 _ _ rfl) rfl (Nat.le_of_ble_eq_true rfl) k_144 rfl <| o_putI (pc := 137) (ci := 5) (j := 10) (nn := 0) dX5_become_137 (hF.1 _ _ rfl) rfl (Nat.le_of_ble_eq_true rfl) k_144 rfl rfl rfl rfl rfl <| ?_
    refine o_lm fun m12 => ?_
    refine o_aload_n (pc := 140) 1 dX5_become_140 rfl rfl <| o_getRc (pc := 141) (a := 13) (ci := 5) (j := 11) (nn := 0) dX5_become_141 (hF.1 _ _ rfl) rfl (Nat.le_of_ble_eq_true rfl) k_146 rfl (hF.2 _ _ _ rfl) <| o_iconst (pc := 144) dX5_become_144 lc_0 <| o_aload_n (pc := 145) 0 dX5_become_145 rfl rfl <| o_getRc (pc := 146) (a := 31) (ci := 5) (j := 11) (nn := 0) dX5_become_146 (hF.1 _ _ rfl) rfl (Nat.le_of_ble_eq_true rfl) k_146 rfl (hF.2 _ _ _ rfl) <| o_iconst (pc := 149) dX5_become_149 lc_0 <| o_bipush (pc := 150) dX5_become_150 lb_6 <| o_cpi (pc := 152) dX5_become_152 k_776 k_395 k_394 k_82 (hF.1 _ _ rfl) (hF.1 _ _ rfl) (show cpk 0 0 6 6 6 = true from rfl) (Nat.le_of_ble_eq_true rfl) (Nat.le_of_ble_eq_true rfl) <| ?_
    refine o_lm fun m13 => ?_
    refine o_aload_n (pc := 155) 1 dX5_become_155 rfl rfl <| o_getRc (pc := 156) (a := 14) (ci := 5) (j := 12) (nn := 0) dX5_become_156 (hF.1 _ _ rfl) rfl (Nat.le_of_ble_eq_true rfl) k_148 rfl (hF.2 _ _ _ rfl) <| o_iconst (pc := 159) dX5_become_159 lc_0 <| o_aload_n (pc := 160) 0 dX5_become_160 rfl rfl <| o_getRc (pc := 161) (a := 32) (ci := 5) (j := 12) (nn := 0) dX5_become_161 (hF.1 _ _ rfl) rfl (Nat.le_of_ble_eq_true rfl) k_148 rfl (hF.2 _ _ _ rfl) <| o_iconst (pc := 164) dX5_become_164 lc_0 <| o_bipush (pc := 165) dX5_become_165 lb_6 <| o_cpi (pc := 167) dX5_become_167 k_776 k_395 k_394 k_82 (hF.1 _ _ rfl) (hF.1 _ _ rfl) (show cpk 0 0 6 6 6 = true from rfl) (Nat.le_of_ble_eq_true rfl) (Nat.le_of_ble_eq_true rfl) <| ?_
    refine o_lm fun m14 => ?_
    refine o_aload_n (pc := 170) 0 dX5_become_170 rfl rfl <| o_aload_n (pc := 171) 1 dX5_become_171 rfl rfl <| o_getI (pc := 172) (ci := 5) (j := 13) (nn := 0) dX5_become_172 (hF.1 _ _ rfl) rfl (Nat.le_of_ble_eq_true rfl) k_150 rfl <| o_putI (pc := 175) (ci := 5) (j := 13) (nn := 0) dX5_become_175 (hF.1 _ _ rfl) rfl (Nat.le_of_ble_eq_true rfl) k_150 rfl rfl rfl rfl rfl <| ?_
    refine o_lm fun m15 => ?_
    refine o_aload_n (pc := 178) 1 dX5_become_178 rfl rfl <| o_getRc (pc := 179) (a := 15) (ci := 5) (j := 14) (nn := 0) dX5_become_179 (hF.1 _ _ rfl) rfl (Nat.le_of_ble_eq_true rfl) k_152 rfl (hF.2 _ _ _ rfl) <| o_iconst (pc := 182) dX5_become_182 lc_0 <| o_aload_n (pc := 183) 0 dX5_become_183 rfl rfl <| o_getRc (pc := 184) (a := 33) (ci := 5) (j := 14) (nn := 0) dX5_become_184 (hF.1 _ _ rfl) rfl (Nat.le_of_ble_eq_true rfl) k_152 rfl (hF.2 _ _ _ rfl) <| o_iconst (pc := 187) dX5_become_187 lc_0 <| o_bipush (pc := 188) dX5_become_188 lb_8 <| o_cpi (pc := 190) dX5_become_190 k_776 k_395 k_394 k_82 (hF.1 _ _ rfl) (hF.1 _ _ rfl) (show cpk 0 0 8 8 8 = true from rfl) (Nat.le_of_ble_eq_true rfl) (Nat.le_of_ble_eq_true rfl) <| ?_
    refine o_lm fun m16 => ?_
    refine o_aload_n (pc := 193) 0 dX5_become_193 rfl rfl <| o_aload_n (pc := 194) 1 dX5_become_194 rfl rfl <| ?_
    refine S_mq fun q18 h17 => ?_
    refine o_getRc (pc := 195) (a := q18) (ci := 5) (j := 15) (nn := 0) dX5_become_195 (hF.1 _ _ rfl) rfl (Nat.le_of_ble_eq_true rfl) k_154 rfl h17 <| o_putR (pc := 198) (r := some q18) (ci := 5) (j := 15) (nn := 0) dX5_become_198 (hF.1 _ _ rfl) rfl (Nat.le_of_ble_eq_true rfl) k_154 rfl rfl rfl (fun a => by cases a <;> rfl) <| ?_
    exact o_vret (pc := 201) dX5_become_201 rfl (by unfold eB eV; rw [h17])
def fW_become_1_l55 (sh : Sh) (R : RR) (k0_0 : MI → Int32 → Option (MI)) : Nat → MI → Int32 → Option (MI)
  | 0, _, _ => none
  | n0 + 1, m, v2 =>
    if 6 ≤ v2 then
      k0_0 m v2
    else
      if ck v2 6 = true then
        mq (R 29 v2.toNatClampNeg) fun q4 =>
        if ck v2 6 = true then
          mq (R 11 v2.toNatClampNeg) fun q7 =>
          if kA sh q4 0 = true then
            if kA sh q7 0 = true then
              if cpk 0 0 4 (lenA sh q4) (lenA sh q7) = true then
                lm (mI m q7 (va_cpy (m.1 q4) (m.1 q7) (0 : Int32).toNatClampNeg (0 : Int32).toNatClampNeg (4 : Int32).toNatClampNeg)) fun m11 =>
                lt (v2 + 1) fun x12 =>
                fW_become_1_l55 sh R k0_0 n0 m11 x12
              else none
            else none
          else none
        else none
      else none
theorem sW_become_1_l55 {sh : Sh} {R : RR} (hF : Fx sh R) (k0_0 : MI → Int32 → Option (MI)) (hk0_0 : ∀ (m : MI) (v2 : Int32) , S (eB 1 19 sh R) false 1 0 0 YX5_become sh R m 85 [(0, .ref 1), (1, .ref 19), (2, .int v2)] [] (k0_0 m v2)) : ∀ (n : Nat) (m : MI) (v2 : Int32) , S (eB 1 19 sh R) false 1 0 0 YX5_become sh R m 55 [(0, .ref 1), (1, .ref 19), (2, .int v2)] [] (fW_become_1_l55 sh R k0_0 n m v2) := by
  intro n
  induction n with
  | zero => intros; exact S_none
  | succ n0 ih0 =>
    intro m v2
    rw [fW_become_1_l55]
    refine o_iload_n (pc := 55) 2 dX5_become_55 rfl rfl <| o_bipush (pc := 56) dX5_become_56 lb_6 <| ?_
    refine o_icmp_ge (pc := 58) (tgt := 85) dX5_become_58 rfl (fun h1 => ?_) (fun h1 => ?_)
    · exact hk0_0 m v2
    · refine o_aload_n (pc := 61) 1 dX5_become_61 rfl rfl <| o_getRc (pc := 62) (a := 29) (ci := 5) (j := 4) (nn := 0) dX5_become_62 (hF.1 _ _ rfl) rfl (Nat.le_of_ble_eq_true rfl) k_132 rfl (hF.2 _ _ _ rfl) <| o_iload_n (pc := 65) 2 dX5_become_65 rfl rfl <| ?_
      refine S_ck fun h2 => ?_
      refine S_mq fun q4 h3 => ?_
      refine o_aaldI (pc := 66) (r := some q4) (nn := 6) dX5_become_66 (hF.1 _ _ rfl) (ck_in h2) h3 <| o_iconst (pc := 67) dX5_become_67 lc_0 <| o_aload_n (pc := 68) 0 dX5_become_68 rfl rfl <| o_getRc (pc := 69) (a := 11) (ci := 5) (j := 4) (nn := 0) dX5_become_69 (hF.1 _ _ rfl) rfl (Nat.le_of_ble_eq_true rfl) k_132 rfl (hF.2 _ _ _ rfl) <| o_iload_n (pc := 72) 2 dX5_become_72 rfl rfl <| ?_
      refine S_ck fun h5 => ?_
      refine S_mq fun q7 h6 => ?_
      refine o_aaldI (pc := 73) (r := some q7) (nn := 6) dX5_become_73 (hF.1 _ _ rfl) (ck_in h5) h6 <| o_iconst (pc := 74) dX5_become_74 lc_0 <| o_iconst (pc := 75) dX5_become_75 lc_4 <| ?_
      refine S_ck fun h8 => ?_
      refine S_ck fun h9 => ?_
      refine S_ck fun h10 => ?_
      refine o_cpi (pc := 76) dX5_become_76 k_776 k_395 k_394 k_82 (kA_ok h8) (kA_ok h9) h10 (Nat.le_of_ble_eq_true rfl) (Nat.le_of_ble_eq_true rfl) <| ?_
      refine o_lm fun m11 => ?_
      refine o_iinc (pc := 79) 2 (v := v2 + 1) (ls' := [(2, .int (v2 + 1)), (0, .ref 1), (1, .ref 19)]) dX5_become_79 rfl rfl (Nat.le_of_ble_eq_true rfl) rfl <| ?_
      refine o_ltL (ls := fun x12 => [(2, .int x12), (0, .ref 1), (1, .ref 19)]) fun x12 => ?_
      refine o_goto (pc := 82) (tgt := 55) dX5_become_82 rfl <| ?_
      refine o_sub [1, 2, 0] (ls' := [(0, .ref 1), (1, .ref 19), (2, .int x12)]) rfl ?_
      exact ih0 m11 x12
def fW_become_1 (sh : Sh) (R : RR) (m : MI) : Option (MI) :=
  lm (mI m 1 (upd (m.1 1) 0 (m.1 19 0))) fun m1 =>
  lm (mI m1 2 (va_cpy (m1.1 20) (m1.1 2) (0 : Int32).toNatClampNeg (0 : Int32).toNatClampNeg (6 : Int32).toNatClampNeg)) fun m2 =>
  lm (mI m2 3 (va_cpy (m2.1 21) (m2.1 3) (0 : Int32).toNatClampNeg (0 : Int32).toNatClampNeg (6 : Int32).toNatClampNeg)) fun m3 =>
  lm (mI m3 4 (va_cpy (m3.1 22) (m3.1 4) (0 : Int32).toNatClampNeg (0 : Int32).toNatClampNeg (6 : Int32).toNatClampNeg)) fun m4 =>
  fW_become_1_l55 sh R 
    (fun m6 z5 =>
      lm (mI m6 12 (va_cpy (m6.1 30) (m6.1 12) (0 : Int32).toNatClampNeg (0 : Int32).toNatClampNeg (6 : Int32).toNatClampNeg)) fun m7 =>
      lm (mI m7 1 (upd (m7.1 1) 6 (m7.1 19 6))) fun m8 =>
      lm (mI m8 1 (upd (m8.1 1) 7 (m8.1 19 7))) fun m9 =>
      lm (mI m9 1 (upd (m9.1 1) 8 (m9.1 19 8))) fun m10 =>
      lm (mI m10 1 (upd (m10.1 1) 9 (m10.1 19 9))) fun m11 =>
      lm (mI m11 1 (upd (m11.1 1) 10 (m11.1 19 10))) fun m12 =>
      lm (mI m12 13 (va_cpy (m12.1 31) (m12.1 13) (0 : Int32).toNatClampNeg (0 : Int32).toNatClampNeg (6 : Int32).toNatClampNeg)) fun m13 =>
      lm (mI m13 14 (va_cpy (m13.1 32) (m13.1 14) (0 : Int32).toNatClampNeg (0 : Int32).toNatClampNeg (6 : Int32).toNatClampNeg)) fun m14 =>
      lm (mI m14 1 (upd (m14.1 1) 13 (m14.1 19 13))) fun m15 =>
      lm (mI m15 15 (va_cpy (m15.1 33) (m15.1 15) (0 : Int32).toNatClampNeg (0 : Int32).toNatClampNeg (8 : Int32).toNatClampNeg)) fun m16 =>
      mq (R 19 15) fun q18 =>
      some m16
      )
    1000 m4 0
theorem sW_become_1 {sh : Sh} {R : RR} (hF : Fx sh R) (m : MI) : KS (eB 1 19 sh R) false 1 0 0 YX5_become sh R m [.ref 1, .ref 19] (fW_become_1 sh R m ) := by
  refine KS_of pn_X5 (fun _ => Nat.le_of_ble_eq_true rfl) ?_
  change S _ _ _ _ _ _ _ _ _ _ [(0, .ref 1), (1, .ref 19)] [] _
  unfold fW_become_1
  refine o_aload_n (pc := 0) 0 dX5_become_0 rfl rfl <| o_aload_n (pc := 1) 1 dX5_become_1 rfl rfl <| o_getI (pc := 2) (ci := 5) (j := 0) (nn := 0) dX5_become_2 (hF.1 _ _ rfl) rfl (Nat.le_of_ble_eq_true rfl) k_123 rfl <| o_putI (pc := 5) (ci := 5) (j := 0) (nn := 0) dX5_become_5 (hF.1 _ _ rfl) rfl (Nat.le_of_ble_eq_true rfl) k_123 rfl rfl rfl rfl rfl <| ?_
  refine o_lm fun m1 => ?_
  refine o_aload_n (pc := 8) 1 dX5_become_8 rfl rfl <| o_getRc (pc := 9) (a := 20) (ci := 5) (j := 1) (nn := 0) dX5_become_9 (hF.1 _ _ rfl) rfl (Nat.le_of_ble_eq_true rfl) k_126 rfl (hF.2 _ _ _ rfl) <| o_iconst (pc := 12) dX5_become_12 lc_0 <| o_aload_n (pc := 13) 0 dX5_become_13 rfl rfl <| o_getRc (pc := 14) (a := 2) (ci := 5) (j := 1) (nn := 0) dX5_become_14 (hF.1 _ _ rfl) rfl (Nat.le_of_ble_eq_true rfl) k_126 rfl (hF.2 _ _ _ rfl) <| o_iconst (pc := 17) dX5_become_17 lc_0 <| o_bipush (pc := 18) dX5_become_18 lb_6 <| o_cpi (pc := 20) dX5_become_20 k_776 k_395 k_394 k_82 (hF.1 _ _ rfl) (hF.1 _ _ rfl) (show cpk 0 0 6 6 6 = true from rfl) (Nat.le_of_ble_eq_true rfl) (Nat.le_of_ble_eq_true rfl) <| ?_
  refine o_lm fun m2 => ?_
  refine o_aload_n (pc := 23) 1 dX5_become_23 rfl rfl <| o_getRc (pc := 24) (a := 21) (ci := 5) (j := 2) (nn := 0) dX5_become_24 (hF.1 _ _ rfl) rfl (Nat.le_of_ble_eq_true rfl) k_128 rfl (hF.2 _ _ _ rfl) <| o_iconst (pc := 27) dX5_become_27 lc_0 <| o_aload_n (pc := 28) 0 dX5_become_28 rfl rfl <| o_getRc (pc := 29) (a := 3) (ci := 5) (j := 2) (nn := 0) dX5_become_29 (hF.1 _ _ rfl) rfl (Nat.le_of_ble_eq_true rfl) k_128 rfl (hF.2 _ _ _ rfl) <| o_iconst (pc := 32) dX5_become_32 lc_0 <| o_bipush (pc := 33) dX5_become_33 lb_6 <| o_cpi (pc := 35) dX5_become_35 k_776 k_395 k_394 k_82 (hF.1 _ _ rfl) (hF.1 _ _ rfl) (show cpk 0 0 6 6 6 = true from rfl) (Nat.le_of_ble_eq_true rfl) (Nat.le_of_ble_eq_true rfl) <| ?_
  refine o_lm fun m3 => ?_
  refine o_aload_n (pc := 38) 1 dX5_become_38 rfl rfl <| o_getRc (pc := 39) (a := 22) (ci := 5) (j := 3) (nn := 0) dX5_become_39 (hF.1 _ _ rfl) rfl (Nat.le_of_ble_eq_true rfl) k_130 rfl (hF.2 _ _ _ rfl) <| o_iconst (pc := 42) dX5_become_42 lc_0 <| o_aload_n (pc := 43) 0 dX5_become_43 rfl rfl <| o_getRc (pc := 44) (a := 4) (ci := 5) (j := 3) (nn := 0) dX5_become_44 (hF.1 _ _ rfl) rfl (Nat.le_of_ble_eq_true rfl) k_130 rfl (hF.2 _ _ _ rfl) <| o_iconst (pc := 47) dX5_become_47 lc_0 <| o_bipush (pc := 48) dX5_become_48 lb_6 <| o_cpi (pc := 50) dX5_become_50 k_776 k_395 k_394 k_82 (hF.1 _ _ rfl) (hF.1 _ _ rfl) (show cpk 0 0 6 6 6 = true from rfl) (Nat.le_of_ble_eq_true rfl) (Nat.le_of_ble_eq_true rfl) <| ?_
  refine o_lm fun m4 => ?_
  refine o_iconst (pc := 53) dX5_become_53 lc_0 <| o_istore_n (pc := 54) (ls' := [(2, .int 0), (0, .ref 1), (1, .ref 19)]) dX5_become_54 rfl (Nat.le_of_ble_eq_true rfl) rfl <| ?_
  refine o_sub [1, 2, 0] (ls' := [(0, .ref 1), (1, .ref 19), (2, .int 0)]) rfl ?_
  refine sW_become_1_l55 hF  _ ?_ 1000 m4 0
  · intro m6 z5
    refine o_aload_n (pc := 85) 1 dX5_become_85 rfl rfl <| o_getRc (pc := 86) (a := 30) (ci := 5) (j := 5) (nn := 0) dX5_become_86 (hF.1 _ _ rfl) rfl (Nat.le_of_ble_eq_true rfl) k_134 rfl (hF.2 _ _ _ rfl) <| o_iconst (pc := 89) dX5_become_89 lc_0 <| o_aload_n (pc := 90) 0 dX5_become_90 rfl rfl <| o_getRc (pc := 91) (a := 12) (ci := 5) (j := 5) (nn := 0) dX5_become_91 (hF.1 _ _ rfl) rfl (Nat.le_of_ble_eq_true rfl) k_134 rfl (hF.2 _ _ _ rfl) <| o_iconst (pc := 94) dX5_become_94 lc_0 <| o_bipush (pc := 95) dX5_become_95 lb_6 <| o_cpi (pc := 97) dX5_become_97 k_776 k_395 k_394 k_82 (hF.1 _ _ rfl) (hF.1 _ _ rfl) (show cpk 0 0 6 6 6 = true from rfl) (Nat.le_of_ble_eq_true rfl) (Nat.le_of_ble_eq_true rfl) <| ?_
    refine o_lm fun m7 => ?_
    refine o_aload_n (pc := 100) 0 dX5_become_100 rfl rfl <| o_aload_n (pc := 101) 1 dX5_become_101 rfl rfl <| o_getI (pc := 102) (ci := 5) (j := 6) (nn := 0) dX5_become_102 (hF.1 _ _ rfl) rfl (Nat.le_of_ble_eq_true rfl) k_136 rfl <| o_putI (pc := 105) (ci := 5) (j := 6) (nn := 0) dX5_become_105 (hF.1 _ _ rfl) rfl (Nat.le_of_ble_eq_true rfl) k_136 rfl rfl rfl rfl rfl <| ?_
    refine o_lm fun m8 => ?_
    refine o_aload_n (pc := 108) 0 dX5_become_108 rfl rfl <| o_aload_n (pc := 109) 1 dX5_become_109 rfl rfl <| o_getI (pc := 110) (ci := 5) (j := 7) (nn := 0) dX5_become_110 (hF.1 _ _ rfl) rfl (Nat.le_of_ble_eq_true rfl) k_138 rfl <| o_putI (pc := 113) (ci := 5) (j := 7) (nn := 0) dX5_become_113 (hF.1 _ _ rfl) rfl (Nat.le_of_ble_eq_true rfl) k_138 rfl rfl rfl rfl rfl <| ?_
    refine o_lm fun m9 => ?_
    refine o_aload_n (pc := 116) 0 dX5_become_116 rfl rfl <| o_aload_n (pc := 117) 1 dX5_become_117 rfl rfl <| o_getI (pc := 118) (ci := 5) (j := 8) (nn := 0) dX5_become_118 (hF.1 _ _ rfl) rfl (Nat.le_of_ble_eq_true rfl) k_140 rfl <| o_putI (pc := 121) (ci := 5) (j := 8) (nn := 0) dX5_become_121 (hF.1 _ _ rfl) rfl (Nat.le_of_ble_eq_true rfl) k_140 rfl rfl rfl rfl rfl <| ?_
    refine o_lm fun m10 => ?_
    refine o_aload_n (pc := 124) 0 dX5_become_124 rfl rfl <| o_aload_n (pc := 125) 1 dX5_become_125 rfl rfl <| o_getI (pc := 126) (ci := 5) (j := 9) (nn := 0) dX5_become_126 (hF.1 _ _ rfl) rfl (Nat.le_of_ble_eq_true rfl) k_142 rfl <| o_putI (pc := 129) (ci := 5) (j := 9) (nn := 0) dX5_become_129 (hF.1 _ _ rfl) rfl (Nat.le_of_ble_eq_true rfl) k_142 rfl rfl rfl rfl rfl <| ?_
    refine o_lm fun m11 => ?_
    refine o_aload_n (pc := 132) 0 dX5_become_132 rfl rfl <| o_aload_n (pc := 133) 1 dX5_become_133 rfl rfl <| o_getI (pc := 134) (ci := 5) (j := 10) (nn := 0) dX5_become_134 (hF.1 _ _ rfl) rfl (Nat.le_of_ble_eq_true rfl) k_144 rfl <| o_putI (pc := 137) (ci := 5) (j := 10) (nn := 0) dX5_become_137 (hF.1 _ _ rfl) rfl (Nat.le_of_ble_eq_true rfl) k_144 rfl rfl rfl rfl rfl <| ?_
    refine o_lm fun m12 => ?_
    refine o_aload_n (pc := 140) 1 dX5_become_140 rfl rfl <| o_getRc (pc := 141) (a := 31) (ci := 5) (j := 11) (nn := 0) dX5_become_141 (hF.1 _ _ rfl) rfl (Nat.le_of_ble_eq_true rfl) k_146 rfl (hF.2 _ _ _ rfl) <| o_iconst (pc := 144) dX5_become_144 lc_0 <| o_aload_n (pc := 145) 0 dX5_become_145 rfl rfl <| o_getRc (pc := 146) (a := 13) (ci := 5) (j := 11) (nn := 0) dX5_become_146 (hF.1 _ _ rfl) rfl (Nat.le_of_ble_eq_true rfl) k_146 rfl (hF.2 _ _ _ rfl) <| o_iconst (pc := 149) dX5_become_149 lc_0 <| o_bipush (pc := 150) dX5_become_150 lb_6 <| o_cpi (pc := 152) dX5_become_152 k_776 k_395 k_394 k_82 (hF.1 _ _ rfl) (hF.1 _ _ rfl) (show cpk 0 0 6 6 6 = true from rfl) (Nat.le_of_ble_eq_true rfl) (Nat.le_of_ble_eq_true rfl) <| ?_
    refine o_lm fun m13 => ?_
    refine o_aload_n (pc := 155) 1 dX5_become_155 rfl rfl <| o_getRc (pc := 156) (a := 32) (ci := 5) (j := 12) (nn := 0) dX5_become_156 (hF.1 _ _ rfl) rfl (Nat.le_of_ble_eq_true rfl) k_148 rfl (hF.2 _ _ _ rfl) <| o_iconst (pc := 159) dX5_become_159 lc_0 <| o_aload_n (pc := 160) 0 dX5_become_160 rfl rfl <| o_getRc (pc := 161) (a := 14) (ci := 5) (j := 12) (nn := 0) dX5_become_161 (hF.1 _ _ rfl) rfl (Nat.le_of_ble_eq_true rfl) k_148 rfl (hF.2 _ _ _ rfl) <| o_iconst (pc := 164) dX5_become_164 lc_0 <| o_bipush (pc := 165) dX5_become_165 lb_6 <| o_cpi (pc := 167) dX5_become_167 k_776 k_395 k_394 k_82 (hF.1 _ _ rfl) (hF.1 _ _ rfl) (show cpk 0 0 6 6 6 = true from rfl) (Nat.le_of_ble_eq_true rfl) (Nat.le_of_ble_eq_true rfl) <| ?_
    refine o_lm fun m14 => ?_
    refine o_aload_n (pc := 170) 0 dX5_become_170 rfl rfl <| o_aload_n (pc := 171) 1 dX5_become_171 rfl rfl <| o_getI (pc := 172) (ci := 5) (j := 13) (nn := 0) dX5_become_172 (hF.1 _ _ rfl) rfl (Nat.le_of_ble_eq_true rfl) k_150 rfl <| o_putI (pc := 175) (ci := 5) (j := 13) (nn := 0) dX5_become_175 (hF.1 _ _ rfl) rfl (Nat.le_of_ble_eq_true rfl) k_150 rfl rfl rfl rfl rfl <| ?_
    refine o_lm fun m15 => ?_
    refine o_aload_n (pc := 178) 1 dX5_become_178 rfl rfl <| o_getRc (pc := 179) (a := 33) (ci := 5) (j := 14) (nn := 0) dX5_become_179 (hF.1 _ _ rfl) rfl (Nat.le_of_ble_eq_true rfl) k_152 rfl (hF.2 _ _ _ rfl) <| o_iconst (pc := 182) dX5_become_182 lc_0 <| o_aload_n (pc := 183) 0 dX5_become_183 rfl rfl <| o_getRc (pc := 184) (a := 15) (ci := 5) (j := 14) (nn := 0) dX5_become_184 (hF.1 _ _ rfl) rfl (Nat.le_of_ble_eq_true rfl) k_152 rfl (hF.2 _ _ _ rfl) <| o_iconst (pc := 187) dX5_become_187 lc_0 <| o_bipush (pc := 188) dX5_become_188 lb_8 <| o_cpi (pc := 190) dX5_become_190 k_776 k_395 k_394 k_82 (hF.1 _ _ rfl) (hF.1 _ _ rfl) (show cpk 0 0 8 8 8 = true from rfl) (Nat.le_of_ble_eq_true rfl) (Nat.le_of_ble_eq_true rfl) <| ?_
    refine o_lm fun m16 => ?_
    refine o_aload_n (pc := 193) 0 dX5_become_193 rfl rfl <| o_aload_n (pc := 194) 1 dX5_become_194 rfl rfl <| ?_
    refine S_mq fun q18 h17 => ?_
    refine o_getRc (pc := 195) (a := q18) (ci := 5) (j := 15) (nn := 0) dX5_become_195 (hF.1 _ _ rfl) rfl (Nat.le_of_ble_eq_true rfl) k_154 rfl h17 <| o_putR (pc := 198) (r := some q18) (ci := 5) (j := 15) (nn := 0) dX5_become_198 (hF.1 _ _ rfl) rfl (Nat.le_of_ble_eq_true rfl) k_154 rfl rfl rfl (fun a => by cases a <;> rfl) <| ?_
    exact o_vret (pc := 201) dX5_become_201 rfl (by unfold eB eV; rw [h17])
