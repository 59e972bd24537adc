def fA_work (rec : MI → Int32 → Int32 → Int32 → Int32 → Option (Int32 × MI)) (m : MI) (a : Int32) (b : Int32) (c : Int32) : Option (Int32 × MI) :=
  if a = 10 then
    some (b + (m.1 46 2), m)
  else
    if a = 11 then
      (rec m (m.1 46 3) 0 b c).bind fun r3 =>
      some (r3.1 - (r3.2.1 46 4), r3.2)
    else
      if a = 12 then
        (rec m (m.1 46 3) 1 b c).bind fun r5 =>
        some (r5.1 * 2, r5.2)
      else
        if a = 20 then
          (rec m (tabA (1 : Int32).toNatClampNeg) 1 b c).bind fun r7 =>
          some (r7.1 ^^^ (6 : Int32), r7.2)
        else
          if a = 30 then
            (rec m (tabA (2 : Int32).toNatClampNeg) 0 (b * 3) c).bind fun r9 =>
            some (r9.1, r9.2)
          else
            if a = 40 then
              (rec m (tabA (3 : Int32).toNatClampNeg) 2 b c).bind fun r11 =>
              (rec r11.2 (r11.2.1 46 3) 1 1 c).bind fun r12 =>
              some (r11.1 + r12.1, r12.2)
            else
              if a = 50 then
                (rec m (tabA (4 : Int32).toNatClampNeg) 0 b c).bind fun r14 =>
                some (-r14.1, r14.2)
              else
                if a = 51 then
                  (rec m (tabA (4 : Int32).toNatClampNeg) 1 (b + 1) c).bind fun r16 =>
                  some (r16.1, r16.2)
                else
                  if a = 60 then
                    (rec m (tabA (5 : Int32).toNatClampNeg) 2 (b - (m.1 46 2)) c).bind fun r18 =>
                    some (r18.1, r18.2)
                  else
                    if a = 70 then
                      (rec m (tabA (6 : Int32).toNatClampNeg) 1 b c).bind fun r20 =>
                      (rec r20.2 (tabA (6 : Int32).toNatClampNeg) 0 2 c).bind fun r21 =>
                      some (r20.1 + r21.1, r21.2)
                    else
                      if a = 71 then
                        (rec m (tabA (6 : Int32).toNatClampNeg) 0 b c).bind fun r23 =>
                        some (r23.1 ^^^ (r23.2.1 46 4), r23.2)
                      else
                        some (0, m)
theorem sA_work {sh : Sh} {R : RR} (hF : Fx sh R) {rec : MI → Int32 → Int32 → Int32 → Int32 → Option (Int32 × MI)} {dr : Nat} (hrec : ∀ (m : MI) (a : Int32) (b : Int32) (c : Int32) (e : Int32) , KS (eI sh R) false dr 0 0 YX0_run sh R m [.ref 46, .int a, .int b, .int c, .int e] (rec m a b c e)) (m : MI) (a : Int32) (b : Int32) (c : Int32) : KS (eI sh R) false (dr + 1) 0 0 YX0_work sh R m [.ref 46, .int a, .int b, .int c] (fA_work rec m a b c) := by
  refine KS_of pn_X0 (fun _ => Nat.le_of_ble_eq_true rfl) ?_
  change S _ _ _ _ _ _ _ _ _ _ [(0, .ref 46), (1, .int a), (2, .int b), (3, .int c)] [] _
  unfold fA_work
  refine o_iload_n (pc := 0) 1 dX0_work_0 rfl rfl <| ?_
  refine S_ite (fun h1 => ?_) (fun h1 => ?_)
  · refine o_lookup (pc := 1) (tgt := 100) (off := 99) dX0_work_1 (by decide) (by rw [h1]; decide) rfl ?_
    refine o_iload_n (pc := 100) 2 dX0_work_100 rfl rfl <| o_aload_n (pc := 101) 0 dX0_work_101 rfl rfl <| o_getI (pc := 102) (ci := 0) (j := 2) (nn := 0) dX0_work_102 (hF.1 _ _ rfl) rfl (Nat.le_of_ble_eq_true rfl) k_259 rfl <| o_iadd (pc := 105) dX0_work_105 <| ?_
    exact o_iret (pc := 106) dX0_work_106 rfl rfl
  refine S_ite (fun h2 => ?_) (fun h2 => ?_)
  · refine o_lookup (pc := 1) (tgt := 107) (off := 106) dX0_work_1 (by decide) (by rw [h2]; decide) rfl ?_
    refine o_aload_n (pc := 107) 0 dX0_work_107 rfl rfl <| o_aload_n (pc := 108) 0 dX0_work_108 rfl rfl <| o_getI (pc := 109) (ci := 0) (j := 3) (nn := 0) dX0_work_109 (hF.1 _ _ rfl) rfl (Nat.le_of_ble_eq_true rfl) k_260 rfl <| o_iconst (pc := 112) dX0_work_112 lc_0 <| o_iload_n (pc := 113) 2 dX0_work_113 rfl rfl <| o_iload_n (pc := 114) 3 dX0_work_114 rfl rfl <| ?_
    refine o_callVI (Y2 := YX0_run) (pc := 115) (av := [.int (m.1 46 3), .int 0, .int b, .int c]) (rest := []) dX0_work_115 k_789 cm_X0_run (hrec m (m.1 46 3) 0 b c) (hF.1 _ _ rfl) rfl rfl (Nat.le_of_ble_eq_true rfl) (by omega) fun r3 => ?_
    refine o_aload_n (pc := 118) 0 dX0_work_118 rfl rfl <| o_getI (pc := 119) (ci := 0) (j := 4) (nn := 0) dX0_work_119 (hF.1 _ _ rfl) rfl (Nat.le_of_ble_eq_true rfl) k_261 rfl <| o_isub (pc := 122) dX0_work_122 <| ?_
    exact o_iret (pc := 123) dX0_work_123 rfl rfl
  refine S_ite (fun h4 => ?_) (fun h4 => ?_)
  · refine o_lookup (pc := 1) (tgt := 124) (off := 123) dX0_work_1 (by decide) (by rw [h4]; decide) rfl ?_
    refine o_aload_n (pc := 124) 0 dX0_work_124 rfl rfl <| o_aload_n (pc := 125) 0 dX0_work_125 rfl rfl <| o_getI (pc := 126) (ci := 0) (j := 3) (nn := 0) dX0_work_126 (hF.1 _ _ rfl) rfl (Nat.le_of_ble_eq_true rfl) k_260 rfl <| o_iconst (pc := 129) dX0_work_129 lc_1 <| o_iload_n (pc := 130) 2 dX0_work_130 rfl rfl <| o_iload_n (pc := 131) 3 dX0_work_131 rfl rfl <| ?_
    refine o_callVI (Y2 := YX0_run) (pc := 132) (av := [.int (m.1 46 3), .int 1, .int b, .int c]) (rest := []) dX0_work_132 k_789 cm_X0_run (hrec m (m.1 46 3) 1 b c) (hF.1 _ _ rfl) rfl rfl (Nat.le_of_ble_eq_true rfl) (by omega) fun r5 => ?_
    refine o_iconst (pc := 135) dX0_work_135 lc_2 <| o_imul (pc := 136) dX0_work_136 <| ?_
    exact o_iret (pc := 137) dX0_work_137 rfl rfl
  refine S_ite (fun h6 => ?_) (fun h6 => ?_)
  · refine o_lookup (pc := 1) (tgt := 138) (off := 137) dX0_work_1 (by decide) (by rw [h6]; decide) rfl ?_
    refine o_aload_n (pc := 138) 0 dX0_work_138 rfl rfl <| o_getsAN (pc := 139) rfl dX0_work_139 <| o_iconst (pc := 142) dX0_work_142 lc_1 <| o_tabA (pc := 143) dX0_work_143 (ck_in rfl) <| o_iconst (pc := 144) dX0_work_144 lc_1 <| o_iload_n (pc := 145) 2 dX0_work_145 rfl rfl <| o_iload_n (pc := 146) 3 dX0_work_146 rfl rfl <| ?_
    refine o_callVI (Y2 := YX0_run) (pc := 147) (av := [.int (tabA (1 : Int32).toNatClampNeg), .int 1, .int b, .int c]) (rest := []) dX0_work_147 k_789 cm_X0_run (hrec m (tabA (1 : Int32).toNatClampNeg) 1 b c) (hF.1 _ _ rfl) rfl rfl (Nat.le_of_ble_eq_true rfl) (by omega) fun r7 => ?_
    refine o_bipush (pc := 150) dX0_work_150 lb_6 <| o_ixor (pc := 152) dX0_work_152 <| ?_
    exact o_iret (pc := 153) dX0_work_153 rfl rfl
  refine S_ite (fun h8 => ?_) (fun h8 => ?_)
  · refine o_lookup (pc := 1) (tgt := 154) (off := 153) dX0_work_1 (by decide) (by rw [h8]; decide) rfl ?_
    refine o_aload_n (pc := 154) 0 dX0_work_154 rfl rfl <| o_getsAN (pc := 155) rfl dX0_work_155 <| o_iconst (pc := 158) dX0_work_158 lc_2 <| o_tabA (pc := 159) dX0_work_159 (ck_in rfl) <| o_iconst (pc := 160) dX0_work_160 lc_0 <| o_iload_n (pc := 161) 2 dX0_work_161 rfl rfl <| o_iconst (pc := 162) dX0_work_162 lc_3 <| o_imul (pc := 163) dX0_work_163 <| o_iload_n (pc := 164) 3 dX0_work_164 rfl rfl <| ?_
    refine o_callVI (Y2 := YX0_run) (pc := 165) (av := [.int (tabA (2 : Int32).toNatClampNeg), .int 0, .int (b * 3), .int c]) (rest := []) dX0_work_165 k_789 cm_X0_run (hrec m (tabA (2 : Int32).toNatClampNeg) 0 (b * 3) c) (hF.1 _ _ rfl) rfl rfl (Nat.le_of_ble_eq_true rfl) (by omega) fun r9 => ?_
    exact o_iret (pc := 168) dX0_work_168 rfl rfl
  refine S_ite (fun h10 => ?_) (fun h10 => ?_)
  · refine o_lookup (pc := 1) (tgt := 169) (off := 168) dX0_work_1 (by decide) (by rw [h10]; decide) rfl ?_
    refine o_aload_n (pc := 169) 0 dX0_work_169 rfl rfl <| o_getsAN (pc := 170) rfl dX0_work_170 <| o_iconst (pc := 173) dX0_work_173 lc_3 <| o_tabA (pc := 174) dX0_work_174 (ck_in rfl) <| o_iconst (pc := 175) dX0_work_175 lc_2 <| o_iload_n (pc := 176) 2 dX0_work_176 rfl rfl <| o_iload_n (pc := 177) 3 dX0_work_177 rfl rfl <| ?_
    refine o_callVI (Y2 := YX0_run) (pc := 178) (av := [.int (tabA (3 : Int32).toNatClampNeg), .int 2, .int b, .int c]) (rest := []) dX0_work_178 k_789 cm_X0_run (hrec m (tabA (3 : Int32).toNatClampNeg) 2 b c) (hF.1 _ _ rfl) rfl rfl (Nat.le_of_ble_eq_true rfl) (by omega) fun r11 => ?_
    refine o_aload_n (pc := 181) 0 dX0_work_181 rfl rfl <| o_aload_n (pc := 182) 0 dX0_work_182 rfl rfl <| o_getI (pc := 183) (ci := 0) (j := 3) (nn := 0) dX0_work_183 (hF.1 _ _ rfl) rfl (Nat.le_of_ble_eq_true rfl) k_260 rfl <| o_iconst (pc := 186) dX0_work_186 lc_1 <| o_iconst (pc := 187) dX0_work_187 lc_1 <| o_iload_n (pc := 188) 3 dX0_work_188 rfl rfl <| ?_
    refine o_callVI (Y2 := YX0_run) (pc := 189) (av := [.int (r11.2.1 46 3), .int 1, .int 1, .int c]) (rest := [.int r11.1]) dX0_work_189 k_789 cm_X0_run (hrec r11.2 (r11.2.1 46 3) 1 1 c) (hF.1 _ _ rfl) rfl rfl (Nat.le_of_ble_eq_true rfl) (by omega) fun r12 => ?_
    refine o_iadd (pc := 192) dX0_work_192 <| ?_
    exact o_iret (pc := 193) dX0_work_193 rfl rfl
  refine S_ite (fun h13 => ?_) (fun h13 => ?_)
  · refine o_lookup (pc := 1) (tgt := 194) (off := 193) dX0_work_1 (by decide) (by rw [h13]; decide) rfl ?_
    refine o_aload_n (pc := 194) 0 dX0_work_194 rfl rfl <| o_getsAN (pc := 195) rfl dX0_work_195 <| o_iconst (pc := 198) dX0_work_198 lc_4 <| o_tabA (pc := 199) dX0_work_199 (ck_in rfl) <| o_iconst (pc := 200) dX0_work_200 lc_0 <| o_iload_n (pc := 201) 2 dX0_work_201 rfl rfl <| o_iload_n (pc := 202) 3 dX0_work_202 rfl rfl <| ?_
    refine o_callVI (Y2 := YX0_run) (pc := 203) (av := [.int (tabA (4 : Int32).toNatClampNeg), .int 0, .int b, .int c]) (rest := []) dX0_work_203 k_789 cm_X0_run (hrec m (tabA (4 : Int32).toNatClampNeg) 0 b c) (hF.1 _ _ rfl) rfl rfl (Nat.le_of_ble_eq_true rfl) (by omega) fun r14 => ?_
    refine o_ineg (pc := 206) dX0_work_206 <| ?_
    exact o_iret (pc := 207) dX0_work_207 rfl rfl
  refine S_ite (fun h15 => ?_) (fun h15 => ?_)
  · refine o_lookup (pc := 1) (tgt := 208) (off := 207) dX0_work_1 (by decide) (by rw [h15]; decide) rfl ?_
    refine o_aload_n (pc := 208) 0 dX0_work_208 rfl rfl <| o_getsAN (pc := 209) rfl dX0_work_209 <| o_iconst (pc := 212) dX0_work_212 lc_4 <| o_tabA (pc := 213) dX0_work_213 (ck_in rfl) <| o_iconst (pc := 214) dX0_work_214 lc_1 <| o_iload_n (pc := 215) 2 dX0_work_215 rfl rfl <| o_iconst (pc := 216) dX0_work_216 lc_1 <| o_iadd (pc := 217) dX0_work_217 <| o_iload_n (pc := 218) 3 dX0_work_218 rfl rfl <| ?_
    refine o_callVI (Y2 := YX0_run) (pc := 219) (av := [.int (tabA (4 : Int32).toNatClampNeg), .int 1, .int (b + 1), .int c]) (rest := []) dX0_work_219 k_789 cm_X0_run (hrec m (tabA (4 : Int32).toNatClampNeg) 1 (b + 1) c) (hF.1 _ _ rfl) rfl rfl (Nat.le_of_ble_eq_true rfl) (by omega) fun r16 => ?_
    exact o_iret (pc := 222) dX0_work_222 rfl rfl
  refine S_ite (fun h17 => ?_) (fun h17 => ?_)
  · refine o_lookup (pc := 1) (tgt := 223) (off := 222) dX0_work_1 (by decide) (by rw [h17]; decide) rfl ?_
    refine o_aload_n (pc := 223) 0 dX0_work_223 rfl rfl <| o_getsAN (pc := 224) rfl dX0_work_224 <| o_iconst (pc := 227) dX0_work_227 lc_5 <| o_tabA (pc := 228) dX0_work_228 (ck_in rfl) <| o_iconst (pc := 229) dX0_work_229 lc_2 <| o_iload_n (pc := 230) 2 dX0_work_230 rfl rfl <| o_aload_n (pc := 231) 0 dX0_work_231 rfl rfl <| o_getI (pc := 232) (ci := 0) (j := 2) (nn := 0) dX0_work_232 (hF.1 _ _ rfl) rfl (Nat.le_of_ble_eq_true rfl) k_259 rfl <| o_isub (pc := 235) dX0_work_235 <| o_iload_n (pc := 236) 3 dX0_work_236 rfl rfl <| ?_
    refine o_callVI (Y2 := YX0_run) (pc := 237) (av := [.int (tabA (5 : Int32).toNatClampNeg), .int 2, .int (b - (m.1 46 2)), .int c]) (rest := []) dX0_work_237 k_789 cm_X0_run (hrec m (tabA (5 : Int32).toNatClampNeg) 2 (b - (m.1 46 2)) c) (hF.1 _ _ rfl) rfl rfl (Nat.le_of_ble_eq_true rfl) (by omega) fun r18 => ?_
    exact o_iret (pc := 240) dX0_work_240 rfl rfl
  refine S_ite (fun h19 => ?_) (fun h19 => ?_)
  · refine o_lookup (pc := 1) (tgt := 241) (off := 240) dX0_work_1 (by decide) (by rw [h19]; decide) rfl ?_
    refine o_aload_n (pc := 241) 0 dX0_work_241 rfl rfl <| o_getsAN (pc := 242) rfl dX0_work_242 <| o_bipush (pc := 245) dX0_work_245 lb_6 <| o_tabA (pc := 247) dX0_work_247 (ck_in rfl) <| o_iconst (pc := 248) dX0_work_248 lc_1 <| o_iload_n (pc := 249) 2 dX0_work_249 rfl rfl <| o_iload_n (pc := 250) 3 dX0_work_250 rfl rfl <| ?_
    refine o_callVI (Y2 := YX0_run) (pc := 251) (av := [.int (tabA (6 : Int32).toNatClampNeg), .int 1, .int b, .int c]) (rest := []) dX0_work_251 k_789 cm_X0_run (hrec m (tabA (6 : Int32).toNatClampNeg) 1 b c) (hF.1 _ _ rfl) rfl rfl (Nat.le_of_ble_eq_true rfl) (by omega) fun r20 => ?_
    refine o_aload_n (pc := 254) 0 dX0_work_254 rfl rfl <| o_getsAN (pc := 255) rfl dX0_work_255 <| o_bipush (pc := 258) dX0_work_258 lb_6 <| o_tabA (pc := 260) dX0_work_260 (ck_in rfl) <| o_iconst (pc := 261) dX0_work_261 lc_0 <| o_iconst (pc := 262) dX0_work_262 lc_2 <| o_iload_n (pc := 263) 3 dX0_work_263 rfl rfl <| ?_
    refine o_callVI (Y2 := YX0_run) (pc := 264) (av := [.int (tabA (6 : Int32).toNatClampNeg), .int 0, .int 2, .int c]) (rest := [.int r20.1]) dX0_work_264 k_789 cm_X0_run (hrec r20.2 (tabA (6 : Int32).toNatClampNeg) 0 2 c) (hF.1 _ _ rfl) rfl rfl (Nat.le_of_ble_eq_true rfl) (by omega) fun r21 => ?_
    refine o_iadd (pc := 267) dX0_work_267 <| ?_
    exact o_iret (pc := 268) dX0_work_268 rfl rfl
  refine S_ite (fun h22 => ?_) (fun h22 => ?_)
  · refine o_lookup (pc := 1) (tgt := 269) (off := 268) dX0_work_1 (by decide) (by rw [h22]; decide) rfl ?_
    refine o_aload_n (pc := 269) 0 dX0_work_269 rfl rfl <| o_getsAN (pc := 270) rfl dX0_work_270 <| o_bipush (pc := 273) dX0_work_273 lb_6 <| o_tabA (pc := 275) dX0_work_275 (ck_in rfl) <| o_iconst (pc := 276) dX0_work_276 lc_0 <| o_iload_n (pc := 277) 2 dX0_work_277 rfl rfl <| o_iload_n (pc := 278) 3 dX0_work_278 rfl rfl <| ?_
    refine o_callVI (Y2 := YX0_run) (pc := 279) (av := [.int (tabA (6 : Int32).toNatClampNeg), .int 0, .int b, .int c]) (rest := []) dX0_work_279 k_789 cm_X0_run (hrec m (tabA (6 : Int32).toNatClampNeg) 0 b c) (hF.1 _ _ rfl) rfl rfl (Nat.le_of_ble_eq_true rfl) (by omega) fun r23 => ?_
    refine o_aload_n (pc := 282) 0 dX0_work_282 rfl rfl <| o_getI (pc := 283) (ci := 0) (j := 4) (nn := 0) dX0_work_283 (hF.1 _ _ rfl) rfl (Nat.le_of_ble_eq_true rfl) k_261 rfl <| o_ixor (pc := 286) dX0_work_286 <| ?_
    exact o_iret (pc := 287) dX0_work_287 rfl rfl
  refine o_lookup (pc := 1) (tgt := 288) (off := 287) dX0_work_1 (by decide) ((lv_osw h1 rfl).trans ((lv_osw h2 rfl).trans ((lv_osw h4 rfl).trans ((lv_osw h6 rfl).trans ((lv_osw h8 rfl).trans ((lv_osw h10 rfl).trans ((lv_osw h13 rfl).trans ((lv_osw h15 rfl).trans ((lv_osw h17 rfl).trans ((lv_osw h19 rfl).trans ((lv_osw h22 rfl).trans rfl))))))))))) rfl ?_
  refine o_iconst (pc := 288) dX0_work_288 lc_0 <| ?_
  exact o_iret (pc := 289) dX0_work_289 rfl rfl
def fA_run (rec : MI → Int32 → Int32 → Int32 → Int32 → Option (Int32 × MI)) (m : MI) (a : Int32) (b : Int32) (c : Int32) (d : Int32) : Option (Int32 × MI) :=
  if d ≤ 20 then
    (fA_bodyOf m a b).bind fun r2 =>
    (fA_keep r2.2 r2.1).bind fun r3 =>
    (fA_work rec r3 r2.1 c (d + 1)).bind fun r4 =>
    some (r4.1, r4.2)
  else
    some (0, m)
theorem sA_run {sh : Sh} {R : RR} (hF : Fx sh R) {rec : MI → Int32 → Int32 → Int32 → Int32 → Option (Int32 × MI)} {dr : Nat} (hrec : ∀ (m : MI) (a : Int32) (b : Int32) (c : Int32) (e : Int32) , KS (eI sh R) false dr 0 0 YX0_run sh R m [.ref 46, .int a, .int b, .int c, .int e] (rec m a b c e)) (m : MI) (a : Int32) (b : Int32) (c : Int32) (d : Int32) : KS (eI sh R) false (dr + 2) 0 0 YX0_run sh R m [.ref 46, .int a, .int b, .int c, .int d] (fA_run rec m a b c d) := by
  refine KS_of pn_X0 (fun _ => Nat.le_of_ble_eq_true rfl) ?_
  change S _ _ _ _ _ _ _ _ _ _ [(0, .ref 46), (1, .int a), (2, .int b), (3, .int c), (4, .int d)] [] _
  unfold fA_run
  refine o_iload (pc := 0) 4 dX0_run_0 rfl <| o_bipush (pc := 2) dX0_run_2 lb_20 <| ?_
  refine o_icmp_le (pc := 4) (tgt := 9) dX0_run_4 rfl (fun h1 => ?_) (fun h1 => ?_)
  · refine o_iload_n (pc := 9) 1 dX0_run_9 rfl rfl <| o_iload_n (pc := 10) 2 dX0_run_10 rfl rfl <| ?_
    refine o_callSI (Y2 := YX0_bodyOf) (pc := 11) (av := [.int a, .int b]) (rest := []) dX0_run_11 k_793 cs_X0_bodyOf (sA_bodyOf hF m a b) rfl rfl (Nat.le_of_ble_eq_true rfl) (by omega) fun r2 => ?_
    refine o_istore (pc := 14) (ls' := [(5, .int r2.1), (0, .ref 46), (1, .int a), (2, .int b), (3, .int c), (4, .int d)]) dX0_run_14 (Nat.le_of_ble_eq_true rfl) rfl <| o_aload_n (pc := 16) 1 dX0_run_16 rfl rfl <| o_iload (pc := 17) 0 dX0_run_17 rfl <| ?_
    refine o_callVV (Y2 := YX0_keep) (pc := 19) (av := [.int r2.1]) (rest := []) dX0_run_19 k_800 cm_X0_keep (sA_keep hF r2.2 r2.1) (hF.1 _ _ rfl) rfl rfl (Nat.le_of_ble_eq_true rfl) (by omega) fun r3 => ?_
    refine o_aload_n (pc := 22) 1 dX0_run_22 rfl rfl <| o_iload (pc := 23) 0 dX0_run_23 rfl <| o_iload_n (pc := 25) 4 dX0_run_25 rfl rfl <| o_iload (pc := 26) 5 dX0_run_26 rfl <| o_iconst (pc := 28) dX0_run_28 lc_1 <| o_iadd (pc := 29) dX0_run_29 <| ?_
    refine o_callVI (Y2 := YX0_work) (pc := 30) (av := [.int r2.1, .int c, .int (d + 1)]) (rest := []) dX0_run_30 k_804 cm_X0_work (sA_work hF hrec r3 r2.1 c (d + 1)) (hF.1 _ _ rfl) rfl rfl (Nat.le_of_ble_eq_true rfl) (by omega) fun r4 => ?_
    exact o_iret (pc := 33) dX0_run_33 rfl rfl
  · refine o_iconst (pc := 7) dX0_run_7 lc_0 <| ?_
    exact o_iret (pc := 8) dX0_run_8 rfl rfl
def fA_runN : Nat → MI → Int32 → Int32 → Int32 → Int32 → Option (Int32 × MI)
  | 0, _, _, _, _, _ => none
  | n + 1, m, a, b, c, e => fA_run (fA_runN n) m a b c e
theorem sA_runN {sh : Sh} {R : RR} (hF : Fx sh R) : ∀ (n : Nat) (m : MI) (a : Int32) (b : Int32) (c : Int32) (e : Int32) , KS (eI sh R) false (2 * n) 0 0 YX0_run sh R m [.ref 46, .int a, .int b, .int c, .int e] (fA_runN n m a b c e) := by
  intro n
  induction n with
  | zero => intro m a b c e r h; cases h
  | succ n ih => intro m a b c e; exact sA_run hF ih m a b c e
def fA_begin (m : MI) (a : Int32) (b : Int32) (c : Int32) (d : Int32) (e : Int32) : Option (Int32 × MI) :=
  lm (mI m 46 (upd (m.1 46) 2 a)) fun m1 =>
  lm (mI m1 46 (upd (m1.1 46) 3 b)) fun m2 =>
  lm (mI m2 46 (upd (m2.1 46) 4 c)) fun m3 =>
  lm (mI m3 46 (upd (m3.1 46) 0 0)) fun m4 =>
  (fA_runN 10 m4 (m4.1 46 3) d e 0).bind fun r5 =>
  some (r5.1, r5.2)
theorem sA_begin {sh : Sh} {R : RR} (hF : Fx sh R) (m : MI) (a : Int32) (b : Int32) (c : Int32) (d : Int32) (e : Int32) : KS (eI sh R) false 21 0 0 YX0_begin sh R m [.ref 46, .int a, .int b, .int c, .int d, .int e] (fA_begin m a b c d e) := by
  refine KS_of pn_X0 (fun _ => Nat.le_of_ble_eq_true rfl) ?_
  change S _ _ _ _ _ _ _ _ _ _ [(0, .ref 46), (1, .int a), (2, .int b), (3, .int c), (4, .int d), (5, .int e)] [] _
  unfold fA_begin
  refine o_aload_n (pc := 0) 0 dX0_begin_0 rfl rfl <| o_iload_n (pc := 1) 1 dX0_begin_1 rfl rfl <| o_putI (pc := 2) (ci := 0) (j := 2) (nn := 0) dX0_begin_2 (hF.1 _ _ rfl) rfl (Nat.le_of_ble_eq_true rfl) k_259 rfl rfl rfl rfl rfl <| ?_
  refine o_lm fun m1 => ?_
  refine o_aload_n (pc := 5) 0 dX0_begin_5 rfl rfl <| o_iload_n (pc := 6) 2 dX0_begin_6 rfl rfl <| o_putI (pc := 7) (ci := 0) (j := 3) (nn := 0) dX0_begin_7 (hF.1 _ _ rfl) rfl (Nat.le_of_ble_eq_true rfl) k_260 rfl rfl rfl rfl rfl <| ?_
  refine o_lm fun m2 => ?_
  refine o_aload_n (pc := 10) 0 dX0_begin_10 rfl rfl <| o_iload_n (pc := 11) 3 dX0_begin_11 rfl rfl <| o_putI (pc := 12) (ci := 0) (j := 4) (nn := 0) dX0_begin_12 (hF.1 _ _ rfl) rfl (Nat.le_of_ble_eq_true rfl) k_261 rfl rfl rfl rfl rfl <| ?_
  refine o_lm fun m3 => ?_
  refine o_aload_n (pc := 15) 0 dX0_begin_15 rfl rfl <| o_iconst (pc := 16) dX0_begin_16 lc_0 <| o_putI (pc := 17) (ci := 0) (j := 0) (nn := 0) dX0_begin_17 (hF.1 _ _ rfl) rfl (Nat.le_of_ble_eq_true rfl) k_255 rfl rfl rfl rfl rfl <| ?_
  refine o_lm fun m4 => ?_
  refine o_aload_n (pc := 20) 0 dX0_begin_20 rfl rfl <| o_aload_n (pc := 21) 0 dX0_begin_21 rfl rfl <| o_getI (pc := 22) (ci := 0) (j := 3) (nn := 0) dX0_begin_22 (hF.1 _ _ rfl) rfl (Nat.le_of_ble_eq_true rfl) k_260 rfl <| o_iload (pc := 25) 4 dX0_begin_25 rfl <| o_iload (pc := 27) 5 dX0_begin_27 rfl <| o_iconst (pc := 29) dX0_begin_29 lc_0 <| ?_
  refine o_callVI (Y2 := YX0_run) (pc := 30) (av := [.int (m4.1 46 3), .int d, .int e, .int 0]) (rest := []) dX0_begin_30 k_789 cm_X0_run (sA_runN hF 10 m4 (m4.1 46 3) d e 0) (hF.1 _ _ rfl) rfl rfl (Nat.le_of_ble_eq_true rfl) (Nat.le_of_ble_eq_true rfl) fun r5 => ?_
  exact o_iret (pc := 33) dX0_begin_33 rfl rfl
def fP_reads (m : MI) (a : Int32) : Option (Int32 × MI) :=
  if ck (m.1 43 1) 101 = true then
    if m.1 44 (m.1 43 1).toNatClampNeg = a then
      lm (mI m 43 (upd (m.1 43) 1 ((m.1 43 1) + 1))) fun m3 =>
      some (1, m3)
    else
      some (0, m)
  else none
theorem sP_reads {sh : Sh} {R : RR} (hF : Fx sh R) (m : MI) (a : Int32) : KS (eI sh R) false 0 0 0 YX2_reads sh R m [.ref 43, .int a] (fP_reads m a) := by
  refine KS_of pn_X2 (fun _ => Nat.le_of_ble_eq_true rfl) ?_
  change S _ _ _ _ _ _ _ _ _ _ [(0, .ref 43), (1, .int a)] [] _
  unfold fP_reads
  refine o_aload_n (pc := 0) 0 dX2_reads_0 rfl rfl <| o_getRc (pc := 1) (a := 44) (ci := 2) (j := 2) (nn := 0) dX2_reads_1 (hF.1 _ _ rfl) rfl (Nat.le_of_ble_eq_true rfl) k_229 rfl (hF.2 _ _ _ rfl) <| o_aload_n (pc := 4) 0 dX2_reads_4 rfl rfl <| o_getI (pc := 5) (ci := 2) (j := 1) (nn := 0) dX2_reads_5 (hF.1 _ _ rfl) rfl (Nat.le_of_ble_eq_true rfl) k_227 rfl <| ?_
  refine S_ck fun h1 => ?_
  refine o_iald (pc := 8) (nn := 101) dX2_reads_8 (hF.1 _ _ rfl) (ck_in h1) <| o_iload_n (pc := 9) 1 dX2_reads_9 rfl rfl <| ?_
  refine o_icmp_eq (pc := 10) (tgt := 15) dX2_reads_10 rfl (fun h2 => ?_) (fun h2 => ?_)
  · refine o_aload_n (pc := 15) 0 dX2_reads_15 rfl rfl <| o_dup (pc := 16) dX2_reads_16 rfl <| o_getI (pc := 17) (ci := 2) (j := 1) (nn := 0) dX2_reads_17 (hF.1 _ _ rfl) rfl (Nat.le_of_ble_eq_true rfl) k_227 rfl <| o_iconst (pc := 20) dX2_reads_20 lc_1 <| o_iadd (pc := 21) dX2_reads_21 <| o_putI (pc := 22) (ci := 2) (j := 1) (nn := 0) dX2_reads_22 (hF.1 _ _ rfl) rfl (Nat.le_of_ble_eq_true rfl) k_227 rfl rfl rfl rfl rfl <| ?_
    refine o_lm fun m3 => ?_
    refine o_iconst (pc := 25) dX2_reads_25 lc_1 <| ?_
    exact o_zret (pc := 26) dX2_reads_26 rfl rfl rfl
  · refine o_iconst (pc := 13) dX2_reads_13 lc_0 <| ?_
    exact o_zret (pc := 14) dX2_reads_14 rfl rfl rfl
def fP_keep (m : MI) (a : Int32) : Option (MI) :=
  if 100 ≤ m.1 43 5 then
    some m
  else
    if ck (m.1 43 5) 100 = true then
      lm (mI m 45 (upd (m.1 45) (m.1 43 5).toNatClampNeg a)) fun m3 =>
      lm (mI m3 43 (upd (m3.1 43) 5 ((m3.1 43 5) + 1))) fun m4 =>
      some m4
    else none
theorem sP_keep {sh : Sh} {R : RR} (hF : Fx sh R) (m : MI) (a : Int32) : KS (eV sh R) false 0 0 0 YX2_keep sh R m [.ref 43, .int a] (fP_keep m a) := by
  refine KS_of pn_X2 (fun _ => Nat.le_of_ble_eq_true rfl) ?_
  change S _ _ _ _ _ _ _ _ _ _ [(0, .ref 43), (1, .int a)] [] _
  unfold fP_keep
  refine o_aload_n (pc := 0) 0 dX2_keep_0 rfl rfl <| o_getI (pc := 1) (ci := 2) (j := 5) (nn := 0) dX2_keep_1 (hF.1 _ _ rfl) rfl (Nat.le_of_ble_eq_true rfl) k_232 rfl <| o_bipush (pc := 4) dX2_keep_4 lb_100 <| ?_
  refine o_icmp_ge (pc := 6) (tgt := 29) dX2_keep_6 rfl (fun h1 => ?_) (fun h1 => ?_)
  · exact o_vret (pc := 29) dX2_keep_29 rfl rfl
  · refine o_aload_n (pc := 9) 0 dX2_keep_9 rfl rfl <| o_getRc (pc := 10) (a := 45) (ci := 2) (j := 6) (nn := 0) dX2_keep_10 (hF.1 _ _ rfl) rfl (Nat.le_of_ble_eq_true rfl) k_233 rfl (hF.2 _ _ _ rfl) <| o_aload_n (pc := 13) 0 dX2_keep_13 rfl rfl <| o_getI (pc := 14) (ci := 2) (j := 5) (nn := 0) dX2_keep_14 (hF.1 _ _ rfl) rfl (Nat.le_of_ble_eq_true rfl) k_232 rfl <| o_iload_n (pc := 17) 1 dX2_keep_17 rfl rfl <| ?_
    refine S_ck fun h2 => ?_
    refine o_iast (pc := 18) (nn := 100) dX2_keep_18 (hF.1 _ _ rfl) (ck_in h2) <| ?_
    refine o_lm fun m3 => ?_
    refine o_aload_n (pc := 19) 0 dX2_keep_19 rfl rfl <| o_dup (pc := 20) dX2_keep_20 rfl <| o_getI (pc := 21) (ci := 2) (j := 5) (nn := 0) dX2_keep_21 (hF.1 _ _ rfl) rfl (Nat.le_of_ble_eq_true rfl) k_232 rfl <| o_iconst (pc := 24) dX2_keep_24 lc_1 <| o_iadd (pc := 25) dX2_keep_25 <| o_putI (pc := 26) (ci := 2) (j := 5) (nn := 0) dX2_keep_26 (hF.1 _ _ rfl) rfl (Nat.le_of_ble_eq_true rfl) k_232 rfl rfl rfl rfl rfl <| ?_
    refine o_lm fun m4 => ?_
    exact o_vret (pc := 29) dX2_keep_29 rfl rfl
def fP_number_l4 (k0_0 : MI → Int32 → Int32 → Option (Int32 × MI)) : Nat → MI → Int32 → Int32 → Option (Int32 × MI)
  | 0, _, _, _ => none
  | n0 + 1, m, v1, v2 =>
    if 2 ≤ v2 then
      k0_0 m v1 v2
    else
      if ck (m.1 43 1) 101 = true then
        if m.1 44 (m.1 43 1).toNatClampNeg < 48 then
          k0_0 m v1 v2
        else
          if ck (m.1 43 1) 101 = true then
            if 57 < m.1 44 (m.1 43 1).toNatClampNeg then
              k0_0 m v1 v2
            else
              if 0 ≤ v1 then
                if ck (m.1 43 1) 101 = true then
                  lt (((v1 * 10) + (m.1 44 (m.1 43 1).toNatClampNeg)) - 48) fun x8 =>
                  lm (mI m 43 (upd (m.1 43) 1 ((m.1 43 1) + 1))) fun m9 =>
                  lt (v2 + 1) fun x10 =>
                  fP_number_l4 k0_0 n0 m9 x8 x10
                else none
              else
                if ck (m.1 43 1) 101 = true then
                  lt (((0 : Int32) + (m.1 44 (m.1 43 1).toNatClampNeg)) - 48) fun x12 =>
                  lm (mI m 43 (upd (m.1 43) 1 ((m.1 43 1) + 1))) fun m13 =>
                  lt (v2 + 1) fun x14 =>
                  fP_number_l4 k0_0 n0 m13 x12 x14
                else none
          else none
      else none
theorem sP_number_l4 {sh : Sh} {R : RR} (hF : Fx sh R) (k0_0 : MI → Int32 → Int32 → Option (Int32 × MI)) (hk0_0 : ∀ (m : MI) (v1 : Int32) (v2 : Int32) , S (eI sh R) false 0 0 0 YX2_number sh R m 79 [(0, .ref 43), (1, .int v1), (2, .int v2)] [] (k0_0 m v1 v2)) : ∀ (n : Nat) (m : MI) (v1 : Int32) (v2 : Int32) , S (eI sh R) false 0 0 0 YX2_number sh R m 4 [(0, .ref 43), (1, .int v1), (2, .int v2)] [] (fP_number_l4 k0_0 n m v1 v2) := by
  intro n
  induction n with
  | zero => intros; exact S_none
  | succ n0 ih0 =>
    intro m v1 v2
    rw [fP_number_l4]
    refine o_iload_n (pc := 4) 2 dX2_number_4 rfl rfl <| o_iconst (pc := 5) dX2_number_5 lc_2 <| ?_
    refine o_icmp_ge (pc := 6) (tgt := 79) dX2_number_6 rfl (fun h1 => ?_) (fun h1 => ?_)
    · exact hk0_0 m v1 v2
    · refine o_aload_n (pc := 9) 0 dX2_number_9 rfl rfl <| o_getRc (pc := 10) (a := 44) (ci := 2) (j := 2) (nn := 0) dX2_number_10 (hF.1 _ _ rfl) rfl (Nat.le_of_ble_eq_true rfl) k_229 rfl (hF.2 _ _ _ rfl) <| o_aload_n (pc := 13) 0 dX2_number_13 rfl rfl <| o_getI (pc := 14) (ci := 2) (j := 1) (nn := 0) dX2_number_14 (hF.1 _ _ rfl) rfl (Nat.le_of_ble_eq_true rfl) k_227 rfl <| ?_
      refine S_ck fun h2 => ?_
      refine o_iald (pc := 17) (nn := 101) dX2_number_17 (hF.1 _ _ rfl) (ck_in h2) <| o_bipush (pc := 18) dX2_number_18 lb_48 <| ?_
      refine o_icmp_lt (pc := 20) (tgt := 79) dX2_number_20 rfl (fun h3 => ?_) (fun h3 => ?_)
      · exact hk0_0 m v1 v2
      · refine o_aload_n (pc := 23) 0 dX2_number_23 rfl rfl <| o_getRc (pc := 24) (a := 44) (ci := 2) (j := 2) (nn := 0) dX2_number_24 (hF.1 _ _ rfl) rfl (Nat.le_of_ble_eq_true rfl) k_229 rfl (hF.2 _ _ _ rfl) <| o_aload_n (pc := 27) 0 dX2_number_27 rfl rfl <| o_getI (pc := 28) (ci := 2) (j := 1) (nn := 0) dX2_number_28 (hF.1 _ _ rfl) rfl (Nat.le_of_ble_eq_true rfl) k_227 rfl <| ?_
        refine S_ck fun h4 => ?_
        refine o_iald (pc := 31) (nn := 101) dX2_number_31 (hF.1 _ _ rfl) (ck_in h4) <| o_bipush (pc := 32) dX2_number_32 lb_57 <| ?_
        refine o_icmp_gt (pc := 34) (tgt := 79) dX2_number_34 rfl (fun h5 => ?_) (fun h5 => ?_)
        · exact hk0_0 m v1 v2
        · refine o_iload_n (pc := 37) 1 dX2_number_37 rfl rfl <| ?_
          refine o_if_ge (pc := 38) (tgt := 45) dX2_number_38 rfl (fun h6 => ?_) (fun h6 => ?_)
          · refine o_iload_n (pc := 45) 1 dX2_number_45 rfl rfl <| o_bipush (pc := 46) dX2_number_46 lb_10 <| o_imul (pc := 48) dX2_number_48 <| o_aload_n (pc := 49) 0 dX2_number_49 rfl rfl <| o_getRc (pc := 50) (a := 44) (ci := 2) (j := 2) (nn := 0) dX2_number_50 (hF.1 _ _ rfl) rfl (Nat.le_of_ble_eq_true rfl) k_229 rfl (hF.2 _ _ _ rfl) <| o_aload_n (pc := 53) 0 dX2_number_53 rfl rfl <| o_getI (pc := 54) (ci := 2) (j := 1) (nn := 0) dX2_number_54 (hF.1 _ _ rfl) rfl (Nat.le_of_ble_eq_true rfl) k_227 rfl <| ?_
            refine S_ck fun h7 => ?_
            refine o_iald (pc := 57) (nn := 101) dX2_number_57 (hF.1 _ _ rfl) (ck_in h7) <| o_iadd (pc := 58) dX2_number_58 <| o_bipush (pc := 59) dX2_number_59 lb_48 <| o_isub (pc := 61) dX2_number_61 <| ?_
            refine o_lt fun x8 => ?_
            refine o_istore_n (pc := 62) (ls' := [(1, .int x8), (0, .ref 43), (2, .int v2)]) dX2_number_62 rfl (Nat.le_of_ble_eq_true rfl) rfl <| o_aload_n (pc := 63) 1 dX2_number_63 rfl rfl <| o_dup (pc := 64) dX2_number_64 rfl <| o_getI (pc := 65) (ci := 2) (j := 1) (nn := 0) dX2_number_65 (hF.1 _ _ rfl) rfl (Nat.le_of_ble_eq_true rfl) k_227 rfl <| o_iconst (pc := 68) dX2_number_68 lc_1 <| o_iadd (pc := 69) dX2_number_69 <| o_putI (pc := 70) (ci := 2) (j := 1) (nn := 0) dX2_number_70 (hF.1 _ _ rfl) rfl (Nat.le_of_ble_eq_true rfl) k_227 rfl rfl rfl rfl rfl <| ?_
            refine o_lm fun m9 => ?_
            refine o_iinc (pc := 73) 2 (v := v2 + 1) (ls' := [(2, .int (v2 + 1)), (1, .int x8), (0, .ref 43)]) dX2_number_73 rfl rfl (Nat.le_of_ble_eq_true rfl) rfl <| ?_
            refine o_ltL (ls := fun x10 => [(2, .int x10), (1, .int x8), (0, .ref 43)]) fun x10 => ?_
            refine o_goto (pc := 76) (tgt := 4) dX2_number_76 rfl <| ?_
            refine o_sub [2, 1, 0] (ls' := [(0, .ref 43), (1, .int x8), (2, .int x10)]) rfl ?_
            exact ih0 m9 x8 x10
          · refine o_iconst (pc := 41) dX2_number_41 lc_0 <| o_goto (pc := 42) (tgt := 49) dX2_number_42 rfl <| o_aload_n (pc := 49) 0 dX2_number_49 rfl rfl <| o_getRc (pc := 50) (a := 44) (ci := 2) (j := 2) (nn := 0) dX2_number_50 (hF.1 _ _ rfl) rfl (Nat.le_of_ble_eq_true rfl) k_229 rfl (hF.2 _ _ _ rfl) <| o_aload_n (pc := 53) 0 dX2_number_53 rfl rfl <| o_getI (pc := 54) (ci := 2) (j := 1) (nn := 0) dX2_number_54 (hF.1 _ _ rfl) rfl (Nat.le_of_ble_eq_true rfl) k_227 rfl <| ?_
            refine S_ck fun h11 => ?_
            refine o_iald (pc := 57) (nn := 101) dX2_number_57 (hF.1 _ _ rfl) (ck_in h11) <| o_iadd (pc := 58) dX2_number_58 <| o_bipush (pc := 59) dX2_number_59 lb_48 <| o_isub (pc := 61) dX2_number_61 <| ?_
            refine o_lt fun x12 => ?_
            refine o_istore_n (pc := 62) (ls' := [(1, .int x12), (0, .ref 43), (2, .int v2)]) dX2_number_62 rfl (Nat.le_of_ble_eq_true rfl) rfl <| o_aload_n (pc := 63) 1 dX2_number_63 rfl rfl <| o_dup (pc := 64) dX2_number_64 rfl <| o_getI (pc := 65) (ci := 2) (j := 1) (nn := 0) dX2_number_65 (hF.1 _ _ rfl) rfl (Nat.le_of_ble_eq_true rfl) k_227 rfl <| o_iconst (pc := 68) dX2_number_68 lc_1 <| o_iadd (pc := 69) dX2_number_69 <| o_putI (pc := 70) (ci := 2) (j := 1) (nn := 0) dX2_number_70 (hF.1 _ _ rfl) rfl (Nat.le_of_ble_eq_true rfl) k_227 rfl rfl rfl rfl rfl <| ?_
            refine o_lm fun m13 => ?_
            refine o_iinc (pc := 73) 2 (v := v2 + 1) (ls' := [(2, .int (v2 + 1)), (1, .int x12), (0, .ref 43)]) dX2_number_73 rfl rfl (Nat.le_of_ble_eq_true rfl) rfl <| ?_
            refine o_ltL (ls := fun x14 => [(2, .int x14), (1, .int x12), (0, .ref 43)]) fun x14 => ?_
            refine o_goto (pc := 76) (tgt := 4) dX2_number_76 rfl <| ?_
            refine o_sub [2, 1, 0] (ls' := [(0, .ref 43), (1, .int x12), (2, .int x14)]) rfl ?_
            exact ih0 m13 x12 x14
def fP_number (m : MI) : Option (Int32 × MI) :=
  fP_number_l4 
    (fun m3 z1 z2 =>
      some (z1, m3)
      )
    1000 m (-1) 0
theorem sP_number {sh : Sh} {R : RR} (hF : Fx sh R) (m : MI) : KS (eI sh R) false 0 0 0 YX2_number sh R m [.ref 43] (fP_number m ) := by
  refine KS_of pn_X2 (fun _ => Nat.le_of_ble_eq_true rfl) ?_
  change S _ _ _ _ _ _ _ _ _ _ [(0, .ref 43)] [] _
  unfold fP_number
  refine o_iconst (pc := 0) dX2_number_0 lc_m1 <| o_istore_n (pc := 1) (ls' := [(1, .int (-1)), (0, .ref 43)]) dX2_number_1 rfl (Nat.le_of_ble_eq_true rfl) rfl <| o_iconst (pc := 2) dX2_number_2 lc_0 <| o_istore_n (pc := 3) (ls' := [(2, .int 0), (1, .int (-1)), (0, .ref 43)]) dX2_number_3 rfl (Nat.le_of_ble_eq_true rfl) rfl <| ?_
  refine o_sub [2, 1, 0] (ls' := [(0, .ref 43), (1, .int (-1)), (2, .int 0)]) rfl ?_
  refine sP_number_l4 hF  _ ?_ 1000 m (-1) 0
  · intro m3 z1 z2
    refine o_iload_n (pc := 79) 1 dX2_number_79 rfl rfl <| ?_
    exact o_iret (pc := 80) dX2_number_80 rfl rfl
def fJS_isLatin1_aae02_1014 (m : MI) : Option (Int32 × MI) :=
  some (1, m)
theorem sJS_isLatin1_aae02_1014 {sh : Sh} {R : RR} (hF : Fx sh R) (m : MI) : KS (eI sh R) false 0 0 0 YJ0_isLatin1_aae02 sh R m [.ref 1014] (fJS_isLatin1_aae02_1014 m ) := by
  refine KS_of pn_J0 (fun _ => Nat.le_of_ble_eq_true rfl) ?_
  change S _ _ _ _ _ _ _ _ _ _ [(0, .ref 1014)] [] _
  unfold fJS_isLatin1_aae02_1014
  refine o_getsC (pc := 0) dJ0_isLatin1_aae02_0 k_434 <| o_if_eq_f (pc := 3) (tgt := 17) dJ0_isLatin1_aae02_3 rfl (by decide) <| o_aload_n (pc := 6) 0 dJ0_isLatin1_aae02_6 rfl rfl <| o_getSC (pc := 7) 4 (Nat.le_of_ble_eq_true rfl) dJ0_isLatin1_aae02_7 k_1450 <| o_if_ne_f (pc := 10) (tgt := 17) dJ0_isLatin1_aae02_10 rfl (by decide) <| o_iconst (pc := 13) dJ0_isLatin1_aae02_13 lc_1 <| o_goto (pc := 14) (tgt := 18) dJ0_isLatin1_aae02_14 rfl <| ?_
  exact o_zret (pc := 18) dJ0_isLatin1_aae02_18 rfl rfl rfl
def fJS_coder_7d493_1014 (m : MI) : Option (Int32 × MI) :=
  some (0, m)
theorem sJS_coder_7d493_1014 {sh : Sh} {R : RR} (hF : Fx sh R) (m : MI) : KS (eI sh R) false 0 0 0 YJ0_coder_7d493 sh R m [.ref 1014] (fJS_coder_7d493_1014 m ) := by
  refine KS_of pn_J0 (fun _ => Nat.le_of_ble_eq_true rfl) ?_
  change S _ _ _ _ _ _ _ _ _ _ [(0, .ref 1014)] [] _
  unfold fJS_coder_7d493_1014
  refine o_getsC (pc := 0) dJ0_coder_7d493_0 k_434 <| o_if_eq_f (pc := 3) (tgt := 13) dJ0_coder_7d493_3 rfl (by decide) <| o_aload_n (pc := 6) 0 dJ0_coder_7d493_6 rfl rfl <| o_getSC (pc := 7) 4 (Nat.le_of_ble_eq_true rfl) dJ0_coder_7d493_7 k_1450 <| o_goto (pc := 10) (tgt := 14) dJ0_coder_7d493_10 rfl <| ?_
  exact o_zret (pc := 14) dJ0_coder_7d493_14 rfl rfl rfl
def fJS_length_8abf5_1014 (m : MI) : Option (Int32 × MI) :=
  (fJS_coder_7d493_1014 m).bind fun r1 =>
  some ((6 : Int32) >>> (r1.1 &&& 31), r1.2)
theorem sJS_length_8abf5_1014 {sh : Sh} {R : RR} (hF : Fx sh R) (m : MI) : KS (eI sh R) false 1 0 0 YJ0_length_8abf5 sh R m [.ref 1014] (fJS_length_8abf5_1014 m ) := by
  refine KS_of pn_J0 (fun _ => Nat.le_of_ble_eq_true rfl) ?_
  change S _ _ _ _ _ _ _ _ _ _ [(0, .ref 1014)] [] _
  unfold fJS_length_8abf5_1014
  refine o_aload_n (pc := 0) 0 dJ0_length_8abf5_0 rfl rfl <| o_getSV (pc := 1) 4 (Nat.le_of_ble_eq_true rfl) dJ0_length_8abf5_1 k_1449 <| o_alenS (pc := 4) 4 (Nat.le_of_ble_eq_true rfl) (v := 6) rfl dJ0_length_8abf5_4 <| o_aload_n (pc := 5) 0 dJ0_length_8abf5_5 rfl rfl <| ?_
  refine o_callVT (Y2 := YJ0_coder_7d493) (pc := 6) (av := []) (rest := [.int 6]) 4 (Nat.le_of_ble_eq_true rfl) dJ0_length_8abf5_6 k_430 cmt_J0_coder_7d493 (sJS_coder_7d493_1014 hF m ) rfl rfl (Nat.le_of_ble_eq_true rfl) (Nat.le_of_ble_eq_true rfl) fun r1 => ?_
  refine o_ishr (pc := 9) dJ0_length_8abf5_9 <| ?_
  exact o_iret (pc := 10) dJ0_length_8abf5_10 rfl rfl
def fJL_canEncode_9a6ad (m : MI) (a : Int32) : Option (Int32 × MI) :=
  if a < 0 then
    some (0, m)
  else
    if 255 < a then
      some (0, m)
    else
      some (1, m)
theorem sJL_canEncode_9a6ad {sh : Sh} {R : RR} (hF : Fx sh R) (m : MI) (a : Int32) : KS (eI sh R) false 0 0 0 YJ1_canEncode_9a6ad sh R m [.int a] (fJL_canEncode_9a6ad m a) := by
  refine KS_of pn_J1 (fun _ => Nat.le_of_ble_eq_true rfl) ?_
  change S _ _ _ _ _ _ _ _ _ _ [(0, .int a)] [] _
  unfold fJL_canEncode_9a6ad
  refine o_iload_n (pc := 0) 0 dJ1_canEncode_9a6ad_0 rfl rfl <| ?_
  refine o_if_lt (pc := 1) (tgt := 15) dJ1_canEncode_9a6ad_1 rfl (fun h1 => ?_) (fun h1 => ?_)
  · refine o_iconst (pc := 15) dJ1_canEncode_9a6ad_15 lc_0 <| ?_
    exact o_zret (pc := 16) dJ1_canEncode_9a6ad_16 rfl rfl rfl
  · refine o_iload_n (pc := 4) 0 dJ1_canEncode_9a6ad_4 rfl rfl <| o_sipush (pc := 5) dJ1_canEncode_9a6ad_5 ls_255 <| ?_
    refine o_icmp_gt (pc := 8) (tgt := 15) dJ1_canEncode_9a6ad_8 rfl (fun h2 => ?_) (fun h2 => ?_)
    · refine o_iconst (pc := 15) dJ1_canEncode_9a6ad_15 lc_0 <| ?_
      exact o_zret (pc := 16) dJ1_canEncode_9a6ad_16 rfl rfl rfl
    · refine o_iconst (pc := 11) dJ1_canEncode_9a6ad_11 lc_1 <| o_goto (pc := 12) (tgt := 16) dJ1_canEncode_9a6ad_12 rfl <| ?_
      exact o_zret (pc := 16) dJ1_canEncode_9a6ad_16 rfl rfl rfl
def fJL_indexOfChar_4cfef_1024_l7 (u1 : Int32) (u2 : Int32) (u3 : Int32) (u4 : Int32) (k0_0 : MI → Int32 → Option (Int32 × MI)) : Nat → MI → Int32 → Option (Int32 × MI)
  | 0, _, _ => none
  | n0 + 1, m, v5 =>
    if u3 ≤ v5 then
      k0_0 m v5
    else
      if ck v5 6 = true then
        if ((sByt.getD 4 []).getD v5.toNatClampNeg 0) = u4 then
          some (v5, m)
        else
          lt (v5 + 1) fun x4 =>
          fJL_indexOfChar_4cfef_1024_l7 u1 u2 u3 u4 k0_0 n0 m x4
      else none
theorem sJL_indexOfChar_4cfef_1024_l7 {sh : Sh} {R : RR} (hF : Fx sh R) (u1 : Int32) (u2 : Int32) (u3 : Int32) (u4 : Int32) (k0_0 : MI → Int32 → Option (Int32 × MI)) (hk0_0 : ∀ (m : MI) (v5 : Int32) , S (eI sh R) false 0 0 0 YJ1_indexOfChar_4cfef sh R m 31 [(0, .ref 1024), (1, .int u1), (2, .int u2), (3, .int u3), (4, .int u4), (5, .int v5)] [] (k0_0 m v5)) : ∀ (n : Nat) (m : MI) (v5 : Int32) , S (eI sh R) false 0 0 0 YJ1_indexOfChar_4cfef sh R m 7 [(0, .ref 1024), (1, .int u1), (2, .int u2), (3, .int u3), (4, .int u4), (5, .int v5)] [] (fJL_indexOfChar_4cfef_1024_l7 u1 u2 u3 u4 k0_0 n m v5) := by
  intro n
  induction n with
  | zero => intros; exact S_none
  | succ n0 ih0 =>
    intro m v5
    rw [fJL_indexOfChar_4cfef_1024_l7]
    refine o_iload (pc := 7) 5 dJ1_indexOfChar_4cfef_7 rfl <| o_iload_n (pc := 9) 3 dJ1_indexOfChar_4cfef_9 rfl rfl <| ?_
    refine o_icmp_ge (pc := 10) (tgt := 31) dJ1_indexOfChar_4cfef_10 rfl (fun h1 => ?_) (fun h1 => ?_)
    · exact hk0_0 m v5
    · refine o_aload_n (pc := 13) 0 dJ1_indexOfChar_4cfef_13 rfl rfl <| o_iload (pc := 14) 5 dJ1_indexOfChar_4cfef_14 rfl <| ?_
      refine S_ck fun h2 => ?_
      refine o_baldS (pc := 16) 4 (Nat.le_of_ble_eq_true rfl) (nn := 6) rfl (ck_in h2) dJ1_indexOfChar_4cfef_16 <| o_iload (pc := 17) 4 dJ1_indexOfChar_4cfef_17 rfl <| ?_
      refine o_icmp_ne (pc := 19) (tgt := 25) dJ1_indexOfChar_4cfef_19 rfl (fun h3 => ?_) (fun h3 => ?_)
      · refine o_iload (pc := 22) 5 dJ1_indexOfChar_4cfef_22 rfl <| ?_
        exact o_iret (pc := 24) dJ1_indexOfChar_4cfef_24 rfl rfl
      · refine o_iinc (pc := 25) 5 (v := v5 + 1) (ls' := [(5, .int (v5 + 1)), (0, .ref 1024), (1, .int u1), (2, .int u2), (3, .int u3), (4, .int u4)]) dJ1_indexOfChar_4cfef_25 rfl rfl (Nat.le_of_ble_eq_true rfl) rfl <| ?_
        refine o_ltL (ls := fun x4 => [(5, .int x4), (0, .ref 1024), (1, .int u1), (2, .int u2), (3, .int u3), (4, .int u4)]) fun x4 => ?_
        refine o_goto (pc := 28) (tgt := 7) dJ1_indexOfChar_4cfef_28 rfl <| ?_
        refine o_sub [1, 2, 3, 4, 5, 0] (ls' := [(0, .ref 1024), (1, .int u1), (2, .int u2), (3, .int u3), (4, .int u4), (5, .int x4)]) rfl ?_
        exact ih0 m x4
def fJL_indexOfChar_4cfef_1024 (m : MI) (b : Int32) (c : Int32) (d : Int32) : Option (Int32 × MI) :=
  lt (b.toInt8.toInt32) fun x1 =>
  fJL_indexOfChar_4cfef_1024_l7 b c d x1
    (fun m3 z2 =>
      some (-1, m3)
      )
    1000 m c
theorem sJL_indexOfChar_4cfef_1024 {sh : Sh} {R : RR} (hF : Fx sh R) (m : MI) (b : Int32) (c : Int32) (d : Int32) : KS (eI sh R) false 0 0 0 YJ1_indexOfChar_4cfef sh R m [.ref 1024, .int b, .int c, .int d] (fJL_indexOfChar_4cfef_1024 m b c d) := by
  refine KS_of pn_J1 (fun _ => Nat.le_of_ble_eq_true rfl) ?_
  change S _ _ _ _ _ _ _ _ _ _ [(0, .ref 1024), (1, .int b), (2, .int c), (3, .int d)] [] _
  unfold fJL_indexOfChar_4cfef_1024
  refine o_iload_n (pc := 0) 1 dJ1_indexOfChar_4cfef_0 rfl rfl <| o_i2b (pc := 1) dJ1_indexOfChar_4cfef_1 <| ?_
  refine o_lt fun x1 => ?_
  refine o_istore (pc := 2) (ls' := [(4, .int x1), (0, .ref 1024), (1, .int b), (2, .int c), (3, .int d)]) dJ1_indexOfChar_4cfef_2 (Nat.le_of_ble_eq_true rfl) rfl <| o_iload_n (pc := 4) 3 dJ1_indexOfChar_4cfef_4 rfl rfl <| o_istore (pc := 5) (ls' := [(5, .int c), (4, .int x1), (0, .ref 1024), (1, .int b), (2, .int c), (3, .int d)]) dJ1_indexOfChar_4cfef_5 (Nat.le_of_ble_eq_true rfl) rfl <| ?_
  refine o_sub [2, 3, 4, 5, 1, 0] (ls' := [(0, .ref 1024), (1, .int b), (2, .int c), (3, .int d), (4, .int x1), (5, .int c)]) rfl ?_
  refine sJL_indexOfChar_4cfef_1024_l7 hF b c d x1 _ ?_ 1000 m c
  · intro m3 z2
    refine o_iconst (pc := 31) dJ1_indexOfChar_4cfef_31 lc_m1 <| ?_
    exact o_iret (pc := 32) dJ1_indexOfChar_4cfef_32 rfl rfl
def fJL_indexOf_4cfef_1024 (m : MI) (b : Int32) (c : Int32) (d : Int32) : Option (Int32 × MI) :=
  (fJL_canEncode_9a6ad m b).bind fun r1 =>
  if r1.1 = 0 then
    some (-1, r1.2)
  else
    lt (if c < 0 then 0 else c) fun x3 =>
    lt (if 6 < d then 6 else d) fun x4 =>
    if x3 < x4 then
      (fJL_indexOfChar_4cfef_1024 r1.2 b x3 x4).bind fun r6 =>
      some (r6.1, r6.2)
    else
      some (-1, r1.2)
theorem sJL_indexOf_4cfef_1024 {sh : Sh} {R : RR} (hF : Fx sh R) (m : MI) (b : Int32) (c : Int32) (d : Int32) : KS (eI sh R) false 1 0 0 YJ1_indexOf_4cfef sh R m [.ref 1024, .int b, .int c, .int d] (fJL_indexOf_4cfef_1024 m b c d) := by
  refine KS_of pn_J1 (fun _ => Nat.le_of_ble_eq_true rfl) ?_
  change S _ _ _ _ _ _ _ _ _ _ [(0, .ref 1024), (1, .int b), (2, .int c), (3, .int d)] [] _
  unfold fJL_indexOf_4cfef_1024
  refine o_iload_n (pc := 0) 1 dJ1_indexOf_4cfef_0 rfl rfl <| ?_
  refine o_callSI (Y2 := YJ1_canEncode_9a6ad) (pc := 1) (av := [.int b]) (rest := []) dJ1_indexOf_4cfef_1 k_514 cs_J1_canEncode_9a6ad (sJL_canEncode_9a6ad hF m b) rfl rfl (Nat.le_of_ble_eq_true rfl) (Nat.le_of_ble_eq_true rfl) fun r1 => ?_
  refine o_if_ne (pc := 4) (tgt := 9) dJ1_indexOf_4cfef_4 rfl (fun h2 => ?_) (fun h2 => ?_)
  · refine o_iconst (pc := 7) dJ1_indexOf_4cfef_7 lc_m1 <| ?_
    exact o_iret (pc := 8) dJ1_indexOf_4cfef_8 rfl rfl
  · refine o_iload_n (pc := 9) 2 dJ1_indexOf_4cfef_9 rfl rfl <| o_iconst (pc := 10) dJ1_indexOf_4cfef_10 lc_0 <| o_max (pc := 11) dJ1_indexOf_4cfef_11 k_517 k_347 k_81 k_348 (Nat.le_of_ble_eq_true rfl) (Nat.le_of_ble_eq_true rfl) <| ?_
    refine o_lt fun x3 => ?_
    refine o_istore_n (pc := 14) (ls' := [(2, .int x3), (0, .ref 1024), (1, .int b), (3, .int d)]) dJ1_indexOf_4cfef_14 rfl (Nat.le_of_ble_eq_true rfl) rfl <| o_iload_n (pc := 15) 3 dJ1_indexOf_4cfef_15 rfl rfl <| o_aload_n (pc := 16) 1 dJ1_indexOf_4cfef_16 rfl rfl <| o_alenS (pc := 17) 4 (Nat.le_of_ble_eq_true rfl) (v := 6) rfl dJ1_indexOf_4cfef_17 <| o_min (pc := 18) dJ1_indexOf_4cfef_18 k_518 k_519 k_81 k_520 (Nat.le_of_ble_eq_true rfl) (Nat.le_of_ble_eq_true rfl) <| ?_
    refine o_lt fun x4 => ?_
    refine o_istore_n (pc := 21) (ls' := [(3, .int x4), (2, .int x3), (0, .ref 1024), (1, .int b)]) dJ1_indexOf_4cfef_21 rfl (Nat.le_of_ble_eq_true rfl) rfl <| o_iload_n (pc := 22) 1 dJ1_indexOf_4cfef_22 rfl rfl <| o_iload_n (pc := 23) 0 dJ1_indexOf_4cfef_23 rfl rfl <| ?_
    refine o_icmp_lt (pc := 24) (tgt := 29) dJ1_indexOf_4cfef_24 rfl (fun h5 => ?_) (fun h5 => ?_)
    · refine o_aload_n (pc := 29) 2 dJ1_indexOf_4cfef_29 rfl rfl <| o_iload_n (pc := 30) 3 dJ1_indexOf_4cfef_30 rfl rfl <| o_iload_n (pc := 31) 1 dJ1_indexOf_4cfef_31 rfl rfl <| o_iload_n (pc := 32) 0 dJ1_indexOf_4cfef_32 rfl rfl <| ?_
      refine o_callSI (Y2 := YJ1_indexOfChar_4cfef) (pc := 33) (av := [.ref 1024, .int b, .int x3, .int x4]) (rest := []) dJ1_indexOf_4cfef_33 k_521 cs_J1_indexOfChar_4cfef (sJL_indexOfChar_4cfef_1024 hF r1.2 b x3 x4) rfl rfl (Nat.le_of_ble_eq_true rfl) (Nat.le_of_ble_eq_true rfl) fun r6 => ?_
      exact o_iret (pc := 36) dJ1_indexOf_4cfef_36 rfl rfl
    · refine o_iconst (pc := 27) dJ1_indexOf_4cfef_27 lc_m1 <| ?_
      exact o_iret (pc := 28) dJ1_indexOf_4cfef_28 rfl rfl
def fJS_indexOf_7cf53_1014 (m : MI) (a : Int32) (b : Int32) : Option (Int32 × MI) :=
  (fJS_isLatin1_aae02_1014 m).bind fun r1 =>
  if r1.1 = 0 then
    none
  else
    (fJS_length_8abf5_1014 r1.2).bind fun r3 =>
    (fJL_indexOf_4cfef_1024 r3.2 a b r3.1).bind fun r4 =>
    some (r4.1, r4.2)
theorem sJS_indexOf_7cf53_1014 {sh : Sh} {R : RR} (hF : Fx sh R) (m : MI) (a : Int32) (b : Int32) : KS (eI sh R) false 2 0 0 YJ0_indexOf_7cf53 sh R m [.ref 1014, .int a, .int b] (fJS_indexOf_7cf53_1014 m a b) := by
  refine KS_of pn_J0 (fun _ => Nat.le_of_ble_eq_true rfl) ?_
  change S _ _ _ _ _ _ _ _ _ _ [(0, .ref 1014), (1, .int a), (2, .int b)] [] _
  unfold fJS_indexOf_7cf53_1014
  refine o_aload_n (pc := 0) 0 dJ0_indexOf_7cf53_0 rfl rfl <| ?_
  refine o_callVT (Y2 := YJ0_isLatin1_aae02) (pc := 1) (av := []) (rest := []) 4 (Nat.le_of_ble_eq_true rfl) dJ0_indexOf_7cf53_1 k_440 cmt_J0_isLatin1_aae02 (sJS_isLatin1_aae02_1014 hF m ) rfl rfl (Nat.le_of_ble_eq_true rfl) (Nat.le_of_ble_eq_true rfl) fun r1 => ?_
  refine o_if_eq (pc := 4) (tgt := 23) dJ0_indexOf_7cf53_4 rfl (fun h2 => ?_) (fun h2 => ?_)
  · exact S_none
  · refine o_aload_n (pc := 7) 0 dJ0_indexOf_7cf53_7 rfl rfl <| o_getSV (pc := 8) 4 (Nat.le_of_ble_eq_true rfl) dJ0_indexOf_7cf53_8 k_1449 <| o_iload_n (pc := 11) 1 dJ0_indexOf_7cf53_11 rfl rfl <| o_iload_n (pc := 12) 2 dJ0_indexOf_7cf53_12 rfl rfl <| o_aload_n (pc := 13) 0 dJ0_indexOf_7cf53_13 rfl rfl <| ?_
    refine o_callVT (Y2 := YJ0_length_8abf5) (pc := 14) (av := []) (rest := [.int b, .int a, .ref 1024]) 4 (Nat.le_of_ble_eq_true rfl) dJ0_indexOf_7cf53_14 k_510 cmt_J0_length_8abf5 (sJS_length_8abf5_1014 hF r1.2 ) rfl rfl (Nat.le_of_ble_eq_true rfl) (Nat.le_of_ble_eq_true rfl) fun r3 => ?_
    refine o_callSI (Y2 := YJ1_indexOf_4cfef) (pc := 17) (av := [.ref 1024, .int a, .int b, .int r3.1]) (rest := []) dJ0_indexOf_7cf53_17 k_511 cs_J1_indexOf_4cfef (sJL_indexOf_4cfef_1024 hF r3.2 a b r3.1) rfl rfl (Nat.le_of_ble_eq_true rfl) (Nat.le_of_ble_eq_true rfl) fun r4 => ?_
    refine o_goto (pc := 20) (tgt := 36) dJ0_indexOf_7cf53_20 rfl <| ?_
    exact o_iret (pc := 36) dJ0_indexOf_7cf53_36 rfl rfl
def fJS_indexOf_0f7a4_1014 (m : MI) (a : Int32) : Option (Int32 × MI) :=
  (fJS_indexOf_7cf53_1014 m a 0).bind fun r1 =>
  some (r1.1, r1.2)
theorem sJS_indexOf_0f7a4_1014 {sh : Sh} {R : RR} (hF : Fx sh R) (m : MI) (a : Int32) : KS (eI sh R) false 3 0 0 YJ0_indexOf_0f7a4 sh R m [.ref 1014, .int a] (fJS_indexOf_0f7a4_1014 m a) := by
  refine KS_of pn_J0 (fun _ => Nat.le_of_ble_eq_true rfl) ?_
  change S _ _ _ _ _ _ _ _ _ _ [(0, .ref 1014), (1, .int a)] [] _
  unfold fJS_indexOf_0f7a4_1014
  refine o_aload_n (pc := 0) 0 dJ0_indexOf_0f7a4_0 rfl rfl <| o_iload_n (pc := 1) 1 dJ0_indexOf_0f7a4_1 rfl rfl <| o_iconst (pc := 2) dJ0_indexOf_0f7a4_2 lc_0 <| ?_
  refine o_callVT (Y2 := YJ0_indexOf_7cf53) (pc := 3) (av := [.int a, .int 0]) (rest := []) 4 (Nat.le_of_ble_eq_true rfl) dJ0_indexOf_0f7a4_3 k_506 cmt_J0_indexOf_7cf53 (sJS_indexOf_7cf53_1014 hF m a 0) rfl rfl (Nat.le_of_ble_eq_true rfl) (Nat.le_of_ble_eq_true rfl) fun r1 => ?_
  exact o_iret (pc := 6) dJ0_indexOf_0f7a4_6 rfl rfl
def fP_oneOf_1014 (m : MI) : Option (Int32 × MI) :=
  if ck (m.1 43 1) 101 = true then
    if m.1 44 (m.1 43 1).toNatClampNeg = -1 then
      some (-1, m)
    else
      if ck (m.1 43 1) 101 = true then
        (fJS_indexOf_0f7a4_1014 m (((m.1 44 (m.1 43 1).toNatClampNeg).toUInt32 % 65536).toInt32)).bind fun r4 =>
        if r4.1 < 0 then
          some (r4.1, r4.2)
        else
          lm (mI r4.2 43 (upd (r4.2.1 43) 1 ((r4.2.1 43 1) + 1))) fun m6 =>
          some (r4.1, m6)
      else none
  else none
theorem sP_oneOf_1014 {sh : Sh} {R : RR} (hF : Fx sh R) (m : MI) : KS (eI sh R) false 4 0 0 YX2_oneOf sh R m [.ref 43, .ref 1014] (fP_oneOf_1014 m ) := by
  refine KS_of pn_X2 (fun _ => Nat.le_of_ble_eq_true rfl) ?_
  change S _ _ _ _ _ _ _ _ _ _ [(0, .ref 43), (1, .ref 1014)] [] _
  unfold fP_oneOf_1014
  refine o_aload_n (pc := 0) 0 dX2_oneOf_0 rfl rfl <| o_getRc (pc := 1) (a := 44) (ci := 2) (j := 2) (nn := 0) dX2_oneOf_1 (hF.1 _ _ rfl) rfl (Nat.le_of_ble_eq_true rfl) k_229 rfl (hF.2 _ _ _ rfl) <| o_aload_n (pc := 4) 0 dX2_oneOf_4 rfl rfl <| o_getI (pc := 5) (ci := 2) (j := 1) (nn := 0) dX2_oneOf_5 (hF.1 _ _ rfl) rfl (Nat.le_of_ble_eq_true rfl) k_227 rfl <| ?_
  refine S_ck fun h1 => ?_
  refine o_iald (pc := 8) (nn := 101) dX2_oneOf_8 (hF.1 _ _ rfl) (ck_in h1) <| o_iconst (pc := 9) dX2_oneOf_9 lc_m1 <| ?_
  refine o_icmp_ne (pc := 10) (tgt := 17) dX2_oneOf_10 rfl (fun h2 => ?_) (fun h2 => ?_)
  · refine o_iconst (pc := 13) dX2_oneOf_13 lc_m1 <| o_goto (pc := 14) (tgt := 31) dX2_oneOf_14 rfl <| o_istore_n (pc := 31) (ls' := [(2, .int (-1)), (0, .ref 43), (1, .ref 1014)]) dX2_oneOf_31 rfl (Nat.le_of_ble_eq_true rfl) rfl <| o_iload_n (pc := 32) 0 dX2_oneOf_32 rfl rfl <| o_if_lt_t (pc := 33) (tgt := 46) dX2_oneOf_33 rfl (by decide) <| o_iload_n (pc := 46) 0 dX2_oneOf_46 rfl rfl <| ?_
    exact o_iret (pc := 47) dX2_oneOf_47 rfl rfl
  · refine o_aload_n (pc := 17) 1 dX2_oneOf_17 rfl rfl <| o_aload_n (pc := 18) 0 dX2_oneOf_18 rfl rfl <| o_getRc (pc := 19) (a := 44) (ci := 2) (j := 2) (nn := 0) dX2_oneOf_19 (hF.1 _ _ rfl) rfl (Nat.le_of_ble_eq_true rfl) k_229 rfl (hF.2 _ _ _ rfl) <| o_aload_n (pc := 22) 0 dX2_oneOf_22 rfl rfl <| o_getI (pc := 23) (ci := 2) (j := 1) (nn := 0) dX2_oneOf_23 (hF.1 _ _ rfl) rfl (Nat.le_of_ble_eq_true rfl) k_227 rfl <| ?_
    refine S_ck fun h3 => ?_
    refine o_iald (pc := 26) (nn := 101) dX2_oneOf_26 (hF.1 _ _ rfl) (ck_in h3) <| o_i2c (pc := 27) dX2_oneOf_27 <| ?_
    refine o_callVT (Y2 := YJ0_indexOf_0f7a4) (pc := 28) (av := [.int (((m.1 44 (m.1 43 1).toNatClampNeg).toUInt32 % 65536).toInt32)]) (rest := []) 4 (Nat.le_of_ble_eq_true rfl) dX2_oneOf_28 k_502 cmt_J0_indexOf_0f7a4 (sJS_indexOf_0f7a4_1014 hF m (((m.1 44 (m.1 43 1).toNatClampNeg).toUInt32 % 65536).toInt32)) rfl rfl (Nat.le_of_ble_eq_true rfl) (Nat.le_of_ble_eq_true rfl) fun r4 => ?_
    refine o_istore_n (pc := 31) (ls' := [(2, .int r4.1), (0, .ref 43), (1, .ref 1014)]) dX2_oneOf_31 rfl (Nat.le_of_ble_eq_true rfl) rfl <| o_iload_n (pc := 32) 0 dX2_oneOf_32 rfl rfl <| ?_
    refine o_if_lt (pc := 33) (tgt := 46) dX2_oneOf_33 rfl (fun h5 => ?_) (fun h5 => ?_)
    · refine o_iload_n (pc := 46) 0 dX2_oneOf_46 rfl rfl <| ?_
      exact o_iret (pc := 47) dX2_oneOf_47 rfl rfl
    · refine o_aload_n (pc := 36) 1 dX2_oneOf_36 rfl rfl <| o_dup (pc := 37) dX2_oneOf_37 rfl <| o_getI (pc := 38) (ci := 2) (j := 1) (nn := 0) dX2_oneOf_38 (hF.1 _ _ rfl) rfl (Nat.le_of_ble_eq_true rfl) k_227 rfl <| o_iconst (pc := 41) dX2_oneOf_41 lc_1 <| o_iadd (pc := 42) dX2_oneOf_42 <| o_putI (pc := 43) (ci := 2) (j := 1) (nn := 0) dX2_oneOf_43 (hF.1 _ _ rfl) rfl (Nat.le_of_ble_eq_true rfl) k_227 rfl rfl rfl rfl rfl <| ?_
      refine o_lm fun m6 => ?_
      refine o_iload_n (pc := 46) 0 dX2_oneOf_46 rfl rfl <| ?_
      exact o_iret (pc := 47) dX2_oneOf_47 rfl rfl
def fJS_isLatin1_aae02_1015 (m : MI) : Option (Int32 × MI) :=
  some (1, m)
theorem sJS_isLatin1_aae02_1015 {sh : Sh} {R : RR} (hF : Fx sh R) (m : MI) : KS (eI sh R) false 0 0 0 YJ0_isLatin1_aae02 sh R m [.ref 1015] (fJS_isLatin1_aae02_1015 m ) := by
  refine KS_of pn_J0 (fun _ => Nat.le_of_ble_eq_true rfl) ?_
  change S _ _ _ _ _ _ _ _ _ _ [(0, .ref 1015)] [] _
  unfold fJS_isLatin1_aae02_1015
  refine o_getsC (pc := 0) dJ0_isLatin1_aae02_0 k_434 <| o_if_eq_f (pc := 3) (tgt := 17) dJ0_isLatin1_aae02_3 rfl (by decide) <| o_aload_n (pc := 6) 0 dJ0_isLatin1_aae02_6 rfl rfl <| o_getSC (pc := 7) 5 (Nat.le_of_ble_eq_true rfl) dJ0_isLatin1_aae02_7 k_1450 <| o_if_ne_f (pc := 10) (tgt := 17) dJ0_isLatin1_aae02_10 rfl (by decide) <| o_iconst (pc := 13) dJ0_isLatin1_aae02_13 lc_1 <| o_goto (pc := 14) (tgt := 18) dJ0_isLatin1_aae02_14 rfl <| ?_
  exact o_zret (pc := 18) dJ0_isLatin1_aae02_18 rfl rfl rfl
def fJS_coder_7d493_1015 (m : MI) : Option (Int32 × MI) :=
  some (0, m)
theorem sJS_coder_7d493_1015 {sh : Sh} {R : RR} (hF : Fx sh R) (m : MI) : KS (eI sh R) false 0 0 0 YJ0_coder_7d493 sh R m [.ref 1015] (fJS_coder_7d493_1015 m ) := by
  refine KS_of pn_J0 (fun _ => Nat.le_of_ble_eq_true rfl) ?_
  change S _ _ _ _ _ _ _ _ _ _ [(0, .ref 1015)] [] _
  unfold fJS_coder_7d493_1015
  refine o_getsC (pc := 0) dJ0_coder_7d493_0 k_434 <| o_if_eq_f (pc := 3) (tgt := 13) dJ0_coder_7d493_3 rfl (by decide) <| o_aload_n (pc := 6) 0 dJ0_coder_7d493_6 rfl rfl <| o_getSC (pc := 7) 5 (Nat.le_of_ble_eq_true rfl) dJ0_coder_7d493_7 k_1450 <| o_goto (pc := 10) (tgt := 14) dJ0_coder_7d493_10 rfl <| ?_
  exact o_zret (pc := 14) dJ0_coder_7d493_14 rfl rfl rfl
def fJS_length_8abf5_1015 (m : MI) : Option (Int32 × MI) :=
  (fJS_coder_7d493_1015 m).bind fun r1 =>
  some ((3 : Int32) >>> (r1.1 &&& 31), r1.2)
theorem sJS_length_8abf5_1015 {sh : Sh} {R : RR} (hF : Fx sh R) (m : MI) : KS (eI sh R) false 1 0 0 YJ0_length_8abf5 sh R m [.ref 1015] (fJS_length_8abf5_1015 m ) := by
  refine KS_of pn_J0 (fun _ => Nat.le_of_ble_eq_true rfl) ?_
  change S _ _ _ _ _ _ _ _ _ _ [(0, .ref 1015)] [] _
  unfold fJS_length_8abf5_1015
  refine o_aload_n (pc := 0) 0 dJ0_length_8abf5_0 rfl rfl <| o_getSV (pc := 1) 5 (Nat.le_of_ble_eq_true rfl) dJ0_length_8abf5_1 k_1449 <| o_alenS (pc := 4) 5 (Nat.le_of_ble_eq_true rfl) (v := 3) rfl dJ0_length_8abf5_4 <| o_aload_n (pc := 5) 0 dJ0_length_8abf5_5 rfl rfl <| ?_
  refine o_callVT (Y2 := YJ0_coder_7d493) (pc := 6) (av := []) (rest := [.int 3]) 5 (Nat.le_of_ble_eq_true rfl) dJ0_length_8abf5_6 k_430 cmt_J0_coder_7d493 (sJS_coder_7d493_1015 hF m ) rfl rfl (Nat.le_of_ble_eq_true rfl) (Nat.le_of_ble_eq_true rfl) fun r1 => ?_
  refine o_ishr (pc := 9) dJ0_length_8abf5_9 <| ?_
  exact o_iret (pc := 10) dJ0_length_8abf5_10 rfl rfl
def fJL_indexOfChar_4cfef_1025_l7 (u1 : Int32) (u2 : Int32) (u3 : Int32) (u4 : Int32) (k0_0 : MI → Int32 → Option (Int32 × MI)) : Nat → MI → Int32 → Option (Int32 × MI)
  | 0, _, _ => none
  | n0 + 1, m, v5 =>
    if u3 ≤ v5 then
      k0_0 m v5
    else
      if ck v5 3 = true then
        if ((sByt.getD 5 []).getD v5.toNatClampNeg 0) = u4 then
          some (v5, m)
        else
          lt (v5 + 1) fun x4 =>
          fJL_indexOfChar_4cfef_1025_l7 u1 u2 u3 u4 k0_0 n0 m x4
      else none
theorem sJL_indexOfChar_4cfef_1025_l7 {sh : Sh} {R : RR} (hF : Fx sh R) (u1 : Int32) (u2 : Int32) (u3 : Int32) (u4 : Int32) (k0_0 : MI → Int32 → Option (Int32 × MI)) (hk0_0 : ∀ (m : MI) (v5 : Int32) , S (eI sh R) false 0 0 0 YJ1_indexOfChar_4cfef sh R m 31 [(0, .ref 1025), (1, .int u1), (2, .int u2), (3, .int u3), (4, .int u4), (5, .int v5)] [] (k0_0 m v5)) : ∀ (n : Nat) (m : MI) (v5 : Int32) , S (eI sh R) false 0 0 0 YJ1_indexOfChar_4cfef sh R m 7 [(0, .ref 1025), (1, .int u1), (2, .int u2), (3, .int u3), (4, .int u4), (5, .int v5)] [] (fJL_indexOfChar_4cfef_1025_l7 u1 u2 u3 u4 k0_0 n m v5) := by
  intro n
  induction n with
  | zero => intros; exact S_none
  | succ n0 ih0 =>
    intro m v5
    rw [fJL_indexOfChar_4cfef_1025_l7]
    refine o_iload (pc := 7) 5 dJ1_indexOfChar_4cfef_7 rfl <| o_iload_n (pc := 9) 3 dJ1_indexOfChar_4cfef_9 rfl rfl <| ?_
    refine o_icmp_ge (pc := 10) (tgt := 31) dJ1_indexOfChar_4cfef_10 rfl (fun h1 => ?_) (fun h1 => ?_)
    · exact hk0_0 m v5
    · refine o_aload_n (pc := 13) 0 dJ1_indexOfChar_4cfef_13 rfl rfl <| o_iload (pc := 14) 5 dJ1_indexOfChar_4cfef_14 rfl <| ?_
      refine S_ck fun h2 => ?_
      refine o_baldS (pc := 16) 5 (Nat.le_of_ble_eq_true rfl) (nn := 3) rfl (ck_in h2) dJ1_indexOfChar_4cfef_16 <| o_iload (pc := 17) 4 dJ1_indexOfChar_4cfef_17 rfl <| ?_
      refine o_icmp_ne (pc := 19) (tgt := 25) dJ1_indexOfChar_4cfef_19 rfl (fun h3 => ?_) (fun h3 => ?_)
      · refine o_iload (pc := 22) 5 dJ1_indexOfChar_4cfef_22 rfl <| ?_
        exact o_iret (pc := 24) dJ1_indexOfChar_4cfef_24 rfl rfl
      · refine o_iinc (pc := 25) 5 (v := v5 + 1) (ls' := [(5, .int (v5 + 1)), (0, .ref 1025), (1, .int u1), (2, .int u2), (3, .int u3), (4, .int u4)]) dJ1_indexOfChar_4cfef_25 rfl rfl (Nat.le_of_ble_eq_true rfl) rfl <| ?_
        refine o_ltL (ls := fun x4 => [(5, .int x4), (0, .ref 1025), (1, .int u1), (2, .int u2), (3, .int u3), (4, .int u4)]) fun x4 => ?_
        refine o_goto (pc := 28) (tgt := 7) dJ1_indexOfChar_4cfef_28 rfl <| ?_
        refine o_sub [1, 2, 3, 4, 5, 0] (ls' := [(0, .ref 1025), (1, .int u1), (2, .int u2), (3, .int u3), (4, .int u4), (5, .int x4)]) rfl ?_
        exact ih0 m x4
def fJL_indexOfChar_4cfef_1025 (m : MI) (b : Int32) (c : Int32) (d : Int32) : Option (Int32 × MI) :=
  lt (b.toInt8.toInt32) fun x1 =>
  fJL_indexOfChar_4cfef_1025_l7 b c d x1
    (fun m3 z2 =>
      some (-1, m3)
      )
    1000 m c
theorem sJL_indexOfChar_4cfef_1025 {sh : Sh} {R : RR} (hF : Fx sh R) (m : MI) (b : Int32) (c : Int32) (d : Int32) : KS (eI sh R) false 0 0 0 YJ1_indexOfChar_4cfef sh R m [.ref 1025, .int b, .int c, .int d] (fJL_indexOfChar_4cfef_1025 m b c d) := by
  refine KS_of pn_J1 (fun _ => Nat.le_of_ble_eq_true rfl) ?_
  change S _ _ _ _ _ _ _ _ _ _ [(0, .ref 1025), (1, .int b), (2, .int c), (3, .int d)] [] _
  unfold fJL_indexOfChar_4cfef_1025
  refine o_iload_n (pc := 0) 1 dJ1_indexOfChar_4cfef_0 rfl rfl <| o_i2b (pc := 1) dJ1_indexOfChar_4cfef_1 <| ?_
  refine o_lt fun x1 => ?_
  refine o_istore (pc := 2) (ls' := [(4, .int x1), (0, .ref 1025), (1, .int b), (2, .int c), (3, .int d)]) dJ1_indexOfChar_4cfef_2 (Nat.le_of_ble_eq_true rfl) rfl <| o_iload_n (pc := 4) 3 dJ1_indexOfChar_4cfef_4 rfl rfl <| o_istore (pc := 5) (ls' := [(5, .int c), (4, .int x1), (0, .ref 1025), (1, .int b), (2, .int c), (3, .int d)]) dJ1_indexOfChar_4cfef_5 (Nat.le_of_ble_eq_true rfl) rfl <| ?_
  refine o_sub [2, 3, 4, 5, 1, 0] (ls' := [(0, .ref 1025), (1, .int b), (2, .int c), (3, .int d), (4, .int x1), (5, .int c)]) rfl ?_
  refine sJL_indexOfChar_4cfef_1025_l7 hF b c d x1 _ ?_ 1000 m c
  · intro m3 z2
    refine o_iconst (pc := 31) dJ1_indexOfChar_4cfef_31 lc_m1 <| ?_
    exact o_iret (pc := 32) dJ1_indexOfChar_4cfef_32 rfl rfl
def fJL_indexOf_4cfef_1025 (m : MI) (b : Int32) (c : Int32) (d : Int32) : Option (Int32 × MI) :=
  (fJL_canEncode_9a6ad m b).bind fun r1 =>
  if r1.1 = 0 then
    some (-1, r1.2)
  else
    lt (if c < 0 then 0 else c) fun x3 =>
    lt (if 3 < d then 3 else d) fun x4 =>
    if x3 < x4 then
      (fJL_indexOfChar_4cfef_1025 r1.2 b x3 x4).bind fun r6 =>
      some (r6.1, r6.2)
    else
      some (-1, r1.2)
theorem sJL_indexOf_4cfef_1025 {sh : Sh} {R : RR} (hF : Fx sh R) (m : MI) (b : Int32) (c : Int32) (d : Int32) : KS (eI sh R) false 1 0 0 YJ1_indexOf_4cfef sh R m [.ref 1025, .int b, .int c, .int d] (fJL_indexOf_4cfef_1025 m b c d) := by
  refine KS_of pn_J1 (fun _ => Nat.le_of_ble_eq_true rfl) ?_
  change S _ _ _ _ _ _ _ _ _ _ [(0, .ref 1025), (1, .int b), (2, .int c), (3, .int d)] [] _
  unfold fJL_indexOf_4cfef_1025
  refine o_iload_n (pc := 0) 1 dJ1_indexOf_4cfef_0 rfl rfl <| ?_
  refine o_callSI (Y2 := YJ1_canEncode_9a6ad) (pc := 1) (av := [.int b]) (rest := []) dJ1_indexOf_4cfef_1 k_514 cs_J1_canEncode_9a6ad (sJL_canEncode_9a6ad hF m b) rfl rfl (Nat.le_of_ble_eq_true rfl) (Nat.le_of_ble_eq_true rfl) fun r1 => ?_
  refine o_if_ne (pc := 4) (tgt := 9) dJ1_indexOf_4cfef_4 rfl (fun h2 => ?_) (fun h2 => ?_)
  · refine o_iconst (pc := 7) dJ1_indexOf_4cfef_7 lc_m1 <| ?_
    exact o_iret (pc := 8) dJ1_indexOf_4cfef_8 rfl rfl
  · refine o_iload_n (pc := 9) 2 dJ1_indexOf_4cfef_9 rfl rfl <| o_iconst (pc := 10) dJ1_indexOf_4cfef_10 lc_0 <| o_max (pc := 11) dJ1_indexOf_4cfef_11 k_517 k_347 k_81 k_348 (Nat.le_of_ble_eq_true rfl) (Nat.le_of_ble_eq_true rfl) <| ?_
    refine o_lt fun x3 => ?_
    refine o_istore_n (pc := 14) (ls' := [(2, .int x3), (0, .ref 1025), (1, .int b), (3, .int d)]) dJ1_indexOf_4cfef_14 rfl (Nat.le_of_ble_eq_true rfl) rfl <| o_iload_n (pc := 15) 3 dJ1_indexOf_4cfef_15 rfl rfl <| o_aload_n (pc := 16) 1 dJ1_indexOf_4cfef_16 rfl rfl <| o_alenS (pc := 17) 5 (Nat.le_of_ble_eq_true rfl) (v := 3) rfl dJ1_indexOf_4cfef_17 <| o_min (pc := 18) dJ1_indexOf_4cfef_18 k_518 k_519 k_81 k_520 (Nat.le_of_ble_eq_true rfl) (Nat.le_of_ble_eq_true rfl) <| ?_
    refine o_lt fun x4 => ?_
    refine o_istore_n (pc := 21) (ls' := [(3, .int x4), (2, .int x3), (0, .ref 1025), (1, .int b)]) dJ1_indexOf_4cfef_21 rfl (Nat.le_of_ble_eq_true rfl) rfl <| o_iload_n (pc := 22) 1 dJ1_indexOf_4cfef_22 rfl rfl <| o_iload_n (pc := 23) 0 dJ1_indexOf_4cfef_23 rfl rfl <| ?_
    refine o_icmp_lt (pc := 24) (tgt := 29) dJ1_indexOf_4cfef_24 rfl (fun h5 => ?_) (fun h5 => ?_)
    · refine o_aload_n (pc := 29) 2 dJ1_indexOf_4cfef_29 rfl rfl <| o_iload_n (pc := 30) 3 dJ1_indexOf_4cfef_30 rfl rfl <| o_iload_n (pc := 31) 1 dJ1_indexOf_4cfef_31 rfl rfl <| o_iload_n (pc := 32) 0 dJ1_indexOf_4cfef_32 rfl rfl <| ?_
      refine o_callSI (Y2 := YJ1_indexOfChar_4cfef) (pc := 33) (av := [.ref 1025, .int b, .int x3, .int x4]) (rest := []) dJ1_indexOf_4cfef_33 k_521 cs_J1_indexOfChar_4cfef (sJL_indexOfChar_4cfef_1025 hF r1.2 b x3 x4) rfl rfl (Nat.le_of_ble_eq_true rfl) (Nat.le_of_ble_eq_true rfl) fun r6 => ?_
      exact o_iret (pc := 36) dJ1_indexOf_4cfef_36 rfl rfl
    · refine o_iconst (pc := 27) dJ1_indexOf_4cfef_27 lc_m1 <| ?_
      exact o_iret (pc := 28) dJ1_indexOf_4cfef_28 rfl rfl
def fJS_indexOf_7cf53_1015 (m : MI) (a : Int32) (b : Int32) : Option (Int32 × MI) :=
  (fJS_isLatin1_aae02_1015 m).bind fun r1 =>
  if r1.1 = 0 then
    none
  else
    (fJS_length_8abf5_1015 r1.2).bind fun r3 =>
    (fJL_indexOf_4cfef_1025 r3.2 a b r3.1).bind fun r4 =>
    some (r4.1, r4.2)
theorem sJS_indexOf_7cf53_1015 {sh : Sh} {R : RR} (hF : Fx sh R) (m : MI) (a : Int32) (b : Int32) : KS (eI sh R) false 2 0 0 YJ0_indexOf_7cf53 sh R m [.ref 1015, .int a, .int b] (fJS_indexOf_7cf53_1015 m a b) := by
  refine KS_of pn_J0 (fun _ => Nat.le_of_ble_eq_true rfl) ?_
  change S _ _ _ _ _ _ _ _ _ _ [(0, .ref 1015), (1, .int a), (2, .int b)] [] _
  unfold fJS_indexOf_7cf53_1015
  refine o_aload_n (pc := 0) 0 dJ0_indexOf_7cf53_0 rfl rfl <| ?_
  refine o_callVT (Y2 := YJ0_isLatin1_aae02) (pc := 1) (av := []) (rest := []) 5 (Nat.le_of_ble_eq_true rfl) dJ0_indexOf_7cf53_1 k_440 cmt_J0_isLatin1_aae02 (sJS_isLatin1_aae02_1015 hF m ) rfl rfl (Nat.le_of_ble_eq_true rfl) (Nat.le_of_ble_eq_true rfl) fun r1 => ?_
  refine o_if_eq (pc := 4) (tgt := 23) dJ0_indexOf_7cf53_4 rfl (fun h2 => ?_) (fun h2 => ?_)
  · exact S_none
  · refine o_aload_n (pc := 7) 0 dJ0_indexOf_7cf53_7 rfl rfl <| o_getSV (pc := 8) 5 (Nat.le_of_ble_eq_true rfl) dJ0_indexOf_7cf53_8 k_1449 <| o_iload_n (pc := 11) 1 dJ0_indexOf_7cf53_11 rfl rfl <| o_iload_n (pc := 12) 2 dJ0_indexOf_7cf53_12 rfl rfl <| o_aload_n (pc := 13) 0 dJ0_indexOf_7cf53_13 rfl rfl <| ?_
    refine o_callVT (Y2 := YJ0_length_8abf5) (pc := 14) (av := []) (rest := [.int b, .int a, .ref 1025]) 5 (Nat.le_of_ble_eq_true rfl) dJ0_indexOf_7cf53_14 k_510 cmt_J0_length_8abf5 (sJS_length_8abf5_1015 hF r1.2 ) rfl rfl (Nat.le_of_ble_eq_true rfl) (Nat.le_of_ble_eq_true rfl) fun r3 => ?_
    refine o_callSI (Y2 := YJ1_indexOf_4cfef) (pc := 17) (av := [.ref 1025, .int a, .int b, .int r3.1]) (rest := []) dJ0_indexOf_7cf53_17 k_511 cs_J1_indexOf_4cfef (sJL_indexOf_4cfef_1025 hF r3.2 a b r3.1) rfl rfl (Nat.le_of_ble_eq_true rfl) (Nat.le_of_ble_eq_true rfl) fun r4 => ?_
    refine o_goto (pc := 20) (tgt := 36) dJ0_indexOf_7cf53_20 rfl <| ?_
    exact o_iret (pc := 36) dJ0_indexOf_7cf53_36 rfl rfl
def fJS_indexOf_0f7a4_1015 (m : MI) (a : Int32) : Option (Int32 × MI) :=
  (fJS_indexOf_7cf53_1015 m a 0).bind fun r1 =>
  some (r1.1, r1.2)
theorem sJS_indexOf_0f7a4_1015 {sh : Sh} {R : RR} (hF : Fx sh R) (m : MI) (a : Int32) : KS (eI sh R) false 3 0 0 YJ0_indexOf_0f7a4 sh R m [.ref 1015, .int a] (fJS_indexOf_0f7a4_1015 m a) := by
  refine KS_of pn_J0 (fun _ => Nat.le_of_ble_eq_true rfl) ?_
  change S _ _ _ _ _ _ _ _ _ _ [(0, .ref 1015), (1, .int a)] [] _
  unfold fJS_indexOf_0f7a4_1015
  refine o_aload_n (pc := 0) 0 dJ0_indexOf_0f7a4_0 rfl rfl <| o_iload_n (pc := 1) 1 dJ0_indexOf_0f7a4_1 rfl rfl <| o_iconst (pc := 2) dJ0_indexOf_0f7a4_2 lc_0 <| ?_
  refine o_callVT (Y2 := YJ0_indexOf_7cf53) (pc := 3) (av := [.int a, .int 0]) (rest := []) 5 (Nat.le_of_ble_eq_true rfl) dJ0_indexOf_0f7a4_3 k_506 cmt_J0_indexOf_7cf53 (sJS_indexOf_7cf53_1015 hF m a 0) rfl rfl (Nat.le_of_ble_eq_true rfl) (Nat.le_of_ble_eq_true rfl) fun r1 => ?_
  exact o_iret (pc := 6) dJ0_indexOf_0f7a4_6 rfl rfl
def fP_oneOf_1015 (m : MI) : Option (Int32 × MI) :=
  if ck (m.1 43 1) 101 = true then
    if m.1 44 (m.1 43 1).toNatClampNeg = -1 then
      some (-1, m)
    else
      if ck (m.1 43 1) 101 = true then
        (fJS_indexOf_0f7a4_1015 m (((m.1 44 (m.1 43 1).toNatClampNeg).toUInt32 % 65536).toInt32)).bind fun r4 =>
        if r4.1 < 0 then
          some (r4.1, r4.2)
        else
          lm (mI r4.2 43 (upd (r4.2.1 43) 1 ((r4.2.1 43 1) + 1))) fun m6 =>
          some (r4.1, m6)
      else none
  else none
theorem sP_oneOf_1015 {sh : Sh} {R : RR} (hF : Fx sh R) (m : MI) : KS (eI sh R) false 4 0 0 YX2_oneOf sh R m [.ref 43, .ref 1015] (fP_oneOf_1015 m ) := by
  refine KS_of pn_X2 (fun _ => Nat.le_of_ble_eq_true rfl) ?_
  change S _ _ _ _ _ _ _ _ _ _ [(0, .ref 43), (1, .ref 1015)] [] _
  unfold fP_oneOf_1015
  refine o_aload_n (pc := 0) 0 dX2_oneOf_0 rfl rfl <| o_getRc (pc := 1) (a := 44) (ci := 2) (j := 2) (nn := 0) dX2_oneOf_1 (hF.1 _ _ rfl) rfl (Nat.le_of_ble_eq_true rfl) k_229 rfl (hF.2 _ _ _ rfl) <| o_aload_n (pc := 4) 0 dX2_oneOf_4 rfl rfl <| o_getI (pc := 5) (ci := 2) (j := 1) (nn := 0) dX2_oneOf_5 (hF.1 _ _ rfl) rfl (Nat.le_of_ble_eq_true rfl) k_227 rfl <| ?_
  refine S_ck fun h1 => ?_
  refine o_iald (pc := 8) (nn := 101) dX2_oneOf_8 (hF.1 _ _ rfl) (ck_in h1) <| o_iconst (pc := 9) dX2_oneOf_9 lc_m1 <| ?_
  refine o_icmp_ne (pc := 10) (tgt := 17) dX2_oneOf_10 rfl (fun h2 => ?_) (fun h2 => ?_)
  · refine o_iconst (pc := 13) dX2_oneOf_13 lc_m1 <| o_goto (pc := 14) (tgt := 31) dX2_oneOf_14 rfl <| o_istore_n (pc := 31) (ls' := [(2, .int (-1)), (0, .ref 43), (1, .ref 1015)]) dX2_oneOf_31 rfl (Nat.le_of_ble_eq_true rfl) rfl <| o_iload_n (pc := 32) 0 dX2_oneOf_32 rfl rfl <| o_if_lt_t (pc := 33) (tgt := 46) dX2_oneOf_33 rfl (by decide) <| o_iload_n (pc := 46) 0 dX2_oneOf_46 rfl rfl <| ?_
    exact o_iret (pc := 47) dX2_oneOf_47 rfl rfl
  · refine o_aload_n (pc := 17) 1 dX2_oneOf_17 rfl rfl <| o_aload_n (pc := 18) 0 dX2_oneOf_18 rfl rfl <| o_getRc (pc := 19) (a := 44) (ci := 2) (j := 2) (nn := 0) dX2_oneOf_19 (hF.1 _ _ rfl) rfl (Nat.le_of_ble_eq_true rfl) k_229 rfl (hF.2 _ _ _ rfl) <| o_aload_n (pc := 22) 0 dX2_oneOf_22 rfl rfl <| o_getI (pc := 23) (ci := 2) (j := 1) (nn := 0) dX2_oneOf_23 (hF.1 _ _ rfl) rfl (Nat.le_of_ble_eq_true rfl) k_227 rfl <| ?_
    refine S_ck fun h3 => ?_
    refine o_iald (pc := 26) (nn := 101) dX2_oneOf_26 (hF.1 _ _ rfl) (ck_in h3) <| o_i2c (pc := 27) dX2_oneOf_27 <| ?_
    refine o_callVT (Y2 := YJ0_indexOf_0f7a4) (pc := 28) (av := [.int (((m.1 44 (m.1 43 1).toNatClampNeg).toUInt32 % 65536).toInt32)]) (rest := []) 5 (Nat.le_of_ble_eq_true rfl) dX2_oneOf_28 k_502 cmt_J0_indexOf_0f7a4 (sJS_indexOf_0f7a4_1015 hF m (((m.1 44 (m.1 43 1).toNatClampNeg).toUInt32 % 65536).toInt32)) rfl rfl (Nat.le_of_ble_eq_true rfl) (Nat.le_of_ble_eq_true rfl) fun r4 => ?_
    refine o_istore_n (pc := 31) (ls' := [(2, .int r4.1), (0, .ref 43), (1, .ref 1015)]) dX2_oneOf_31 rfl (Nat.le_of_ble_eq_true rfl) rfl <| o_iload_n (pc := 32) 0 dX2_oneOf_32 rfl rfl <| ?_
    refine o_if_lt (pc := 33) (tgt := 46) dX2_oneOf_33 rfl (fun h5 => ?_) (fun h5 => ?_)
    · refine o_iload_n (pc := 46) 0 dX2_oneOf_46 rfl rfl <| ?_
      exact o_iret (pc := 47) dX2_oneOf_47 rfl rfl
    · refine o_aload_n (pc := 36) 1 dX2_oneOf_36 rfl rfl <| o_dup (pc := 37) dX2_oneOf_37 rfl <| o_getI (pc := 38) (ci := 2) (j := 1) (nn := 0) dX2_oneOf_38 (hF.1 _ _ rfl) rfl (Nat.le_of_ble_eq_true rfl) k_227 rfl <| o_iconst (pc := 41) dX2_oneOf_41 lc_1 <| o_iadd (pc := 42) dX2_oneOf_42 <| o_putI (pc := 43) (ci := 2) (j := 1) (nn := 0) dX2_oneOf_43 (hF.1 _ _ rfl) rfl (Nat.le_of_ble_eq_true rfl) k_227 rfl rfl rfl rfl rfl <| ?_
      refine o_lm fun m6 => ?_
      refine o_iload_n (pc := 46) 0 dX2_oneOf_46 rfl rfl <| ?_
      exact o_iret (pc := 47) dX2_oneOf_47 rfl rfl
def fH_test (m : MI) (a : Int32) (b : Int32) (c : Int32) : Option (Int32 × MI) :=
  some ((((0 : Int32) ||| (a <<< (3 &&& 31))) ||| (b <<< (6 &&& 31))) ||| (c <<< (8 &&& 31)), m)
theorem sH_test {sh : Sh} {R : RR} (hF : Fx sh R) (m : MI) (a : Int32) (b : Int32) (c : Int32) : KS (eI sh R) false 0 0 0 YX1_test sh R m [.int a, .int b, .int c] (fH_test m a b c) := by
  refine KS_of pn_X1 (fun _ => Nat.le_of_ble_eq_true rfl) ?_
  change S _ _ _ _ _ _ _ _ _ _ [(0, .int a), (1, .int b), (2, .int c)] [] _
  unfold fH_test
  refine o_iconst (pc := 0) dX1_test_0 lc_0 <| o_iload_n (pc := 1) 0 dX1_test_1 rfl rfl <| o_iconst (pc := 2) dX1_test_2 lc_3 <| o_ishl (pc := 3) dX1_test_3 <| o_ior (pc := 4) dX1_test_4 <| o_iload_n (pc := 5) 1 dX1_test_5 rfl rfl <| o_bipush (pc := 6) dX1_test_6 lb_6 <| o_ishl (pc := 8) dX1_test_8 <| o_ior (pc := 9) dX1_test_9 <| o_iload_n (pc := 10) 2 dX1_test_10 rfl rfl <| ?_
  refine o_bipush (pc := 11) dX1_test_11 lb_8 <| o_ishl (pc := 13) dX1_test_13 <| o_ior (pc := 14) dX1_test_14 <| ?_
  exact o_iret (pc := 15) dX1_test_15 rfl rfl
def fP_readsTest (m : MI) : Option (Int32 × MI) :=
  (fP_oneOf_1014 m).bind fun r1 =>
  if 0 ≤ r1.1 then
    (fP_oneOf_1015 r1.2).bind fun r3 =>
    if 0 ≤ r3.1 then
      (fP_number r3.2).bind fun r5 =>
      if 0 ≤ r5.1 then
        (fH_test r5.2 r1.1 r3.1 r5.1).bind fun r7 =>
        (fP_keep r7.2 r7.1).bind fun r8 =>
        some (1, r8)
      else
        some (0, r5.2)
    else
      some (0, r3.2)
  else
    some (0, r1.2)
theorem sP_readsTest {sh : Sh} {R : RR} (hF : Fx sh R) (m : MI) : KS (eI sh R) false 5 0 0 YX2_readsTest sh R m [.ref 43] (fP_readsTest m ) := by
  refine KS_of pn_X2 (fun _ => Nat.le_of_ble_eq_true rfl) ?_
  change S _ _ _ _ _ _ _ _ _ _ [(0, .ref 43)] [] _
  unfold fP_readsTest
  refine o_aload_n (pc := 0) 0 dX2_readsTest_0 rfl rfl <| o_ldcS (pc := 1) 4 (Nat.le_of_ble_eq_true rfl) rfl dX2_readsTest_1 <| ?_
  refine o_callVI (Y2 := YX2_oneOf) (pc := 3) (av := [.ref 1014]) (rest := []) dX2_readsTest_3 k_498 cm_X2_oneOf (sP_oneOf_1014 hF m ) (hF.1 _ _ rfl) rfl rfl (Nat.le_of_ble_eq_true rfl) (Nat.le_of_ble_eq_true rfl) fun r1 => ?_
  refine o_istore_n (pc := 6) (ls' := [(1, .int r1.1), (0, .ref 43)]) dX2_readsTest_6 rfl (Nat.le_of_ble_eq_true rfl) rfl <| o_iload_n (pc := 7) 0 dX2_readsTest_7 rfl rfl <| ?_
  refine o_if_ge (pc := 8) (tgt := 15) dX2_readsTest_8 rfl (fun h2 => ?_) (fun h2 => ?_)
  · refine o_aload_n (pc := 15) 1 dX2_readsTest_15 rfl rfl <| o_ldcS (pc := 16) 5 (Nat.le_of_ble_eq_true rfl) rfl dX2_readsTest_16 <| ?_
    refine o_callVI (Y2 := YX2_oneOf) (pc := 18) (av := [.ref 1015]) (rest := []) dX2_readsTest_18 k_498 cm_X2_oneOf (sP_oneOf_1015 hF r1.2 ) (hF.1 _ _ rfl) rfl rfl (Nat.le_of_ble_eq_true rfl) (Nat.le_of_ble_eq_true rfl) fun r3 => ?_
    refine o_istore_n (pc := 21) (ls' := [(2, .int r3.1), (1, .int r1.1), (0, .ref 43)]) dX2_readsTest_21 rfl (Nat.le_of_ble_eq_true rfl) rfl <| o_iload_n (pc := 22) 0 dX2_readsTest_22 rfl rfl <| ?_
    refine o_if_ge (pc := 23) (tgt := 30) dX2_readsTest_23 rfl (fun h4 => ?_) (fun h4 => ?_)
    · refine o_aload_n (pc := 30) 2 dX2_readsTest_30 rfl rfl <| ?_
      refine o_callVI (Y2 := YX2_number) (pc := 31) (av := []) (rest := []) dX2_readsTest_31 k_481 cm_X2_number (sP_number hF r3.2 ) (hF.1 _ _ rfl) rfl rfl (Nat.le_of_ble_eq_true rfl) (Nat.le_of_ble_eq_true rfl) fun r5 => ?_
      refine o_istore_n (pc := 34) (ls' := [(3, .int r5.1), (2, .int r3.1), (1, .int r1.1), (0, .ref 43)]) dX2_readsTest_34 rfl (Nat.le_of_ble_eq_true rfl) rfl <| o_iload_n (pc := 35) 0 dX2_readsTest_35 rfl rfl <| ?_
      refine o_if_ge (pc := 36) (tgt := 41) dX2_readsTest_36 rfl (fun h6 => ?_) (fun h6 => ?_)
      · refine o_aload_n (pc := 41) 3 dX2_readsTest_41 rfl rfl <| o_iload_n (pc := 42) 2 dX2_readsTest_42 rfl rfl <| o_iload_n (pc := 43) 1 dX2_readsTest_43 rfl rfl <| o_iload_n (pc := 44) 0 dX2_readsTest_44 rfl rfl <| ?_
        refine o_callSI (Y2 := YX1_test) (pc := 45) (av := [.int r1.1, .int r3.1, .int r5.1]) (rest := [.ref 43]) dX2_readsTest_45 k_560 cs_X1_test (sH_test hF r5.2 r1.1 r3.1 r5.1) rfl rfl (Nat.le_of_ble_eq_true rfl) (Nat.le_of_ble_eq_true rfl) fun r7 => ?_
        refine o_callVV (Y2 := YX2_keep) (pc := 48) (av := [.int r7.1]) (rest := []) dX2_readsTest_48 k_563 cm_X2_keep (sP_keep hF r7.2 r7.1) (hF.1 _ _ rfl) rfl rfl (Nat.le_of_ble_eq_true rfl) (Nat.le_of_ble_eq_true rfl) fun r8 => ?_
        refine o_iconst (pc := 51) dX2_readsTest_51 lc_1 <| ?_
        exact o_zret (pc := 52) dX2_readsTest_52 rfl rfl rfl
      · refine o_iconst (pc := 39) dX2_readsTest_39 lc_0 <| ?_
        exact o_zret (pc := 40) dX2_readsTest_40 rfl rfl rfl
    · refine o_iconst (pc := 26) dX2_readsTest_26 lc_m1 <| o_goto (pc := 27) (tgt := 34) dX2_readsTest_27 rfl <| o_istore_n (pc := 34) (ls' := [(3, .int (-1)), (2, .int r3.1), (1, .int r1.1), (0, .ref 43)]) dX2_readsTest_34 rfl (Nat.le_of_ble_eq_true rfl) rfl <| o_iload_n (pc := 35) 0 dX2_readsTest_35 rfl rfl <| o_if_ge_f (pc := 36) (tgt := 41) dX2_readsTest_36 rfl (by decide) <| o_iconst (pc := 39) dX2_readsTest_39 lc_0 <| ?_
      exact o_zret (pc := 40) dX2_readsTest_40 rfl rfl rfl
  · refine o_iconst (pc := 11) dX2_readsTest_11 lc_m1 <| o_goto (pc := 12) (tgt := 21) dX2_readsTest_12 rfl <| o_istore_n (pc := 21) (ls' := [(2, .int (-1)), (1, .int r1.1), (0, .ref 43)]) dX2_readsTest_21 rfl (Nat.le_of_ble_eq_true rfl) rfl <| o_iload_n (pc := 22) 0 dX2_readsTest_22 rfl rfl <| o_if_ge_f (pc := 23) (tgt := 30) dX2_readsTest_23 rfl (by decide) <| o_iconst (pc := 26) dX2_readsTest_26 lc_m1 <| o_goto (pc := 27) (tgt := 34) dX2_readsTest_27 rfl <| o_istore_n (pc := 34) (ls' := [(3, .int (-1)), (2, .int (-1)), (1, .int r1.1), (0, .ref 43)]) dX2_readsTest_34 rfl (Nat.le_of_ble_eq_true rfl) rfl <| o_iload_n (pc := 35) 0 dX2_readsTest_35 rfl rfl <| o_if_ge_f (pc := 36) (tgt := 41) dX2_readsTest_36 rfl (by decide) <| ?_
    refine o_iconst (pc := 39) dX2_readsTest_39 lc_0 <| ?_
    exact o_zret (pc := 40) dX2_readsTest_40 rfl rfl rfl
