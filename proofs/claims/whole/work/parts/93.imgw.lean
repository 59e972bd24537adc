/-! IMAGE, UNDO, HUT of the class (walks by hand; words and places printed by wip/whole/hutc2.py) -/
theorem cm_X5_become : CMo YX5_become 5 1 := ⟨_, rfl, rfl, k_773, k_774, k_73, k_775, ⟨by decide +kernel, by decide +kernel, by decide +kernel⟩, (Nat.le_of_ble_eq_true rfl)⟩
theorem cm_X2_newHut : CMo YX2_newHut 2 0 := ⟨_, rfl, rfl, k_571, k_572, k_76, k_573, ⟨by decide +kernel, by decide +kernel, by decide +kernel⟩, (Nat.le_of_ble_eq_true rfl)⟩
theorem cm_X2_readsAll : CMo YX2_readsAll 2 0 := ⟨_, rfl, rfl, k_410, k_411, k_76, k_412, ⟨by decide +kernel, by decide +kernel, by decide +kernel⟩, (Nat.le_of_ble_eq_true rfl)⟩
theorem x_callG {ρ ρ2 : Type} {em : EM ρ} {em2 : EM ρ2} {f : Option ρ} {b b2 : Bool} {d k n d2 k2 n2 np rk nn ci idx pc : Nat} {Y Y2 : YD} {sh sh' : Sh} {R R' : RR} {m m' : MI} {ls : List (Nat × Value)} {st av rest : List Value} {r2 : ρ2} {v : Option Value} (k' n' : Nat) (he : em2 r2 = (v, sh', mk m' R')) (hd : decode Y.2.1 pc = .ok (.invokevirtual idx, 3)) (hlink : Cond.methodLink Y.1.cls idx Y2.1 ∈ tW) (hM : CMo Y2 ci np) (hK : KS em2 b2 d2 k2 n2 Y2 sh R m (.ref rk :: av) (some r2)) (hs : sh[rk]? = some (10 + ci, nn)) (hav : av.length = np) (hst : st = av.reverse ++ .ref rk :: rest) (hcat : (rest.map fun v => v.category).sum ≤ 8) (hd2 : d2 + 1 ≤ d)
    (hb : b2 = false ∨ (b = true ∧ (∀ q ∈ ls, okv sh.length q.2) ∧ ∀ v ∈ rest, okv sh.length v)) (hk : k' + k2 ≤ k) (hn : n' + n2 ≤ n)
    (g : S em b d k' n' Y sh' R' m' (pc + 3) ls (v.toList ++ rest) f) : S em b d k n Y sh R m pc ls st f := fun r hr => by
  obtain ⟨q, hc, hq, hinst, hsel, hini, hcode, hx, hml⟩ := hM
  refine G_callV hd (hK r2 rfl) hs hc hq hlink hinst hsel hini hcode hx hav hst hcat hd2 hml hb (by omega) (by omega) (fun v2 sh2 M2 e _ => ?_)
  rw [he] at e
  simp only [Prod.mk.injEq] at e
  obtain ⟨rfl, rfl, rfl⟩ := e
  intro p l e s m args below meth c H locs cells slots E ad0 n0 ad A larr mc ms hC hAg hn hW hS hl hk2 hs2
  exact g r hr p l e s m args below meth c H locs cells slots E ad0 n0 ad A larr mc ms hC hAg hn hW hS hl (by omega) (by omega)
theorem Fx_hut {sh : Sh} {R : RR} {w : Nat} {x : Option Nat} (hF : Fx sh R) (hw : w = 1 ∨ w = 19) : Fx sh (ur R w (va_up (R w) 15 x)) := by
  refine ⟨hF.1, fun k j a e => ?_⟩
  by_cases c : k = w
  · subst c
    have n1 : tbR 1 15 = none := by decide +kernel
    have n2 : tbR 19 15 = none := by decide +kernel
    rw [ur_s]
    unfold va_up
    have hj : j ≠ 15 := fun q => by
      subst q
      rcases hw with rfl | rfl
      · rw [n1] at e; cases e
      · rw [n2] at e; cases e
    rw [if_neg hj]
    exact hF.2 _ _ _ e
  · rw [ur_n c]; exact hF.2 _ _ _ e
def eIB (w o : Nat) (sh : Sh) (R : RR) : EM (Int32 × MI) := eI sh (ur R w (va_up (R w) 15 (R o 15)))
theorem sC_image {sh : Sh} {R : RR} (hF : Fx sh R) {m m1 : MI} (h : fW_become_19 sh R m = some m1) : KS (eIB 19 1 sh R) false 2 0 0 YX6_image sh R m [.ref 0] (some (m1.1 19 0, mI m1 0 (upd (m1.1 0) 2 1))) := by
  have hF2 : Fx sh (ur R 19 (va_up (R 19) 15 (R 1 15))) := Fx_hut hF (Or.inr rfl)
  refine KS_of pn_X6 (fun _ => (Nat.le_of_ble_eq_true rfl)) ?_
  change S _ _ _ _ _ _ _ _ _ _ [(0, .ref 0)] [] _
  refine o_aload_n (pc := 0) 0 dX6_image_0 rfl rfl ?_
  refine o_getRc (pc := 1) (a := 19) (ci := 6) (j := 1) (nn := 0) dX6_image_1 (hF.1 _ _ rfl) rfl (Nat.le_of_ble_eq_true rfl) k_293 rfl (hF.2 _ _ _ rfl) ?_
  refine o_aload_n (pc := 4) 0 dX6_image_4 rfl rfl ?_
  refine o_getRc (pc := 5) (a := 1) (ci := 6) (j := 0) (nn := 0) dX6_image_5 (hF.1 _ _ rfl) rfl (Nat.le_of_ble_eq_true rfl) k_292 rfl (hF.2 _ _ _ rfl) ?_
  refine x_callG (Y2 := YX5_become) (em2 := eB 19 1 sh R) (r2 := m1) (v := none) (av := [.ref 1]) (rest := []) (sh' := sh) (R' := ur R 19 (va_up (R 19) 15 (R 1 15))) (m' := m1) (b2 := false) (d2 := 1) (k2 := 0) (n2 := 0) 0 0 (pc := 8) rfl dX6_image_8 k_772 cm_X5_become (by rw [← h]; exact sW_become_19 hF m) (hF.1 _ _ rfl) rfl rfl (Nat.le_of_ble_eq_true rfl) (Nat.le_of_ble_eq_true rfl) (Or.inl rfl) (Nat.le_of_ble_eq_true rfl) (Nat.le_of_ble_eq_true rfl) ?_
  refine o_aload_n (pc := 11) 0 dX6_image_11 rfl rfl ?_
  refine o_iconst (pc := 12) dX6_image_12 lc_1 ?_
  refine o_putI (pc := 13) (ci := 6) (j := 2) (nn := 0) dX6_image_13 (hF2.1 _ _ rfl) rfl (Nat.le_of_ble_eq_true rfl) k_294 rfl rfl rfl rfl rfl ?_
  refine o_aload_n (pc := 16) 0 dX6_image_16 rfl rfl ?_
  refine o_getRc (pc := 17) (a := 19) (ci := 6) (j := 1) (nn := 0) dX6_image_17 (hF2.1 _ _ rfl) rfl (Nat.le_of_ble_eq_true rfl) k_293 rfl (hF2.2 _ _ _ rfl) ?_
  refine o_getI (pc := 20) (ci := 5) (j := 0) (nn := 0) dX6_image_20 (hF2.1 _ _ rfl) rfl (Nat.le_of_ble_eq_true rfl) k_124 rfl ?_
  exact o_iret (pc := 23) dX6_image_23 rfl rfl
theorem sC_undo0 {sh : Sh} {R : RR} (hF : Fx sh R) {m : MI} (h : m.1 0 2 = 0) : KS (eI sh R) false 2 0 0 YX6_undo sh R m [.ref 0] (some (-3, m)) := by
  refine KS_of pn_X6 (fun _ => (Nat.le_of_ble_eq_true rfl)) ?_
  change S _ _ _ _ _ _ _ _ _ _ [(0, .ref 0)] [] _
  refine o_aload_n (pc := 0) 0 dX6_undo_0 rfl rfl ?_
  refine o_getI (pc := 1) (ci := 6) (j := 2) (nn := 0) dX6_undo_1 (hF.1 _ _ rfl) rfl (Nat.le_of_ble_eq_true rfl) k_294 rfl ?_
  refine o_if_ne_f (pc := 4) (tgt := 10) dX6_undo_4 rfl h ?_
  refine o_bipush (pc := 7) dX6_undo_7 lb_m3 ?_
  exact o_iret (pc := 9) dX6_undo_9 rfl rfl
theorem sC_undo1 {sh : Sh} {R : RR} (hF : Fx sh R) {m m1 : MI} (h0 : ¬ m.1 0 2 = 0) (h : fW_become_1 sh R m = some m1) : KS (eIB 1 19 sh R) false 2 0 0 YX6_undo sh R m [.ref 0] (some (m1.1 1 0, m1)) := by
  have hF2 : Fx sh (ur R 1 (va_up (R 1) 15 (R 19 15))) := Fx_hut hF (Or.inl rfl)
  refine KS_of pn_X6 (fun _ => (Nat.le_of_ble_eq_true rfl)) ?_
  change S _ _ _ _ _ _ _ _ _ _ [(0, .ref 0)] [] _
  refine o_aload_n (pc := 0) 0 dX6_undo_0 rfl rfl ?_
  refine o_getI (pc := 1) (ci := 6) (j := 2) (nn := 0) dX6_undo_1 (hF.1 _ _ rfl) rfl (Nat.le_of_ble_eq_true rfl) k_294 rfl ?_
  refine o_if_ne_t (pc := 4) (tgt := 10) dX6_undo_4 rfl h0 ?_
  refine o_aload_n (pc := 10) 0 dX6_undo_10 rfl rfl ?_
  refine o_getRc (pc := 11) (a := 1) (ci := 6) (j := 0) (nn := 0) dX6_undo_11 (hF.1 _ _ rfl) rfl (Nat.le_of_ble_eq_true rfl) k_292 rfl (hF.2 _ _ _ rfl) ?_
  refine o_aload_n (pc := 14) 0 dX6_undo_14 rfl rfl ?_
  refine o_getRc (pc := 15) (a := 19) (ci := 6) (j := 1) (nn := 0) dX6_undo_15 (hF.1 _ _ rfl) rfl (Nat.le_of_ble_eq_true rfl) k_293 rfl (hF.2 _ _ _ rfl) ?_
  refine x_callG (Y2 := YX5_become) (em2 := eB 1 19 sh R) (r2 := m1) (v := none) (av := [.ref 19]) (rest := []) (sh' := sh) (R' := ur R 1 (va_up (R 1) 15 (R 19 15))) (m' := m1) (b2 := false) (d2 := 1) (k2 := 0) (n2 := 0) 0 0 (pc := 18) rfl dX6_undo_18 k_772 cm_X5_become (by rw [← h]; exact sW_become_1 hF m) (hF.1 _ _ rfl) rfl rfl (Nat.le_of_ble_eq_true rfl) (Nat.le_of_ble_eq_true rfl) (Or.inl rfl) (Nat.le_of_ble_eq_true rfl) (Nat.le_of_ble_eq_true rfl) ?_
  refine o_aload_n (pc := 21) 0 dX6_undo_21 rfl rfl ?_
  refine o_getRc (pc := 22) (a := 1) (ci := 6) (j := 0) (nn := 0) dX6_undo_22 (hF2.1 _ _ rfl) rfl (Nat.le_of_ble_eq_true rfl) k_292 rfl (hF2.2 _ _ _ rfl) ?_
  refine o_getI (pc := 25) (ci := 5) (j := 0) (nn := 0) dX6_undo_25 (hF2.1 _ _ rfl) rfl (Nat.le_of_ble_eq_true rfl) k_124 rfl ?_
  exact o_iret (pc := 28) dX6_undo_28 rfl rfl
theorem sC_hut0 {sh : Sh} {R : RR} (hF : Fx sh R) {m : MI} (h : ¬ m.1 0 7 < 6) : KS (eI sh R) false 75 0 0 YX6_hut sh R m [.ref 0] (some (-4, m)) := by
  refine KS_of pn_X6 (fun _ => (Nat.le_of_ble_eq_true rfl)) ?_
  change S _ _ _ _ _ _ _ _ _ _ [(0, .ref 0)] [] _
  refine o_aload_n (pc := 0) 0 dX6_hut_0 rfl rfl ?_
  refine o_getI (pc := 1) (ci := 6) (j := 7) (nn := 0) dX6_hut_1 (hF.1 _ _ rfl) rfl (Nat.le_of_ble_eq_true rfl) k_299 rfl ?_
  refine o_bipush (pc := 4) dX6_hut_4 lb_6 ?_
  refine o_icmp_lt_f (pc := 6) (tgt := 12) dX6_hut_6 rfl h ?_
  refine o_bipush (pc := 9) dX6_hut_9 lb_m4 ?_
  exact o_iret (pc := 11) dX6_hut_11 rfl rfl
theorem sC_hut1 {sh : Sh} {R : RR} (hF : Fx sh R) {m m1 : MI} (h6 : m.1 0 7 < 6) (h : fP_readsAll m = some (0, m1)) : KS (eI sh R) false 75 0 0 YX6_hut sh R m [.ref 0] (some (-10 - m1.1 43 1, mI m1 43 (upd (m1.1 43) 0 0))) := by
  refine KS_of pn_X6 (fun _ => (Nat.le_of_ble_eq_true rfl)) ?_
  change S _ _ _ _ _ _ _ _ _ _ [(0, .ref 0)] [] _
  refine o_aload_n (pc := 0) 0 dX6_hut_0 rfl rfl ?_
  refine o_getI (pc := 1) (ci := 6) (j := 7) (nn := 0) dX6_hut_1 (hF.1 _ _ rfl) rfl (Nat.le_of_ble_eq_true rfl) k_299 rfl ?_
  refine o_bipush (pc := 4) dX6_hut_4 lb_6 ?_
  refine o_icmp_lt_t (pc := 6) (tgt := 12) dX6_hut_6 rfl h6 ?_
  refine o_aload_n (pc := 12) 0 dX6_hut_12 rfl rfl ?_
  refine o_getRc (pc := 13) (a := 43) (ci := 6) (j := 6) (nn := 0) dX6_hut_13 (hF.1 _ _ rfl) rfl (Nat.le_of_ble_eq_true rfl) k_298 rfl (hF.2 _ _ _ rfl) ?_
  refine x_callG (Y2 := YX2_readsAll) (em2 := eI sh R) (r2 := (0, m1)) (v := some (.int 0)) (av := []) (rest := []) (sh' := sh) (R' := R) (m' := m1) (b2 := false) (d2 := 74) (k2 := 0) (n2 := 0) 0 0 (pc := 16) rfl dX6_hut_16 k_409 cm_X2_readsAll (by rw [← h]; exact sP_readsAll hF m) (hF.1 _ _ rfl) rfl rfl (Nat.le_of_ble_eq_true rfl) (Nat.le_of_ble_eq_true rfl) (Or.inl rfl) (Nat.le_of_ble_eq_true rfl) (Nat.le_of_ble_eq_true rfl) ?_
  refine o_istore_n (pc := 19) (ls' := [(1, .int 0), (0, .ref 0)]) dX6_hut_19 rfl (Nat.le_of_ble_eq_true rfl) rfl ?_
  refine o_aload_n (pc := 20) 1 dX6_hut_20 rfl rfl ?_
  refine o_getRc (pc := 21) (a := 43) (ci := 6) (j := 6) (nn := 0) dX6_hut_21 (hF.1 _ _ rfl) rfl (Nat.le_of_ble_eq_true rfl) k_298 rfl (hF.2 _ _ _ rfl) ?_
  refine o_iconst (pc := 24) dX6_hut_24 lc_0 ?_
  refine o_putI (pc := 25) (ci := 2) (j := 0) (nn := 0) dX6_hut_25 (hF.1 _ _ rfl) rfl (Nat.le_of_ble_eq_true rfl) k_226 rfl rfl rfl rfl rfl ?_
  refine o_iload_n (pc := 28) 0 dX6_hut_28 rfl rfl ?_
  refine o_if_ne_f (pc := 29) (tgt := 43) dX6_hut_29 rfl rfl ?_
  refine o_bipush (pc := 32) dX6_hut_32 lb_m10 ?_
  refine o_aload_n (pc := 34) 1 dX6_hut_34 rfl rfl ?_
  refine o_getRc (pc := 35) (a := 43) (ci := 6) (j := 6) (nn := 0) dX6_hut_35 (hF.1 _ _ rfl) rfl (Nat.le_of_ble_eq_true rfl) k_298 rfl (hF.2 _ _ _ rfl) ?_
  refine o_getI (pc := 38) (ci := 2) (j := 1) (nn := 0) dX6_hut_38 (hF.1 _ _ rfl) rfl (Nat.le_of_ble_eq_true rfl) k_228 rfl ?_
  refine o_isub (pc := 41) dX6_hut_41 ?_
  refine o_iret (pc := 42) dX6_hut_42 rfl ?_
  rw [show (mI m1 43 (upd (m1.1 43) 0 0)).1 43 1 = m1.1 43 1 by rw [mI_s, upd_n (by decide)]]
  rfl
theorem sC_hut2 {sh : Sh} {R : RR} (hF : Fx sh R) {m m1 m2 m3 : MI} {L N : Nat} (h6 : m.1 0 7 < 6) (h : fP_readsAll m = some (1, m1)) (hm2 : m2 = mI m1 43 (upd (m1.1 43) 0 0)) (hL : sh.length = L) (hL2 : L < 800) (h99 : 99 ≤ L) (hR : Rok L R) (hN : N < 100) (h5 : m1.1 43 5 = nI N)
    (hF2 : Fx (sh ++ [(11, 0)] ++ [(0, N)]) (ur (nhR R L) 1 (va_up (nhR R L 1) 15 (some L)))) (h3 : fW_makeWhole (sh ++ [(11, 0)] ++ [(0, N)]) (ur (nhR R L) 1 (va_up (nhR R L 1) 15 (some L))) (nhE m2 L N (m2.1 43 3) (m2.1 43 4)) = some m3) :
    KS eIX true 75 2 103 YX6_hut sh R m [.ref 0] (some (m3.1 0 7, sh ++ [(11, 0)] ++ [(0, N)], ur (nhR R L) 1 (va_up (nhR R L 1) 15 (some L)), mI m3 0 (upd (m3.1 0) 7 (m3.1 0 7 + 1)))) := by
  have at1 : ∀ {j : Nat} {s : Nat × Nat}, base[j]? = some s → (sh ++ [((11, 0) : Nat × Nat)] ++ [((0, N) : Nat × Nat)])[j]? = some s := fun {j s} h => hF2.1 j s h
  have r1 : nhR R L 0 = R 0 := by
    unfold nhR
    rw [ur_n (by omega)]
    show ur (zR R L) (L + 1) _ 0 = _
    rw [ur_n (by omega)]
    exact ur_n (by omega)
  refine KS_of pn_X6 (fun _ => (Nat.le_of_ble_eq_true rfl)) ?_
  change S _ _ _ _ _ _ _ _ _ _ [(0, .ref 0)] [] _
  refine o_aload_n (pc := 0) 0 dX6_hut_0 rfl rfl ?_
  refine o_getI (pc := 1) (ci := 6) (j := 7) (nn := 0) dX6_hut_1 (hF.1 _ _ rfl) rfl (Nat.le_of_ble_eq_true rfl) k_299 rfl ?_
  refine o_bipush (pc := 4) dX6_hut_4 lb_6 ?_
  refine o_icmp_lt_t (pc := 6) (tgt := 12) dX6_hut_6 rfl h6 ?_
  refine o_aload_n (pc := 12) 0 dX6_hut_12 rfl rfl ?_
  refine o_getRc (pc := 13) (a := 43) (ci := 6) (j := 6) (nn := 0) dX6_hut_13 (hF.1 _ _ rfl) rfl (Nat.le_of_ble_eq_true rfl) k_298 rfl (hF.2 _ _ _ rfl) ?_
  refine x_callG (Y2 := YX2_readsAll) (em2 := eI sh R) (r2 := (1, m1)) (v := some (.int 1)) (av := []) (rest := []) (sh' := sh) (R' := R) (m' := m1) (b2 := false) (d2 := 74) (k2 := 0) (n2 := 0) 2 103 (pc := 16) rfl dX6_hut_16 k_409 cm_X2_readsAll (by rw [← h]; exact sP_readsAll hF m) (hF.1 _ _ rfl) rfl rfl (Nat.le_of_ble_eq_true rfl) (Nat.le_of_ble_eq_true rfl) (Or.inl rfl) (Nat.le_refl _) (Nat.le_refl _) ?_
  refine o_istore_n (pc := 19) (ls' := [(1, .int 1), (0, .ref 0)]) dX6_hut_19 rfl (Nat.le_of_ble_eq_true rfl) rfl ?_
  refine o_aload_n (pc := 20) 1 dX6_hut_20 rfl rfl ?_
  refine o_getRc (pc := 21) (a := 43) (ci := 6) (j := 6) (nn := 0) dX6_hut_21 (hF.1 _ _ rfl) rfl (Nat.le_of_ble_eq_true rfl) k_298 rfl (hF.2 _ _ _ rfl) ?_
  refine o_iconst (pc := 24) dX6_hut_24 lc_0 ?_
  refine o_putI (pc := 25) (ci := 2) (j := 0) (nn := 0) dX6_hut_25 (hF.1 _ _ rfl) rfl (Nat.le_of_ble_eq_true rfl) k_226 rfl rfl rfl rfl rfl ?_
  refine o_iload_n (pc := 28) 0 dX6_hut_28 rfl rfl ?_
  refine o_if_ne_t (pc := 29) (tgt := 43) dX6_hut_29 rfl (by decide) ?_
  rw [← hm2]
  refine o_aload_n (pc := 43) 1 dX6_hut_43 rfl rfl ?_
  refine o_getRc (pc := 44) (a := 1) (ci := 6) (j := 0) (nn := 0) dX6_hut_44 (hF.1 _ _ rfl) rfl (Nat.le_of_ble_eq_true rfl) k_292 rfl (hF.2 _ _ _ rfl) ?_
  refine o_aload_n (pc := 47) 1 dX6_hut_47 rfl rfl ?_
  refine o_getRc (pc := 48) (a := 43) (ci := 6) (j := 6) (nn := 0) dX6_hut_48 (hF.1 _ _ rfl) rfl (Nat.le_of_ble_eq_true rfl) k_298 rfl (hF.2 _ _ _ rfl) ?_
  have e5 : m2.1 43 5 = nI N := by rw [hm2, mI_s, upd_n (by decide)]; exact h5
  refine x_callG (Y2 := YX2_newHut) (em2 := eQX) (r2 := (L, sh ++ [(11, 0)] ++ [(0, N)], nhR R L, nhE m2 L N (m2.1 43 3) (m2.1 43 4))) (v := some (.ref L)) (av := []) (rest := [.ref 1]) (sh' := sh ++ [(11, 0)] ++ [(0, N)]) (R' := nhR R L) (m' := nhE m2 L N (m2.1 43 3) (m2.1 43 4)) (b2 := true) (d2 := 3) (k2 := 2) (n2 := 3 + N) 0 0 (pc := 51) rfl dX6_hut_51 k_570 cm_X2_newHut (s_newHut hF hL hL2 h99 hR hN e5) (hF.1 _ _ rfl) rfl rfl (Nat.le_of_ble_eq_true rfl) (Nat.le_of_ble_eq_true rfl) (Or.inr ⟨rfl, fun q hq => ?_, fun q hq => ?_⟩) (by omega) (by omega) ?_
  · simp only [List.mem_cons, List.not_mem_nil, or_false] at hq
    rcases hq with rfl | rfl
    · exact okv_int
    · exact okv_ref (Or.inl (by omega))
  · simp only [List.mem_cons, List.not_mem_nil, or_false] at hq
    subst hq
    exact okv_ref (Or.inl (by omega))
  change S _ _ _ _ _ _ _ _ _ _ _ [.ref L, .ref 1] _
  refine o_putR (pc := 54) (r := some L) (ci := 5) (j := 15) (nn := 0) dX6_hut_54 (at1 rfl) rfl (Nat.le_of_ble_eq_true rfl) k_155 rfl rfl rfl (fun a => by cases a <;> rfl) ?_
  refine o_aload_n (pc := 57) 1 dX6_hut_57 rfl rfl ?_
  refine o_getRc (pc := 58) (a := 1) (ci := 6) (j := 0) (nn := 0) dX6_hut_58 (hF2.1 _ _ rfl) rfl (Nat.le_of_ble_eq_true rfl) k_292 rfl (hF2.2 _ _ _ rfl) ?_
  refine x_callG (Y2 := YX5_makeWhole) (em2 := eV (sh ++ [(11, 0)] ++ [(0, N)]) (ur (nhR R L) 1 (va_up (nhR R L 1) 15 (some L)))) (r2 := m3) (v := none) (av := []) (rest := []) (sh' := sh ++ [(11, 0)] ++ [(0, N)]) (R' := ur (nhR R L) 1 (va_up (nhR R L 1) 15 (some L))) (m' := m3) (b2 := false) (d2 := 2) (k2 := 0) (n2 := 0) 0 0 (pc := 61) rfl dX6_hut_61 k_396 cm_X5_makeWhole (by rw [← h3]; exact sW_makeWhole hF2 _) (at1 rfl) rfl rfl (Nat.le_of_ble_eq_true rfl) (Nat.le_of_ble_eq_true rfl) (Or.inl rfl) (Nat.le_of_ble_eq_true rfl) (Nat.le_of_ble_eq_true rfl) ?_
  refine o_aload_n (pc := 64) 1 dX6_hut_64 rfl rfl ?_
  refine o_dup (pc := 65) dX6_hut_65 rfl ?_
  refine o_getI (pc := 66) (ci := 6) (j := 7) (nn := 0) dX6_hut_66 (hF2.1 _ _ rfl) rfl (Nat.le_of_ble_eq_true rfl) k_299 rfl ?_
  refine o_iconst (pc := 69) dX6_hut_69 lc_1 ?_
  refine o_iadd (pc := 70) dX6_hut_70 ?_
  refine o_putI (pc := 71) (ci := 6) (j := 7) (nn := 0) dX6_hut_71 (hF2.1 _ _ rfl) rfl (Nat.le_of_ble_eq_true rfl) k_299 rfl rfl rfl rfl rfl ?_
  refine o_aload_n (pc := 74) 1 dX6_hut_74 rfl rfl ?_
  refine o_getI (pc := 75) (ci := 6) (j := 7) (nn := 0) dX6_hut_75 (hF2.1 _ _ rfl) rfl (Nat.le_of_ble_eq_true rfl) k_299 rfl ?_
  refine o_iconst (pc := 78) dX6_hut_78 lc_1 ?_
  refine o_isub (pc := 79) dX6_hut_79 ?_
  refine o_iret (pc := 80) dX6_hut_80 rfl ?_
  rw [show (mI m3 0 (upd (m3.1 0) 7 (m3.1 0 7 + 1))).1 0 7 - 1 = m3.1 0 7 by rw [mI_s, upd_s, Int32.add_sub_cancel]]
