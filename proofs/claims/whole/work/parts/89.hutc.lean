/-! WHAT A HUT MAKES (walks by hand; words and places printed by wip/whole/hutc.py) -/
abbrev eQX : EM (Nat × Sh × RR × MI) := fun r => (some (.ref r.1), r.2.1, mk r.2.2.2 r.2.2.1)
abbrev eIX : EM (Int32 × Sh × RR × MI) := fun r => (some (.int r.1), r.2.1, mk r.2.2.2 r.2.2.1)
theorem o_aretL {em : EM (Nat × Sh × RR × MI)} {b : Bool} {d k n : Nat} {Y : YD} {sh : Sh} {R : RR} {m : MI} {pc : Nat} {ls : List (Nat × Value)} {q : Nat} {r : Nat × Sh × RR × MI} {rt : FieldType} (hd : decode Y.2.1 pc = .ok (.areturn, 1)) (hr : Y.2.2.2 = some rt) (hrt : (∃ n, rt = .object n) ∨ ∃ t, rt = .array t) (he : em r = (some (.ref q), sh, mk m R)) : S em b d k n Y sh R m pc ls [.ref q] (some r) := o_aret (q := some q) hd hr hrt he
theorem min_lt {N : Nat} (h : N < 100) : (if nI N < 100 then nI N else 100) = nI N := if_pos (nI_lt (b := 100) h (by omega))
theorem s_copyOf {sh : Sh} {R : RR} {m : MI} {L N : Nat} (hL : sh.length = L) (hL2 : L < 900) (h45 : sh[45]? = some (0, 100)) (h45L : 45 < L) (hR : Rok L R) (hN : N < 100) : KS eQX true 2 1 N YJ7_copyOf_59c91 sh R m [.ref 45, .int (nI N)] (some (L, sh ++ [(0, N)], zR R L, mI (zI m L) L (va_cpy ((zI m L).1 45) ((zI m L).1 L) (Int32.toNatClampNeg 0) (Int32.toNatClampNeg 0) (nI N).toNatClampNeg))) := by
  have hcl : (nI N).toNatClampNeg = N := nI_clamp (by omega)
  have hL' : (sh ++ [(0, N)])[L]? = some (0, N) := by rw [← hL, List.getElem?_append_right (Nat.le_refl _), Nat.sub_self]; rfl
  have h45' : (sh ++ [(0, N)])[45]? = some (0, 100) := by rw [List.getElem?_append_left (by omega)]; exact h45
  refine KS_of pn_J7 (fun _ => (Nat.le_of_ble_eq_true rfl)) ?_
  change S _ _ _ _ _ _ _ _ _ _ [(0, .ref 45), (1, .int (nI N))] [] _
  refine o_iload_n (pc := 0) 1 dJ7_copyOf_59c91_0 rfl rfl ?_
  refine o_aload_n (pc := 1) 0 dJ7_copyOf_59c91_1 rfl rfl ?_
  refine o_alenI (pc := 2) (nn := 100) (v := 100) dJ7_copyOf_59c91_2 h45 rfl ?_
  refine o_icmp_ne_t (pc := 3) (tgt := 14) dJ7_copyOf_59c91_3 rfl (fun e => by have := (nI_eq (b := 100) (by omega) (by omega)).mp e; omega) ?_
  refine o_iload_n (pc := 14) 1 dJ7_copyOf_59c91_14 rfl rfl ?_
  refine x_newI 0 0 (pc := 15) (L := L) (N := N) (sh' := sh ++ [(0, N)]) hL rfl dJ7_copyOf_59c91_15 k_122 (nI_pos (by omega)) hcl (by omega) hR (by omega) (fun v hv => ?_) (fun v hv => by cases hv) (Nat.le_refl _) (by omega) ?_
  · simp only [List.mem_cons, List.not_mem_nil, or_false] at hv
    rcases hv with rfl | rfl
    · exact okv_ref (Or.inl h45L)
    · exact okv_int
  refine o_astore_n (pc := 17) (ls' := [(2, .ref L), (0, .ref 45), (1, .int (nI N))]) dJ7_copyOf_59c91_17 rfl (Nat.le_of_ble_eq_true rfl) rfl ?_
  refine o_aload_n (pc := 18) 1 dJ7_copyOf_59c91_18 rfl rfl ?_
  refine o_iconst (pc := 19) dJ7_copyOf_59c91_19 lc_0 ?_
  refine o_aload_n (pc := 20) 0 dJ7_copyOf_59c91_20 rfl rfl ?_
  refine o_iconst (pc := 21) dJ7_copyOf_59c91_21 lc_0 ?_
  refine o_aload_n (pc := 22) 1 dJ7_copyOf_59c91_22 rfl rfl ?_
  refine o_alenI (pc := 23) (nn := 100) (v := 100) dJ7_copyOf_59c91_23 h45' rfl ?_
  refine o_iload_n (pc := 24) 2 dJ7_copyOf_59c91_24 rfl rfl ?_
  refine o_min (pc := 25) dJ7_copyOf_59c91_25 k_585 k_519 k_81 k_520 (Nat.le_of_ble_eq_true rfl) (Nat.le_of_ble_eq_true rfl) ?_
  rw [min_lt hN]
  refine o_cpi (pc := 28) dJ7_copyOf_59c91_28 k_586 k_395 k_394 k_82 h45' hL' ?_ (Nat.le_of_ble_eq_true rfl) (Nat.le_of_ble_eq_true rfl) ?_
  · unfold cpk
    rw [hcl, show (0 : Int32).toNatClampNeg = 0 from rfl, Nat.zero_add]
    simp only [show decide ((0 : Int32) < 0) = false from rfl, Bool.false_or, show decide (nI N < 0) = false from decide_eq_false (nI_pos (by omega)), Bool.not_false, Bool.true_and, Nat.le_refl, decide_true, Bool.and_true, decide_eq_true_eq]
    omega
  refine o_aload_n (pc := 31) 0 dJ7_copyOf_59c91_31 rfl rfl ?_
  exact o_aretL (pc := 32) dJ7_copyOf_59c91_32 rfl (Or.inr ⟨_, rfl⟩) rfl
/-- Hut(..) -/
theorem s_Hut {sh : Sh} {R : RR} {m : MI} {L q : Nat} (a b : Int32) (hs : sh[L]? = some (11, 0)) : KS eX true 1 0 0 YX1_init_ sh R m [.ref L, .int a, .int b, .ref q] (some (sh, ur R L (va_up (R L) 2 (some q)), mI (mI m L (upd (m.1 L) 0 (if 1 < (if a < 3 then a else 3) then (if a < 3 then a else 3) else 1))) L (upd ((mI m L (upd (m.1 L) 0 (if 1 < (if a < 3 then a else 3) then (if a < 3 then a else 3) else 1))).1 L) 1 (if b < 9 then b else 9)))) := by
  refine KS_of pn_X1 (fun _ => (Nat.le_of_ble_eq_true rfl)) ?_
  change S _ _ _ _ _ _ _ _ _ _ [(0, .ref L), (1, .int a), (2, .int b), (3, .ref q)] [] _
  refine o_aload_n (pc := 0) 0 dX1_init__0 rfl rfl ?_
  refine o_objInit (pc := 1) dX1_init__1 k_109 k_94 k_95 (Nat.le_of_ble_eq_true rfl) (Nat.le_of_ble_eq_true rfl) ?_
  refine o_aload_n (pc := 4) 0 dX1_init__4 rfl rfl ?_
  refine o_iconst (pc := 5) dX1_init__5 lc_1 ?_
  refine o_iconst (pc := 6) dX1_init__6 lc_3 ?_
  refine o_iload_n (pc := 7) 1 dX1_init__7 rfl rfl ?_
  refine o_min (pc := 8) dX1_init__8 k_590 k_519 k_81 k_520 (Nat.le_of_ble_eq_true rfl) (Nat.le_of_ble_eq_true rfl) ?_
  refine o_max (pc := 11) dX1_init__11 k_369 k_347 k_81 k_348 (Nat.le_of_ble_eq_true rfl) (Nat.le_of_ble_eq_true rfl) ?_
  refine o_putIF (pc := 14) (ci := 1) (j := 0) (nn := 0) dX1_init__14 hs rfl (Nat.le_of_ble_eq_true rfl) k_110 rfl rfl rfl rfl rfl rfl rfl ?_
  refine o_aload_n (pc := 17) 0 dX1_init__17 rfl rfl ?_
  refine o_bipush (pc := 18) dX1_init__18 lb_9 ?_
  refine o_iload_n (pc := 20) 2 dX1_init__20 rfl rfl ?_
  refine o_min (pc := 21) dX1_init__21 k_590 k_519 k_81 k_520 (Nat.le_of_ble_eq_true rfl) (Nat.le_of_ble_eq_true rfl) ?_
  refine o_putIF (pc := 24) (ci := 1) (j := 1) (nn := 0) dX1_init__24 hs rfl (Nat.le_of_ble_eq_true rfl) k_112 rfl rfl rfl rfl rfl rfl rfl ?_
  refine o_aload_n (pc := 27) 0 dX1_init__27 rfl rfl ?_
  refine o_aload_n (pc := 28) 3 dX1_init__28 rfl rfl ?_
  refine o_putRF (pc := 29) (r := some q) (ci := 1) (j := 2) (nn := 0) dX1_init__29 hs rfl (Nat.le_of_ble_eq_true rfl) k_114 rfl rfl rfl rfl rfl (fun a => by cases a <;> rfl) ?_
  exact o_vret (pc := 32) dX1_init__32 rfl rfl
/-- the memory behind newHut -/
def nhM (m : MI) (L N : Nat) : MI := mI (zI (zI m L) (L + 1)) (L + 1) (va_cpy ((zI (zI m L) (L + 1)).1 45) ((zI (zI m L) (L + 1)).1 (L + 1)) (Int32.toNatClampNeg 0) (Int32.toNatClampNeg 0) (nI N).toNatClampNeg)
def nhE (m : MI) (L N : Nat) (a b : Int32) : MI := mI (mI (nhM m L N) L (upd ((nhM m L N).1 L) 0 (if 1 < (if a < 3 then a else 3) then (if a < 3 then a else 3) else 1))) L (upd ((mI (nhM m L N) L (upd ((nhM m L N).1 L) 0 (if 1 < (if a < 3 then a else 3) then (if a < 3 then a else 3) else 1))).1 L) 1 (if b < 9 then b else 9))
def nhR (R : RR) (L : Nat) : RR := ur (zR (zR R L) (L + 1)) L (va_up (zR (zR R L) (L + 1) L) 2 (some (L + 1)))
theorem s_newHut {sh : Sh} {R : RR} {m : MI} {L N : Nat} (hF : Fx sh R) (hL : sh.length = L) (hL2 : L < 800) (h99 : 99 ≤ L) (hR : Rok L R) (hN : N < 100) (h5 : m.1 43 5 = nI N) : KS eQX true 3 2 (3 + N) YX2_newHut sh R m [.ref 43] (some (L, sh ++ [(11, 0)] ++ [(0, N)], nhR R L, nhE m L N (m.1 43 3) (m.1 43 4))) := by
  have s43 : sh[43]? = some (12, 0) := hF.1 43 _ rfl
  have hl1 : (sh ++ [((11, 0) : Nat × Nat)]).length = L + 1 := by rw [List.length_append, hL]; rfl
  have at1 : ∀ {j : Nat} {s : Nat × Nat}, sh[j]? = some s → (sh ++ [((11, 0) : Nat × Nat)])[j]? = some s := fun {j s} h => by rw [List.getElem?_append_left (List.getElem?_eq_some_iff.mp h).1]; exact h
  have z43 : (zI m L).1 43 = m.1 43 := ur_n (by omega)
  have zr : zR R L 43 = R 43 := ur_n (by omega)
  refine KS_of pn_X2 (fun _ => (Nat.le_of_ble_eq_true rfl)) ?_
  change S _ _ _ _ _ _ _ _ _ _ [(0, .ref 43)] [] _
  refine x_new 1 N (pc := 0) (ci := 1) (L := L) (sh' := sh ++ [(11, 0)]) hL rfl dX2_newHut_0 rfl k_574 k_105 k_74 hR (by omega) (fun v hv => ?_) (fun v hv => by cases hv) (Nat.le_of_ble_eq_true rfl) (by show N + 3 ≤ 3 + N; omega) ?_
  · simp only [List.mem_cons, List.not_mem_nil, or_false] at hv
    subst hv
    exact okv_ref (Or.inl (by omega))
  refine o_dup (pc := 3) dX2_newHut_3 rfl ?_
  refine o_aload_n (pc := 4) 0 dX2_newHut_4 rfl rfl ?_
  refine o_getI (pc := 5) (ci := 2) (j := 3) (nn := 0) dX2_newHut_5 (at1 s43) rfl (Nat.le_of_ble_eq_true rfl) k_230 rfl ?_
  refine o_aload_n (pc := 8) 0 dX2_newHut_8 rfl rfl ?_
  refine o_getI (pc := 9) (ci := 2) (j := 4) (nn := 0) dX2_newHut_9 (at1 s43) rfl (Nat.le_of_ble_eq_true rfl) k_231 rfl ?_
  refine o_aload_n (pc := 12) 0 dX2_newHut_12 rfl rfl ?_
  refine o_getRc (pc := 13) (a := 45) (ci := 2) (j := 6) (nn := 0) dX2_newHut_13 (at1 s43) rfl (Nat.le_of_ble_eq_true rfl) k_233 rfl (by rw [zr]; exact hF.2 43 6 45 rfl) ?_
  refine o_aload_n (pc := 16) 0 dX2_newHut_16 rfl rfl ?_
  refine o_getI (pc := 17) (ci := 2) (j := 5) (nn := 0) dX2_newHut_17 (at1 s43) rfl (Nat.le_of_ble_eq_true rfl) k_232 rfl ?_
  rw [z43, h5]
  intro r hr
  refine G_callS (b2 := true) (k2 := 1) (n2 := N) (np := 2) (Y2 := YJ7_copyOf_59c91) (av := [.ref 45, .int (nI N)]) (rest := [.int (m.1 43 4), .int (m.1 43 3), .ref L, .ref L]) (pc := 20) dX2_newHut_20 (s_copyOf hl1 (by omega) (at1 (hF.1 45 _ rfl)) (by omega) (Rok_zR hR (by omega)) hN _ rfl) k_575 k_576 k_80 k_577 ⟨by decide +kernel, by decide +kernel, by decide +kernel⟩ rfl rfl (Nat.le_of_ble_eq_true rfl) (Nat.le_of_ble_eq_true rfl) (Nat.le_of_ble_eq_true rfl) (Or.inr ⟨rfl, fun q hq => ?_, fun q hq => ?_⟩) (Nat.le_of_ble_eq_true rfl) (Nat.le_refl _) (fun v sh2 M2 e _ => ?_)
  · simp only [List.mem_cons, List.not_mem_nil, or_false] at hq
    subst hq
    exact okv_ref (Or.inl (by rw [hl1]; omega))
  · simp only [List.mem_cons, List.not_mem_nil, or_false] at hq
    rcases hq with rfl | rfl | rfl | rfl
    · exact okv_int
    · exact okv_int
    · exact okv_ref (Or.inl (by rw [hl1]; omega))
    · exact okv_ref (Or.inl (by rw [hl1]; omega))
  simp only [eQX, Prod.mk.injEq] at e
  obtain ⟨rfl, rfl, rfl⟩ := e
  have hl2 : (sh ++ [((11, 0) : Nat × Nat)] ++ [((0, N) : Nat × Nat)]).length = L + 2 := by rw [List.length_append, hl1]; rfl
  have hsL : (sh ++ [((11, 0) : Nat × Nat)] ++ [((0, N) : Nat × Nat)])[L]? = some (11, 0) := by
    rw [List.getElem?_append_left (by rw [hl1]; omega), ← hL, List.getElem?_append_right (Nat.le_refl _), Nat.sub_self]; rfl
  refine G_callI (b2 := true) (k2 := 0) (n2 := 0) (np := 3) (Y2 := YX1_init_) (av := [.int (m.1 43 3), .int (m.1 43 4), .ref (L + 1)]) (rest := [.ref L]) (rk := L) (pc := 23) dX2_newHut_23 (s_Hut (q := L + 1) (m.1 43 3) (m.1 43 4) hsL _ rfl) rfl rfl k_587 k_588 k_74 k_589 ⟨by decide +kernel, by decide +kernel, by decide +kernel⟩ rfl rfl (Nat.le_of_ble_eq_true rfl) (Nat.le_of_ble_eq_true rfl) (Nat.le_of_ble_eq_true rfl) (Or.inr ⟨rfl, fun q hq => ?_, fun q hq => ?_⟩) (Nat.zero_le _) (Nat.zero_le _) (fun v sh3 M3 e _ => ?_)
  · simp only [List.mem_cons, List.not_mem_nil, or_false] at hq
    subst hq
    exact okv_ref (Or.inl (by rw [hl2]; omega))
  · simp only [List.mem_cons, List.not_mem_nil, or_false] at hq
    subst hq
    exact okv_ref (Or.inl (by rw [hl2]; omega))
  simp only [eX, Prod.mk.injEq] at e
  obtain ⟨rfl, rfl, rfl⟩ := e
  cases hr
  have fin : S eQX true 3 (1 - 1 - 0) (N - N - 0) YX2_newHut (sh ++ [(11, 0)] ++ [(0, N)]) (nhR R L) (nhE m L N (m.1 43 3) (m.1 43 4)) 26 [(0, .ref 43)] [.ref L] (some (L, sh ++ [(11, 0)] ++ [(0, N)], nhR R L, nhE m L N (m.1 43 3) (m.1 43 4))) := o_aretL (pc := 26) dX2_newHut_26 rfl (Or.inl ⟨_, rfl⟩) rfl
  exact fin _ rfl
