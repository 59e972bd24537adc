/-! THE LAW's BEGINNING (printed by wip/whole/laws.py) -/
theorem k_88 : (Cond.classLink "ShortStrawLaw" 7 "ShortStraw") ∈ tW := tW_of 88 (by decide +kernel) rfl
theorem k_89 : (Cond.instantiable "ShortStraw" 10) ∈ tW := tW_of 89 (by decide +kernel) rfl
theorem k_90 : (Cond.methodLink "ShortStrawLaw" 9 ⟨"ShortStraw", "<init>", "()V"⟩) ∈ tW := tW_of 90 (by decide +kernel) rfl
theorem k_91 : (Cond.instanceMethod ⟨"ShortStraw", "<init>", "()V"⟩) ∈ tW := tW_of 91 (by decide +kernel) rfl
theorem k_92 : (Cond.code ⟨"ShortStraw", "<init>", "()V"⟩ cX6_init 2 (none)) ∈ tW := tW_of 92 (by decide +kernel) rfl
theorem k_853 : (Cond.classLink "ShortStrawLaw" 10 "ShortStrawModel") ∈ tW := tW_of 853 (by decide +kernel) rfl
theorem k_854 : (Cond.instantiable "ShortStrawModel" 69) ∈ tW := tW_of 854 (by decide +kernel) rfl
theorem k_855 : (Cond.methodLink "ShortStrawLaw" 12 ⟨"ShortStrawModel", "<init>", "()V"⟩) ∈ tW := tW_of 855 (by decide +kernel) rfl
theorem k_856 : (Cond.instanceMethod ⟨"ShortStrawModel", "<init>", "()V"⟩) ∈ tW := tW_of 856 (by decide +kernel) rfl
theorem k_857 : (Cond.code ⟨"ShortStrawModel", "<init>", "()V"⟩ cX7_init 1 (none)) ∈ tW := tW_of 857 (by decide +kernel) rfl
section LN
variable {X : LX} {L : Nat} {xs : Nat → Int32} {k n : Nat} {sh : Sh} {m : MI} {R : RR} {pc : Nat} {ls : List (Nat × Value)} {st : List Value}
theorem L_new (C : X.ok L xs) {ci idx : Nat} {q : vw_C} (hd : decode code pc = .ok (.new idx, 3)) (hc : cls8[ci]? = some q) (hw : Cond.classLink R_law idx q.1 ∈ tW) (hw1 : Cond.instantiable q.1 q.2.2 ∈ tW) (hw2 : Cond.initialized q.1 ∈ tW)
    (hR : Rok sh.length R) (hlen : sh.length < 1000) (hls : ∀ v ∈ ls, okv sh.length v.2) (hst : ∀ v ∈ st, okv sh.length v)
    (g : LG X k n (sh ++ [(10 + ci, 0)]) (mk (zI m sh.length) (zR R sh.length)) (pc + 3) ls (.ref sh.length :: st)) : LG X (k + 1) (n + q.2.2) sh (mk m R) pc ls st := by
  intro H locs cells slots ad larr h2 hSt hW hS hl hk hn
  have hC := X.cx C hSt
  have hci : ci < 8 := (List.getElem?_eq_some_iff.mp hc).1
  refine va_new (ci := ci) (C := q.1) (T := q.2.1) (N := q.2.2) (fs := cF (adn ad sh.length 0) (zM (mk m R) sh.length) sh.length ci) hC.1 hC.2.1 hC.2.2.2.2.1 (in8 hc) (ty8 ci) (ty8_ok hc) hC.2.2.2.1 (hC.2.2.2.2.1 _ hw) (hC.2.2.2.2.1 _ hw1) (hC.2.2.2.2.1 _ hw2) hC.2.2.2.2.2.2.2.2.1 hW.1 hW.2 hS hC.2.2.2.2.2.2.2.2.2.2 hc (fun j hj => fs8 hci ur_s ur_s j (by rw [nF8 hc]; exact hj)) (by show cells + 1 ≤ 600000; omega) (by show slots + q.2.2 ≤ 7302250; omega) hd (fun qq H1 hP hD hS1 => ?_)
  have e : cF (adn ad sh.length 0) (zM (mk m R) sh.length) sh.length ci = cF (adn ad sh.length qq) (zM (mk m R) sh.length) sh.length ci := cF_z ur_s ur_s ur_s ur_s
  rw [e, ← cE_obj (nn := 0) (ct := X.E.2)] at hP hD
  have hag1 : Ag true sh.length ad (adn ad sh.length qq) := ⟨fun h => (by cases h), fun j hj => adn_n (by omega)⟩
  have e1 : Value.ref qq :: st.map (cV ad) = (Value.ref sh.length :: st).map (cV (adn ad sh.length qq)) := by
    rw [List.map_cons, map_okv hag1 (Or.inr hst)]
    show _ = Value.ref (adn ad sh.length qq sh.length) :: _
    rw [adn_s]
  rw [e1]
  rw [← cW_app hR] at hP hD
  exact g H1 locs _ _ (adn ad sh.length qq) larr (by rw [adn_n (by omega)]; exact h2) (St_ad hSt hag1.hi) ⟨hP, hD⟩ hS1 (by rw [mapL_okv hag1 (Or.inr hls)]; exact hl) (by omega) (by omega)
theorem L_init (C : X.ok L xs) {d2 k2 n2 rk idx : Nat} {Y2 : YD} {rest : List Value} {sh' : Sh} {R' : RR} {m' : MI} (hd : decode code pc = .ok (.invokespecial idx, 3)) (hK : KS eX true d2 k2 n2 Y2 sh R m [.ref rk] (some (sh', R', m'))) (hr : Y2.2.2.2 = none) (hnm : Y2.1.name = "<init>")
    (hlink : Cond.methodLink R_law idx Y2.1 ∈ tW) (hinst : Cond.instanceMethod Y2.1 ∈ tW) (hini : Cond.initialized Y2.1.cls ∈ tW) (hcode : Cond.code Y2.1 Y2.2.1 Y2.2.2.1 none ∈ tW)
    (hx : Y2.1.cls ≠ "java/lang/invoke/MethodHandle" ∧ Y2.1.cls ≠ "java/lang/invoke/VarHandle" ∧ (parseMethodDescriptor Y2.1.desc).map (fun d => d.parameters.length) = some 0) (hst : st = .ref rk :: rest) (hcat : (rest.map fun v => v.category).sum ≤ 8) (hd2 : d2 ≤ 300) (hml : Y2.2.2.1 ≤ 45)
    (hls : ∀ q ∈ ls, okv sh.length q.2) (hrs : ∀ v ∈ rest, okv sh.length v) (g : LG X k n sh' (mk m' R') (pc + 3) ls rest) : LG X (k + k2) (n + n2) sh (mk m R) pc ls st := by
  intro H locs cells slots ad larr h2 hSt hW hS hl hk hn
  have hC := X.cx C hSt
  have hF := Wd_free hW hC.2.2.2.2.2.2.2.2.2.2 hS
  have hT := hC.2.2.2.2.1
  have hM := hK _ rfl X.l X.E ad H.size
  rw [hr] at hM
  have hcw := cwI (R := room_1) (args := #[Value.ref X.b]) (own := R_law) (index := idx) (y := Y2.1) (bytes := Y2.2.1) (maxL := Y2.2.2.1) (rm := rmK d2 k2 n2) (mc := k2) (ms := n2) (ws := .code Y2.1 Y2.2.1 Y2.2.2.1 none :: tW) 0 hT (good_cons hcode tW_good) rfl rfl rfl (hT _ hini) (hT _ hlink) (hT _ hinst) hnm hx ⟨by show d2 + 1 ≤ 2048; omega, by show 8 + (Y2.2.2.1 + 11) + 64 * d2 ≤ 84000; omega⟩
  refine va_callQ (va_runI (As := []) (b := ad rk) (rest := rest.map (cV ad)) ⟨hC.1, hC.2.1, hC.2.2.1, hC.2.2.2.1, hT⟩ hM hcw ⟨pc_blind, pc_here (av := [.ref rk]) hC hW hS⟩ rfl rfl hl.1
    (by show st.map (cV ad) = _; rw [hst]; rfl) (by show 2 * 0 + _ ≤ 8; rw [List.map_map]; simpa [Function.comp_def, cV_cat] using hcat) hd ⟨by show cells + k2 ≤ 600000; omega, by show slots + n2 ≤ 7302250; omega⟩) hS (fun q _ h => hF q h) hF ?_
  intro v1 sh1 M1 ad' H1 locs1 hq1 hag hn1 hW1 hS1
  simp only [eX, Prod.mk.injEq] at hq1
  obtain ⟨rfl, rfl, rfl⟩ := hq1
  have e1 : ((none : Option Value).map (cV ad')).toList ++ rest.map (cV ad) = rest.map (cV ad') := by
    rw [map_okv hag (l := rest) (Or.inr hrs)]
    rfl
  rw [e1]
  exact g H1 locs1 _ _ ad' larr (by rw [hag.hi 2000 (by omega)]; exact h2) (St_ad hSt hag.hi) ⟨hW1.1, hW1.2.weaken (fun _ _ _ h => hF _ h)⟩ hS1 (by rw [mapL_okv hag (Or.inr hls)]; exact hl) (by omega) (by omega)
end LN
theorem ls0_okv {N : Nat} : ∀ q ∈ [((0, .ref 2000) : Nat × Value)], okv N q.2 := fun q hq => by
  rw [List.mem_singleton.mp hq]; exact okv_ref (Or.inr (by omega))
theorem ls1_okv {N : Nat} (h : 0 < N) : ∀ q ∈ [((1, .ref 0) : Nat × Value), (0, .ref 2000)], okv N q.2 := fun q hq => by
  simp only [List.mem_cons, List.not_mem_nil, or_false] at hq
  rcases hq with rfl | rfl
  · exact okv_ref (Or.inl h)
  · exact okv_ref (Or.inr (by omega))
set_option maxRecDepth 100000 in
theorem L_start {X : LX} {L : Nat} {xs : Nat → Int32} (C : X.ok L xs) (hL : L ≤ 3072) : LG X 600000 7302250 [] (mk mm_0 rr_0) 0 [(0, .ref 2000)] [] := by
  refine L_less (k := 4 * 513 + 37 + 1 + 60 + 1) (n := 206 * 513 + 1785 + 69 + 989 + 10) (by omega) (by omega) ?_
  refine L_new (k := 4 * 513 + 37 + 1 + 60) (n := 206 * 513 + 1785 + 69 + 989) C (ci := 6) (idx := 7) (by decide +kernel) rfl k_88 k_89 k_72 rk_0 (by decide) ls0_okv (fun v hv => by cases hv) ?_
  change LG X _ _ zs_1 (mk mm_1 rr_1) 3 [(0, .ref 2000)] [.ref 0]
  refine L_dup C (by decide +kernel) rfl ?_
  refine L_init (k := 4 * 513 + 37 + 1) (n := 206 * 513 + 1785 + 69) (k2 := 60) (n2 := 989) (rk := 0) (rest := [.ref 0]) C (idx := 9) (by decide +kernel) ik_X6_init_0 rfl rfl k_90 k_91 k_72 k_92 ⟨by decide +kernel, by decide +kernel, by decide +kernel⟩ rfl (by decide) (by omega) (Nat.le_of_ble_eq_true rfl) ls0_okv (okv_s rfl) ?_
  refine L_astore_n (q := 1) (j := 1) (ls' := [(1, .ref 0), (0, .ref 2000)]) C (by decide +kernel) rfl (by omega) rfl ?_
  refine L_new (k := 4 * 513 + 37) (n := 206 * 513 + 1785) C (ci := 7) (idx := 10) (by decide +kernel) rfl k_853 k_854 k_79 rk_98 (by decide) (ls1_okv (by decide)) (fun v hv => by cases hv) ?_
  change LG X _ _ zs_50 (mk mm_93 rr_99) 11 [(1, .ref 0), (0, .ref 2000)] [.ref 61]
  refine L_dup C (by decide +kernel) rfl ?_
  refine L_init (k := 4 * 513) (n := 206 * 513) (k2 := 37) (n2 := 1785) (rk := 61) (rest := [.ref 61]) C (idx := 12) (by decide +kernel) ik_X7_init_61 rfl rfl k_855 k_856 k_79 k_857 ⟨by decide +kernel, by decide +kernel, by decide +kernel⟩ rfl (by decide) (by omega) (Nat.le_of_ble_eq_true rfl) (ls1_okv (by decide)) (okv_s rfl) ?_
  refine L_astore_n (q := 2) (j := 2) (ls' := [(2, .ref 61), (1, .ref 0), (0, .ref 2000)]) C (by decide +kernel) rfl (by omega) rfl ?_
  refine L_iconst (v := 0) (x := nI 0) C (by decide +kernel) rfl ?_
  refine L_istore_n (q := 3) (j := 3) (ls' := lsI (nI 0)) C (by decide +kernel) rfl (by omega) rfl ?_
  exact L_loop C hL 513 0 _ _ _ zRel (by omega) (by omega)
