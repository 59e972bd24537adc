/-! CALLS -/
def okv (n : Nat) (v : Value) : Prop := ∀ k, v = .ref k → k < n ∨ 1000 ≤ k
theorem okv_int {n : Nat} {x : Int32} : okv n (.int x) := fun _ h => by cases h
theorem okv_long {n : Nat} {x : Int64} : okv n (.long x) := fun _ h => by cases h
theorem okv_null {n : Nat} : okv n .null := fun _ h => by cases h
theorem okv_ref {n k : Nat} (h : k < n ∨ 1000 ≤ k) : okv n (.ref k) := fun _ e => by cases e; exact h
theorem cV_okv {n : Nat} {a a' : Nat → Nat} {b : Bool} (h : Ag b n a a') {v : Value} (hv : okv n v) : cV a' v = cV a v := by
  cases v with
  | ref k => show Value.ref (a' k) = Value.ref (a k); rw [h.2 k (hv k rfl)]
  | _ => rfl
theorem map_okv {n : Nat} {a a' : Nat → Nat} {b : Bool} (h : Ag b n a a') {l : List Value} (hv : b = false ∨ ∀ v ∈ l, okv n v) : l.map (cV a') = l.map (cV a) := by
  rcases hv with hv | hv
  · rw [h.1 hv]
  · exact List.map_congr_left fun v q => cV_okv h (hv v q)
theorem mapL_okv {n : Nat} {a a' : Nat → Nat} {b : Bool} (h : Ag b n a a') {l : List (Nat × Value)} (hv : b = false ∨ ∀ q ∈ l, okv n q.2) : l.map (cL a') = l.map (cL a) := by
  rcases hv with hv | hv
  · rw [h.1 hv]
  · exact List.map_congr_left fun v q => by show (v.1, cV a' v.2) = (v.1, cV a v.2); rw [cV_okv h (hv v q)]
theorem Wd_free {E : EV} {ad : Nat → Nat} {sh : Sh} {M : MM} {A : Nat → Prop} {H0 H : Heap} {locs : List Loc} (hW : Wd E ad sh M A H) (hA : ∀ q, H0.size ≤ q → A q) (hS : va_S A H0 H locs) : ∀ q, va_A (cW E.2 ad sh M) H.size q → A q := by
  intro q h
  rcases h with ⟨k, e, h⟩ | h
  · exact hW.2.2 k (q, e) h
  · exact hA q (Nat.le_trans hS.1 h)
section CQ
variable {p : Program} {l : Launch} {e : Env} {R : Room} {s : State} {m : MethodId} {args : Array Value} {below : List Frame} {meth : Method} {c : Code} {H : Heap} {locs : List Loc} {cells slots : Nat} {Q' : State → Prop}
variable {pc : Nat} {ls : Array Slot} {rest st0 : List Value} {a : Array Value} {A0 A1 : Nat → Prop} {H0 : Heap} {mc ms : Nat} {free : Addr → Prop} {b : Bool} {E : EV} {ad0 : Nat → Nat} {n0 : Nat} {Q : PO}
theorem va_callQ (hr : va_Run p l e R s m args below meth c H locs cells slots mc ms (F0 m pc ls st0) rest (QQ b E ad0 n0 A1 Q a) free) (hS : va_S A0 H0 H locs) (hA : ∀ q, q < H.size → A1 q → A0 q) (hf : ∀ q, free q → A0 q)
    (kk : ∀ (v : Option Value) (sh' : Sh) (M' : MM) (ad' : Nat → Nat) (H1 : Heap) (locs1 : List Loc), Q v sh' M' → Ag b n0 ad0 ad' → n0 ≤ sh'.length → Wd E ad' sh' M' A1 H1 → va_S A0 H0 H1 locs1 → W p l e R s m args below meth c H1 locs1 (cells + mc) (slots + ms) Q' (F0 m (pc + 3) ls ((v.map (cV ad')).toList ++ rest))) : W p l e R s m args below meth c H locs cells slots Q' (F0 m pc ls st0) := by
  intro T hT X
  obtain ⟨v, st₀, t, T', L, h0, X', hL, e1, e2, ⟨⟨w, sh', M', ad', hv, hq, hag, hn, hw, -⟩, hz, hk⟩, st⟩ := hr T hT X
  cases hv
  rw [h0] at hz hk
  obtain ⟨t2, a1, b1⟩ := kk w sh' M' ad' T'.heap (locs ++ L) hq hag hn (by rw [e1]; exact hw)
    ⟨Nat.le_trans hS.1 (by rw [e1]; exact hz), fun q h1 h2 => by rw [e1, hk q (Nat.lt_of_lt_of_le h1 hS.1) (fun z => h2 (hA q (Nat.lt_of_lt_of_le h1 hS.1) z))]; exact hS.2.1 q h1 h2, fun q hq => by
      rcases List.mem_append.mp hq with h | h
      · exact hS.2.2 q h
      · exact hf _ (hL q h)⟩ T' rfl X'
  exact ⟨t2, st t2 a1, b1⟩
end CQ
section GC
variable {b : Bool} {d k n : Nat} {Y : YD} {sh : Sh} {M : MM} {pc : Nat} {ls : List (Nat × Value)} {st : List Value} {Q : PO}
theorem G_call {b2 : Bool} {k2 n2 : Nat} {av rest : List Value} {Q2 : PO}
    (hrun : ∀ {p : Program} {l : Launch} {e : Env} {R : Room} {s : State} {m : MethodId} {args : Array Value} {below : List Frame} {meth : Method} {c : Code} {H : Heap} {locs : List Loc} {cells slots : Nat} {larr : Array Slot} {E : EV} {ad : Nat → Nat} {A : Nat → Prop},
      Cx Y E ad A p s m args meth c → Wd E ad sh M A H → va_S A s.heap H locs → larr.size = Y.2.2.1 → R.frames = d → R.locals = 64 * d → cells + k2 ≤ R.cells ∧ slots + n2 ≤ R.slots →
      va_Run p l e R s m args below meth c H locs cells slots k2 n2 (F0 m pc larr (st.map (cV ad))) (rest.map (cV ad)) (QQ b2 E ad sh.length (va_A (cW E.2 ad sh M) H.size) Q2 (av.map (cV ad)).toArray) (va_A (cW E.2 ad sh M) H.size))
    (hb : b2 = false ∨ (b = true ∧ (∀ q ∈ ls, okv sh.length q.2) ∧ ∀ v ∈ rest, okv sh.length v)) (hk : k2 ≤ k) (hn : n2 ≤ n)
    (g : ∀ (v : Option Value) (sh' : Sh) (M' : MM), Q2 v sh' M' → sh.length ≤ sh'.length → G b d (k - k2) (n - n2) Y sh' M' (pc + 3) ls (v.toList ++ rest) Q) : G b d k n Y sh M pc ls st Q := by
  intro p l e s m args below meth c H locs cells slots E ad0 n0 ad A larr mc ms hC hAg hn0 hW hS hl hk' hs'
  have hF := Wd_free hW hC.2.2.2.2.2.2.2.2.2.2 hS
  refine va_callQ (hrun hC hW hS hl.1 rfl rfl ⟨by show cells + k2 ≤ mc; omega, by show slots + n2 ≤ ms; omega⟩) hS (fun q _ h => hF q h) hF ?_
  intro v sh' M' ad' H1 locs1 hq hag hn1 hW1 hS1
  have hag2 : Ag b n0 ad0 ad' := by
    refine ⟨fun hbf => ?_, fun j hj => ?_⟩
    · rcases hb with h | h
      · rw [hag.1 h, hAg.1 hbf]
      · rw [h.1] at hbf; cases hbf
    · rw [hag.2 j (by omega), hAg.2 j hj]
  have e1 : (v.map (cV ad')).toList ++ rest.map (cV ad) = (v.toList ++ rest).map (cV ad') := by
    rw [List.map_append, map_okv hag (l := rest) (hb.imp id fun h => h.2.2)]
    cases v <;> rfl
  rw [e1]
  refine g v sh' M' hq hn1 p l e s m args below meth c H1 locs1 _ _ E ad0 n0 ad' A larr mc ms ?_ hag2 (by omega) ⟨hW1.1, hW1.2.weaken (fun _ _ _ h => hF _ h)⟩ hS1 ?_ (by omega) (by omega)
  · obtain ⟨c1, c2, c3, c4, c5, c6, c7, c8, c9, c10, c11⟩ := hC
    exact ⟨c1, c2, c3, c4, c5, c6, c7, c8, c9, St_ad c10 hag.hi, c11⟩
  · rw [mapL_okv hag (hb.imp id fun h => h.2.1)]
    exact hl
/-- the callee's start holds at the call -/
theorem pc_blind {E : EV} {ad : Nat → Nat} {sz : Nat} {av : List Value} : FrameBlind (va_Pc (av.map (cV ad)) (fun U => U.heap.size = sz ∧ Wd E ad sh M (fun _ => True) U.heap ∧ Wk E U ∧ St ad (va_A (cW E.2 ad sh M) sz) U U.heap)) := by
  intro a U g mk q
  obtain ⟨e, h1, h2, h3, h4⟩ := q
  exact ⟨e, h1, h2, va_K.moved (u := U) (U := U.calling g mk a) (Vm.Alike.refl U.vm) h3, St_same (U := U.calling g mk a) h4 rfl⟩
theorem pc_here {p : Program} {s : State} {m : MethodId} {args : Array Value} {meth : Method} {c : Code} {H : Heap} {locs : List Loc} {E : EV} {ad : Nat → Nat} {A : Nat → Prop} {av : List Value} (hC : Cx Y E ad A p s m args meth c) (hW : Wd E ad sh M A H) (hS : va_S A s.heap H locs) :
    ∀ U : State, U.heap = H → s.WarmedH U.vm → va_Pc (av.map (cV ad)) (fun U => U.heap.size = H.size ∧ Wd E ad sh M (fun _ => True) U.heap ∧ Wk E U ∧ St ad (va_A (cW E.2 ad sh M) H.size) U U.heap) (av.map (cV ad)).toArray U := by
  intro U hU hw
  obtain ⟨c1, c2, c3, c4, c5, c6, c7, c8, c9, c10, c11⟩ := hC
  refine ⟨rfl, by rw [hU], by rw [hU]; exact ⟨hW.1, hW.2.weaken (fun _ _ _ _ => trivial)⟩, va_K.moved hw.alike c9, ?_⟩
  rw [hU]
  exact St_warm c10 hw hS.2.1 (Wd_free hW c11 hS)
theorem good_cons {w : Cond} {ws : List Cond} (h : w ∈ tW) (g : GoodIn tW ws) : GoodIn tW (w :: ws) := fun x hx => by
  rcases List.mem_cons.mp hx with rfl | hx
  · exact tW_good _ h
  · exact g _ hx
theorem cE_obj {ct : Nat → ClassId} {ad : Nat → Nat} {k ci nn : Nat} : cE ct ad M k (10 + ci, nn) = .inr (ci, cF ad M k ci) := by
  unfold cE
  rw [if_neg (by omega)]
  simp
theorem G_callV {b2 : Bool} {d2 k2 n2 idx rk ci nn np : Nat} {q : vw_C} {Y2 : YD} {av rest : List Value} {Q2 : PO}
    (hd : decode Y.2.1 pc = .ok (.invokevirtual idx, 3)) (hK : K b2 d2 k2 n2 Y2 sh M (.ref rk :: av) Q2)
    (hs : sh[rk]? = some (10 + ci, nn)) (hc : cls8[ci]? = some q) (hq : Y2.1.cls = q.1)
    (hlink : Cond.methodLink Y.1.cls idx Y2.1 ∈ tW) (hinst : Cond.instanceMethod Y2.1 ∈ tW) (hsel : Cond.selects q.1 Y2.1 Y2.1 ∈ tW) (hini : Cond.initialized q.1 ∈ tW) (hcode : Cond.code Y2.1 Y2.2.1 Y2.2.2.1 Y2.2.2.2 ∈ tW)
    (hx : Y2.1.cls ≠ "java/lang/invoke/MethodHandle" ∧ Y2.1.cls ≠ "java/lang/invoke/VarHandle" ∧ (parseMethodDescriptor Y2.1.desc).map (fun d => d.parameters.length) = some np) (hav : av.length = np)
    (hst : st = av.reverse ++ .ref rk :: rest) (hcat : (rest.map fun v => v.category).sum ≤ 8) (hd2 : d2 + 1 ≤ d) (hml : Y2.2.2.1 ≤ 45)
    (hb : b2 = false ∨ (b = true ∧ (∀ q ∈ ls, okv sh.length q.2) ∧ ∀ v ∈ rest, okv sh.length v)) (hk : k2 ≤ k) (hn : n2 ≤ n)
    (g : ∀ (v : Option Value) (sh' : Sh) (M' : MM), Q2 v sh' M' → sh.length ≤ sh'.length → G b d (k - k2) (n - n2) Y sh' M' (pc + 3) ls (v.toList ++ rest) Q) : G b d k n Y sh M pc ls st Q := by
  refine G_call (av := .ref rk :: av) (rest := rest) ?_ hb hk hn g
  intro p l e R s m args below meth c H locs cells slots larr E ad A hC hW hS hsz hRf hRl hroom
  have hT := hC.2.2.2.2.1
  have hcw : CallW R s args Y.1.cls q.1 idx Y2.1 Y2.2.1 Y2.2.2.1 Y2.2.2.2 (.code Y2.1 Y2.2.1 Y2.2.2.1 Y2.2.2.2 :: tW) (rmK d2 k2 n2) k2 n2 np :=
    cwV np hT (good_cons hlink (good_cons hinst (good_cons hsel (good_cons hini (good_cons hcode tW_good))))) rfl rfl rfl ⟨hq, hx⟩ ⟨by rw [hRf]; exact hd2, by rw [hRl]; show 8 + (Y2.2.2.1 + 11) + 64 * d2 ≤ 64 * d; omega⟩
  have he : (cW E.2 ad sh M)[rk]? = some (ad rk, .inr (ci, cF ad M rk ci)) := by rw [cW_get hs, cE_obj]
  exact va_runV (As := av.map (cV ad)) (b := ad rk) ⟨hC.1, hC.2.1, hC.2.2.1, hC.2.2.2.1, hT⟩ (hK l E ad H.size) hcw ⟨pc_blind, va_recv hC.2.2.2.2.2.2.2.2.1 hW.1 hc he, pc_here (av := .ref rk :: av) hC hW hS⟩ rfl (by rw [List.length_map]; exact hav) hsz
    (by show st.map (cV ad) = _; rw [hst, List.map_append, List.map_reverse]; rfl) (by show 2 * 0 + _ ≤ 8; rw [List.map_map]; simpa [Function.comp_def, cV_cat] using hcat) hd hroom
theorem G_callS {b2 : Bool} {d2 k2 n2 idx np : Nat} {Y2 : YD} {av rest : List Value} {Q2 : PO}
    (hd : decode Y.2.1 pc = .ok (.invokestatic idx, 3)) (hK : K b2 d2 k2 n2 Y2 sh M av Q2)
    (hlink : Cond.methodLink Y.1.cls idx Y2.1 ∈ tW) (hstat : Cond.static Y2.1 ∈ tW) (hini : Cond.initialized Y2.1.cls ∈ tW) (hcode : Cond.code Y2.1 Y2.2.1 Y2.2.2.1 Y2.2.2.2 ∈ tW)
    (hx : Y2.1.cls ≠ "java/lang/invoke/MethodHandle" ∧ Y2.1.cls ≠ "java/lang/invoke/VarHandle" ∧ (parseMethodDescriptor Y2.1.desc).map (fun d => d.parameters.length) = some np) (hav : av.length = np)
    (hst : st = av.reverse ++ rest) (hcat : (rest.map fun v => v.category).sum ≤ 8) (hd2 : d2 + 1 ≤ d) (hml : Y2.2.2.1 ≤ 45)
    (hb : b2 = false ∨ (b = true ∧ (∀ q ∈ ls, okv sh.length q.2) ∧ ∀ v ∈ rest, okv sh.length v)) (hk : k2 ≤ k) (hn : n2 ≤ n)
    (g : ∀ (v : Option Value) (sh' : Sh) (M' : MM), Q2 v sh' M' → sh.length ≤ sh'.length → G b d (k - k2) (n - n2) Y sh' M' (pc + 3) ls (v.toList ++ rest) Q) : G b d k n Y sh M pc ls st Q := by
  refine G_call (av := av) (rest := rest) ?_ hb hk hn g
  intro p l e R s m args below meth c H locs cells slots larr E ad A hC hW hS hsz hRf hRl hroom
  have hT := hC.2.2.2.2.1
  have hcw := va_cwS (R := R) (args := args) (own := Y.1.cls) (index := idx) (y := Y2.1) (bytes := Y2.2.1) (maxL := Y2.2.2.1) (ret := Y2.2.2.2) (rm := rmK d2 k2 n2) (mc := k2) (ms := n2) (ws := .code Y2.1 Y2.2.1 Y2.2.2.1 Y2.2.2.2 :: tW) np hT (good_cons hlink (good_cons hstat (good_cons hini (good_cons hcode tW_good)))) rfl rfl rfl hx ⟨by rw [hRf]; exact hd2, by rw [hRl]; show 8 + (Y2.2.2.1 + 11) + 64 * d2 ≤ 64 * d; omega⟩
  exact va_runS (As := av.map (cV ad)) ⟨hC.1, hC.2.1, hC.2.2.1, hC.2.2.2.1, hT⟩ (hK l E ad H.size) hcw ⟨pc_blind, pc_here (av := av) hC hW hS⟩ rfl (by rw [List.length_map]; exact hav) hsz
    (by show st.map (cV ad) = _; rw [hst, List.map_append, List.map_reverse]) (by show 2 * 0 + _ ≤ 8; rw [List.map_map]; simpa [Function.comp_def, cV_cat] using hcat) hd hroom
theorem G_callI {b2 : Bool} {d2 k2 n2 idx rk np : Nat} {Y2 : YD} {av rest : List Value} {Q2 : PO}
    (hd : decode Y.2.1 pc = .ok (.invokespecial idx, 3)) (hK : K b2 d2 k2 n2 Y2 sh M (.ref rk :: av) Q2) (hr : Y2.2.2.2 = none) (hnm : Y2.1.name = "<init>")
    (hlink : Cond.methodLink Y.1.cls idx Y2.1 ∈ tW) (hinst : Cond.instanceMethod Y2.1 ∈ tW) (hini : Cond.initialized Y2.1.cls ∈ tW) (hcode : Cond.code Y2.1 Y2.2.1 Y2.2.2.1 none ∈ tW)
    (hx : Y2.1.cls ≠ "java/lang/invoke/MethodHandle" ∧ Y2.1.cls ≠ "java/lang/invoke/VarHandle" ∧ (parseMethodDescriptor Y2.1.desc).map (fun d => d.parameters.length) = some np) (hav : av.length = np)
    (hst : st = av.reverse ++ .ref rk :: rest) (hcat : (rest.map fun v => v.category).sum ≤ 8) (hd2 : d2 + 1 ≤ d) (hml : Y2.2.2.1 ≤ 45)
    (hb : b2 = false ∨ (b = true ∧ (∀ q ∈ ls, okv sh.length q.2) ∧ ∀ v ∈ rest, okv sh.length v)) (hk : k2 ≤ k) (hn : n2 ≤ n)
    (g : ∀ (v : Option Value) (sh' : Sh) (M' : MM), Q2 v sh' M' → sh.length ≤ sh'.length → G b d (k - k2) (n - n2) Y sh' M' (pc + 3) ls (v.toList ++ rest) Q) : G b d k n Y sh M pc ls st Q := by
  refine G_call (av := .ref rk :: av) (rest := rest) ?_ hb hk hn g
  intro p l e R s m args below meth c H locs cells slots larr E ad A hC hW hS hsz hRf hRl hroom
  have hT := hC.2.2.2.2.1
  have hM := hK l E ad H.size
  rw [hr] at hM
  have hcw := cwI (R := R) (args := args) (own := Y.1.cls) (index := idx) (y := Y2.1) (bytes := Y2.2.1) (maxL := Y2.2.2.1) (rm := rmK d2 k2 n2) (mc := k2) (ms := n2) (ws := .code Y2.1 Y2.2.1 Y2.2.2.1 none :: tW) np hT (good_cons hcode tW_good) rfl rfl rfl (hT _ hini) (hT _ hlink) (hT _ hinst) hnm hx ⟨by rw [hRf]; exact hd2, by rw [hRl]; show 8 + (Y2.2.2.1 + 11) + 64 * d2 ≤ 64 * d; omega⟩
  exact va_runI (As := av.map (cV ad)) (b := ad rk) ⟨hC.1, hC.2.1, hC.2.2.1, hC.2.2.2.1, hT⟩ hM hcw ⟨pc_blind, pc_here (av := .ref rk :: av) hC hW hS⟩ rfl (by rw [List.length_map]; exact hav) hsz
    (by show st.map (cV ad) = _; rw [hst, List.map_append, List.map_reverse]; rfl) (by show 2 * 0 + _ ≤ 8; rw [List.map_map]; simpa [Function.comp_def, cV_cat] using hcat) hd hroom
end GC
