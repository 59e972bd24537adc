/-! THE JUDGEMENT G: from this frame of the mini world the method comes to its end with Q; K: a method's contract -/
abbrev YD : Type := MethodName × ByteArray × Nat × Option FieldType
abbrev PO : Type := Option Value → Sh → MM → Prop
def Ag (b : Bool) (n : Nat) (a a' : Nat → Nat) : Prop := (b = false → a' = a) ∧ ∀ j, (j < n ∨ 1000 ≤ j) → a' j = a j
theorem Ag.rf {b : Bool} {n : Nat} {a : Nat → Nat} : Ag b n a a := ⟨fun _ => rfl, fun _ _ => rfl⟩
theorem Ag.hi {b : Bool} {n : Nat} {a a' : Nat → Nat} (h : Ag b n a a') : ∀ j, 1000 ≤ j → a' j = a j := fun j hj => h.2 j (Or.inr hj)
def Cx (Y : YD) (E : EV) (ad : Nat → Nat) (A : Nat → Prop) (p : Program) (s : State) (m : MethodId) (args : Array Value) (meth : Method) (c : Code) : Prop :=
  p.tables.exec = Jvm.exec ∧ c.code = Y.2.1 ∧ c.maxLocals = Y.2.2.1 ∧ s.vm.findClass Y.1.cls = some m.cls ∧ (∀ w ∈ tW, w.before args s = true) ∧ meth.sig.returnType = Y.2.2.2 ∧ meth.locks = false ∧ meth.name = Y.1.name ∧ Wk E s ∧ St ad A s s.heap ∧ ∀ q : Nat, s.heap.size ≤ q → A q
def QQ (b : Bool) (E : EV) (ad0 : Nat → Nat) (n0 : Nat) (A : Nat → Prop) (Q : PO) : Array Value → State → Outcome → State → Prop := fun _ st oc t =>
  (∃ (v : Option Value) (sh : Sh) (M : MM) (ad : Nat → Nat), oc = .returned (v.map (cV ad)) ∧ Q v sh M ∧ Ag b n0 ad0 ad ∧ n0 ≤ sh.length ∧ Wd E ad sh M A t.heap ∧ Wk E t) ∧ va_F A st t
def rmK (d k n : Nat) : Room := { frames := d, cells := k, slots := n, locals := 64 * d }
def G (b : Bool) (d k n : Nat) (Y : YD) (sh : Sh) (M : MM) (pc : Nat) (ls : List (Nat × Value)) (st : List Value) (Q : PO) : Prop :=
  ∀ (p : Program) (l : Launch) (e : Env) (s : State) (m : MethodId) (args : Array Value) (below : List Frame) (meth : Method) (c : Code) (H : Heap) (locs : List Loc) (cells slots : Nat) (E : EV) (ad0 : Nat → Nat) (n0 : Nat) (ad : Nat → Nat) (A : Nat → Prop) (larr : Array Slot) (mc ms : Nat),
    Cx Y E ad A p s m args meth c → Ag b n0 ad0 ad → n0 ≤ sh.length → Wd E ad sh M A H → va_S A s.heap H locs → lv_has larr Y.2.2.1 (ls.map (cL ad)) → cells + k ≤ mc → slots + n ≤ ms →
    W p l e (rmK d mc ms) s m args below meth c H locs cells slots (MQ below (QQ b E ad0 n0 A Q) args s mc ms A) (F0 m pc larr (st.map (cV ad)))
def K (b : Bool) (d k n : Nat) (Y : YD) (sh : Sh) (M : MM) (av : List Value) (Q : PO) : Prop :=
  ∀ (l : Launch) (E : EV) (ad : Nat → Nat) (sz : Nat), Met l Y.1 (.code Y.1 Y.2.1 Y.2.2.1 Y.2.2.2 :: tW) (rmK d k n) (va_Pc (av.map (cV ad)) (fun U => U.heap.size = sz ∧ Wd E ad sh M (fun _ => True) U.heap ∧ Wk E U ∧ St ad (va_A (cW E.2 ad sh M) sz) U U.heap)) (QQ b E ad sh.length (va_A (cW E.2 ad sh M) sz) Q) k n (va_A (cW E.2 ad sh M) sz)
theorem cL_args {ad : Nat → Nat} : ∀ (i : Nat) (av : List Value), lv_args i (av.map (cV ad)) = (lv_args i av).map (cL ad)
  | _, [] => rfl
  | i, v :: av => by
    rw [List.map_cons, lv_args, lv_args, List.map_cons, cV_cat, cL_args _ av]
theorem K_of_G {b : Bool} {d k n : Nat} {Y : YD} {sh : Sh} {M : MM} {av : List Value} {Q : PO} (hy : plainName Y.1.cls = true) (hlen : ∀ ad : Nat → Nat, (lg_sl (av.map (cV ad))).length ≤ Y.2.2.1) (g : G b d k n Y sh M 0 (lv_args 0 av) [] Q) : K b d k n Y sh M av Q := by
  intro l E ad sz
  refine Met.ofW (cc := Y.2.1) (maxL := Y.2.2.1) (ret := Y.2.2.2) hy rfl ?_
  intro p e s m args below meth c s₁ B hml hv
  obtain ⟨rfl, hsz, hW, hK, hSt⟩ := hv
  have hts := atoms_spec (ws := .code Y.1 Y.2.1 Y.2.2.1 Y.2.2.2 :: tW) B.pre
  have hown : s.vm.findClass Y.1.cls = some m.cls := findClass_of_methodNamed B.named
  have hnm : meth.name = Y.1.name := (name_of_methodNamed B.named B.method).1
  have hlocks := B.notSynchronized
  subst hsz
  have hl := lv_entry (av.map (cV ad)) (n := Y.2.2.1) (hlen ad)
  rw [lg_entry_eq]
  rw [cL_args] at hl
  exact g p l e s m _ below meth c s.heap [] 0 0 E ad sh.length ad _ _ k n ⟨B.exec, B.bytes, hml, hown, fun w hw => hts w (List.mem_cons_of_mem _ hw), B.returns, hlocks, hnm, hK, hSt, fun q h => Or.inr h⟩ Ag.rf (Nat.le_refl _) ⟨hW.1, hW.2.self⟩ va_S.rf hl (by omega) (by omega)
section GG
variable {b : Bool} {d k n : Nat} {Y : YD} {sh : Sh} {M : MM} {pc : Nat} {ls : List (Nat × Value)} {st : List Value} {Q : PO}
theorem G_pure {pc' : Nat} {ls' : List (Nat × Value)} {st' : List Value}
    (h : ∀ {p : Program} {l : Launch} {e : Env} {R : Room} {s : State} {m : MethodId} {args : Array Value} {below : List Frame} {meth : Method} {c : Code} {H : Heap} {locs : List Loc} {cells slots : Nat} {Q' : State → Prop} {larr : Array Slot} {E : EV} {ad : Nat → Nat} {A : Nat → Prop},
      Cx Y E ad A p s m args meth c → lv_has larr Y.2.2.1 (ls.map (cL ad)) → (∀ larr' : Array Slot, lv_has larr' Y.2.2.1 (ls'.map (cL ad)) → W p l e R s m args below meth c H locs cells slots Q' (F0 m pc' larr' (st'.map (cV ad)))) → W p l e R s m args below meth c H locs cells slots Q' (F0 m pc larr (st.map (cV ad))))
    (g : G b d k n Y sh M pc' ls' st' Q) : G b d k n Y sh M pc ls st Q := by
  intro p l e s m args below meth c H locs cells slots E ad0 n0 ad A larr mc ms hC hAg hn hW hS hl hk hs
  exact h hC hl (fun larr' hl' => g p l e s m args below meth c H locs cells slots E ad0 n0 ad A larr' mc ms hC hAg hn hW hS hl' hk hs)
/-- a step that changes the memory alone, at a place that is there -/
theorem G_mem {pc' : Nat} {st' : List Value} {M' : MM}
    (h : ∀ {p : Program} {l : Launch} {e : Env} {R : Room} {s : State} {m : MethodId} {args : Array Value} {below : List Frame} {meth : Method} {c : Code} {H : Heap} {locs : List Loc} {cells slots : Nat} {Q' : State → Prop} {larr : Array Slot} {E : EV} {ad : Nat → Nat} {A : Nat → Prop},
      Cx Y E ad A p s m args meth c → Wd E ad sh M A H → va_S A s.heap H locs → larr.size = Y.2.2.1 → R.frames = d → R.locals = 64 * d → (∀ (H1 : Heap) (locs1 : List Loc), Wd E ad sh M' A H1 → va_S A s.heap H1 locs1 → W p l e R s m args below meth c H1 locs1 cells slots Q' (F0 m pc' larr (st'.map (cV ad)))) → W p l e R s m args below meth c H locs cells slots Q' (F0 m pc larr (st.map (cV ad))))
    (g : G b d k n Y sh M' pc' ls st' Q) : G b d k n Y sh M pc ls st Q := by
  intro p l e s m args below meth c H locs cells slots E ad0 n0 ad A larr mc ms hC hAg hn hW hS hl hk hs
  exact h hC hW hS hl.1 rfl rfl (fun H1 locs1 hW1 hS1 => g p l e s m args below meth c H1 locs1 cells slots E ad0 n0 ad A larr mc ms hC hAg hn hW1 hS1 hl hk hs)
/-- a step that reads the memory -/
theorem G_read {pc' : Nat} {st' : List Value}
    (h : ∀ {p : Program} {l : Launch} {e : Env} {R : Room} {s : State} {m : MethodId} {args : Array Value} {below : List Frame} {meth : Method} {c : Code} {H : Heap} {locs : List Loc} {cells slots : Nat} {Q' : State → Prop} {larr : Array Slot} {E : EV} {ad : Nat → Nat} {A : Nat → Prop},
      Cx Y E ad A p s m args meth c → Wd E ad sh M A H → va_S A s.heap H locs → W p l e R s m args below meth c H locs cells slots Q' (F0 m pc' larr (st'.map (cV ad))) → W p l e R s m args below meth c H locs cells slots Q' (F0 m pc larr (st.map (cV ad))))
    (g : G b d k n Y sh M pc' ls st' Q) : G b d k n Y sh M pc ls st Q := by
  intro p l e s m args below meth c H locs cells slots E ad0 n0 ad A larr mc ms hC hAg hn hW hS hl hk hs
  exact h hC hW hS (g p l e s m args below meth c H locs cells slots E ad0 n0 ad A larr mc ms hC hAg hn hW hS hl hk hs)
/-- two ways on -/
theorem G_two {pc1 pc2 : Nat} {st' : List Value} {P : Prop}
    (h : ∀ {p : Program} {l : Launch} {e : Env} {R : Room} {s : State} {m : MethodId} {args : Array Value} {below : List Frame} {meth : Method} {c : Code} {H : Heap} {locs : List Loc} {cells slots : Nat} {Q' : State → Prop} {larr : Array Slot} {E : EV} {ad : Nat → Nat} {A : Nat → Prop},
      Cx Y E ad A p s m args meth c → (P → W p l e R s m args below meth c H locs cells slots Q' (F0 m pc1 larr (st'.map (cV ad)))) → (¬ P → W p l e R s m args below meth c H locs cells slots Q' (F0 m pc2 larr (st'.map (cV ad)))) → W p l e R s m args below meth c H locs cells slots Q' (F0 m pc larr (st.map (cV ad))))
    (g1 : P → G b d k n Y sh M pc1 ls st' Q) (g2 : ¬ P → G b d k n Y sh M pc2 ls st' Q) : G b d k n Y sh M pc ls st Q := by
  intro p l e s m args below meth c H locs cells slots E ad0 n0 ad A larr mc ms hC hAg hn hW hS hl hk hs
  exact h hC (fun q => g1 q p l e s m args below meth c H locs cells slots E ad0 n0 ad A larr mc ms hC hAg hn hW hS hl hk hs) (fun q => g2 q p l e s m args below meth c H locs cells slots E ad0 n0 ad A larr mc ms hC hAg hn hW hS hl hk hs)
/-- the end -/
theorem G_end {v : Option Value} (hq : Q v sh M)
    (h : ∀ {p : Program} {l : Launch} {e : Env} {R : Room} {s : State} {m : MethodId} {args : Array Value} {below : List Frame} {meth : Method} {c : Code} {H : Heap} {locs : List Loc} {cells slots : Nat} {Qc : Array Value → State → Outcome → State → Prop} {free : Addr → Prop} {larr : Array Slot} {ad : Nat → Nat} {E : EV} {A : Nat → Prop},
      Cx Y E ad A p s m args meth c → (∀ t : State, t.heap = H → s.WarmedH t.vm → Qc args s (.returned (v.map (cV ad))) t) → (∀ q ∈ locs, free q.base) → W p l e R s m args below meth c H locs cells slots (MQ below Qc args s cells slots free) (F0 m pc larr (st.map (cV ad)))) : G b d k n Y sh M pc ls st Q := by
  intro p l e s m args below meth c H locs cells slots E ad0 n0 ad A larr mc ms hC hAg hn hW hS hl hk hs
  refine W.widen (k := mc) (n := ms) (by omega) (by omega) ?_
  refine h hC (fun t ht hw => ?_) hS.2.2
  exact ⟨⟨v, sh, M, ad, rfl, hq, hAg, hn, by rw [ht]; exact hW, va_K.moved hw.alike hC.2.2.2.2.2.2.2.2.1⟩, hS.F ht⟩
theorem G_iret (hd : decode Y.2.1 pc = .ok (.ireturn, 1)) (hr : Y.2.2.2 = some .int) {x : Int32} (hq : Q (some (.int x)) sh M) : G b d k n Y sh M pc ls [.int x] Q :=
  G_end (v := some (.int x)) hq (fun hC q f => W.iret hC.1 hC.2.1 (hC.2.2.2.2.2.1.trans hr) q f hd hC.2.2.2.2.2.2.1)
theorem G_zret (hd : decode Y.2.1 pc = .ok (.ireturn, 1)) {ty : FieldType} (hr : Y.2.2.2 = some ty) {x : Int32} (hn : narrow ty (.int x) = .int x) (hq : Q (some (.int x)) sh M) : G b d k n Y sh M pc ls [.int x] Q :=
  G_end (v := some (.int x)) hq (fun hC q f => W.zret hC.1 hC.2.1 (hC.2.2.2.2.2.1.trans hr) hn q f hd hC.2.2.2.2.2.2.1)
theorem G_lret (hd : decode Y.2.1 pc = .ok (.lreturn, 1)) (hr : Y.2.2.2 = some .long) {x : Int64} (hq : Q (some (.long x)) sh M) : G b d k n Y sh M pc ls [.long x] Q :=
  G_end (v := some (.long x)) hq (fun hC q f => W.lret hC.1 hC.2.1 (hC.2.2.2.2.2.1.trans hr) q f hd hC.2.2.2.2.2.2.1)
theorem G_vret (hd : decode Y.2.1 pc = .ok (.return_, 1)) (hr : Y.2.2.2 = none) (hq : Q none sh M) : G b d k n Y sh M pc ls [] Q :=
  G_end (v := none) hq (fun hC q f => W.vret hC.1 hC.2.1 (hC.2.2.2.2.2.1.trans hr) q f hd hC.2.2.2.2.2.2.1)
theorem G_aret (hd : decode Y.2.1 pc = .ok (.areturn, 1)) {rt : FieldType} (hr : Y.2.2.2 = some rt) (hrt : (∃ n, rt = .object n) ∨ ∃ t, rt = .array t) {r : Option Nat} (hq : Q (some (va_rf r)) sh M) : G b d k n Y sh M pc ls [va_rf r] Q :=
  G_end (v := some (va_rf r)) hq (fun {p l e R s m args below meth c H locs cells slots Qc free larr ad E A} hC q f => W.aret hC.1 hC.2.1 (hC.2.2.2.2.2.1.trans hr) hrt (by cases r with
    | none => exact Or.inl rfl
    | some a => exact Or.inr ⟨ad a, rfl⟩) q f hd hC.2.2.2.2.2.2.1)
end GG
