/-! THE LAW'S FRAME: the judgement LG -/
def lw_P (b : Addr) (xs : List Int32) (args : Array Value) (s : State) : Prop := args = #[.ref b] ∧ s.IntsAt b xs ∧ xs.length ≤ 3072 ∧ (Jvm.Cond.and given_1 narrow_1).before args s = true
def lw_Q (_ : Array Value) (s : State) (o : Outcome) (t : State) : Prop := o = .returned (some (.int 1)) ∧ Framed s o t [] 600000 7302250
def lw_Z (below : List Frame) (a : Array Value) (s : State) : State → Prop := fun t => ∃ o, t.status = .running ∧ Ended t below o ∧ lw_Q a s o t
/-- the law's own end, with 1 on the stack, nothing written that was there before, its room as the claim has it -/
theorem lw_ret {p : Program} {l : Launch} {e : Env} {s : State} {m : MethodId} {below : List Frame} {meth : Method} {c : Code} {b : Nat} (hx : p.tables.exec = Jvm.exec) (hb : c.code = code) (hr : meth.sig.returnType = ret) (hlocks : meth.locks = false) {pc : Nat} {H : Heap} {ls : Array Slot} (hdg : decode code pc = .ok (.ireturn, 1)) : W p l e room_1 s m #[Value.ref b] below meth c H [] 600000 7302250 (lw_Z below #[Value.ref b] s) (F0 m pc ls [.int 1]) := by
  intro T hT X
  obtain ⟨fs, hret, hrun, hended, hW, hframe⟩ := X.leave (v := some (.int 1)) (hlocks := hlocks) (fun h => by rw [hr] at h; cases h)
  have hmeth' : T.vm.method? m = some meth := X.method'
  refine ⟨T.setFrames fs, ?_, .returned (some (.int 1)), hrun, hended, rfl, ⟨_, rfl⟩, hW, hframe⟩
  jvm_step X.here [X.here.top, hx, hb, hdg, hmeth', hr, ret, narrow_b1]
  (try refine ⟨rfl, ?_⟩); (try refine ⟨rfl, ?_⟩)
  first | (intro acts; rw [hret _ acts rfl rfl rfl]) | rw [hret _ _ rfl rfl rfl]
  exact Steps.refl _
/-- what holds at the law's entry: the machine, the code, the tables' words (any of lw_tbl by 'hts w (by decide +kernel)'), the script of L ints xs at the cell b, what the Statement gives of the start (any of its parts by flat_of_before) -/
def lw_At (p : Program) (s : State) (m : MethodId) (meth : Method) (c : Code) (b L : Nat) (xs : Nat → Int32) : Prop :=
  p.tables.exec = Jvm.exec ∧ c.code = code ∧ meth.sig.returnType = ret ∧ c.maxLocals = 4 ∧ s.vm.findClass R_law = some m.cls ∧ (∀ w ∈ lw_tbl, w.before #[Value.ref b] s = true) ∧ va_X b L xs s s.heap ∧ b < s.heap.size ∧ meth.locks = false ∧ (Jvm.Cond.and given_1 narrow_1).before #[Value.ref b] s = true
def LX : Type := Program × Launch × Env × State × MethodId × (List Frame) × Method × Code × Nat × EV
def LX.p (X : LX) : Program := X.1
def LX.l (X : LX) : Launch := X.2.1
def LX.e (X : LX) : Env := X.2.2.1
def LX.s (X : LX) : State := X.2.2.2.1
def LX.m (X : LX) : MethodId := X.2.2.2.2.1
def LX.below (X : LX) : List Frame := X.2.2.2.2.2.1
def LX.meth (X : LX) : Method := X.2.2.2.2.2.2.1
def LX.c (X : LX) : Code := X.2.2.2.2.2.2.2.1
def LX.b (X : LX) : Nat := X.2.2.2.2.2.2.2.2.1
def LX.E (X : LX) : EV := X.2.2.2.2.2.2.2.2.2
abbrev YL (meth : Method) : YD := (⟨R_law, meth.name, ""⟩, code, 4, ret)
abbrev LX.A (X : LX) : Nat → Prop := fun q => X.s.heap.size ≤ q
def LX.ok (X : LX) (L : Nat) (xs : Nat → Int32) : Prop := lw_At X.p X.s X.m X.meth X.c X.b L xs ∧ Wk X.E X.s
def LG (X : LX) (k n : Nat) (sh : Sh) (M : MM) (pc : Nat) (ls : List (Nat × Value)) (st : List Value) : Prop :=
  ∀ (H : Heap) (locs : List Loc) (cells slots : Nat) (ad : Nat → Nat) (larr : Array Slot), ad 2000 = X.b → St ad X.A X.s X.s.heap → Wd X.E ad sh M X.A H → va_S X.A X.s.heap H locs → lv_has larr 4 (ls.map (cL ad)) → cells + k ≤ 600000 → slots + n ≤ 7302250 →
    W X.p X.l X.e room_1 X.s X.m #[Value.ref X.b] X.below X.meth X.c H locs cells slots (lw_Z X.below #[Value.ref X.b] X.s) (F0 X.m pc larr (st.map (cV ad)))
theorem LX.cx {X : LX} {L : Nat} {xs : Nat → Int32} (C : X.ok L xs) {ad : Nat → Nat} (hSt : St ad X.A X.s X.s.heap) : Cx (YL X.meth) X.E ad X.A X.p X.s X.m #[Value.ref X.b] X.meth X.c := by
  obtain ⟨⟨h1, h2, h3, h4, h5, h6, h7, h8, h9, h10⟩, hK⟩ := C
  exact ⟨h1, h2, h4, h5, tW_ok h6, h3, h9, rfl, hK, hSt, fun _ h => h⟩
section LGs
variable {X : LX} {L : Nat} {xs : Nat → Int32} {k n : Nat} {sh : Sh} {M : MM} {pc : Nat} {ls : List (Nat × Value)} {st : List Value}
theorem L_pure (C : X.ok L xs) {pc' : Nat} {ls' : List (Nat × Value)} {st' : List Value}
    (h : ∀ {H : Heap} {locs : List Loc} {cells slots : Nat} {Q' : State → Prop} {larr : Array Slot} {ad : Nat → Nat},
      Cx (YL X.meth) X.E ad X.A X.p X.s X.m #[Value.ref X.b] X.meth X.c → lv_has larr 4 (ls.map (cL ad)) → (∀ larr' : Array Slot, lv_has larr' 4 (ls'.map (cL ad)) → W X.p X.l X.e room_1 X.s X.m #[Value.ref X.b] X.below X.meth X.c H locs cells slots Q' (F0 X.m pc' larr' (st'.map (cV ad)))) → W X.p X.l X.e room_1 X.s X.m #[Value.ref X.b] X.below X.meth X.c H locs cells slots Q' (F0 X.m pc larr (st.map (cV ad))))
    (g : LG X k n sh M pc' ls' st') : LG X k n sh M pc ls st := fun H locs cells slots ad larr h2 hSt hW hS hl hk hn =>
  h (X.cx C hSt) hl (fun larr' hl' => g H locs cells slots ad larr' h2 hSt hW hS hl' hk hn)
theorem L_iconst (C : X.ok L xs) {v : Int} {x : Int32} (hd : decode code pc = .ok (.iconst v, 1)) (hx : Int32.ofInt v = x) (g : LG X k n sh M (pc + 1) ls (.int x :: st)) : LG X k n sh M pc ls st :=
  L_pure C (fun hC hl kk => lv_iconst hC.1 hC.2.1 hd hx (kk _ hl)) g
theorem L_bipush (C : X.ok L xs) {v : Int} {x : Int32} (hd : decode code pc = .ok (.bipush v, 2)) (hx : (Int8.ofInt v).toInt32 = x) (g : LG X k n sh M (pc + 2) ls (.int x :: st)) : LG X k n sh M pc ls st :=
  L_pure C (fun hC hl kk => lv_bipush hC.1 hC.2.1 hd hx (kk _ hl)) g
theorem L_ldc2 (C : X.ok L xs) {ix : Nat} {x : Int64} (hd : decode code pc = .ok (.ldc2_w ix, 3)) (hw : Cond.constantLong R_law ix x ∈ tW) (g : LG X k n sh M (pc + 3) ls (.long x :: st)) : LG X k n sh M pc ls st :=
  L_pure C (fun hC hl kk => lv_ldc2 hC.1 hC.2.1 hC.2.2.2.1 (hC.2.2.2.2.1 _ hw) hd (kk _ hl)) g
theorem L_iload_n (C : X.ok L xs) {q : Fin 4} {x : Int32} {j : Nat} (i : Nat) (hd : decode code pc = .ok (.iload_n q, 1)) (hq : (q : Nat) = j) (hi : ls[i]? = some (j, .int x)) (g : LG X k n sh M (pc + 1) ls (.int x :: st)) : LG X k n sh M pc ls st :=
  L_pure C (fun hC hl kk => lv_iload_n hC.1 hC.2.1 hd hq (lkl hl hi) (kk _ hl)) g
theorem L_aload_n (C : X.ok L xs) {q : Fin 4} {x j : Nat} (i : Nat) (hd : decode code pc = .ok (.aload_n q, 1)) (hq : (q : Nat) = j) (hi : ls[i]? = some (j, .ref x)) (g : LG X k n sh M (pc + 1) ls (.ref x :: st)) : LG X k n sh M pc ls st :=
  L_pure C (fun hC hl kk => lv_aload_n hC.1 hC.2.1 hd hq (lkl hl hi) (kk _ hl)) g
theorem L_istore_n (C : X.ok L xs) {q : Fin 4} {x : Int32} {j : Nat} {ls' : List (Nat × Value)} (hd : decode code pc = .ok (.istore_n q, 1)) (hq : (q : Nat) = j) (hj : j < 4) (hls : stl ls j (.int x) = ls') (g : LG X k n sh M (pc + 1) ls' st) : LG X k n sh M pc ls (.int x :: st) :=
  L_pure C (fun hC hl kk => lv_istore_n hC.1 hC.2.1 hd hq hl hj (stl_map (v := .int x)) (fun a h => kk a (hls ▸ h))) g
theorem L_astore_n (C : X.ok L xs) {q : Fin 4} {x : Nat} {j : Nat} {ls' : List (Nat × Value)} (hd : decode code pc = .ok (.astore_n q, 1)) (hq : (q : Nat) = j) (hj : j < 4) (hls : stl ls j (.ref x) = ls') (g : LG X k n sh M (pc + 1) ls' st) : LG X k n sh M pc ls (.ref x :: st) :=
  L_pure C (fun hC hl kk => lv_astore_n hC.1 hC.2.1 hd hq hl hj (stl_map (v := .ref x)) (fun a h => kk a (hls ▸ h))) g
theorem L_iinc (C : X.ok L xs) {c : Int} {x v : Int32} {j : Nat} (i : Nat) {ls' : List (Nat × Value)} (hd : decode code pc = .ok (.iinc j c, 3)) (hi : ls[i]? = some (j, .int x)) (hv : x + Int32.ofInt c = v) (hj : j < 4) (hls : stl ls j (.int v) = ls') (g : LG X k n sh M (pc + 3) ls' st) : LG X k n sh M pc ls st :=
  L_pure C (fun hC hl kk => lv_iinc (k := i) hC.1 hC.2.1 hd hl (by rw [List.getElem?_map, hi]; rfl) hv hj (stl_map (v := .int v)) (fun a h => kk a (hls ▸ h))) g
theorem L_iadd (C : X.ok L xs) {x y : Int32} (hd : decode code pc = .ok (.iadd, 1)) (g : LG X k n sh M (pc + 1) ls (.int (x + y) :: st)) : LG X k n sh M pc ls (.int y :: .int x :: st) :=
  L_pure C (fun hC hl kk => lv_iadd hC.1 hC.2.1 hd (kk _ hl)) g
theorem L_isub (C : X.ok L xs) {x y : Int32} (hd : decode code pc = .ok (.isub, 1)) (g : LG X k n sh M (pc + 1) ls (.int (x - y) :: st)) : LG X k n sh M pc ls (.int y :: .int x :: st) :=
  L_pure C (fun hC hl kk => lv_isub hC.1 hC.2.1 hd (kk _ hl)) g
theorem L_iand (C : X.ok L xs) {x y : Int32} (hd : decode code pc = .ok (.iand, 1)) (g : LG X k n sh M (pc + 1) ls (.int (x &&& y) :: st)) : LG X k n sh M pc ls (.int y :: .int x :: st) :=
  L_pure C (fun hC hl kk => lv_iand hC.1 hC.2.1 hd (kk _ hl)) g
theorem L_land (C : X.ok L xs) {x y : Int64} (hd : decode code pc = .ok (.land, 1)) (g : LG X k n sh M (pc + 1) ls (.long (x &&& y) :: st)) : LG X k n sh M pc ls (.long y :: .long x :: st) :=
  L_pure C (fun hC hl kk => lv_land hC.1 hC.2.1 hd (kk _ hl)) g
theorem L_lor (C : X.ok L xs) {x y : Int64} (hd : decode code pc = .ok (.lor, 1)) (g : LG X k n sh M (pc + 1) ls (.long (x ||| y) :: st)) : LG X k n sh M pc ls (.long y :: .long x :: st) :=
  L_pure C (fun hC hl kk => lv_lor hC.1 hC.2.1 hd (kk _ hl)) g
theorem L_lcmp (C : X.ok L xs) {x y : Int64} (hd : decode code pc = .ok (.lcmp, 1)) (g : LG X k n sh M (pc + 1) ls (.int (lg_cmp x y) :: st)) : LG X k n sh M pc ls (.long y :: .long x :: st) :=
  L_pure C (fun hC hl kk => W.lcmp hC.1 hC.2.1 hd (kk _ hl)) g
theorem L_lshl (C : X.ok L xs) {x : Int64} {y : Int32} (hd : decode code pc = .ok (.lshl, 1)) (g : LG X k n sh M (pc + 1) ls (.long (x <<< (y.toInt64 &&& 63)) :: st)) : LG X k n sh M pc ls (.int y :: .long x :: st) :=
  L_pure C (fun hC hl kk => lv_lshl hC.1 hC.2.1 hd rfl (kk _ hl)) g
theorem L_i2l (C : X.ok L xs) {x : Int32} (hd : decode code pc = .ok (.i2l, 1)) (g : LG X k n sh M (pc + 1) ls (.long x.toInt64 :: st)) : LG X k n sh M pc ls (.int x :: st) :=
  L_pure C (fun hC hl kk => lv_i2l hC.1 hC.2.1 hd rfl (kk _ hl)) g
theorem L_dup (C : X.ok L xs) {v : Value} (hd : decode code pc = .ok (.dup, 1)) (hv : v.category = 1) (g : LG X k n sh M (pc + 1) ls (v :: v :: st)) : LG X k n sh M pc ls (v :: st) :=
  L_pure C (fun hC hl kk => lv_dup hC.1 hC.2.1 hd (cV_cat.trans hv) (kk _ hl)) g
theorem L_goto (C : X.ok L xs) {off : Int} {tgt : Nat} (hd : decode code pc = .ok (.goto off, 3)) (ht : (pc : Int) + off = (tgt : Int)) (g : LG X k n sh M tgt ls st) : LG X k n sh M pc ls st :=
  L_pure C (fun hC hl kk => lv_goto hC.1 hC.2.1 hd ht (kk _ hl)) g
theorem L_if_eq_t (C : X.ok L xs) {x : Int32} {off : Int} {tgt : Nat} (hd : decode code pc = .ok (.ifCond .eq off, 3)) (ht : (pc : Int) + off = (tgt : Int)) (hc : x = 0) (g : LG X k n sh M tgt ls st) : LG X k n sh M pc ls (.int x :: st) :=
  L_pure C (fun hC hl kk => lv_if_eq hC.1 hC.2.1 hd ht (fun _ => kk _ hl) (fun q => absurd hc q)) g
theorem L_if_eq_f (C : X.ok L xs) {x : Int32} {off : Int} {tgt : Nat} (hd : decode code pc = .ok (.ifCond .eq off, 3)) (ht : (pc : Int) + off = (tgt : Int)) (hc : ¬ (x = 0)) (g : LG X k n sh M (pc + 3) ls st) : LG X k n sh M pc ls (.int x :: st) :=
  L_pure C (fun hC hl kk => lv_if_eq hC.1 hC.2.1 hd ht (fun q => absurd q hc) (fun _ => kk _ hl)) g
theorem L_icmp_eq_t (C : X.ok L xs) {x y : Int32} {off : Int} {tgt : Nat} (hd : decode code pc = .ok (.if_icmp .eq off, 3)) (ht : (pc : Int) + off = (tgt : Int)) (hc : x = y) (g : LG X k n sh M tgt ls st) : LG X k n sh M pc ls (.int y :: .int x :: st) :=
  L_pure C (fun hC hl kk => lv_icmp_eq hC.1 hC.2.1 hd ht (fun _ => kk _ hl) (fun q => absurd hc q)) g
theorem L_icmp_gt_t (C : X.ok L xs) {x y : Int32} {off : Int} {tgt : Nat} (hd : decode code pc = .ok (.if_icmp .gt off, 3)) (ht : (pc : Int) + off = (tgt : Int)) (hc : y < x) (g : LG X k n sh M tgt ls st) : LG X k n sh M pc ls (.int y :: .int x :: st) :=
  L_pure C (fun hC hl kk => lv_icmp_gt hC.1 hC.2.1 hd ht (fun _ => kk _ hl) (fun q => absurd hc q)) g
theorem L_icmp_gt_f (C : X.ok L xs) {x y : Int32} {off : Int} {tgt : Nat} (hd : decode code pc = .ok (.if_icmp .gt off, 3)) (ht : (pc : Int) + off = (tgt : Int)) (hc : ¬ (y < x)) (g : LG X k n sh M (pc + 3) ls st) : LG X k n sh M pc ls (.int y :: .int x :: st) :=
  L_pure C (fun hC hl kk => lv_icmp_gt hC.1 hC.2.1 hd ht (fun q => absurd q hc) (fun _ => kk _ hl)) g
theorem L_ts_in (C : X.ok L xs) {dflt lo hi off : Int} {offs : Array Int} {len tgt : Nat} {x : Int32} (hd : decode code pc = .ok (.tableswitch dflt lo hi offs, len)) (h1 : ¬ x.toInt < lo) (h2 : ¬ hi < x.toInt) (ho : offs[(x.toInt - lo).toNat]? = some off) (ht : (pc : Int) + off = (tgt : Int)) (g : LG X k n sh M tgt ls st) : LG X k n sh M pc ls (.int x :: st) :=
  L_pure C (fun hC hl kk => lv_tableIn hC.1 hC.2.1 hd h1 h2 ho ht (kk _ hl)) g
theorem L_ts_out (C : X.ok L xs) {dflt lo hi : Int} {offs : Array Int} {len tgt : Nat} {x : Int32} (hx : x.toInt < lo ∨ hi < x.toInt) (hd : decode code pc = .ok (.tableswitch dflt lo hi offs, len)) (ht : (pc : Int) + dflt = (tgt : Int)) (g : LG X k n sh M tgt ls st) : LG X k n sh M pc ls (.int x :: st) :=
  L_pure C (fun hC hl kk => lv_tableOut hC.1 hC.2.1 hd hx ht (kk _ hl)) g
theorem L_nA (C : X.ok L xs) : ¬ X.A X.b := Nat.not_le.mpr C.1.2.2.2.2.2.2.2.1
/-- the script -/
theorem L_sld (C : X.ok L xs) {i : Int32} {j : Nat} (hin : vp_in i L) (hj : i.toNatClampNeg = j) (hd : decode code pc = .ok (.iaload, 1)) (g : LG X k n sh M (pc + 1) ls (.int (xs j) :: st)) : LG X k n sh M pc ls (.int i :: .ref 2000 :: st) := by
  intro H locs cells slots ad larr h2 hSt hW hS hl hk hn
  show W _ _ _ _ _ _ _ _ _ _ _ _ _ _ _ (F0 X.m pc larr (.int i :: .ref (ad 2000) :: st.map (cV ad)))
  rw [h2]
  refine va_sld C.1.1 C.1.2.1 C.1.2.2.2.2.2.2.1 C.1.2.2.2.2.2.2.2.1 (L_nA C) hS hin hd ?_
  rw [hj]
  exact g H locs cells slots ad larr h2 hSt hW hS hl hk hn
theorem L_slen (C : X.ok L xs) (hd : decode code pc = .ok (.arraylength, 1)) (g : LG X k n sh M (pc + 1) ls (.int (nI L) :: st)) : LG X k n sh M pc ls (.ref 2000 :: st) := by
  intro H locs cells slots ad larr h2 hSt hW hS hl hk hn
  show W _ _ _ _ _ _ _ _ _ _ _ _ _ _ _ (F0 X.m pc larr (.ref (ad 2000) :: st.map (cV ad)))
  rw [h2]
  exact va_slen C.1.1 C.1.2.1 C.1.2.2.2.2.2.2.1 C.1.2.2.2.2.2.2.2.1 (L_nA C) hS hd (g H locs cells slots ad larr h2 hSt hW hS hl hk hn)
theorem L_end (C : X.ok L xs) (hd : decode code pc = .ok (.iconst 1, 1)) (hd2 : decode code (pc + 1) = .ok (.ireturn, 1)) : LG X 0 0 sh M pc ls [] := by
  intro H locs cells slots ad larr h2 hSt hW hS hl hk hn
  refine lv_iconst (n := 1) C.1.1 C.1.2.1 hd rfl ?_
  refine va_forget (fun q hq => hS.2.2 q hq) ?_
  refine W.widen (k := 600000) (n := 7302250) hk hn ?_
  exact lw_ret C.1.1 C.1.2.1 C.1.2.2.1 C.1.2.2.2.2.2.2.2.2.1 hd2
theorem L_less {k' n' : Nat} (hk : k ≤ k') (hn : n ≤ n') (g : LG X k n sh M pc ls st) : LG X k' n' sh M pc ls st := fun H locs cells slots ad larr h2 hSt hW hS hl h3 h4 => g H locs cells slots ad larr h2 hSt hW hS hl (by omega) (by omega)
/-- the memory, equal where something lies -/
theorem L_MEq {m m' : MI} {R : RR} (h : MEq sh m m') (g : LG X k n sh (mk m' R) pc ls st) : LG X k n sh (mk m R) pc ls st := fun H locs cells slots ad larr h2 hSt hW hS hl hk hn => g H locs cells slots ad larr h2 hSt (Wd_ext h.1 h.2 hW) hS hl hk hn
theorem L_call (C : X.ok L xs) {m m' : MI} {R R' : RR} {Y2 : YD} {ci np rk nn idx : Nat} {av rest : List Value} {v : Value} {sh' : Sh} (hd : decode code pc = .ok (.invokevirtual idx, 3)) (hlink : Cond.methodLink R_law idx Y2.1 ∈ tW) (hM : CMo Y2 ci np) (hK : CallOK Y2 sh R m (.ref rk :: av) v sh' R' m') (hs : sh[rk]? = some (10 + ci, nn)) (hav : av.length = np) (hst : st = av.reverse ++ .ref rk :: rest) (hcat : (rest.map fun v => v.category).sum ≤ 8)
    (hls : ∀ q ∈ ls, okv sh.length q.2) (hrs : ∀ v ∈ rest, okv sh.length v) (g : LG X k n sh' (mk m' R') (pc + 3) ls (v :: rest)) : LG X (k + 2) (n + 103) sh (mk m R) pc ls st := by
  obtain ⟨b2, d2, k2, n2, hd2, hk2, hn2, hK⟩ := hK
  obtain ⟨q, hc, hq, hinst, hsel, hini, hcode, hx, hml⟩ := hM
  intro H locs cells slots ad larr h2 hSt hW hS hl hk hn
  have hC := X.cx C hSt
  have hF := Wd_free hW hC.2.2.2.2.2.2.2.2.2.2 hS
  have hT := hC.2.2.2.2.1
  have hcw : CallW room_1 X.s #[Value.ref X.b] R_law q.1 idx Y2.1 Y2.2.1 Y2.2.2.1 Y2.2.2.2 (.code Y2.1 Y2.2.1 Y2.2.2.1 Y2.2.2.2 :: tW) (rmK d2 k2 n2) k2 n2 np :=
    cwV np hT (good_cons hlink (good_cons hinst (good_cons hsel (good_cons hini (good_cons hcode tW_good))))) rfl rfl rfl ⟨hq, hx⟩ ⟨by show d2 + 1 ≤ 2048; omega, by show 8 + (Y2.2.2.1 + 11) + 64 * d2 ≤ 84000; omega⟩
  have he : (cW X.E.2 ad sh (mk m R))[rk]? = some (ad rk, .inr (ci, cF ad (mk m R) rk ci)) := by rw [cW_get hs, cE_obj]
  refine va_callQ (va_runV (As := av.map (cV ad)) (b := ad rk) (rest := rest.map (cV ad)) ⟨hC.1, hC.2.1, hC.2.2.1, hC.2.2.2.1, hT⟩ (hK X.l X.E ad H.size) hcw ⟨pc_blind, va_recv hC.2.2.2.2.2.2.2.2.1 hW.1 hc he, pc_here (av := .ref rk :: av) hC hW hS⟩ rfl (by rw [List.length_map]; exact hav) hl.1
    (by show st.map (cV ad) = _; rw [hst, List.map_append, List.map_reverse]; rfl) (by show 2 * 0 + _ ≤ 8; rw [List.map_map]; simpa [Function.comp_def, cV_cat] using hcat) hd ⟨by show cells + k2 ≤ 600000; omega, by show slots + n2 ≤ 7302250; omega⟩) hS (fun q _ h => hF q h) hF ?_
  intro v1 sh1 M1 ad' H1 locs1 hq1 hag hn1 hW1 hS1
  simp only [Prod.mk.injEq] at hq1
  obtain ⟨rfl, rfl, rfl⟩ := hq1
  have e1 : ((some v).map (cV ad')).toList ++ rest.map (cV ad) = (v :: rest).map (cV ad') := by
    rw [List.map_cons, map_okv hag (l := rest) (Or.inr hrs)]
    rfl
  rw [e1]
  exact g H1 locs1 _ _ ad' larr (by rw [hag.hi 2000 (by omega)]; exact h2) (St_ad hSt hag.hi) ⟨hW1.1, hW1.2.weaken (fun _ _ _ h => hF _ h)⟩ hS1 (by rw [mapL_okv hag (Or.inr hls)]; exact hl) (by omega) (by omega)
end LGs
