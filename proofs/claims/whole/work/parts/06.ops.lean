/-! THE RULES: S em .. f: from this frame the method answers what f says (em says how) -/
abbrev MI : Type := (Nat → Nat → Int32) × (Nat → Nat → Int64)
abbrev RR : Type := Nat → Nat → Option Nat
abbrev mk (m : MI) (R : RR) : MM := (m.1, m.2, R)
def mI (m : MI) (k : Nat) (g : Nat → Int32) : MI := (ur m.1 k g, m.2)
def mJ (m : MI) (k : Nat) (g : Nat → Int64) : MI := (m.1, ur m.2 k g)
abbrev EM (ρ : Type) : Type := ρ → Option Value × Sh × MM
def eI (sh : Sh) (R : RR) : EM (Int32 × MI) := fun r => (some (.int r.1), sh, mk r.2 R)
def eL (sh : Sh) (R : RR) : EM (Int64 × MI) := fun r => (some (.long r.1), sh, mk r.2 R)
def eV (sh : Sh) (R : RR) : EM MI := fun r => (none, sh, mk r R)
def eQ (sh : Sh) (R : RR) : EM (Option Nat × MI) := fun r => (some (va_rf r.1), sh, mk r.2 R)
def S {ρ : Type} (em : EM ρ) (b : Bool) (d k n : Nat) (Y : YD) (sh : Sh) (R : RR) (m : MI) (pc : Nat) (ls : List (Nat × Value)) (st : List Value) (f : Option ρ) : Prop :=
  ∀ r, f = some r → G b d k n Y sh (mk m R) pc ls st (fun v sh' M' => (v, sh', M') = em r)
def KS {ρ : Type} (em : EM ρ) (b : Bool) (d k n : Nat) (Y : YD) (sh : Sh) (R : RR) (m : MI) (av : List Value) (f : Option ρ) : Prop :=
  ∀ r, f = some r → K b d k n Y sh (mk m R) av (fun v sh' M' => (v, sh', M') = em r)
def stl (ls : List (Nat × Value)) (j : Nat) (v : Value) : List (Nat × Value) := (j, v) :: ls.filter (fun q => !(q.1 == j) && !(q.1 + 1 == j && q.2.category == 2))
def stl2 (ls : List (Nat × Value)) (j : Nat) (v : Value) : List (Nat × Value) := (j, v) :: ls.filter (fun q => !(q.1 == j) && (!(q.1 == j + 1) && !(q.1 + 1 == j && q.2.category == 2)))
theorem stl_map {ad : Nat → Nat} {ls : List (Nat × Value)} {j : Nat} {v : Value} : (j, cV ad v) :: (ls.map (cL ad)).filter (fun q => !(q.1 == j) && !(q.1 + 1 == j && q.2.category == 2)) = (stl ls j v).map (cL ad) := by
  simp only [stl, List.map_cons, List.filter_map, Function.comp_def, cV_cat]
theorem stl2_map {ad : Nat → Nat} {ls : List (Nat × Value)} {j : Nat} {v : Value} : (j, cV ad v) :: (ls.map (cL ad)).filter (fun q => !(q.1 == j) && (!(q.1 == j + 1) && !(q.1 + 1 == j && q.2.category == 2))) = (stl2 ls j v).map (cL ad) := by
  simp only [stl2, List.map_cons, List.filter_map, Function.comp_def, cV_cat]
theorem lkl {ad : Nat → Nat} {larr : Array Slot} {nL : Nat} {ls : List (Nat × Value)} (hl : lv_has larr nL (ls.map (cL ad))) {i j : Nat} {v : Value} (h : ls[i]? = some (j, v)) : larr[j]? = some (.val (cV ad v)) := lv_at hl i (by rw [List.getElem?_map, h]; rfl)
section SS
variable {ρ : Type} {em : EM ρ} {b : Bool} {d k n : Nat} {Y : YD} {sh : Sh} {R : RR} {m : MI} {pc : Nat} {ls : List (Nat × Value)} {st : List Value} {f : Option ρ}
theorem S_none : S em b d k n Y sh R m pc ls st none := fun _ h => by cases h
theorem S_pure {pc' : Nat} {ls' : List (Nat × Value)} {st' : List Value}
    (h : ∀ {p : Program} {l : Launch} {e : Env} {R : Room} {s : State} {m : MethodId} {args : Array Value} {below : List Frame} {meth : Method} {c : Code} {H : Heap} {locs : List Loc} {cells slots : Nat} {Q' : State → Prop} {larr : Array Slot} {E : EV} {ad : Nat → Nat} {A : Nat → Prop},
      Cx Y E ad A p s m args meth c → lv_has larr Y.2.2.1 (ls.map (cL ad)) → (∀ larr' : Array Slot, lv_has larr' Y.2.2.1 (ls'.map (cL ad)) → W p l e R s m args below meth c H locs cells slots Q' (F0 m pc' larr' (st'.map (cV ad)))) → W p l e R s m args below meth c H locs cells slots Q' (F0 m pc larr (st.map (cV ad))))
    (g : S em b d k n Y sh R m pc' ls' st' f) : S em b d k n Y sh R m pc ls st f := fun r hr => G_pure h (g r hr)
theorem S_ck {c : Prop} [Decidable c] (g : c → S em b d k n Y sh R m pc ls st f) : S em b d k n Y sh R m pc ls st (if c then f else none) := by
  by_cases h : c
  · rw [if_pos h]; exact g h
  · rw [if_neg h]; exact S_none
theorem S_ckI {c : Prop} {i : Decidable c} (g : c → S em b d k n Y sh R m pc ls st f) : S em b d k n Y sh R m pc ls st (@ite _ c i f none) := by
  by_cases h : c
  · rw [if_pos h]; exact g h
  · rw [if_neg h]; exact S_none

theorem o_iconst {v : Int} {x : Int32} (hd : decode Y.2.1 pc = .ok (.iconst v, 1)) (hx : Int32.ofInt v = x) (g : S em b d k n Y sh R m (pc + 1) ls (.int x :: st) f) : S em b d k n Y sh R m pc ls (st) f :=
  S_pure (fun hC hl kk => lv_iconst hC.1 hC.2.1 hd hx (kk _ hl)) g
theorem o_bipush {v : Int} {x : Int32} (hd : decode Y.2.1 pc = .ok (.bipush v, 2)) (hx : (Int8.ofInt v).toInt32 = x) (g : S em b d k n Y sh R m (pc + 2) ls (.int x :: st) f) : S em b d k n Y sh R m pc ls (st) f :=
  S_pure (fun hC hl kk => lv_bipush hC.1 hC.2.1 hd hx (kk _ hl)) g
theorem o_sipush {v : Int} {x : Int32} (hd : decode Y.2.1 pc = .ok (.sipush v, 3)) (hx : (Int16.ofInt v).toInt32 = x) (g : S em b d k n Y sh R m (pc + 3) ls (.int x :: st) f) : S em b d k n Y sh R m pc ls (st) f :=
  S_pure (fun hC hl kk => lv_sipush hC.1 hC.2.1 hd hx (kk _ hl)) g
theorem o_lconst {v : Fin 2} {x : Int64} (hd : decode Y.2.1 pc = .ok (.lconst v, 1)) (hx : Int64.ofNat (v : Nat) = x) (g : S em b d k n Y sh R m (pc + 1) ls (.long x :: st) f) : S em b d k n Y sh R m pc ls (st) f :=
  S_pure (fun hC hl kk => lv_lconst hC.1 hC.2.1 hd hx (kk _ hl)) g
theorem o_null  (hd : decode Y.2.1 pc = .ok (.aconst_null, 1)) (g : S em b d k n Y sh R m (pc + 1) ls (.null :: st) f) : S em b d k n Y sh R m pc ls (st) f :=
  S_pure (fun hC hl kk => lv_null hC.1 hC.2.1 hd (kk _ hl)) g
theorem o_ldc {ix : Nat} {x : Int32} (hd : decode Y.2.1 pc = .ok (.ldc ix, 2)) (hw : Cond.constant Y.1.cls ix x ∈ tW) (g : S em b d k n Y sh R m (pc + 2) ls (.int x :: st) f) : S em b d k n Y sh R m pc ls (st) f :=
  S_pure (fun hC hl kk => lv_ldc hC.1 hC.2.1 hC.2.2.2.1 (hC.2.2.2.2.1 _ hw) hd (kk _ hl)) g
theorem o_ldcw {ix : Nat} {x : Int32} (hd : decode Y.2.1 pc = .ok (.ldc_w ix, 3)) (hw : Cond.constant Y.1.cls ix x ∈ tW) (g : S em b d k n Y sh R m (pc + 3) ls (.int x :: st) f) : S em b d k n Y sh R m pc ls (st) f :=
  S_pure (fun hC hl kk => lv_ldcw hC.1 hC.2.1 hC.2.2.2.1 (hC.2.2.2.2.1 _ hw) hd (kk _ hl)) g
theorem o_ldc2 {ix : Nat} {x : Int64} (hd : decode Y.2.1 pc = .ok (.ldc2_w ix, 3)) (hw : Cond.constantLong Y.1.cls ix x ∈ tW) (g : S em b d k n Y sh R m (pc + 3) ls (.long x :: st) f) : S em b d k n Y sh R m pc ls (st) f :=
  S_pure (fun hC hl kk => lv_ldc2 hC.1 hC.2.1 hC.2.2.2.1 (hC.2.2.2.2.1 _ hw) hd (kk _ hl)) g
theorem o_iload_n {q : Fin 4} {x : Int32} {j : Nat} (i : Nat) (hd : decode Y.2.1 pc = .ok (.iload_n q, 1)) (hq : (q : Nat) = j) (hi : ls[i]? = some (j, .int x)) (g : S em b d k n Y sh R m (pc + 1) ls (.int x :: st) f) : S em b d k n Y sh R m pc ls (st) f :=
  S_pure (fun hC hl kk => lv_iload_n hC.1 hC.2.1 hd hq (lkl hl hi) (kk _ hl)) g
theorem o_iload {x : Int32} {j : Nat} (i : Nat) (hd : decode Y.2.1 pc = .ok (.iload j, 2)) (hi : ls[i]? = some (j, .int x)) (g : S em b d k n Y sh R m (pc + 2) ls (.int x :: st) f) : S em b d k n Y sh R m pc ls (st) f :=
  S_pure (fun hC hl kk => lv_iload hC.1 hC.2.1 hd (lkl hl hi) (kk _ hl)) g
theorem o_lload_n {q : Fin 4} {x : Int64} {j : Nat} (i : Nat) (hd : decode Y.2.1 pc = .ok (.lload_n q, 1)) (hq : (q : Nat) = j) (hi : ls[i]? = some (j, .long x)) (g : S em b d k n Y sh R m (pc + 1) ls (.long x :: st) f) : S em b d k n Y sh R m pc ls (st) f :=
  S_pure (fun hC hl kk => lv_lload_n hC.1 hC.2.1 hd hq (lkl hl hi) (kk _ hl)) g
theorem o_lload {x : Int64} {j : Nat} (i : Nat) (hd : decode Y.2.1 pc = .ok (.lload j, 2)) (hi : ls[i]? = some (j, .long x)) (g : S em b d k n Y sh R m (pc + 2) ls (.long x :: st) f) : S em b d k n Y sh R m pc ls (st) f :=
  S_pure (fun hC hl kk => lv_lload hC.1 hC.2.1 hd (lkl hl hi) (kk _ hl)) g
theorem o_aload_n {q : Fin 4} {x j : Nat} (i : Nat) (hd : decode Y.2.1 pc = .ok (.aload_n q, 1)) (hq : (q : Nat) = j) (hi : ls[i]? = some (j, .ref x)) (g : S em b d k n Y sh R m (pc + 1) ls (.ref x :: st) f) : S em b d k n Y sh R m pc ls (st) f :=
  S_pure (fun hC hl kk => lv_aload_n hC.1 hC.2.1 hd hq (lkl hl hi) (kk _ hl)) g
theorem o_aload {x j : Nat} (i : Nat) (hd : decode Y.2.1 pc = .ok (.aload j, 2)) (hi : ls[i]? = some (j, .ref x)) (g : S em b d k n Y sh R m (pc + 2) ls (.ref x :: st) f) : S em b d k n Y sh R m pc ls (st) f :=
  S_pure (fun hC hl kk => lv_aload hC.1 hC.2.1 hd (lkl hl hi) (kk _ hl)) g
theorem o_aload_nN {q : Fin 4} {j : Nat} (i : Nat) (hd : decode Y.2.1 pc = .ok (.aload_n q, 1)) (hq : (q : Nat) = j) (hi : ls[i]? = some (j, .null)) (g : S em b d k n Y sh R m (pc + 1) ls (.null :: st) f) : S em b d k n Y sh R m pc ls (st) f :=
  S_pure (fun hC hl kk => lv_aload_nN hC.1 hC.2.1 hd hq (lkl hl hi) (kk _ hl)) g
theorem o_aloadN {j : Nat} (i : Nat) (hd : decode Y.2.1 pc = .ok (.aload j, 2)) (hi : ls[i]? = some (j, .null)) (g : S em b d k n Y sh R m (pc + 2) ls (.null :: st) f) : S em b d k n Y sh R m pc ls (st) f :=
  S_pure (fun hC hl kk => lv_aloadN hC.1 hC.2.1 hd (lkl hl hi) (kk _ hl)) g
theorem o_istore_n {q : Fin 4} {x : Int32} {j : Nat} {ls' : List (Nat × Value)} (hd : decode Y.2.1 pc = .ok (.istore_n q, 1)) (hq : (q : Nat) = j) (hj : j < Y.2.2.1) (hls : stl ls j (.int x) = ls') (g : S em b d k n Y sh R m (pc + 1) ls' (st) f) : S em b d k n Y sh R m pc ls (.int x :: st) f :=
  S_pure (fun hC hl kk => lv_istore_n hC.1 hC.2.1 hd hq hl hj (stl_map (v := .int x)) (fun a h => kk a (hls ▸ h))) g
theorem o_istore {x : Int32} {j : Nat} {ls' : List (Nat × Value)} (hd : decode Y.2.1 pc = .ok (.istore j, 2)) (hj : j < Y.2.2.1) (hls : stl ls j (.int x) = ls') (g : S em b d k n Y sh R m (pc + 2) ls' (st) f) : S em b d k n Y sh R m pc ls (.int x :: st) f :=
  S_pure (fun hC hl kk => lv_istore hC.1 hC.2.1 hd hl hj (stl_map (v := .int x)) (fun a h => kk a (hls ▸ h))) g
theorem o_astore_n {q : Fin 4} {x : Nat} {j : Nat} {ls' : List (Nat × Value)} (hd : decode Y.2.1 pc = .ok (.astore_n q, 1)) (hq : (q : Nat) = j) (hj : j < Y.2.2.1) (hls : stl ls j (.ref x) = ls') (g : S em b d k n Y sh R m (pc + 1) ls' (st) f) : S em b d k n Y sh R m pc ls (.ref x :: st) f :=
  S_pure (fun hC hl kk => lv_astore_n hC.1 hC.2.1 hd hq hl hj (stl_map (v := .ref x)) (fun a h => kk a (hls ▸ h))) g
theorem o_astore {x : Nat} {j : Nat} {ls' : List (Nat × Value)} (hd : decode Y.2.1 pc = .ok (.astore j, 2)) (hj : j < Y.2.2.1) (hls : stl ls j (.ref x) = ls') (g : S em b d k n Y sh R m (pc + 2) ls' (st) f) : S em b d k n Y sh R m pc ls (.ref x :: st) f :=
  S_pure (fun hC hl kk => lv_astore hC.1 hC.2.1 hd hl hj (stl_map (v := .ref x)) (fun a h => kk a (hls ▸ h))) g
theorem o_astore_nN {q : Fin 4} {j : Nat} {ls' : List (Nat × Value)} (hd : decode Y.2.1 pc = .ok (.astore_n q, 1)) (hq : (q : Nat) = j) (hj : j < Y.2.2.1) (hls : stl ls j .null = ls') (g : S em b d k n Y sh R m (pc + 1) ls' (st) f) : S em b d k n Y sh R m pc ls (.null :: st) f :=
  S_pure (fun hC hl kk => lv_astore_nN hC.1 hC.2.1 hd hq hl hj (stl_map (v := .null)) (fun a h => kk a (hls ▸ h))) g
theorem o_astoreN {j : Nat} {ls' : List (Nat × Value)} (hd : decode Y.2.1 pc = .ok (.astore j, 2)) (hj : j < Y.2.2.1) (hls : stl ls j .null = ls') (g : S em b d k n Y sh R m (pc + 2) ls' (st) f) : S em b d k n Y sh R m pc ls (.null :: st) f :=
  S_pure (fun hC hl kk => lv_astoreN hC.1 hC.2.1 hd hl hj (stl_map (v := .null)) (fun a h => kk a (hls ▸ h))) g
theorem o_lstore_n {q : Fin 4} {x : Int64} {j : Nat} {ls' : List (Nat × Value)} (hd : decode Y.2.1 pc = .ok (.lstore_n q, 1)) (hq : (q : Nat) = j) (hj : j + 1 < Y.2.2.1) (hls : stl2 ls j (.long x) = ls') (g : S em b d k n Y sh R m (pc + 1) ls' (st) f) : S em b d k n Y sh R m pc ls (.long x :: st) f :=
  S_pure (fun hC hl kk => lv_lstore_n hC.1 hC.2.1 hd hq hl hj (stl2_map (v := .long x)) (fun a h => kk a (hls ▸ h))) g
theorem o_lstore {x : Int64} {j : Nat} {ls' : List (Nat × Value)} (hd : decode Y.2.1 pc = .ok (.lstore j, 2)) (hj : j + 1 < Y.2.2.1) (hls : stl2 ls j (.long x) = ls') (g : S em b d k n Y sh R m (pc + 2) ls' (st) f) : S em b d k n Y sh R m pc ls (.long x :: st) f :=
  S_pure (fun hC hl kk => lv_lstore hC.1 hC.2.1 hd hl hj (stl2_map (v := .long x)) (fun a h => kk a (hls ▸ h))) g
theorem o_iinc {c : Int} {x v : Int32} {j : Nat} (i : Nat) {ls' : List (Nat × Value)} (hd : decode Y.2.1 pc = .ok (.iinc j c, 3)) (hi : ls[i]? = some (j, .int x)) (hv : x + Int32.ofInt c = v) (hj : j < Y.2.2.1) (hls : stl ls j (.int v) = ls') (g : S em b d k n Y sh R m (pc + 3) ls' (st) f) : S em b d k n Y sh R m pc ls (st) f :=
  S_pure (fun hC hl kk => lv_iinc (k := i) hC.1 hC.2.1 hd hl (by rw [List.getElem?_map, hi]; rfl) hv hj (stl_map (v := .int v)) (fun a h => kk a (hls ▸ h))) g
theorem o_iadd {x y : Int32} (hd : decode Y.2.1 pc = .ok (.iadd, 1)) (g : S em b d k n Y sh R m (pc + 1) ls (.int (x + y) :: st) f) : S em b d k n Y sh R m pc ls (.int y :: .int x :: st) f :=
  S_pure (fun hC hl kk => lv_iadd hC.1 hC.2.1 hd (kk _ hl)) g
theorem o_isub {x y : Int32} (hd : decode Y.2.1 pc = .ok (.isub, 1)) (g : S em b d k n Y sh R m (pc + 1) ls (.int (x - y) :: st) f) : S em b d k n Y sh R m pc ls (.int y :: .int x :: st) f :=
  S_pure (fun hC hl kk => lv_isub hC.1 hC.2.1 hd (kk _ hl)) g
theorem o_imul {x y : Int32} (hd : decode Y.2.1 pc = .ok (.imul, 1)) (g : S em b d k n Y sh R m (pc + 1) ls (.int (x * y) :: st) f) : S em b d k n Y sh R m pc ls (.int y :: .int x :: st) f :=
  S_pure (fun hC hl kk => lv_imul hC.1 hC.2.1 hd (kk _ hl)) g
theorem o_iand {x y : Int32} (hd : decode Y.2.1 pc = .ok (.iand, 1)) (g : S em b d k n Y sh R m (pc + 1) ls (.int (x &&& y) :: st) f) : S em b d k n Y sh R m pc ls (.int y :: .int x :: st) f :=
  S_pure (fun hC hl kk => lv_iand hC.1 hC.2.1 hd (kk _ hl)) g
theorem o_ior {x y : Int32} (hd : decode Y.2.1 pc = .ok (.ior, 1)) (g : S em b d k n Y sh R m (pc + 1) ls (.int (x ||| y) :: st) f) : S em b d k n Y sh R m pc ls (.int y :: .int x :: st) f :=
  S_pure (fun hC hl kk => lv_ior hC.1 hC.2.1 hd (kk _ hl)) g
theorem o_ixor {x y : Int32} (hd : decode Y.2.1 pc = .ok (.ixor, 1)) (g : S em b d k n Y sh R m (pc + 1) ls (.int (x ^^^ y) :: st) f) : S em b d k n Y sh R m pc ls (.int y :: .int x :: st) f :=
  S_pure (fun hC hl kk => lv_ixor hC.1 hC.2.1 hd (kk _ hl)) g
theorem o_ishl {x y : Int32} (hd : decode Y.2.1 pc = .ok (.ishl, 1)) (g : S em b d k n Y sh R m (pc + 1) ls (.int (x <<< (y &&& 31)) :: st) f) : S em b d k n Y sh R m pc ls (.int y :: .int x :: st) f :=
  S_pure (fun hC hl kk => lv_ishl hC.1 hC.2.1 hd (kk _ hl)) g
theorem o_ishr {x y : Int32} (hd : decode Y.2.1 pc = .ok (.ishr, 1)) (g : S em b d k n Y sh R m (pc + 1) ls (.int (x >>> (y &&& 31)) :: st) f) : S em b d k n Y sh R m pc ls (.int y :: .int x :: st) f :=
  S_pure (fun hC hl kk => lv_ishr hC.1 hC.2.1 hd (kk _ hl)) g
theorem o_idiv {x y : Int32} (hd : decode Y.2.1 pc = .ok (.idiv, 1)) (hne : ¬ y = 0) (g : S em b d k n Y sh R m (pc + 1) ls (.int (x / y) :: st) f) : S em b d k n Y sh R m pc ls (.int y :: .int x :: st) f :=
  S_pure (fun hC hl kk => lv_idiv hC.1 hC.2.1 hd hne (kk _ hl)) g
theorem o_irem {x y : Int32} (hd : decode Y.2.1 pc = .ok (.irem, 1)) (hne : ¬ y = 0) (g : S em b d k n Y sh R m (pc + 1) ls (.int (x - x / y * y) :: st) f) : S em b d k n Y sh R m pc ls (.int y :: .int x :: st) f :=
  S_pure (fun hC hl kk => lv_irem hC.1 hC.2.1 hd hne (kk _ hl)) g
theorem o_ineg {x : Int32} (hd : decode Y.2.1 pc = .ok (.ineg, 1)) (g : S em b d k n Y sh R m (pc + 1) ls (.int (-x) :: st) f) : S em b d k n Y sh R m pc ls (.int x :: st) f :=
  S_pure (fun hC hl kk => lv_ineg hC.1 hC.2.1 hd (kk _ hl)) g
theorem o_ladd {x y : Int64} (hd : decode Y.2.1 pc = .ok (.ladd, 1)) (g : S em b d k n Y sh R m (pc + 1) ls (.long (x + y) :: st) f) : S em b d k n Y sh R m pc ls (.long y :: .long x :: st) f :=
  S_pure (fun hC hl kk => lv_ladd hC.1 hC.2.1 hd (kk _ hl)) g
theorem o_lsub {x y : Int64} (hd : decode Y.2.1 pc = .ok (.lsub, 1)) (g : S em b d k n Y sh R m (pc + 1) ls (.long (x - y) :: st) f) : S em b d k n Y sh R m pc ls (.long y :: .long x :: st) f :=
  S_pure (fun hC hl kk => lv_lsub hC.1 hC.2.1 hd (kk _ hl)) g
theorem o_lmul {x y : Int64} (hd : decode Y.2.1 pc = .ok (.lmul, 1)) (g : S em b d k n Y sh R m (pc + 1) ls (.long (x * y) :: st) f) : S em b d k n Y sh R m pc ls (.long y :: .long x :: st) f :=
  S_pure (fun hC hl kk => lv_lmul hC.1 hC.2.1 hd (kk _ hl)) g
theorem o_land {x y : Int64} (hd : decode Y.2.1 pc = .ok (.land, 1)) (g : S em b d k n Y sh R m (pc + 1) ls (.long (x &&& y) :: st) f) : S em b d k n Y sh R m pc ls (.long y :: .long x :: st) f :=
  S_pure (fun hC hl kk => lv_land hC.1 hC.2.1 hd (kk _ hl)) g
theorem o_lor {x y : Int64} (hd : decode Y.2.1 pc = .ok (.lor, 1)) (g : S em b d k n Y sh R m (pc + 1) ls (.long (x ||| y) :: st) f) : S em b d k n Y sh R m pc ls (.long y :: .long x :: st) f :=
  S_pure (fun hC hl kk => lv_lor hC.1 hC.2.1 hd (kk _ hl)) g
theorem o_ldiv {x y : Int64} (hd : decode Y.2.1 pc = .ok (.ldiv, 1)) (hne : ¬ y = 0) (g : S em b d k n Y sh R m (pc + 1) ls (.long (x / y) :: st) f) : S em b d k n Y sh R m pc ls (.long y :: .long x :: st) f :=
  S_pure (fun hC hl kk => lv_ldiv hC.1 hC.2.1 hd hne (kk _ hl)) g
theorem o_lrem {x y : Int64} (hd : decode Y.2.1 pc = .ok (.lrem, 1)) (hne : ¬ y = 0) (g : S em b d k n Y sh R m (pc + 1) ls (.long (x - x / y * y) :: st) f) : S em b d k n Y sh R m pc ls (.long y :: .long x :: st) f :=
  S_pure (fun hC hl kk => lv_lrem hC.1 hC.2.1 hd hne (kk _ hl)) g
theorem o_lcmp {x y : Int64} (hd : decode Y.2.1 pc = .ok (.lcmp, 1)) (g : S em b d k n Y sh R m (pc + 1) ls (.int (lg_cmp x y) :: st) f) : S em b d k n Y sh R m pc ls (.long y :: .long x :: st) f :=
  S_pure (fun hC hl kk => W.lcmp hC.1 hC.2.1 hd (kk _ hl)) g
theorem o_lshl {x : Int64} {y : Int32} (hd : decode Y.2.1 pc = .ok (.lshl, 1)) (g : S em b d k n Y sh R m (pc + 1) ls (.long (x <<< (y.toInt64 &&& 63)) :: st) f) : S em b d k n Y sh R m pc ls (.int y :: .long x :: st) f :=
  S_pure (fun hC hl kk => lv_lshl hC.1 hC.2.1 hd rfl (kk _ hl)) g
theorem o_i2l {x : Int32} (hd : decode Y.2.1 pc = .ok (.i2l, 1)) (g : S em b d k n Y sh R m (pc + 1) ls (.long x.toInt64 :: st) f) : S em b d k n Y sh R m pc ls (.int x :: st) f :=
  S_pure (fun hC hl kk => lv_i2l hC.1 hC.2.1 hd rfl (kk _ hl)) g
theorem o_l2i {x : Int64} (hd : decode Y.2.1 pc = .ok (.l2i, 1)) (g : S em b d k n Y sh R m (pc + 1) ls (.int x.toInt32 :: st) f) : S em b d k n Y sh R m pc ls (.long x :: st) f :=
  S_pure (fun hC hl kk => lv_l2i hC.1 hC.2.1 hd rfl (kk _ hl)) g
theorem o_i2b {x : Int32} (hd : decode Y.2.1 pc = .ok (.i2b, 1)) (g : S em b d k n Y sh R m (pc + 1) ls (.int x.toInt8.toInt32 :: st) f) : S em b d k n Y sh R m pc ls (.int x :: st) f :=
  S_pure (fun hC hl kk => lv_i2b hC.1 hC.2.1 hd rfl (kk _ hl)) g
theorem o_i2s {x : Int32} (hd : decode Y.2.1 pc = .ok (.i2s, 1)) (g : S em b d k n Y sh R m (pc + 1) ls (.int x.toInt16.toInt32 :: st) f) : S em b d k n Y sh R m pc ls (.int x :: st) f :=
  S_pure (fun hC hl kk => lv_i2s hC.1 hC.2.1 hd rfl (kk _ hl)) g
theorem o_i2c {x : Int32} (hd : decode Y.2.1 pc = .ok (.i2c, 1)) (g : S em b d k n Y sh R m (pc + 1) ls (.int (x.toUInt32 % 65536).toInt32 :: st) f) : S em b d k n Y sh R m pc ls (.int x :: st) f :=
  S_pure (fun hC hl kk => lv_i2c hC.1 hC.2.1 hd rfl (kk _ hl)) g
theorem o_dup {v : Value} (hd : decode Y.2.1 pc = .ok (.dup, 1)) (hv : v.category = 1) (g : S em b d k n Y sh R m (pc + 1) ls (v :: v :: st) f) : S em b d k n Y sh R m pc ls (v :: st) f :=
  S_pure (fun hC hl kk => lv_dup hC.1 hC.2.1 hd (cV_cat.trans hv) (kk _ hl)) g
theorem o_dup2 {v u : Value} (hd : decode Y.2.1 pc = .ok (.dup2, 1)) (hv : v.category = 1) (hu : u.category = 1) (g : S em b d k n Y sh R m (pc + 1) ls (v :: u :: v :: u :: st) f) : S em b d k n Y sh R m pc ls (v :: u :: st) f :=
  S_pure (fun hC hl kk => lv_dup2_11 hC.1 hC.2.1 hd (cV_cat.trans hv) (cV_cat.trans hu) (kk _ hl)) g
theorem o_dup2L {v : Value} (hd : decode Y.2.1 pc = .ok (.dup2, 1)) (hv : v.category = 2) (g : S em b d k n Y sh R m (pc + 1) ls (v :: v :: st) f) : S em b d k n Y sh R m pc ls (v :: st) f :=
  S_pure (fun hC hl kk => lv_dup2_2 hC.1 hC.2.1 hd (cV_cat.trans hv) (kk _ hl)) g
theorem o_pop {v : Value} (hd : decode Y.2.1 pc = .ok (.pop, 1)) (hv : v.category = 1) (g : S em b d k n Y sh R m (pc + 1) ls (st) f) : S em b d k n Y sh R m pc ls (v :: st) f :=
  S_pure (fun hC hl kk => lv_pop hC.1 hC.2.1 hd (cV_cat.trans hv) (kk _ hl)) g
theorem o_goto {off : Int} {tgt : Nat} (hd : decode Y.2.1 pc = .ok (.goto off, 3)) (ht : (pc : Int) + off = (tgt : Int)) (g : S em b d k n Y sh R m tgt ls st f) : S em b d k n Y sh R m pc ls st f :=
  S_pure (fun hC hl kk => lv_goto hC.1 hC.2.1 hd ht (kk _ hl)) g
theorem o_if_eq {x : Int32} {off : Int} {tgt : Nat} {f1 f2 : Option ρ} {di : Decidable (x = 0)} (hd : decode Y.2.1 pc = .ok (.ifCond .eq off, 3)) (ht : (pc : Int) + off = (tgt : Int)) (g1 : x = 0 → S em b d k n Y sh R m (tgt) ls st f1) (g2 : ¬ (x = 0) → S em b d k n Y sh R m (pc + 3) ls st f2) : S em b d k n Y sh R m pc ls (.int x :: st) (@ite _ (x = 0) di f1 f2) := by
  intro r hr
  refine G_two (P := x = 0) (st' := st) (pc1 := tgt) (pc2 := pc + 3) (fun hC a c => lv_if_eq hC.1 hC.2.1 hd ht (fun q => a q) (fun q => c q)) (fun q => g1 q r ?_) (fun q => g2 q r ?_)
  · rw [if_pos q] at hr; exact hr
  · rw [if_neg q] at hr; exact hr
theorem o_if_eq_t {x : Int32} {off : Int} {tgt : Nat} (hd : decode Y.2.1 pc = .ok (.ifCond .eq off, 3)) (ht : (pc : Int) + off = (tgt : Int)) (hc : x = 0) (g : S em b d k n Y sh R m tgt ls st f) : S em b d k n Y sh R m pc ls (.int x :: st) f :=
  S_pure (fun hC hl kk => lv_if_eq hC.1 hC.2.1 hd ht (fun _ => kk _ hl) (fun q => absurd hc q)) g
theorem o_if_eq_f {x : Int32} {off : Int} {tgt : Nat} (hd : decode Y.2.1 pc = .ok (.ifCond .eq off, 3)) (ht : (pc : Int) + off = (tgt : Int)) (hc : ¬ (x = 0)) (g : S em b d k n Y sh R m (pc + 3) ls st f) : S em b d k n Y sh R m pc ls (.int x :: st) f :=
  S_pure (fun hC hl kk => lv_if_eq hC.1 hC.2.1 hd ht (fun q => absurd q hc) (fun _ => kk _ hl)) g
theorem o_icmp_eq {x y : Int32} {off : Int} {tgt : Nat} {f1 f2 : Option ρ} {di : Decidable (x = y)} (hd : decode Y.2.1 pc = .ok (.if_icmp .eq off, 3)) (ht : (pc : Int) + off = (tgt : Int)) (g1 : x = y → S em b d k n Y sh R m (tgt) ls st f1) (g2 : ¬ (x = y) → S em b d k n Y sh R m (pc + 3) ls st f2) : S em b d k n Y sh R m pc ls (.int y :: .int x :: st) (@ite _ (x = y) di f1 f2) := by
  intro r hr
  refine G_two (P := x = y) (st' := st) (pc1 := tgt) (pc2 := pc + 3) (fun hC a c => lv_icmp_eq hC.1 hC.2.1 hd ht (fun q => a q) (fun q => c q)) (fun q => g1 q r ?_) (fun q => g2 q r ?_)
  · rw [if_pos q] at hr; exact hr
  · rw [if_neg q] at hr; exact hr
theorem o_icmp_eq_t {x y : Int32} {off : Int} {tgt : Nat} (hd : decode Y.2.1 pc = .ok (.if_icmp .eq off, 3)) (ht : (pc : Int) + off = (tgt : Int)) (hc : x = y) (g : S em b d k n Y sh R m tgt ls st f) : S em b d k n Y sh R m pc ls (.int y :: .int x :: st) f :=
  S_pure (fun hC hl kk => lv_icmp_eq hC.1 hC.2.1 hd ht (fun _ => kk _ hl) (fun q => absurd hc q)) g
theorem o_icmp_eq_f {x y : Int32} {off : Int} {tgt : Nat} (hd : decode Y.2.1 pc = .ok (.if_icmp .eq off, 3)) (ht : (pc : Int) + off = (tgt : Int)) (hc : ¬ (x = y)) (g : S em b d k n Y sh R m (pc + 3) ls st f) : S em b d k n Y sh R m pc ls (.int y :: .int x :: st) f :=
  S_pure (fun hC hl kk => lv_icmp_eq hC.1 hC.2.1 hd ht (fun q => absurd q hc) (fun _ => kk _ hl)) g
theorem o_if_ne {x : Int32} {off : Int} {tgt : Nat} {f1 f2 : Option ρ} {di : Decidable (x = 0)} (hd : decode Y.2.1 pc = .ok (.ifCond .ne off, 3)) (ht : (pc : Int) + off = (tgt : Int)) (g1 : x = 0 → S em b d k n Y sh R m (pc + 3) ls st f1) (g2 : ¬ (x = 0) → S em b d k n Y sh R m (tgt) ls st f2) : S em b d k n Y sh R m pc ls (.int x :: st) (@ite _ (x = 0) di f1 f2) := by
  intro r hr
  refine G_two (P := x = 0) (st' := st) (pc1 := pc + 3) (pc2 := tgt) (fun hC a c => lv_if_ne hC.1 hC.2.1 hd ht (fun q => c q) (fun q => a q)) (fun q => g1 q r ?_) (fun q => g2 q r ?_)
  · rw [if_pos q] at hr; exact hr
  · rw [if_neg q] at hr; exact hr
theorem o_if_ne_t {x : Int32} {off : Int} {tgt : Nat} (hd : decode Y.2.1 pc = .ok (.ifCond .ne off, 3)) (ht : (pc : Int) + off = (tgt : Int)) (hc : ¬ (x = 0)) (g : S em b d k n Y sh R m tgt ls st f) : S em b d k n Y sh R m pc ls (.int x :: st) f :=
  S_pure (fun hC hl kk => lv_if_ne hC.1 hC.2.1 hd ht (fun _ => kk _ hl) (fun q => absurd q hc)) g
theorem o_if_ne_f {x : Int32} {off : Int} {tgt : Nat} (hd : decode Y.2.1 pc = .ok (.ifCond .ne off, 3)) (ht : (pc : Int) + off = (tgt : Int)) (hc : x = 0) (g : S em b d k n Y sh R m (pc + 3) ls st f) : S em b d k n Y sh R m pc ls (.int x :: st) f :=
  S_pure (fun hC hl kk => lv_if_ne hC.1 hC.2.1 hd ht (fun q => absurd hc q) (fun _ => kk _ hl)) g
theorem o_icmp_ne {x y : Int32} {off : Int} {tgt : Nat} {f1 f2 : Option ρ} {di : Decidable (x = y)} (hd : decode Y.2.1 pc = .ok (.if_icmp .ne off, 3)) (ht : (pc : Int) + off = (tgt : Int)) (g1 : x = y → S em b d k n Y sh R m (pc + 3) ls st f1) (g2 : ¬ (x = y) → S em b d k n Y sh R m (tgt) ls st f2) : S em b d k n Y sh R m pc ls (.int y :: .int x :: st) (@ite _ (x = y) di f1 f2) := by
  intro r hr
  refine G_two (P := x = y) (st' := st) (pc1 := pc + 3) (pc2 := tgt) (fun hC a c => lv_icmp_ne hC.1 hC.2.1 hd ht (fun q => c q) (fun q => a q)) (fun q => g1 q r ?_) (fun q => g2 q r ?_)
  · rw [if_pos q] at hr; exact hr
  · rw [if_neg q] at hr; exact hr
theorem o_icmp_ne_t {x y : Int32} {off : Int} {tgt : Nat} (hd : decode Y.2.1 pc = .ok (.if_icmp .ne off, 3)) (ht : (pc : Int) + off = (tgt : Int)) (hc : ¬ (x = y)) (g : S em b d k n Y sh R m tgt ls st f) : S em b d k n Y sh R m pc ls (.int y :: .int x :: st) f :=
  S_pure (fun hC hl kk => lv_icmp_ne hC.1 hC.2.1 hd ht (fun _ => kk _ hl) (fun q => absurd q hc)) g
theorem o_icmp_ne_f {x y : Int32} {off : Int} {tgt : Nat} (hd : decode Y.2.1 pc = .ok (.if_icmp .ne off, 3)) (ht : (pc : Int) + off = (tgt : Int)) (hc : x = y) (g : S em b d k n Y sh R m (pc + 3) ls st f) : S em b d k n Y sh R m pc ls (.int y :: .int x :: st) f :=
  S_pure (fun hC hl kk => lv_icmp_ne hC.1 hC.2.1 hd ht (fun q => absurd hc q) (fun _ => kk _ hl)) g
theorem o_if_lt {x : Int32} {off : Int} {tgt : Nat} {f1 f2 : Option ρ} {di : Decidable (x < 0)} (hd : decode Y.2.1 pc = .ok (.ifCond .lt off, 3)) (ht : (pc : Int) + off = (tgt : Int)) (g1 : x < 0 → S em b d k n Y sh R m (tgt) ls st f1) (g2 : ¬ (x < 0) → S em b d k n Y sh R m (pc + 3) ls st f2) : S em b d k n Y sh R m pc ls (.int x :: st) (@ite _ (x < 0) di f1 f2) := by
  intro r hr
  refine G_two (P := x < 0) (st' := st) (pc1 := tgt) (pc2 := pc + 3) (fun hC a c => lv_if_lt hC.1 hC.2.1 hd ht (fun q => a q) (fun q => c q)) (fun q => g1 q r ?_) (fun q => g2 q r ?_)
  · rw [if_pos q] at hr; exact hr
  · rw [if_neg q] at hr; exact hr
theorem o_if_lt_t {x : Int32} {off : Int} {tgt : Nat} (hd : decode Y.2.1 pc = .ok (.ifCond .lt off, 3)) (ht : (pc : Int) + off = (tgt : Int)) (hc : x < 0) (g : S em b d k n Y sh R m tgt ls st f) : S em b d k n Y sh R m pc ls (.int x :: st) f :=
  S_pure (fun hC hl kk => lv_if_lt hC.1 hC.2.1 hd ht (fun _ => kk _ hl) (fun q => absurd hc q)) g
theorem o_if_lt_f {x : Int32} {off : Int} {tgt : Nat} (hd : decode Y.2.1 pc = .ok (.ifCond .lt off, 3)) (ht : (pc : Int) + off = (tgt : Int)) (hc : ¬ (x < 0)) (g : S em b d k n Y sh R m (pc + 3) ls st f) : S em b d k n Y sh R m pc ls (.int x :: st) f :=
  S_pure (fun hC hl kk => lv_if_lt hC.1 hC.2.1 hd ht (fun q => absurd q hc) (fun _ => kk _ hl)) g
theorem o_icmp_lt {x y : Int32} {off : Int} {tgt : Nat} {f1 f2 : Option ρ} {di : Decidable (x < y)} (hd : decode Y.2.1 pc = .ok (.if_icmp .lt off, 3)) (ht : (pc : Int) + off = (tgt : Int)) (g1 : x < y → S em b d k n Y sh R m (tgt) ls st f1) (g2 : ¬ (x < y) → S em b d k n Y sh R m (pc + 3) ls st f2) : S em b d k n Y sh R m pc ls (.int y :: .int x :: st) (@ite _ (x < y) di f1 f2) := by
  intro r hr
  refine G_two (P := x < y) (st' := st) (pc1 := tgt) (pc2 := pc + 3) (fun hC a c => lv_icmp_lt hC.1 hC.2.1 hd ht (fun q => a q) (fun q => c q)) (fun q => g1 q r ?_) (fun q => g2 q r ?_)
  · rw [if_pos q] at hr; exact hr
  · rw [if_neg q] at hr; exact hr
theorem o_icmp_lt_t {x y : Int32} {off : Int} {tgt : Nat} (hd : decode Y.2.1 pc = .ok (.if_icmp .lt off, 3)) (ht : (pc : Int) + off = (tgt : Int)) (hc : x < y) (g : S em b d k n Y sh R m tgt ls st f) : S em b d k n Y sh R m pc ls (.int y :: .int x :: st) f :=
  S_pure (fun hC hl kk => lv_icmp_lt hC.1 hC.2.1 hd ht (fun _ => kk _ hl) (fun q => absurd hc q)) g
theorem o_icmp_lt_f {x y : Int32} {off : Int} {tgt : Nat} (hd : decode Y.2.1 pc = .ok (.if_icmp .lt off, 3)) (ht : (pc : Int) + off = (tgt : Int)) (hc : ¬ (x < y)) (g : S em b d k n Y sh R m (pc + 3) ls st f) : S em b d k n Y sh R m pc ls (.int y :: .int x :: st) f :=
  S_pure (fun hC hl kk => lv_icmp_lt hC.1 hC.2.1 hd ht (fun q => absurd q hc) (fun _ => kk _ hl)) g
theorem o_if_ge {x : Int32} {off : Int} {tgt : Nat} {f1 f2 : Option ρ} {di : Decidable (0 ≤ x)} (hd : decode Y.2.1 pc = .ok (.ifCond .ge off, 3)) (ht : (pc : Int) + off = (tgt : Int)) (g1 : 0 ≤ x → S em b d k n Y sh R m (tgt) ls st f1) (g2 : ¬ (0 ≤ x) → S em b d k n Y sh R m (pc + 3) ls st f2) : S em b d k n Y sh R m pc ls (.int x :: st) (@ite _ (0 ≤ x) di f1 f2) := by
  intro r hr
  refine G_two (P := 0 ≤ x) (st' := st) (pc1 := tgt) (pc2 := pc + 3) (fun hC a c => lv_if_ge hC.1 hC.2.1 hd ht (fun q => a q) (fun q => c q)) (fun q => g1 q r ?_) (fun q => g2 q r ?_)
  · rw [if_pos q] at hr; exact hr
  · rw [if_neg q] at hr; exact hr
theorem o_if_ge_t {x : Int32} {off : Int} {tgt : Nat} (hd : decode Y.2.1 pc = .ok (.ifCond .ge off, 3)) (ht : (pc : Int) + off = (tgt : Int)) (hc : 0 ≤ x) (g : S em b d k n Y sh R m tgt ls st f) : S em b d k n Y sh R m pc ls (.int x :: st) f :=
  S_pure (fun hC hl kk => lv_if_ge hC.1 hC.2.1 hd ht (fun _ => kk _ hl) (fun q => absurd hc q)) g
theorem o_if_ge_f {x : Int32} {off : Int} {tgt : Nat} (hd : decode Y.2.1 pc = .ok (.ifCond .ge off, 3)) (ht : (pc : Int) + off = (tgt : Int)) (hc : ¬ (0 ≤ x)) (g : S em b d k n Y sh R m (pc + 3) ls st f) : S em b d k n Y sh R m pc ls (.int x :: st) f :=
  S_pure (fun hC hl kk => lv_if_ge hC.1 hC.2.1 hd ht (fun q => absurd q hc) (fun _ => kk _ hl)) g
theorem o_icmp_ge {x y : Int32} {off : Int} {tgt : Nat} {f1 f2 : Option ρ} {di : Decidable (y ≤ x)} (hd : decode Y.2.1 pc = .ok (.if_icmp .ge off, 3)) (ht : (pc : Int) + off = (tgt : Int)) (g1 : y ≤ x → S em b d k n Y sh R m (tgt) ls st f1) (g2 : ¬ (y ≤ x) → S em b d k n Y sh R m (pc + 3) ls st f2) : S em b d k n Y sh R m pc ls (.int y :: .int x :: st) (@ite _ (y ≤ x) di f1 f2) := by
  intro r hr
  refine G_two (P := y ≤ x) (st' := st) (pc1 := tgt) (pc2 := pc + 3) (fun hC a c => lv_icmp_ge hC.1 hC.2.1 hd ht (fun q => a q) (fun q => c q)) (fun q => g1 q r ?_) (fun q => g2 q r ?_)
  · rw [if_pos q] at hr; exact hr
  · rw [if_neg q] at hr; exact hr
theorem o_icmp_ge_t {x y : Int32} {off : Int} {tgt : Nat} (hd : decode Y.2.1 pc = .ok (.if_icmp .ge off, 3)) (ht : (pc : Int) + off = (tgt : Int)) (hc : y ≤ x) (g : S em b d k n Y sh R m tgt ls st f) : S em b d k n Y sh R m pc ls (.int y :: .int x :: st) f :=
  S_pure (fun hC hl kk => lv_icmp_ge hC.1 hC.2.1 hd ht (fun _ => kk _ hl) (fun q => absurd hc q)) g
theorem o_icmp_ge_f {x y : Int32} {off : Int} {tgt : Nat} (hd : decode Y.2.1 pc = .ok (.if_icmp .ge off, 3)) (ht : (pc : Int) + off = (tgt : Int)) (hc : ¬ (y ≤ x)) (g : S em b d k n Y sh R m (pc + 3) ls st f) : S em b d k n Y sh R m pc ls (.int y :: .int x :: st) f :=
  S_pure (fun hC hl kk => lv_icmp_ge hC.1 hC.2.1 hd ht (fun q => absurd q hc) (fun _ => kk _ hl)) g
theorem o_if_gt {x : Int32} {off : Int} {tgt : Nat} {f1 f2 : Option ρ} {di : Decidable (0 < x)} (hd : decode Y.2.1 pc = .ok (.ifCond .gt off, 3)) (ht : (pc : Int) + off = (tgt : Int)) (g1 : 0 < x → S em b d k n Y sh R m (tgt) ls st f1) (g2 : ¬ (0 < x) → S em b d k n Y sh R m (pc + 3) ls st f2) : S em b d k n Y sh R m pc ls (.int x :: st) (@ite _ (0 < x) di f1 f2) := by
  intro r hr
  refine G_two (P := 0 < x) (st' := st) (pc1 := tgt) (pc2 := pc + 3) (fun hC a c => lv_if_gt hC.1 hC.2.1 hd ht (fun q => a q) (fun q => c q)) (fun q => g1 q r ?_) (fun q => g2 q r ?_)
  · rw [if_pos q] at hr; exact hr
  · rw [if_neg q] at hr; exact hr
theorem o_if_gt_t {x : Int32} {off : Int} {tgt : Nat} (hd : decode Y.2.1 pc = .ok (.ifCond .gt off, 3)) (ht : (pc : Int) + off = (tgt : Int)) (hc : 0 < x) (g : S em b d k n Y sh R m tgt ls st f) : S em b d k n Y sh R m pc ls (.int x :: st) f :=
  S_pure (fun hC hl kk => lv_if_gt hC.1 hC.2.1 hd ht (fun _ => kk _ hl) (fun q => absurd hc q)) g
theorem o_if_gt_f {x : Int32} {off : Int} {tgt : Nat} (hd : decode Y.2.1 pc = .ok (.ifCond .gt off, 3)) (ht : (pc : Int) + off = (tgt : Int)) (hc : ¬ (0 < x)) (g : S em b d k n Y sh R m (pc + 3) ls st f) : S em b d k n Y sh R m pc ls (.int x :: st) f :=
  S_pure (fun hC hl kk => lv_if_gt hC.1 hC.2.1 hd ht (fun q => absurd q hc) (fun _ => kk _ hl)) g
theorem o_icmp_gt {x y : Int32} {off : Int} {tgt : Nat} {f1 f2 : Option ρ} {di : Decidable (y < x)} (hd : decode Y.2.1 pc = .ok (.if_icmp .gt off, 3)) (ht : (pc : Int) + off = (tgt : Int)) (g1 : y < x → S em b d k n Y sh R m (tgt) ls st f1) (g2 : ¬ (y < x) → S em b d k n Y sh R m (pc + 3) ls st f2) : S em b d k n Y sh R m pc ls (.int y :: .int x :: st) (@ite _ (y < x) di f1 f2) := by
  intro r hr
  refine G_two (P := y < x) (st' := st) (pc1 := tgt) (pc2 := pc + 3) (fun hC a c => lv_icmp_gt hC.1 hC.2.1 hd ht (fun q => a q) (fun q => c q)) (fun q => g1 q r ?_) (fun q => g2 q r ?_)
  · rw [if_pos q] at hr; exact hr
  · rw [if_neg q] at hr; exact hr
theorem o_icmp_gt_t {x y : Int32} {off : Int} {tgt : Nat} (hd : decode Y.2.1 pc = .ok (.if_icmp .gt off, 3)) (ht : (pc : Int) + off = (tgt : Int)) (hc : y < x) (g : S em b d k n Y sh R m tgt ls st f) : S em b d k n Y sh R m pc ls (.int y :: .int x :: st) f :=
  S_pure (fun hC hl kk => lv_icmp_gt hC.1 hC.2.1 hd ht (fun _ => kk _ hl) (fun q => absurd hc q)) g
theorem o_icmp_gt_f {x y : Int32} {off : Int} {tgt : Nat} (hd : decode Y.2.1 pc = .ok (.if_icmp .gt off, 3)) (ht : (pc : Int) + off = (tgt : Int)) (hc : ¬ (y < x)) (g : S em b d k n Y sh R m (pc + 3) ls st f) : S em b d k n Y sh R m pc ls (.int y :: .int x :: st) f :=
  S_pure (fun hC hl kk => lv_icmp_gt hC.1 hC.2.1 hd ht (fun q => absurd q hc) (fun _ => kk _ hl)) g
theorem o_if_le {x : Int32} {off : Int} {tgt : Nat} {f1 f2 : Option ρ} {di : Decidable (x ≤ 0)} (hd : decode Y.2.1 pc = .ok (.ifCond .le off, 3)) (ht : (pc : Int) + off = (tgt : Int)) (g1 : x ≤ 0 → S em b d k n Y sh R m (tgt) ls st f1) (g2 : ¬ (x ≤ 0) → S em b d k n Y sh R m (pc + 3) ls st f2) : S em b d k n Y sh R m pc ls (.int x :: st) (@ite _ (x ≤ 0) di f1 f2) := by
  intro r hr
  refine G_two (P := x ≤ 0) (st' := st) (pc1 := tgt) (pc2 := pc + 3) (fun hC a c => lv_if_le hC.1 hC.2.1 hd ht (fun q => a q) (fun q => c q)) (fun q => g1 q r ?_) (fun q => g2 q r ?_)
  · rw [if_pos q] at hr; exact hr
  · rw [if_neg q] at hr; exact hr
theorem o_if_le_t {x : Int32} {off : Int} {tgt : Nat} (hd : decode Y.2.1 pc = .ok (.ifCond .le off, 3)) (ht : (pc : Int) + off = (tgt : Int)) (hc : x ≤ 0) (g : S em b d k n Y sh R m tgt ls st f) : S em b d k n Y sh R m pc ls (.int x :: st) f :=
  S_pure (fun hC hl kk => lv_if_le hC.1 hC.2.1 hd ht (fun _ => kk _ hl) (fun q => absurd hc q)) g
theorem o_if_le_f {x : Int32} {off : Int} {tgt : Nat} (hd : decode Y.2.1 pc = .ok (.ifCond .le off, 3)) (ht : (pc : Int) + off = (tgt : Int)) (hc : ¬ (x ≤ 0)) (g : S em b d k n Y sh R m (pc + 3) ls st f) : S em b d k n Y sh R m pc ls (.int x :: st) f :=
  S_pure (fun hC hl kk => lv_if_le hC.1 hC.2.1 hd ht (fun q => absurd q hc) (fun _ => kk _ hl)) g
theorem o_icmp_le {x y : Int32} {off : Int} {tgt : Nat} {f1 f2 : Option ρ} {di : Decidable (x ≤ y)} (hd : decode Y.2.1 pc = .ok (.if_icmp .le off, 3)) (ht : (pc : Int) + off = (tgt : Int)) (g1 : x ≤ y → S em b d k n Y sh R m (tgt) ls st f1) (g2 : ¬ (x ≤ y) → S em b d k n Y sh R m (pc + 3) ls st f2) : S em b d k n Y sh R m pc ls (.int y :: .int x :: st) (@ite _ (x ≤ y) di f1 f2) := by
  intro r hr
  refine G_two (P := x ≤ y) (st' := st) (pc1 := tgt) (pc2 := pc + 3) (fun hC a c => lv_icmp_le hC.1 hC.2.1 hd ht (fun q => a q) (fun q => c q)) (fun q => g1 q r ?_) (fun q => g2 q r ?_)
  · rw [if_pos q] at hr; exact hr
  · rw [if_neg q] at hr; exact hr
theorem o_icmp_le_t {x y : Int32} {off : Int} {tgt : Nat} (hd : decode Y.2.1 pc = .ok (.if_icmp .le off, 3)) (ht : (pc : Int) + off = (tgt : Int)) (hc : x ≤ y) (g : S em b d k n Y sh R m tgt ls st f) : S em b d k n Y sh R m pc ls (.int y :: .int x :: st) f :=
  S_pure (fun hC hl kk => lv_icmp_le hC.1 hC.2.1 hd ht (fun _ => kk _ hl) (fun q => absurd hc q)) g
theorem o_icmp_le_f {x y : Int32} {off : Int} {tgt : Nat} (hd : decode Y.2.1 pc = .ok (.if_icmp .le off, 3)) (ht : (pc : Int) + off = (tgt : Int)) (hc : ¬ (x ≤ y)) (g : S em b d k n Y sh R m (pc + 3) ls st f) : S em b d k n Y sh R m pc ls (.int y :: .int x :: st) f :=
  S_pure (fun hC hl kk => lv_icmp_le hC.1 hC.2.1 hd ht (fun q => absurd q hc) (fun _ => kk _ hl)) g
theorem o_ifnull_t {off : Int} {tgt : Nat} (hd : decode Y.2.1 pc = .ok (.ifnull off, 3)) (ht : (pc : Int) + off = (tgt : Int)) (g : S em b d k n Y sh R m tgt ls st f) : S em b d k n Y sh R m pc ls (.null :: st) f :=
  S_pure (fun hC hl kk => lv_ifnullN hC.1 hC.2.1 hd ht (kk _ hl)) g
theorem o_ifnull_f {x : Nat} {off : Int} (hd : decode Y.2.1 pc = .ok (.ifnull off, 3)) (g : S em b d k n Y sh R m (pc + 3) ls st f) : S em b d k n Y sh R m pc ls (.ref x :: st) f :=
  S_pure (fun hC hl kk => lv_ifnull hC.1 hC.2.1 hd (kk _ hl)) g
theorem o_ifnonnull_t {x : Nat} {off : Int} {tgt : Nat} (hd : decode Y.2.1 pc = .ok (.ifnonnull off, 3)) (ht : (pc : Int) + off = (tgt : Int)) (g : S em b d k n Y sh R m tgt ls st f) : S em b d k n Y sh R m pc ls (.ref x :: st) f :=
  S_pure (fun hC hl kk => lv_ifnonnull hC.1 hC.2.1 hd ht (kk _ hl)) g
theorem o_ifnonnull_f {off : Int} (hd : decode Y.2.1 pc = .ok (.ifnonnull off, 3)) (g : S em b d k n Y sh R m (pc + 3) ls st f) : S em b d k n Y sh R m pc ls (.null :: st) f :=
  S_pure (fun hC hl kk => lv_ifnonnullN hC.1 hC.2.1 hd (kk _ hl)) g
theorem o_ts_in {dflt lo hi off : Int} {offs : Array Int} {len tgt : Nat} {x : Int32} (c : Int32) (hx : x = c) (hd : decode Y.2.1 pc = .ok (.tableswitch dflt lo hi offs, len)) (h1 : ¬ c.toInt < lo) (h2 : ¬ hi < c.toInt) (ho : offs[(c.toInt - lo).toNat]? = some off) (ht : (pc : Int) + off = (tgt : Int)) (g : S em b d k n Y sh R m tgt ls st f) : S em b d k n Y sh R m pc ls (.int x :: st) f :=
  S_pure (fun hC hl kk => lv_tableIn hC.1 hC.2.1 hd (hx ▸ h1) (hx ▸ h2) (hx ▸ ho) ht (kk _ hl)) g
theorem ts_out {lo hi : Int} {x : Int32} (cs : List Int32) (hcs : ∀ z : Nat, z < cs.length → (cs.getD z 0).toInt = lo + z) (hn : hi - lo < cs.length) (hx : ∀ c ∈ cs, ¬ x = c) : x.toInt < lo ∨ hi < x.toInt := by
  by_cases h1 : x.toInt < lo
  · exact Or.inl h1
  · by_cases h2 : hi < x.toInt
    · exact Or.inr h2
    · exfalso
      have hz : (x.toInt - lo).toNat < cs.length := by omega
      have e := hcs _ hz
      have : x = cs.getD (x.toInt - lo).toNat 0 := Int32.toInt_inj.mp (by rw [e]; omega)
      refine hx _ ?_ this
      rw [List.getD_eq_getElem?_getD, List.getElem?_eq_getElem hz]
      exact List.getElem_mem hz
theorem o_ts_out {dflt lo hi : Int} {offs : Array Int} {len tgt : Nat} {x : Int32} (hx : x.toInt < lo ∨ hi < x.toInt) (hd : decode Y.2.1 pc = .ok (.tableswitch dflt lo hi offs, len)) (ht : (pc : Int) + dflt = (tgt : Int)) (g : S em b d k n Y sh R m tgt ls st f) : S em b d k n Y sh R m pc ls (.int x :: st) f :=
  S_pure (fun hC hl kk => lv_tableOut hC.1 hC.2.1 hd hx ht (kk _ hl)) g
theorem o_lookup {dflt off : Int} {ps : Array (Int × Int)} {len tgt : Nat} {x : Int32} (hd : decode Y.2.1 pc = .ok (.lookupswitch dflt ps, len)) (hp : (ps.toList.zip (ps.toList.drop 1)).all (fun (a, next) => a.1 < next.1) = true) (ho : Op.lookupswitch.offset ps.toList dflt x.toInt = off) (ht : (pc : Int) + off = (tgt : Int)) (g : S em b d k n Y sh R m tgt ls st f) : S em b d k n Y sh R m pc ls (.int x :: st) f :=
  S_pure (fun hC hl kk => lv_lookup hC.1 hC.2.1 hd hp ho ht (kk _ hl)) g
theorem S_ite {c : Prop} {di : Decidable c} {f1 f2 : Option ρ} (g1 : c → S em b d k n Y sh R m pc ls st f1) (g2 : ¬ c → S em b d k n Y sh R m pc ls st f2) : S em b d k n Y sh R m pc ls st (@ite _ c di f1 f2) := by
  by_cases h : c
  · rw [if_pos h]; exact g1 h
  · rw [if_neg h]; exact g2 h
theorem S_at {pc' : Nat} (e : pc' = pc) (g : S em b d k n Y sh R m pc' ls st f) : S em b d k n Y sh R m pc ls st f := e ▸ g
-- ends
theorem o_iret {x : Int32} {r : ρ} (hd : decode Y.2.1 pc = .ok (.ireturn, 1)) (hr : Y.2.2.2 = some .int) (he : em r = (some (.int x), sh, mk m R)) : S em b d k n Y sh R m pc ls [.int x] (some r) := fun r' h => by
  cases h
  exact G_iret hd hr he.symm
theorem o_zret {x : Int32} {r : ρ} {ty : FieldType} (hd : decode Y.2.1 pc = .ok (.ireturn, 1)) (hr : Y.2.2.2 = some ty) (hn : narrow ty (.int x) = .int x) (he : em r = (some (.int x), sh, mk m R)) : S em b d k n Y sh R m pc ls [.int x] (some r) := fun r' h => by
  cases h
  exact G_zret hd hr hn he.symm
theorem o_lret {x : Int64} {r : ρ} (hd : decode Y.2.1 pc = .ok (.lreturn, 1)) (hr : Y.2.2.2 = some .long) (he : em r = (some (.long x), sh, mk m R)) : S em b d k n Y sh R m pc ls [.long x] (some r) := fun r' h => by
  cases h
  exact G_lret hd hr he.symm
theorem o_vret {r : ρ} (hd : decode Y.2.1 pc = .ok (.return_, 1)) (hr : Y.2.2.2 = none) (he : em r = (none, sh, mk m R)) : S em b d k n Y sh R m pc ls [] (some r) := fun r' h => by
  cases h
  exact G_vret hd hr he.symm
theorem o_aret {q : Option Nat} {r : ρ} {rt : FieldType} (hd : decode Y.2.1 pc = .ok (.areturn, 1)) (hr : Y.2.2.2 = some rt) (hrt : (∃ n, rt = .object n) ∨ ∃ t, rt = .array t) (he : em r = (some (va_rf q), sh, mk m R)) : S em b d k n Y sh R m pc ls [va_rf q] (some r) := fun r' h => by
  cases h
  exact G_aret hd hr hrt he.symm
end SS
theorem KS_of {ρ : Type} {em : EM ρ} {b : Bool} {d k n : Nat} {Y : YD} {sh : Sh} {R : RR} {m : MI} {av : List Value} {f : Option ρ} (hy : plainName Y.1.cls = true) (hlen : ∀ ad : Nat → Nat, (lg_sl (av.map (cV ad))).length ≤ Y.2.2.1) (g : S em b d k n Y sh R m 0 (lv_args 0 av) [] f) : KS em b d k n Y sh R m av f := fun r hr => K_of_G hy hlen (g r hr)
