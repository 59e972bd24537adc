/-! THE MINI WORLD: cells by index, contents as functions; how it lies in the machine's heap -/
def tW : List Cond := lw_tbl.filter goodWord
theorem tW_of {w : Cond} (i : Nat) (h : lw_tbl[i]? = some w) (g : goodWord w = true) : w ∈ tW := List.mem_filter.mpr ⟨List.mem_of_getElem? h, g⟩
theorem tW_ok {s : State} {args : Array Value} (h : ∀ w ∈ lw_tbl, w.before args s = true) : ∀ w ∈ tW, w.before args s = true := fun w hw => h w (List.mem_filter.mp hw).1
theorem tW_good : GoodIn tW tW := fun _ h => ⟨h, good_of_word (List.mem_filter.mp h).2⟩
abbrev cls8 : List vw_C := [(RX0, TX0, 5), (RX1, TX1, 3), (RX2, TX2, 7), (RX3, TX3, 6), (RX4, TX4, 3), (RX5, TX5, 17), (RX6, TX6, 10), (RX7, TX7, 69)]
set_option maxRecDepth 100000 in
theorem in8_b : cls8.all (fun q => (u_ws q.1 q.2.1 q.2.2).all (fun w => decide (w ∈ lw_tbl) && goodWord w)) = true := by decide +kernel
theorem in8 {ci : Nat} {q : vw_C} (h : cls8[ci]? = some q) : ∀ w ∈ u_ws q.1 q.2.1 q.2.2, w ∈ tW := by
  intro w hw
  have h1 := List.all_eq_true.mp (List.all_eq_true.mp in8_b q (List.mem_of_getElem? h)) w hw
  simp only [Bool.and_eq_true, decide_eq_true_eq] at h1
  exact List.mem_filter.mpr h1
def ty8 (ci : Nat) : Nat → FieldType := match ci with
  | 0 => tyX0
  | 1 => tyX1
  | 2 => tyX2
  | 3 => tyX3
  | 4 => tyX4
  | 5 => tyX5
  | 6 => tyX6
  | _ => tyX7
theorem ty8_ok : ∀ {ci : Nat} {q : vw_C}, cls8[ci]? = some q → ∀ k, k < q.2.2 → parseFieldDescriptor (q.2.1 k).2.2.1 = some (ty8 ci k) := by
  intro ci q h
  match ci, h with
  | 0, h => cases h; exact tyX0_ok
  | 1, h => cases h; exact tyX1_ok
  | 2, h => cases h; exact tyX2_ok
  | 3, h => cases h; exact tyX3_ok
  | 4, h => cases h; exact tyX4_ok
  | 5, h => cases h; exact tyX5_ok
  | 6, h => cases h; exact tyX6_ok
  | 7, h => cases h; exact tyX7_ok
  | k + 8, h => simp [cls8] at h
theorem nm8 : ∀ {ci : Nat} {q : vw_C}, cls8[ci]? = some q → ∀ a, a < q.2.2 → ∀ b, b < q.2.2 → a ≠ b → (q.2.1 a).2.1 ≠ (q.2.1 b).2.1 := by
  intro ci q h
  match ci, h with
  | 0, h => cases h; exact nmX0
  | 1, h => cases h; exact nmX1
  | 2, h => cases h; exact nmX2
  | 3, h => cases h; exact nmX3
  | 4, h => cases h; exact nmX4
  | 5, h => cases h; exact nmX5
  | 6, h => cases h; exact nmX6
  | 7, h => cases h; exact nmX7
  | k + 8, h => simp [cls8] at h
-- the mini memory: ints, longs, references; a shape: (kind, length), kind below 10 an array, else class kind - 10
abbrev MM : Type := (Nat → Nat → Int32) × (Nat → Nat → Int64) × (Nat → Nat → Option Nat)
abbrev Sh : Type := List (Nat × Nat)
def ur {α : Type} (f : Nat → Nat → α) (k : Nat) (g : Nat → α) : Nat → Nat → α := fun k' => if k' = k then g else f k'
theorem ur_s {α : Type} {f : Nat → Nat → α} {k : Nat} {g : Nat → α} : ur f k g k = g := if_pos rfl
theorem ur_n {α : Type} {f : Nat → Nat → α} {k k' : Nat} {g : Nat → α} (h : k' ≠ k) : ur f k g k' = f k' := if_neg h
def wI (M : MM) (k : Nat) (g : Nat → Int32) : MM := (ur M.1 k g, M.2)
def wJ (M : MM) (k : Nat) (g : Nat → Int64) : MM := (M.1, ur M.2.1 k g, M.2.2)
def wR (M : MM) (k : Nat) (g : Nat → Option Nat) : MM := (M.1, M.2.1, ur M.2.2 k g)
/-- which fields are references -/
def fRt : List (List Nat) := [[1], [2], [2, 6], [0, 1, 2, 3], [2], [1, 2, 3, 4, 5, 11, 12, 14, 15, 16], [0, 1, 3, 4, 5, 6, 8, 9], [5, 6, 7, 8, 9, 15, 16, 17, 18, 19, 20, 21, 22, 26, 27, 31, 32, 33, 35, 36, 40, 42, 43, 45, 55, 56, 57, 58, 59, 60, 61, 62, 64, 65, 66, 67, 68]]
def fR (ci j : Nat) : Bool := (fRt.getD ci []).contains j
def nF (ci : Nat) : Nat := [5, 3, 7, 6, 3, 17, 10, 69].getD ci 0
def cF (ad : Nat → Nat) (M : MM) (k ci : Nat) : List Value := (List.range (nF ci)).map (fun j => if fR ci j = true then va_re ad (M.2.2 k j) else .int (M.1 k j))
def cE (ct : Nat → ClassId) (ad : Nat → Nat) (M : MM) (k : Nat) (s : Nat × Nat) : va_E :=
  if s.1 < 10 then .inl (ct s.1, s.2, if s.1 = 1 then .inr (.inl (M.2.1 k)) else if s.1 = 3 ∨ s.1 = 4 then .inr (.inr (.inr (.inr (fun i => (M.2.2 k i).map ad)))) else .inl (M.1 k))
  else .inr (s.1 - 10, cF ad M k (s.1 - 10))
def cW (ct : Nat → ClassId) (ad : Nat → Nat) (sh : Sh) (M : MM) : va_W := sh.mapIdx (fun k s => (ad k, cE ct ad M k s))
theorem cW_get {ct : Nat → ClassId} {ad : Nat → Nat} {sh : Sh} {M : MM} {k : Nat} {s : Nat × Nat} (h : sh[k]? = some s) : (cW ct ad sh M)[k]? = some (ad k, cE ct ad M k s) := by
  simp [cW, h]
theorem cW_inv {ct : Nat → ClassId} {ad : Nat → Nat} {sh : Sh} {M : MM} {k : Nat} {q : Nat × va_E} (h : (cW ct ad sh M)[k]? = some q) : ∃ s, sh[k]? = some s ∧ q = (ad k, cE ct ad M k s) := by
  simp only [cW, List.getElem?_mapIdx, Option.map_eq_some_iff] at h
  obtain ⟨s, h1, h2⟩ := h
  exact ⟨s, h1, h2.symm⟩
theorem cE_ext {ct : Nat → ClassId} {ad ad' : Nat → Nat} {M M' : MM} {k : Nat} {s : Nat × Nat} (h1 : M'.1 k = M.1 k) (h2 : M'.2.1 k = M.2.1 k) (h3 : ∀ i, (M'.2.2 k i).map ad' = (M.2.2 k i).map ad) : cE ct ad' M' k s = cE ct ad M k s := by
  unfold cE cF va_re
  rw [h1, h2, funext h3]
  simp only [h3]
theorem cW_set {ct : Nat → ClassId} {ad : Nat → Nat} {sh : Sh} {M M' : MM} {k : Nat} {s : Nat × Nat} {e : va_E} (h : sh[k]? = some s) (h1 : ∀ k', k' ≠ k → M'.1 k' = M.1 k' ∧ M'.2.1 k' = M.2.1 k' ∧ M'.2.2 k' = M.2.2 k') (h2 : cE ct ad M' k s = e) : (cW ct ad sh M).set k (ad k, e) = cW ct ad sh M' := by
  apply List.ext_getElem?
  intro i
  rw [List.getElem?_set]
  by_cases hi : k = i
  · subst hi
    have hl : k < sh.length := (List.getElem?_eq_some_iff.mp h).1
    rw [if_pos rfl, if_pos (by simpa [cW] using hl), cW_get h, h2]
  · rw [if_neg hi]
    obtain ⟨a, b, c⟩ := h1 i (fun q => hi q.symm)
    simp only [cW, List.getElem?_mapIdx]
    cases sh[i]? with
    | none => rfl
    | some s' => simp only [Option.map_some]; rw [cE_ext a b (fun i => by rw [c])]
theorem wI_off {M : MM} {k : Nat} {g : Nat → Int32} : ∀ k', k' ≠ k → (wI M k g).1 k' = M.1 k' ∧ (wI M k g).2.1 k' = M.2.1 k' ∧ (wI M k g).2.2 k' = M.2.2 k' := fun _ h => ⟨ur_n h, rfl, rfl⟩
theorem wJ_off {M : MM} {k : Nat} {g : Nat → Int64} : ∀ k', k' ≠ k → (wJ M k g).1 k' = M.1 k' ∧ (wJ M k g).2.1 k' = M.2.1 k' ∧ (wJ M k g).2.2 k' = M.2.2 k' := fun _ h => ⟨rfl, ur_n h, rfl⟩
theorem wR_off {M : MM} {k : Nat} {g : Nat → Option Nat} : ∀ k', k' ≠ k → (wR M k g).1 k' = M.1 k' ∧ (wR M k g).2.1 k' = M.2.1 k' ∧ (wR M k g).2.2 k' = M.2.2 k' := fun _ h => ⟨rfl, rfl, ur_n h⟩
-- values
def cV (ad : Nat → Nat) : Value → Value
  | .ref k => .ref (ad k)
  | v => v
abbrev cL (ad : Nat → Nat) (q : Nat × Value) : Nat × Value := (q.1, cV ad q.2)
theorem cV_cat {ad : Nat → Nat} {v : Value} : (cV ad v).category = v.category := by cases v <;> rfl
theorem cV_rf {ad : Nat → Nat} {r : Option Nat} : va_re ad r = cV ad (va_rf r) := by cases r <;> rfl
abbrev EV : Type := va_G × (Nat → ClassId)
def tyL (E : EV) : List (ClassId × FieldType) := [(E.2 0, .int), (E.2 1, .long), (E.2 2, .boolean), (E.2 3, .object RX4), (E.2 4, .array .int)]
def Wd (E : EV) (ad : Nat → Nat) (sh : Sh) (M : MM) (A : Nat → Prop) (H : Heap) : Prop := va_P E.1 cls8 (cW E.2 ad sh M) H ∧ va_D A (cW E.2 ad sh M)
def Wk (E : EV) (U : State) : Prop := va_K E.1 cls8 (tyL E) U
-- what is there before the law and stays: two tables, String constants, three statics of the JDK
def tabA (j : Nat) : Int32 := [-1, 0, 0, 0, 1, 2, 3].getD j 0
def tabB (j : Nat) : Int32 := [10, 11, 12, 0, 20, 0, 30, 0, 0, 0, 0, 40, 50, 51, 0, 0, 0, 60, 71, 70, 0].getD j 0
def sIx (i : Nat) : Nat := [71, 77, 79, 81, 89, 95].getD i 0
def sTx (i : Nat) : String := ["lean", "more", "sh", "ort", "dknslp", "<=>"].getD i ""
def sLen : List Nat := [4, 4, 2, 3, 6, 3]
def sByt : List (List Int32) := [[108, 101, 97, 110], [109, 111, 114, 101], [115, 104], [111, 114, 116], [100, 107, 110, 115, 108, 112], [60, 61, 62]]
def va_AOA (t : FieldType) (U : State) : Prop := (Cond.arrayOver (.array t)).before #[] U = true
theorem va_AOA.of {t : FieldType} {A : Array Value} {U : State} (h : (Cond.arrayOver (.array t)).before A U = true) : va_AOA t U := h
theorem va_AOA.use {t : FieldType} {A : Array Value} {U : State} (h : va_AOA t U) : (Cond.arrayOver (.array t)).before A U = true := h
theorem va_AOA.moved {t : FieldType} {u U : State} (hvm : u.vm.Alike U.vm) (h : va_AOA t u) : va_AOA t U := by
  obtain ⟨comp, c, k, h1, h2, h3, h4, h5⟩ := arrayOverA_spec h
  obtain ⟨k', hk', he⟩ := hvm.2.2 _ _ h3
  have idx : ∀ vm : Vm, (vm.bare.classes.findIdx? fun (x : Class) => match x.kind with | .array component _ => component == comp | _ => false) = (vm.classes.findIdx? fun (x : Class) => match x.kind with | .array component _ => component == comp | _ => false) := fun vm => by
    simp only [Vm.bare, Array.findIdx?_map]
    rfl
  have hi : (U.vm.classes.findIdx? fun (x : Class) => match x.kind with | .array component _ => component == comp | _ => false) = some c := by
    rw [← idx]
    first | rw [hvm.bare_eq] | rw [← hvm.bare_eq]
    rw [idx]
    exact h2
  have hkind : k'.kind = .array comp (.array t) := by rw [he]; exact h4
  have f1 : U.vm.findClass (FieldType.array t).toString = some comp := by rw [hvm.findClass]; exact h1
  have f2 : U.vm.findClass ("[" ++ (FieldType.array t).toString) = some c := by rw [hvm.findClass]; exact h5
  unfold va_AOA Cond.before Cond.holds
  simp only [Cond.value]
  rw [f1, Option.bind_some]
  refine (congrArg (fun o : Option Nat => (o.bind (fun c => (U.vm.classes[c]?).map fun (k : Class) => match k.kind with | .array _ ty => decide (ty = FieldType.array t) && decide (U.vm.findClass ("[" ++ (FieldType.array t).toString) = some c) | _ => false) == some true)) hi).trans ?_
  simp [hk', hkind, f2]
/-- links of nest mates and arrays of references: they don't ride among the words -/
def Nws (U : State) : Prop := va_Nw (.fieldLinkNest RX0 44 RX6 "ABOVE" "[I" RX6) U ∧ va_Nw (.methodLinkNest RX6 11 yX5_init RX6) U ∧ va_Nw (.methodLinkNest RX6 43 yX2_init RX6) U ∧ va_Nw (.methodLinkNest RX6 54 yX0_init RX6) U ∧ va_Nw (.methodLinkNest RX6 65 yX4_init RX6) U ∧ va_AO RX4 U ∧ va_AOA .int U
theorem Nws_warm {s U : State} (hW : s.WarmedH U.vm) (h : Nws s) : Nws U := ⟨h.1.warmF hW, h.2.1.warmM hW, h.2.2.1.warmM hW, h.2.2.2.1.warmM hW, h.2.2.2.2.1.warmM hW, h.2.2.2.2.2.1.moved hW.alike, h.2.2.2.2.2.2.moved hW.alike⟩
theorem Nws_same {s U : State} (hv : U.vm = s.vm) (h : Nws s) : Nws U := ⟨h.1.same rfl hv.symm, h.2.1.same rfl hv.symm, h.2.2.1.same rfl hv.symm, h.2.2.2.1.same rfl hv.symm, h.2.2.2.2.1.same rfl hv.symm, h.2.2.2.2.2.1.moved (by rw [hv]; exact Vm.Alike.refl _), h.2.2.2.2.2.2.moved (by rw [hv]; exact Vm.Alike.refl _)⟩
/-- a static that holds null, or a reference to a place that is known -/
def va_Zr (C n d : String) (t : Nat) (A : Nat → Prop) (U : State) (H : Heap) : Prop := va_Z C n d .null A U H ∨ va_Z C n d (.ref t) A U H
theorem va_Zr.moved {C n d : String} {t : Nat} {A : Nat → Prop} {u U : State} {H : Heap} (hvm : u.vm.Alike U.vm) (h : va_Zr C n d t A u H) : va_Zr C n d t A U H := h.imp (va_Z.moved hvm) (va_Z.moved hvm)
theorem va_Zr.kept {C n d : String} {t : Nat} {A : Nat → Prop} {U : State} {H H1 : Heap} (h : va_Zr C n d t A U H) (hq : ∀ a : Nat, a < H.size → ¬ A a → H1[a]? = H[a]?) : va_Zr C n d t A U H1 := h.imp (fun x => x.kept hq) (fun x => x.kept hq)
theorem va_Zr.narrow {C n d : String} {t : Nat} {A B : Nat → Prop} {U : State} {H : Heap} (h : va_Zr C n d t A U H) (hAB : ∀ q, B q → A q) : va_Zr C n d t B U H := h.imp (fun x => x.narrow hAB) (fun x => x.narrow hAB)
def St (ad : Nat → Nat) (A : Nat → Prop) (U : State) (H : Heap) : Prop :=
  va_Z RX6 "ABOVE" "[I" (.ref (ad 1000)) A U H ∧ va_T .int (ad 1000) 7 (fun j => .int (tabA j)) A U H ∧
  va_Z RX0 "BODIES" "[I" (.ref (ad 1001)) A U H ∧ va_T .int (ad 1001) 21 (fun j => .int (tabB j)) A U H ∧
  va_Z RJ0 "COMPACT_STRINGS" "Z" (.int 1) A U H ∧ va_Zr RJ3 "SIOOBE_FORMATTER" "Ljava/util/function/BiFunction;" (ad 1030) A U H ∧
  vk_S 6 sLen sByt (fun i => ad (1010 + i)) (fun i => ad (1020 + i)) A U H ∧
  (∀ i, i < 6 → vk_R RX2 (sIx i) (sTx i) (ad (1010 + i)) U) ∧ Nws U
theorem St_ad {ad ad' : Nat → Nat} {A : Nat → Prop} {U : State} {H : Heap} (h : St ad A U H) (e : ∀ j, 1000 ≤ j → ad' j = ad j) : St ad' A U H := by
  have e1 : (fun i => ad' (1010 + i)) = (fun i => ad (1010 + i)) := funext fun i => e _ (by omega)
  have e2 : (fun i => ad' (1020 + i)) = (fun i => ad (1020 + i)) := funext fun i => e _ (by omega)
  unfold St
  rw [e 1000 (by omega), e 1001 (by omega), e 1030 (by omega), e1, e2]
  refine ⟨h.1, h.2.1, h.2.2.1, h.2.2.2.1, h.2.2.2.2.1, h.2.2.2.2.2.1, h.2.2.2.2.2.2.1, fun i hi => ?_, h.2.2.2.2.2.2.2.2⟩
  rw [e (1010 + i) (by omega)]
  exact h.2.2.2.2.2.2.2.1 i hi
/-- the same at a later heap, for fewer cells that may change -/
theorem St_at {ad : Nat → Nat} {A B : Nat → Prop} {s U : State} {H H1 : Heap} (h : St ad A s H) (hvm : s.vm.Alike U.vm) (hR : (∀ i, i < 6 → vk_R RX2 (sIx i) (sTx i) (ad (1010 + i)) U) ∧ Nws U) (hq : ∀ a : Nat, a < H.size → ¬ A a → H1[a]? = H[a]?) (hAB : ∀ q, B q → A q) : St ad B U H1 := by
  obtain ⟨a1, a2, a3, a4, a5, a6, a7, -⟩ := h
  exact ⟨((a1.moved hvm).kept hq).narrow hAB, ((a2.moved hvm).kept hq).narrow hAB, ((a3.moved hvm).kept hq).narrow hAB, ((a4.moved hvm).kept hq).narrow hAB, ((a5.moved hvm).kept hq).narrow hAB, ((a6.moved hvm).kept hq).narrow hAB, ((a7.moved hvm).kept hq).narrow hAB, hR⟩
theorem St_warm {ad : Nat → Nat} {A B : Nat → Prop} {s U : State} {H H1 : Heap} (h : St ad A s H) (hW : s.WarmedH U.vm) (hq : ∀ a : Nat, a < H.size → ¬ A a → H1[a]? = H[a]?) (hAB : ∀ q, B q → A q) : St ad B U H1 :=
  St_at h hW.alike ⟨fun i hi => (h.2.2.2.2.2.2.2.1 i hi).warm hW, Nws_warm hW h.2.2.2.2.2.2.2.2⟩ hq hAB
theorem St_same {ad : Nat → Nat} {A : Nat → Prop} {s U : State} {H : Heap} (h : St ad A s H) (hv : U.vm = s.vm) : St ad A U H :=
  St_at h (by rw [hv]; exact Vm.Alike.refl _) ⟨fun i hi => (h.2.2.2.2.2.2.2.1 i hi).same hv, Nws_same hv h.2.2.2.2.2.2.2.2⟩ (fun _ _ _ => rfl) (fun _ q => q)
