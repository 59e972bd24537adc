/-! THE RULES: fields, arrays, calls, what is made -/
theorem nF8 : ∀ {ci : Nat} {q : vw_C}, cls8[ci]? = some q → nF ci = q.2.2 := by
  intro ci q h
  match ci, h with
  | 0, h => cases h; rfl
  | 1, h => cases h; rfl
  | 2, h => cases h; rfl
  | 3, h => cases h; rfl
  | 4, h => cases h; rfl
  | 5, h => cases h; rfl
  | 6, h => cases h; rfl
  | 7, h => cases h; rfl
  | k + 8, h => simp [cls8] at h
def ck (i : Int32) (n : Nat) : Bool := !(decide (i < 0) || decide (n ≤ i.toNatClampNeg))
theorem ck_in {i : Int32} {n : Nat} (h : ck i n = true) : vp_in i n := by
  unfold ck at h
  simp only [Bool.not_eq_true', Bool.or_eq_false_iff, decide_eq_false_iff_not] at h
  exact fun q => q.elim h.1 h.2
section MB
variable {ct : Nat → ClassId} {ad : Nat → Nat} {M : MM} {kk nn ci j : Nat}
theorem cE_i : cE ct ad M kk (0, nn) = .inl (ct 0, nn, .inl (M.1 kk)) := by simp [cE]
theorem cE_l : cE ct ad M kk (1, nn) = .inl (ct 1, nn, .inr (.inl (M.2.1 kk))) := by simp [cE]
theorem cE_z : cE ct ad M kk (2, nn) = .inl (ct 2, nn, .inl (M.1 kk)) := by simp [cE]
theorem cE_q : cE ct ad M kk (3, nn) = .inl (ct 3, nn, .inr (.inr (.inr (.inr (fun i => (M.2.2 kk i).map ad))))) := by simp [cE]
theorem cE_a : cE ct ad M kk (4, nn) = .inl (ct 4, nn, .inr (.inr (.inr (.inr (fun i => (M.2.2 kk i).map ad))))) := by simp [cE]
theorem cF_len : (cF ad M kk ci).length = nF ci := by simp [cF]
theorem cF_I (h : j < nF ci) (hr : fR ci j = false) : (cF ad M kk ci)[j]? = some (.int (M.1 kk j)) := by
  simp [cF, h, hr]
theorem cF_R (h : j < nF ci) (hr : fR ci j = true) : (cF ad M kk ci)[j]? = some (cV ad (va_rf (M.2.2 kk j))) := by
  rw [← cV_rf]
  simp [cF, h, hr]
theorem cF_setI {x : Int32} (hr : fR ci j = false) : cF ad (wI M kk (upd (M.1 kk) j x)) kk ci = (cF ad M kk ci).set j (.int x) := by
  apply List.ext_getElem?
  intro i
  rw [List.getElem?_set]
  by_cases hi : j = i
  · subst hi
    rw [if_pos rfl, cF_len]
    by_cases hl : j < nF ci
    · rw [if_pos hl, cF_I hl hr]
      simp [wI, ur, upd]
    · rw [if_neg hl, List.getElem?_eq_none (by rw [cF_len]; omega)]
  · rw [if_neg hi]
    have hi' : ¬ i = j := fun q => hi q.symm
    simp only [cF, wI, ur_s, List.getElem?_map]
    by_cases hl : i < nF ci
    · simp [hl, upd, hi']
    · simp [hl]
theorem cF_setR {r : Option Nat} (hr : fR ci j = true) : cF ad (wR M kk (va_up (M.2.2 kk) j r)) kk ci = (cF ad M kk ci).set j (cV ad (va_rf r)) := by
  rw [← cV_rf]
  apply List.ext_getElem?
  intro i
  rw [List.getElem?_set]
  by_cases hi : j = i
  · subst hi
    rw [if_pos rfl, cF_len]
    by_cases hl : j < nF ci
    · rw [if_pos hl]
      simp [cF, hl, hr, wR, ur, va_up]
    · rw [if_neg hl, List.getElem?_eq_none (by rw [cF_len]; omega)]
  · rw [if_neg hi]
    have hi' : ¬ i = j := fun q => hi q.symm
    simp only [cF, wR, ur_s, List.getElem?_map]
    by_cases hl : i < nF ci
    · simp [hl, va_up, hi']
    · simp [hl]
end MB
theorem narrow_rf {ty : FieldType} {r : Option Nat} : narrow ty (va_rf r) = va_rf r := by cases r <;> cases ty <;> rfl
section MM
variable {ρ : Type} {em : EM ρ} {b : Bool} {d k n : Nat} {Y : YD} {sh : Sh} {R : RR} {m : MI} {pc : Nat} {ls : List (Nat × Value)} {st : List Value} {f : Option ρ}
variable {ci j idx kk nn : Nat} {q : vw_C}
theorem S_read {st' : List Value} {pc' : Nat}
    (h : ∀ {p : Program} {l : Launch} {e : Env} {R0 : Room} {s : State} {m0 : MethodId} {args : Array Value} {below : List Frame} {meth : Method} {c : Code} {H : Heap} {locs : List Loc} {cells slots : Nat} {Q' : State → Prop} {larr : Array Slot} {E : EV} {ad : Nat → Nat} {A : Nat → Prop},
      Cx Y E ad A p s m0 args meth c → Wd E ad sh (mk m R) A H → va_S A s.heap H locs → W p l e R0 s m0 args below meth c H locs cells slots Q' (F0 m0 pc' larr (st'.map (cV ad))) → W p l e R0 s m0 args below meth c H locs cells slots Q' (F0 m0 pc larr (st.map (cV ad))))
    (g : S em b d k n Y sh R m pc' ls st' f) : S em b d k n Y sh R m pc ls st f := fun r hr => G_read h (g r hr)
theorem S_mem {st' : List Value} {pc' : Nat} {R' : RR} {m' : MI}
    (h : ∀ {p : Program} {l : Launch} {e : Env} {R0 : Room} {s : State} {m0 : MethodId} {args : Array Value} {below : List Frame} {meth : Method} {c : Code} {H : Heap} {locs : List Loc} {cells slots : Nat} {Q' : State → Prop} {larr : Array Slot} {E : EV} {ad : Nat → Nat} {A : Nat → Prop},
      Cx Y E ad A p s m0 args meth c → Wd E ad sh (mk m R) A H → va_S A s.heap H locs → larr.size = Y.2.2.1 → R0.frames = d → R0.locals = 64 * d → (∀ (H1 : Heap) (locs1 : List Loc), Wd E ad sh (mk m' R') A H1 → va_S A s.heap H1 locs1 → W p l e R0 s m0 args below meth c H1 locs1 cells slots Q' (F0 m0 pc' larr (st'.map (cV ad)))) → W p l e R0 s m0 args below meth c H locs cells slots Q' (F0 m0 pc larr (st.map (cV ad))))
    (g : S em b d k n Y sh R' m' pc' ls st' f) : S em b d k n Y sh R m pc ls st f := fun r hr => G_mem h (g r hr)
/-- a store, as the kit's rows give it back -/
theorem Wd_set {E : EV} {ad : Nat → Nat} {A : Nat → Prop} {M M' : MM} {H1 : Heap} {s : Nat × Nat} {e : va_E} (h : sh[kk]? = some s) (h1 : ∀ k', k' ≠ kk → M'.1 k' = M.1 k' ∧ M'.2.1 k' = M.2.1 k' ∧ M'.2.2 k' = M.2.2 k') (h2 : cE E.2 ad M' kk s = e) (hP : va_P E.1 cls8 ((cW E.2 ad sh M).set kk (ad kk, e)) H1) (hD : va_D A ((cW E.2 ad sh M).set kk (ad kk, e))) : Wd E ad sh M' A H1 := by
  rw [cW_set h h1 h2] at hP hD
  exact ⟨hP, hD⟩
theorem o_getI (hd : decode Y.2.1 pc = .ok (.getfield idx, 3)) (hs : sh[kk]? = some (10 + ci, nn)) (hc : cls8[ci]? = some q) (hj : j < q.2.2) (hw : Cond.fieldLink Y.1.cls idx (q.2.1 j).1 (q.2.1 j).2.1 (q.2.1 j).2.2.1 ∈ tW) (hr : fR ci j = false)
    (g : S em b d k n Y sh R m (pc + 3) ls (.int (m.1 kk j) :: st) f) : S em b d k n Y sh R m pc ls (.ref kk :: st) f :=
  S_read (fun {p l e R0 s m0 args below meth c H locs cells slots Q' larr E ad A} hC hW hS kx => va_get (ref := (q.2.1 j).1) (C := q.1) (T := q.2.1) (N := q.2.2) hC.1 hC.2.1 hC.2.2.2.2.1 (in8 hc) hC.2.2.2.1 hC.2.2.2.2.2.2.2.2.1 hW.1 kk (by rw [cW_get hs, cE_obj]) hc j hj (hC.2.2.2.2.1 _ hw) (fun _ h => h) (cF_I (by rw [nF8 hc]; exact hj) hr) hd kx) g
theorem o_getR (hd : decode Y.2.1 pc = .ok (.getfield idx, 3)) (hs : sh[kk]? = some (10 + ci, nn)) (hc : cls8[ci]? = some q) (hj : j < q.2.2) (hw : Cond.fieldLink Y.1.cls idx (q.2.1 j).1 (q.2.1 j).2.1 (q.2.1 j).2.2.1 ∈ tW) (hr : fR ci j = true) {r : Option Nat} (hv : R kk j = r)
    (g : S em b d k n Y sh R m (pc + 3) ls (va_rf r :: st) f) : S em b d k n Y sh R m pc ls (.ref kk :: st) f :=
  S_read (fun {p l e R0 s m0 args below meth c H locs cells slots Q' larr E ad A} hC hW hS kx => va_get (ref := (q.2.1 j).1) (C := q.1) (T := q.2.1) (N := q.2.2) hC.1 hC.2.1 hC.2.2.2.2.1 (in8 hc) hC.2.2.2.1 hC.2.2.2.2.2.2.2.2.1 hW.1 kk (by rw [cW_get hs, cE_obj]) hc j hj (hC.2.2.2.2.1 _ hw) (fun _ h => h) (cF_R (M := mk m R) (by rw [nF8 hc]; exact hj) hr) hd (by rw [show (mk m R).2.2 kk j = r from hv]; exact kx)) g
theorem o_putI {x : Int32} {ty : FieldType} (hd : decode Y.2.1 pc = .ok (.putfield idx, 3)) (hs : sh[kk]? = some (10 + ci, nn)) (hc : cls8[ci]? = some q) (hj : j < q.2.2) (hw : Cond.fieldLink Y.1.cls idx (q.2.1 j).1 (q.2.1 j).2.1 (q.2.1 j).2.2.1 ∈ tW) (hr : fR ci j = false)
    (hfin : (q.2.1 j).2.2.2 = false) (ht : ty8 ci j = ty) (hn : narrow ty (.int x) = .int x) (hfit : fits ty (.int x) = true)
    (g : S em b d k n Y sh R (mI m kk (upd (m.1 kk) j x)) (pc + 3) ls st f) : S em b d k n Y sh R m pc ls (.int x :: .ref kk :: st) f :=
  S_mem (fun {p l e R0 s m0 args below meth c H locs cells slots Q' larr E ad A} hC hW hS _ _ _ kx => va_put (ref := (q.2.1 j).1) (C := q.1) (T := q.2.1) (N := q.2.2) hC.1 hC.2.1 hC.2.2.2.2.1 (in8 hc) (ty8 ci) (ty8_ok hc) (nm8 hc) hC.2.2.2.1 hC.2.2.2.2.2.2.2.2.1 hW.1 hW.2 hS kk (by rw [cW_get hs, cE_obj]) hc j hj (hC.2.2.2.2.1 _ hw) (fun _ h => h) hfin (ht ▸ ty8_ok hc j hj) hn hfit (by rw [cF_len, nF8 hc]; exact hj) hd
    (fun H1 locs1 hP hD hS1 => kx H1 locs1 (Wd_set hs (M' := wI (mk m R) kk (upd (m.1 kk) j x)) wI_off (by rw [cE_obj]; exact congrArg _ (congrArg _ (cF_setI (M := mk m R) hr))) hP hD) hS1)) g
theorem o_putIF {x : Int32} {ty : FieldType} (hd : decode Y.2.1 pc = .ok (.putfield idx, 3)) (hs : sh[kk]? = some (10 + ci, nn)) (hc : cls8[ci]? = some q) (hj : j < q.2.2) (hw : Cond.fieldLink Y.1.cls idx (q.2.1 j).1 (q.2.1 j).2.1 (q.2.1 j).2.2.1 ∈ tW) (hr : fR ci j = false)
    (hfin : (q.2.1 j).2.2.2 = true) (hnm : Y.1.name = "<init>") (hdc : (q.2.1 j).1 = Y.1.cls) (ht : ty8 ci j = ty) (hn : narrow ty (.int x) = .int x) (hfit : fits ty (.int x) = true)
    (g : S em b d k n Y sh R (mI m kk (upd (m.1 kk) j x)) (pc + 3) ls st f) : S em b d k n Y sh R m pc ls (.int x :: .ref kk :: st) f :=
  S_mem (fun {p l e R0 s m0 args below meth c H locs cells slots Q' larr E ad A} hC hW hS _ _ _ kx => va_putF (ref := (q.2.1 j).1) (C := q.1) (T := q.2.1) (N := q.2.2) hC.1 hC.2.1 hC.2.2.2.2.1 (in8 hc) (ty8 ci) (ty8_ok hc) (nm8 hc) hC.2.2.2.1 hC.2.2.2.2.2.2.2.2.1 hW.1 hW.2 hS kk (by rw [cW_get hs, cE_obj]) hc j hj (hC.2.2.2.2.1 _ hw) (fun _ h => h) hfin (hC.2.2.2.2.2.2.2.1.trans hnm) hdc (ht ▸ ty8_ok hc j hj) hn hfit (by rw [cF_len, nF8 hc]; exact hj) hd
    (fun H1 locs1 hP hD hS1 => kx H1 locs1 (Wd_set hs (M' := wI (mk m R) kk (upd (m.1 kk) j x)) wI_off (by rw [cE_obj]; exact congrArg _ (congrArg _ (cF_setI (M := mk m R) hr))) hP hD) hS1)) g
theorem o_putR {r : Option Nat} {ty : FieldType} (hd : decode Y.2.1 pc = .ok (.putfield idx, 3)) (hs : sh[kk]? = some (10 + ci, nn)) (hc : cls8[ci]? = some q) (hj : j < q.2.2) (hw : Cond.fieldLink Y.1.cls idx (q.2.1 j).1 (q.2.1 j).2.1 (q.2.1 j).2.2.1 ∈ tW) (hr : fR ci j = true)
    (hfin : (q.2.1 j).2.2.2 = false) (ht : ty8 ci j = ty) (hfit : ∀ a, fits ty (va_rf a) = true)
    (g : S em b d k n Y sh (ur R kk (va_up (R kk) j r)) m (pc + 3) ls st f) : S em b d k n Y sh R m pc ls (va_rf r :: .ref kk :: st) f :=
  S_mem (fun {p l e R0 s m0 args below meth c H locs cells slots Q' larr E ad A} hC hW hS _ _ _ kx => va_put (v := cV ad (va_rf r)) (ref := (q.2.1 j).1) (C := q.1) (T := q.2.1) (N := q.2.2) hC.1 hC.2.1 hC.2.2.2.2.1 (in8 hc) (ty8 ci) (ty8_ok hc) (nm8 hc) hC.2.2.2.1 hC.2.2.2.2.2.2.2.2.1 hW.1 hW.2 hS kk (by rw [cW_get hs, cE_obj]) hc j hj (hC.2.2.2.2.1 _ hw) (fun _ h => h) hfin (ht ▸ ty8_ok hc j hj) (by rw [← cV_rf]; exact narrow_rf) (by rw [← cV_rf]; exact hfit _) (by rw [cF_len, nF8 hc]; exact hj) hd
    (fun H1 locs1 hP hD hS1 => kx H1 locs1 (Wd_set hs (M' := wR (mk m R) kk (va_up (R kk) j r)) wR_off (by rw [cE_obj, ← cF_setR hr]) hP hD) hS1)) g
theorem o_putRF {r : Option Nat} {ty : FieldType} (hd : decode Y.2.1 pc = .ok (.putfield idx, 3)) (hs : sh[kk]? = some (10 + ci, nn)) (hc : cls8[ci]? = some q) (hj : j < q.2.2) (hw : Cond.fieldLink Y.1.cls idx (q.2.1 j).1 (q.2.1 j).2.1 (q.2.1 j).2.2.1 ∈ tW) (hr : fR ci j = true)
    (hfin : (q.2.1 j).2.2.2 = true) (hnm : Y.1.name = "<init>") (hdc : (q.2.1 j).1 = Y.1.cls) (ht : ty8 ci j = ty) (hfit : ∀ a, fits ty (va_rf a) = true)
    (g : S em b d k n Y sh (ur R kk (va_up (R kk) j r)) m (pc + 3) ls st f) : S em b d k n Y sh R m pc ls (va_rf r :: .ref kk :: st) f :=
  S_mem (fun {p l e R0 s m0 args below meth c H locs cells slots Q' larr E ad A} hC hW hS _ _ _ kx => va_putF (v := cV ad (va_rf r)) (ref := (q.2.1 j).1) (C := q.1) (T := q.2.1) (N := q.2.2) hC.1 hC.2.1 hC.2.2.2.2.1 (in8 hc) (ty8 ci) (ty8_ok hc) (nm8 hc) hC.2.2.2.1 hC.2.2.2.2.2.2.2.2.1 hW.1 hW.2 hS kk (by rw [cW_get hs, cE_obj]) hc j hj (hC.2.2.2.2.1 _ hw) (fun _ h => h) hfin (hC.2.2.2.2.2.2.2.1.trans hnm) hdc (ht ▸ ty8_ok hc j hj) (by rw [← cV_rf]; exact narrow_rf) (by rw [← cV_rf]; exact hfit _) (by rw [cF_len, nF8 hc]; exact hj) hd
    (fun H1 locs1 hP hD hS1 => kx H1 locs1 (Wd_set hs (M' := wR (mk m R) kk (va_up (R kk) j r)) wR_off (by rw [cE_obj, ← cF_setR hr]) hP hD) hS1)) g
theorem o_iald {i : Int32} (hd : decode Y.2.1 pc = .ok (.iaload, 1)) (hs : sh[kk]? = some (0, nn)) (hi : vp_in i nn)
    (g : S em b d k n Y sh R m (pc + 1) ls (.int (m.1 kk i.toNatClampNeg) :: st) f) : S em b d k n Y sh R m pc ls (.int i :: .ref kk :: st) f :=
  S_read (fun hC hW hS kx => va_iald hC.1 hC.2.1 hC.2.2.2.2.2.2.2.2.1 hW.1 kk 0 (by rw [cW_get hs, cE_i]) rfl hi hd kx) g
theorem o_zald {i : Int32} (hd : decode Y.2.1 pc = .ok (.baload, 1)) (hs : sh[kk]? = some (2, nn)) (hi : vp_in i nn)
    (g : S em b d k n Y sh R m (pc + 1) ls (.int (m.1 kk i.toNatClampNeg) :: st) f) : S em b d k n Y sh R m pc ls (.int i :: .ref kk :: st) f :=
  S_read (fun hC hW hS kx => va_zald hC.1 hC.2.1 hC.2.2.2.2.2.2.2.2.1 hW.1 kk 2 (by rw [cW_get hs, cE_z]) rfl hi hd kx) g
theorem o_lald {i : Int32} (hd : decode Y.2.1 pc = .ok (.laload, 1)) (hs : sh[kk]? = some (1, nn)) (hi : vp_in i nn)
    (g : S em b d k n Y sh R m (pc + 1) ls (.long (m.2 kk i.toNatClampNeg) :: st) f) : S em b d k n Y sh R m pc ls (.int i :: .ref kk :: st) f :=
  S_read (fun hC hW hS kx => va_lald hC.1 hC.2.1 hC.2.2.2.2.2.2.2.2.1 hW.1 kk 1 (by rw [cW_get hs, cE_l]) rfl hi hd kx) g
/-- a reference out of an array of references, whatever they point to -/
theorem va_aldg {p : Program} {l : Launch} {e : Env} {R : Room} {s : State} {m : MethodId} {args : Array Value} {below : List Frame} {meth : Method} {c : Code} {H : Heap} {locs : List Loc} {cells slots : Nat} {Q : State → Prop} {cc : ByteArray} {pc : Nat} {ls : Array Slot} {rest : List Value} {D : va_G} {cl : List vw_C} {a : Nat} {tys : List (ClassId × FieldType)} {ws : va_W}
    (hexec : p.tables.exec = Jvm.exec) (hb : c.code = cc) (hK : va_K D cl tys s) (hP : va_P D cl ws H) (q0 t0 : Nat) {cA : ClassId} {ty : FieldType} {n : Nat} {f : Nat → Option Nat} (ha : ws[q0]? = some (a, .inl (cA, n, .inr (.inr (.inr (.inr f)))))) (ht : tys[t0]? = some (cA, ty)) (hty : ty.isReference = true) {i : Int32} (hin : vp_in i n) (hdg : decode cc pc = .ok (.aaload, 1))
    (kk : W p l e R s m args below meth c H locs cells slots Q (F0 m (pc + 1) ls (va_rf (f i.toNatClampNeg) :: rest))) : W p l e R s m args below meth c H locs cells slots Q (F0 m pc ls (.int i :: .ref a :: rest)) := by
  have hlt : i.toNatClampNeg < n := Nat.not_le.mp fun q => hin (Or.inr q)
  exact W.aald (v := va_rf (f i.toNatClampNeg)) (ty := ty) hexec hb (hP q0 _ ha) ((hK.2 t0 _ ht).1 n (fun j => va_rf (f j))) hty (fun q => by cases q) (by show ¬ (i < 0 ∨ (arrV _ _ _).slots.size ≤ _); rw [arrV_size]; exact hin) (by show (arrV _ _ _).slots[_]? = _; rw [arrV_read _ _ hlt]) rfl rfl hdg kk
theorem o_aald {i : Int32} {r : Option Nat} (hd : decode Y.2.1 pc = .ok (.aaload, 1)) (hs : sh[kk]? = some (3, nn)) (hi : vp_in i nn) (hv : R kk i.toNatClampNeg = r)
    (g : S em b d k n Y sh R m (pc + 1) ls (va_rf r :: st) f) : S em b d k n Y sh R m pc ls (.int i :: .ref kk :: st) f :=
  S_read (fun {p l e R0 s m0 args below meth c H locs cells slots Q' larr E ad A} hC hW hS kx => va_aldg hC.1 hC.2.1 hC.2.2.2.2.2.2.2.2.1 hW.1 kk 3 (by rw [cW_get hs, cE_q]) rfl rfl hi hd (by
    rw [show va_rf (((mk m R).2.2 kk i.toNatClampNeg).map ad) = cV ad (va_rf r) from by rw [← hv]; exact cV_rf]
    exact kx)) g
theorem o_aaldI {i : Int32} {r : Option Nat} (hd : decode Y.2.1 pc = .ok (.aaload, 1)) (hs : sh[kk]? = some (4, nn)) (hi : vp_in i nn) (hv : R kk i.toNatClampNeg = r)
    (g : S em b d k n Y sh R m (pc + 1) ls (va_rf r :: st) f) : S em b d k n Y sh R m pc ls (.int i :: .ref kk :: st) f :=
  S_read (fun {p l e R0 s m0 args below meth c H locs cells slots Q' larr E ad A} hC hW hS kx => va_aldg hC.1 hC.2.1 hC.2.2.2.2.2.2.2.2.1 hW.1 kk 4 (by rw [cW_get hs, cE_a]) rfl rfl hi hd (by
    rw [show va_rf (((mk m R).2.2 kk i.toNatClampNeg).map ad) = cV ad (va_rf r) from by rw [← hv]; exact cV_rf]
    exact kx)) g
theorem o_alenI (hd : decode Y.2.1 pc = .ok (.arraylength, 1)) (hs : sh[kk]? = some (0, nn)) {v : Int32} (hv : Int32.ofNat nn = v)
    (g : S em b d k n Y sh R m (pc + 1) ls (.int v :: st) f) : S em b d k n Y sh R m pc ls (.ref kk :: st) f :=
  S_read (fun hC hW hS kx => va_alen hC.1 hC.2.1 hC.2.2.2.2.2.2.2.2.1 hW.1 kk 0 (by rw [cW_get hs, cE_i]) (ty := .int) rfl hv hd kx) g
theorem o_alenL (hd : decode Y.2.1 pc = .ok (.arraylength, 1)) (hs : sh[kk]? = some (1, nn)) {v : Int32} (hv : Int32.ofNat nn = v)
    (g : S em b d k n Y sh R m (pc + 1) ls (.int v :: st) f) : S em b d k n Y sh R m pc ls (.ref kk :: st) f :=
  S_read (fun hC hW hS kx => va_alen hC.1 hC.2.1 hC.2.2.2.2.2.2.2.2.1 hW.1 kk 1 (by rw [cW_get hs, cE_l]) (ty := .long) rfl hv hd kx) g
theorem o_iast {i x : Int32} (hd : decode Y.2.1 pc = .ok (.iastore, 1)) (hs : sh[kk]? = some (0, nn)) (hi : vp_in i nn)
    (g : S em b d k n Y sh R (mI m kk (upd (m.1 kk) i.toNatClampNeg x)) (pc + 1) ls st f) : S em b d k n Y sh R m pc ls (.int x :: .int i :: .ref kk :: st) f :=
  S_mem (fun {p l e R0 s m0 args below meth c H locs cells slots Q' larr E ad A} hC hW hS _ _ _ kx => va_iast hC.1 hC.2.1 hC.2.2.2.2.2.2.2.2.1 hW.1 hW.2 hS kk 0 (by rw [cW_get hs, cE_i]) rfl hi hd (fun H1 locs1 hP hD hS1 => kx H1 locs1 (Wd_set hs (M' := wI (mk m R) kk (upd (m.1 kk) i.toNatClampNeg x)) wI_off (by rw [cE_i]; simp only [wI, ur_s]) hP hD) hS1)) g
theorem o_zast {i x : Int32} (hd : decode Y.2.1 pc = .ok (.bastore, 1)) (hs : sh[kk]? = some (2, nn)) (hi : vp_in i nn)
    (g : S em b d k n Y sh R (mI m kk (upd (m.1 kk) i.toNatClampNeg (vp_nar .boolean x))) (pc + 1) ls st f) : S em b d k n Y sh R m pc ls (.int x :: .int i :: .ref kk :: st) f :=
  S_mem (fun {p l e R0 s m0 args below meth c H locs cells slots Q' larr E ad A} hC hW hS _ _ _ kx => va_zast hC.1 hC.2.1 hC.2.2.2.2.2.2.2.2.1 hW.1 hW.2 hS kk 2 (by rw [cW_get hs, cE_z]) rfl hi hd (fun H1 locs1 hP hD hS1 => kx H1 locs1 (Wd_set hs (M' := wI (mk m R) kk (upd (m.1 kk) i.toNatClampNeg (vp_nar .boolean x))) wI_off (by rw [cE_z]; simp only [wI, ur_s]) hP hD) hS1)) g
theorem o_last {i : Int32} {x : Int64} (hd : decode Y.2.1 pc = .ok (.lastore, 1)) (hs : sh[kk]? = some (1, nn)) (hi : vp_in i nn)
    (g : S em b d k n Y sh R (mJ m kk (vp_updL (m.2 kk) i.toNatClampNeg x)) (pc + 1) ls st f) : S em b d k n Y sh R m pc ls (.long x :: .int i :: .ref kk :: st) f :=
  S_mem (fun {p l e R0 s m0 args below meth c H locs cells slots Q' larr E ad A} hC hW hS _ _ _ kx => va_last hC.1 hC.2.1 hC.2.2.2.2.2.2.2.2.1 hW.1 hW.2 hS kk 1 (by rw [cW_get hs, cE_l]) rfl hi hd (fun H1 locs1 hP hD hS1 => kx H1 locs1 (Wd_set hs (M' := wJ (mk m R) kk (vp_updL (m.2 kk) i.toNatClampNeg x)) wJ_off (by rw [cE_l]; simp only [wJ, ur_s]) hP hD) hS1)) g
/-- System.arraycopy over int[] -/
theorem o_copyi {k0 n0 : Nat} {sp dp c : Int32} (hd : decode Y.2.1 pc = .ok (.invokestatic idx, 3)) (hw : Cond.methodLink Y.1.cls idx arraycopyName ∈ tW) (hw1 : Cond.native arraycopyName ∈ tW) (hw2 : Cond.static arraycopyName ∈ tW) (hw3 : Cond.initialized "java/lang/System" ∈ tW)
    (hs0 : sh[k0]? = some (0, n0)) (hs : sh[kk]? = some (0, nn)) (h1 : ¬ sp < 0) (h2 : ¬ dp < 0) (h3 : ¬ c < 0) (h4 : sp.toNatClampNeg + c.toNatClampNeg ≤ n0) (h5 : dp.toNatClampNeg + c.toNatClampNeg ≤ nn) (hd1 : 1 ≤ d) (hcat : (st.map fun v => v.category).sum ≤ 8) (hl : 8 + (nativeFrameWords "java/lang/System" "arraycopy" 5 + 11) ≤ 64)
    (g : S em b d k n Y sh R (mI m kk (va_cpy (m.1 k0) (m.1 kk) sp.toNatClampNeg dp.toNatClampNeg c.toNatClampNeg)) (pc + 3) ls st f) : S em b d k n Y sh R m pc ls (.int c :: .int dp :: .ref kk :: .int sp :: .ref k0 :: st) f :=
  S_mem (fun {p l e R0 s m0 args below meth cx H locs cells slots Q' larr E ad A} hC hW hS hsz hRf hRl kx => va_copyi hC.1 hC.2.1 (hC.2.2.1.trans hsz.symm) hC.2.2.2.1 (hC.2.2.2.2.1 _ hw) (hC.2.2.2.2.1 _ hw1) (hC.2.2.2.2.1 _ hw2) (hC.2.2.2.2.1 _ hw3) hC.2.2.2.2.2.2.2.2.1 hW.1 hW.2 hS k0 kk 0 0 (by rw [cW_get hs0, cE_i]) (by rw [cW_get hs, cE_i]) rfl rfl rfl h1 h2 h3 h4 h5 (fun _ _ => rfl) (by rw [hRf]; exact hd1) (by rw [hRl, List.map_map]; simp only [Function.comp_def, cV_cat]; omega) hd
    (fun H1 locs1 hP hD hS1 => kx H1 locs1 (Wd_set hs (M' := wI (mk m R) kk (va_cpy (m.1 k0) (m.1 kk) sp.toNatClampNeg dp.toNatClampNeg c.toNatClampNeg)) wI_off (by rw [cE_i]; simp only [wI, ur_s]) hP hD) hS1)) g
/-- System.arraycopy over long[] -/
theorem o_copyl {k0 n0 : Nat} {sp dp c : Int32} (hd : decode Y.2.1 pc = .ok (.invokestatic idx, 3)) (hw : Cond.methodLink Y.1.cls idx arraycopyName ∈ tW) (hw1 : Cond.native arraycopyName ∈ tW) (hw2 : Cond.static arraycopyName ∈ tW) (hw3 : Cond.initialized "java/lang/System" ∈ tW)
    (hs0 : sh[k0]? = some (1, n0)) (hs : sh[kk]? = some (1, nn)) (h1 : ¬ sp < 0) (h2 : ¬ dp < 0) (h3 : ¬ c < 0) (h4 : sp.toNatClampNeg + c.toNatClampNeg ≤ n0) (h5 : dp.toNatClampNeg + c.toNatClampNeg ≤ nn) (hd1 : 1 ≤ d) (hcat : (st.map fun v => v.category).sum ≤ 8) (hl : 8 + (nativeFrameWords "java/lang/System" "arraycopy" 5 + 11) ≤ 64)
    (g : S em b d k n Y sh R (mJ m kk (va_cpy (m.2 k0) (m.2 kk) sp.toNatClampNeg dp.toNatClampNeg c.toNatClampNeg)) (pc + 3) ls st f) : S em b d k n Y sh R m pc ls (.int c :: .int dp :: .ref kk :: .int sp :: .ref k0 :: st) f :=
  S_mem (fun {p l e R0 s m0 args below meth cx H locs cells slots Q' larr E ad A} hC hW hS hsz hRf hRl kx => va_copyl hC.1 hC.2.1 (hC.2.2.1.trans hsz.symm) hC.2.2.2.1 (hC.2.2.2.2.1 _ hw) (hC.2.2.2.2.1 _ hw1) (hC.2.2.2.2.1 _ hw2) (hC.2.2.2.2.1 _ hw3) hC.2.2.2.2.2.2.2.2.1 hW.1 hW.2 hS k0 kk 1 1 (by rw [cW_get hs0, cE_l]) (by rw [cW_get hs, cE_l]) rfl rfl rfl h1 h2 h3 h4 h5 (fun _ _ => rfl) (by rw [hRf]; exact hd1) (by rw [hRl, List.map_map]; simp only [Function.comp_def, cV_cat]; omega) hd
    (fun H1 locs1 hP hD hS1 => kx H1 locs1 (Wd_set hs (M' := wJ (mk m R) kk (va_cpy (m.2 k0) (m.2 kk) sp.toNatClampNeg dp.toNatClampNeg c.toNatClampNeg)) wJ_off (by rw [cE_l]; simp only [wJ, ur_s]) hP hD) hS1)) g
/-- the two tables -/
theorem o_getsA (hd : decode Y.2.1 pc = .ok (.getstatic idx, 3)) (hw : Cond.fieldLink Y.1.cls idx RX6 "ABOVE" "[I" ∈ tW) (g : S em b d k n Y sh R m (pc + 3) ls (.ref 1000 :: st) f) : S em b d k n Y sh R m pc ls st f :=
  S_read (fun hC hW hS kx => va_gets (ref := RX6) hC.1 hC.2.1 hC.2.2.2.2.2.2.2.2.2.1.1 hS hC.2.2.2.1 (hC.2.2.2.2.1 _ hw) (fun _ h => h) hd kx) g
theorem o_getsAN (hY : Y.1.cls = RX0) (hd : decode Y.2.1 pc = .ok (.getstatic 44, 3)) (g : S em b d k n Y sh R m (pc + 3) ls (.ref 1000 :: st) f) : S em b d k n Y sh R m pc ls st f :=
  S_read (fun hC hW hS kx => va_getsN (ref := RX6) (own := RX0) (host := RX6) hC.1 hC.2.1 hC.2.2.2.2.2.2.2.2.2.1.1 hS (hY ▸ hC.2.2.2.1) (hC.2.2.2.2.2.2.2.2.2.1.2.2.2.2.2.2.2.2.1.use rfl) (fun _ h => h) hd kx) g
theorem o_getsB (hd : decode Y.2.1 pc = .ok (.getstatic idx, 3)) (hw : Cond.fieldLink Y.1.cls idx RX0 "BODIES" "[I" ∈ tW) (g : S em b d k n Y sh R m (pc + 3) ls (.ref 1001 :: st) f) : S em b d k n Y sh R m pc ls st f :=
  S_read (fun hC hW hS kx => va_gets (ref := RX0) hC.1 hC.2.1 hC.2.2.2.2.2.2.2.2.2.1.2.2.1 hS hC.2.2.2.1 (hC.2.2.2.2.1 _ hw) (fun _ h => h) hd kx) g
theorem o_getsC (hd : decode Y.2.1 pc = .ok (.getstatic idx, 3)) (hw : Cond.fieldLink Y.1.cls idx RJ0 "COMPACT_STRINGS" "Z" ∈ tW) (g : S em b d k n Y sh R m (pc + 3) ls (.int 1 :: st) f) : S em b d k n Y sh R m pc ls st f :=
  S_read (fun hC hW hS kx => va_gets (ref := RJ0) hC.1 hC.2.1 hC.2.2.2.2.2.2.2.2.2.1.2.2.2.2.1 hS hC.2.2.2.1 (hC.2.2.2.2.1 _ hw) (fun _ h => h) hd kx) g
theorem o_tabA {i : Int32} (hd : decode Y.2.1 pc = .ok (.iaload, 1)) (hi : vp_in i 7) (g : S em b d k n Y sh R m (pc + 1) ls (.int (tabA i.toNatClampNeg) :: st) f) : S em b d k n Y sh R m pc ls (.int i :: .ref 1000 :: st) f :=
  S_read (fun hC hW hS kx => va_ti hC.1 hC.2.1 hC.2.2.2.2.2.2.2.2.2.1.2.1 hS hi rfl hd kx) g
theorem o_tabB {i : Int32} (hd : decode Y.2.1 pc = .ok (.iaload, 1)) (hi : vp_in i 21) (g : S em b d k n Y sh R m (pc + 1) ls (.int (tabB i.toNatClampNeg) :: st) f) : S em b d k n Y sh R m pc ls (.int i :: .ref 1001 :: st) f :=
  S_read (fun hC hW hS kx => va_ti hC.1 hC.2.1 hC.2.2.2.2.2.2.2.2.2.1.2.2.2.1 hS hi rfl hd kx) g
/-- Math.max, Math.min -/
theorem o_max {x y : Int32} (hd : decode Y.2.1 pc = .ok (.invokestatic idx, 3)) (hw : Cond.methodLink Y.1.cls idx Lib.Math.max.name ∈ tW) (hw1 : Cond.static Lib.Math.max.name ∈ tW) (hw2 : Cond.initialized "java/lang/Math" ∈ tW) (hw3 : Cond.code Lib.Math.max.name Lib.Math.max.code 2 (some .int) ∈ tW) (hd1 : 1 ≤ d) (hcat : (st.map fun v => v.category).sum ≤ 8)
    (g : S em b d k n Y sh R m (pc + 3) ls (.int (if x < y then y else x) :: st) f) : S em b d k n Y sh R m pc ls (.int y :: .int x :: st) f := fun r hr => by
  intro p l e s m0 args below meth c H locs cells slots E ad0 n0 ad A larr mc ms hC hAg hn hW hS hl hk hs
  exact va_mmax hC.1 hC.2.1 (hC.2.2.1.trans hl.1.symm) hC.2.2.2.1 (hC.2.2.2.2.1 _ hw) (hC.2.2.2.2.1 _ hw1) (hC.2.2.2.2.1 _ hw2) (hC.2.2.2.2.1 _ hw3) hd1 (by rw [List.map_map]; simp only [Function.comp_def, cV_cat]; show _ ≤ 64 * d; omega) (by show cells ≤ mc; omega) (by show slots ≤ ms; omega) hd (g r hr p l e s m0 args below meth c H locs cells slots E ad0 n0 ad A larr mc ms hC hAg hn hW hS hl hk hs)
theorem o_min {x y : Int32} (hd : decode Y.2.1 pc = .ok (.invokestatic idx, 3)) (hw : Cond.methodLink Y.1.cls idx Lib.Math.min.name ∈ tW) (hw1 : Cond.static Lib.Math.min.name ∈ tW) (hw2 : Cond.initialized "java/lang/Math" ∈ tW) (hw3 : Cond.code Lib.Math.min.name Lib.Math.min.code 2 (some .int) ∈ tW) (hd1 : 1 ≤ d) (hcat : (st.map fun v => v.category).sum ≤ 8)
    (g : S em b d k n Y sh R m (pc + 3) ls (.int (if y < x then y else x) :: st) f) : S em b d k n Y sh R m pc ls (.int y :: .int x :: st) f := fun r hr => by
  intro p l e s m0 args below meth c H locs cells slots E ad0 n0 ad A larr mc ms hC hAg hn hW hS hl hk hs
  exact va_mmin hC.1 hC.2.1 (hC.2.2.1.trans hl.1.symm) hC.2.2.2.1 (hC.2.2.2.2.1 _ hw) (hC.2.2.2.2.1 _ hw1) (hC.2.2.2.2.1 _ hw2) (hC.2.2.2.2.1 _ hw3) hd1 (by rw [List.map_map]; simp only [Function.comp_def, cV_cat]; show _ ≤ 64 * d; omega) (by show cells ≤ mc; omega) (by show slots ≤ ms; omega) hd (g r hr p l e s m0 args below meth c H locs cells slots E ad0 n0 ad A larr mc ms hC hAg hn hW hS hl hk hs)
/-- Object() -/
theorem o_objInit (hd : decode Y.2.1 pc = .ok (.invokespecial idx, 3)) (hw : Cond.methodLink Y.1.cls idx Lib.objectInit ∈ tW) (hw1 : Cond.instanceMethod Lib.objectInit ∈ tW) (hw2 : Cond.code Lib.objectInit ⟨#[0xb1]⟩ 1 none ∈ tW) (hd1 : 1 ≤ d) (hcat : (st.map fun v => v.category).sum ≤ 8)
    (g : S em b d k n Y sh R m (pc + 3) ls st f) : S em b d k n Y sh R m pc ls (.ref kk :: st) f := fun r hr => by
  intro p l e s m0 args below meth c H locs cells slots E ad0 n0 ad A larr mc ms hC hAg hn hW hS hl hk hs
  exact W.objInit hC.1 hC.2.1 hC.2.2.2.1 (hC.2.2.2.2.1 _ hw) (hC.2.2.2.2.1 _ hw1) (hC.2.2.2.2.1 _ hw2) (g := F0 m0 pc larr (.ref (ad kk) :: st.map (cV ad))) rfl (hl.1.trans hC.2.2.1.symm) rfl hd hd1 (by show 2 * 0 + _ + 12 ≤ 64 * d; rw [List.map_map]; simp only [Function.comp_def, cV_cat]; omega) (g r hr p l e s m0 args below meth c H locs cells slots E ad0 n0 ad A larr mc ms hC hAg hn hW hS hl hk hs)
end MM
