/-! ===== BEGIN new T[n][m]: the outer array a place, the inner ones among the pooled ===== -/
/-- f, but v at every address of l -/
def vr_up {α : Type} (f : Nat → α) (l : List Nat) (v : α) : Nat → α := fun a => if a ∈ l then v else f a
theorem vr_up_in {α : Type} {f : Nat → α} {l : List Nat} {v : α} {a : Nat} (h : a ∈ l) : vr_up f l v a = v := if_pos h
theorem vr_up_ne {α : Type} {f : Nat → α} {l : List Nat} {v : α} {a : Nat} (h : a ∉ l) : vr_up f l v a = f a := if_neg h
theorem vr_rows {L l : List Nat} {f : Nat → va_E} {e : va_E} (h : ∀ a, a ∈ l → a ∉ L) : va_pl L f ++ l.map (fun a => (a, e)) = va_pl (L ++ l) (vr_up f l e) := by
  unfold va_pl
  rw [List.map_append]
  congr 1
  · apply List.map_congr_left
    intro a ha
    rw [vr_up_ne (fun q => h a q ha)]
  · apply List.map_congr_left
    intro a ha
    rw [vr_up_in ha]
theorem vr_lay {X rows : va_W} {x : Nat × va_E} {pl : va_W} {D : va_G} {cl : List vw_C} {H : Heap} (hP : va_P D cl (((X ++ pl) ++ [x]) ++ rows) H) : va_P D cl ((X ++ [x]) ++ (pl ++ rows)) H := by
  rw [List.append_assoc (X ++ pl)] at hP
  have h := va_P.swap hP
  rw [← List.append_assoc X] at h
  have h2 := va_P.swap h
  rw [List.append_assoc (X ++ [x])] at h2
  exact h2
theorem vr_layD {X rows : va_W} {x : Nat × va_E} {pl : va_W} {A : Nat → Prop} (hD : va_D A (((X ++ pl) ++ [x]) ++ rows)) : va_D A ((X ++ [x]) ++ (pl ++ rows)) := by
  rw [List.append_assoc (X ++ pl)] at hD
  have h := va_D.swap hD
  rw [← List.append_assoc X] at h
  have h2 := va_D.swap h
  rw [List.append_assoc (X ++ [x])] at h2
  exact h2
theorem vr_outer (c : ClassId) (N h0 : Nat) : ∀ i : Nat, Jvm.Free.Multi.outerC c N h0 i = arrV c N (fun j => va_rf (if j < i then some (h0 + 1 + j) else none))
  | 0 => by
    show ({ cls := c, slots := Array.replicate N .null, vm := .none } : Cell) = _
    rw [arrV_new]
    refine congrArg (arrV c N) (funext fun j => ?_)
    simp [va_rf]
  | i + 1 => by
    show (Jvm.Free.Multi.outerC c N h0 i).setSlot i (.ref (h0 + 1 + i)) = _
    rw [vr_outer c N h0 i, arrV_store]
    refine congrArg (arrV c N) (funext fun j => ?_)
    by_cases e : j = i
    · subst e
      simp [updV, va_rf]
    · by_cases h : j < i
      · simp [updV, e, h, Nat.lt_succ_of_lt h]
      · simp [updV, e, h, show ¬ j < i + 1 by omega]
section VGM
variable {p : Program} {l : Launch} {e : Env} {R : Room} {s : State} {m : MethodId} {args : Array Value} {below : List Frame} {meth : Method} {c : Code} {H : Heap} {locs : List Loc} {cells slots : Nat} {Q : State → Prop}
variable {cc : ByteArray} {pc : Nat} {ls : Array Slot} {rest : List Value} {D : va_G} {cl : List vw_C} {A : Nat → Prop} {a : Nat} {tys : List (ClassId × FieldType)} {ws : va_W} {H0 : Heap}
theorem va_mna {X : va_W} {L : List Nat} {f : Nat → va_E} {cc : ByteArray} (hexec : p.tables.exec = Jvm.exec) (hb : c.code = cc) {own : String} {index : Nat} {ty : FieldType} {cy : ClassId} (hown : s.vm.findClass own = some m.cls) (hclink : (Cond.classLink own index ("[" ++ (FieldType.array ty).toString)).before args s = true) (hover : va_AOA ty s) (harr : (Cond.arrayClass ty).before args s = true) (hcy : s.vm.findClass (FieldType.array ty).toString = some cy)
    (hK : va_K D cl tys s) (hP : va_P D cl (X ++ va_pl L f) H) (hD : va_D A (X ++ va_pl L f)) (hS : va_S A H0 H locs) (hA : ∀ q, H0.size ≤ q → A q) {n k : Int32} {N' K' : Nat} {z : vp_A} (hn : ¬ n < 0) (hk : ¬ k < 0) (hN : n.toNatClampNeg = N') (hM : k.toNatClampNeg = K')
    (hb1 : N' * 4 ≤ 536870912) (hb2 : K' * componentBytes ty ≤ 536870912) (hb3 : K' ≤ 536870912) (hdf : fits ty (defaultValue ty) = true) (hdd : (defaultValue ty).isDefault = true) (hcells : cells + (1 + N') ≤ R.cells) (hslots : slots + (N' + N' * K') ≤ R.slots) (hz : ∀ c : ClassId, Jvm.Free.Multi.innerC c K' (defaultValue ty) = vp_cell c z) (hdg : decode cc pc = .ok (.multianewarray index 2, 4))
    (kk : ∀ (q : Nat) (r : Nat → Nat) (cA : ClassId) (H1 : Heap), (∀ i j : Nat, i < N' → j < N' → r i = r j → i = j) → (∀ i : Nat, i < N' → r i ∉ L) → va_K D cl (tys ++ [(cA, .array ty)]) s →
      va_P D cl ((X ++ [(q, .inl (cA, N', .inr (.inr (.inr (.inr (fun i => if i < N' then some (r i) else none))))))]) ++ va_pl (L ++ (List.range N').map r) (vr_up f ((List.range N').map r) (.inl (cy, z)))) H1 → va_D A ((X ++ [(q, .inl (cA, N', .inr (.inr (.inr (.inr (fun i => if i < N' then some (r i) else none))))))]) ++ va_pl (L ++ (List.range N').map r) (vr_up f ((List.range N').map r) (.inl (cy, z)))) → va_S A H0 H1 locs →
      W p l e R s m args below meth c H1 locs (cells + 1 + N') (slots + N' + N' * K') Q (F0 m (pc + 4) ls (.ref q :: rest))) : W p l e R s m args below meth c H locs cells slots Q (F0 m pc ls (.int k :: .int n :: rest)) := by
  subst hN
  subst hM
  intro T hT Xs
  obtain ⟨vm₁, cA, comp, -, fA, fC, hO, -, X', step⟩ := Xs.multianewarray2F hexec hown hclink (va_AOA.use hover) harr (g := F0 m pc ls (.int k :: .int n :: rest)) rfl (by rw [hb]; exact hdg) rfl hn hk hb1 hb2 hb3 hdf hdd hcells hslots
  have ec : some cy = some comp := hcy.symm.trans fC
  cases ec
  generalize hF : Jvm.Free.Multi.fill (T.setVm vm₁) cA cy n.toNatClampNeg k.toNatClampNeg (defaultValue ty) n.toNatClampNeg = F at X' step
  have hTh : (T.setVm vm₁).heap = H := hT
  obtain ⟨f1, f2, -, -⟩ := Jvm.Free.Multi.fill_facts (T.setVm vm₁) cA cy n.toNatClampNeg k.toNatClampNeg (defaultValue ty) n.toNatClampNeg
  rw [hF, hTh] at f1 f2
  have hold : ∀ x : Nat, x < H.size → F.heap[x]? = H[x]? := fun x hx => by
    have := Jvm.Free.Multi.fill_old (T.setVm vm₁) cA cy n.toNatClampNeg k.toNatClampNeg (defaultValue ty) (a := x) (by rw [hTh]; exact hx) n.toNatClampNeg
    rw [hF, hTh] at this
    exact this
  have hrow : ∀ j : Nat, j < n.toNatClampNeg → F.heap[H.size + 1 + j]? = some (vp_cell cy z) := fun j hj => by
    have := Jvm.Free.Multi.fill_inner (T.setVm vm₁) cA cy n.toNatClampNeg k.toNatClampNeg (defaultValue ty) n.toNatClampNeg j hj
    rw [hF, hTh, hz] at this
    exact this
  have hout : Jvm.Free.Multi.outerC cA n.toNatClampNeg H.size n.toNatClampNeg = vp_cell cA (n.toNatClampNeg, .inr (.inr (.inr (.inr (fun i => if i < n.toNatClampNeg then some (H.size + 1 + i) else none))))) := by
    rw [vp_cell_q]
    exact vr_outer cA n.toNatClampNeg H.size n.toNatClampNeg
  rw [hout] at f2
  have hlt : ∀ a, a ∈ L → a < H.size := fun a ha => by
    obtain ⟨k9, hk9⟩ := va_pl_get (X := X) (f := f) ha
    exact (hP k9 _ hk9).lt
  have hnl : ∀ i : Nat, i < n.toNatClampNeg → H.size + 1 + i ∉ L := fun i _ h => by
    have := hlt _ h
    omega
  have hnm : ∀ a, a ∈ (List.range n.toNatClampNeg).map (fun i => H.size + 1 + i) → a ∉ L := fun a ha h => by
    obtain ⟨i, -, rfl⟩ := List.mem_map.mp ha
    have := hlt _ h
    omega
  have hP0 : va_P D cl (X ++ va_pl L f) F.heap := hP.kept (fun k9 x hx => hold x.1 ((hP k9 x hx).lt))
  have hP1 : va_P D cl ((X ++ va_pl L f) ++ [(H.size, .inl (cA, n.toNatClampNeg, .inr (.inr (.inr (.inr (fun i => if i < n.toNatClampNeg then some (H.size + 1 + i) else none))))))]) F.heap := hP0.app (fun k9 x hx => by
    have h0 : k9 < 1 := (List.getElem?_eq_some_iff.mp hx).1
    rw [show k9 = 0 by omega] at hx
    cases hx
    exact f2)
  have hP2 : va_P D cl (((X ++ va_pl L f) ++ [(H.size, .inl (cA, n.toNatClampNeg, .inr (.inr (.inr (.inr (fun i => if i < n.toNatClampNeg then some (H.size + 1 + i) else none))))))]) ++ ((List.range n.toNatClampNeg).map (fun i => H.size + 1 + i)).map (fun a => (a, .inl (cy, z)))) F.heap := hP1.app (fun k9 x hx => by
    obtain ⟨a, ha, rfl⟩ := List.mem_map.mp (List.mem_of_getElem? hx)
    obtain ⟨i, hi, rfl⟩ := List.mem_map.mp ha
    exact hrow i (List.mem_range.mp hi))
  have hD2 : va_D A (((X ++ va_pl L f) ++ [(H.size, .inl (cA, n.toNatClampNeg, .inr (.inr (.inr (.inr (fun i => if i < n.toNatClampNeg then some (H.size + 1 + i) else none))))))]) ++ ((List.range n.toNatClampNeg).map (fun i => H.size + 1 + i)).map (fun a => (a, .inl (cy, z)))) := by
    have hD1 := hD.push (e := .inl (cA, n.toNatClampNeg, .inr (.inr (.inr (.inr (fun i => if i < n.toNatClampNeg then some (H.size + 1 + i) else none)))))) hP rfl (hA _ hS.1)
    generalize hW1 : (X ++ va_pl L f) ++ [(H.size, .inl (cA, n.toNatClampNeg, .inr (.inr (.inr (.inr (fun i => if i < n.toNatClampNeg then some (H.size + 1 + i) else none))))))] = W1 at hD1 hP1 ⊢
    have hle : ∀ (k9 : Nat) (x : Nat × va_E), W1[k9]? = some x → x.1 ≤ H.size := fun k9 x hx => by
      rw [← hW1] at hx
      by_cases hl : k9 < (X ++ va_pl L f).length
      · rw [List.getElem?_append_left hl] at hx
        exact Nat.le_of_lt ((hP k9 x hx).lt)
      · rw [List.getElem?_append_right (by omega)] at hx
        have h0 : k9 - (X ++ va_pl L f).length < 1 := (List.getElem?_eq_some_iff.mp hx).1
        rw [show k9 - (X ++ va_pl L f).length = 0 by omega] at hx
        cases hx
        exact Nat.le_refl _
    have hr : ∀ (k9 : Nat) (x : Nat × va_E), (((List.range n.toNatClampNeg).map (fun i => H.size + 1 + i)).map (fun a => ((a, .inl (cy, z)) : Nat × va_E)))[k9]? = some x → x.1 = H.size + 1 + k9 := fun k9 x hx => by
      rw [List.getElem?_map, List.getElem?_map] at hx
      by_cases h9 : k9 < n.toNatClampNeg
      · rw [List.getElem?_range h9] at hx
        cases hx
        rfl
      · have hn0 : (List.range n.toNatClampNeg)[k9]? = none := List.getElem?_eq_none (by rw [List.length_range]; omega)
        rw [hn0] at hx
        cases hx
    refine ⟨fun i j x y hi hj hxy => ?_, fun k9 x hx => ?_⟩
    · by_cases h1 : i < W1.length <;> by_cases h2 : j < W1.length
      · rw [List.getElem?_append_left h1] at hi
        rw [List.getElem?_append_left h2] at hj
        exact hD1.1 i j x y hi hj hxy
      · rw [List.getElem?_append_left h1] at hi
        rw [List.getElem?_append_right (by omega)] at hj
        have := hle _ _ hi
        have := hr _ _ hj
        omega
      · rw [List.getElem?_append_right (by omega)] at hi
        rw [List.getElem?_append_left h2] at hj
        have := hle _ _ hj
        have := hr _ _ hi
        omega
      · rw [List.getElem?_append_right (by omega)] at hi hj
        have := hr _ _ hi
        have := hr _ _ hj
        omega
    · by_cases h1 : k9 < W1.length
      · rw [List.getElem?_append_left h1] at hx
        exact hD1.2 k9 x hx
      · rw [List.getElem?_append_right (by omega)] at hx
        have := hr _ _ hx
        exact hA _ (by have := hS.1; omega)
  have hAr : ArrOfT s cA (.array ty) := fun N9 z9 => by
    obtain ⟨-, k9, hk9, cm9, hkk9⟩ := (hO 0 0 0).1
    exact ⟨(fun q hq => by cases hq), k9, hk9, cm9, hkk9⟩
  have hK2 : va_K D cl (tys ++ [(cA, .array ty)]) s := ⟨hK.1, fun k9 x hx => by
    by_cases hl : k9 < tys.length
    · rw [List.getElem?_append_left hl] at hx
      exact hK.2 k9 x hx
    · rw [List.getElem?_append_right (by omega)] at hx
      have h0 : k9 - tys.length < 1 := (List.getElem?_eq_some_iff.mp hx).1
      rw [show k9 - tys.length = 0 by omega] at hx
      cases hx
      exact ⟨hAr, fA⟩⟩
  obtain ⟨t, a1, b1⟩ := kk H.size (fun i => H.size + 1 + i) cA F.heap (fun i j _ _ h => by have h9 : H.size + 1 + i = H.size + 1 + j := h; omega) hnl hK2 (by rw [← vr_rows hnm]; exact vr_lay hP2) (by rw [← vr_rows hnm]; exact vr_layD hD2) ⟨by rw [f1]; have := hS.1; omega, fun x h1 h2 => (hold x (Nat.lt_of_lt_of_le h1 hS.1)).trans (hS.2.1 x h1 h2), hS.2.2⟩ F rfl X'
  refine ⟨t, step t ?_, b1⟩
  have e : T.heap.size = H.size := by rw [hT]
  rw [e]
  exact a1
end VGM
/-! ===== END ===== -/
/-! six rows of four, and the array of them -/
def ad7 (ad : Nat → Nat) (n : Nat) (r : Nat → Nat) (q : Nat) : Nat → Nat := fun j => if j < n then ad j else if j < n + 6 then r (j - n) else if j = n + 6 then q else ad j
def z7 {α : Type} (f : Nat → Nat → α) (n : Nat) (v : α) : Nat → Nat → α := fun k => if k < n then f k else if k < n + 7 then (fun _ => v) else f k
def R7 (R : RR) (n : Nat) : RR := fun k => if k < n then R k else if k < n + 6 then (fun _ => none) else if k = n + 6 then (fun i => if i < 6 then some (n + i) else none) else R k
def mI7 (m : MI) (n : Nat) : MI := (z7 m.1 n 0, z7 m.2 n 0)
abbrev sh7 : Sh := [(0, 4), (0, 4), (0, 4), (0, 4), (0, 4), (0, 4), (4, 6)]
theorem z7_in {α : Type} {f : Nat → Nat → α} {n k : Nat} {v : α} (h : n ≤ k ∧ k < n + 7) : z7 f n v k = fun _ => v := by unfold z7; rw [if_neg (by omega), if_pos h.2]
theorem z7_lt {α : Type} {f : Nat → Nat → α} {n k : Nat} {v : α} (h : k < n) : z7 f n v k = f k := by unfold z7; rw [if_pos h]
theorem cW_app7 {ct : Nat → ClassId} {ad : Nat → Nat} {sh : Sh} {m : MI} {R : RR} {q : Nat} {r : Nat → Nat} (hR : Rok sh.length R) : cW ct (ad7 ad sh.length r q) (sh ++ sh7) (mk (mI7 m sh.length) (R7 R sh.length)) =
    (cW ct ad sh (mk m R) ++ [(r 0, .inl (ct 0, 4, .inl (fun _ => 0))), (r 1, .inl (ct 0, 4, .inl (fun _ => 0))), (r 2, .inl (ct 0, 4, .inl (fun _ => 0))), (r 3, .inl (ct 0, 4, .inl (fun _ => 0))), (r 4, .inl (ct 0, 4, .inl (fun _ => 0))), (r 5, .inl (ct 0, 4, .inl (fun _ => 0)))]) ++ [(q, .inl (ct 4, 6, .inr (.inr (.inr (.inr (fun i => if i < 6 then some (r i) else none))))))] := by
  have h1 : sh.mapIdx (fun k s => (ad7 ad sh.length r q k, cE ct (ad7 ad sh.length r q) (mk (mI7 m sh.length) (R7 R sh.length)) k s)) = cW ct ad sh (mk m R) := by
    apply List.ext_getElem?
    intro i
    simp only [cW, List.getElem?_mapIdx]
    by_cases hi : i < sh.length
    · cases sh[i]? with
      | none => rfl
      | some s' =>
        simp only [Option.map_some]
        rw [show ad7 ad sh.length r q i = ad i by unfold ad7; rw [if_pos hi], cE_ext (M := mk m R) (show z7 m.1 sh.length 0 i = m.1 i from z7_lt hi) (show z7 m.2 sh.length 0 i = m.2 i from z7_lt hi) (fun j => ?_)]
        show ((R7 R sh.length i j).map (ad7 ad sh.length r q)) = (R i j).map ad
        unfold R7
        rw [if_pos hi]
        cases hr : R i j with
        | none => rfl
        | some x => rw [Option.map_some, Option.map_some, show ad7 ad sh.length r q x = ad x by unfold ad7; rw [if_pos (hR i j x hr)]]
    · rw [List.getElem?_eq_none (by omega)]; rfl
  have row : ∀ i, i < 6 → (ad7 ad sh.length r q (i + sh.length), cE ct (ad7 ad sh.length r q) (mk (mI7 m sh.length) (R7 R sh.length)) (i + sh.length) (0, 4)) = (r i, .inl (ct 0, 4, .inl (fun _ => 0))) := fun i hi => by
    rw [cE_i, show ad7 ad sh.length r q (i + sh.length) = r i by unfold ad7; rw [if_neg (by omega), if_pos (by omega)]; congr 1; omega]
    exact congrArg (fun g => (r i, Sum.inl (ct 0, 4, Sum.inl g))) (z7_in (by omega))
  have top : (ad7 ad sh.length r q (6 + sh.length), cE ct (ad7 ad sh.length r q) (mk (mI7 m sh.length) (R7 R sh.length)) (6 + sh.length) (4, 6)) = (q, .inl (ct 4, 6, .inr (.inr (.inr (.inr (fun i => if i < 6 then some (r i) else none)))))) := by
    rw [cE_a, show ad7 ad sh.length r q (6 + sh.length) = q by unfold ad7; rw [if_neg (by omega), if_neg (by omega), if_pos (by omega)]]
    refine congrArg (fun g => (q, Sum.inl (ct 4, 6, Sum.inr (Sum.inr (Sum.inr (Sum.inr g)))))) (funext fun i => ?_)
    show (R7 R sh.length (6 + sh.length) i).map (ad7 ad sh.length r q) = _
    unfold R7
    rw [if_neg (by omega), if_neg (by omega), if_pos (by omega)]
    by_cases hi : i < 6
    · rw [if_pos hi, if_pos hi, Option.map_some]
      congr 1
      unfold ad7
      rw [if_neg (by omega), if_pos (by omega)]
      congr 1; omega
    · rw [if_neg hi, if_neg hi]; rfl
  unfold cW at h1 ⊢
  rw [List.mapIdx_append, h1, List.append_assoc]
  congr 1
  simp only [List.mapIdx_cons, List.mapIdx_nil, Nat.zero_add, Nat.add_assoc]
  have r0 := row 0 (by omega)
  have r1 := row 1 (by omega)
  have r2 := row 2 (by omega)
  have r3 := row 3 (by omega)
  have r4 := row 4 (by omega)
  have r5 := row 5 (by omega)
  rw [Nat.zero_add] at r0
  have e : ∀ x, 1 + x = x + 1 := fun x => Nat.add_comm _ _
  simp only [← Nat.add_assoc, Nat.reduceAdd, r0, r1, r2, r3, r4, r5, top]
  rfl
section S7
variable {ρ : Type} {em : EM ρ} {d k n : Nat} {Y : YD} {sh : Sh} {R : RR} {m : MI} {pc : Nat} {ls : List (Nat × Value)} {st : List Value} {f : Option ρ} {idx : Nat}
theorem o_mna (k' n' : Nat) (hd : decode Y.2.1 pc = .ok (.multianewarray idx 2, 4)) (hw : Cond.classLink Y.1.cls idx "[[I" ∈ tW) (hw2 : Cond.arrayClass .int ∈ tW)
    (hR : Rok sh.length R) (hlen : sh.length < 900) (hls : ∀ v ∈ ls, okv sh.length v.2) (hst : ∀ v ∈ st, okv sh.length v) (hk : k' + 7 ≤ k) (hn : n' + 30 ≤ n)
    (g : S em true d k' n' Y (sh ++ sh7) (R7 R sh.length) (mI7 m sh.length) (pc + 4) ls (.ref (sh.length + 6) :: st) f) : S em true d k n Y sh R m pc ls (.int 4 :: .int 6 :: st) f := fun rr hrr => by
  intro p l e s m0 args below meth c H locs cells slots E ad0 n0 ad A larr mc ms hC hAg hn0 hW hS hl hk2 hs2
  have hP0 : va_P E.1 cls8 (cW E.2 ad sh (mk m R) ++ va_pl [] (fun _ => Sum.inr (0, []))) H := by
    rw [show va_pl [] (fun _ => (Sum.inr (0, []) : va_E)) = [] from rfl, List.append_nil]; exact hW.1
  have hD0 : va_D A (cW E.2 ad sh (mk m R) ++ va_pl [] (fun _ => Sum.inr (0, []))) := by
    rw [show va_pl [] (fun _ => (Sum.inr (0, []) : va_E)) = [] from rfl, List.append_nil]; exact hW.2
  have hcy : s.vm.findClass (FieldType.array .int).toString = some (E.2 0) := (hC.2.2.2.2.2.2.2.2.1.2 0 _ rfl).2
  refine va_mna (ty := .int) (cy := E.2 0) (N' := 6) (K' := 4) (z := (4, .inl (fun _ => 0))) (tys := tyL E) hC.1 hC.2.1 hC.2.2.2.1 (hC.2.2.2.2.1 _ hw) hC.2.2.2.2.2.2.2.2.2.1.2.2.2.2.2.2.2.2.2.2.2.2.2.2 (hC.2.2.2.2.1 _ hw2) hcy hC.2.2.2.2.2.2.2.2.1 hP0 hD0 hS hC.2.2.2.2.2.2.2.2.2.2 (by decide) (by decide) (by decide) (by decide) (by decide) (by decide) (by decide) (by decide) (by decide) (by show cells + (1 + 6) ≤ mc; omega) (by show slots + (6 + 6 * 4) ≤ ms; omega) (fun c => by
    show ({ cls := c, slots := Array.replicate 4 (.int 0), vm := .none } : Cell) = _
    rw [arrV_new]; rfl) hd (fun q r cA H1 hinj hni hK hP hD hS1 => ?_)
  have ec : cA = E.2 4 := fc_uq hC.2.2.2.2.2.2.2.2.1 (i := 4) (ty := .array .int) rfl (hK.2 5 _ rfl).2
  subst ec
  have hrows : va_pl ([] ++ (List.range 6).map r) (vr_up (fun _ => (Sum.inr (0, []) : va_E)) ((List.range 6).map r) (.inl (E.2 0, (4, .inl (fun _ => 0))))) = [(r 0, .inl (E.2 0, 4, .inl (fun _ => 0))), (r 1, .inl (E.2 0, 4, .inl (fun _ => 0))), (r 2, .inl (E.2 0, 4, .inl (fun _ => 0))), (r 3, .inl (E.2 0, 4, .inl (fun _ => 0))), (r 4, .inl (E.2 0, 4, .inl (fun _ => 0))), (r 5, .inl (E.2 0, 4, .inl (fun _ => 0)))] := by
    have hu : ∀ i, i < 6 → vr_up (fun _ => (Sum.inr (0, []) : va_E)) ((List.range 6).map r) (.inl (E.2 0, (4, .inl (fun _ => 0)))) (r i) = .inl (E.2 0, (4, .inl (fun _ => 0))) := fun i hi => vr_up_in (List.mem_map.mpr ⟨i, List.mem_range.mpr hi, rfl⟩)
    show [(r 0, _), (r 1, _), (r 2, _), (r 3, _), (r 4, _), (r 5, _)] = _
    rw [hu 0 (by omega), hu 1 (by omega), hu 2 (by omega), hu 3 (by omega), hu 4 (by omega), hu 5 (by omega)]
  rw [hrows] at hP hD
  have hP2 := va_P.swap hP
  have hD2 := va_D.swap hD
  rw [← cW_app7 (hR : Rok sh.length R)] at hP2 hD2
  have hag1 : Ag true sh.length ad (ad7 ad sh.length r q) := ⟨fun h => (by cases h), fun j hj => by
    unfold ad7
    rcases hj with hj | hj
    · rw [if_pos hj]
    · rw [if_neg (by omega), if_neg (by omega), if_neg (by omega)]⟩
  have e1 : Value.ref q :: st.map (cV ad) = (Value.ref (sh.length + 6) :: st).map (cV (ad7 ad sh.length r q)) := by
    rw [List.map_cons, map_okv hag1 (Or.inr hst)]
    show _ = Value.ref (ad7 ad sh.length r q (sh.length + 6)) :: _
    rw [show ad7 ad sh.length r q (sh.length + 6) = q by unfold ad7; rw [if_neg (by omega), if_neg (by omega), if_pos rfl]]
  rw [e1]
  have hag2 : Ag true n0 ad0 (ad7 ad sh.length r q) := ⟨fun h => (by cases h), fun j hj => by rw [hag1.2 j (by omega)]; exact hAg.2 j hj⟩
  refine g rr hrr p l e s m0 args below meth c H1 locs _ _ E ad0 n0 (ad7 ad sh.length r q) A larr mc ms ?_ hag2 (by rw [List.length_append]; omega) ⟨hP2, hD2⟩ hS1 ?_ (by omega) (by omega)
  · obtain ⟨c1, c2, c3, c4, c5, c6, c7, c8, c9, c10, c11⟩ := hC
    exact ⟨c1, c2, c3, c4, c5, c6, c7, c8, c9, St_ad c10 hag1.hi, c11⟩
  · rw [mapL_okv hag1 (Or.inr hls)]
    exact hl
end S7
