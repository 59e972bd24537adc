/-! WHAT IS MADE -/
def adn (ad : Nat → Nat) (n q : Nat) : Nat → Nat := fun j => if j = n then q else ad j
theorem adn_s {ad : Nat → Nat} {n q : Nat} : adn ad n q n = q := if_pos rfl
theorem adn_n {ad : Nat → Nat} {n q j : Nat} (h : j ≠ n) : adn ad n q j = ad j := if_neg h
/-- the memory with a new cell, all 0 -/
def zM (M : MM) (n : Nat) : MM := (ur M.1 n (fun _ => 0), ur M.2.1 n (fun _ => 0), ur M.2.2 n (fun _ => none))
def zI (m : MI) (n : Nat) : MI := (ur m.1 n (fun _ => 0), ur m.2 n (fun _ => 0))
def zR (R : RR) (n : Nat) : RR := ur R n (fun _ => none)
theorem zM_mk {m : MI} {R : RR} {n : Nat} : zM (mk m R) n = mk (zI m n) (zR R n) := rfl
theorem cW_app {ct : Nat → ClassId} {ad : Nat → Nat} {sh : Sh} {M : MM} {q : Nat} {s : Nat × Nat} (hR : Rok sh.length M.2.2) : cW ct (adn ad sh.length q) (sh ++ [s]) (zM M sh.length) = cW ct ad sh M ++ [(q, cE ct (adn ad sh.length q) (zM M sh.length) sh.length s)] := by
  apply List.ext_getElem?
  intro i
  simp only [cW, List.getElem?_mapIdx]
  by_cases hi : i < sh.length
  · rw [List.getElem?_append_left hi, List.getElem?_append_left (by simpa using hi), List.getElem?_mapIdx]
    cases sh[i]? with
    | none => rfl
    | some s' =>
      simp only [Option.map_some]
      rw [adn_n (by omega), cE_ext (ur_n (by omega)) (ur_n (by omega)) (fun j => ?_)]
      show (((ur M.2.2 sh.length (fun _ => none)) i j).map (adn ad sh.length q)) = (M.2.2 i j).map ad
      rw [ur_n (by omega)]
      cases hr : M.2.2 i j with
      | none => rfl
      | some r => rw [Option.map_some, Option.map_some, adn_n (by have := hR i j r hr; omega)]
  · rw [List.getElem?_append_right (by omega), List.getElem?_append_right (by simpa using hi)]
    simp only [List.length_mapIdx]
    by_cases e : i = sh.length
    · subst e
      simp [adn_s]
    · have : i - sh.length ≠ 0 := by omega
      obtain ⟨j, hj⟩ : ∃ j, i - sh.length = j + 1 := ⟨i - sh.length - 1, by omega⟩
      rw [hj]; rfl
theorem Ag_new {n n0 : Nat} {ad0 ad : Nat → Nat} {q : Nat} (h : Ag true n0 ad0 ad) (hn : n0 ≤ n) (hl : n < 1000) : Ag true n0 ad0 (adn ad n q) := ⟨fun h => (by cases h), fun j hj => by rw [adn_n (by omega)]; exact h.2 j hj⟩
section GA
variable {b : Bool} {d k n : Nat} {Y : YD} {sh : Sh} {M : MM} {pc : Nat} {ls : List (Nat × Value)} {st : List Value} {Q : PO}
/-- a step that makes one cell -/
theorem G_alloc {s0 : Nat × Nat} {N k' n' pc' : Nat} {st' : List Value}
    (h : ∀ {p : Program} {l : Launch} {e : Env} {R : Room} {s : State} {m : MethodId} {args : Array Value} {below : List Frame} {meth : Method} {c : Code} {H : Heap} {locs : List Loc} {cells slots : Nat} {Q' : State → Prop} {larr : Array Slot} {E : EV} {ad : Nat → Nat} {A : Nat → Prop},
      Cx Y E ad A p s m args meth c → Wd E ad sh M A H → va_S A s.heap H locs → cells + 1 ≤ R.cells → slots + N ≤ R.slots →
      (∀ (q : Nat) (H1 : Heap), va_P E.1 cls8 (cW E.2 ad sh M ++ [(q, cE E.2 (adn ad sh.length q) (zM M sh.length) sh.length s0)]) H1 → va_D A (cW E.2 ad sh M ++ [(q, cE E.2 (adn ad sh.length q) (zM M sh.length) sh.length s0)]) → va_S A s.heap H1 locs → W p l e R s m args below meth c H1 locs (cells + 1) (slots + N) Q' (F0 m pc' larr (.ref q :: st'.map (cV ad)))) → W p l e R s m args below meth c H locs cells slots Q' (F0 m pc larr (st.map (cV ad))))
    (hb : b = true) (hR : Rok sh.length M.2.2) (hlen : sh.length < 1000) (hls : ∀ q ∈ ls, okv sh.length q.2) (hst : ∀ v ∈ st', okv sh.length v) (hk : k' + 1 ≤ k) (hn : n' + N ≤ n)
    (g : G b d k' n' Y (sh ++ [s0]) (zM M sh.length) pc' ls (.ref sh.length :: st') Q) : G b d k n Y sh M pc ls st Q := by
  intro p l e s m args below meth c H locs cells slots E ad0 n0 ad A larr mc ms hC hAg hn0 hW hS hl hk' hs'
  subst hb
  refine h hC hW hS (by show cells + 1 ≤ mc; omega) (by show slots + N ≤ ms; omega) (fun q H1 hP hD hS1 => ?_)
  have hag1 : Ag true sh.length ad (adn ad sh.length q) := ⟨fun h => (by cases h), fun j hj => adn_n (by omega)⟩
  have e1 : Value.ref q :: st'.map (cV ad) = (Value.ref sh.length :: st').map (cV (adn ad sh.length q)) := by
    rw [List.map_cons, map_okv hag1 (Or.inr hst)]
    show _ = Value.ref (adn ad sh.length q sh.length) :: _
    rw [adn_s]
  rw [e1]
  rw [← cW_app hR] at hP hD
  refine g p l e s m args below meth c H1 locs _ _ E ad0 n0 (adn ad sh.length q) A larr mc ms ?_ (Ag_new hAg hn0 hlen) (by rw [List.length_append]; omega) ⟨hP, hD⟩ hS1 ?_ (by omega) (by omega)
  · obtain ⟨c1, c2, c3, c4, c5, c6, c7, c8, c9, c10, c11⟩ := hC
    exact ⟨c1, c2, c3, c4, c5, c6, c7, c8, c9, St_ad c10 hag1.hi, c11⟩
  · rw [mapL_okv hag1 (Or.inr hls)]
    exact hl
end GA
theorem fc_uq {E : EV} {s : State} {i : Nat} {cA : ClassId} {ty : FieldType} (hW : Wk E s) (hi : (tyL E)[i]? = some (E.2 i, ty)) (h : s.vm.findClass ("[" ++ ty.toString) = some cA) : cA = E.2 i := by
  have h2 := (hW.2 i _ hi).2
  have h3 : s.vm.findClass ("[" ++ ty.toString) = some (E.2 i) := by
    cases ty with
    | object C => exact h2.choose_spec.choose_spec.2.2.2
    | _ => exact h2
  rw [h] at h3
  exact Option.some.inj h3
def dfT (t : FieldType) : Value := defaultValue t
set_option maxRecDepth 100000 in
theorem df8 : ∀ ci, ci < 8 → ∀ j, j < nF ci → (match defaultValue (ty8 ci j) with | .null => fR ci j | .int x => !(fR ci j) && (x == 0) | _ => false) = true := by decide +kernel
theorem cF_z {ci kk : Nat} {ad ad' : Nat → Nat} {M M' : MM} (h1 : M.1 kk = fun _ => 0) (h2 : M.2.2 kk = fun _ => none) (h1' : M'.1 kk = fun _ => 0) (h2' : M'.2.2 kk = fun _ => none) : cF ad M kk ci = cF ad' M' kk ci := by
  unfold cF
  rw [h1, h2, h1', h2']
  rfl
theorem fs8 {ci : Nat} {ad : Nat → Nat} {M : MM} {kk : Nat} (hci : ci < 8) (h1 : M.1 kk = fun _ => 0) (h2 : M.2.2 kk = fun _ => none) : ∀ j, j < nF ci → defaultValue (ty8 ci j) = vp_V (cF ad M kk ci) j := by
  intro j hj
  have h := df8 ci hci j hj
  unfold vp_V cF
  rw [List.getD_eq_getElem?_getD, List.getElem?_map, List.getElem?_range hj, Option.map_some, Option.getD_some, h1, h2]
  cases hd : defaultValue (ty8 ci j) with
  | null =>
    rw [hd] at h
    simp only [] at h
    rw [if_pos h]; rfl
  | int x =>
    rw [hd] at h
    simp only [Bool.and_eq_true, Bool.not_eq_true', beq_iff_eq] at h
    rw [if_neg (by rw [h.1]; decide), h.2]
  | _ => rw [hd] at h; cases h
section SA
variable {ρ : Type} {em : EM ρ} {d k n : Nat} {Y : YD} {sh : Sh} {R : RR} {m : MI} {pc : Nat} {ls : List (Nat × Value)} {st : List Value} {f : Option ρ} {ci idx : Nat} {q : vw_C}
theorem o_new (k' n' : Nat) (hd : decode Y.2.1 pc = .ok (.new idx, 3)) (hc : cls8[ci]? = some q) (hw : Cond.classLink Y.1.cls idx q.1 ∈ tW) (hw1 : Cond.instantiable q.1 q.2.2 ∈ tW) (hw2 : Cond.initialized q.1 ∈ tW)
    (hR : Rok sh.length R) (hlen : sh.length < 1000) (hls : ∀ v ∈ ls, okv sh.length v.2) (hst : ∀ v ∈ st, okv sh.length v) (hk : k' + 1 ≤ k) (hn : n' + q.2.2 ≤ n)
    (g : S em true d k' n' Y (sh ++ [(10 + ci, 0)]) (zR R sh.length) (zI m sh.length) (pc + 3) ls (.ref sh.length :: st) f) : S em true d k n Y sh R m pc ls st f := fun r hr => by
  have hci : ci < 8 := (List.getElem?_eq_some_iff.mp hc).1
  refine G_alloc (s0 := (10 + ci, 0)) (N := q.2.2) (st' := st) ?_ rfl hR hlen hls hst hk hn (g r hr)
  intro p l e R0 s m0 args below meth c H locs cells slots Q' larr E ad A hC hW hS hcl hsl kx
  refine va_new (ci := ci) (C := q.1) (T := q.2.1) (N := q.2.2) (fs := cF (adn ad sh.length 0) (zM (mk m R) sh.length) sh.length ci) hC.1 hC.2.1 hC.2.2.2.2.1 (in8 hc) (ty8 ci) (ty8_ok hc) hC.2.2.2.1 (hC.2.2.2.2.1 _ hw) (hC.2.2.2.2.1 _ hw1) (hC.2.2.2.2.1 _ hw2) hC.2.2.2.2.2.2.2.2.1 hW.1 hW.2 hS hC.2.2.2.2.2.2.2.2.2.2 hc (fun j hj => fs8 hci ur_s ur_s j (by rw [nF8 hc]; exact hj)) hcl hsl hd (fun qq H1 hP hD hS1 => ?_)
  have e : cF (adn ad sh.length 0) (zM (mk m R) sh.length) sh.length ci = cF (adn ad sh.length qq) (zM (mk m R) sh.length) sh.length ci := cF_z ur_s ur_s ur_s ur_s
  rw [e, ← cE_obj (nn := 0) (ct := E.2)] at hP hD
  exact kx qq H1 hP hD hS1
theorem o_newI (k' n' : Nat) {v : Int32} {N : Nat} (hd : decode Y.2.1 pc = .ok (.newarray .int, 2)) (hw : Cond.arrayClass .int ∈ tW) (h0 : ¬ v < 0) (hN : v.toNatClampNeg = N) (hb : N ≤ 1000)
    (hR : Rok sh.length R) (hlen : sh.length < 1000) (hls : ∀ v ∈ ls, okv sh.length v.2) (hst : ∀ v ∈ st, okv sh.length v) (hk : k' + 1 ≤ k) (hn : n' + N ≤ n)
    (g : S em true d k' n' Y (sh ++ [(0, N)]) (zR R sh.length) (zI m sh.length) (pc + 2) ls (.ref sh.length :: st) f) : S em true d k n Y sh R m pc ls (.int v :: st) f := fun r hr => by
  refine G_alloc (s0 := (0, N)) (N := N) (st' := st) ?_ rfl hR hlen hls hst hk hn (g r hr)
  intro p l e R0 s m0 args below meth c H locs cells slots Q' larr E ad A hC hW hS hcl hsl kx
  refine va_newa (ty := .int) (atype := .int) (N' := N) (a0 := (N, .inl (fun _ => 0))) hC.1 hC.2.1 (hC.2.2.2.2.1 _ hw) rfl hC.2.2.2.2.2.2.2.2.1 hW.1 hW.2 hS hC.2.2.2.2.2.2.2.2.2.2 (fun cA => rfl) h0 hN (by show N * 4 ≤ 536870912; omega) hcl hsl hd (fun qq cA H1 hK hP hD hS1 => ?_)
  have ec : cA = E.2 0 := fc_uq hC.2.2.2.2.2.2.2.2.1 (i := 0) (ty := .int) rfl (hK.2 5 _ rfl).2
  subst ec
  have e : cE E.2 (adn ad sh.length qq) (zM (mk m R) sh.length) sh.length (0, N) = .inl (E.2 0, N, .inl (fun _ => 0)) := by rw [cE_i]; exact congrArg (fun g => Sum.inl (E.2 0, N, Sum.inl g)) ur_s
  rw [← e] at hP hD
  exact kx qq H1 hP hD hS1
theorem o_newZ (k' n' : Nat) {v : Int32} {N : Nat} (hd : decode Y.2.1 pc = .ok (.newarray .boolean, 2)) (hw : Cond.arrayClass .boolean ∈ tW) (h0 : ¬ v < 0) (hN : v.toNatClampNeg = N) (hb : N ≤ 1000)
    (hR : Rok sh.length R) (hlen : sh.length < 1000) (hls : ∀ v ∈ ls, okv sh.length v.2) (hst : ∀ v ∈ st, okv sh.length v) (hk : k' + 1 ≤ k) (hn : n' + N ≤ n)
    (g : S em true d k' n' Y (sh ++ [(2, N)]) (zR R sh.length) (zI m sh.length) (pc + 2) ls (.ref sh.length :: st) f) : S em true d k n Y sh R m pc ls (.int v :: st) f := fun r hr => by
  refine G_alloc (s0 := (2, N)) (N := N) (st' := st) ?_ rfl hR hlen hls hst hk hn (g r hr)
  intro p l e R0 s m0 args below meth c H locs cells slots Q' larr E ad A hC hW hS hcl hsl kx
  refine va_newa (ty := .boolean) (atype := .boolean) (N' := N) (a0 := (N, .inl (fun _ => 0))) hC.1 hC.2.1 (hC.2.2.2.2.1 _ hw) rfl hC.2.2.2.2.2.2.2.2.1 hW.1 hW.2 hS hC.2.2.2.2.2.2.2.2.2.2 (fun cA => rfl) h0 hN (by show N * 1 ≤ 536870912; omega) hcl hsl hd (fun qq cA H1 hK hP hD hS1 => ?_)
  have ec : cA = E.2 2 := fc_uq hC.2.2.2.2.2.2.2.2.1 (i := 2) (ty := .boolean) rfl (hK.2 5 _ rfl).2
  subst ec
  have e : cE E.2 (adn ad sh.length qq) (zM (mk m R) sh.length) sh.length (2, N) = .inl (E.2 2, N, .inl (fun _ => 0)) := by rw [cE_z]; exact congrArg (fun g => Sum.inl (E.2 2, N, Sum.inl g)) ur_s
  rw [← e] at hP hD
  exact kx qq H1 hP hD hS1
theorem o_newJ (k' n' : Nat) {v : Int32} {N : Nat} (hd : decode Y.2.1 pc = .ok (.newarray .long, 2)) (hw : Cond.arrayClass .long ∈ tW) (h0 : ¬ v < 0) (hN : v.toNatClampNeg = N) (hb : N ≤ 1000)
    (hR : Rok sh.length R) (hlen : sh.length < 1000) (hls : ∀ v ∈ ls, okv sh.length v.2) (hst : ∀ v ∈ st, okv sh.length v) (hk : k' + 1 ≤ k) (hn : n' + N ≤ n)
    (g : S em true d k' n' Y (sh ++ [(1, N)]) (zR R sh.length) (zI m sh.length) (pc + 2) ls (.ref sh.length :: st) f) : S em true d k n Y sh R m pc ls (.int v :: st) f := fun r hr => by
  refine G_alloc (s0 := (1, N)) (N := N) (st' := st) ?_ rfl hR hlen hls hst hk hn (g r hr)
  intro p l e R0 s m0 args below meth c H locs cells slots Q' larr E ad A hC hW hS hcl hsl kx
  refine va_newa (ty := .long) (atype := .long) (N' := N) (a0 := (N, .inr (.inl (fun _ => 0)))) hC.1 hC.2.1 (hC.2.2.2.2.1 _ hw) rfl hC.2.2.2.2.2.2.2.2.1 hW.1 hW.2 hS hC.2.2.2.2.2.2.2.2.2.2 (fun cA => rfl) h0 hN (by show N * 8 ≤ 536870912; omega) hcl hsl hd (fun qq cA H1 hK hP hD hS1 => ?_)
  have ec : cA = E.2 1 := fc_uq hC.2.2.2.2.2.2.2.2.1 (i := 1) (ty := .long) rfl (hK.2 5 _ rfl).2
  subst ec
  have e : cE E.2 (adn ad sh.length qq) (zM (mk m R) sh.length) sh.length (1, N) = .inl (E.2 1, N, .inr (.inl (fun _ => 0))) := by rw [cE_l]; exact congrArg (fun g => Sum.inl (E.2 1, N, Sum.inr (Sum.inl g))) ur_s
  rw [← e] at hP hD
  exact kx qq H1 hP hD hS1
theorem o_newQ (k' n' : Nat) {v : Int32} {N : Nat} (hd : decode Y.2.1 pc = .ok (.anewarray idx, 3)) (hw : Cond.classLink Y.1.cls idx RX4 ∈ tW) (h0 : ¬ v < 0) (hN : v.toNatClampNeg = N) (hb : N ≤ 1000)
    (hR : Rok sh.length R) (hlen : sh.length < 1000) (hls : ∀ v ∈ ls, okv sh.length v.2) (hst : ∀ v ∈ st, okv sh.length v) (hk : k' + 1 ≤ k) (hn : n' + N ≤ n)
    (g : S em true d k' n' Y (sh ++ [(3, N)]) (zR R sh.length) (zI m sh.length) (pc + 3) ls (.ref sh.length :: st) f) : S em true d k n Y sh R m pc ls (.int v :: st) f := fun r hr => by
  refine G_alloc (s0 := (3, N)) (N := N) (st' := st) ?_ rfl hR hlen hls hst hk hn (g r hr)
  intro p l e R0 s m0 args below meth c H locs cells slots Q' larr E ad A hC hW hS hcl hsl kx
  refine va_newq (C := RX4) (N' := N) hC.1 hC.2.1 hC.2.2.2.1 (hC.2.2.2.2.1 _ hw) hC.2.2.2.2.2.2.2.2.2.1.2.2.2.2.2.2.2.2.2.2.2.2.2.1 hC.2.2.2.2.2.2.2.2.1 hW.1 hW.2 hS hC.2.2.2.2.2.2.2.2.2.2 h0 hN (by omega) hcl hsl hd (fun qq cA H1 hK hP hD hS1 => ?_)
  have ec : cA = E.2 3 := fc_uq hC.2.2.2.2.2.2.2.2.1 (i := 3) (ty := .object RX4) rfl (hK.2 5 _ rfl).2.choose_spec.choose_spec.2.2.2
  subst ec
  have e : cE E.2 (adn ad sh.length qq) (zM (mk m R) sh.length) sh.length (3, N) = .inl (E.2 3, N, .inr (.inr (.inr (.inr (fun _ => none))))) := by
    rw [cE_q]
    refine congrArg (fun g => Sum.inl (E.2 3, N, Sum.inr (Sum.inr (Sum.inr (Sum.inr g))))) (funext fun i => ?_)
    show ((ur R sh.length (fun _ => none)) sh.length i).map _ = none
    rw [ur_s]; rfl
  rw [← e] at hP hD
  exact kx qq H1 hP hD hS1
/-- a row of the array of tapes -/
theorem o_aast {kk v nn i0 : Nat} {i : Int32} (hd : decode Y.2.1 pc = .ok (.aastore, 1)) (hs : sh[kk]? = some (3, nn)) (hv : sh[v]? = some (14, 0)) (hi : vp_in i nn) (hi0 : i.toNatClampNeg = i0)
    (g : S em true d k n Y sh (ur R kk (va_up (R kk) i0 (some v))) m (pc + 1) ls st f) : S em true d k n Y sh R m pc ls (.ref v :: .int i :: .ref kk :: st) f :=
  S_mem (fun {p l e R0 s m0 args below meth c H locs cells slots Q' larr E ad A} hC hW hS _ _ _ kx => va_astq (r := (RX4, TX4, 3)) (f := fun i => (R kk i).map ad) hC.1 hC.2.1 hC.2.2.2.2.2.2.2.2.1 hW.1 hW.2 hS kk 3 v 4 (by rw [cW_get hs, cE_q]) rfl (by rw [cW_get hv, show ((14, 0) : Nat × Nat) = (10 + 4, 0) from rfl, cE_obj]) rfl hi hd
    (fun H1 locs1 hP hD hS1 => kx H1 locs1 (Wd_set hs (M' := wR (mk m R) kk (va_up (R kk) i0 (some v))) wR_off (by
      rw [cE_q]
      refine congrArg (fun g => Sum.inl (E.2 3, nn, Sum.inr (Sum.inr (Sum.inr (Sum.inr g))))) (funext fun j => ?_)
      show ((ur R kk (va_up (R kk) i0 (some v))) kk j).map ad = va_up (fun i => (R kk i).map ad) i.toNatClampNeg (some (ad v)) j
      rw [ur_s, hi0]
      unfold va_up
      split <;> rfl) hP hD) hS1)) g
end SA
/-! constructors -/
abbrev eX : EM (Sh × RR × MI) := fun r => (none, r.1, mk r.2.2 r.2.1)
section SI
variable {ρ : Type} {em : EM ρ} {d k n : Nat} {Y : YD} {sh : Sh} {R : RR} {m : MI} {pc : Nat} {ls : List (Nat × Value)} {st : List Value} {f : Option ρ} {idx : Nat}
/-- a constructor, by its link -/
theorem o_init {d2 k2 n2 np : Nat} {rk : Nat} {Y2 : YD} {av rest : List Value} {sh' : Sh} {R' : RR} {m' : MI} (k' n' : Nat)
    (hd : decode Y.2.1 pc = .ok (.invokespecial idx, 3)) (hK : KS eX true d2 k2 n2 Y2 sh R m (.ref rk :: av) (some (sh', R', m'))) (hr : Y2.2.2.2 = none) (hnm : Y2.1.name = "<init>")
    (hlink : Cond.methodLink Y.1.cls idx Y2.1 ∈ tW) (hinst : Cond.instanceMethod Y2.1 ∈ tW) (hini : Cond.initialized Y2.1.cls ∈ tW) (hcode : Cond.code Y2.1 Y2.2.1 Y2.2.2.1 none ∈ tW)
    (hx : Y2.1.cls ≠ "java/lang/invoke/MethodHandle" ∧ Y2.1.cls ≠ "java/lang/invoke/VarHandle" ∧ (parseMethodDescriptor Y2.1.desc).map (fun d => d.parameters.length) = some np) (hav : av.length = np)
    (hst : st = av.reverse ++ .ref rk :: rest) (hcat : (rest.map fun v => v.category).sum ≤ 8) (hd2 : d2 + 1 ≤ d) (hml : Y2.2.2.1 ≤ 45)
    (hls : ∀ q ∈ ls, okv sh.length q.2) (hrs : ∀ v ∈ rest, okv sh.length v) (hk : k' + k2 ≤ k) (hn : n' + n2 ≤ n)
    (g : S em true d k' n' Y sh' R' m' (pc + 3) ls rest f) : S em true d k n Y sh R m pc ls st f := fun r hrr => by
  refine G_callI (b2 := true) (k2 := k2) (n2 := n2) hd (hK _ rfl) hr hnm hlink hinst hini hcode hx hav hst hcat hd2 hml (Or.inr ⟨rfl, hls, hrs⟩) (by omega) (by omega) (fun v sh2 M2 e _ => ?_)
  simp only [eX, Prod.mk.injEq] at e
  obtain ⟨rfl, rfl, rfl⟩ := e
  intro p l e s m args below meth c H locs cells slots E ad0 n0 ad A larr mc ms hC hAg hn hW hS hl hk2 hs2
  exact g r hrr p l e s m args below meth c H locs cells slots E ad0 n0 ad A larr mc ms hC hAg hn hW hS hl (by omega) (by omega)
/-- a constructor of a nest mate -/
theorem o_initN {d2 k2 n2 np : Nat} {rk : Nat} {Y2 : YD} {av rest : List Value} {sh' : Sh} {R' : RR} {m' : MI} (k' n' : Nat)
    (hd : decode Y.2.1 pc = .ok (.invokespecial idx, 3)) (hK : KS eX true d2 k2 n2 Y2 sh R m (.ref rk :: av) (some (sh', R', m'))) (hr : Y2.2.2.2 = none) (hnm : Y2.1.name = "<init>")
    (hlink : ∀ {s : State}, Nws s → va_Nw (.methodLinkNest Y.1.cls idx Y2.1 RX6) s) (hinst : Cond.instanceMethod Y2.1 ∈ tW) (hini : Cond.initialized Y2.1.cls ∈ tW) (hcode : Cond.code Y2.1 Y2.2.1 Y2.2.2.1 none ∈ tW)
    (hx : Y2.1.cls ≠ "java/lang/invoke/MethodHandle" ∧ Y2.1.cls ≠ "java/lang/invoke/VarHandle" ∧ (parseMethodDescriptor Y2.1.desc).map (fun d => d.parameters.length) = some np) (hav : av.length = np)
    (hst : st = av.reverse ++ .ref rk :: rest) (hcat : (rest.map fun v => v.category).sum ≤ 8) (hd2 : d2 + 1 ≤ d) (hml : Y2.2.2.1 ≤ 45)
    (hls : ∀ q ∈ ls, okv sh.length q.2) (hrs : ∀ v ∈ rest, okv sh.length v) (hk : k' + k2 ≤ k) (hn : n' + n2 ≤ n)
    (g : S em true d k' n' Y sh' R' m' (pc + 3) ls rest f) : S em true d k n Y sh R m pc ls st f := fun r hrr => by
  refine G_call (b2 := true) (av := .ref rk :: av) (rest := rest) (k2 := k2) (n2 := n2) ?_ (Or.inr ⟨rfl, hls, hrs⟩) (by omega) (by omega) (Q2 := fun v sh3 M3 => (v, sh3, M3) = eX (sh', R', m')) (fun v sh2 M2 e _ => ?_)
  · intro p l e R0 s m0 args below meth c H locs cells slots larr E ad A hC hW hS hsz hRf hRl hroom
    have hT := hC.2.2.2.2.1
    have hM := hK _ rfl l E ad H.size
    rw [hr] at hM
    have hcw := va_cnB (R := R0) (args := args) (own := Y.1.cls) (host := RX6) (index := idx) (y := Y2.1) (bytes := Y2.2.1) (maxL := Y2.2.2.1) (ret := none) (rm := rmK d2 k2 n2) (mc := k2) (ms := n2) (ws := .code Y2.1 Y2.2.1 Y2.2.2.1 none :: tW) np hT (good_cons hcode tW_good) rfl rfl rfl (hlink hC.2.2.2.2.2.2.2.2.2.1.2.2.2.2.2.2.2.2) (hT _ hini) hx ⟨by rw [hRf]; exact hd2, by rw [hRl]; show 8 + (Y2.2.2.1 + 11) + 64 * d2 ≤ 64 * d; omega⟩
    exact va_runIN (As := av.map (cV ad)) (b := ad rk) ⟨hC.1, hC.2.1, hC.2.2.1, hC.2.2.2.1, hT⟩ hM ⟨hcw, hnm, hT _ hinst⟩ ⟨pc_blind, pc_here (av := .ref rk :: av) hC hW hS⟩ rfl (by rw [List.length_map]; exact hav) hsz
      (by show st.map (cV ad) = _; rw [hst, List.map_append, List.map_reverse]; rfl) (by show 2 * 0 + _ ≤ 8; rw [List.map_map]; simpa [Function.comp_def, cV_cat] using hcat) hd hroom
  · simp only [eX, Prod.mk.injEq] at e
    obtain ⟨rfl, rfl, rfl⟩ := e
    intro p l e s m args below meth c H locs cells slots E ad0 n0 ad A larr mc ms hC hAg hn hW hS hl hk2 hs2
    exact g r hrr p l e s m args below meth c H locs cells slots E ad0 n0 ad A larr mc ms hC hAg hn hW hS hl (by omega) (by omega)
end SI
