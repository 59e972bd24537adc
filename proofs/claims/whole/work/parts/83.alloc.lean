/-! WHAT IS MADE -/
def adn (ad : Nat → Nat) (n q : Nat) : Nat → Nat := fun j => if j = n then q else ad j
theorem adn_s {ad : Nat → Nat} {n q : Nat} : adn ad n q n = q := if_pos rfl
theorem adn_n {ad : Nat → Nat} {n q j : Nat} (h : j ≠ n) : adn ad n q j = ad j := if_neg h
/-- the memory with a new cell, all 0 -/
def zM (M : MM) (n : Nat) : MM := (ur M.1 n (fun _ => 0), ur M.2.1 n (fun _ => 0), ur M.2.2 n (fun _ => none))
def zI (m : MI) (n : Nat) : MI := (ur m.1 n (fun _ => 0), ur m.2 n (fun _ => 0))
def zR (R : RR) (n : Nat) : RR := ur R n (fun _ => none)
theorem zM_mk {m : MI} {R : RR} {n : Nat} : zM (mk m R) n = mk (zI m n) (zR R n) := rfl
theorem cW_app {ct : Nat → ClassId} {ad : Nat → Nat} {sh : Sh} {M : MM} {q : Nat} {s : Nat × Nat} (hR : Rok sh.length M.2.2) : cW ct (adn ad sh.length q) (sh ++ [s]) (zM M sh.length) = cW ct ad sh M ++ [(q, cE ct (adn ad sh.length q) (zM M sh.length) sh.length s)] := by
  apply List.ext_getElem?
  intro i
  simp only [cW, List.getElem?_mapIdx]
  by_cases hi : i < sh.length
  · rw [List.getElem?_append_left hi, List.getElem?_append_left (by simpa using hi), List.getElem?_mapIdx]
    cases sh[i]? with
    | none => rfl
    | some s' =>
      simp only [Option.map_some]
      rw [adn_n (by omega), cE_ext (ur_n (by omega)) (ur_n (by omega)) (fun j => ?_)]
      show (((ur M.2.2 sh.length (fun _ => none)) i j).map (adn ad sh.length q)) = (M.2.2 i j).map ad
      rw [ur_n (by omega)]
      cases hr : M.2.2 i j with
      | none => rfl
      | some r => rw [Option.map_some, Option.map_some, adn_n (by have := hR i j r hr; omega)]
  · rw [List.getElem?_append_right (by omega), List.getElem?_append_right (by simpa using hi)]
    simp only [List.length_mapIdx]
    by_cases e : i = sh.length
    · subst e
      simp [adn_s]
    · have : i - sh.length ≠ 0 := by omega
      obtain ⟨j, hj⟩ : ∃ j, i - sh.length = j + 1 := ⟨i - sh.length - 1, by omega⟩
      rw [hj]; rfl
theorem Ag_new {n n0 : Nat} {ad0 ad : Nat → Nat} {q : Nat} (h : Ag true n0 ad0 ad) (hn : n0 ≤ n) (hl : n < 1000) : Ag true n0 ad0 (adn ad n q) := ⟨fun h => (by cases h), fun j hj => by rw [adn_n (by omega)]; exact h.2 j hj⟩
section GA
variable {b : Bool} {d k n : Nat} {Y : YD} {sh : Sh} {M : MM} {pc : Nat} {ls : List (Nat × Value)} {st : List Value} {Q : PO}
/-- a step that makes one cell -/
theorem G_alloc {s0 : Nat × Nat} {N k' n' pc' : Nat} {st' : List Value}
    (h : ∀ {p : Program} {l : Launch} {e : Env} {R : Room} {s : State} {m : MethodId} {args : Array Value} {below : List Frame} {meth : Method} {c : Code} {H : Heap} {locs : List Loc} {cells slots : Nat} {Q' : State → Prop} {larr : Array Slot} {E : EV} {ad : Nat → Nat} {A : Nat → Prop},
      Cx Y E ad A p s m args meth c → Wd E ad sh M A H → va_S A s.heap H locs → cells + 1 ≤ R.cells → slots + N ≤ R.slots →
      (∀ (q : Nat) (H1 : Heap), va_P E.1 cls8 (cW E.2 ad sh M ++ [(q, cE E.2 (adn ad sh.length q) (zM M sh.length) sh.length s0)]) H1 → va_D A (cW E.2 ad sh M ++ [(q, cE E.2 (adn ad sh.length q) (zM M sh.length) sh.length s0)]) → va_S A s.heap H1 locs → W p l e R s m args below meth c H1 locs (cells + 1) (slots + N) Q' (F0 m pc' larr (.ref q :: st'.map (cV ad)))) → W p l e R s m args below meth c H locs cells slots Q' (F0 m pc larr (st.map (cV ad))))
    (hb : b = true) (hR : Rok sh.length M.2.2) (hlen : sh.length < 1000) (hls : ∀ q ∈ ls, okv sh.length q.2) (hst : ∀ v ∈ st', okv sh.length v) (hk : k' + 1 ≤ k) (hn : n' + N ≤ n)
    (g : G b d k' n' Y (sh ++ [s0]) (zM M sh.length) pc' ls (.ref sh.length :: st') Q) : G b d k n Y sh M pc ls st Q := by
  intro p l e s m args below meth c H locs cells slots E ad0 n0 ad A larr mc ms hC hAg hn0 hW hS hl hk' hs'
  subst hb
  refine h hC hW hS (by show cells + 1 ≤ mc; omega) (by show slots + N ≤ ms; omega) (fun q H1 hP hD hS1 => ?_)
  have hag1 : Ag true sh.length ad (adn ad sh.length q) := ⟨fun h => (by cases h), fun j hj => adn_n (by omega)⟩
  have e1 : Value.ref q :: st'.map (cV ad) = (Value.ref sh.length :: st').map (cV (adn ad sh.length q)) := by
    rw [List.map_cons, map_okv hag1 (Or.inr hst)]
    show _ = Value.ref (adn ad sh.length q sh.length) :: _
    rw [adn_s]
  rw [e1]
  rw [← cW_app hR] at hP hD
  refine g p l e s m args below meth c H1 locs _ _ E ad0 n0 (adn ad sh.length q) A larr mc ms ?_ (Ag_new hAg hn0 hlen) (by rw [List.length_append]; omega) ⟨hP, hD⟩ hS1 ?_ (by omega) (by omega)
  · obtain ⟨c1, c2, c3, c4, c5, c6, c7, c8, c9, c10, c11⟩ := hC
    exact ⟨c1, c2, c3, c4, c5, c6, c7, c8, c9, St_ad c10 hag1.hi, c11⟩
  · rw [mapL_okv hag1 (Or.inr hls)]
    exact hl
end GA
theorem fc_uq {E : EV} {s : State} {i : Nat} {cA : ClassId} {ty : FieldType} (hW : Wk E s) (hi : (tyL E)[i]? = some (E.2 i, ty)) (h : s.vm.findClass ("[" ++ ty.toString) = some cA) : cA = E.2 i := by
  have h2 := (hW.2 i _ hi).2
  have h3 : s.vm.findClass ("[" ++ ty.toString) = some (E.2 i) := by
    cases ty with
    | object C => exact h2.choose_spec.choose_spec.2.2.2
    | _ => exact h2
  rw [h] at h3
  exact Option.some.inj h3
def dfT (t : FieldType) : Value := defaultValue t
set_option maxRecDepth 100000 in
theorem df8 : ∀ ci, ci < 8 → ∀ j, j < nF ci → (match defaultValue (ty8 ci j) with | .null => fR ci j | .int x => !(fR ci j) && (x == 0) | _ => false) = true := by decide +kernel
theorem fs8 {ci : Nat} {ad : Nat → Nat} {M : MM} {kk : Nat} (hci : ci < 8) (h1 : M.1 kk = fun _ => 0) (h2 : M.2.2 kk = fun _ => none) : ∀ j, j < nF ci → defaultValue (ty8 ci j) = vp_V (cF ad M kk ci) j := by
  intro j hj
  have h := df8 ci hci j hj
  unfold vp_V cF
  rw [List.getD_eq_getElem?_getD, List.getElem?_map, List.getElem?_range hj, Option.map_some, Option.getD_some, h1, h2]
  cases hd : defaultValue (ty8 ci j) with
  | null =>
    rw [hd] at h
    simp only [] at h
    rw [if_pos h]; rfl
  | int x =>
    rw [hd] at h
    simp only [Bool.and_eq_true, Bool.not_eq_true', beq_iff_eq] at h
    rw [if_neg (by rw [h.1]; decide), h.2]
  | _ => rw [hd] at h; cases h
section SA
variable {ρ : Type} {em : EM ρ} {d k n : Nat} {Y : YD} {sh : Sh} {R : RR} {m : MI} {pc : Nat} {ls : List (Nat × Value)} {st : List Value} {f : Option ρ} {ci idx : Nat} {q : vw_C}
theorem o_new (k' n' : Nat) (hd : decode Y.2.1 pc = .ok (.new idx, 3)) (hc : cls8[ci]? = some q) (hw : Cond.classLink Y.1.cls idx q.1 ∈ tW) (hw1 : Cond.instantiable q.1 q.2.2 ∈ tW) (hw2 : Cond.initialized q.1 ∈ tW)
    (hR : Rok sh.length R) (hlen : sh.length < 1000) (hls : ∀ v ∈ ls, okv sh.length v.2) (hst : ∀ v ∈ st, okv sh.length v) (hk : k' + 1 ≤ k) (hn : n' + q.2.2 ≤ n)
    (g : S em true d k' n' Y (sh ++ [(10 + ci, 0)]) (zR R sh.length) (zI m sh.length) (pc + 3) ls (.ref sh.length :: st) f) : S em true d k n Y sh R m pc ls st f := fun r hr => by
  have hci : ci < 8 := (List.getElem?_eq_some_iff.mp hc).1
  refine G_alloc (s0 := (10 + ci, 0)) (N := q.2.2) (st' := st) ?_ rfl hR hlen hls hst hk hn (g r hr)
  intro p l e R0 s m0 args below meth c H locs cells slots Q' larr E ad A hC hW hS hcl hsl kx
  refine va_new (ci := ci) (C := q.1) (T := q.2.1) (N := q.2.2) (fs := fun _ => _) hC.1 hC.2.1 hC.2.2.2.2.1 (in8 hc) (ty8 ci) (ty8_ok hc) hC.2.2.2.1 (hC.2.2.2.2.1 _ hw) (hC.2.2.2.2.1 _ hw1) (hC.2.2.2.2.1 _ hw2) hC.2.2.2.2.2.2.2.2.1 hW.1 hW.2 hS hC.2.2.2.2.2.2.2.2.2.2 hc ?_ hcl hsl hd ?_
  all_goals sorry
end SA
