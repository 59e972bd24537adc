/-! THE LAW'S CASES -/
def lsI (x : Int32) : List (Nat × Value) := [(3, .int x), (2, .ref 61), (1, .ref 0), (0, .ref 2000)]
abbrev RdD (pc : Nat) (j : Int) : Prop := decode code pc = .ok (.aload_n 0, 1) ∧ decode code (pc + 1) = .ok (.iload_n 3, 1) ∧ decode code (pc + 1 + 1) = .ok (.iconst j, 1) ∧ decode code (pc + 1 + 1 + 1) = .ok (.iadd, 1) ∧ decode code (pc + 1 + 1 + 1 + 1) = .ok (.iaload, 1)
section CS
variable {X : LX} {L ii : Nat} {xs : Nat → Int32} {k n : Nat} {sh : Sh} {M : MM} {pc : Nat} {st : List Value}
theorem L_rd (C : X.ok L xs) (hL : L ≤ 3072) {j : Nat} (hj : ii + j < L) (hj5 : j ≤ 5) (D : RdD pc (j : Int)) (g : LG X k n sh M (pc + 5) (lsI (nI ii)) (.int (xs (ii + j)) :: st)) : LG X k n sh M pc (lsI (nI ii)) st := by
  obtain ⟨d1, d2, d3, d4, d5⟩ := D
  refine L_aload_n C 3 d1 rfl rfl ?_
  refine L_iload_n C 0 d2 rfl rfl ?_
  refine L_iconst C d3 (x := nI j) rfl ?_
  refine L_iadd C d4 ?_
  rw [nI_add]
  exact L_sld C (vp_in_nI hj (by omega)) (nI_clamp (by omega)) d5 g
def RdsD : Nat → Nat → Nat → Prop
  | 0, _, _ => True
  | q + 1, pc, a => RdD pc ((a + 1 : Nat) : Int) ∧ RdsD q (pc + 5) (a + 1)
theorem L_rds (C : X.ok L xs) (hL : L ≤ 3072) (hi : ii + 6 ≤ L) : ∀ (q a pc : Nat) (st : List Value), RdsD q pc a → a + q ≤ 5 → LG X k n sh M (pc + 5 * q) (lsI (nI ii)) (((List.range' a q).map (fun j => Value.int (xs (ii + (j + 1))))).reverse ++ st) → LG X k n sh M pc (lsI (nI ii)) st := by
  intro q
  induction q with
  | zero => intro a pc st D hq g; exact g
  | succ q ih =>
    intro a pc st D hq g
    refine L_rd C hL (j := a + 1) (by omega) (by omega) D.1 ?_
    refine ih (a + 1) (pc + 5) _ D.2 (by omega) ?_
    · rw [show pc + 5 * (q + 1) = pc + 5 + 5 * q by omega, List.range'_succ, List.map_cons, List.reverse_cons, List.append_assoc] at g
      exact g
def argV (xs : Nat → Int32) (ii n : Nat) : List Value := (List.range' 0 n).map (fun j => Value.int (xs (ii + (j + 1))))
theorem argV_len : (argV xs ii n).length = n := by unfold argV; rw [List.length_map, List.length_range']
theorem lsI_okv {x : Int32} {N : Nat} (h : 61 < N) : ∀ q ∈ lsI x, okv N q.2 := fun q hq => by
  simp only [lsI, List.mem_cons, List.not_mem_nil, or_false] at hq
  rcases hq with rfl | rfl | rfl | rfl
  · exact okv_int
  · exact okv_ref (Or.inl h)
  · exact okv_ref (Or.inl (by omega))
  · exact okv_ref (Or.inr (by omega))
theorem Rel_sh {R : RR} {m : MI} (H : Rel sh R m) : sh[0]? = some (16, 0) ∧ sh[61]? = some (17, 0) ∧ 61 < sh.length := by
  have hF := Fx_of H.2.2.2.2.2
  have h61 := hF.1 61 (17, 0) rfl
  exact ⟨hF.1 0 (16, 0) rfl, h61, (List.getElem?_eq_some_iff.mp h61).1⟩
/-- one case: class, reference, the same answer -/
theorem L_caseG (C : X.ok L xs) {x : Int32} {av : List Value} {p1 p2 i1 i2 np : Nat} {Y6 Y7 : YD} {iv : Value → Prop} {R : RR} {m : MI} (D1 : decode code pc = .ok (.aload_n 1, 1))
    (hA1 : ∀ {k n : Nat} {sh : Sh} {M : MM} {st : List Value}, LG X k n sh M p1 (lsI x) (av.reverse ++ st) → LG X k n sh M (pc + 1) (lsI x) st) (D2 : decode code p1 = .ok (.invokevirtual i1, 3)) (D3 : decode code (p1 + 3) = .ok (.aload_n 2, 1))
    (hA2 : ∀ {k n : Nat} {sh : Sh} {M : MM} {st : List Value}, LG X k n sh M p2 (lsI x) (av.reverse ++ st) → LG X k n sh M (p1 + 3 + 1) (lsI x) st) (D4 : decode code p2 = .ok (.invokevirtual i2, 3))
    (hcmp : ∀ {v : Value} {k n : Nat} {sh : Sh} {M : MM}, iv v → LG X k n sh M 1278 (lsI x) [] → LG X k n sh M (p2 + 3) (lsI x) [v, v]) (hiv : ∀ v, iv v → (∀ N, okv N v) ∧ v.category ≤ 2)
    (h6 : CMo Y6 6 np) (h7 : CMo Y7 7 np) (l6 : Cond.methodLink R_law i1 Y6.1 ∈ tW) (l7 : Cond.methodLink R_law i2 Y7.1 ∈ tW) (hav : av.length = np) (H : Rel sh R m) (O : OK2 Y6 Y7 av sh R m iv)
    (g : ∀ sh' R' m', Rel sh' R' m' → LG X k n sh' (mk m' R') 1278 (lsI x) []) : LG X (k + 4) (n + 206) sh (mk m R) pc (lsI x) [] := by
  obtain ⟨v, sh', R', m1, m2, m3, hv, c1, c2, hE, H3⟩ := O
  obtain ⟨s0, -, hl⟩ := Rel_sh H
  obtain ⟨-, s61, hl'⟩ := Rel_sh H3
  refine L_aload_n C 2 D1 rfl rfl ?_
  refine hA1 ?_
  refine L_call (k := k + 2) (n := n + 103) C (ci := 6) (nn := 0) (rest := []) D2 l6 h6 c1 s0 hav rfl (by decide) (lsI_okv hl) (fun v hv => by cases hv) ?_
  refine L_aload_n C 1 D3 rfl rfl ?_
  refine hA2 ?_
  refine L_call (k := k) (n := n) C (ci := 7) (nn := 0) (rest := [v]) D4 l7 h7 c2 s61 hav rfl ?_ (lsI_okv hl') (fun w hw => ?_) ?_
  · have := (hiv v hv).2
    simp only [List.map_cons, List.map_nil, List.sum_cons, List.sum_nil]
    omega
  · rw [List.mem_singleton.mp hw]; exact (hiv v hv).1 _
  · exact hcmp hv (L_MEq hE (g sh' R' m3 H3))
theorem hivI : ∀ v, isI v → (∀ N, okv N v) ∧ v.category ≤ 2 := fun v ⟨x, e⟩ => by subst e; exact ⟨fun _ => okv_int, (show (1 : Nat) ≤ 2 by omega)⟩
theorem hivL : ∀ v, isL v → (∀ N, okv N v) ∧ v.category ≤ 2 := fun v ⟨x, e⟩ => by subst e; exact ⟨fun _ => okv_long, (show (2 : Nat) ≤ 2 by omega)⟩
theorem cmpI (C : X.ok L xs) {x : Int32} {off : Int} (d : decode code pc = .ok (.if_icmp .eq off, 3)) (ht : (pc : Int) + off = 1278) : ∀ {v : Value} {k n : Nat} {sh : Sh} {M : MM}, isI v → LG X k n sh M 1278 (lsI x) [] → LG X k n sh M pc (lsI x) [v, v] := by
  intro v k n sh M ⟨y, e⟩ g
  subst e
  exact L_icmp_eq_t C d ht rfl g
theorem lg_cmp_s (y : Int64) : lg_cmp y y = 0 := by
  unfold lg_cmp
  simp
theorem cmpL (C : X.ok L xs) {x : Int32} {off : Int} (d : decode code pc = .ok (.lcmp, 1)) (d2 : decode code (pc + 1) = .ok (.ifCond .eq off, 3)) (ht : ((pc + 1 : Nat) : Int) + off = 1278) : ∀ {v : Value} {k n : Nat} {sh : Sh} {M : MM}, isL v → LG X k n sh M 1278 (lsI x) [] → LG X k n sh M pc (lsI x) [v, v] := by
  intro v k n sh M ⟨y, e⟩ g
  subst e
  refine L_lcmp C d ?_
  exact L_if_eq_t C d2 ht (lg_cmp_s y) g
abbrev CaseD (pc n i1 i2 : Nat) : Prop := decode code pc = .ok (.aload_n 1, 1) ∧ RdsD n (pc + 1) 0 ∧ decode code (pc + 1 + 5 * n) = .ok (.invokevirtual i1, 3) ∧ decode code (pc + 1 + 5 * n + 3) = .ok (.aload_n 2, 1) ∧ RdsD n (pc + 1 + 5 * n + 3 + 1) 0 ∧ decode code (pc + 1 + 5 * n + 3 + 1 + 5 * n) = .ok (.invokevirtual i2, 3)
theorem L_caseI (C : X.ok L xs) (hL : L ≤ 3072) (hi : ii + 6 ≤ L) {np i1 i2 pE : Nat} {off : Int} {Y6 Y7 : YD} {R : RR} {m : MI} (D : CaseD pc np i1 i2) (hp : pc + 1 + 5 * np + 3 + 1 + 5 * np + 3 = pE) (d : decode code pE = .ok (.if_icmp .eq off, 3)) (ht : (pE : Int) + off = 1278) (hn : np ≤ 5)
    (h6 : CMo Y6 6 np) (h7 : CMo Y7 7 np) (l6 : Cond.methodLink R_law i1 Y6.1 ∈ tW) (l7 : Cond.methodLink R_law i2 Y7.1 ∈ tW) (H : Rel sh R m) (O : OK2 Y6 Y7 (argV xs ii np) sh R m isI)
    (g : ∀ sh' R' m', Rel sh' R' m' → LG X k n sh' (mk m' R') 1278 (lsI (nI ii)) []) : LG X (k + 4) (n + 206) sh (mk m R) pc (lsI (nI ii)) [] := by
  obtain ⟨D1, D2, D3, D4, D5, D6⟩ := D
  subst hp
  exact L_caseG C D1 (fun h => L_rds C hL hi np 0 _ _ D2 (by omega) h) D3 D4 (fun h => L_rds C hL hi np 0 _ _ D5 (by omega) h) D6 (cmpI C d ht) hivI h6 h7 l6 l7 argV_len H O g
theorem L_caseL (C : X.ok L xs) (hL : L ≤ 3072) (hi : ii + 6 ≤ L) {np i1 i2 pE : Nat} {off : Int} {Y6 Y7 : YD} {R : RR} {m : MI} (D : CaseD pc np i1 i2) (hp : pc + 1 + 5 * np + 3 + 1 + 5 * np + 3 = pE) (d : decode code pE = .ok (.lcmp, 1)) (d2 : decode code (pE + 1) = .ok (.ifCond .eq off, 3)) (ht : ((pE + 1 : Nat) : Int) + off = 1278) (hn : np ≤ 5)
    (h6 : CMo Y6 6 np) (h7 : CMo Y7 7 np) (l6 : Cond.methodLink R_law i1 Y6.1 ∈ tW) (l7 : Cond.methodLink R_law i2 Y7.1 ∈ tW) (H : Rel sh R m) (O : OK2 Y6 Y7 (argV xs ii np) sh R m isL)
    (g : ∀ sh' R' m', Rel sh' R' m' → LG X k n sh' (mk m' R') 1278 (lsI (nI ii)) []) : LG X (k + 4) (n + 206) sh (mk m R) pc (lsI (nI ii)) [] := by
  obtain ⟨D1, D2, D3, D4, D5, D6⟩ := D
  subst hp
  exact L_caseG C D1 (fun h => L_rds C hL hi np 0 _ _ D2 (by omega) h) D3 D4 (fun h => L_rds C hL hi np 0 _ _ D5 (by omega) h) D6 (cmpL C d d2 ht) hivL h6 h7 l6 l7 argV_len H O g
end CS
