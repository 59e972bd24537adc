/-! READING A HUT: the reference, tests, factors, sums -/
set_option maxRecDepth 100000 in
theorem mtT : ∀ l, l < 6 → ∀ c, c < 3 → ∀ n, n < 100 → (((1000 : Int32) * nI l) + ((100 : Int32) * nI c)) + nI n = nI (1000 * l + 100 * c + n) := by decide +kernel
section RQ
variable {m0 m : MI} {c b p o : Nat} {S : List Tok} {W : List Nat} {T : Nat → Nat} {len : Nat}
theorem R_dg (hT : RT m T len) {p : Nat} (h : m.1 61 13 = nI p) (hp : p ≤ len) : fM_isDigit m = some (if dgB T len p = true then 1 else 0, m) := by
  unfold fM_isDigit
  rw [R_nx hT h hp]
  simp only [Option.bind_some]
  unfold nxB dgB
  by_cases d : p < len
  · have hb := (hT.2.1 p d).1
    rw [if_pos d, M_in]
    simp only [Option.bind_some, d, decide_true, Bool.true_and, Bool.and_eq_true, decide_eq_true_eq]
    by_cases c : 48 ≤ T p ∧ T p ≤ 57
    · rw [if_neg (show ¬ (nI (T p) < 48 ∨ (57 : Int32) < nI (T p)) from fun q => q.elim (nI_nlt (b := 48) c.1 (by omega)) (nI_nlt (a := 57) c.2 (by omega))), if_pos c, if_pos (by decide)]
    · rw [if_pos (show nI (T p) < 48 ∨ (57 : Int32) < nI (T p) from by
        by_cases c1 : 48 ≤ T p
        · exact Or.inr (nI_lt (a := 57) (by omega) (by omega))
        · exact Or.inl (nI_lt (b := 48) (by omega) (by omega))), if_neg c, if_pos (by decide)]
  · rw [if_neg d, M_in]
    simp only [Option.bind_some, d, decide_false, Bool.false_and]
    rw [if_pos (show (-1 : Int32) < 48 ∨ (57 : Int32) < -1 from Or.inl (by decide)), if_pos (by decide), if_neg (by decide)]
theorem R_nm (hT : RT m0 T len) (h : RS m0 m c b p S W o) (hp : p ≤ len) : (nmP T len p = none ∧ fM_takesNumber m = some (0, m)) ∨ ∃ n q m', nmP T len p = some (n, q) ∧ fM_takesNumber m = some (1, m') ∧ RS m0 m' c b q S W o ∧ m'.1 61 14 = nI n := by
  obtain ⟨F, hF1⟩ : ∃ F : Nat, F = 1000 := ⟨_, rfl⟩
  obtain ⟨f2, hF2⟩ : ∃ f2, F = f2 + 1 + 1 + 1 := ⟨F - 3, by omega⟩
  have step : ∀ (m : MI) (p v : Nat) (f : Nat) (a : Nat) (kc : MI → Int32 → Option (Int32 × MI)), RS m0 m c b p S W o → p ≤ len → m.1 61 14 = nI a → v < 2 → fM_takesNumber_l16 kc (f + 1) m (nI v) = if dgB T len p = true then fM_takesNumber_l16 kc f (mI (mI m 61 (upd (m.1 61) 14 ((10 : Int32) * nI a + nI (T p) - 48))) 61 (upd ((mI m 61 (upd (m.1 61) 14 ((10 : Int32) * nI a + nI (T p) - 48))).1 61) 13 (nI (p + 1)))) (nI (v + 1)) else kc m (nI v) := fun m p v f a kc h hp ha hv => by
    have T1 := RT_of hT h
    rw [fM_takesNumber_l16, if_neg (show ¬ (2 : Int32) ≤ nI v from not_le_nI (n := 2) hv (by omega)), R_dg T1 h.2.1 hp]
    simp only [Option.bind_some]
    by_cases d : dgB T len p = true
    · have d' := d
      unfold dgB at d'
      simp only [Bool.and_eq_true, decide_eq_true_eq] at d'
      rw [if_pos d, if_neg (show ¬ (1 : Int32) = 0 by decide), R_nx T1 h.2.1 hp, if_pos d]
      unfold nxB
      rw [if_pos d'.1]
      simp only [Option.bind_some, lm, lt, ha, nI_1, mI_s, upd_n (show (13 : Nat) ≠ 14 by decide), h.2.1]
    · rw [if_neg d, if_pos rfl, if_neg d]
  have T1 := RT_of hT h
  unfold fM_takesNumber nmP
  rw [← hF1, hF2, R_dg T1 h.2.1 hp]
  simp only [Option.bind_some]
  by_cases d : dgB T len p = true
  · have d' := d
    unfold dgB at d'
    simp only [Bool.and_eq_true, decide_eq_true_eq] at d'
    simp only [if_pos d]
    rw [if_neg (show ¬ (1 : Int32) = 0 by decide)]
    simp only [lm]
    have h1 := RS_14 h 0
    rw [show (0 : Int32) = nI 0 from rfl] at h1 ⊢
    rw [step _ p 0 _ 0 _ h1 hp (by rw [mI_s, upd_s]) (by omega), if_pos d]
    have e1 : (10 : Int32) * nI 0 + nI (T p) - 48 = nI (T p - 48) := by rw [show (10 : Int32) = nI 10 from rfl, pk_mul, nI_add, show (48 : Int32) = nI 48 from rfl, pk_sub (by omega)]; congr 1; omega
    rw [e1]
    have h2 := RS_13 (RS_14 h1 (nI (T p - 48))) (p + 1)
    have v2 : (mI (mI (mI m 61 (upd (m.1 61) 14 (nI 0))) 61 (upd ((mI m 61 (upd (m.1 61) 14 (nI 0))).1 61) 14 (nI (T p - 48)))) 61 (upd ((mI (mI m 61 (upd (m.1 61) 14 (nI 0))) 61 (upd ((mI m 61 (upd (m.1 61) 14 (nI 0))).1 61) 14 (nI (T p - 48)))).1 61) 13 (nI (p + 1)))).1 61 14 = nI (T p - 48) := by rw [mI_s, upd_n (by decide), mI_s, upd_s]
    rw [step _ (p + 1) 1 _ (T p - 48) _ h2 d'.1 v2 (by omega)]
    by_cases d2 : dgB T len (p + 1) = true
    · have d2' := d2
      unfold dgB at d2'
      simp only [Bool.and_eq_true, decide_eq_true_eq] at d2'
      have e2 : (10 : Int32) * nI (T p - 48) + nI (T (p + 1)) - 48 = nI (10 * (T p - 48) + (T (p + 1) - 48)) := by rw [show (10 : Int32) = nI 10 from rfl, pk_mul, nI_add, show (48 : Int32) = nI 48 from rfl, pk_sub (by omega)]; congr 1; omega
      rw [if_pos d2, if_pos d2, e2]
      have h3 := RS_13 (RS_14 h2 (nI (10 * (T p - 48) + (T (p + 1) - 48)))) (p + 1 + 1)
      rw [fM_takesNumber_l16, if_pos (show (2 : Int32) ≤ nI (1 + 1) by decide)]
      exact Or.inr ⟨_, _, _, rfl, rfl, h3, by rw [mI_s, upd_n (by decide), mI_s, upd_s]⟩
    · rw [if_neg d2, if_neg d2]
      exact Or.inr ⟨_, _, _, rfl, rfl, h2, v2⟩
  · simp only [if_neg d]
    rw [if_pos trivial]
    exact Or.inl ⟨trivial, rfl⟩
theorem R_lt {x : Nat} (hx : x ≤ 127) (m : MI) : fM_letterAt m (nI x) = some (match ltP x with | some l => nI l | none => -1, m) := by
  have e : ∀ y : Nat, y ≤ 127 → (nI x = nI y ↔ x = y) := fun y hy => byte_eq hx hy
  unfold fM_letterAt ltP
  by_cases c0 : x = 100
  · subst c0; rfl
  by_cases c1 : x = 107
  · subst c1; rfl
  by_cases c2 : x = 110
  · subst c2; rfl
  by_cases c3 : x = 115
  · subst c3; rfl
  by_cases c4 : x = 108
  · subst c4; rfl
  by_cases c5 : x = 112
  · subst c5; rfl
  rw [if_neg c0, if_neg c1, if_neg c2, if_neg c3, if_neg c4, if_neg c5]
  rw [if_neg (show ¬ nI x = 100 from fun q => c0 ((e 100 (by omega)).mp q)), if_neg (show ¬ nI x = 107 from fun q => c1 ((e 107 (by omega)).mp q)), if_neg (show ¬ nI x = 108 from fun q => c4 ((e 108 (by omega)).mp q)), if_neg (show ¬ nI x = 110 from fun q => c2 ((e 110 (by omega)).mp q)), if_neg (show ¬ nI x = 112 from fun q => c5 ((e 112 (by omega)).mp q)), if_neg (show ¬ nI x = 115 from fun q => c3 ((e 115 (by omega)).mp q))]
  simp only [ite_self]
theorem R_ts (hT : RT m0 T len) (hW : W = [] ∨ ∃ W' x, W = W' ++ [x] ∧ x ≠ 33 ∧ x ≤ 127) {k : Nat} (hWl : W.length + k ≤ 100) (hb : b + S.length + 1 + k ≤ 600) (hp : p ≤ len) (h : RS m0 m c b p S (W ++ List.replicate k 33) (o + k)) : match tsP T len p with
    | .inl q => ∃ m', fM_takesTest m = some (0, m') ∧ RF m0 m' c b ∧ m'.1 61 13 = nI q
    | .inr (q, t) => ∃ m', fM_takesTest m = some (1, m') ∧ RS m0 m' c b q (S ++ ([t] ++ List.replicate k nT)) W o := by
  have hlen := hT.1
  obtain ⟨F, hF1⟩ : ∃ F : Nat, F = 1000 := ⟨_, rfl⟩
  have T1 := RT_of hT h
  unfold tsP fM_takesTest
  rw [R_nx T1 h.2.1 hp]
  simp only [Option.bind_some]
  unfold nxB
  by_cases d : p < len
  · have hby := (hT.2.1 p d).1
    rw [if_pos d, if_pos d, R_lt hby]
    simp only [Option.bind_some]
    cases hl : ltP (T p) with
    | none =>
      simp only []
      rw [if_neg (show ¬ (0 : Int32) ≤ -1 by decide)]
      exact ⟨m, rfl, h.1, h.2.1⟩
    | some l =>
      have l6 := lt_ok hl
      simp only []
      rw [if_pos (nI_pos' (show l < 2 ^ 31 by omega))]
      simp only [lm, h.2.1, nI_1]
      have h1 := RS_13 h (p + 1)
      have T2 := RT_of hT h1
      rw [R_nx T2 h1.2.1 d]
      simp only [Option.bind_some, M_in]
      have ein : (nxB T len (p + 1) < 60 ∨ (62 : Int32) < nxB T len (p + 1)) ↔ ¬ cmB T len (p + 1) = true := by
        unfold nxB cmB
        by_cases d2 : p + 1 < len
        · have hby2 := (hT.2.1 (p + 1) d2).1
          rw [if_pos d2]
          simp only [d2, decide_true, Bool.true_and, Bool.and_eq_true, decide_eq_true_eq]
          rw [show (60 : Int32) = nI 60 from rfl, show (62 : Int32) = nI 62 from rfl, nI_ltI (by omega) (by omega), nI_ltI (by omega) (by omega)]
          omega
        · rw [if_neg d2]
          simp only [d2, decide_false, Bool.false_and]
          exact ⟨fun _ => by decide, fun _ => Or.inl (by decide)⟩
      by_cases d3 : cmB T len (p + 1) = true
      · have d3' := d3
        unfold cmB at d3'
        simp only [Bool.and_eq_true, decide_eq_true_eq] at d3'
        rw [if_neg (fun q => (ein.mp q) d3), if_neg (show ¬ (1 : Int32) = 0 by decide), if_pos d3]
        have w13 : (mI m 61 (upd (m.1 61) 13 (nI (p + 1)))).1 61 13 + 1 = nI (p + 2) := by rw [h1.2.1, nI_1]
        rw [w13]
        have h2 := RS_13 h1 (p + 2)
        rcases R_nm hT h2 d3'.1 with ⟨n1, n2⟩ | ⟨n, q, m3, n1, n2, h3, v3⟩
        · rw [n1, n2]
          simp only [Option.bind_some, if_true]
          exact ⟨_, rfl, h2.1, h2.2.1⟩
        · have nb := nm_ok n1
          rw [n1, n2]
          simp only [Option.bind_some, if_neg (show ¬ (1 : Int32) = 0 by decide)]
          have ex : nxB T len (p + 1) - 60 = nI (T (p + 1) - 60) := by
            unfold nxB
            rw [if_pos d3'.1, show (60 : Int32) = nI 60 from rfl, pk_sub d3'.2.1]
          rw [ex, v3, mtT l l6 (T (p + 1) - 60) (by omega) n nb.1]
          obtain ⟨m4, e4, h4, -⟩ := R_em h3 (by omega) (0, l, T (p + 1) - 60, n)
          rw [show nI (1000 * l + 100 * (T (p + 1) - 60) + n) = mT (0, l, T (p + 1) - 60, n) from rfl, e4]
          simp only [Option.bind_some]
          obtain ⟨m5, h5, e5⟩ := R_wh hW (by omega) (fun m1 => some m1) k F m4 (S ++ [(0, l, T (p + 1) - 60, n)]) (by omega) (by omega) (by rw [List.length_append, List.length_singleton]; omega) h4
          unfold fM_whole
          rw [← hF1, e5]
          refine ⟨m5, rfl, ?_⟩
          rw [← List.append_assoc]
          exact h5
      · rw [if_pos (ein.mpr d3), if_pos rfl, if_neg d3]
        exact ⟨_, rfl, h1.1, h1.2.1⟩
  · rw [if_neg d, if_neg d]
    rw [show fM_letterAt m (-1) = some (-1, m) from rfl]
    simp only [Option.bind_some]
    rw [if_neg (show ¬ (0 : Int32) ≤ -1 by decide)]
    exact ⟨m, rfl, h.1, h.2.1⟩
/-- behind a sum -/
def AFT (u1 : Int32) (fu : Nat) (m : MI) (x : Int32) : Option (Int32 × MI) :=
  if ck u1 60 = true then
    lm (mI m 72 (upd (m.1 72) u1.toNatClampNeg (m.1 61 23))) fun m17 =>
    if m17.1 61 24 = 0 then
      some (1, m17)
    else
      if x = 41 then
        lm (mI m17 61 (upd (m17.1 61) 24 ((m17.1 61 24) - 1))) fun m20 =>
        lm (mI m20 61 (upd (m20.1 61) 25 ((m20.1 61 25) - 1))) fun m21 =>
        lm (mI m21 61 (upd (m21.1 61) 13 ((m21.1 61 13) + 1))) fun m22 =>
        (fM_whole m22).bind fun r23 =>
        fM_takesE_l22 u1 fu r23 0
      else
        some (0, m17)
  else none
theorem R_nots (hT : RT m0 T len) (u1 : Int32) : ∀ (g d p fu : Nat) (m : MI) (W : List Nat), d + g = 4 → p ≤ len → len - p + 2 ≤ fu → W.length ≤ p → RS m0 m c b p S W d → ∃ m' fu', RS m0 m' c b (p + ntP T len g p) S (W ++ List.replicate (ntP T len g p) 33) (d + ntP T len g p) ∧ len - (p + ntP T len g p) + 2 ≤ fu' ∧ fM_takesE_l22 u1 fu m 1 = fM_takesE_l22 u1 fu' m' 1 := by
  have hlen := hT.1
  intro g
  induction g with
  | zero =>
    intro d p fu m W hd hp hf hw h
    exact ⟨m, fu, by simpa [ntP] using h, hf, rfl⟩
  | succ g ih =>
    intro d p fu m W hd hp hf hw h
    unfold ntP
    by_cases r : rdB T len p 33 = true
    · have hr := rdB_t r
      obtain ⟨f', rfl⟩ : ∃ f', fu = f' + 1 := ⟨fu - 1, by omega⟩
      have T1 := RT_of hT h
      have h1 := RS_25 h (d + 1)
      have h2 := RS_psh h1 33
      have h3 := RS_13 h2 (p + 1)
      obtain ⟨m', fu', i1, i2, i3⟩ := ih (d + 1) (p + 1) f' _ (W ++ [33]) (by omega) hr.1 (by omega) (by rw [List.length_append, List.length_singleton]; omega) h3
      rw [if_pos r]
      refine ⟨m', fu', ?_, by omega, ?_⟩
      · rw [show p + (ntP T len g (p + 1) + 1) = p + 1 + ntP T len g (p + 1) by omega, show d + (ntP T len g (p + 1) + 1) = d + 1 + ntP T len g (p + 1) by omega, List.replicate_succ, show W ++ 33 :: List.replicate (ntP T len g (p + 1)) 33 = W ++ [33] ++ List.replicate (ntP T len g (p + 1)) 33 by simp]
        exact i1
      · rw [fM_takesE_l22, R_nx T1 h.2.1 hp]
        simp only [Option.bind_some]
        rw [if_neg (show ¬ (1 : Int32) = 0 by decide), if_pos (show nxB T len p = 33 from (nxB_eq T1 (c := 33) (by omega)).mpr r), h.2.2.2.2.1, if_neg (show ¬ nI d = 4 from fun q => by have := (nI_eq (b := 4) (by omega) (by omega)).mp q; omega)]
        simp only [lm, nI_1]
        rw [h1.2.2.2.1, if_pos (ck_nI (by omega) (by omega)), cl_nI (by omega), (nxB_eq T1 (c := 33) (by omega)).mpr r]
        have w24 : (mI (mI m 61 (upd (m.1 61) 25 (nI (d + 1)))) 74 (upd ((mI m 61 (upd (m.1 61) 25 (nI (d + 1)))).1 74) W.length (nI 33))).1 61 24 + 1 = nI (W.length + 1) := by rw [mI_n (by decide), h1.2.2.2.1, nI_1]
        rw [w24]
        have w13 : (mI (mI (mI m 61 (upd (m.1 61) 25 (nI (d + 1)))) 74 (upd ((mI m 61 (upd (m.1 61) 25 (nI (d + 1)))).1 74) W.length (nI 33))) 61 (upd ((mI (mI m 61 (upd (m.1 61) 25 (nI (d + 1)))) 74 (upd ((mI m 61 (upd (m.1 61) 25 (nI (d + 1)))).1 74) W.length (nI 33))).1 61) 24 (nI (W.length + 1)))).1 61 13 + 1 = nI (p + 1) := by rw [mI_s, upd_n (by decide), mI_n (by decide), mI_s, upd_n (by decide), h.2.1, nI_1]
        rw [w13]
        exact i3
    · rw [if_neg r]
      exact ⟨m, fu, by simpa using h, hf, rfl⟩
end RQ
