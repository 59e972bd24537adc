/-! READING A HUT: the reference does the pure reading of a sum -/
section RE
variable {m0 m : MI} {c b p o : Nat} {S : List Tok} {W : List Nat} {T : Nat → Nat} {len : Nat}
/-- a sum from its first byte, in the reference -/
def PE (m0 : MI) (T : Nat → Nat) (len c b f n : Nat) : Prop := ∀ (d p fu : Nat) (m : MI) (S : List Tok) (W : List Nat), d ≤ 4 → 5 ≤ n + d → p ≤ len → 1 ≤ p → len - p + 2 ≤ fu → okW W → b + S.length ≤ 100 * f + p → W.length ≤ p → RS m0 m c b p S W d → match eP T len n d p with
    | .inl q => ∃ m', fM_takesE_l22 (nI c) fu m 1 = some (0, m') ∧ RF m0 m' c b ∧ m'.1 61 13 = nI q
    | .inr (q, ts) => ∃ m' fu', RS m0 m' c b q (S ++ ts) W d ∧ len - q + 1 ≤ fu' ∧ fM_takesE_l22 (nI c) fu m 1 = AFT (nI c) fu' m' (nxB T len q)
theorem lt33 {x : Nat} (h : x = 33 ∨ x = 40) : ltP x = none := by rcases h with rfl | rfl <;> rfl
/-- a bracket is opened -/
theorem R_in (hT : RT m0 T len) {u1 : Int32} {fu : Nat} (hp : p ≤ len) (ho : o < 4) (hWl : W.length ≤ 100) (h : RS m0 m c b p S W o) (r : rdB T len p 40 = true) : ∃ m4, RS m0 m4 c b (p + 1) S (W ++ [40]) (o + 1) ∧ fM_takesE_l22 u1 (fu + 1) m 1 = fM_takesE_l22 u1 fu m4 1 := by
  have T1 := RT_of hT h
  have g1 := RS_25 h (o + 1)
  obtain ⟨mA, hmA⟩ : ∃ mA, mA = mI m 61 (upd (m.1 61) 25 (nI (o + 1))) := ⟨_, rfl⟩
  rw [← hmA] at g1
  have g2 := RS_psh g1 40
  obtain ⟨mB, hmB⟩ : ∃ mB, mB = mI (mI mA 74 (upd (mA.1 74) W.length (nI 40))) 61 (upd (mA.1 61) 24 (nI (W.length + 1))) := ⟨_, rfl⟩
  rw [← hmB] at g2
  have g3 := RS_13 g2 (p + 1)
  refine ⟨_, g3, ?_⟩
  have e40 : nxB T len p = 40 := (nxB_eq T1 (c := 40) (by omega)).mpr r
  rw [fM_takesE_l22, R_nx T1 h.2.1 hp]
  simp only [Option.bind_some]
  rw [if_neg (show ¬ (1 : Int32) = 0 by decide), e40, if_neg (show ¬ (40 : Int32) = 33 by decide), if_pos rfl, h.2.2.2.2.1, if_neg (show ¬ nI o = 4 from fun q => by have := (nI_eq (b := 4) (by omega) (by omega)).mp q; omega)]
  simp only [lm, nI_1]
  rw [← hmA, g1.2.2.2.1, if_pos (ck_nI (by omega) (by omega)), cl_nI (by omega), mI_n (show (61 : Nat) ≠ 74 by decide), g1.2.2.2.1, nI_1]
  rw [show mI (mI mA 74 (upd (mA.1 74) W.length 40)) 61 (upd (mA.1 61) 24 (nI (W.length + 1))) = mB from hmB.symm, g2.2.1, nI_1]
/-- a bracket is closed, or not -/
theorem R_out {x : Nat} {fu : Nat} {y : Int32} (hc : c < 60) (hWl : W.length ≤ 100) (h : RS m0 m c b p S (W ++ [x]) (o + 1)) : ∃ m3 m6, RS m0 m3 c b p S (W ++ [x]) (o + 1) ∧ RS m0 m6 c b (p + 1) S W o ∧ AFT (nI c) fu m y = if y = 41 then (fM_whole m6).bind (fun r23 => fM_takesE_l22 (nI c) fu r23 0) else some (0, m3) := by
  have h3 := RS_72 h (nI (b + S.length))
  obtain ⟨mA, hmA⟩ : ∃ mA, mA = mI m 72 (upd (m.1 72) c (nI (b + S.length))) := ⟨_, rfl⟩
  rw [← hmA] at h3
  have h4 := RS_pop h3
  obtain ⟨mB, hmB⟩ : ∃ mB, mB = mI mA 61 (upd (mA.1 61) 24 (nI W.length)) := ⟨_, rfl⟩
  rw [← hmB] at h4
  have h5 := RS_25 h4 o
  obtain ⟨mC, hmC⟩ : ∃ mC, mC = mI mB 61 (upd (mB.1 61) 25 (nI o)) := ⟨_, rfl⟩
  rw [← hmC] at h5
  have h6 := RS_13 h5 (p + 1)
  have lw : (W ++ [x]).length = W.length + 1 := by rw [List.length_append]; rfl
  refine ⟨mA, _, h3, h6, ?_⟩
  unfold AFT
  rw [if_pos (ck_nI hc (by omega)), cl_nI (by omega), h.2.2.1]
  simp only [lm]
  have hne : ¬ nI (W.length + 1) = 0 := nI_ne0 (by omega) (by omega)
  rw [← hmA, h3.2.2.2.1, lw, if_neg hne, nI_pred, ← hmB, h4.2.2.2.2.1, nI_pred, ← hmC, h5.2.1, nI_1]
theorem P_fc {f n : Nat} (hT : RT m0 T len) (hc : c < 60) (hf5 : f ≤ 5) (hE : PE m0 T len c b f n) {d fu : Nat} (hd : d ≤ 4) (hn : 5 ≤ n + 1 + d) (hp : p ≤ len) (hfu : len - p + 2 ≤ fu) (hW : W = [] ∨ ∃ W' x, W = W' ++ [x] ∧ x ≠ 33 ∧ x ≤ 127) (hb : b + S.length ≤ 100 * f + p) (hWl : W.length ≤ p) (h : RS m0 m c b p S W d) : match fcP T len (eP T len n) d p with
    | .inl q => ∃ m', fM_takesE_l22 (nI c) fu m 1 = some (0, m') ∧ RF m0 m' c b ∧ m'.1 61 13 = nI q
    | .inr (q, ts) => ∃ m' fu', RS m0 m' c b q (S ++ ts) W d ∧ len - q + 2 ≤ fu' ∧ fM_takesE_l22 (nI c) fu m 1 = fM_takesE_l22 (nI c) fu' m' 0 := by
  have hlen := hT.1
  obtain ⟨k1, k2, k3, k4⟩ := nt_ok (T := T) (len := len) (4 - d) p hp
  obtain ⟨m1, f1, h1, hf1, e1⟩ := R_nots (S := S) hT (nI c) (4 - d) d p fu m W (by omega) hp hfu hWl h
  rw [e1]
  obtain ⟨f2, rfl⟩ : ∃ f2, f1 = f2 + 1 := ⟨f1 - 1, by omega⟩
  unfold fcP
  generalize hK : ntP T len (4 - d) p = K at k1 k2 k3 k4 h1 hf1 ⊢
  have T1 := RT_of hT h1
  have hWk : (W ++ List.replicate K 33).length = W.length + K := by simp
  have one : ¬ (1 : Int32) = 0 := by decide
  -- a byte that begins nothing here
  have bad : ∀ x, (x = 33 ∨ x = 40) → rdB T len (p + K) x = true → tsP T len (p + K) = .inl (p + K) := fun x hx hr => by
    have hr := rdB_t hr
    unfold tsP
    rw [if_pos hr.1, hr.2, lt33 hx]
  by_cases r33 : rdB T len (p + K) 33 = true
  · have hk : K = 4 - d := by
      rcases Nat.lt_or_ge K (4 - d) with h | h
      · rw [k4 h] at r33; cases r33
      · omega
    rw [if_neg (show ¬ (d + K < 4 ∧ rdB T len (p + K) 40 = true) from fun q => by omega), bad 33 (Or.inl rfl) r33]
    refine ⟨m1, ?_, h1.1, h1.2.1⟩
    rw [fM_takesE_l22, R_nx T1 h1.2.1 k2]
    simp only [Option.bind_some]
    rw [if_neg one, if_pos (show nxB T len (p + K) = 33 from (nxB_eq T1 (c := 33) (by omega)).mpr r33), h1.2.2.2.2.1, if_pos (show nI (d + K) = 4 by rw [show d + K = 4 by omega]; rfl)]
  by_cases r40 : rdB T len (p + K) 40 = true
  · have hr := rdB_t r40
    by_cases c4 : d + K < 4
    · obtain ⟨m4, g3, e4⟩ := R_in hT (u1 := nI c) (fu := f2) k2 c4 (by rw [hWk]; omega) h1 r40
      rw [if_pos ⟨c4, r40⟩, e4]
      have hi := hE (d + K + 1) (p + K + 1) f2 m4 S (W ++ List.replicate K 33 ++ [40]) (by omega) (by omega) hr.1 (by omega) (by omega) (Or.inr ⟨_, rfl⟩) (by omega) (by rw [List.length_append, List.length_singleton, hWk]; omega) g3
      have hO := e_ok (T := T) (len := len) n (d + K + 1) (p + K + 1) hr.1
      cases he : eP T len n (d + K + 1) (p + K + 1) with
      | inl q =>
        rw [he] at hi
        exact hi
      | inr r =>
        obtain ⟨q, ts⟩ := r
        rw [he] at hi hO
        obtain ⟨m2, f3, h2, hf3, e2⟩ := hi
        unfold okR at hO
        simp only [] at hO ⊢
        have T2 := RT_of hT h2
        obtain ⟨m3, m6, h3, h6, eA⟩ := R_out (fu := f3) (y := nxB T len q) hc (by rw [hWk]; omega) h2
        rw [e2, eA]
        by_cases r41 : rdB T len q 41 = true
        · have hq := rdB_t r41
          rw [if_pos r41, if_pos (show nxB T len q = 41 from (nxB_eq T2 (c := 41) (by omega)).mpr r41)]
          obtain ⟨F, hF1⟩ : ∃ F : Nat, F = 1000 := ⟨_, rfl⟩
          obtain ⟨m7, h7, e7⟩ := R_wh hW (by omega) (fun m1 => some m1) K F m6 (S ++ ts) (by omega) (by omega) (by rw [List.length_append]; omega) h6
          refine ⟨m7, f3, ?_, by omega, ?_⟩
          · rw [← List.append_assoc]; exact h7
          · unfold fM_whole
            rw [← hF1, e7]
            rfl
        · rw [if_neg r41, if_neg (show ¬ nxB T len q = 41 from fun w => r41 ((nxB_eq T2 (c := 41) (by omega)).mp w))]
          exact ⟨_, rfl, h3.1, h3.2.1⟩
    · rw [if_neg (show ¬ (d + K < 4 ∧ rdB T len (p + K) 40 = true) from fun q => c4 q.1), bad 40 (Or.inr rfl) r40]
      refine ⟨m1, ?_, h1.1, h1.2.1⟩
      rw [fM_takesE_l22, R_nx T1 h1.2.1 k2]
      simp only [Option.bind_some]
      rw [if_neg one, if_neg (show ¬ nxB T len (p + K) = 33 from fun q => r33 ((nxB_eq T1 (c := 33) (by omega)).mp q)), if_pos (show nxB T len (p + K) = 40 from (nxB_eq T1 (c := 40) (by omega)).mpr r40), h1.2.2.2.2.1, if_pos (show nI (d + K) = 4 by rw [show d + K = 4 by omega]; rfl)]
  · rw [if_neg (show ¬ (d + K < 4 ∧ rdB T len (p + K) 40 = true) from fun q => r40 q.2)]
    rw [fM_takesE_l22, R_nx T1 h1.2.1 k2]
    simp only [Option.bind_some]
    rw [if_neg one, if_neg (show ¬ nxB T len (p + K) = 33 from fun q => r33 ((nxB_eq T1 (c := 33) (by omega)).mp q)), if_neg (show ¬ nxB T len (p + K) = 40 from fun q => r40 ((nxB_eq T1 (c := 40) (by omega)).mp q))]
    by_cases pl : p + K < len
    case neg =>
      have e0 : tsP T len (p + K) = .inl (p + K) := by unfold tsP; rw [if_neg pl]
      rw [e0]
      refine ⟨m1, ?_, h1.1, h1.2.1⟩
      unfold fM_takesTest
      rw [R_nx T1 h1.2.1 k2]
      unfold nxB
      rw [if_neg pl]
      simp only [Option.bind_some]
      rw [show fM_letterAt m1 (-1) = some (-1, m1) from rfl]
      simp only [Option.bind_some]
      rw [if_neg (show ¬ (0 : Int32) ≤ -1 by decide)]
      rfl
    have ht := R_ts hT hW (k := K) (o := d) (by omega) (S := S) (by omega) k2 h1
    cases hts : tsP T len (p + K) with
    | inl q =>
      rw [hts] at ht
      obtain ⟨m2, t1, t2, t3⟩ := ht
      rw [t1]
      exact ⟨m2, rfl, t2, t3⟩
    | inr r =>
      obtain ⟨q, t⟩ := r
      rw [hts] at ht
      obtain ⟨m2, t1, t2⟩ := ht
      have tk := ts_ok hts
      rw [t1]
      simp only [Option.bind_some, if_neg one]
      exact ⟨m2, f2, t2, by omega, rfl⟩
theorem okW_pnd (hW : okW W) (wo wa : Bool) : W ++ pnd wo wa = [] ∨ ∃ W' x, W ++ pnd wo wa = W' ++ [x] ∧ x ≠ 33 ∧ x ≤ 127 := by
  cases wa with
  | true => exact Or.inr ⟨W ++ pnd wo false, 38, by cases wo <;> simp [pnd], by omega, by omega⟩
  | false =>
    cases wo with
    | true => exact Or.inr ⟨W, 124, by simp [pnd], by omega, by omega⟩
    | false =>
      rcases hW with rfl | ⟨W', rfl⟩
      · exact Or.inl rfl
      · exact Or.inr ⟨W', 40, by simp [pnd], by omega, by omega⟩
theorem P_el {f n : Nat} (hT : RT m0 T len) (hc : c < 60) (hf5 : f ≤ 5) (hE : PE m0 T len c b f n) : ∀ (g d p fu : Nat) (m : MI) (S : List Tok) (W : List Nat) (wa wo : Bool), d ≤ 4 → 5 ≤ n + 1 + d → p ≤ len → 100 < g + p → len - p + 2 ≤ fu → okW W → b + S.length + wa.toNat + wo.toNat ≤ 100 * f + p → W.length + wa.toNat + wo.toNat ≤ p → RS m0 m c b p S (W ++ pnd wo wa) d → match elP T len (eP T len n) g d p wa wo with
    | .inl q => ∃ m', fM_takesE_l22 (nI c) fu m 1 = some (0, m') ∧ RF m0 m' c b ∧ m'.1 61 13 = nI q
    | .inr (q, ts) => ∃ m' fu', RS m0 m' c b q (S ++ ts) W d ∧ len - q + 1 ≤ fu' ∧ fM_takesE_l22 (nI c) fu m 1 = AFT (nI c) fu' m' (nxB T len q) := by
  have hlen := hT.1
  intro g
  induction g with
  | zero => intro d p fu m S W wa wo _ _ hp hg; exact absurd hg (by omega)
  | succ g ih =>
    intro d p fu m S W wa wo hd hn hp hg hfu hW hb hWl h
    have lp : ∀ wo wa : Bool, (pnd wo wa).length = wo.toNat + wa.toNat := fun wo wa => by cases wo <;> cases wa <;> rfl
    have hfc := P_fc (c := c) hT hc hf5 hE hd hn hp hfu (okW_pnd hW wo wa) (by omega) (by rw [List.length_append, lp]; omega) h
    have hok := fc_ok (T := T) (E := eP T len n) (fun d p hp => e_ok n d p hp) (d := d) hp
    have wa1 := toNat_le wa
    have wo1 := toNat_le wo
    unfold elP
    cases he : fcP T len (eP T len n) d p with
    | inl q =>
      rw [he] at hfc
      exact hfc
    | inr r =>
      obtain ⟨q, ts⟩ := r
      rw [he] at hfc hok
      obtain ⟨m1, f1, h1, hf1, e1⟩ := hfc
      unfold okR at hok
      simp only [] at hok ⊢
      rw [e1]
      obtain ⟨f2, rfl⟩ : ∃ f2, f1 = f2 + 1 := ⟨f1 - 1, by omega⟩
      have T1 := RT_of hT h1
      have lS : (S ++ ts).length = S.length + ts.length := List.length_append
      have la : (oneT wa aT).length = wa.toNat := by cases wa <;> rfl
      have lo : (oneT wo oT).length = wo.toNat := by cases wo <;> rfl
      rw [fM_takesE_l22, R_nx T1 h1.2.1 hok.2.1]
      simp only [Option.bind_some, if_true]
      by_cases r38 : rdB T len q 38 = true
      · have hr := rdB_t r38
        have e38 : nxB T len q = 38 := (nxB_eq T1 (c := 38) (by omega)).mpr r38
        rw [if_pos e38, if_pos r38, e38]
        obtain ⟨m2, h2, e2⟩ := R_set38 hW (by omega) (wo := wo) (wa := wa) (by rw [lS]; omega) h1
        rw [e2]
        simp only [Option.bind_some]
        have h3 := RS_psh h2 38
        have h4 := RS_13 h3 (q + 1)
        have lw : (W ++ pnd wo false).length = W.length + wo.toNat := by rw [List.length_append, lp]; rfl
        rw [h2.2.2.2.1, if_pos (ck_nI (by rw [lw]; omega) (by omega)), cl_nI (by rw [lw]; omega)]
        simp only [lm]
        have w24 : (mI m2 74 (upd (m2.1 74) (W ++ pnd wo false).length 38)).1 61 24 + 1 = nI ((W ++ pnd wo false).length + 1) := by rw [mI_n (by decide), h2.2.2.2.1, nI_1]
        rw [w24]
        have w13 : (mI (mI m2 74 (upd (m2.1 74) (W ++ pnd wo false).length 38)) 61 (upd ((mI m2 74 (upd (m2.1 74) (W ++ pnd wo false).length 38)).1 61) 24 (nI ((W ++ pnd wo false).length + 1)))).1 61 13 + 1 = nI (q + 1) := by rw [mI_s, upd_n (by decide), mI_n (by decide), h2.2.1, nI_1]
        rw [w13]
        have ew : W ++ pnd wo false ++ [38] = W ++ pnd wo true := by cases wo <;> simp [pnd]
        rw [ew] at h4
        have hi := ih d (q + 1) f2 _ (S ++ ts ++ oneT wa aT) W true wo hd hn hr.1 (by omega) (by omega) hW (by rw [List.length_append, la, lS]; simp only [Bool.toNat_true]; omega) (by simp only [Bool.toNat_true]; omega) h4
        cases hel : elP T len (eP T len n) g d (q + 1) true wo with
        | inl q' =>
          rw [hel] at hi
          exact hi
        | inr r =>
          obtain ⟨q', ts'⟩ := r
          rw [hel] at hi
          obtain ⟨m5, f5, i1, i2, i3⟩ := hi
          refine ⟨m5, f5, ?_, i2, i3⟩
          simpa only [List.append_assoc] using i1
      · have n38 : ¬ nxB T len q = 38 := fun w => r38 ((nxB_eq T1 (c := 38) (by omega)).mp w)
        rw [if_neg n38, if_neg r38]
        obtain ⟨m2, h2, e2⟩ := R_set124 hW (by omega) (wo := wo) (wa := wa) (by rw [lS]; omega) h1
        by_cases r124 : rdB T len q 124 = true
        · have hr := rdB_t r124
          have e124 : nxB T len q = 124 := (nxB_eq T1 (c := 124) (by omega)).mpr r124
          rw [if_pos e124, if_pos r124, e124, e2]
          simp only [Option.bind_some]
          have h3 := RS_psh h2 124
          have h4 := RS_13 h3 (q + 1)
          rw [h2.2.2.2.1, if_pos (ck_nI (by omega) (by omega)), cl_nI (by omega)]
          simp only [lm]
          have w24 : (mI m2 74 (upd (m2.1 74) W.length 124)).1 61 24 + 1 = nI (W.length + 1) := by rw [mI_n (by decide), h2.2.2.2.1, nI_1]
          rw [w24]
          have w13 : (mI (mI m2 74 (upd (m2.1 74) W.length 124)) 61 (upd ((mI m2 74 (upd (m2.1 74) W.length 124)).1 61) 24 (nI (W.length + 1)))).1 61 13 + 1 = nI (q + 1) := by rw [mI_s, upd_n (by decide), mI_n (by decide), h2.2.1, nI_1]
          rw [w13]
          have hi := ih d (q + 1) f2 _ (S ++ ts ++ oneT wa aT ++ oneT wo oT) W false true hd hn hr.1 (by omega) (by omega) hW (by rw [List.length_append, List.length_append, la, lo, lS]; simp only [Bool.toNat_true, Bool.toNat_false]; omega) (by simp only [Bool.toNat_true, Bool.toNat_false]; omega) h4
          cases hel : elP T len (eP T len n) g d (q + 1) false true with
          | inl q' =>
            rw [hel] at hi
            exact hi
          | inr r =>
            obtain ⟨q', ts'⟩ := r
            rw [hel] at hi
            obtain ⟨m5, f5, i1, i2, i3⟩ := hi
            refine ⟨m5, f5, ?_, i2, i3⟩
            simpa only [List.append_assoc] using i1
        · have n124 : ¬ nxB T len q = 124 := fun w => r124 ((nxB_eq T1 (c := 124) (by omega)).mp w)
          rw [if_neg n124, if_neg r124, e2]
          refine ⟨m2, f2, ?_, by omega, rfl⟩
          simpa only [List.append_assoc] using h2
theorem P_e {f : Nat} (hT : RT m0 T len) (hc : c < 60) (hf5 : f ≤ 5) : ∀ n, PE m0 T len c b f n
  | 0 => fun d p fu m S W hd hn => by omega
  | n + 1 => fun d p fu m S W hd hn hp hp1 hfu hW hb hWl h => by
    have := P_el (b := b) hT hc hf5 (P_e hT hc hf5 n) 100 d p fu m S W false false hd (by omega) hp (by omega) hfu hW (by simpa using hb) (by simpa using hWl) (by simpa [pnd] using h)
    exact this
end RE
