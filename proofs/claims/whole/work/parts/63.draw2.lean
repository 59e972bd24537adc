theorem pj_draw {m : MI} {g u g' : Nat → Int32} (hu : ∀ i, i ≠ 28 → i ≠ 29 → i ≠ 30 → u i = m.1 61 i) : pj (mI (mI (mI m 18 g) 61 u) 76 g') = pj m :=
  Eq.trans (pj_row (k := 76) (fun _ => rfl)) (Eq.trans (pj_61 (by rw [mI_n (by decide)]; exact hu)) (pj_row (k := 18) (g := g) (fun _ => rfl)))
theorem Rel_draw {sh : Sh} {R : RR} {m mS mF : MI} (H : Rel sh R m) (hS : pj mS = pj m) {n d s l q nn zz : Nat} (hn : n ≤ 6) (h0 : m.1 1 0 = nI n) (hd : d < n) (hs : 1 ≤ s ∧ s ≤ 3) (hl : l ≤ 15) (hq : q < n ∨ (n = 0 ∧ q = 0)) (hnn : nn ≤ 9999) (hz : zz ≤ 999)
    (h1 : mF.1 1 6 = nI s ∧ mF.1 1 7 = nI l ∧ mF.1 1 8 = nI q ∧ mF.1 1 9 = nI nn ∧ ∀ j, j ∉ [6, 7, 8, 9] → mF.1 1 j = m.1 1 j) (h61 : mF.1 61 2 = nI s ∧ mF.1 61 3 = nI l ∧ mF.1 61 4 = nI q ∧ mF.1 61 1 = nI nn ∧ ∀ j, j ∉ [1, 2, 3, 4] → mF.1 61 j = mS.1 61 j)
    (h4 : mF.1 4 = upd (m.1 4) d (nI zz)) (h64 : mF.1 64 = upd (m.1 64) d (nI zz)) (ho : ∀ k, k ∉ [1, 4, 61, 64] → mF.1 k = mS.1 k) (hJ : mF.2 = mS.2) : Rel sh R mF := by
  have HS := Rel_pj hS H
  obtain ⟨⟨n', s', l', q', nn', se, bo, g1, g2, g3, g4, g5, g6, g7, g8, g9, g10, g11, g12, g13, g14, g15⟩, -⟩ := H
  have en : n' = n := (nI_eq (by omega) (by omega)).mp (g1.2.1.symm.trans h0)
  subst en
  have hSr : ∀ {k : Nat}, k ∉ [18, 36, 38, 40, 41, 42, 45, 74, 76, 77, 78, 79, 80, 81, 82, 37, 43, 46, 61] → mS.1 k = m.1 k := fun h => pj_rw hS (scr_r h)
  have hSa : ∀ {k i : Nat}, scr k i = false → mS.1 k i = m.1 k i := fun h => pj_at hS h
  have fo : ∀ k, k ∉ [1, 4, 61, 64] → k ∉ [18, 36, 38, 40, 41, 42, 45, 74, 76, 77, 78, 79, 80, 81, 82, 37, 43, 46, 61] → mF.1 k = m.1 k := fun k a b => (ho k a).trans (hSr b)
  refine Rel_core HS ⟨n', s, l, q, nn, se, bo, ⟨g1.1, ?_, ?_⟩, ⟨hs.1, hs.2, h1.1, h61.1⟩, ⟨hl, h1.2.1, h61.2.1⟩, ⟨hq, h1.2.2.1, h61.2.2.1⟩, ⟨hnn, h1.2.2.2.1, h61.2.2.2.1⟩, ⟨g6.1, ?_, ?_⟩, ⟨g7.1, ?_, ?_⟩, ?_⟩ (fun k hk hk2 => ?_) (fun i hi => ?_) hJ
  · rw [h1.2.2.2.2 0 (by decide)]; exact g1.2.1
  · rw [h61.2.2.2.2 0 (by decide), hSa rfl]; exact g1.2.2
  · rw [h1.2.2.2.2 10 (by decide)]; exact g6.2.1
  · rw [h61.2.2.2.2 41 (by decide), hSa rfl]; exact g6.2.2
  · rw [h1.2.2.2.2 13 (by decide)]; exact g7.2.1
  · rw [h61.2.2.2.2 44 (by decide), hSa rfl]; exact g7.2.2
  · rw [fo (1 + 1) (by decide) (by decide), fo 62 (by decide) (by decide), fo (1 + 2) (by decide) (by decide), fo 63 (by decide) (by decide), show 1 + 3 = 4 from rfl, h4, h64, fo 65 (by decide) (by decide), fo (1 + 11) (by decide) (by decide), fo 66 (by decide) (by decide), fo (1 + 12) (by decide) (by decide), fo 83 (by decide) (by decide), fo (1 + 13) (by decide) (by decide), fo 84 (by decide) (by decide), fo (1 + 14) (by decide) (by decide), fo 85 (by decide) (by decide)]
    refine ⟨g8, g9, ⟨?_, fun d' hd' => ?_⟩, ⟨fun d' p hd' hp => ?_, g11.2⟩, g12, g13, g14, g15⟩
    · rw [show m.1 4 = m.1 64 from g10.1]
    · by_cases e : d' = d
      · subst e; rw [upd_s]; exact ⟨zz, hz, rfl⟩
      · rw [upd_n e]; exact g10.2 d' hd'
    · rw [fo (1 + 4 + d') (by simp only [List.mem_cons, List.not_mem_nil, or_false]; omega) (by simp only [List.mem_cons, List.not_mem_nil, or_false]; omega)]
      exact g11.1 d' p hd' hp
  · simp only [List.mem_cons, List.not_mem_nil, or_false, not_or] at hk2
    exact ho k (by simp only [List.mem_cons, List.not_mem_nil, or_false]; omega)
  · simp only [List.mem_cons, List.not_mem_nil, or_false, not_or] at hi
    exact h61.2.2.2.2 i (by simp only [List.mem_cons, List.not_mem_nil, or_false]; omega)
theorem min999 {zz : Nat} (h : zz ≤ 999) : (if nI zz + 1 < 999 then nI zz + 1 else 999) = nI (min 999 (zz + 1)) := by
  rw [nI_1]
  by_cases c : zz + 1 < 999
  · rw [if_pos (show nI (zz + 1) < 999 from nI_lt (b := 999) c (by omega)), show min 999 (zz + 1) = zz + 1 by omega]
  · rw [if_neg (show ¬ nI (zz + 1) < 999 from nI_nlt (b := 999) (by omega) (by omega)), show min 999 (zz + 1) = 999 by omega]; rfl
theorem op_draw {sh : Sh} {R : RR} {m : MI} (a : Int32) (H : Rel sh R m) : Ans sh R m (fun m => fC_draw sh R m a) (fun m => fM_draw m a) := by
  have H0 := H
  have hF := Fx_of H.2.2.2.2.2
  obtain ⟨hw, ha, hz, hC⟩ := cur_hut H.2.2.2.2.2 H.2.2.2.2.1
  have hC0 := hC
  obtain ⟨hr1, hs1, hd1, ha1, hz1, hv1, hv2, -⟩ := hC
  obtain ⟨cs, hP⟩ := cur_pl H.2.2.2.2.2 hr1
  obtain ⟨⟨n, s, l, q, nn, se, bo, h1, h2, h3, h4, h5, h6, h7, h8, h9, h10, h11, h12, h13, h14, h15⟩, -⟩ := H
  have one : ¬ (1 : Int32) = 0 := by decide
  have e12 : m.1 12 = m.1 66 := h12.1
  by_cases hd : a < 0 ∨ 999999 < a
  · exact ⟨-2, m, m, by simp [fC_draw, C_isDraw, hd], by simp [fM_draw, M_isDraw, hd], H0⟩
  obtain ⟨A, hA, rfl⟩ := drawN hd
  have hCd : ∀ m', fC_isDrawNumber m' (nI A) = some (1, m') := fun m' => by rw [C_isDraw, if_neg hd]
  have hMd : ∀ m', fM_isDraw m' (nI A) = some (1, m') := fun m' => by rw [M_isDraw, if_neg hd]
  rcases h4.1 with hq | ⟨hn0, hq0⟩
  case inr =>
    refine ⟨-3, m, m, ?_, ?_, H0⟩
    · show fC_draw sh R m (nI A) = _
      unfold fC_draw fW_next
      rw [hCd]
      simp only [Option.bind_some, if_neg one, h1.2.1, h4.2.1]
      rw [if_pos (nI_le (by omega) (by omega))]
      simp only [Option.bind_some]
      rw [if_pos trivial]
    · show fM_draw m (nI A) = _
      unfold fM_draw
      rw [hMd]
      simp only [Option.bind_some, if_neg one, h1.2.2]
      rw [if_pos (by rw [hn0]; rfl)]
  obtain ⟨d, hdn, ed⟩ := h12.2.1 q hq
  have ckq : ck (nI q) 6 = true := ck_nI (by omega) (by omega)
  have clq := cl_nI (show q < 100000 by omega)
  have nnq : ¬ nI n ≤ nI q := not_le_nI hq (by omega)
  have hnx : fW_next m = some (nI d, m) := by
    unfold fW_next
    simp only [h1.2.1, h4.2.1, if_neg nnq, ckq, clq, if_true, e12, ed]
  have nd5 : ¬ nI d = -5 := fun e => nI_pos (n := d) (by omega) (by rw [e]; decide)
  have n0 : ¬ nI n = 0 := fun e => by have := (nI_eq (b := 0) (by omega) (by omega)).mp e; omega
  by_cases h99 : nn = 9999
  · refine ⟨-3, m, m, ?_, ?_, H0⟩
    · show fC_draw sh R m (nI A) = _
      unfold fC_draw
      rw [hCd]
      simp only [Option.bind_some, if_neg one, hnx, if_neg nd5, h5.2.1]
      rw [if_neg (show ¬ nI nn < 9999 from nI_nlt (b := 9999) (by omega) (by omega))]
    · show fM_draw m (nI A) = _
      unfold fM_draw
      rw [hMd]
      simp only [Option.bind_some, if_neg one, h1.2.2, if_neg n0, h5.2.2]
      rw [if_pos (by rw [h99]; rfl)]
  have lt99 : nI nn < 9999 := nI_lt (b := 9999) (by omega) (by omega)
  have ne99 : ¬ nI nn = 9999 := fun e => h99 ((nI_eq (b := 9999) (by omega) (by omega)).mp e)
  obtain ⟨x, yy, zz, rr, hx, hy, hzz, hrr, dC, dM⟩ := drw hdn h1.1 h8 h9 h10 h11
  obtain ⟨pn, hpn, hpv⟩ := pull_nat (cs := cs) hP.1 (j := d) (x := x) (zz := zz) hy hrr (nI s) (nI l) (nI q)
  obtain ⟨g, hg⟩ := W_chE hF (show d < 6 by omega) hx hzz hr1 hs1 hP dC (s := s) (l := l) (by omega) (by omega) hpn hpv
  have ckd : ck (nI d) 6 = true := ck_nI (by omega) (by omega)
  have cld := cl_nI (show d < 100000 by omega)
  have z4 : m.1 4 d = nI zz := dC.2.2.2.1
  have z64 : m.1 64 d = nI zz := dM.2.2.2.2.1
  have chle : chN s l pn ≤ 1000000 := chN_le _ _ _
  have A6 : A ≤ 999999 := by
    have := (not_or.mp hd).2
    rw [show (999999 : Int32) = nI 999999 from rfl, nI_ltI (by omega) (by omega)] at this
    omega
  -- the reference from any memory that the class leaves
  have mf : ∀ mB : MI, (∀ k, k ∉ [1, 4, 18] → mB.1 k = m.1 k) → ∃ u g', fM_chance mB (nI d) (nI s) (nI l) (nI q) = some (nI (chN s l pn), mI (mI mB 61 u) 76 g') ∧ (∀ i, i ≠ 28 → i ≠ 29 → i ≠ 30 → u i = m.1 61 i) := fun mB hB => by
    obtain ⟨q1, q2, q3, q4, q5, q6⟩ := dM
    obtain ⟨u, g', k1, k2⟩ := M_chE (show d < 6 by omega) hx hzz hP (m' := mB) ⟨by rw [hB 61 (by decide)], fun k hk => hB k (by simp only [List.mem_cons, List.not_mem_nil, or_false]; omega), by rw [hB 62 (by decide)]; exact q3, by rw [hB 63 (by decide)]; exact q4, by rw [hB 64 (by decide)]; exact q5, by rw [hB 65 (by decide)]; exact q6⟩ (s := s) (l := l) (p := nI q) (by omega) (by omega) hpn hpv
    exact ⟨u, g', k1, fun i a b c => by rw [k2 i a b c, hB 61 (by decide)]⟩
  have e1 : ∀ X : Nat, X ≤ 1000 → nI (X + 1) - 1 = nI X := fun X _ => nI_pred X
  by_cases hch : chN s l pn ≤ A
  · -- a long straw
    have l1 : 0 < l := by
      refine Nat.pos_of_ne_zero fun h => ?_
      have : chN s l pn = 1000000 := by unfold chN; rw [if_neg (by omega), if_pos h]
      omega
    obtain ⟨L, rfl⟩ : ∃ L, l = L + 1 := ⟨l - 1, by omega⟩
    have hle : nI (chN s (L + 1) pn) ≤ nI A := nI_le hch (by omega)
    obtain ⟨mA, hmA⟩ : ∃ mA, mA = mI (mI m 18 g) 1 (upd (upd (m.1 1) 7 (nI L)) 8 (nI (q + 1))) := ⟨_, rfl⟩
    have A1 : mA.1 1 = upd (upd (m.1 1) 7 (nI L)) 8 (nI (q + 1)) := by rw [hmA, mI_s]
    have Ao : ∀ k, k ≠ 1 → k ≠ 18 → mA.1 k = m.1 k := fun k a b => by rw [hmA, mI_n a, mI_n b]
    have AI : ∀ X, mI mA 1 X = mI (mI m 18 g) 1 X := fun X => by rw [hmA, mI_mI]
    have hCn : fW_drawNext sh R m (nI A) = if mA.1 1 6 = 0 then lm (mI mA 1 (upd (mA.1 1) 9 ((mA.1 1 9) + 1))) fun m8 => (fW_makeWhole sh R m8).bind fun r9 => some ((nI d + 0) + 100, r9) else if mA.1 1 8 = mA.1 1 0 then lm (mI mA 1 (upd (mA.1 1) 9 ((mA.1 1 9) + 1))) fun m11 => (fW_makeWhole sh R m11).bind fun r12 => some ((nI d + 0) + 100, r12) else some ((nI d + 0) + 0, mA) := by
      unfold fW_drawNext
      simp only [h4.2.1, ckq, clq, if_true, e12, ed, lt, h2.2.2.1, h3.2.1, hg, Option.bind_some, if_pos hle, lm, mI_s, mI_n (show (1 : Nat) ≠ 18 by decide), mI_mI, upd_n (show (8 : Nat) ≠ 7 by decide), e1 L (by omega), nI_1, ← hmA, A1, AI]
    have hMn : ∀ (mB : MI), (∀ k, k ∉ [1, 4, 18] → mB.1 k = m.1 k) → ∃ u g', (∀ i, i ≠ 28 → i ≠ 29 → i ≠ 30 → u i = m.1 61 i) ∧ fM_goDraw mB (nI A) = some (0, mI (mI (mI mB 61 u) 76 g') 61 (upd (upd u 3 (nI L)) 4 (nI (q + 1)))) := fun mB hB => by
      obtain ⟨u, g', k1, k2⟩ := mf mB hB
      refine ⟨u, g', k2, ?_⟩
      have u3 : u 3 = nI (L + 1) := by rw [k2 3 (by decide) (by decide) (by decide)]; exact h3.2.2
      have u4 : u 4 = nI q := by rw [k2 4 (by decide) (by decide) (by decide)]; exact h4.2.2
      unfold fM_goDraw
      simp only [hB 61 (by decide), h4.2.2, ckq, clq, if_true, hB 66 (by decide), ed, lt, h2.2.2.2, h3.2.2, k1, Option.bind_some, if_pos hle, lm, mI_s, mI_n (show (61 : Nat) ≠ 76 by decide), mI_mI, upd_n (show (4 : Nat) ≠ 3 by decide), u3, u4, e1 L (by omega), nI_1]
    have v6 : mA.1 1 6 = nI s := by rw [A1, upd_n (by decide), upd_n (by decide)]; exact h2.2.2.1
    have v8 : mA.1 1 8 = nI (q + 1) := by rw [A1, upd_s]
    have v0 : mA.1 1 0 = nI n := by rw [A1, upd_n (by decide), upd_n (by decide)]; exact h1.2.1
    have v9 : mA.1 1 9 = nI nn := by rw [A1, upd_n (by decide), upd_n (by decide)]; exact h5.2.1
    have s0 : ¬ nI s = 0 := fun e => by have := (nI_eq (b := 0) (by omega) (by omega)).mp e; omega
    rw [v6, v8, v0, v9, if_neg s0] at hCn
    have updz : upd (m.1 4) d (nI zz) = m.1 4 := by
      funext i
      by_cases e : i = d
      · subst e; rw [upd_s, z4]
      · rw [upd_n e]
    have updz2 : upd (m.1 64) d (nI zz) = m.1 64 := by
      funext i
      by_cases e : i = d
      · subst e; rw [upd_s, z64]
      · rw [upd_n e]
    have eCd : ∀ v mB, fW_drawNext sh R m (nI A) = some (v, mB) → fC_draw sh R m (nI A) = some (v, mB) := fun v mB h => by
      unfold fC_draw
      rw [hCd]
      simp only [Option.bind_some, if_neg one, hnx, if_neg nd5, h5.2.1, if_pos lt99, h]
    by_cases hend : q + 1 = n
    · rw [if_pos (by rw [hend])] at hCn
      obtain ⟨mE, hmE⟩ : ∃ mE, mE = mI mA 1 (upd (mA.1 1) 9 (nI (nn + 1))) := ⟨_, rfl⟩
      have E1 : mE.1 1 = upd (mA.1 1) 9 (nI (nn + 1)) := by rw [hmE, mI_s]
      have hmk := W_make (m' := mE) (n := n) hC0 h1.1 (by rw [E1, upd_n (by decide)]; exact v0) (by rw [hmE, mI_n (by omega), Ao hw (by omega) (by omega)])
      obtain ⟨mB, hmB⟩ : ∃ mB, mB = mI mE 1 (upd (upd (upd (mE.1 1) 6 (nI ha)) 7 (nI (n + hz - ha))) 8 0) := ⟨_, rfl⟩
      have Bo : ∀ k, k ≠ 1 → k ≠ 18 → mB.1 k = m.1 k := fun k a b => by rw [hmB, mI_n a, hmE, mI_n a, Ao k a b]
      obtain ⟨u, g', hu, hgo⟩ := hMn mB (fun k hk => Bo k (by simp only [List.mem_cons, List.not_mem_nil, or_false, not_or] at hk; omega) (by simp only [List.mem_cons, List.not_mem_nil, or_false, not_or] at hk; omega))
      obtain ⟨mC, hmC⟩ : ∃ mC, mC = mI (mI (mI mB 61 u) 76 g') 61 (upd (upd u 3 (nI L)) 4 (nI (q + 1))) := ⟨_, rfl⟩
      have C61 : mC.1 61 = upd (upd u 3 (nI L)) 4 (nI (q + 1)) := by rw [hmC, mI_s]
      have Co : ∀ k, k ≠ 61 → k ≠ 76 → mC.1 k = mB.1 k := fun k a b => by rw [hmC, mI_n a, mI_n b, mI_n a]
      have w2 : mC.1 61 2 = nI s := by rw [C61, upd_n (by decide), upd_n (by decide), hu _ (by decide) (by decide) (by decide)]; exact h2.2.2.2
      have w0 : mC.1 61 0 = nI n := by rw [C61, upd_n (by decide), upd_n (by decide), hu _ (by decide) (by decide) (by decide)]; exact h1.2.2
      have w1 : mC.1 61 1 = nI nn := by rw [C61, upd_n (by decide), upd_n (by decide), hu _ (by decide) (by decide) (by decide)]; exact h5.2.2
      have w4 : mC.1 61 4 = nI (q + 1) := by rw [C61, upd_s]
      obtain ⟨mD, hmD⟩ : ∃ mD, mD = mI mC 61 (upd (mC.1 61) 1 (nI (nn + 1))) := ⟨_, rfl⟩
      have D61 : mD.1 61 = upd (mC.1 61) 1 (nI (nn + 1)) := by rw [hmD, mI_s]
      have Dk : ∀ k, 68 ≤ k ∧ k ≤ 70 → mD.1 k = m.1 k := fun k hk => by rw [hmD, mI_n (by omega), Co k (by omega) (by omega), Bo k (by omega) (by omega)]
      have hml := M_lay (m' := mD) (n := n) hC0 h1.1 (by rw [D61, upd_n (by decide)]; exact w0) (by rw [D61, upd_n (by decide), C61, upd_n (by decide), upd_n (by decide), hu _ (by decide) (by decide) (by decide)]) (Dk 68 (by omega)) (Dk 69 (by omega)) (Dk 70 (by omega))
      refine ⟨nI d + 0 + 100, mB, mI mD 61 (upd (upd (upd (mD.1 61) 2 (nI ha)) 3 (nI (n + hz - ha))) 4 0), ?_, ?_, ?_⟩
      · show fC_draw sh R m (nI A) = _
        refine eCd _ _ ?_
        rw [hCn]
        simp only [lm, nI_1]
        rw [← hmE, hmk, ← hmB]
        rfl
      · show fM_draw mB (nI A) = _
        unfold fM_draw
        rw [hMd]
        have b61 : mB.1 61 = m.1 61 := Bo 61 (by decide) (by decide)
        have b66 : mB.1 66 = m.1 66 := Bo 66 (by decide) (by decide)
        simp only [Option.bind_some, if_neg one, b61, h1.2.2, if_neg n0, h5.2.2, if_neg ne99, h4.2.2, ckq, clq, if_true, b66, ed, lt, hgo, ← hmC]
        unfold fM_isEnd
        simp only [w2, if_neg s0, w4, w0, if_pos (show nI (q + 1) = nI n by rw [hend]), Option.bind_some, if_neg one, lm, w1, nI_1, ← hmD, hml]
      · refine Rel_draw H0 (mS := mI (mI (mI m 18 g) 61 u) 76 g') (pj_draw hu) (n := n) (d := d) (s := ha) (l := n + hz - ha) (q := 0) (nn := nn + 1) (zz := zz) h1.1 h1.2.1 hdn ha1 (by omega) (by omega) (by omega) hzz ⟨?_, ?_, ?_, ?_, fun j hj => ?_⟩ ⟨?_, ?_, ?_, ?_, fun j hj => ?_⟩ ?_ ?_ (fun k hk => ?_) ?_
        · rw [mI_n (by decide), hmD, mI_n (by decide), Co 1 (by decide) (by decide), hmB, mI_s]; rfl
        · rw [mI_n (by decide), hmD, mI_n (by decide), Co 1 (by decide) (by decide), hmB, mI_s]; rfl
        · rw [mI_n (by decide), hmD, mI_n (by decide), Co 1 (by decide) (by decide), hmB, mI_s]; rfl
        · rw [mI_n (by decide), hmD, mI_n (by decide), Co 1 (by decide) (by decide), hmB, mI_s, E1]; rfl
        · simp only [List.mem_cons, List.not_mem_nil, or_false, not_or] at hj
          rw [mI_n (by decide), hmD, mI_n (by decide), Co 1 (by decide) (by decide), hmB, mI_s, upd_n (by omega), upd_n (by omega), upd_n (by omega), E1, upd_n (by omega), A1, upd_n (by omega), upd_n (by omega)]
        · rw [mI_s]; rfl
        · rw [mI_s]; rfl
        · rw [mI_s]; rfl
        · rw [mI_s, D61]; rfl
        · simp only [List.mem_cons, List.not_mem_nil, or_false, not_or] at hj
          rw [mI_s, upd_n (by omega), upd_n (by omega), upd_n (by omega), D61, upd_n (by omega), C61, upd_n (by omega), upd_n (by omega), mI_n (by decide), mI_s]
        · rw [updz, mI_n (by decide), hmD, mI_n (by decide), Co _ (by decide) (by decide), Bo _ (by decide) (by decide)]
        · rw [updz2, mI_n (by decide), hmD, mI_n (by decide), Co _ (by decide) (by decide), Bo _ (by decide) (by decide)]
        · simp only [List.mem_cons, List.not_mem_nil, or_false, not_or] at hk
          rw [mI_n (by omega), hmD, mI_n (by omega), hmC, mI_n (by omega)]
          by_cases e : k = 76
          · subst e; rw [mI_s, mI_s]
          · rw [mI_n e, mI_n e, mI_n (by omega), mI_n (by omega), hmB, mI_n (by omega), hmE, mI_n (by omega), hmA, mI_n (by omega)]
        · rw [hmD, hmC, hmB, hmE, hmA]; rfl
    · have neq : ¬ nI (q + 1) = nI n := fun e => hend ((nI_eq (by omega) (by omega)).mp e)
      rw [if_neg neq] at hCn
      obtain ⟨u, g', hu, hgo⟩ := hMn mA (fun k hk => Ao k (by simp only [List.mem_cons, List.not_mem_nil, or_false, not_or] at hk; omega) (by simp only [List.mem_cons, List.not_mem_nil, or_false, not_or] at hk; omega))
      obtain ⟨mC, hmC⟩ : ∃ mC, mC = mI (mI (mI mA 61 u) 76 g') 61 (upd (upd u 3 (nI L)) 4 (nI (q + 1))) := ⟨_, rfl⟩
      have C61 : mC.1 61 = upd (upd u 3 (nI L)) 4 (nI (q + 1)) := by rw [hmC, mI_s]
      have Co : ∀ k, k ≠ 61 → k ≠ 76 → mC.1 k = mA.1 k := fun k a b => by rw [hmC, mI_n a, mI_n b, mI_n a]
      have w2 : mC.1 61 2 = nI s := by rw [C61, upd_n (by decide), upd_n (by decide), hu _ (by decide) (by decide) (by decide)]; exact h2.2.2.2
      have w0 : mC.1 61 0 = nI n := by rw [C61, upd_n (by decide), upd_n (by decide), hu _ (by decide) (by decide) (by decide)]; exact h1.2.2
      have w4 : mC.1 61 4 = nI (q + 1) := by rw [C61, upd_s]
      refine ⟨nI d + 0, mA, mC, ?_, ?_, ?_⟩
      · show fC_draw sh R m (nI A) = _
        refine eCd _ _ ?_
        rw [hCn, Int32.add_zero]
      · show fM_draw mA (nI A) = _
        unfold fM_draw
        rw [hMd]
        have b61 : mA.1 61 = m.1 61 := Ao 61 (by decide) (by decide)
        have b66 : mA.1 66 = m.1 66 := Ao 66 (by decide) (by decide)
        simp only [Option.bind_some, if_neg one, b61, h1.2.2, if_neg n0, h5.2.2, if_neg ne99, h4.2.2, ckq, clq, if_true, b66, ed, lt, hgo, ← hmC]
        unfold fM_isEnd
        simp only [w2, if_neg s0, w4, w0, if_neg neq, Option.bind_some, if_true]
      · refine Rel_draw H0 (mS := mI (mI (mI m 18 g) 61 u) 76 g') (pj_draw hu) (n := n) (d := d) (s := s) (l := L) (q := q + 1) (nn := nn) (zz := zz) h1.1 h1.2.1 hdn ⟨h2.1, h2.2.1⟩ (by omega) (by omega) (by omega) hzz ⟨?_, ?_, ?_, ?_, fun j hj => ?_⟩ ⟨w2, ?_, w4, ?_, fun j hj => ?_⟩ ?_ ?_ (fun k hk => ?_) ?_
        · rw [Co 1 (by decide) (by decide)]; exact v6
        · rw [Co 1 (by decide) (by decide), A1]; rfl
        · rw [Co 1 (by decide) (by decide)]; exact v8
        · rw [Co 1 (by decide) (by decide)]; exact v9
        · simp only [List.mem_cons, List.not_mem_nil, or_false, not_or] at hj
          rw [Co 1 (by decide) (by decide), A1, upd_n (by omega), upd_n (by omega)]
        · rw [C61]; rfl
        · rw [C61, upd_n (by decide), upd_n (by decide), hu _ (by decide) (by decide) (by decide)]; exact h5.2.2
        · simp only [List.mem_cons, List.not_mem_nil, or_false, not_or] at hj
          rw [C61, upd_n (by omega), upd_n (by omega), mI_n (by decide), mI_s]
        · rw [updz, Co _ (by decide) (by decide), Ao _ (by decide) (by decide)]
        · rw [updz2, Co _ (by decide) (by decide), Ao _ (by decide) (by decide)]
        · simp only [List.mem_cons, List.not_mem_nil, or_false, not_or] at hk
          rw [hmC, mI_n (by omega)]
          by_cases e : k = 76
          · subst e; rw [mI_s, mI_s]
          · rw [mI_n e, mI_n e, mI_n (by omega), mI_n (by omega), hmA, mI_n (by omega)]
        · rw [hmC, hmA]; rfl
  · -- a short straw
    obtain ⟨S, rfl⟩ : ∃ S, s = S + 1 := ⟨s - 1, by omega⟩
    have hle : ¬ nI (chN (S + 1) l pn) ≤ nI A := fun e => hch ((nI_leI (by omega) (by omega)).mp e)
    obtain ⟨Z, hZ⟩ : ∃ Z, Z = min 999 (zz + 1) := ⟨_, rfl⟩
    have hmin := min999 hzz
    rw [← hZ, nI_1] at hmin
    obtain ⟨mA, hmA⟩ : ∃ mA, mA = mI (mI (mI m 18 g) 4 (upd (m.1 4) d (nI Z))) 1 (upd (upd (m.1 1) 6 (nI S)) 8 (nI (q + 1))) := ⟨_, rfl⟩
    have A1 : mA.1 1 = upd (upd (m.1 1) 6 (nI S)) 8 (nI (q + 1)) := by rw [hmA, mI_s]
    have A4 : mA.1 4 = upd (m.1 4) d (nI Z) := by rw [hmA, mI_n (by decide), mI_s]
    have Ao : ∀ k, k ≠ 1 → k ≠ 18 → k ≠ 4 → mA.1 k = m.1 k := fun k a b c => by rw [hmA, mI_n a, mI_n c, mI_n b]
    have AX : ∀ X, mI (mI (mI (mI m 18 g) 1 (upd (m.1 1) 6 (nI S))) 4 (upd (m.1 4) d (nI Z))) 1 X = mI mA 1 X := fun X => by rw [hmA, mI_mI, mI_cm (k := 1) (k2 := 4) (by decide), mI_mI]
    have AI : mI mA 1 (upd (upd (m.1 1) 6 (nI S)) 8 (nI (q + 1))) = mA := by rw [← A1, mI_id]
    have v6 : mA.1 1 6 = nI S := by rw [A1, upd_n (by decide), upd_s]
    have v8 : mA.1 1 8 = nI (q + 1) := by rw [A1, upd_s]
    have v0 : mA.1 1 0 = nI n := by rw [A1, upd_n (by decide), upd_n (by decide)]; exact h1.2.1
    have v9 : mA.1 1 9 = nI nn := by rw [A1, upd_n (by decide), upd_n (by decide)]; exact h5.2.1
    have hCn : fW_drawNext sh R m (nI A) = if nI S = 0 then lm (mI mA 1 (upd (mA.1 1) 9 (nI (nn + 1)))) fun m8 => (fW_makeWhole sh R m8).bind fun r9 => some ((nI d + 10) + 100, r9) else if nI (q + 1) = nI n then lm (mI mA 1 (upd (mA.1 1) 9 (nI (nn + 1)))) fun m11 => (fW_makeWhole sh R m11).bind fun r12 => some ((nI d + 10) + 100, r12) else some ((nI d + 10) + 0, mA) := by
      unfold fW_drawNext
      simp only [h4.2.1, ckq, clq, if_true, e12, ed, lt, h2.2.2.1, h3.2.1, hg, Option.bind_some, if_neg hle, lm, ckd, cld, mI_s, mI_n (show (1 : Nat) ≠ 18 by decide), mI_n (show (4 : Nat) ≠ 18 by decide), mI_n (show (4 : Nat) ≠ 1 by decide), mI_n (show (1 : Nat) ≠ 4 by decide), z4, hmin, mI_mI, upd_n (show (8 : Nat) ≠ 6 by decide), e1 S (by omega), nI_1, AX, AI, upd_s, upd_n (show (6 : Nat) ≠ 8 by decide), upd_n (show (0 : Nat) ≠ 8 by decide), upd_n (show (0 : Nat) ≠ 6 by decide), upd_n (show (9 : Nat) ≠ 8 by decide), upd_n (show (9 : Nat) ≠ 6 by decide), h1.2.1, h5.2.1, A1]
    have hMn : ∀ (mB : MI), (∀ k, k ∉ [1, 4, 18] → mB.1 k = m.1 k) → ∃ u g', (∀ i, i ≠ 28 → i ≠ 29 → i ≠ 30 → u i = m.1 61 i) ∧ fM_goDraw mB (nI A) = some (1, mI (mI (mI (mI mB 61 u) 76 g') 64 (upd (m.1 64) d (nI Z))) 61 (upd (upd u 2 (nI S)) 4 (nI (q + 1)))) := fun mB hB => by
      obtain ⟨u, g', k1, k2⟩ := mf mB hB
      refine ⟨u, g', k2, ?_⟩
      have u2 : u 2 = nI (S + 1) := by rw [k2 2 (by decide) (by decide) (by decide)]; exact h2.2.2.2
      have u4 : u 4 = nI q := by rw [k2 4 (by decide) (by decide) (by decide)]; exact h4.2.2
      have BX : ∀ X, mI (mI (mI (mI (mI mB 61 u) 76 g') 61 (upd u 2 (nI S))) 64 (upd (m.1 64) d (nI Z))) 61 X = mI (mI (mI (mI mB 61 u) 76 g') 64 (upd (m.1 64) d (nI Z))) 61 X := fun X => by rw [mI_cm (k := 61) (k2 := 64) (by decide), mI_mI]
      unfold fM_goDraw
      simp only [hB 61 (by decide), h4.2.2, ckq, clq, if_true, hB 66 (by decide), ed, lt, h2.2.2.2, h3.2.2, k1, Option.bind_some, if_neg hle, lm, ckd, cld, mI_s, mI_n (show (61 : Nat) ≠ 76 by decide), mI_n (show (64 : Nat) ≠ 61 by decide), mI_n (show (64 : Nat) ≠ 76 by decide), hB 64 (by decide), z64, u2, e1 S (by omega)]
      by_cases c9 : zz = 999
      · rw [if_pos (show (999 : Int32) ≤ nI zz from nI_le (a := 999) (by omega) (by omega)), show (999 : Int32) = nI Z by rw [hZ, c9]; rfl, mI_n (show (61 : Nat) ≠ 64 by decide), mI_s, BX, upd_n (by decide), u4, nI_1]
      · rw [if_neg (show ¬ (999 : Int32) ≤ nI zz from not_le_nI (n := 999) (by omega) (by omega)), nI_1, show nI (zz + 1) = nI Z by rw [hZ]; congr 1; omega, mI_n (show (61 : Nat) ≠ 64 by decide), mI_s, BX, upd_n (by decide), u4, nI_1]
    have eCd : ∀ v mB, fW_drawNext sh R m (nI A) = some (v, mB) → fC_draw sh R m (nI A) = some (v, mB) := fun v mB h => by
      unfold fC_draw
      rw [hCd]
      simp only [Option.bind_some, if_neg one, hnx, if_neg nd5, h5.2.1, if_pos lt99, h]
    have cS : nI S = 0 ↔ S = 0 := nI_eq (b := 0) (by omega) (by omega)
    have cq : nI (q + 1) = nI n ↔ q + 1 = n := nI_eq (by omega) (by omega)
    by_cases hend : S = 0 ∨ q + 1 = n
    · have hCn2 : fW_drawNext sh R m (nI A) = lm (mI mA 1 (upd (mA.1 1) 9 (nI (nn + 1)))) fun m8 => (fW_makeWhole sh R m8).bind fun r9 => some ((nI d + 10) + 100, r9) := by
        rw [hCn]
        by_cases h : S = 0
        · rw [if_pos (cS.mpr h)]
        · rw [if_neg (fun e => h (cS.mp e)), if_pos (cq.mpr (hend.resolve_left h))]
      obtain ⟨mE, hmE⟩ : ∃ mE, mE = mI mA 1 (upd (mA.1 1) 9 (nI (nn + 1))) := ⟨_, rfl⟩
      have E1 : mE.1 1 = upd (mA.1 1) 9 (nI (nn + 1)) := by rw [hmE, mI_s]
      have hmk := W_make (m' := mE) (n := n) hC0 h1.1 (by rw [E1, upd_n (by decide)]; exact v0) (by rw [hmE, mI_n (by omega), Ao hw (by omega) (by omega) (by omega)])
      obtain ⟨mB, hmB⟩ : ∃ mB, mB = mI mE 1 (upd (upd (upd (mE.1 1) 6 (nI ha)) 7 (nI (n + hz - ha))) 8 0) := ⟨_, rfl⟩
      have Bo : ∀ k, k ≠ 1 → k ≠ 18 → k ≠ 4 → mB.1 k = m.1 k := fun k a b c => by rw [hmB, mI_n a, hmE, mI_n a, Ao k a b c]
      have B4 : mB.1 4 = upd (m.1 4) d (nI Z) := by rw [hmB, mI_n (by decide), hmE, mI_n (by decide), A4]
      obtain ⟨u, g', hu, hgo⟩ := hMn mB (fun k hk => Bo k (by simp only [List.mem_cons, List.not_mem_nil, or_false, not_or] at hk; omega) (by simp only [List.mem_cons, List.not_mem_nil, or_false, not_or] at hk; omega) (by simp only [List.mem_cons, List.not_mem_nil, or_false, not_or] at hk; omega))
      obtain ⟨mC, hmC⟩ : ∃ mC, mC = mI (mI (mI (mI mB 61 u) 76 g') 64 (upd (m.1 64) d (nI Z))) 61 (upd (upd u 2 (nI S)) 4 (nI (q + 1))) := ⟨_, rfl⟩
      have C61 : mC.1 61 = upd (upd u 2 (nI S)) 4 (nI (q + 1)) := by rw [hmC, mI_s]
      have C64 : mC.1 64 = upd (m.1 64) d (nI Z) := by rw [hmC, mI_n (by decide), mI_s]
      have Co : ∀ k, k ≠ 61 → k ≠ 76 → k ≠ 64 → mC.1 k = mB.1 k := fun k a b c => by rw [hmC, mI_n a, mI_n c, mI_n b, mI_n a]
      have w2 : mC.1 61 2 = nI S := by rw [C61, upd_n (by decide), upd_s]
      have w0 : mC.1 61 0 = nI n := by rw [C61, upd_n (by decide), upd_n (by decide), hu _ (by decide) (by decide) (by decide)]; exact h1.2.2
      have w1 : mC.1 61 1 = nI nn := by rw [C61, upd_n (by decide), upd_n (by decide), hu _ (by decide) (by decide) (by decide)]; exact h5.2.2
      have w4 : mC.1 61 4 = nI (q + 1) := by rw [C61, upd_s]
      have hIs : fM_isEnd mC = some (1, mC) := by
        unfold fM_isEnd
        rw [w2, w4, w0]
        by_cases h : S = 0
        · rw [if_pos (cS.mpr h)]
        · rw [if_neg (fun e => h (cS.mp e)), if_pos (cq.mpr (hend.resolve_left h))]
      obtain ⟨mD, hmD⟩ : ∃ mD, mD = mI mC 61 (upd (mC.1 61) 1 (nI (nn + 1))) := ⟨_, rfl⟩
      have D61 : mD.1 61 = upd (mC.1 61) 1 (nI (nn + 1)) := by rw [hmD, mI_s]
      have Dk : ∀ k, 68 ≤ k ∧ k ≤ 70 → mD.1 k = m.1 k := fun k hk => by rw [hmD, mI_n (by omega), Co k (by omega) (by omega) (by omega), Bo k (by omega) (by omega) (by omega)]
      have hml := M_lay (m' := mD) (n := n) hC0 h1.1 (by rw [D61, upd_n (by decide)]; exact w0) (by rw [D61, upd_n (by decide), C61, upd_n (by decide), upd_n (by decide), hu _ (by decide) (by decide) (by decide)]) (Dk 68 (by omega)) (Dk 69 (by omega)) (Dk 70 (by omega))
      refine ⟨nI d + 10 + 100, mB, mI mD 61 (upd (upd (upd (mD.1 61) 2 (nI ha)) 3 (nI (n + hz - ha))) 4 0), ?_, ?_, ?_⟩
      · show fC_draw sh R m (nI A) = _
        refine eCd _ _ ?_
        rw [hCn2]
        simp only [lm]
        rw [← hmE, hmk, ← hmB]
        rfl
      · show fM_draw mB (nI A) = _
        unfold fM_draw
        rw [hMd]
        have b61 : mB.1 61 = m.1 61 := Bo 61 (by decide) (by decide) (by decide)
        have b66 : mB.1 66 = m.1 66 := Bo 66 (by decide) (by decide) (by decide)
        simp only [Option.bind_some, if_neg one, b61, h1.2.2, if_neg n0, h5.2.2, if_neg ne99, h4.2.2, ckq, clq, if_true, b66, ed, lt, hgo, ← hmC, hIs, lm, w1, nI_1, ← hmD, hml]
      · refine Rel_draw H0 (mS := mI (mI (mI m 18 g) 61 u) 76 g') (pj_draw hu) (n := n) (d := d) (s := ha) (l := n + hz - ha) (q := 0) (nn := nn + 1) (zz := Z) h1.1 h1.2.1 hdn ha1 (by omega) (by omega) (by omega) (by omega) ⟨?_, ?_, ?_, ?_, fun j hj => ?_⟩ ⟨?_, ?_, ?_, ?_, fun j hj => ?_⟩ ?_ ?_ (fun k hk => ?_) ?_
        · rw [mI_n (by decide), hmD, mI_n (by decide), Co 1 (by decide) (by decide) (by decide), hmB, mI_s]; rfl
        · rw [mI_n (by decide), hmD, mI_n (by decide), Co 1 (by decide) (by decide) (by decide), hmB, mI_s]; rfl
        · rw [mI_n (by decide), hmD, mI_n (by decide), Co 1 (by decide) (by decide) (by decide), hmB, mI_s]; rfl
        · rw [mI_n (by decide), hmD, mI_n (by decide), Co 1 (by decide) (by decide) (by decide), hmB, mI_s, E1]; rfl
        · simp only [List.mem_cons, List.not_mem_nil, or_false, not_or] at hj
          rw [mI_n (by decide), hmD, mI_n (by decide), Co 1 (by decide) (by decide) (by decide), hmB, mI_s, upd_n (by omega), upd_n (by omega), upd_n (by omega), E1, upd_n (by omega), A1, upd_n (by omega), upd_n (by omega)]
        · rw [mI_s]; rfl
        · rw [mI_s]; rfl
        · rw [mI_s]; rfl
        · rw [mI_s, D61]; rfl
        · simp only [List.mem_cons, List.not_mem_nil, or_false, not_or] at hj
          rw [mI_s, upd_n (by omega), upd_n (by omega), upd_n (by omega), D61, upd_n (by omega), C61, upd_n (by omega), upd_n (by omega), mI_n (by decide), mI_s]
        · rw [mI_n (by decide), hmD, mI_n (by decide), Co _ (by decide) (by decide) (by decide), B4]
        · rw [mI_n (by decide), hmD, mI_n (by decide), C64]
        · simp only [List.mem_cons, List.not_mem_nil, or_false, not_or] at hk
          rw [mI_n (by omega), hmD, mI_n (by omega), hmC, mI_n (by omega), mI_n (by omega)]
          by_cases e : k = 76
          · subst e; rw [mI_s, mI_s]
          · rw [mI_n e, mI_n e, mI_n (by omega), mI_n (by omega), hmB, mI_n (by omega), hmE, mI_n (by omega), hmA, mI_n (by omega), mI_n (by omega)]
        · rw [hmD, hmC, hmB, hmE, hmA]; rfl
    · obtain ⟨hS0, hqn⟩ := not_or.mp hend
      rw [if_neg (fun e => hS0 (cS.mp e)), if_neg (fun e => hqn (cq.mp e))] at hCn
      obtain ⟨u, g', hu, hgo⟩ := hMn mA (fun k hk => Ao k (by simp only [List.mem_cons, List.not_mem_nil, or_false, not_or] at hk; omega) (by simp only [List.mem_cons, List.not_mem_nil, or_false, not_or] at hk; omega) (by simp only [List.mem_cons, List.not_mem_nil, or_false, not_or] at hk; omega))
      obtain ⟨mC, hmC⟩ : ∃ mC, mC = mI (mI (mI (mI mA 61 u) 76 g') 64 (upd (m.1 64) d (nI Z))) 61 (upd (upd u 2 (nI S)) 4 (nI (q + 1))) := ⟨_, rfl⟩
      have C61 : mC.1 61 = upd (upd u 2 (nI S)) 4 (nI (q + 1)) := by rw [hmC, mI_s]
      have C64 : mC.1 64 = upd (m.1 64) d (nI Z) := by rw [hmC, mI_n (by decide), mI_s]
      have Co : ∀ k, k ≠ 61 → k ≠ 76 → k ≠ 64 → mC.1 k = mA.1 k := fun k a b c => by rw [hmC, mI_n a, mI_n c, mI_n b, mI_n a]
      have w2 : mC.1 61 2 = nI S := by rw [C61, upd_n (by decide), upd_s]
      have w0 : mC.1 61 0 = nI n := by rw [C61, upd_n (by decide), upd_n (by decide), hu _ (by decide) (by decide) (by decide)]; exact h1.2.2
      have w4 : mC.1 61 4 = nI (q + 1) := by rw [C61, upd_s]
      have hIs : fM_isEnd mC = some (0, mC) := by
        unfold fM_isEnd
        rw [w2, w4, w0, if_neg (fun e => hS0 (cS.mp e)), if_neg (fun e => hqn (cq.mp e))]
      refine ⟨nI d + 10, mA, mC, ?_, ?_, ?_⟩
      · show fC_draw sh R m (nI A) = _
        refine eCd _ _ ?_
        rw [hCn, Int32.add_zero]
      · show fM_draw mA (nI A) = _
        unfold fM_draw
        rw [hMd]
        have b61 : mA.1 61 = m.1 61 := Ao 61 (by decide) (by decide) (by decide)
        have b66 : mA.1 66 = m.1 66 := Ao 66 (by decide) (by decide) (by decide)
        simp only [Option.bind_some, if_neg one, b61, h1.2.2, if_neg n0, h5.2.2, if_neg ne99, h4.2.2, ckq, clq, if_true, b66, ed, lt, hgo, ← hmC, hIs]
      · refine Rel_draw H0 (mS := mI (mI (mI m 18 g) 61 u) 76 g') (pj_draw hu) (n := n) (d := d) (s := S) (l := l) (q := q + 1) (nn := nn) (zz := Z) h1.1 h1.2.1 hdn (by omega) (by omega) (by omega) (by omega) (by omega) ⟨?_, ?_, ?_, ?_, fun j hj => ?_⟩ ⟨w2, ?_, w4, ?_, fun j hj => ?_⟩ ?_ ?_ (fun k hk => ?_) ?_
        · rw [Co 1 (by decide) (by decide) (by decide)]; exact v6
        · rw [Co 1 (by decide) (by decide) (by decide), A1, upd_n (by decide), upd_n (by decide)]; exact h3.2.1
        · rw [Co 1 (by decide) (by decide) (by decide)]; exact v8
        · rw [Co 1 (by decide) (by decide) (by decide)]; exact v9
        · simp only [List.mem_cons, List.not_mem_nil, or_false, not_or] at hj
          rw [Co 1 (by decide) (by decide) (by decide), A1, upd_n (by omega), upd_n (by omega)]
        · rw [C61, upd_n (by decide), upd_n (by decide), hu _ (by decide) (by decide) (by decide)]; exact h3.2.2
        · rw [C61, upd_n (by decide), upd_n (by decide), hu _ (by decide) (by decide) (by decide)]; exact h5.2.2
        · simp only [List.mem_cons, List.not_mem_nil, or_false, not_or] at hj
          rw [C61, upd_n (by omega), upd_n (by omega), mI_n (by decide), mI_s]
        · rw [Co _ (by decide) (by decide) (by decide), A4]
        · rw [C64]
        · simp only [List.mem_cons, List.not_mem_nil, or_false, not_or] at hk
          rw [hmC, mI_n (by omega), mI_n (by omega)]
          by_cases e : k = 76
          · subst e; rw [mI_s, mI_s]
          · rw [mI_n e, mI_n e, mI_n (by omega), mI_n (by omega), hmA, mI_n (by omega), mI_n (by omega)]
        · rw [hmC, hmA]; rfl
