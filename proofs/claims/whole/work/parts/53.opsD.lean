theorem C_fill4 {sh : Sh} {R : RR} {u : Nat} (hs : sh[u]? = some (0, 4)) (kc : MI → Int32 → Option MI) : ∀ (q k : Nat) (f : Nat) (m : MI), k + q = 4 → q < f → ∃ g : Nat → Int32, (∀ i, k ≤ i → i < 4 → g i = 5) ∧ (∀ i, i < k → g i = m.1 u i) ∧ fJA_fill_53178_l5 sh R u 5 (nI 4) kc f m (nI k) = kc (mI m u g) (nI 4) := by
  intro q
  induction q with
  | zero =>
    intro k f m hk hf
    obtain ⟨f', rfl, -⟩ := fu hf
    refine ⟨m.1 u, fun i _ _ => by omega, fun _ _ => rfl, ?_⟩
    rw [fJA_fill_53178_l5, if_pos (nI_le (by omega) (by omega)), show k = 4 by omega]
    congr 1
    refine Prod.ext (funext fun k' => ?_) rfl
    by_cases e : k' = u
    · subst e; rw [mI_s]
    · rw [mI_n e]
  | succ q ih =>
    intro k f m hk hf
    obtain ⟨f', rfl, hf'⟩ := fu hf
    obtain ⟨g, g1, g2, g3⟩ := ih (k + 1) f' (mI m u (upd (m.1 u) k 5)) (by omega) (hf' q rfl)
    refine ⟨g, fun i h1 h2 => ?_, fun i hi => ?_, ?_⟩
    · by_cases e : i = k
      · subst e; rw [g2 i (by omega), mI_s, upd_s]
      · exact g1 i (by omega) h2
    · rw [g2 i (by omega), mI_s, upd_n (by omega)]
    · rw [fJA_fill_53178_l5, if_neg (not_le_nI (by omega) (by omega)), if_pos (kA_of hs), lenA_of hs, if_pos (ck_nI (show k < 4 by omega) (by omega)), cl_nI (show k < 100000 by omega)]
      simp only [lm, lt, nI_1]
      rw [g3, mI_mI]
theorem M_fill4 {n : Nat} (hn : n < 6) (a b : Int32) (kc : MI → Int32 → Option (Int32 × MI)) : ∀ (q k : Nat) (f : Nat) (m : MI), m.1 61 0 = nI n → k + q = 4 → q < f → ∃ g : Nat → Int32, (∀ i, k ≤ i → i < 4 → g (4 * n + i) = 5) ∧ (∀ i, i < 4 * n + k ∨ 4 * n + 4 ≤ i → g i = m.1 65 i) ∧ fM_drawer_l84 a b kc f m (nI k) = kc (mI m 65 g) (nI 4) := by
  intro q
  induction q with
  | zero =>
    intro k f m h0 hk hf
    obtain ⟨f', rfl, -⟩ := fu hf
    refine ⟨m.1 65, fun i _ _ => by omega, fun _ _ => rfl, ?_⟩
    rw [fM_drawer_l84, if_pos (show (4 : Int32) ≤ nI k from nI_le (a := 4) (by omega) (by omega)), show k = 4 by omega]
    congr 1
    refine Prod.ext (funext fun k' => ?_) rfl
    by_cases e : k' = 65
    · subst e; rw [mI_s]
    · rw [mI_n e]
  | succ q ih =>
    intro k f m h0 hk hf
    obtain ⟨f', rfl, hf'⟩ := fu hf
    obtain ⟨g, g1, g2, g3⟩ := ih (k + 1) f' (mI m 65 (upd (m.1 65) (4 * n + k) 5)) (by rw [mI_n (by decide)]; exact h0) (by omega) (hf' q rfl)
    refine ⟨g, fun i h1 h2 => ?_, fun i hi => ?_, ?_⟩
    · by_cases e : i = k
      · subst e; rw [g2 _ (by omega), mI_s, upd_s]
      · exact g1 i (by omega) h2
    · rw [g2 i (by omega), mI_s, upd_n (by omega)]
    · rw [fM_drawer_l84, if_neg (show ¬ (4 : Int32) ≤ nI k from not_le_nI (n := 4) (by omega) (by omega)), h0, show (4 : Int32) * nI n + nI k = nI (4 * n + k) by rw [show (4 : Int32) = nI 4 from rfl, pk_mul, nI_add], if_pos (ck_nI (show 4 * n + k < 24 by omega) (by omega)), cl_nI (show 4 * n + k < 100000 by omega)]
      simp only [lm, lt, nI_1]
      rw [g3, mI_mI]
theorem op_drawer {sh : Sh} {R : RR} {m : MI} (a b : Int32) (H : Rel sh R m) : Ans sh R m (fun m => fC_drawer sh R m a b) (fun m => fM_drawer m a b) := by
  have H0 := H
  have hF := Fx_of H.2.2.2.2.2
  obtain ⟨hw, ha, hz, hC⟩ := cur_hut H.2.2.2.2.2 H.2.2.2.2.1
  have hC0 := hC
  obtain ⟨hr1, hs1, hd1, ha1, hz1, hv1, hv2, -⟩ := hC
  obtain ⟨⟨n, s, l, q, nn, se, bo, h1, h2, h3, h4, h5, h6, h7, h8, h9, h10, h11, h12, h13, h14, h15⟩, -⟩ := H
  obtain ⟨F, hF1⟩ : ∃ F : Nat, F = 1000 := ⟨_, rfl⟩
  have one : ¬ (1 : Int32) = 0 := by decide
  by_cases hA : a < 0 ∨ 6 < a
  · refine ⟨-1, m, m, ?_, by simp [fM_drawer, M_in0 hA], H0⟩
    by_cases a0 : a < 0
    · simp [fC_drawer, a0]
    · obtain ⟨z, hz, rfl⟩ := nI_of a0
      have := hA.resolve_left a0
      rw [show (6 : Int32) = nI 6 from rfl, nI_ltI (by omega) hz] at this
      have t : ¬ nI z < 7 := nI_nlt (b := 7) (by omega) hz
      simp [fC_drawer, a0, t]
  by_cases hB : b < 0 ∨ 9 < b
  · refine ⟨-2, m, m, ?_, by simp [fM_drawer, M_in1 hA, M_in0 hB], H0⟩
    obtain ⟨x, -, hx, rfl⟩ := in_rng (lo := 0) (hi := 6) (by omega) (by omega) hA
    have t1 : ¬ nI x < 0 := nI_pos (by omega)
    have t2 : nI x < 7 := nI_lt (b := 7) (by omega) (by omega)
    by_cases b0 : b < 0
    · simp [fC_drawer, t1, t2, b0]
    · have t : ¬ b ≤ 9 := Int32.not_le.mpr (hB.resolve_left b0)
      simp [fC_drawer, t1, t2, b0, t]
  obtain ⟨x, -, hx, rfl⟩ := in_rng (lo := 0) (hi := 6) (by omega) (by omega) hA
  obtain ⟨y, -, hy, rfl⟩ := in_rng (lo := 0) (hi := 9) (by omega) (by omega) hB
  have t1 : ¬ nI x < 0 := nI_pos (by omega)
  have t2 : nI x < 7 := nI_lt (b := 7) (by omega) (by omega)
  have t3 : ¬ nI y < 0 := nI_pos (by omega)
  have t4 : nI y ≤ 9 := nI_le (b := 9) (by omega) (by omega)
  by_cases hn6 : n = 6
  · have t5 : ¬ nI n < 6 := nI_nlt (b := 6) (by omega) (by omega)
    have t6 : nI n = 6 := by rw [hn6]; rfl
    exact ⟨-4, m, m, by simp [fC_drawer, t1, t2, t3, t4, h1.2.1, t5], by simp [fM_drawer, M_in1 hA, M_in1 hB, h1.2.2, t6], H0⟩
  have hn : n < 6 := by omega
  have t5 : nI n < 6 := nI_lt (b := 6) hn (by omega)
  have t6 : ¬ nI n = 6 := fun e => hn6 ((nI_eq (b := 6) (by omega) (by omega)).mp e)
  have ckn : ck (nI n) 6 = true := ck_nI hn (by omega)
  have cln := cl_nI (show n < 100000 by omega)
  have hsr := rowSh hF hn
  obtain ⟨g, g1, -, g3⟩ := C_fill4 (R := R) hsr (fun m4 _ => some m4) 4 0 F (mI (mI (mI m 2 (upd (m.1 2) n (nI x))) 3 (upd (m.1 3) n (nI y))) 4 (upd (m.1 4) n 0)) (by omega) (by omega)
  obtain ⟨mA, hmA⟩ : ∃ mA, mA = mI (mI (mI (mI (mI (mI m 2 (upd (m.1 2) n (nI x))) 3 (upd (m.1 3) n (nI y))) 4 (upd (m.1 4) n 0)) (5 + n) g) 12 (upd (m.1 12) n (nI n))) 1 (upd (m.1 1) 0 (nI (n + 1))) := ⟨_, rfl⟩
  have A1 : mA.1 1 = upd (m.1 1) 0 (nI (n + 1)) := by rw [hmA, mI_s]
  have Ao : ∀ k, k ∉ [1, 2, 3, 4, 12] → k ≠ 5 + n → mA.1 k = m.1 k := fun k h h' => by
    simp only [List.mem_cons, List.not_mem_nil, or_false, not_or] at h
    rw [hmA, mI_n (by omega), mI_n (by omega), mI_n (by omega), mI_n (by omega), mI_n (by omega), mI_n (by omega)]
  have hmk := W_make (m' := mA) (n := n + 1) hC0 (by omega) (by rw [A1, upd_s]) (Ao hw (by simp only [List.mem_cons, List.not_mem_nil, or_false]; omega) (by omega))
  obtain ⟨mB, hmB⟩ : ∃ mB, mB = mI mA 1 (upd (upd (upd (mA.1 1) 6 (nI ha)) 7 (nI (n + 1 + hz - ha))) 8 0) := ⟨_, rfl⟩
  have Bo : ∀ k, k ≠ 1 → mB.1 k = mA.1 k := fun k h => by rw [hmB, mI_n h]
  have e61 : mB.1 61 = m.1 61 := by rw [Bo _ (by decide), Ao _ (by decide) (by omega)]
  obtain ⟨g', g1', g2', g3'⟩ := M_fill4 hn (nI x) (nI y) (fun m15 _ => lm (mI m15 61 (upd (m15.1 61) 0 ((m15.1 61 0) + 1))) fun m16 => (fM_layFist m16).bind fun r17 => some ((r17.1 61 0) - 1, r17)) 4 0 F (mI (mI (mI (mI mB 62 (upd (mB.1 62) n (nI x))) 63 (upd (mB.1 63) n (nI y))) 64 (upd (mB.1 64) n 0)) 66 (upd (mB.1 66) n (nI n))) (by rw [mI_n (by decide), mI_n (by decide), mI_n (by decide), mI_n (by decide), e61]; exact h1.2.2) (by omega) (by omega)
  obtain ⟨mC, hmC⟩ : ∃ mC, mC = mI (mI (mI (mI (mI (mI mB 62 (upd (mB.1 62) n (nI x))) 63 (upd (mB.1 63) n (nI y))) 64 (upd (mB.1 64) n 0)) 66 (upd (mB.1 66) n (nI n))) 65 g') 61 (upd (m.1 61) 0 (nI (n + 1))) := ⟨_, rfl⟩
  have C61 : mC.1 61 = upd (m.1 61) 0 (nI (n + 1)) := by rw [hmC, mI_s]
  have Co : ∀ k, k ∉ [61, 62, 63, 64, 65, 66] → mC.1 k = mB.1 k := fun k h => by
    simp only [List.mem_cons, List.not_mem_nil, or_false, not_or] at h
    rw [hmC, mI_n (by omega), mI_n (by omega), mI_n (by omega), mI_n (by omega), mI_n (by omega), mI_n (by omega)]
  have Cm : ∀ k, k ∉ [1, 2, 3, 4, 12, 61, 62, 63, 64, 65, 66] → k ≠ 5 + n → mC.1 k = m.1 k := fun k h h' => by
    simp only [List.mem_cons, List.not_mem_nil, or_false, not_or] at h
    rw [Co k (by simp only [List.mem_cons, List.not_mem_nil, or_false]; omega), Bo k (by omega), Ao k (by simp only [List.mem_cons, List.not_mem_nil, or_false]; omega) h']
  have hml := M_lay (m' := mC) (n := n + 1) hC0 (by omega) (by rw [C61, upd_s]) (by rw [C61, upd_n (by decide)]) (Cm _ (by decide) (by omega)) (Cm _ (by decide) (by omega)) (Cm _ (by decide) (by omega))
  refine ⟨nI n, mB, mI mC 61 (upd (upd (upd (mC.1 61) 2 (nI ha)) 3 (nI (n + 1 + hz - ha))) 4 0), ?_, ?_, ?_⟩
  · show fC_drawer sh R m (nI x) (nI y) = _
    unfold fC_drawer
    rw [if_neg t1, if_pos t2, if_neg t3, if_pos t4, h1.2.1, if_pos t5]
    unfold fW_welcome
    rw [h1.2.1]
    simp only [lt, lm, ckn, cln, if_true, mI_n (show (3 : Nat) ≠ 2 by decide), mI_n (show (4 : Nat) ≠ 3 by decide), mI_n (show (4 : Nat) ≠ 2 by decide), R11 hF.2 hn, mq]
    unfold fJA_fill_53178
    rw [if_pos (kA_of hsr), ← hF1, lenA_of hsr]
    simp only [lt]
    rw [show Int32.ofNat 4 = nI 4 from rfl, show fJA_fill_53178_l5 sh R (5 + n) 5 (nI 4) (fun m4 _ => some m4) F (mI (mI (mI m 2 (upd (m.1 2) n (nI x))) 3 (upd (m.1 3) n (nI y))) 4 (upd (m.1 4) n 0)) 0 = _ from g3]
    simp only [Option.bind_some, mI_n (show (12 : Nat) ≠ 5 + n by omega), mI_n (show (1 : Nat) ≠ 5 + n by omega), mI_n (show (12 : Nat) ≠ 4 by decide), mI_n (show (12 : Nat) ≠ 3 by decide), mI_n (show (12 : Nat) ≠ 2 by decide), mI_n (show (1 : Nat) ≠ 12 by decide), mI_n (show (1 : Nat) ≠ 4 by decide), mI_n (show (1 : Nat) ≠ 3 by decide), mI_n (show (1 : Nat) ≠ 2 by decide), h1.2.1, nI_1]
    rw [show (mI (mI (mI (mI (mI (mI m 2 (upd (m.1 2) n (nI x))) 3 (upd (m.1 3) n (nI y))) 4 (upd (m.1 4) n 0)) (5 + n) g) 12 (upd (m.1 12) n (nI n))) 1 (upd (m.1 1) 0 (nI (n + 1)))) = mA from hmA.symm, hmk, ← hmB]
    rfl
  · show fM_drawer mB (nI x) (nI y) = _
    unfold fM_drawer
    rw [M_in1 hA]
    simp only [Option.bind_some, if_neg one]
    rw [M_in1 hB, ← hF1]
    simp only [Option.bind_some, if_neg one, e61, h1.2.2, if_neg t6, ckn, cln, if_true, lm, mI_n (show (61 : Nat) ≠ 62 by decide), mI_n (show (61 : Nat) ≠ 63 by decide), mI_n (show (61 : Nat) ≠ 64 by decide), e61, h1.2.2, mI_n (show (63 : Nat) ≠ 62 by decide), mI_n (show (64 : Nat) ≠ 63 by decide), mI_n (show (64 : Nat) ≠ 62 by decide), mI_n (show (66 : Nat) ≠ 62 by decide), mI_n (show (66 : Nat) ≠ 63 by decide), mI_n (show (66 : Nat) ≠ 64 by decide)]
    refine Eq.trans g3' ?_
    simp only [lm, mI_n (show (61 : Nat) ≠ 65 by decide), mI_n (show (61 : Nat) ≠ 66 by decide), mI_n (show (61 : Nat) ≠ 62 by decide), mI_n (show (61 : Nat) ≠ 63 by decide), mI_n (show (61 : Nat) ≠ 64 by decide), e61, h1.2.2, nI_1]
    rw [← hmC, hml]
    simp only [Option.bind_some, mI_s, upd_n (show (0 : Nat) ≠ 4 by decide), upd_n (show (0 : Nat) ≠ 3 by decide), upd_n (show (0 : Nat) ≠ 2 by decide), C61, upd_s]
    rw [show nI (n + 1) - 1 = nI n from nI_pred n]
  · have M1 : (mI mC 61 (upd (upd (upd (mC.1 61) 2 (nI ha)) 3 (nI (n + 1 + hz - ha))) 4 0)).1 1 = upd (upd (upd (upd (m.1 1) 0 (nI (n + 1))) 6 (nI ha)) 7 (nI (n + 1 + hz - ha))) 8 0 := by
      rw [mI_n (by decide), Co _ (by decide), hmB, mI_s, A1]
    have M61 : (mI mC 61 (upd (upd (upd (mC.1 61) 2 (nI ha)) 3 (nI (n + 1 + hz - ha))) 4 0)).1 61 = upd (upd (upd (upd (m.1 61) 0 (nI (n + 1))) 2 (nI ha)) 3 (nI (n + 1 + hz - ha))) 4 0 := by
      rw [mI_s, C61]
    obtain ⟨mD, hmD⟩ : ∃ mD, mD = mI mC 61 (upd (upd (upd (mC.1 61) 2 (nI ha)) 3 (nI (n + 1 + hz - ha))) 4 0) := ⟨_, rfl⟩
    rw [← hmD] at M1 M61 ⊢
    have Dm : ∀ k, k ∉ [1, 2, 3, 4, 12, 61, 62, 63, 64, 65, 66] → k ≠ 5 + n → mD.1 k = m.1 k := fun k h h' => by
      rw [hmD, mI_n (by simp only [List.mem_cons, List.not_mem_nil, or_false] at h; omega), Cm k h h']
    have DC : ∀ k, k ≠ 61 → mD.1 k = mC.1 k := fun k h => by rw [hmD, mI_n h]
    have BA : ∀ k, k ∉ [1, 61, 62, 63, 64, 65, 66] → mD.1 k = mA.1 k := fun k h => by
      simp only [List.mem_cons, List.not_mem_nil, or_false, not_or] at h
      rw [DC k (by omega), Co k (by simp only [List.mem_cons, List.not_mem_nil, or_false]; omega), Bo k (by omega)]
    have mB6 : ∀ k, k ∈ [62, 63, 64, 65, 66] → mB.1 k = m.1 k := fun k h => by
      simp only [List.mem_cons, List.not_mem_nil, or_false] at h
      rw [Bo k (by omega), Ao k (by simp only [List.mem_cons, List.not_mem_nil, or_false]; omega) (by omega)]
    have D2 : mD.1 2 = upd (m.1 2) n (nI x) := by rw [BA _ (by decide), hmA, mI_n (by decide), mI_n (by decide), mI_n (by omega), mI_n (by decide), mI_n (by decide), mI_s]
    have D3 : mD.1 3 = upd (m.1 3) n (nI y) := by rw [BA _ (by decide), hmA, mI_n (by decide), mI_n (by decide), mI_n (by omega), mI_n (by decide), mI_s]
    have D4 : mD.1 4 = upd (m.1 4) n 0 := by rw [BA _ (by decide), hmA, mI_n (by decide), mI_n (by decide), mI_n (by omega), mI_s]
    have D5 : mD.1 (5 + n) = g := by rw [BA _ (by simp only [List.mem_cons, List.not_mem_nil, or_false]; omega), hmA, mI_n (by omega), mI_n (by omega), mI_s]
    have D12 : mD.1 12 = upd (m.1 12) n (nI n) := by rw [BA _ (by decide), hmA, mI_n (by decide), mI_s]
    have D62 : mD.1 62 = upd (m.1 62) n (nI x) := by rw [DC _ (by decide), hmC, mI_n (by decide), mI_n (by decide), mI_n (by decide), mI_n (by decide), mI_n (by decide), mI_s, mB6 _ (by decide)]
    have D63 : mD.1 63 = upd (m.1 63) n (nI y) := by rw [DC _ (by decide), hmC, mI_n (by decide), mI_n (by decide), mI_n (by decide), mI_n (by decide), mI_s, mB6 _ (by decide)]
    have D64 : mD.1 64 = upd (m.1 64) n 0 := by rw [DC _ (by decide), hmC, mI_n (by decide), mI_n (by decide), mI_n (by decide), mI_s, mB6 _ (by decide)]
    have D66 : mD.1 66 = upd (m.1 66) n (nI n) := by rw [DC _ (by decide), hmC, mI_n (by decide), mI_n (by decide), mI_s, mB6 _ (by decide)]
    have D65 : mD.1 65 = g' := by rw [DC _ (by decide), hmC, mI_n (by decide), mI_s]
    have g65 : ∀ i, i < 4 * n ∨ 4 * n + 4 ≤ i → g' i = m.1 65 i := fun i hi => by
      rw [g2' i (by omega), mI_n (by decide), mI_n (by decide), mI_n (by decide), mI_n (by decide), mB6 _ (by decide)]
    refine Rel_core H0 ⟨n + 1, ha, n + 1 + hz - ha, 0, nn, se, bo, ?_⟩ (fun k hk hk2 => ?_) (fun i hi => ?_) ?_
    · rw [M1, M61, D2, D3, D4, D12, D62, D63, D64, D65, D66, Dm 13 (by decide) (by omega), Dm 14 (by decide) (by omega), Dm 15 (by decide) (by omega), Dm 83 (by decide) (by omega), Dm 84 (by decide) (by omega), Dm 85 (by decide) (by omega)]
      refine ⟨⟨by omega, rfl, rfl⟩, ⟨by omega, by omega, rfl, rfl⟩, ⟨by omega, rfl, rfl⟩, ⟨by omega, rfl, rfl⟩, ⟨h5.1, h5.2.1, h5.2.2⟩, ⟨h6.1, h6.2.1, h6.2.2⟩, ⟨h7.1, h7.2.1, h7.2.2⟩, ⟨?_, fun d hd => ?_⟩, ⟨?_, fun d hd => ?_⟩, ⟨?_, fun d hd => ?_⟩, ⟨fun d p hd hp => ?_, fun i hi => ?_⟩, ⟨?_, fun k hk => ?_, fun d hd => ?_, fun k k' hk hk' he => ?_⟩, h13, h14, h15⟩
      · rw [show m.1 2 = m.1 62 from h8.1]
      · by_cases e : d = n
        · subst e; rw [upd_s]; exact ⟨x, hx, rfl⟩
        · rw [upd_n e]; exact h8.2 d hd
      · rw [show m.1 3 = m.1 63 from h9.1]
      · by_cases e : d = n
        · subst e; rw [upd_s]; exact ⟨y, hy, rfl⟩
        · rw [upd_n e]; exact h9.2 d hd
      · rw [show m.1 4 = m.1 64 from h10.1]
      · by_cases e : d = n
        · subst e; rw [upd_s]; exact ⟨0, by omega, rfl⟩
        · rw [upd_n e]; exact h10.2 d hd
      · by_cases e : d = n
        · rw [e, show 1 + 4 + n = 5 + n by omega, D5, g1 p (by omega) hp, g1' p (by omega) hp]
        · rw [Dm (1 + 4 + d) (by simp only [List.mem_cons, List.not_mem_nil, or_false]; omega) (by omega), g65 _ (by omega)]
          exact h11.1 d p hd hp
      · by_cases e : i < 4 * n ∨ 4 * n + 4 ≤ i
        · rw [g65 i e]; exact h11.2 i hi
        · obtain ⟨p, rfl⟩ : ∃ p, i = 4 * n + p := ⟨i - 4 * n, by omega⟩
          rw [g1' p (by omega) (by omega)]; exact ⟨5, by omega, rfl⟩
      · rw [show m.1 12 = m.1 66 from h12.1]
      · by_cases e : k = n
        · subst e; rw [upd_s]; exact ⟨k, by omega, rfl⟩
        · rw [upd_n e]
          obtain ⟨d, d1, d2⟩ := h12.2.1 k (by omega)
          exact ⟨d, by omega, d2⟩
      · by_cases e : d = n
        · subst e; exact ⟨d, by omega, by rw [upd_s]⟩
        · obtain ⟨k, d1, d2⟩ := h12.2.2.1 d (by omega)
          exact ⟨k, by omega, by rw [upd_n (by omega)]; exact d2⟩
      · by_cases e : k = n
        · subst e
          by_cases e' : k' = k
          · exact e'.symm
          · rw [upd_s, upd_n e'] at he
            obtain ⟨d, d1, d2⟩ := h12.2.1 k' (by omega)
            rw [d2, nI_eq (by omega) (by omega)] at he
            omega
        · by_cases e' : k' = n
          · subst e'
            rw [upd_s, upd_n e] at he
            obtain ⟨d, d1, d2⟩ := h12.2.1 k (by omega)
            rw [d2, nI_eq (by omega) (by omega)] at he
            omega
          · rw [upd_n e, upd_n e'] at he
            exact h12.2.2.2 k k' (by omega) (by omega) he
    · refine Dm k ?_ (by omega)
      simp only [List.mem_cons, List.not_mem_nil, or_false, not_or] at hk2 ⊢
      omega
    · simp only [List.mem_cons, List.not_mem_nil, or_false, not_or] at hi
      rw [M61, upd_n (by omega), upd_n (by omega), upd_n (by omega), upd_n (by omega)]
    · rw [hmD, hmC, hmB, hmA]; rfl
