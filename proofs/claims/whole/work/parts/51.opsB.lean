theorem Rel_acts {sh : Sh} {R : RR} {m m' : MI} (H : Rel sh R m) (ha : ActsR m') (h : ∀ k, k ∉ [46, 47, 61, 94] → m'.1 k = m.1 k) (h61 : ∀ j, j ≠ 63 → m'.1 61 j = m.1 61 j) (hJ : m'.2 = m.2) : Rel sh R m' := by
  obtain ⟨c1, c2, c3, c4, c5, c6⟩ := H
  refine ⟨Core_congr (fun j hj => by rw [h 1 (by decide)]) (fun j hj => h61 j ?_) (fun k hk => h k ?_) c1, Tapes_congr (fun k hk => h k ?_) (fun k hk => by rw [hJ]) c2, ha, TextR_congr (by rw [h 43 (by decide)]) (h61 _ (by decide)) (h _ (by decide)) (h _ (by decide)) c4, Fixd_congr (h _ (by decide)) (h _ (by decide)) (h61 _ (by decide)) (h _ (by decide)) c5,
    Huts_congr (fun k hk => h k ?_) (fun k hk => h k ?_) (by rw [h 0 (by decide)]) (h61 _ (by decide)) (h61 _ (by decide)) (by rw [h 0 (by decide)]) (h61 _ (by decide)) (h61 _ (by decide)) (fun c => Core_congr (fun j hj => by rw [h 19 (by decide)]) (fun j hj => h61 j ?_) (fun k hk => h k ?_) c) c6⟩
  all_goals (simp only [List.mem_cons, List.not_mem_nil, or_false] at *; omega)
theorem act_both {m m' : MI} {j x k : Nat} {v b : Int32} (hj : j < 6) (hx : x < 7) (hk : k < 3) (h2 : m.1 46 2 = nI j) (h3 : m.1 46 3 = nI x) (h4 : m.1 46 4 = v) (h62 : m'.1 62 j = nI x) (h63 : m'.1 63 j = v) : ∃ (r : Int32) (l : List Int32), l.length ≤ 20 ∧ fA_runN 10 (stC m []) (nI x) (nI k) b (nI 0) = some (r, stC m l) ∧ ((k = 0 → fM_drawsAct (stM m' []) (nI j) b = some (r, stM m' l)) ∧ (k = 1 → fM_showsAct (stM m' []) (nI j) b = some (r, stM m' l)) ∧ (k = 2 → fM_tellsAct (stM m' []) (nI j) b = some (r, stM m' l))) := by
  have h7 : x = 0 ∨ x = 1 ∨ x = 2 ∨ x = 3 ∨ x = 4 ∨ x = 5 ∨ x = 6 := by omega
  have h3' : k = 0 ∨ k = 1 ∨ k = 2 := by omega
  have ckj : ck (nI j) 6 = true := ck_nI hj (by omega)
  have clj := cl_nI (show j < 100000 by omega)
  rcases h7 with rfl | rfl | rfl | rfl | rfl | rfl | rfl <;> rcases h3' with rfl | rfl | rfl
  · exact ⟨_, _, by decide, cact_0_0 h2 h3 h4, ⟨fun _ => mact_0_0 ckj clj h62 h63, fun e => absurd e (by decide), fun e => absurd e (by decide)⟩⟩
  · exact ⟨_, _, by decide, cact_0_1 h2 h3 h4, ⟨fun e => absurd e (by decide), fun _ => mact_0_1 ckj clj h62 h63, fun e => absurd e (by decide)⟩⟩
  · exact ⟨_, _, by decide, cact_0_2 h2 h3 h4, ⟨fun e => absurd e (by decide), fun e => absurd e (by decide), fun _ => mact_0_2 ckj clj h62 h63⟩⟩
  · exact ⟨_, _, by decide, cact_1_0 h2 h3 h4, ⟨fun _ => mact_1_0 ckj clj h62 h63, fun e => absurd e (by decide), fun e => absurd e (by decide)⟩⟩
  · exact ⟨_, _, by decide, cact_1_1 h2 h3 h4, ⟨fun e => absurd e (by decide), fun _ => mact_1_1 ckj clj h62 h63, fun e => absurd e (by decide)⟩⟩
  · exact ⟨_, _, by decide, cact_1_2 h2 h3 h4, ⟨fun e => absurd e (by decide), fun e => absurd e (by decide), fun _ => mact_1_2 ckj clj h62 h63⟩⟩
  · exact ⟨_, _, by decide, cact_2_0 h2 h3 h4, ⟨fun _ => mact_2_0 ckj clj h62 h63, fun e => absurd e (by decide), fun e => absurd e (by decide)⟩⟩
  · exact ⟨_, _, by decide, cact_2_1 h2 h3 h4, ⟨fun e => absurd e (by decide), fun _ => mact_2_1 ckj clj h62 h63, fun e => absurd e (by decide)⟩⟩
  · exact ⟨_, _, by decide, cact_2_2 h2 h3 h4, ⟨fun e => absurd e (by decide), fun e => absurd e (by decide), fun _ => mact_2_2 ckj clj h62 h63⟩⟩
  · exact ⟨_, _, by decide, cact_3_0 h2 h3 h4, ⟨fun _ => mact_3_0 ckj clj h62 h63, fun e => absurd e (by decide), fun e => absurd e (by decide)⟩⟩
  · exact ⟨_, _, by decide, cact_3_1 h2 h3 h4, ⟨fun e => absurd e (by decide), fun _ => mact_3_1 ckj clj h62 h63, fun e => absurd e (by decide)⟩⟩
  · exact ⟨_, _, by decide, cact_3_2 h2 h3 h4, ⟨fun e => absurd e (by decide), fun e => absurd e (by decide), fun _ => mact_3_2 ckj clj h62 h63⟩⟩
  · exact ⟨_, _, by decide, cact_4_0 h2 h3 h4, ⟨fun _ => mact_4_0 ckj clj h62 h63, fun e => absurd e (by decide), fun e => absurd e (by decide)⟩⟩
  · exact ⟨_, _, by decide, cact_4_1 h2 h3 h4, ⟨fun e => absurd e (by decide), fun _ => mact_4_1 ckj clj h62 h63, fun e => absurd e (by decide)⟩⟩
  · exact ⟨_, _, by decide, cact_4_2 h2 h3 h4, ⟨fun e => absurd e (by decide), fun e => absurd e (by decide), fun _ => mact_4_2 ckj clj h62 h63⟩⟩
  · exact ⟨_, _, by decide, cact_5_0 h2 h3 h4, ⟨fun _ => mact_5_0 ckj clj h62 h63, fun e => absurd e (by decide), fun e => absurd e (by decide)⟩⟩
  · exact ⟨_, _, by decide, cact_5_1 h2 h3 h4, ⟨fun e => absurd e (by decide), fun _ => mact_5_1 ckj clj h62 h63, fun e => absurd e (by decide)⟩⟩
  · exact ⟨_, _, by decide, cact_5_2 h2 h3 h4, ⟨fun e => absurd e (by decide), fun e => absurd e (by decide), fun _ => mact_5_2 ckj clj h62 h63⟩⟩
  · exact ⟨_, _, by decide, cact_6_0 h2 h3 h4, ⟨fun _ => mact_6_0 ckj clj h62 h63, fun e => absurd e (by decide), fun e => absurd e (by decide)⟩⟩
  · exact ⟨_, _, by decide, cact_6_1 h2 h3 h4, ⟨fun e => absurd e (by decide), fun _ => mact_6_1 ckj clj h62 h63, fun e => absurd e (by decide)⟩⟩
  · exact ⟨_, _, by decide, cact_6_2 h2 h3 h4, ⟨fun e => absurd e (by decide), fun e => absurd e (by decide), fun _ => mact_6_2 ckj clj h62 h63⟩⟩
theorem op_act {sh : Sh} {R : RR} {m : MI} (a b c : Int32) (H : Rel sh R m) : Ans sh R m (fun m => fC_act m a b c) (fun m => fM_act m a b c) := by
  have H0 := H
  obtain ⟨⟨n, s, l, q, nn, se, bo, h1, h2, h3, h4, h5, h6, h7, h8, h9, -⟩, -, hA, -⟩ := H
  have one : ¬ (1 : Int32) = 0 := by decide
  have rel0 : Rel sh R (mI (mI m 46 (upd (m.1 46) 0 0)) 61 (upd (m.1 61) 63 0)) := by
    refine Rel_acts H0 ⟨⟨0, by omega, rfl, rfl⟩, hA.2⟩ (fun k hk => ?_) (fun j hj => ?_) rfl
    · simp only [List.mem_cons, List.not_mem_nil, or_false, not_or] at hk
      rw [mI_n (by omega), mI_n (by omega)]
    · rw [mI_s, upd_n hj]
  have e61 : (mI m 46 (upd (m.1 46) 0 0)).1 61 = m.1 61 := mI_n (by decide)
  have eD : (mI (mI m 46 (upd (m.1 46) 0 0)) 61 (upd (m.1 61) 63 0)).1 61 0 = nI n := h1.2.2
  have eN : (mI m 46 (upd (m.1 46) 0 0)).1 1 0 = nI n := by rw [mI_n (by decide)]; exact h1.2.1
  rcases dcase (n := n) (by omega) a with hd | ⟨j, hj, rfl, hd⟩
  · refine ⟨0, mI m 46 (upd (m.1 46) 0 0), _, ?_, ?_, rel0⟩
    · show fC_act m a b c = _
      unfold fC_act
      simp only [lm, W_has0 eN hd, Option.bind_some, if_true]
    · show fM_act _ a b c = _
      unfold fM_act
      simp only [lm, e61, M_isD0 (show n ≤ 1000 by omega) eD hd, Option.bind_some, if_true]
  by_cases hb : b < 0 ∨ 2 < b
  · refine ⟨0, mI m 46 (upd (m.1 46) 0 0), _, ?_, ?_, rel0⟩
    · show fC_act m (nI j) b c = _
      unfold fC_act
      simp only [lm, W_has1 eN hd, Option.bind_some, if_neg one]
      by_cases b0 : b < 0
      · rw [if_pos b0]
      · have h2b := hb.resolve_left b0
        obtain ⟨z, hz, rfl⟩ := nI_of b0
        rw [show (2 : Int32) = nI 2 from rfl, nI_ltI (by omega) hz] at h2b
        rw [if_neg b0, if_neg (show ¬ nI z < 3 from nI_nlt (b := 3) (by omega) hz)]
    · show fM_act _ (nI j) b c = _
      unfold fM_act
      simp only [lm, e61, M_isD1 (show n ≤ 1000 by omega) eD hd, Option.bind_some, if_neg one, M_in0 hb, if_true]
  obtain ⟨k, -, hk, rfl⟩ := in_rng (lo := 0) (hi := 2) (by omega) (by omega) hb
  obtain ⟨x, hx, ex⟩ := h8.2 j (by omega)
  have e2 : m.1 2 j = nI x := by rw [show m.1 2 = m.1 62 from h8.1]; exact ex
  have e3 : m.1 3 j = m.1 63 j := by rw [show m.1 3 = m.1 63 from h9.1]
  have ckj : ck (nI j) 6 = true := ck_nI (by omega) (by omega)
  have clj := cl_nI (show j < 100000 by omega)
  obtain ⟨mb, hmb⟩ : ∃ mb, mb = mI m 46 (upd (upd (upd (upd (upd (m.1 46) 0 0) 2 (nI j)) 3 (nI x)) 4 (m.1 63 j)) 0 0) := ⟨_, rfl⟩
  have b46 : mb.1 46 = upd (upd (upd (upd (upd (m.1 46) 0 0) 2 (nI j)) 3 (nI x)) 4 (m.1 63 j)) 0 0 := by rw [hmb, mI_s]
  have bo : ∀ k, k ≠ 46 → mb.1 k = m.1 k := fun k hk => by rw [hmb, mI_n hk]
  have m61 : ∀ (L : List Int32), (stC mb L).1 61 = m.1 61 := fun L => by unfold stC; rw [mI_n (by decide), mI_n (by decide), bo _ (by decide)]
  have mo : ∀ (L : List Int32) (k : Nat), k ≠ 46 → k ≠ 47 → (stC mb L).1 k = m.1 k := fun L k a b => by unfold stC; rw [mI_n a, mI_n b, bo _ a]
  have key := fun L : List Int32 => act_both (m := mb) (m' := mI (stC mb L) 61 (upd (m.1 61) 63 0)) (j := j) (x := x) (k := k) (v := m.1 63 j) (b := c) (by omega) (by omega) (by omega) (by rw [b46]; rfl) (by rw [b46]; rfl) (by rw [b46]; rfl) (by rw [mI_n (by decide), mo _ _ (by decide) (by decide)]; exact ex) (by rw [mI_n (by decide), mo _ _ (by decide) (by decide)])
  obtain ⟨r, L, hL, kC, -⟩ := key []
  obtain ⟨r2, L2, hL2, kC2, kM⟩ := key L
  rw [kC] at kC2
  obtain ⟨rfl, hLL⟩ := Prod.mk.inj (Option.some.inj kC2)
  have hs0 : stM (mI (stC mb L) 61 (upd (m.1 61) 63 0)) [] = mI (stC mb L) 61 (upd (m.1 61) 63 0) := stM_0 (h := by rw [mI_s, upd_s])
  have hc0 : stC mb [] = mb := stC_0 (h := by rw [b46, upd_s])
  rw [hs0] at kM
  rw [hc0] at kC
  refine ⟨r, stC mb L, stM (mI (stC mb L) 61 (upd (m.1 61) 63 0)) L2, ?_, ?_, ?_⟩
  · show fC_act m (nI j) (nI k) c = _
    unfold fC_act
    simp only [lm, W_has1 eN hd, Option.bind_some, if_neg one, if_neg (nI_pos (show k < 2 ^ 31 by omega)), if_pos (show nI k < 3 from nI_lt (b := 3) (by omega) (by omega)), ckj, clj, if_true, mI_n (show (2 : Nat) ≠ 46 by decide), mI_n (show (3 : Nat) ≠ 46 by decide), e2, e3]
    unfold fA_begin
    simp only [lm, mI_s, mI_mI, upd_n (show (3 : Nat) ≠ 0 by decide), upd_n (show (3 : Nat) ≠ 4 by decide), upd_s, ← hmb]
    rw [show mb.1 46 3 = nI x by rw [b46]; rfl, show (0 : Int32) = nI 0 from rfl, kC]
    rfl
  · show fM_act _ (nI j) (nI k) c = _
    unfold fM_act
    have eD2 : (mI (stC mb L) 61 (upd (m.1 61) 63 0)).1 61 0 = nI n := h1.2.2
    simp only [lm, m61, M_isD1 (show n ≤ 1000 by omega) eD2 hd, Option.bind_some, if_neg one, M_in1 hb]
    have c0 : nI k = 0 ↔ k = 0 := nI_eq (b := 0) (by omega) (by omega)
    have c1 : nI k = 1 ↔ k = 1 := nI_eq (b := 1) (by omega) (by omega)
    by_cases k0 : k = 0
    · rw [if_pos (c0.mpr k0), kM.1 k0]; rfl
    · rw [if_neg (fun e => k0 (c0.mp e))]
      by_cases k1 : k = 1
      · rw [if_pos (c1.mpr k1), kM.2.1 k1]; rfl
      · rw [if_neg (fun e => k1 (c1.mp e)), kM.2.2 (by omega)]; rfl
  · have hlen : L.length = L2.length := by
      have := congrArg (fun z : MI => z.1 46 0) hLL
      simp only [stC, mI_s, upd_s] at this
      exact (nI_eq (by omega) (by omega)).mp this
    have hwr : wr (m.1 47) L = wr (m.1 47) L2 := by
      have := congrArg (fun z : MI => z.1 47) hLL
      simp only [stC, mI_n (show (47 : Nat) ≠ 46 by decide), mI_s, bo 47 (by decide)] at this
      exact this
    refine Rel_acts H0 ⟨⟨L2.length, by omega, ?_, ?_⟩, fun i hi => ?_⟩ (fun k' hk' => ?_) (fun i hi => ?_) ?_
    · unfold stM stC
      rw [mI_n (by decide), mI_n (by decide), mI_n (by decide), mI_s, upd_s, hlen]
    · unfold stM
      rw [mI_s, upd_s]
    · have a1 : (stM (mI (stC mb L) 61 (upd (m.1 61) 63 0)) L2).1 47 = wr (m.1 47) L2 := by
        rw [stM_x (by decide) (by decide), mI_n (by decide), ← hwr]
        unfold stC
        rw [mI_n (by decide), mI_s, bo 47 (by decide)]
      have a2 : (stM (mI (stC mb L) 61 (upd (m.1 61) 63 0)) L2).1 94 = wr (m.1 94) L2 := by
        unfold stM
        rw [mI_n (by decide), mI_s, mI_n (by decide), mo _ _ (by decide) (by decide)]
      rw [a1, a2]
      unfold wr
      rw [hA.2 i hi]
    · simp only [List.mem_cons, List.not_mem_nil, or_false, not_or] at hk'
      rw [stM_x (by omega) (by omega), mI_n (by omega), mo _ _ (by omega) (by omega)]
    · unfold stM
      rw [mI_s, upd_n hi, mI_s, upd_n hi]
    · show mb.2 = m.2
      rw [hmb]; rfl
