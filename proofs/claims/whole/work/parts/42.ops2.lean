/-! THE SAME ANSWERS: feed, told, see, book, row -/
theorem i0 : (0 : Int32) = nI 0 := rfl
theorem toI {j : Nat} (h : j < 2 ^ 31) {k : Nat} (hk : k < 2 ^ 31) : nI j = nI k ↔ j = k := nI_eq h hk
theorem Rel_text {sh : Sh} {R : RR} {m m' : MI} (H : Rel sh R m) (ht : TextR m') (h : ∀ k, k ∉ [43, 44, 61, 67] → m'.1 k = m.1 k) (h61 : ∀ j, j ≠ 12 → m'.1 61 j = m.1 61 j) (hJ : m'.2 = m.2) : Rel sh R m' := by
  obtain ⟨c1, c2, c3, c4, c5, c6⟩ := H
  refine ⟨Core_congr (fun j hj => by rw [h 1 (by decide)]) (fun j hj => h61 j ?_) (fun k hk => h k ?_) c1, Tapes_congr (fun k hk => h k ?_) (fun k hk => by rw [hJ]) c2, ActsR_congr (by rw [h 46 (by decide)]) (h61 _ (by decide)) (h _ (by decide)) (h _ (by decide)) c3, ht, Fixd_congr (h _ (by decide)) (h _ (by decide)) (h61 _ (by decide)) (h _ (by decide)) c5,
    Huts_congr (fun k hk => h k ?_) (fun k hk => h k ?_) (by rw [h 0 (by decide)]) (h61 _ (by decide)) (h61 _ (by decide)) (by rw [h 0 (by decide)]) (h61 _ (by decide)) (h61 _ (by decide)) (fun c => Core_congr (fun j hj => by rw [h 19 (by decide)]) (fun j hj => h61 j ?_) (fun k hk => h k ?_) c) c6⟩
  all_goals (simp only [List.mem_cons, List.not_mem_nil, or_false] at *; omega)
theorem op_feed {sh : Sh} {R : RR} {m : MI} (a : Int32) (H : Rel sh R m) : Ans sh R m (fun m => fC_feed m a) (fun m => fM_feed m a) := by
  have H0 := H
  obtain ⟨-, -, -, ⟨f, hf, hf1, hf2, hf3⟩, -⟩ := H
  by_cases hb : a < 0 ∨ 127 < a
  · refine ⟨-2, m, m, ?_, ?_, H0⟩
    · by_cases h0 : a < 0
      · simp [fC_feed, h0]
      · have : ¬ a ≤ 127 := Int32.not_le.mpr (hb.resolve_left h0)
        simp [fC_feed, h0, this]
    · simp [fM_feed, M_in0 hb]
  · obtain ⟨hb0, hb1⟩ := not_or.mp hb
    have hb2 : a ≤ 127 := Int32.not_lt.mp hb1
    obtain ⟨x, hx, rfl⟩ := nI_of hb0
    have hx2 : x ≤ 127 := by rw [show (127 : Int32) = nI 127 from rfl, nI_ltI (by omega) hx] at hb1; omega
    by_cases hl : f = 100
    · refine ⟨-4, m, m, ?_, ?_, H0⟩
      · have : ¬ nI f < 100 := by rw [show (100 : Int32) = nI 100 from rfl, nI_ltI (by omega) (by omega)]; omega
        simp [fC_feed, hb0, hb2, hf1, this]
      · have : nI f = 100 := by rw [hl]; rfl
        simp [fM_feed, M_in1 hb, hf2, this]
    · have l1 : nI f < 100 := by rw [show (100 : Int32) = nI 100 from rfl, nI_ltI (by omega) (by omega)]; omega
      have l2 : ¬ nI f = 100 := by rw [show (100 : Int32) = nI 100 from rfl, nI_eq (by omega) (by omega)]; exact hl
      refine ⟨nI (f + 1), mI (mI m 44 (upd (m.1 44) f (nI x))) 43 (upd (m.1 43) 0 (nI (f + 1))), mI (mI (mI (mI m 44 (upd (m.1 44) f (nI x))) 43 (upd (m.1 43) 0 (nI (f + 1)))) 67 (upd (m.1 67) f (nI x))) 61 (upd (m.1 61) 12 (nI (f + 1))), ?_, ?_, ?_⟩
      · simp [fC_feed, fP_add, hb0, hb2, hf1, l1, lm, ck_nI (show f < 101 by omega), cl_nI (show f < 100000 by omega), mI_n, mI_s, nI_1, upd_s]
      · simp [fM_feed, M_in1 hb, hf2, l2, lm, ck_nI (show f < 100 by omega), cl_nI (show f < 100000 by omega), mI_n, mI_s, nI_1, upd_s]
      · refine Rel_text H0 ⟨f + 1, by omega, rfl, rfl, fun i hi => ?_⟩ (fun k hk => ?_) (fun j hj => ?_) rfl
        · show upd (m.1 44) f (nI x) i = upd (m.1 67) f (nI x) i ∧ ∃ c, c ≤ 127 ∧ upd (m.1 67) f (nI x) i = nI c
          by_cases e : i = f
          · subst e; rw [upd_s, upd_s]; exact ⟨rfl, x, hx2, rfl⟩
          · rw [upd_n e, upd_n e]; exact hf3 i (by omega)
        · simp only [List.mem_cons, List.not_mem_nil, or_false, not_or] at hk
          rw [mI_n (by omega), mI_n (by omega), mI_n (by omega), mI_n (by omega)]
        · show upd (m.1 61) 12 (nI (f + 1)) j = _
          rw [upd_n hj]
theorem op_told {sh : Sh} {R : RR} {m : MI} (a : Int32) (H : Rel sh R m) : Ans sh R m (fun m => fC_told m a) (fun m => fM_told m a) := by
  have H0 := H
  obtain ⟨⟨n, s, l, q, nn, se, bo, h1, h2, h3, h4, h5, h6, h7, h8, h9, h10, h11, h12, -⟩, -⟩ := H
  have e12 : m.1 12 = m.1 66 := h12.1
  have small : ∀ x : Int32, x < 10 → fM_in m x 10 (9 + nI n) = some (0, m) := fun x hx => M_in0 (Or.inl hx)
  by_cases a0 : a = 0
  · subst a0; exact ⟨nI nn, m, m, by simp [fC_told, h5.2.1], by simp [fM_told, h1.2.2, small 0 (by decide), h5.2.2], H0⟩
  by_cases a1 : a = 1
  · subst a1; exact ⟨nI s, m, m, by simp [fC_told, h2.2.2.1], by simp [fM_told, h1.2.2, small 1 (by decide), h2.2.2.2], H0⟩
  by_cases a2 : a = 2
  · subst a2; exact ⟨nI l, m, m, by simp [fC_told, h3.2.1], by simp [fM_told, h1.2.2, small 2 (by decide), h3.2.2], H0⟩
  by_cases a3 : a = 3
  · subst a3; exact ⟨nI q, m, m, by simp [fC_told, h4.2.1], by simp [fM_told, h1.2.2, small 3 (by decide), h4.2.2], H0⟩
  by_cases a4 : a = 4
  · subst a4
    rcases h4.1 with hq | ⟨hn0, hq0⟩
    · refine ⟨m.1 66 q, m, m, ?_, ?_, H0⟩
      · have : ¬ nI n ≤ nI q := by rw [nI_leI (by omega) (by omega)]; omega
        simp [fC_told, fW_next, h1.2.1, h4.2.1, this, ck_nI (show q < 6 by omega), cl_nI (show q < 100000 by omega), e12]
      · have : ¬ nI n = 0 := by rw [show (0 : Int32) = nI 0 from rfl, nI_eq (by omega) (by omega)]; omega
        simp [fM_told, h1.2.2, small 4 (by decide), this, h4.2.2, ck_nI (show q < 6 by omega), cl_nI (show q < 100000 by omega)]
    · refine ⟨-5, m, m, ?_, ?_, H0⟩
      · subst hn0 hq0
        simp [fC_told, fW_next, h1.2.1, h4.2.1]
      · have e0 : m.1 61 0 = 0 := by rw [h1.2.2, hn0]; rfl
        have e1 : fM_in m 4 10 (9 + m.1 61 0) = some (0, m) := M_in0 (Or.inl (by decide))
        rw [e0] at e1
        simp only [fM_told, e0, e1]
        simp [e0]
  by_cases hk : 10 ≤ a
  · obtain ⟨A, hA, rfl⟩ := nI_of (x := a) (fun h => by
      have : (0 : Int32) ≤ 10 := by decide
      exact absurd (Int32.le_trans this hk) (Int32.not_le.mpr h))
    have hA10 : 10 ≤ A := by rwa [show (10 : Int32) = nI 10 from rfl, nI_leI (by omega) hA] at hk
    obtain ⟨j, rfl⟩ : ∃ j, A = 10 + j := ⟨A - 10, by omega⟩
    have e10 : nI (10 + j) - 10 = nI j := by
      rw [show (10 : Int32) = nI 10 from rfl, pk_sub (by omega)]; congr 1; omega
    by_cases hj : j < n
    · have hd : ¬ (nI j < 0 ∨ nI n ≤ nI j) := by
        rw [nI_leI (by omega) (by omega)]
        exact not_or.mpr ⟨nI_pos (by omega), by omega⟩
      have hin : ¬ (nI (10 + j) < 10 ∨ 9 + nI n < nI (10 + j)) := by
        rw [show (10 : Int32) = nI 10 from rfl, show (9 : Int32) = nI 9 from rfl, nI_add, nI_ltI (by omega) (by omega), nI_ltI (by omega) (by omega)]; omega
      refine ⟨m.1 66 j, m, m, ?_, ?_, H0⟩
      · simp [fC_told, a0, a1, a2, a3, a4, hk, lt, e10, W_has1 h1.2.1 hd, ck_nI (show j < 6 by omega), cl_nI (show j < 100000 by omega), e12]
      · simp [fM_told, h1.2.2, M_in1 hin, e10, ck_nI (show j < 6 by omega), cl_nI (show j < 100000 by omega)]
    · have hd : nI j < 0 ∨ nI n ≤ nI j := Or.inr (by rw [nI_leI (by omega) (by omega)]; omega)
      have hin : nI (10 + j) < 10 ∨ 9 + nI n < nI (10 + j) := Or.inr (by rw [show (9 : Int32) = nI 9 from rfl, nI_add, nI_ltI (by omega) (by omega)]; omega)
      refine ⟨-1, m, m, ?_, ?_, H0⟩
      · simp [fC_told, a0, a1, a2, a3, a4, hk, lt, e10, W_has0 h1.2.1 hd]
      · simp [fM_told, h1.2.2, M_in0 hin, a0, a1, a2, a3, a4]
  · refine ⟨-1, m, m, ?_, ?_, H0⟩
    · simp [fC_told, a0, a1, a2, a3, a4, hk, W_has0 (a := -1) h1.2.1 (Or.inl (by decide))]
    · simp [fM_told, h1.2.2, M_in0 (m := m) (b := 10) (c := 9 + nI n) (Or.inl (Int32.not_le.mp hk)), a0, a1, a2, a3, a4]
