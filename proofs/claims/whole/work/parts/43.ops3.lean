/-! THE SAME ANSWERS: see, book, row -/
theorem C_isDraw {m : MI} {a : Int32} : fC_isDrawNumber m a = some (if a < 0 ∨ 999999 < a then 0 else 1, m) := by
  unfold fC_isDrawNumber
  by_cases h : a < 0
  · simp [h]
  · obtain ⟨j, hj, rfl⟩ := nI_of h
    have e : (1000000 : Int32) ≤ nI j ↔ 999999 < nI j := by
      rw [show (1000000 : Int32) = nI 1000000 from rfl, show (999999 : Int32) = nI 999999 from rfl, nI_leI (by omega) hj, nI_ltI (by omega) hj]; omega
    by_cases h2 : (999999 : Int32) < nI j
    · simp [h, e, h2]
    · simp [h, e, h2]
theorem drawN {a : Int32} (h : ¬ (a < 0 ∨ 999999 < a)) : ∃ x, x < 1000000 ∧ a = nI x := by
  obtain ⟨h1, h2⟩ := not_or.mp h
  obtain ⟨x, hx, rfl⟩ := nI_of h1
  rw [show (999999 : Int32) = nI 999999 from rfl, nI_ltI (by omega) hx] at h2
  exact ⟨x, by omega, rfl⟩
theorem op_book {sh : Sh} {R : RR} {m : MI} (a : Int32) (H : Rel sh R m) : Ans sh R m (fun m => fC_book m a) (fun m => fM_book m a) := by
  have H0 := H
  obtain ⟨⟨n, s, l, q, nn, se, bo, h1, h2, h3, h4, h5, h6, h7, h8, h9, h10, h11, h12, h13, h14, h15⟩, -⟩ := H
  have e15 : m.1 15 = m.1 85 := h15.1
  by_cases a1 : a = -1
  · subst a1
    refine ⟨0, mI m 1 (upd (m.1 1) 13 0), mI (mI m 1 (upd (m.1 1) 13 0)) 61 (upd (m.1 61) 44 0), by simp [fC_book, lm], by simp [fM_book, lm, mI_n], ?_⟩
    refine Rel_core H0 ⟨n, s, l, q, nn, se, 0, h1, h2, h3, h4, h5, h6, ⟨by omega, rfl, rfl⟩, h8, h9, h10, ⟨fun d p hd hp => ?_, h11.2⟩, h12, h13, h14, h15⟩ (fun k hk hk2 => ?_) (fun j hj => ?_) rfl
    · rw [mI_n (by omega), mI_n (by omega), mI_n (by omega), mI_n (by omega)]; exact h11.1 d p hd hp
    · simp only [List.mem_cons, List.not_mem_nil, or_false, not_or] at hk2
      rw [mI_n (by omega), mI_n (by omega)]
    · simp only [List.mem_cons, List.not_mem_nil, or_false, not_or] at hj
      show upd (m.1 61) 44 0 j = _
      rw [upd_n (by omega)]
  by_cases hd : a < 0 ∨ 999999 < a
  · exact ⟨-2, m, m, by simp [fC_book, a1, C_isDraw, hd], by simp [fM_book, a1, M_isDraw, hd], H0⟩
  obtain ⟨x, hx, rfl⟩ := drawN hd
  by_cases hb : bo = 8
  · refine ⟨-4, m, m, ?_, ?_, H0⟩
    · have : ¬ nI bo < 8 := by rw [show (8 : Int32) = nI 8 from rfl, nI_ltI (by omega) (by omega)]; omega
      simp [fC_book, a1, C_isDraw, hd, h7.2.1, this]
    · have : nI bo = 8 := by rw [hb]; rfl
      simp [fM_book, a1, M_isDraw, hd, h7.2.2, this]
  · have l1 : nI bo < 8 := by rw [show (8 : Int32) = nI 8 from rfl, nI_ltI (by omega) (by omega)]; omega
    have l2 : ¬ nI bo = 8 := by rw [show (8 : Int32) = nI 8 from rfl, nI_eq (by omega) (by omega)]; exact hb
    refine ⟨nI (bo + 1), mI (mI m 15 (upd (m.1 15) bo (nI x))) 1 (upd (m.1 1) 13 (nI (bo + 1))), mI (mI (mI (mI m 15 (upd (m.1 15) bo (nI x))) 1 (upd (m.1 1) 13 (nI (bo + 1)))) 85 (upd (m.1 85) bo (nI x))) 61 (upd (m.1 61) 44 (nI (bo + 1))), ?_, ?_, ?_⟩
    · simp [fC_book, a1, C_isDraw, hd, h7.2.1, l1, lm, ck_nI (show bo < 8 by omega), cl_nI (show bo < 100000 by omega), mI_n, mI_s, nI_1, upd_s]
    · simp [fM_book, a1, M_isDraw, hd, h7.2.2, l2, lm, ck_nI (show bo < 8 by omega), cl_nI (show bo < 100000 by omega), mI_n, mI_s, nI_1, upd_s]
    · refine Rel_core H0 ⟨n, s, l, q, nn, se, bo + 1, h1, h2, h3, h4, h5, h6, ⟨by omega, rfl, rfl⟩, h8, h9, h10, ⟨fun d p hd hp => ?_, h11.2⟩, h12, h13, h14, ⟨?_, fun i hi => ?_⟩⟩ (fun k hk hk2 => ?_) (fun j hj => ?_) rfl
      · rw [mI_n (by omega), mI_n (by omega), mI_n (by omega), mI_n (by omega), mI_n (by omega), mI_n (by omega), mI_n (by omega), mI_n (by omega)]; exact h11.1 d p hd hp
      · show upd (m.1 15) bo (nI x) = upd (m.1 85) bo (nI x)
        rw [e15]
      · show ∃ x', x' < 1000000 ∧ upd (m.1 85) bo (nI x) i = nI x'
        by_cases e : i = bo
        · subst e; rw [upd_s]; exact ⟨x, hx, rfl⟩
        · rw [upd_n e]; exact h15.2 i hi
      · simp only [List.mem_cons, List.not_mem_nil, or_false, not_or] at hk2
        rw [mI_n (by omega), mI_n (by omega), mI_n (by omega), mI_n (by omega)]
      · simp only [List.mem_cons, List.not_mem_nil, or_false, not_or] at hj
        show upd (m.1 61) 44 _ j = _
        rw [upd_n (by omega)]
theorem vpz0 : vp_nar .boolean 0 = 0 := rfl
theorem vpz1 : vp_nar .boolean 1 = 1 := rfl
theorem op_see {sh : Sh} {R : RR} {m : MI} (a b : Int32) (hb01 : b = 0 ∨ b = 1) (H : Rel sh R m) : Ans sh R m (fun m => fC_see m a b) (fun m => fM_see m a b) := by
  have H0 := H
  obtain ⟨⟨n, s, l, q, nn, se, bo, h1, h2, h3, h4, h5, h6, h7, h8, h9, h10, h11, h12, h13, h14, h15⟩, -⟩ := H
  have e13 : m.1 13 = m.1 83 := h13.1
  have e14 : m.1 14 = m.1 84 := h14.1
  by_cases a1 : a = -1
  · subst a1
    refine ⟨0, mI m 1 (upd (m.1 1) 10 0), mI (mI m 1 (upd (m.1 1) 10 0)) 61 (upd (m.1 61) 41 0), by simp [fC_see, lm], by simp [fM_see, lm, mI_n], ?_⟩
    refine Rel_core H0 ⟨n, s, l, q, nn, 0, bo, h1, h2, h3, h4, h5, ⟨by omega, rfl, rfl⟩, h7, h8, h9, h10, ⟨fun d p hd hp => ?_, h11.2⟩, h12, h13, h14, h15⟩ (fun k hk hk2 => ?_) (fun j hj => ?_) rfl
    · rw [mI_n (by omega), mI_n (by omega), mI_n (by omega), mI_n (by omega)]; exact h11.1 d p hd hp
    · simp only [List.mem_cons, List.not_mem_nil, or_false, not_or] at hk2
      rw [mI_n (by omega), mI_n (by omega)]
    · simp only [List.mem_cons, List.not_mem_nil, or_false, not_or] at hj
      show upd (m.1 61) 41 0 j = _
      rw [upd_n (by omega)]
  by_cases hd : a < 0 ∨ 999999 < a
  · exact ⟨-2, m, m, by simp [fC_see, a1, C_isDraw, hd], by simp [fM_see, a1, M_isDraw, hd], H0⟩
  obtain ⟨x, hx, rfl⟩ := drawN hd
  by_cases hb : se = 6
  · refine ⟨-4, m, m, ?_, ?_, H0⟩
    · have : ¬ nI se < 6 := by rw [show (6 : Int32) = nI 6 from rfl, nI_ltI (by omega) (by omega)]; omega
      simp [fC_see, a1, C_isDraw, hd, h6.2.1, this]
    · have : nI se = 6 := by rw [hb]; rfl
      simp [fM_see, a1, M_isDraw, hd, h6.2.2, this]
  · have l1 : nI se < 6 := by rw [show (6 : Int32) = nI 6 from rfl, nI_ltI (by omega) (by omega)]; omega
    have l2 : ¬ nI se = 6 := by rw [show (6 : Int32) = nI 6 from rfl, nI_eq (by omega) (by omega)]; exact hb
    refine ⟨nI (se + 1), mI (mI (mI m 13 (upd (m.1 13) se (nI x))) 14 (upd (m.1 14) se b)) 1 (upd (m.1 1) 10 (nI (se + 1))), mI (mI (mI (mI (mI (mI m 13 (upd (m.1 13) se (nI x))) 14 (upd (m.1 14) se b)) 1 (upd (m.1 1) 10 (nI (se + 1)))) 83 (upd (m.1 83) se (nI x))) 84 (upd (m.1 84) se b)) 61 (upd (m.1 61) 41 (nI (se + 1))), ?_, ?_, ?_⟩
    · rcases hb01 with rfl | rfl <;> simp [fC_see, a1, C_isDraw, hd, h6.2.1, l1, lm, ck_nI (show se < 6 by omega), cl_nI (show se < 100000 by omega), mI_n, mI_s, nI_1, upd_s]
    · rcases hb01 with rfl | rfl <;> simp [fM_see, a1, M_isDraw, hd, h6.2.2, l2, lm, ck_nI (show se < 6 by omega), cl_nI (show se < 100000 by omega), mI_n, mI_s, nI_1, upd_s, vpz0, vpz1]
    · refine Rel_core H0 ⟨n, s, l, q, nn, se + 1, bo, h1, h2, h3, h4, h5, ⟨by omega, rfl, rfl⟩, h7, h8, h9, h10, ⟨fun d p hd hp => ?_, h11.2⟩, h12, ⟨?_, fun i hi => ?_⟩, ⟨?_, fun i hi => ?_⟩, h15⟩ (fun k hk hk2 => ?_) (fun j hj => ?_) rfl
      · rw [mI_n (by omega), mI_n (by omega), mI_n (by omega), mI_n (by omega), mI_n (by omega), mI_n (by omega), mI_n (by omega), mI_n (by omega), mI_n (by omega), mI_n (by omega), mI_n (by omega), mI_n (by omega)]; exact h11.1 d p hd hp
      · show upd (m.1 13) se (nI x) = upd (m.1 83) se (nI x)
        rw [e13]
      · show ∃ x', x' < 1000000 ∧ upd (m.1 83) se (nI x) i = nI x'
        by_cases e : i = se
        · subst e; rw [upd_s]; exact ⟨x, hx, rfl⟩
        · rw [upd_n e]; exact h13.2 i hi
      · show upd (m.1 14) se b = upd (m.1 84) se b
        rw [e14]
      · show upd (m.1 84) se b i = 0 ∨ upd (m.1 84) se b i = 1
        by_cases e : i = se
        · subst e; rw [upd_s]; exact hb01
        · rw [upd_n e]; exact h14.2 i hi
      · simp only [List.mem_cons, List.not_mem_nil, or_false, not_or] at hk2
        rw [mI_n (by omega), mI_n (by omega), mI_n (by omega), mI_n (by omega), mI_n (by omega), mI_n (by omega)]
      · simp only [List.mem_cons, List.not_mem_nil, or_false, not_or] at hj
        show upd (m.1 61) 41 _ j = _
        rw [upd_n (by omega)]
