/-! THE SAME ANSWERS, call by call: small ones -/
def Ans {ρ : Type} (sh : Sh) (R : RR) (m : MI) (fc fm : MI → Option (ρ × MI)) : Prop := ∃ v m1 m2, fc m = some (v, m1) ∧ fm m1 = some (v, m2) ∧ Rel sh R m2
theorem Ans_ro {ρ : Type} {sh : Sh} {R : RR} {m : MI} {fc fm : MI → Option (ρ × MI)} (H : Rel sh R m) (e : fc m = fm m) (h : ∃ v, fm m = some (v, m)) : Ans sh R m fc fm := by
  obtain ⟨v, hv⟩ := h
  exact ⟨v, m, m, e.trans hv, hv, H⟩
theorem M_in {m : MI} {a b c : Int32} : fM_in m a b c = some (if a < b ∨ c < a then 0 else 1, m) := by
  unfold fM_in
  by_cases h : a < b <;> by_cases h2 : c < a <;> simp [h, h2]
theorem M_isDrawer {m : MI} {a : Int32} : fM_isDrawer m a = some (if a < 0 ∨ m.1 61 0 - 1 < a then 0 else 1, m) := by
  unfold fM_isDrawer
  rw [M_in]
  by_cases h : a < 0 ∨ m.1 61 0 - 1 < a <;> simp [h, zb]
theorem M_isDraw {m : MI} {a : Int32} : fM_isDraw m a = some (if a < 0 ∨ 999999 < a then 0 else 1, m) := by
  unfold fM_isDraw
  rw [M_in]
  by_cases h : a < 0 ∨ 999999 < a <;> simp [h, zb]
theorem M_isTape {m : MI} {a : Int32} : fM_isTape m a = some (if a < 0 ∨ 5 < a then 0 else 1, m) := by
  unfold fM_isTape
  rw [M_in]
  by_cases h : a < 0 ∨ 5 < a <;> simp [h, zb]
theorem W_has {m : MI} {a : Int32} : fW_has m a = some (if a < 0 ∨ m.1 1 0 ≤ a then 0 else 1, m) := by
  unfold fW_has
  by_cases h : a < 0 <;> by_cases h2 : m.1 1 0 ≤ a <;> simp [h, h2]
theorem sub1_toInt {n : Nat} (hn : n ≤ 1000) : (nI n - 1).toInt = (n : Int) - 1 := by
  have := pk_sub_toInt (a := n) (b := 1) (by omega) (by omega)
  simpa [show nI 1 = 1 from rfl] using this
theorem lt_pred {n : Nat} (hn : n ≤ 1000) {x : Int32} : nI n - 1 < x ↔ nI n ≤ x := by
  rw [Int32.lt_iff_toInt_lt, Int32.le_iff_toInt_le, sub1_toInt hn, nI_toInt (by omega)]
  omega
/-- a number of a place below n, or none -/
theorem dcase {n : Nat} (hn : n ≤ 1000) (a : Int32) : (a < 0 ∨ nI n ≤ a) ∨ ∃ j, j < n ∧ a = nI j ∧ ¬ (a < 0 ∨ nI n ≤ a) := by
  by_cases h : a < 0 ∨ nI n ≤ a
  · exact Or.inl h
  · obtain ⟨h1, h2⟩ := not_or.mp h
    obtain ⟨j, hj, rfl⟩ := nI_of h1
    rw [nI_leI (by omega) hj] at h2
    exact Or.inr ⟨j, by omega, rfl, h⟩
theorem W_has0 {m : MI} {a : Int32} {n : Nat} (h : m.1 1 0 = nI n) (hd : a < 0 ∨ nI n ≤ a) : fW_has m a = some (0, m) := by rw [W_has, h, if_pos hd]
theorem W_has1 {m : MI} {a : Int32} {n : Nat} (h : m.1 1 0 = nI n) (hd : ¬ (a < 0 ∨ nI n ≤ a)) : fW_has m a = some (1, m) := by rw [W_has, h, if_neg hd]
theorem M_isD0 {m : MI} {a : Int32} {n : Nat} (hn : n ≤ 1000) (h : m.1 61 0 = nI n) (hd : a < 0 ∨ nI n ≤ a) : fM_isDrawer m a = some (0, m) := by
  rw [M_isDrawer, h]
  simp only [lt_pred hn]
  rw [if_pos hd]
theorem M_isD1 {m : MI} {a : Int32} {n : Nat} (hn : n ≤ 1000) (h : m.1 61 0 = nI n) (hd : ¬ (a < 0 ∨ nI n ≤ a)) : fM_isDrawer m a = some (1, m) := by
  rw [M_isDrawer, h]
  simp only [lt_pred hn]
  rw [if_neg hd]
theorem M_in0 {m : MI} {a b c : Int32} (h : a < b ∨ c < a) : fM_in m a b c = some (0, m) := by rw [M_in, if_pos h]
theorem M_in1 {m : MI} {a b c : Int32} (h : ¬ (a < b ∨ c < a)) : fM_in m a b c = some (1, m) := by rw [M_in, if_neg h]
theorem ck_nI {j N : Nat} (h : j < N) (hN : N ≤ 100000) : ck (nI j) N = true := by
  unfold ck
  rw [nI_clamp (by omega)]
  simp [nI_pos (n := j) (by omega), h]
theorem cl_nI {j : Nat} (h : j < 100000) : (nI j).toNatClampNeg = j := nI_clamp (by omega)
theorem upd_s {f : Nat → Int32} {k : Nat} {x : Int32} : upd f k x k = x := if_pos rfl
theorem upd_n {f : Nat → Int32} {k j : Nat} {x : Int32} (h : j ≠ k) : upd f k x j = f j := if_neg h
theorem op_count {sh : Sh} {R : RR} {m : MI} (a : Int32) (H : Rel sh R m) : Ans sh R m (fun m => fC_count m a) (fun m => fM_count m a) := by
  refine Ans_ro H ?_ ?_
  · obtain ⟨⟨n, s, l, q, nn, se, bo, h1, h2, h3, h4, h5, h6, h7, -⟩, -, ⟨⟨r, -, hr1, hr2⟩, -⟩, ⟨f, -, hf1, hf2, -⟩, -, ⟨ls, -, -, -, -, -, hu1, hu2, -⟩⟩ := H
    unfold fC_count fM_count
    rw [h1.2.1, h1.2.2, h6.2.1, h6.2.2, h7.2.1, h7.2.2, hr1, hr2, hf1, hf2, hu1, hu2]
  · skip
    unfold fM_count
    repeat' split
    all_goals exact ⟨_, rfl⟩
theorem op_trace {sh : Sh} {R : RR} {m : MI} (a : Int32) (H : Rel sh R m) : Ans sh R m (fun m => fC_trace m a) (fun m => fM_trace m a) := by
  refine Ans_ro H ?_ ?_
  · obtain ⟨-, -, ⟨⟨r, -, hr1, hr2⟩, hb⟩, -, -, -⟩ := H
    unfold fC_trace fM_trace
    simp only [M_in, Option.bind_some]
    rw [hr1, hr2]
    by_cases h : a < 0
    · simp [h]
    · obtain ⟨j, hj, rfl⟩ := nI_of h
      have e1 : (19 : Int32) < nI j ↔ ¬ nI j < 20 := by
        rw [show (19 : Int32) = nI 19 from rfl, show (20 : Int32) = nI 20 from rfl, nI_ltI (by omega) hj, nI_ltI hj (by omega)]; omega
      by_cases h2 : nI j < 20
      · have h3 : j < 20 := by rwa [show (20 : Int32) = nI 20 from rfl, nI_ltI hj (by omega)] at h2
        simp [h, h2, e1, ck_nI h3 (by omega), hr2, cl_nI (show j < 100000 by omega), hb j h3]
      · by_cases h4 : nI r ≤ nI j <;> simp [h, h2, e1, h4]
  · skip
    unfold fM_trace
    rw [M_in]
    by_cases h : a < 0 ∨ 19 < a
    · simp [h]
    · obtain ⟨h1, h2⟩ := not_or.mp h
      obtain ⟨j, hj, rfl⟩ := nI_of h1
      have h3 : j < 20 := by
        rw [show (19 : Int32) = nI 19 from rfl, nI_ltI (by omega) hj] at h2; omega
      simp [h, ck_nI h3 (by omega)]
      split <;> exact ⟨_, rfl⟩
/-- what a call changes lies in the winter that is and in what the reference holds of it -/
theorem Rel_core {sh : Sh} {R : RR} {m m' : MI} (H : Rel sh R m) (hc : Cor1 m') (h : ∀ k, ¬ (1 ≤ k ∧ k ≤ 15) → k ∉ [61, 62, 63, 64, 65, 66, 83, 84, 85] → m'.1 k = m.1 k) (h61 : ∀ j, j ∉ [0, 1, 2, 3, 4, 41, 44] → m'.1 61 j = m.1 61 j) (hJ : m'.2 = m.2) : Rel sh R m' := by
  obtain ⟨-, c2, c3, c4, c5, c6⟩ := H
  have r : ∀ {k : Nat}, ¬ (1 ≤ k ∧ k ≤ 15) ∧ k ∉ [61, 62, 63, 64, 65, 66, 83, 84, 85] → m'.1 k = m.1 k := fun q => h _ q.1 q.2
  refine ⟨hc, Tapes_congr (fun k hk => r ?_) (fun k hk => by rw [hJ]) c2, ActsR_congr (by rw [r (by decide)]) (h61 _ (by decide)) (r (by decide)) (r (by decide)) c3, TextR_congr (by rw [r (by decide)]) (h61 _ (by decide)) (r (by decide)) (r (by decide)) c4, Fixd_congr (r (by decide)) (r (by decide)) (h61 _ (by decide)) (r (by decide)) c5,
    Huts_congr (fun k hk => r ?_) (fun k hk => r ?_) (by rw [r (by decide)]) (h61 _ (by decide)) (h61 _ (by decide)) (by rw [r (by decide)]) (h61 _ (by decide)) (h61 _ (by decide)) (fun c => Core_congr (fun j hj => by rw [r (by decide)]) (fun j hj => ?_) (fun k hk => r ?_) c) c6⟩
  · simp only [List.mem_cons, List.not_mem_nil, or_false]; omega
  · simp only [List.mem_cons, List.not_mem_nil, or_false]; omega
  · simp only [List.mem_cons, List.not_mem_nil, or_false]; omega
  · simp only [List.mem_cons, List.not_mem_nil, or_false] at hj
    rcases hj with rfl | rfl | rfl | rfl | rfl | rfl | rfl <;> exact h61 _ (by decide)
  · simp only [List.mem_cons, List.not_mem_nil, or_false] at hk ⊢; omega
theorem mI_s {m : MI} {k : Nat} {g : Nat → Int32} : (mI m k g).1 k = g := ur_s
theorem mI_n {m : MI} {k k' : Nat} {g : Nat → Int32} (h : k' ≠ k) : (mI m k g).1 k' = m.1 k' := ur_n h
theorem mI_J {m : MI} {k : Nat} {g : Nat → Int32} : (mI m k g).2 = m.2 := rfl
theorem op_sent {sh : Sh} {R : RR} {m : MI} (a b : Int32) (H : Rel sh R m) : Ans sh R m (fun m => fC_sent m a b) (fun m => fM_sent m a b) := by
  have H0 := H
  obtain ⟨⟨n, s, l, q, nn, se, bo, h1, h2, h3, h4, h5, h6, h7, h8, h9, h10, h11, h12, h13, h14, h15⟩, -⟩ := H
  rcases dcase (n := n) (by omega) a with hd | ⟨j, hj, rfl, hd⟩
  · refine ⟨-1, m, m, ?_, ?_, H0⟩
    · simp [fC_sent, W_has0 h1.2.1 hd]
    · simp [fM_sent, M_isD0 (by omega) h1.2.2 hd]
  · by_cases hb : b < 0 ∨ 999 < b
    · refine ⟨-2, m, m, ?_, ?_, H0⟩
      · by_cases h0 : b < 0
        · simp [fC_sent, W_has1 h1.2.1 hd, h0]
        · have : ¬ b ≤ 999 := Int32.not_le.mpr (hb.resolve_left h0)
          simp [fC_sent, W_has1 h1.2.1 hd, h0, this]
      · simp [fM_sent, M_isD1 (by omega) h1.2.2 hd, M_in0 hb]
    · obtain ⟨hb0, hb1⟩ := not_or.mp hb
      obtain ⟨x, hx, rfl⟩ := nI_of hb0
      have hx2 : x ≤ 999 := by rw [show (999 : Int32) = nI 999 from rfl, nI_ltI (by omega) hx] at hb1; omega
      have hb2 : nI x ≤ 999 := Int32.not_lt.mp hb1
      refine ⟨m.1 64 j, mI m 4 (upd (m.1 4) j (nI x)), mI (mI m 4 (upd (m.1 4) j (nI x))) 64 (upd (m.1 64) j (nI x)), ?_, ?_, ?_⟩
      · simp [fC_sent, W_has1 h1.2.1 hd, hb0, hb2, ck_nI (show j < 6 by omega), cl_nI (show j < 100000 by omega), lt, lm, show m.1 4 = m.1 64 from h10.1]
      · have e1 : (mI m 4 (upd (m.1 4) j (nI x))).1 61 0 = nI n := by rw [mI_n (by decide)]; exact h1.2.2
        simp [fM_sent, M_isD1 (by omega) e1 hd, M_in1 hb, ck_nI (show j < 6 by omega), cl_nI (show j < 100000 by omega), lt, lm, mI_n]
      · refine Rel_core H0 ⟨n, s, l, q, nn, se, bo, h1, h2, h3, h4, h5, h6, h7, h8, h9, ⟨?_, fun d hd => ?_⟩, ⟨fun d p hd hp => ?_, h11.2⟩, h12, h13, h14, h15⟩ (fun k hk hk2 => ?_) (fun _ _ => rfl) rfl
        · show upd (m.1 4) j (nI x) = upd (m.1 64) j (nI x)
          rw [show m.1 4 = m.1 64 from h10.1]
        · by_cases e : d = j
          · subst e; exact ⟨x, hx2, by rw [mI_s, upd_s]⟩
          · rw [mI_s, upd_n e]; exact h10.2 d hd
        · rw [mI_n (by omega), mI_n (by omega), mI_n (by omega), mI_n (by omega)]
          exact h11.1 d p hd hp
        · simp only [List.mem_cons, List.not_mem_nil, or_false, not_or] at hk2
          rw [mI_n (by omega), mI_n (by omega)]
