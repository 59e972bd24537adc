/-! THE SAME ANSWERS: tape, item, read, shift, judge -/
theorem mJ_s {m : MI} {k : Nat} {g : Nat → Int64} : (mJ m k g).2 k = g := ur_s
theorem mJ_n {m : MI} {k k' : Nat} {g : Nat → Int64} (h : k' ≠ k) : (mJ m k g).2 k' = m.2 k' := ur_n h
theorem mJ_I {m : MI} {k : Nat} {g : Nat → Int64} : (mJ m k g).1 = m.1 := rfl
theorem mJ_mJ {m : MI} {k : Nat} {g g' : Nat → Int64} : mJ (mJ m k g) k g' = mJ m k g' := by
  refine Prod.ext rfl (funext fun k' => ?_)
  by_cases e : k' = k
  · subst e; rw [mJ_s, mJ_s]
  · rw [mJ_n e, mJ_n e, mJ_n e]
theorem updL_s {f : Nat → Int64} {k : Nat} {x : Int64} : vp_updL f k x k = x := if_pos rfl
theorem updL_n {f : Nat → Int64} {k j : Nat} {x : Int64} (h : j ≠ k) : vp_updL f k x j = f j := if_neg h
theorem sub_I {a b : Nat} (ha : a < 2 ^ 31) (hb : b < 2 ^ 31) : (nI a - nI b).toInt = (a : Int) - b := by
  rw [Int32.toInt_sub, nI_toInt ha, nI_toInt hb]
  exact Int.bmod_eq_of_le (by omega) (by omega)
theorem c6 {t : Nat} (h : t < 6) : t = 0 ∨ t = 1 ∨ t = 2 ∨ t = 3 ∨ t = 4 ∨ t = 5 := by omega
theorem tpR {R : RR} (hR : ∀ k j a : Nat, tbR k j = some a → R k j = some a) {t : Nat} (h : t < 6) : R 48 t = some (49 + 2 * t) ∧ R (49 + 2 * t) 2 = some (50 + 2 * t) := by
  rcases c6 h with rfl | rfl | rfl | rfl | rfl | rfl <;> exact ⟨hR _ _ _ rfl, hR _ _ _ rfl⟩
theorem tpS {sh : Sh} {R : RR} (hF : Fx sh R) {t : Nat} (h : t < 6) : sh[49 + 2 * t]? = some (14, 0) ∧ sh[50 + 2 * t]? = some (1, 60) := by
  rcases c6 h with rfl | rfl | rfl | rfl | rfl | rfl <;> exact ⟨hF.1 _ _ rfl, hF.1 _ _ rfl⟩
theorem tcase (a : Int32) : (a < 0 ∨ 5 < a) ∨ ∃ t, t < 6 ∧ a = nI t ∧ ¬ (a < 0 ∨ 5 < a) := by
  by_cases h : a < 0 ∨ 5 < a
  · exact Or.inl h
  · obtain ⟨t, -, h2, rfl⟩ := in_rng (lo := 0) (hi := 5) (by omega) (by omega) h
    exact Or.inr ⟨t, by omega, rfl, h⟩
theorem C_tapeAt0 {sh : Sh} {R : RR} {m : MI} {a : Int32} (h : a < 0 ∨ 5 < a) : fC_tapeAt sh R m a = some (none, m) := by
  unfold fC_tapeAt
  by_cases h0 : a < 0
  · rw [if_pos h0]
  · obtain ⟨j, hj, rfl⟩ := nI_of h0
    have h5 := h.resolve_left h0
    rw [show (5 : Int32) = nI 5 from rfl, nI_ltI (by omega) hj] at h5
    rw [if_neg h0, if_neg (by rw [show (6 : Int32) = nI 6 from rfl, nI_ltI hj (by omega)]; omega)]
theorem C_tapeAt1 {sh : Sh} {R : RR} {m : MI} {t : Nat} (hF : Fx sh R) (h : t < 6) : fC_tapeAt sh R m (nI t) = some (some (49 + 2 * t), m) := by
  unfold fC_tapeAt
  rw [if_neg (nI_pos (by omega)), if_pos (show nI t < 6 from nI_lt (b := 6) h (by omega)), if_pos (ck_nI h (by omega)), cl_nI (by omega), (tpR hF.2 h).1]
theorem M_isT0 {m : MI} {a : Int32} (h : a < 0 ∨ 5 < a) : fM_isTape m a = some (0, m) := by rw [M_isTape, if_pos h]
theorem M_isT1 {m : MI} {a : Int32} (h : ¬ (a < 0 ∨ 5 < a)) : fM_isTape m a = some (1, m) := by rw [M_isTape, if_neg h]
theorem T_has0 {sh : Sh} {R : RR} {m : MI} {t l : Nat} {b : Int32} (hs : sh[t]? = some (14, 0)) (hl : m.1 t 1 = nI l) (h : b < 0 ∨ nI l ≤ b) : fT_has sh R m t b = some (0, m) := by
  unfold fT_has
  by_cases h0 : b < 0
  · rw [if_pos h0]
  · rw [if_neg h0, if_pos hs, hl, if_pos (h.resolve_left h0)]
theorem T_has1 {sh : Sh} {R : RR} {m : MI} {t l : Nat} {b : Int32} (hs : sh[t]? = some (14, 0)) (hl : m.1 t 1 = nI l) (h : ¬ (b < 0 ∨ nI l ≤ b)) : fT_has sh R m t b = some (1, m) := by
  obtain ⟨h0, h1⟩ := not_or.mp h
  unfold fT_has
  rw [if_neg h0, if_pos hs, hl, if_neg h1]
theorem e60 (t j : Nat) : (60 : Int32) * nI t + nI j = nI (60 * t + j) := by rw [show (60 : Int32) = nI 60 from rfl, pk_mul, nI_add]
theorem Rel_tape {sh : Sh} {R : RR} {m m' : MI} (H : Rel sh R m) (ht : Tapes m') (h : ∀ k, ¬ (49 ≤ k ∧ k ≤ 60) → k ≠ 95 → k ≠ 96 → m'.1 k = m.1 k) : Rel sh R m' := by
  obtain ⟨c1, c2, c3, c4, c5, c6⟩ := H
  have r : ∀ {k}, (k < 49 ∨ 60 < k) ∧ k ≠ 95 ∧ k ≠ 96 → m'.1 k = m.1 k := fun q => h _ (by omega) q.2.1 q.2.2
  refine ⟨Core_congr (fun j hj => by rw [r (by decide)]) (fun j hj => by rw [r (by decide)]) (fun k hk => r ?_) c1, ht, ActsR_congr (by rw [r (by decide)]) (by rw [r (by decide)]) (r (by decide)) (r (by decide)) c3, TextR_congr (by rw [r (by decide)]) (by rw [r (by decide)]) (r (by decide)) (r (by decide)) c4, Fixd_congr (r (by decide)) (r (by decide)) (by rw [r (by decide)]) (r (by decide)) c5,
    Huts_congr (fun k hk => r ?_) (fun k hk => r ?_) (by rw [r (by decide)]) (by rw [r (by decide)]) (by rw [r (by decide)]) (by rw [r (by decide)]) (by rw [r (by decide)]) (by rw [r (by decide)]) (fun c => Core_congr (fun j hj => by rw [r (by decide)]) (fun j hj => by rw [r (by decide)]) (fun k hk => r ?_) c) c6⟩
  all_goals ((try simp only [List.mem_cons, List.not_mem_nil, or_false] at *); omega)
theorem tNeg {x : Int32} (h : x = -1) : x < 0 := by subst h; decide
theorem tPos {s : Nat} (hs : s ≤ 4) : ¬ nI s < 0 ∧ ¬ nI s = -1 ∧ (0 : Int32) ≤ nI s := by
  refine ⟨nI_pos (by omega), fun e => nI_pos (n := s) (by omega) (tNeg e), nI_pos' (by omega)⟩
theorem op_read {sh : Sh} {R : RR} {m : MI} (a b : Int32) (H : Rel sh R m) : Ans sh R m (fun m => fC_read sh R m a b) (fun m => fM_read m a b) := by
  have H0 := H
  have hF := Fx_of H.2.2.2.2.2
  obtain ⟨-, ht, -⟩ := H
  rcases tcase a with ha | ⟨t, h6, rfl, ha⟩
  · exact ⟨-9223372036854775808, m, m, by simp [fC_read, C_tapeAt0 ha, mn], by simp [fM_read, M_isT0 ha], H0⟩
  obtain ⟨l, hl, e0, hs, e1, e2, ev⟩ := ht t h6
  obtain ⟨s1, s2⟩ := tpS hF h6
  obtain ⟨r1, r2⟩ := tpR hF.2 h6
  rcases dcase (n := l) (by omega) b with hd | ⟨j, hj, rfl, hd⟩
  · refine ⟨-9223372036854775808, m, m, by simp [fC_read, C_tapeAt1 hF h6, mn, s1, T_has0 s1 e1 hd], ?_, H0⟩
    have : b < 0 ∨ nI l - 1 < b := by rwa [lt_pred (by omega)]
    by_cases hn : m.1 95 t < 0
    · simp [fM_read, M_isT1 ha, ck_nI h6 (show 6 ≤ 100000 by omega), cl_nI (show t < 100000 by omega), hn]
    · simp [fM_read, M_isT1 ha, ck_nI h6 (show 6 ≤ 100000 by omega), cl_nI (show t < 100000 by omega), hn, e2, M_in0 this]
  · have hs2 : ¬ m.1 95 t < 0 := by
      rcases hs with ⟨-, h⟩ | ⟨s, h, h'⟩
      · omega
      · rw [h']; exact (tPos h).1
    have : ¬ (nI j < 0 ∨ nI l - 1 < nI j) := by rwa [lt_pred (by omega)]
    refine ⟨m.2 97 (60 * t + j), m, m, ?_, ?_, H0⟩
    · simp [fC_read, C_tapeAt1 hF h6, mn, s1, T_has1 s1 e1 hd, r2, mq, kA_of s2, lenA_of s2, ck_nI (show j < 60 by omega), cl_nI (show j < 100000 by omega), ev j (by omega)]
    · simp [fM_read, M_isT1 ha, ck_nI h6 (show 6 ≤ 100000 by omega), cl_nI (show t < 100000 by omega), hs2, e2, M_in1 this, e60, ck_nI (show 60 * t + j < 360 by omega), cl_nI (show 60 * t + j < 100000 by omega)]
theorem narrow_cut {sh : Sh} {R : RR} {m : MI} {t s : Nat} (c : Int64) (h : s ≤ 4) : ∃ v : Int64, fM_narrow m (nI s) c = some (v, m) ∧ ∀ m' : MI, sh[t]? = some (14, 0) → m'.1 t 0 = nI s → fT_cut sh R m' t c = some (v, m') := by
  have h5 : s = 0 ∨ s = 1 ∨ s = 2 ∨ s = 3 ∨ s = 4 := by omega
  rcases h5 with rfl | rfl | rfl | rfl | rfl
  · exact ⟨_, rfl, fun m' h1 h2 => by unfold fT_cut; rw [if_pos h1, h2]; rfl⟩
  · exact ⟨_, rfl, fun m' h1 h2 => by unfold fT_cut; rw [if_pos h1, h2]; rfl⟩
  · exact ⟨_, rfl, fun m' h1 h2 => by unfold fT_cut; rw [if_pos h1, h2]; rfl⟩
  · exact ⟨_, rfl, fun m' h1 h2 => by unfold fT_cut; rw [if_pos h1, h2]; rfl⟩
  · by_cases c0 : lg_cmp c 0 = 0
    · exact ⟨0, by simp only [fM_narrow, if_pos c0]; rfl, fun m' h1 h2 => by unfold fT_cut; rw [if_pos h1, h2]; simp only [if_pos c0]; rfl⟩
    · exact ⟨1, by simp only [fM_narrow, if_neg c0]; rfl, fun m' h1 h2 => by unfold fT_cut; rw [if_pos h1, h2]; simp only [if_neg c0]; rfl⟩
theorem op_item {sh : Sh} {R : RR} {m : MI} (a b : Int32) (c : Int64) (H : Rel sh R m) : Ans sh R m (fun m => fC_item sh R m a b c) (fun m => fM_item m a b c) := by
  have H0 := H
  have hF := Fx_of H.2.2.2.2.2
  obtain ⟨-, ht, -⟩ := H
  rcases tcase a with ha | ⟨t, h6, rfl, ha⟩
  · exact ⟨-1, m, m, by simp [fC_item, C_tapeAt0 ha, mn], by simp [fM_item, M_isT0 ha], H0⟩
  have ht0 := ht
  obtain ⟨l, hl, e0, hs, e1, e2, ev⟩ := ht t h6
  obtain ⟨s1, s2⟩ := tpS hF h6
  obtain ⟨r1, r2⟩ := tpR hF.2 h6
  rcases hs with ⟨h1, -⟩ | ⟨s, h4, es⟩
  · refine ⟨-11, m, m, by simp [fC_item, C_tapeAt1 hF h6, mn, s1, e0, h1], ?_, H0⟩
    have : ¬ (0 : Int32) ≤ -1 := by decide
    simp [fM_item, M_isT1 ha, ck_nI h6 (show 6 ≤ 100000 by omega), cl_nI (show t < 100000 by omega), h1, this]
  obtain ⟨p1, p2, p3⟩ := tPos h4
  rcases dcase (n := l) (by omega) b with hd | ⟨j, hj, rfl, hd⟩
  · have : b < 0 ∨ nI l - 1 < b := by rwa [lt_pred (by omega)]
    refine ⟨-13, m, m, by simp [fC_item, C_tapeAt1 hF h6, mn, s1, T_has0 s1 e1 hd, e0, es, p2], ?_, H0⟩
    simp [fM_item, M_isT1 ha, ck_nI h6 (show 6 ≤ 100000 by omega), cl_nI (show t < 100000 by omega), es, p3, e2, M_in0 this]
  · have hin : ¬ (nI j < 0 ∨ nI l - 1 < nI j) := by rwa [lt_pred (by omega)]
    obtain ⟨v, v1, v2⟩ := narrow_cut (sh := sh) (R := R) (m := mJ m (50 + 2 * t) (vp_updL (m.2 (50 + 2 * t)) j (0 : Int64))) (t := 49 + 2 * t) c h4
    have hc := v2 m s1 (by rw [e0, es])
    obtain ⟨v', v1', v2'⟩ := narrow_cut (sh := sh) (R := R) (m := mJ m (50 + 2 * t) (vp_updL (m.2 (50 + 2 * t)) j v)) (t := 49 + 2 * t) c h4
    have hvv : v' = v := by
      have := v2' m s1 (by rw [e0, es])
      rw [hc] at this
      exact (Prod.mk.inj (Option.some.inj this)).1.symm
    subst hvv
    refine ⟨1, mJ m (50 + 2 * t) (vp_updL (m.2 (50 + 2 * t)) j v'), mJ (mJ m (50 + 2 * t) (vp_updL (m.2 (50 + 2 * t)) j v')) 97 (vp_updL (m.2 97) (60 * t + j) v'), ?_, ?_, ?_⟩
    · simp [fC_item, C_tapeAt1 hF h6, mn, s1, T_has1 s1 e1 hd, e0, es, p2, r2, mq, hc, kA_of s2, lenA_of s2, ck_nI (show j < 60 by omega), cl_nI (show j < 100000 by omega), lm]
    · simp [fM_item, M_isT1 ha, ck_nI h6 (show 6 ≤ 100000 by omega), cl_nI (show t < 100000 by omega), mJ_I, es, p3, e2, M_in1 hin, v1', e60, ck_nI (show 60 * t + j < 360 by omega), cl_nI (show 60 * t + j < 100000 by omega), lm, mJ_n (show (97 : Nat) ≠ 50 + 2 * t by omega)]
    · refine Rel_tape H0 (fun t' h6' => ?_) (fun k _ _ _ => rfl)
      obtain ⟨l', q1, q2, q3, q4, q5, q6⟩ := ht0 t' h6'
      refine ⟨l', q1, q2, q3, q4, q5, fun i hi => ?_⟩
      rw [mJ_s, mJ_n (by omega)]
      by_cases et : t' = t
      · subst et
        rw [mJ_s]
        by_cases ei : i = j
        · subst ei; rw [updL_s, updL_s]
        · rw [updL_n ei, updL_n (by omega)]; exact q6 i hi
      · rw [mJ_n (by omega), updL_n (by omega)]; exact q6 i hi
