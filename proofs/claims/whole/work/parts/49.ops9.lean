/-! THE SAME ANSWERS: judge, tape, shift -/
theorem judge_lock {sh : Sh} {R : RR} {m : MI} {n t l j : Nat} (hF : Fx sh R) (h6 : t < 6) (hn : n ≤ 6) (hC : m.1 1 0 = nI n) (hM : m.1 61 0 = nI n) (e4 : m.1 4 = m.1 64) (hl : l ≤ 60) (e1 : m.1 (49 + 2 * t) 1 = nI l) (e2 : m.1 96 t = nI l) (hp : ¬ m.1 95 t < 0) (hj : j < 60) (ev : ∀ i, i < 60 → m.2 (50 + 2 * t) i = m.2 97 (60 * t + i)) :
    ∀ (q k : Nat) (f1 f2 : Nat), k + q = n → q < f1 → q < f2 →
    ∃ v, fC_judge_l34 sh R (nI t) (nI j) (49 + 2 * t) (fun m7 _ => some (-5, m7)) f1 m (nI k) = some (v, m) ∧ fM_judge_l34 (nI t) (nI j) (fun m6 _ => some (-5, m6)) f2 m (nI k) = some (v, m) := by
  obtain ⟨s1, s2⟩ := tpS hF h6
  obtain ⟨r1, r2⟩ := tpR hF.2 h6
  intro q
  induction q with
  | zero =>
    intro k f1 f2 hk h1 h2
    obtain ⟨f1', rfl, -⟩ := fu h1
    obtain ⟨f2', rfl, -⟩ := fu h2
    rw [fC_judge_l34, fM_judge_l34, hC, hM, if_pos (nI_le (by omega) (by omega)), if_pos (nI_le (by omega) (by omega))]
    exact ⟨_, rfl, rfl⟩
  | succ q ih =>
    intro k f1 f2 hk h1 h2
    obtain ⟨f1', rfl, h1'⟩ := fu h1
    obtain ⟨f2', rfl, h2'⟩ := fu h2
    have ck6 : ck (nI t) 6 = true := ck_nI h6 (by omega)
    have hlen : nI j ≤ nI l - nI k - 1 ↔ j + k < l := by
      rw [Int32.le_iff_toInt_le, nI_toInt (by omega)]
      have e : (nI l - nI k - 1).toInt = (l : Int) - k - 1 := by
        rw [Int32.toInt_sub, sub_I (by omega) (by omega), show (1 : Int32).toInt = 1 from rfl]
        exact Int.bmod_eq_of_le (by omega) (by omega)
      rw [e]; omega
    rw [fC_judge_l34, fM_judge_l34, hC, hM, if_neg (not_le_nI (by omega) (by omega)), if_neg (not_le_nI (by omega) (by omega)), if_pos s1, if_pos ck6, cl_nI (show t < 100000 by omega), if_neg hp, if_neg (nI_pos (by omega)), if_pos ck6, e2, nI_add]
    by_cases hin : j + k < l
    · have hd : ¬ (nI (j + k) < 0 ∨ nI l ≤ nI (j + k)) := not_or.mpr ⟨nI_pos (by omega), not_le_nI hin (by omega)⟩
      have ej : (60 : Int32) * nI t + nI j + nI k = nI (60 * t + j + k) := by rw [e60, nI_add]
      rw [T_has1 s1 e1 hd, if_pos (hlen.mpr hin), ej, r2]
      simp only [Option.bind_some, mq, if_neg (show ¬ (1 : Int32) = 0 by decide), kA_of s2, lenA_of s2, ck_nI (show j + k < 60 by omega) (show 60 ≤ 100000 by omega), ck_nI (show k < 6 by omega) (show 6 ≤ 100000 by omega), ck_nI (show 60 * t + j + k < 360 by omega) (show 360 ≤ 100000 by omega), if_true, cl_nI (show j + k < 100000 by omega), cl_nI (show k < 100000 by omega), cl_nI (show 60 * t + j + k < 100000 by omega), ev (j + k) (by omega), e4, lt, nI_1, show 60 * t + (j + k) = 60 * t + j + k from by omega]
      by_cases c : lg_cmp (m.2 97 (60 * t + j + k)) (m.1 64 k).toInt64 = 0
      · rw [if_pos c, if_pos c]
        exact ih (k + 1) f1' f2' (by omega) (h1' q rfl) (h2' q rfl)
      · rw [if_neg c, if_neg c]
        exact ⟨_, rfl, rfl⟩
    · have hd : nI (j + k) < 0 ∨ nI l ≤ nI (j + k) := Or.inr (nI_le (by omega) (by omega))
      rw [T_has0 s1 e1 hd, if_neg (fun e => hin (hlen.mp e))]
      simp only [Option.bind_some, if_true]
      exact ⟨_, rfl, rfl⟩
theorem judge_out {sh : Sh} {R : RR} {m : MI} {n t l : Nat} {b : Int32} (hF : Fx sh R) (h6 : t < 6) (hn : n ≤ 6) (hC : m.1 1 0 = nI n) (hM : m.1 61 0 = nI n) (hl : l ≤ 60) (e1 : m.1 (49 + 2 * t) 1 = nI l) (e2 : m.1 96 t = nI l) (hd : b < 0 ∨ nI l ≤ b) (f1 f2 : Nat) :
    ∃ v, fC_judge_l34 sh R (nI t) b (49 + 2 * t) (fun m7 _ => some (-5, m7)) (f1 + 1) m 0 = some (v, m) ∧ fM_judge_l34 (nI t) b (fun m6 _ => some (-5, m6)) (f2 + 1) m 0 = some (v, m) := by
  obtain ⟨s1, s2⟩ := tpS hF h6
  have ck6 : ck (nI t) 6 = true := ck_nI h6 (by omega)
  rw [fC_judge_l34, fM_judge_l34, hC, hM]
  by_cases h0 : nI n ≤ 0
  · rw [if_pos h0, if_pos h0]; exact ⟨_, rfl, rfl⟩
  · rw [if_neg h0, if_neg h0, if_pos s1, if_pos ck6, cl_nI (show t < 100000 by omega), Int32.add_zero, T_has0 s1 e1 hd]
    simp only [Option.bind_some, if_true]
    by_cases hp : m.1 95 t < 0
    · rw [if_pos hp]; exact ⟨_, rfl, rfl⟩
    · rw [if_neg hp]
      by_cases hb : b < 0
      · rw [if_pos hb]; exact ⟨_, rfl, rfl⟩
      · rw [if_neg hb, if_pos ck6, e2]
        have hlb := hd.resolve_left hb
        obtain ⟨j, hj, rfl⟩ := nI_of hb
        rw [nI_leI (by omega) hj] at hlb
        have : ¬ nI j ≤ nI l - 0 - 1 := by
          rw [Int32.sub_zero, Int32.le_iff_toInt_le, nI_toInt hj, sub1_toInt (by omega)]; omega
        rw [if_neg this]; exact ⟨_, rfl, rfl⟩
theorem op_judge {sh : Sh} {R : RR} {m : MI} (a b : Int32) (H : Rel sh R m) : Ans sh R m (fun m => fC_judge sh R m a b) (fun m => fM_judge m a b) := by
  have H0 := H
  have hF := Fx_of H.2.2.2.2.2
  obtain ⟨F, hF1⟩ : ∃ F : Nat, F = 1000 := ⟨_, rfl⟩
  obtain ⟨F', hF', hF2⟩ : ∃ F' : Nat, F = F' + 1 ∧ 10 < F' := ⟨F - 1, by omega, by omega⟩
  obtain ⟨⟨n, s, l', q, nn, se, bo, h1, h2, h3, h4, h5, h6', h7, h8, h9, h10, -⟩, ht, -⟩ := H
  rcases tcase a with ha | ⟨t, h6, rfl, ha⟩
  · exact ⟨-1, m, m, by simp [fC_judge, C_tapeAt0 ha, mn], by simp [fM_judge, M_isT0 ha], H0⟩
  obtain ⟨l, hl, e0, hs, e1, e2, ev⟩ := ht t h6
  obtain ⟨s1, s2⟩ := tpS hF h6
  have ck6 : ck (nI t) 6 = true := ck_nI h6 (by omega)
  have key : (m.1 95 t < 0 ∨ m.1 95 t = 2) → ∃ v, fC_judge_l34 sh R (nI t) b (49 + 2 * t) (fun m7 _ => some (-5, m7)) F m 0 = some (v, m) ∧ fM_judge_l34 (nI t) b (fun m6 _ => some (-5, m6)) F m 0 = some (v, m) := by
    intro _
    rcases dcase (n := l) (by omega) b with hd | ⟨j, hj, rfl, hd⟩
    · rw [hF']; exact judge_out hF h6 h1.1 h1.2.1 h1.2.2 hl e1 e2 hd F' F'
    · refine judge_lock hF h6 h1.1 h1.2.1 h1.2.2 h10.1 hl e1 e2 ?_ (by omega) ev n 0 F F (by omega) (by omega) (by omega)
      rcases hs with ⟨-, h⟩ | ⟨s, h, h'⟩
      · omega
      · rw [h']; exact (tPos h).1
  have eC : fC_judge sh R m (nI t) b = if m.1 95 t = -1 then fC_judge_l34 sh R (nI t) b (49 + 2 * t) (fun m7 _ => some (-5, m7)) F m 0 else if m.1 95 t = 2 then fC_judge_l34 sh R (nI t) b (49 + 2 * t) (fun m7 _ => some (-5, m7)) F m 0 else some (-12, m) := by
    unfold fC_judge
    rw [C_tapeAt1 hF h6, hF1]
    simp only [Option.bind_some, mn, if_pos s1, e0]
  have eM : fM_judge m (nI t) b = if m.1 95 t < 0 then fM_judge_l34 (nI t) b (fun m6 _ => some (-5, m6)) F m 0 else if m.1 95 t = 2 then fM_judge_l34 (nI t) b (fun m6 _ => some (-5, m6)) F m 0 else some (-12, m) := by
    unfold fM_judge
    rw [M_isT1 ha, hF1]
    simp only [Option.bind_some, if_neg (show ¬ (1 : Int32) = 0 by decide), if_pos ck6, cl_nI (show t < 100000 by omega)]
  have e3 : m.1 95 t < 0 ↔ m.1 95 t = -1 := by
    rcases hs with ⟨h, -⟩ | ⟨s, h, h'⟩
    · rw [h]; decide
    · rw [h']; exact ⟨fun e => absurd e (tPos h).1, fun e => absurd e (tPos h).2.1⟩
  by_cases n1 : m.1 95 t = -1
  · obtain ⟨v, p1, p2⟩ := key (Or.inl (e3.mpr n1))
    refine ⟨v, m, m, ?_, ?_, H0⟩
    · show fC_judge sh R m (nI t) b = _
      rw [eC, if_pos n1, p1]
    · show fM_judge m (nI t) b = _
      rw [eM, if_pos (e3.mpr n1), p2]
  · by_cases n2 : m.1 95 t = 2
    · obtain ⟨v, p1, p2⟩ := key (Or.inr n2)
      refine ⟨v, m, m, ?_, ?_, H0⟩
      · show fC_judge sh R m (nI t) b = _
        rw [eC, if_neg n1, if_pos n2, p1]
      · show fM_judge m (nI t) b = _
        rw [eM, if_neg (fun e => n1 (e3.mp e)), if_pos n2, p2]
    · refine ⟨-12, m, m, ?_, ?_, H0⟩
      · show fC_judge sh R m (nI t) b = _
        rw [eC, if_neg n1, if_neg n2]
      · show fM_judge m (nI t) b = _
        rw [eM, if_neg (fun e => n1 (e3.mp e)), if_neg n2]
theorem C_fill {sh : Sh} {R : RR} {u : Nat} (hs : sh[u]? = some (1, 60)) (kc : MI → Int32 → Option MI) : ∀ (q k : Nat) (f : Nat) (m : MI), k + q = 60 → q < f → ∃ g : Nat → Int64, (∀ i, k ≤ i → i < 60 → g i = 0) ∧ (∀ i, i < k → g i = m.2 u i) ∧ fJA_fill_d0a16_l6 sh R u 0 (nI 60) kc f m (nI k) = kc (mJ m u g) (nI 60) := by
  intro q
  induction q with
  | zero =>
    intro k f m hk hf
    obtain ⟨f', rfl, -⟩ := fu hf
    refine ⟨m.2 u, fun i _ _ => by omega, fun _ _ => rfl, ?_⟩
    rw [fJA_fill_d0a16_l6, if_pos (nI_le (by omega) (by omega)), show k = 60 by omega]
    congr 1
    refine Prod.ext rfl (funext fun k' => ?_)
    by_cases e : k' = u
    · subst e; rw [mJ_s]
    · rw [mJ_n e]
  | succ q ih =>
    intro k f m hk hf
    obtain ⟨f', rfl, hf'⟩ := fu hf
    obtain ⟨g, g1, g2, g3⟩ := ih (k + 1) f' (mJ m u (vp_updL (m.2 u) k 0)) (by omega) (hf' q rfl)
    refine ⟨g, fun i h1 h2 => ?_, fun i hi => ?_, ?_⟩
    · by_cases e : i = k
      · subst e; rw [g2 i (by omega), mJ_s, updL_s]
      · exact g1 i (by omega) h2
    · rw [g2 i (by omega), mJ_s, updL_n (by omega)]
    · rw [fJA_fill_d0a16_l6, if_neg (not_le_nI (by omega) (by omega)), if_pos (kA_of hs), lenA_of hs, if_pos (ck_nI (show k < 60 by omega) (by omega)), cl_nI (show k < 100000 by omega)]
      simp only [lm, lt, nI_1]
      rw [g3, mJ_mJ]
theorem M_fill {t : Nat} (h6 : t < 6) (b c : Int32) (kc : MI → Int32 → Option (Int32 × MI)) : ∀ (q k : Nat) (f : Nat) (m : MI), k + q = 60 → q < f → ∃ g : Nat → Int64, (∀ i, k ≤ i → i < 60 → g (60 * t + i) = 0) ∧ (∀ i, i < 60 * t + k ∨ 60 * t + 60 ≤ i → g i = m.2 97 i) ∧ fM_tape_l69 (nI t) b c kc f m (nI k) = kc (mJ m 97 g) (nI 60) := by
  intro q
  induction q with
  | zero =>
    intro k f m hk hf
    obtain ⟨f', rfl, -⟩ := fu hf
    refine ⟨m.2 97, fun i _ _ => by omega, fun _ _ => rfl, ?_⟩
    rw [fM_tape_l69, if_pos (show (60 : Int32) ≤ nI k from nI_le (a := 60) (by omega) (by omega)), show k = 60 by omega]
    congr 1
    refine Prod.ext rfl (funext fun k' => ?_)
    by_cases e : k' = 97
    · subst e; rw [mJ_s]
    · rw [mJ_n e]
  | succ q ih =>
    intro k f m hk hf
    obtain ⟨f', rfl, hf'⟩ := fu hf
    obtain ⟨g, g1, g2, g3⟩ := ih (k + 1) f' (mJ m 97 (vp_updL (m.2 97) (60 * t + k) 0)) (by omega) (hf' q rfl)
    refine ⟨g, fun i h1 h2 => ?_, fun i hi => ?_, ?_⟩
    · by_cases e : i = k
      · subst e; rw [g2 _ (by omega), mJ_s, updL_s]
      · exact g1 i (by omega) h2
    · rw [g2 i (by omega), mJ_s, updL_n (by omega)]
    · rw [fM_tape_l69, if_neg (show ¬ (60 : Int32) ≤ nI k from not_le_nI (n := 60) (by omega) (by omega)), e60, if_pos (ck_nI (show 60 * t + k < 360 by omega) (by omega)), cl_nI (show 60 * t + k < 100000 by omega)]
      simp only [lm, lt, nI_1]
      rw [g3, mJ_mJ]
theorem C_become {sh : Sh} {R : RR} {m : MI} {t : Nat} (hF : Fx sh R) (h6 : t < 6) (x y : Int32) : ∃ g : Nat → Int64, (∀ i, i < 60 → g i = 0) ∧ fT_become sh R m (49 + 2 * t) x y = some (mJ (mI (mI m (49 + 2 * t) (upd (m.1 (49 + 2 * t)) 0 x)) (49 + 2 * t) (upd (upd (m.1 (49 + 2 * t)) 0 x) 1 y)) (50 + 2 * t) g) := by
  obtain ⟨F, hF1⟩ : ∃ F : Nat, F = 1000 := ⟨_, rfl⟩
  obtain ⟨s1, s2⟩ := tpS hF h6
  obtain ⟨r1, r2⟩ := tpR hF.2 h6
  obtain ⟨g, g1, -, g3⟩ := C_fill (R := R) s2 (fun m4 _ => some m4) 60 0 F (mI (mI m (49 + 2 * t) (upd (m.1 (49 + 2 * t)) 0 x)) (49 + 2 * t) (upd (upd (m.1 (49 + 2 * t)) 0 x) 1 y)) (by omega) (by omega)
  refine ⟨g, fun i hi => g1 i (by omega) hi, ?_⟩
  unfold fT_become
  rw [if_pos s1]
  simp only [lm, mI_s, r2, mq, fJA_fill_d0a16, kA_of s2, if_true, lt, lenA_of s2, ← hF1]
  rw [show Int32.ofNat 60 = nI 60 from rfl, show (0 : Int32) = nI 0 from rfl, g3]
  rfl
theorem op_tape {sh : Sh} {R : RR} {m : MI} (a b c : Int32) (H : Rel sh R m) : Ans sh R m (fun m => fC_tape sh R m a b c) (fun m => fM_tape m a b c) := by
  have H0 := H
  have hF := Fx_of H.2.2.2.2.2
  obtain ⟨F, hF1⟩ : ∃ F : Nat, F = 1000 := ⟨_, rfl⟩
  obtain ⟨-, ht, -⟩ := H
  rcases tcase a with ha | ⟨t, h6, rfl, ha⟩
  · exact ⟨-1, m, m, by simp [fC_tape, C_tapeAt0 ha, mn], by simp [fM_tape, M_isT0 ha], H0⟩
  obtain ⟨s1, s2⟩ := tpS hF h6
  have ck6 : ck (nI t) 6 = true := ck_nI h6 (by omega)
  have rel : ∀ (x : Int32) (l : Nat) (g g' : Nat → Int64), l ≤ 60 → ((x = -1 ∧ l = 0) ∨ ∃ s, s ≤ 4 ∧ x = nI s) → (∀ i, i < 60 → g i = 0) → (∀ i, i < 60 → g' (60 * t + i) = 0) → (∀ i, i < 60 * t ∨ 60 * t + 60 ≤ i → g' i = m.2 97 i) →
      Rel sh R (mJ (mI (mI (mJ (mI (mI m (49 + 2 * t) (upd (m.1 (49 + 2 * t)) 0 x)) (49 + 2 * t) (upd (upd (m.1 (49 + 2 * t)) 0 x) 1 (nI l))) (50 + 2 * t) g) 95 (upd (m.1 95) t x)) 96 (upd (m.1 96) t (nI l))) 97 g') := by
    intro x l g g' hl hx hg hg' hg2
    refine Rel_tape H0 (fun t' h6' => ?_) (fun k k1 k2 k3 => ?_)
    · obtain ⟨l', q1, q2, q3, q4, q5, q6⟩ := ht t' h6'
      by_cases et : t' = t
      · subst et
        refine ⟨l, hl, ?_, ?_, ?_, ?_, fun i hi => ?_⟩
        · rw [mJ_I, mI_n (by omega), mI_n (by omega), mJ_I, mI_s, mI_n (by omega), mI_s, upd_s, upd_n (by omega), upd_s]
        · rw [mJ_I, mI_n (by omega), mI_s, upd_s]; exact hx
        · rw [mJ_I, mI_n (by omega), mI_n (by omega), mJ_I, mI_s, upd_s]
        · rw [mJ_I, mI_s, upd_s]
        · rw [mJ_s, mJ_n (by omega), mI_J, mI_J, mJ_s, hg i hi, hg' i hi]
      · refine ⟨l', q1, ?_, ?_, ?_, ?_, fun i hi => ?_⟩
        · rw [mJ_I, mI_n (by omega), mI_n (by omega), mJ_I, mI_n (by omega), mI_n (by omega), mI_n (by omega), mI_s, upd_n et]; exact q2
        · rw [mJ_I, mI_n (by omega), mI_s, upd_n et]; exact q3
        · rw [mJ_I, mI_n (by omega), mI_n (by omega), mJ_I, mI_n (by omega), mI_n (by omega)]; exact q4
        · rw [mJ_I, mI_s, upd_n et]; exact q5
        · rw [mJ_s, mJ_n (by omega), mI_J, mI_J, mJ_n (by omega), mI_J, mI_J, hg2 _ (by omega)]; exact q6 i hi
    · rw [mJ_I, mI_n k3, mI_n k2, mJ_I, mI_n (by omega), mI_n (by omega)]
  by_cases hb : b < -1 ∨ 4 < b
  · refine ⟨-2, m, m, ?_, by simp [fM_tape, M_isT1 ha, M_in0 hb], H0⟩
    rcases hb with hb | hb
    · have n1 : ¬ b = -1 := fun e => by subst e; exact absurd hb (by decide)
      have n0 : b < 0 := Int32.lt_trans hb (by decide)
      simp [fC_tape, C_tapeAt1 hF h6, mn, n1, n0]
    · have n1 : ¬ b = -1 := fun e => by subst e; exact absurd hb (by decide)
      have n0 : ¬ b < 0 := fun e => absurd (Int32.lt_trans hb e) (by decide)
      obtain ⟨s, hs, rfl⟩ := nI_of n0
      have n5 : (5 : Int32) ≤ nI s := by
        rw [show (4 : Int32) = nI 4 from rfl, nI_ltI (by omega) hs] at hb
        rw [show (5 : Int32) = nI 5 from rfl, nI_leI (by omega) hs]; omega
      simp [fC_tape, C_tapeAt1 hF h6, mn, n1, n0, n5]
  by_cases h1 : b = -1
  · subst h1
    obtain ⟨g, g1, g2⟩ := C_become (m := m) hF h6 (-1) 0
    obtain ⟨g', g1', g2', g3'⟩ := M_fill h6 (-1) c (fun m13 _ => some (1, m13)) 60 0 F (mI (mI (mJ (mI (mI m (49 + 2 * t) (upd (m.1 (49 + 2 * t)) 0 (-1))) (49 + 2 * t) (upd (upd (m.1 (49 + 2 * t)) 0 (-1)) 1 0)) (50 + 2 * t) g) 95 (upd (m.1 95) t (-1))) 96 (upd (m.1 96) t 0)) (by omega) (by omega)
    refine ⟨1, mJ (mI (mI m (49 + 2 * t) (upd (m.1 (49 + 2 * t)) 0 (-1))) (49 + 2 * t) (upd (upd (m.1 (49 + 2 * t)) 0 (-1)) 1 0)) (50 + 2 * t) g, _, ?_, ?_, rel (-1) 0 g g' (by omega) (Or.inl ⟨rfl, rfl⟩) g1 (fun i hi => g1' i (by omega) hi) (fun i hi => ?_)⟩
    · show fC_tape sh R m (nI t) (-1) c = _
      unfold fC_tape
      rw [C_tapeAt1 hF h6]
      simp only [Option.bind_some, mn, if_true, if_pos s1, g2]
    · show fM_tape _ (nI t) (-1) c = _
      unfold fM_tape
      rw [M_isT1 ha, ← hF1]
      simp only [Option.bind_some, if_neg (show ¬ (1 : Int32) = 0 by decide)]
      rw [M_in1 (by decide)]
      simp only [Option.bind_some, if_neg (show ¬ (1 : Int32) = 0 by decide), if_pos (show (-1 : Int32) < 0 by decide), if_neg (show ¬ (0 : Int32) ≤ -1 by decide), if_pos ck6, cl_nI (show t < 100000 by omega), lm, mI_n (show (96 : Nat) ≠ 95 by omega), mJ_I, mI_n (show (95 : Nat) ≠ 49 + 2 * t by omega), mI_n (show (96 : Nat) ≠ 49 + 2 * t by omega)]
      exact g3'
    · rw [g2' i (by omega), mI_J, mI_J, mJ_n (by omega), mI_J, mI_J]
  have b0 : ¬ b < 0 := fun e => hb (Or.inl (by
    rw [Int32.lt_iff_toInt_lt] at e ⊢
    have : b.toInt ≠ (-1 : Int32).toInt := fun q => h1 (Int32.toInt_inj.mp q)
    have z : (0 : Int32).toInt = 0 := rfl
    have z1 : (-1 : Int32).toInt = -1 := rfl
    omega))
  obtain ⟨s, hs, rfl⟩ := nI_of b0
  have hs4 : s ≤ 4 := by
    have := (not_or.mp hb).2
    rw [show (4 : Int32) = nI 4 from rfl, nI_ltI (by omega) hs] at this; omega
  have n5 : ¬ (5 : Int32) ≤ nI s := not_le_nI (n := 5) (by omega) (by omega)
  by_cases hc : c ≤ 60
  · by_cases hc0 : 0 ≤ c
    · obtain ⟨l, hl, rfl⟩ := nI_of (Int32.not_lt.mpr hc0)
      have hl6 : l ≤ 60 := by rwa [show (60 : Int32) = nI 60 from rfl, nI_leI hl (by omega)] at hc
      obtain ⟨g, g1, g2⟩ := C_become (m := m) hF h6 (nI s) (nI l)
      obtain ⟨g', g1', g2', g3'⟩ := M_fill h6 (nI s) (nI l) (fun m13 _ => some (1, m13)) 60 0 F (mI (mI (mJ (mI (mI m (49 + 2 * t) (upd (m.1 (49 + 2 * t)) 0 (nI s))) (49 + 2 * t) (upd (upd (m.1 (49 + 2 * t)) 0 (nI s)) 1 (nI l))) (50 + 2 * t) g) 95 (upd (m.1 95) t (nI s))) 96 (upd (m.1 96) t (nI l))) (by omega) (by omega)
      refine ⟨1, mJ (mI (mI m (49 + 2 * t) (upd (m.1 (49 + 2 * t)) 0 (nI s))) (49 + 2 * t) (upd (upd (m.1 (49 + 2 * t)) 0 (nI s)) 1 (nI l))) (50 + 2 * t) g, _, ?_, ?_, rel (nI s) l g g' hl6 (Or.inr ⟨s, hs4, rfl⟩) g1 (fun i hi => g1' i (by omega) hi) (fun i hi => ?_)⟩
      · show fC_tape sh R m (nI t) (nI s) (nI l) = _
        unfold fC_tape
        rw [C_tapeAt1 hF h6]
        simp only [Option.bind_some, mn, if_neg h1, if_neg b0, if_neg n5, if_pos hc, if_pos hc0, if_pos s1, g2]
      · show fM_tape _ (nI t) (nI s) (nI l) = _
        unfold fM_tape
        rw [M_isT1 ha, ← hF1]
        simp only [Option.bind_some, if_neg (show ¬ (1 : Int32) = 0 by decide)]
        rw [M_in1 hb]
        simp only [Option.bind_some, if_neg (show ¬ (1 : Int32) = 0 by decide), if_neg b0, if_pos hc, if_pos hc0, if_pos ck6, cl_nI (show t < 100000 by omega), lm, if_pos (tPos hs4).2.2, mI_n (show (96 : Nat) ≠ 95 by omega), mJ_I, mI_n (show (95 : Nat) ≠ 49 + 2 * t by omega), mI_n (show (96 : Nat) ≠ 49 + 2 * t by omega)]
        exact g3'
      · rw [g2' i (by omega), mI_J, mI_J, mJ_n (by omega), mI_J, mI_J]
    · refine ⟨-14, m, m, ?_, ?_, H0⟩
      · show fC_tape sh R m (nI t) (nI s) c = _
        unfold fC_tape
        rw [C_tapeAt1 hF h6]
        simp only [Option.bind_some, mn, if_neg h1, if_neg b0, if_neg n5, if_pos hc, if_neg hc0]
      · show fM_tape m (nI t) (nI s) c = _
        unfold fM_tape
        rw [M_isT1 ha, ← hF1]
        simp only [Option.bind_some, if_neg (show ¬ (1 : Int32) = 0 by decide)]
        rw [M_in1 hb]
        simp only [Option.bind_some, if_neg (show ¬ (1 : Int32) = 0 by decide), if_neg b0, if_pos hc, if_neg hc0]
  · refine ⟨-2, m, m, ?_, ?_, H0⟩
    · show fC_tape sh R m (nI t) (nI s) c = _
      unfold fC_tape
      rw [C_tapeAt1 hF h6]
      simp only [Option.bind_some, mn, if_neg h1, if_neg b0, if_neg n5, if_neg hc]
    · show fM_tape m (nI t) (nI s) c = _
      unfold fM_tape
      rw [M_isT1 ha, ← hF1]
      simp only [Option.bind_some, if_neg (show ¬ (1 : Int32) = 0 by decide)]
      rw [M_in1 hb]
      simp only [Option.bind_some, if_neg (show ¬ (1 : Int32) = 0 by decide), if_neg b0, if_neg hc]
theorem T_run {sh : Sh} {R : RR} {m : MI} {t l : Nat} {b e : Int32} (hs : sh[t]? = some (14, 0)) (hl6 : l ≤ 60) (hl : m.1 t 1 = nI l) : (fT_hasRun sh R m t b e = some (0, m) ∧ (e < 0 ∨ b < 0 ∨ ¬ b ≤ nI l - e)) ∨ (fT_hasRun sh R m t b e = some (1, m) ∧ ∃ x y, x + y ≤ l ∧ b = nI x ∧ e = nI y) := by
  unfold fT_hasRun
  by_cases e0 : e < 0
  · rw [if_pos e0]; exact Or.inl ⟨rfl, Or.inl e0⟩
  rw [if_neg e0]
  by_cases b0 : b < 0
  · rw [if_pos b0]; exact Or.inl ⟨rfl, Or.inr (Or.inl b0)⟩
  rw [if_neg b0, if_pos hs, hl]
  obtain ⟨y, hy, rfl⟩ := nI_of e0
  obtain ⟨x, hx, rfl⟩ := nI_of b0
  have k : nI x ≤ nI l - nI y ↔ x + y ≤ l := by
    rw [Int32.le_iff_toInt_le, nI_toInt hx, sub_I (by omega) hy]; omega
  have k2 : nI l - nI x < nI y ↔ l < x + y := by
    rw [Int32.lt_iff_toInt_lt, nI_toInt hy, sub_I (by omega) hx]; omega
  by_cases c1 : l < x
  · rw [if_pos (nI_lt c1 hx)]
    exact Or.inl ⟨rfl, Or.inr (Or.inr (fun q => by have := k.mp q; omega))⟩
  · rw [if_neg (nI_nlt (by omega) (by omega))]
    by_cases c2 : l < x + y
    · rw [if_pos (k2.mpr c2)]
      exact Or.inl ⟨rfl, Or.inr (Or.inr (fun q => by have := k.mp q; omega))⟩
    · rw [if_neg (fun q => c2 (k2.mp q))]
      exact Or.inr ⟨rfl, x, y, by omega, rfl, rfl⟩
theorem M_sh1 {t x y : Nat} (h6 : t < 6) (hxy : x + y ≤ 60) (c d : Int32) (kc : MI → Int32 → Option (Int32 × MI)) : ∀ (q k : Nat) (f : Nat) (m : MI), k + q = y → q < f → ∃ g : Nat → Int64, (∀ i, k ≤ i → i < y → g i = m.2 97 (60 * t + x + i)) ∧ (∀ i, i < k → g i = m.2 98 i) ∧ fM_shift_l104 (nI t) (nI x) c d (nI y) kc f m (nI k) = kc (mJ m 98 g) (nI y) := by
  intro q
  induction q with
  | zero =>
    intro k f m hk hf
    obtain ⟨f', rfl, -⟩ := fu hf
    refine ⟨m.2 98, fun i _ _ => by omega, fun _ _ => rfl, ?_⟩
    rw [fM_shift_l104, if_pos (nI_le (by omega) (by omega)), show k = y by omega]
    congr 1
    refine Prod.ext rfl (funext fun k' => ?_)
    by_cases e : k' = 98
    · subst e; rw [mJ_s]
    · rw [mJ_n e]
  | succ q ih =>
    intro k f m hk hf
    obtain ⟨f', rfl, hf'⟩ := fu hf
    obtain ⟨g, g1, g2, g3⟩ := ih (k + 1) f' (mJ m 98 (vp_updL (m.2 98) k (m.2 97 (60 * t + x + k)))) (by omega) (hf' q rfl)
    refine ⟨g, fun i h1 h2 => ?_, fun i hi => ?_, ?_⟩
    · by_cases e : i = k
      · subst e; rw [g2 i (by omega), mJ_s, updL_s]
      · rw [g1 i (by omega) h2, mJ_n (by omega)]
    · rw [g2 i (by omega), mJ_s, updL_n (by omega)]
    · rw [fM_shift_l104, if_neg (not_le_nI (by omega) (by omega)), e60, nI_add, if_pos (ck_nI (show 60 * t + x + k < 360 by omega) (by omega)), if_pos (ck_nI (show k < 60 by omega) (by omega)), cl_nI (show k < 100000 by omega), cl_nI (show 60 * t + x + k < 100000 by omega)]
      simp only [lm, lt, nI_1]
      rw [g3, mJ_mJ]
theorem M_sh2 {t x y : Nat} (h6 : t < 6) (hxy : x + y ≤ 60) (a b : Int32) (kc : MI → Int32 → Option (Int32 × MI)) : ∀ (q k : Nat) (f : Nat) (m : MI), k + q = y → q < f → ∃ g : Nat → Int64, (∀ i, k ≤ i → i < y → g (60 * t + x + i) = m.2 98 i) ∧ (∀ i, i < 60 * t + x + k ∨ 60 * t + x + y ≤ i → g i = m.2 97 i) ∧ fM_shift_l141 a b (nI t) (nI x) (nI y) kc f m (nI k) = kc (mJ m 97 g) (nI y) := by
  intro q
  induction q with
  | zero =>
    intro k f m hk hf
    obtain ⟨f', rfl, -⟩ := fu hf
    refine ⟨m.2 97, fun i _ _ => by omega, fun _ _ => rfl, ?_⟩
    rw [fM_shift_l141, if_pos (nI_le (by omega) (by omega)), show k = y by omega]
    congr 1
    refine Prod.ext rfl (funext fun k' => ?_)
    by_cases e : k' = 97
    · subst e; rw [mJ_s]
    · rw [mJ_n e]
  | succ q ih =>
    intro k f m hk hf
    obtain ⟨f', rfl, hf'⟩ := fu hf
    obtain ⟨g, g1, g2, g3⟩ := ih (k + 1) f' (mJ m 97 (vp_updL (m.2 97) (60 * t + x + k) (m.2 98 k))) (by omega) (hf' q rfl)
    refine ⟨g, fun i h1 h2 => ?_, fun i hi => ?_, ?_⟩
    · by_cases e : i = k
      · subst e; rw [g2 _ (by omega), mJ_s, updL_s]
      · rw [g1 i (by omega) h2, mJ_n (by omega)]
    · rw [g2 i (by omega), mJ_s, updL_n (by omega)]
    · rw [fM_shift_l141, if_neg (not_le_nI (by omega) (by omega)), e60, nI_add, if_pos (ck_nI (show k < 60 by omega) (by omega)), if_pos (ck_nI (show 60 * t + x + k < 360 by omega) (by omega)), cl_nI (show k < 100000 by omega), cl_nI (show 60 * t + x + k < 100000 by omega)]
      simp only [lm, lt, nI_1]
      rw [g3, mJ_mJ]
theorem op_shift {sh : Sh} {R : RR} {m : MI} (a b c d e : Int32) (H : Rel sh R m) : Ans sh R m (fun m => fC_shift sh R m a b c d e) (fun m => fM_shift m a b c d e) := by
  have H0 := H
  have hF := Fx_of H.2.2.2.2.2
  obtain ⟨F, hF1⟩ : ∃ F : Nat, F = 1000 := ⟨_, rfl⟩
  obtain ⟨-, ht, -⟩ := H
  have one : ¬ (1 : Int32) = 0 := by decide
  rcases tcase a with ha | ⟨t, h6, rfl, ha⟩
  · refine ⟨-1, m, m, ?_, by simp [fM_shift, M_isT0 ha], H0⟩
    rcases tcase c with hc | ⟨u, hu6, rfl, hc⟩
    · simp [fC_shift, C_tapeAt0 ha, C_tapeAt0 hc, mn]
    · simp [fC_shift, C_tapeAt0 ha, C_tapeAt1 hF hu6, mn]
  rcases tcase c with hc | ⟨u, hu6, rfl, hc⟩
  · exact ⟨-1, m, m, by simp [fC_shift, C_tapeAt1 hF h6, C_tapeAt0 hc, mn], by simp [fM_shift, M_isT1 ha, M_isT0 hc], H0⟩
  obtain ⟨s1, s2⟩ := tpS hF h6
  obtain ⟨s1', s2'⟩ := tpS hF hu6
  obtain ⟨r1, r2⟩ := tpR hF.2 h6
  obtain ⟨r1', r2'⟩ := tpR hF.2 hu6
  obtain ⟨l, hl, e0, hs, e1, e2, ev⟩ := ht t h6
  obtain ⟨l', hl', e0', hs', e1', e2', ev'⟩ := ht u hu6
  have ck6 : ck (nI t) 6 = true := ck_nI h6 (by omega)
  have ck6' : ck (nI u) 6 = true := ck_nI hu6 (by omega)
  have clt := cl_nI (show t < 100000 by omega)
  have clu := cl_nI (show u < 100000 by omega)
  rcases hs with ⟨h1, -⟩ | ⟨s, h4, es⟩
  · refine ⟨-11, m, m, ?_, ?_, H0⟩
    · simp [fC_shift, C_tapeAt1 hF h6, C_tapeAt1 hF hu6, mn, s1, e0, h1]
    · simp [fM_shift, M_isT1 ha, M_isT1 hc, ck6, clt, h1]
  obtain ⟨p1, p2, p3⟩ := tPos h4
  rcases hs' with ⟨h1, -⟩ | ⟨s', h4', es'⟩
  · refine ⟨-11, m, m, ?_, ?_, H0⟩
    · simp [fC_shift, C_tapeAt1 hF h6, C_tapeAt1 hF hu6, mn, s1, s1', e0, es, p2, e0', h1]
    · have : ¬ (0 : Int32) ≤ -1 := by decide
      simp [fM_shift, M_isT1 ha, M_isT1 hc, ck6, clt, es, p1, ck6', clu, h1, this]
  obtain ⟨p1', p2', p3'⟩ := tPos h4'
  by_cases ess : s = s'
  · subst ess
    have eC : fC_shift sh R m (nI t) b (nI u) d e = ((fT_hasRun sh R m (49 + 2 * t) b e).bind fun r15 => if r15.1 = 0 then some (-13, r15.2) else (fT_hasRun sh R r15.2 (49 + 2 * u) d e).bind fun r17 => if r17.1 = 0 then some (-13, r17.2) else
        if cpk b d e 60 60 = true then some (e, mJ r17.2 (50 + 2 * u) (va_cpy (r17.2.2 (50 + 2 * t)) (r17.2.2 (50 + 2 * u)) b.toNatClampNeg d.toNatClampNeg e.toNatClampNeg)) else none) := by
      simp only [fC_shift, C_tapeAt1 hF h6, C_tapeAt1 hF hu6, mn, Option.bind_some, s1, s1', if_true, e0, es, if_neg p2, e0', es', r2, r2', mq, kA_of s2, kA_of s2', lenA_of s2, lenA_of s2', lm]
    have eM : fM_shift m (nI t) b (nI u) d e = if e < 0 then some (-13, m) else if b < 0 then some (-13, m) else if d < 0 then some (-13, m) else if nI l - e < b then some (-13, m) else if d ≤ nI l' - e then fM_shift_l104 (nI t) b (nI u) d e (fun m20 _ => fM_shift_l141 (nI t) b (nI u) d e (fun m22 _ => some (e, m22)) F m20 0) F m 0 else some (-13, m) := by
      unfold fM_shift
      rw [M_isT1 ha, hF1]
      simp only [Option.bind_some, if_neg one]
      rw [M_isT1 hc]
      simp only [Option.bind_some, if_neg one, ck6, ck6', clt, clu, if_true, es, es', if_neg p1, if_pos p3, e2, e2']
    have bad : (e < 0 ∨ b < 0 ∨ d < 0 ∨ ¬ b ≤ nI l - e ∨ ¬ d ≤ nI l' - e) → fM_shift m (nI t) b (nI u) d e = some (-13, m) := by
      intro h
      rw [eM]
      by_cases c1 : e < 0
      · rw [if_pos c1]
      rw [if_neg c1]
      by_cases c2 : b < 0
      · rw [if_pos c2]
      rw [if_neg c2]
      by_cases c3 : d < 0
      · rw [if_pos c3]
      rw [if_neg c3]
      by_cases c4 : nI l - e < b
      · rw [if_pos c4]
      rw [if_neg c4]
      by_cases c5 : d ≤ nI l' - e
      · exact absurd h (by simp [c1, c2, c3, Int32.not_lt.mp c4, c5])
      · rw [if_neg c5]
    rcases T_run (R := R) (b := b) (e := e) s1 hl e1 with ⟨q1, q2⟩ | ⟨q1, x, y, hxy, rfl, rfl⟩
    · refine ⟨-13, m, m, ?_, bad ?_, H0⟩
      · show fC_shift sh R m (nI t) b (nI u) d e = _
        rw [eC, q1]; rfl
      · rcases q2 with q | q | q
        · exact Or.inl q
        · exact Or.inr (Or.inl q)
        · exact Or.inr (Or.inr (Or.inr (Or.inl q)))
    · rcases T_run (R := R) (b := d) (e := nI y) s1' hl' e1' with ⟨q1', q2'⟩ | ⟨q1', x', y', hxy', rfl, he⟩
      · refine ⟨-13, m, m, ?_, bad ?_, H0⟩
        · show fC_shift sh R m (nI t) (nI x) (nI u) d (nI y) = _
          rw [eC, q1]
          simp only [Option.bind_some, if_neg one]
          rw [q1']; rfl
        · rcases q2' with q | q | q
          · exact Or.inl q
          · exact Or.inr (Or.inr (Or.inl q))
          · exact Or.inr (Or.inr (Or.inr (Or.inr q)))
      · by_cases hy31 : y < 2 ^ 31
        · have key : ∀ z w L : Nat, w + z ≤ L → L ≤ 60 → nI w ≤ nI L - nI z := fun z w L h h' => by
            rw [pk_sub (by omega), nI_leI (by omega) (by omega)]; omega
          have hx31 : x + y ≤ 60 := by omega
          have hyy : y = y' := by
            by_cases hh : y' < 2 ^ 31
            · exact (nI_eq (by omega) hh).mp he
            · omega
          subst hyy
          have hcp : cpk (nI x) (nI x') (nI y) 60 60 = true := by
            unfold cpk
            rw [cl_nI (show x < 100000 by omega), cl_nI (show x' < 100000 by omega), cl_nI (show y < 100000 by omega)]
            simp [nI_pos (show x < 2 ^ 31 by omega), nI_pos (show x' < 2 ^ 31 by omega), nI_pos (show y < 2 ^ 31 by omega)]
            omega
          obtain ⟨G, hG⟩ : ∃ G, G = va_cpy (m.2 (50 + 2 * t)) (m.2 (50 + 2 * u)) x x' y := ⟨_, rfl⟩
          obtain ⟨g1, a1, -, a3⟩ := M_sh1 (t := t) (x := x) (y := y) h6 (by omega) (nI u) (nI x') (fun m20 _ => fM_shift_l141 (nI t) (nI x) (nI u) (nI x') (nI y) (fun m22 _ => some (nI y, m22)) F m20 0) y 0 F (mJ m (50 + 2 * u) G) (by omega) (by omega)
          obtain ⟨g2, b1, b2, b3⟩ := M_sh2 (t := u) (x := x') (y := y) hu6 (by omega) (nI t) (nI x) (fun m22 _ => some (nI y, m22)) y 0 F (mJ (mJ m (50 + 2 * u) G) 98 g1) (by omega) (by omega)
          refine ⟨nI y, mJ m (50 + 2 * u) G, mJ (mJ (mJ m (50 + 2 * u) G) 98 g1) 97 g2, ?_, ?_, ?_⟩
          · show fC_shift sh R m (nI t) (nI x) (nI u) (nI x') (nI y) = _
            rw [eC, q1]
            simp only [Option.bind_some, if_neg one]
            rw [q1']
            simp only [Option.bind_some, if_neg one, hcp, if_true, cl_nI (show x < 100000 by omega), cl_nI (show x' < 100000 by omega), cl_nI (show y < 100000 by omega), hG]
          · show fM_shift (mJ m (50 + 2 * u) G) (nI t) (nI x) (nI u) (nI x') (nI y) = _
            have eM' : fM_shift (mJ m (50 + 2 * u) G) (nI t) (nI x) (nI u) (nI x') (nI y) = if nI y < 0 then some (-13, mJ m (50 + 2 * u) G) else if nI x < 0 then some (-13, mJ m (50 + 2 * u) G) else if nI x' < 0 then some (-13, mJ m (50 + 2 * u) G) else if nI l - nI y < nI x then some (-13, mJ m (50 + 2 * u) G) else if nI x' ≤ nI l' - nI y then fM_shift_l104 (nI t) (nI x) (nI u) (nI x') (nI y) (fun m20 _ => fM_shift_l141 (nI t) (nI x) (nI u) (nI x') (nI y) (fun m22 _ => some (nI y, m22)) F m20 0) F (mJ m (50 + 2 * u) G) 0 else some (-13, mJ m (50 + 2 * u) G) := by
              unfold fM_shift
              rw [M_isT1 ha, hF1]
              simp only [Option.bind_some, if_neg one]
              rw [M_isT1 hc]
              simp only [Option.bind_some, if_neg one, ck6, ck6', clt, clu, if_true, mJ_I, es, es', if_neg p1, if_pos p3, e2, e2']
            rw [eM', if_neg (nI_pos (by omega)), if_neg (nI_pos (by omega)), if_neg (nI_pos (by omega)), if_neg (Int32.not_lt.mpr (key y x l (by omega) hl)), if_pos (key y x' l' (by omega) hl')]
            exact a3.trans b3
          · refine Rel_tape H0 (fun v hv6 => ?_) (fun k _ _ _ => rfl)
            obtain ⟨l3, w1, w2, w3, w4, w5, w6⟩ := ht v hv6
            refine ⟨l3, w1, w2, w3, w4, w5, fun i hi => ?_⟩
            rw [mJ_s, mJ_n (by omega), mJ_n (by omega)]
            by_cases ev2 : v = u
            · subst ev2
              rw [mJ_s, hG]
              unfold va_cpy
              by_cases hin : x' ≤ i ∧ i < x' + y
              · rw [if_pos hin]
                obtain ⟨i', rfl⟩ : ∃ i', i = x' + i' := ⟨i - x', by omega⟩
                rw [← Nat.add_assoc, b1 i' (by omega) (by omega), mJ_s, a1 i' (by omega) (by omega), mJ_n (by omega), show x' + i' - x' = i' by omega, ev (x + i') (by omega), Nat.add_assoc]
              · rw [if_neg hin, b2 _ (by omega), mJ_n (by omega), mJ_n (by omega)]; exact w6 i hi
            · rw [mJ_n (by omega), b2 _ (by omega), mJ_n (by omega), mJ_n (by omega)]; exact w6 i hi
        · omega
  · have ne : ¬ nI s = nI s' := fun q => ess ((nI_eq (by omega) (by omega)).mp q)
    refine ⟨-12, m, m, ?_, ?_, H0⟩
    · simp [fC_shift, C_tapeAt1 hF h6, C_tapeAt1 hF hu6, mn, s1, s1', e0, es, p2, e0', es', p2', ne]
    · simp [fM_shift, M_isT1 ha, M_isT1 hc, ck6, clt, es, p1, ck6', clu, es', p3', ne]
