/-! THE SAME ANSWERS: row, uneven, turn, most, taken -/
theorem fu {f j : Nat} (h : j < f) : ∃ f', f = f' + 1 ∧ (∀ j', j = j' + 1 → j' < f') := ⟨f - 1, by omega, fun j' h' => by omega⟩
theorem not_le_nI {n k : Nat} (h : k < n) (hn : n ≤ 1000) : ¬ nI n ≤ nI k := by rw [nI_leI (by omega) (by omega)]; omega
theorem R11 {R : RR} (hR : ∀ k j a : Nat, tbR k j = some a → R k j = some a) {j : Nat} (h : j < 6) : R 11 j = some (5 + j) := by
  have : j = 0 ∨ j = 1 ∨ j = 2 ∨ j = 3 ∨ j = 4 ∨ j = 5 := by omega
  rcases this with rfl | rfl | rfl | rfl | rfl | rfl <;> exact hR _ _ _ rfl
theorem Fx_of {sh : Sh} {R : RR} {m : MI} (H : Huts sh R m) : Fx sh R := by
  obtain ⟨ls, -, rfl, hR, -⟩ := H
  refine ⟨fun k s h => ?_, hR⟩
  rw [List.getElem?_append_left (List.getElem?_eq_some_iff.mp h).1]
  exact h
theorem rowSh {sh : Sh} {R : RR} (hF : Fx sh R) {j : Nat} (h : j < 6) : sh[5 + j]? = some (0, 4) := by
  have : j = 0 ∨ j = 1 ∨ j = 2 ∨ j = 3 ∨ j = 4 ∨ j = 5 := by omega
  rcases this with rfl | rfl | rfl | rfl | rfl | rfl <;> exact hF.1 _ _ rfl
theorem kA_of {sh : Sh} {g kd n : Nat} (h : sh[g]? = some (kd, n)) : kA sh g kd = true := by simp [kA, h]
theorem lenA_of {sh : Sh} {g kd n : Nat} (h : sh[g]? = some (kd, n)) : lenA sh g = n := by simp [lenA, h]
theorem op_row {sh : Sh} {R : RR} {m : MI} (a b c : Int32) (H : Rel sh R m) : Ans sh R m (fun m => fC_row sh R m a b c) (fun m => fM_row m a b c) := by
  have H0 := H
  have hF := Fx_of H.2.2.2.2.2
  obtain ⟨⟨n, s, l, q, nn, se, bo, h1, h2, h3, h4, h5, h6, h7, h8, h9, h10, h11, h12, h13, h14, h15⟩, -⟩ := H
  have e2 : m.1 2 = m.1 62 := h8.1
  rcases dcase (n := n) (by omega) a with hd | ⟨j, hj, rfl, hd⟩
  · exact ⟨-1, m, m, by simp [fC_row, W_has0 h1.2.1 hd], by simp [fM_row, M_isD0 (by omega) h1.2.2 hd], H0⟩
  have i3 : ∀ z : Nat, z < 2 ^ 31 → ((3 : Int32) < nI z ↔ ¬ nI z < 4) := fun z hz => by
    rw [show (3 : Int32) = nI 3 from rfl, show (4 : Int32) = nI 4 from rfl, nI_ltI (by omega) hz, nI_ltI hz (by omega)]; omega
  by_cases hb : b < 0 ∨ 3 < b
  · refine ⟨-1, m, m, ?_, by simp [fM_row, M_isD1 (by omega) h1.2.2 hd, M_in0 hb], H0⟩
    by_cases b0 : b < 0
    · simp [fC_row, W_has1 h1.2.1 hd, b0]
    · obtain ⟨z, hz, rfl⟩ := nI_of b0
      have : ¬ nI z < 4 := (i3 z hz).mp (hb.resolve_left b0)
      simp [fC_row, W_has1 h1.2.1 hd, b0, this]
  obtain ⟨b0, b3⟩ := not_or.mp hb
  obtain ⟨p, hp, rfl⟩ := nI_of b0
  have b4 : nI p < 4 := by
    refine Decidable.by_contra fun hh => b3 ((i3 p hp).mpr hh)
  have hp4 : p < 4 := by rwa [show (4 : Int32) = nI 4 from rfl, nI_ltI hp (by omega)] at b4
  by_cases hc : c < 0 ∨ 9 < c
  · refine ⟨-2, m, m, ?_, by simp [fM_row, M_isD1 (by omega) h1.2.2 hd, M_in1 hb, M_in0 hc], H0⟩
    by_cases c0 : c < 0
    · simp [fC_row, W_has1 h1.2.1 hd, b0, b4, c0]
    · have : ¬ c ≤ 9 := Int32.not_le.mpr (hc.resolve_left c0)
      simp [fC_row, W_has1 h1.2.1 hd, b0, b4, c0, this]
  obtain ⟨c0, c9⟩ := not_or.mp hc
  have c9' : c ≤ 9 := Int32.not_lt.mp c9
  obtain ⟨x, hx, rfl⟩ := nI_of c0
  have hx9 : x ≤ 9 := by rwa [show (9 : Int32) = nI 9 from rfl, nI_leI hx (by omega)] at c9'
  by_cases hk : m.1 62 j = 6
  · have hsr := rowSh hF (show j < 6 by omega)
    have e4 : (4 : Int32) * nI j + nI p = nI (4 * j + p) := by rw [show (4 : Int32) = nI 4 from rfl, pk_mul, nI_add]
    have er : m.1 (5 + j) p = m.1 65 (4 * j + p) := h11.1 j p (by omega) hp4
    refine ⟨m.1 65 (4 * j + p), mI m (5 + j) (upd (m.1 (5 + j)) p (nI x)), mI (mI m (5 + j) (upd (m.1 (5 + j)) p (nI x))) 65 (upd (m.1 65) (4 * j + p) (nI x)), ?_, ?_, ?_⟩
    · simp [fC_row, W_has1 h1.2.1 hd, b0, b4, c0, c9', ck_nI (show j < 6 by omega), cl_nI (show j < 100000 by omega), e2, hk, R11 hF.2 (show j < 6 by omega), mq, kA_of hsr, lenA_of hsr, ck_nI (show p < 4 by omega), cl_nI (show p < 100000 by omega), lt, lm, er]
    · have e1 : (mI m (5 + j) (upd (m.1 (5 + j)) p (nI x))).1 61 0 = nI n := by rw [mI_n (by omega)]; exact h1.2.2
      have e62 : (mI m (5 + j) (upd (m.1 (5 + j)) p (nI x))).1 62 j = 6 := by rw [mI_n (by omega)]; exact hk
      have e65 : (mI m (5 + j) (upd (m.1 (5 + j)) p (nI x))).1 65 = m.1 65 := by rw [mI_n (by omega)]
      simp [fM_row, M_isD1 (by omega) e1 hd, M_in1 hb, M_in1 hc, ck_nI (show j < 6 by omega), cl_nI (show j < 100000 by omega), e62, e4, ck_nI (show 4 * j + p < 24 by omega), cl_nI (show 4 * j + p < 100000 by omega), lt, lm, e65]
    · refine Rel_core H0 ⟨n, s, l, q, nn, se, bo, ?_⟩ (fun k hk hk2 => ?_) (fun i hi => ?_) rfl
      · have r : ∀ k, k ≠ 5 + j → k ≠ 65 → (mI (mI m (5 + j) (upd (m.1 (5 + j)) p (nI x))) 65 (upd (m.1 65) (4 * j + p) (nI x))).1 k = m.1 k := fun k a b => by rw [mI_n b, mI_n a]
        have r65 : (mI (mI m (5 + j) (upd (m.1 (5 + j)) p (nI x))) 65 (upd (m.1 65) (4 * j + p) (nI x))).1 65 = upd (m.1 65) (4 * j + p) (nI x) := mI_s
        rw [r 1 (by omega) (by omega), r 61 (by omega) (by omega), r (1 + 1) (by omega) (by omega), r 62 (by omega) (by omega), r (1 + 2) (by omega) (by omega), r 63 (by omega) (by omega), r (1 + 3) (by omega) (by omega), r 64 (by omega) (by omega), r (1 + 11) (by omega) (by omega), r 66 (by omega) (by omega), r (1 + 12) (by omega) (by omega), r 83 (by omega) (by omega), r (1 + 13) (by omega) (by omega), r 84 (by omega) (by omega), r (1 + 14) (by omega) (by omega), r 85 (by omega) (by omega), r65]
        refine ⟨h1, h2, h3, h4, h5, h6, h7, h8, h9, h10, ⟨fun d p' hd6 hp' => ?_, fun i hi => ?_⟩, h12, h13, h14, h15⟩
        · by_cases ed : d = j
          · rw [ed, show 1 + 4 + j = 5 + j from by omega, mI_n (by omega), mI_s]
            by_cases ep : p' = p
            · subst ep; rw [upd_s, upd_s]
            · rw [upd_n ep, upd_n (by omega)]; exact h11.1 j p' (by omega) hp'
          · rw [r _ (by omega) (by omega), upd_n (by omega)]; exact h11.1 d p' hd6 hp'
        · by_cases ei : i = 4 * j + p
          · subst ei; rw [upd_s]; exact ⟨x, hx9, rfl⟩
          · rw [upd_n ei]; exact h11.2 i hi
      · simp only [List.mem_cons, List.not_mem_nil, or_false, not_or] at hk2
        rw [mI_n (by omega), mI_n (by omega)]
      · rw [mI_n (by omega), mI_n (by omega)]
  · refine ⟨-3, m, m, ?_, ?_, H0⟩
    · simp [fC_row, W_has1 h1.2.1 hd, b0, b4, c0, c9', ck_nI (show j < 6 by omega), cl_nI (show j < 100000 by omega), e2, hk]
    · simp [fM_row, M_isD1 (by omega) h1.2.2 hd, M_in1 hb, M_in1 hc, ck_nI (show j < 6 by omega), cl_nI (show j < 100000 by omega), hk]
def itr (f : Int32 → Nat → Int32) : Nat → Nat → Int32 → Int32
  | _, 0, v => v
  | k, j + 1, v => itr f (k + 1) j (f v k)
theorem C_un1 {m : MI} {n : Nat} (hn : n ≤ 6) (h : m.1 1 0 = nI n) (kc : MI → Int32 → Int32 → Option (Int32 × MI)) : ∀ (j k : Nat) (v : Int32) (f : Nat), k + j = n → j < f → fC_uneven_l4 kc f m v (nI k) = kc m (itr (fun v i => v + m.1 4 i) k j v) (nI n) := by
  intro j
  induction j with
  | zero =>
    intro k v f hk hf
    obtain ⟨f', rfl, -⟩ := fu hf
    rw [fC_uneven_l4, h, if_pos (nI_le (by omega) (by omega))]
    simp only [Nat.add_zero] at hk
    rw [hk]; rfl
  | succ j ih =>
    intro k v f hk hf
    obtain ⟨f', rfl, hf'⟩ := fu hf
    rw [fC_uneven_l4, h, if_neg (not_le_nI (by omega) (by omega)), if_pos (ck_nI (by omega) (by omega)), cl_nI (by omega)]
    simp only [lt, nI_1]
    rw [ih (k + 1) _ f' (by omega) (hf' j rfl)]
    rfl
theorem M_un1 {m : MI} {n : Nat} (hn : n ≤ 6) (h : m.1 61 0 = nI n) (kc : MI → Int32 → Int32 → Option (Int32 × MI)) : ∀ (j k : Nat) (v : Int32) (f : Nat), k + j = n → j < f → fM_uneven_l4 kc f m v (nI k) = kc m (itr (fun v i => v + m.1 64 i) k j v) (nI n) := by
  intro j
  induction j with
  | zero =>
    intro k v f hk hf
    obtain ⟨f', rfl, -⟩ := fu hf
    rw [fM_uneven_l4, h, if_pos (nI_le (by omega) (by omega))]
    simp only [Nat.add_zero] at hk
    rw [hk]; rfl
  | succ j ih =>
    intro k v f hk hf
    obtain ⟨f', rfl, hf'⟩ := fu hf
    rw [fM_uneven_l4, h, if_neg (not_le_nI (by omega) (by omega)), if_pos (ck_nI (by omega) (by omega)), cl_nI (by omega)]
    simp only [lt, nI_1]
    rw [ih (k + 1) _ f' (by omega) (hf' j rfl)]
    rfl
theorem C_un2 {m : MI} {n : Nat} (hn : n ≤ 6) (h : m.1 1 0 = nI n) (u : Int32) (kc : MI → Int32 → Int32 → Option (Int32 × MI)) : ∀ (j k : Nat) (v : Int32) (f : Nat), k + j = n → j < f → fC_uneven_l37 u kc f m v (nI k) = kc m (itr (fun v i => v + (m.1 4 i * nI n - u) * (m.1 4 i * nI n - u)) k j v) (nI n) := by
  intro j
  induction j with
  | zero =>
    intro k v f hk hf
    obtain ⟨f', rfl, -⟩ := fu hf
    rw [fC_uneven_l37, h, if_pos (nI_le (by omega) (by omega))]
    simp only [Nat.add_zero] at hk
    rw [hk]; rfl
  | succ j ih =>
    intro k v f hk hf
    obtain ⟨f', rfl, hf'⟩ := fu hf
    rw [fC_uneven_l37, h, if_neg (not_le_nI (by omega) (by omega)), if_pos (ck_nI (by omega) (by omega)), cl_nI (by omega)]
    simp only [lt, nI_1]
    rw [ih (k + 1) _ f' (by omega) (hf' j rfl)]
    rfl
theorem M_un2 {m : MI} {n : Nat} (hn : n ≤ 6) (h : m.1 61 0 = nI n) (u : Int32) (kc : MI → Int32 → Int32 → Option (Int32 × MI)) : ∀ (j k : Nat) (v : Int32) (f : Nat), k + j = n → j < f → fM_uneven_l31 u kc f m v (nI k) = kc m (itr (fun v i => v + (m.1 64 i * nI n - u) * (m.1 64 i * nI n - u)) k j v) (nI n) := by
  intro j
  induction j with
  | zero =>
    intro k v f hk hf
    obtain ⟨f', rfl, -⟩ := fu hf
    rw [fM_uneven_l31, h, if_pos (nI_le (by omega) (by omega))]
    simp only [Nat.add_zero] at hk
    rw [hk]; rfl
  | succ j ih =>
    intro k v f hk hf
    obtain ⟨f', rfl, hf'⟩ := fu hf
    rw [fM_uneven_l31, h, if_neg (not_le_nI (by omega) (by omega)), if_pos (ck_nI (by omega) (by omega)), if_pos (ck_nI (by omega) (by omega)), cl_nI (by omega)]
    simp only [lt, nI_1]
    rw [ih (k + 1) _ f' (by omega) (hf' j rfl)]
    rfl
theorem op_uneven {sh : Sh} {R : RR} {m : MI} (H : Rel sh R m) : Ans sh R m (fun m => fC_uneven m) (fun m => fM_uneven m) := by
  have H0 := H
  obtain ⟨⟨n, s, l, q, nn, se, bo, h1, h2, h3, h4, h5, h6, h7, h8, h9, h10, -⟩, -⟩ := H
  have e4 : m.1 4 = m.1 64 := h10.1
  refine ⟨itr (fun v i => v + (m.1 64 i * nI n - itr (fun v i => v + m.1 64 i) 0 n 0) * (m.1 64 i * nI n - itr (fun v i => v + m.1 64 i) 0 n 0)) 0 n 0, m, m, ?_, ?_, H0⟩
  · show fC_uneven m = _
    unfold fC_uneven
    rw [show (0 : Int32) = nI 0 from rfl, C_un1 h1.1 h1.2.1 _ n 0 _ 1000 (by omega) (by omega), C_un2 h1.1 h1.2.1 _ _ n 0 _ 1000 (by omega) (by omega), e4]
  · show fM_uneven m = _
    unfold fM_uneven
    rw [show (0 : Int32) = nI 0 from rfl, M_un1 h1.1 h1.2.2 _ n 0 _ 1000 (by omega) (by omega), M_un2 h1.1 h1.2.2 _ _ n 0 _ 1000 (by omega) (by omega)]
