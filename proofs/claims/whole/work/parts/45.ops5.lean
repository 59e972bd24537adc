/-! THE SAME ANSWERS: turn, most, taken -/
theorem turn_lock {m : MI} {n : Nat} (hn : n ≤ 6) (hC : m.1 1 0 = nI n) (hM : m.1 61 0 = nI n) (e4 : m.1 4 = m.1 64) (e12 : m.1 12 = m.1 66) (hp : ∀ k, k < n → ∃ d, d < n ∧ m.1 66 k = nI d) (hs : ∀ d, d < 6 → ∃ x, x ≤ 999 ∧ m.1 64 d = nI x) :
    ∀ (j k : Nat) (w x : Int32) (f1 f2 : Nat), k + j = n → j < f1 → j < f2 → ((k = 0 ∧ w = -5 ∧ x = 1000) ∨ ∃ d, d < n ∧ w = nI d ∧ x = m.1 64 d) →
    ∃ v, fC_turn_l9 (fun m4 z1 z2 z3 => some (z1, m4)) f1 m w x (nI k) = some (v, m) ∧ fM_turn_l5 (fun m3 z1 z2 => some (z1, m3)) f2 m w (nI k) = some (v, m) := by
  intro j
  induction j with
  | zero =>
    intro k w x f1 f2 hk h1 h2 hi
    obtain ⟨f1', rfl, -⟩ := fu h1
    obtain ⟨f2', rfl, -⟩ := fu h2
    rw [fC_turn_l9, fM_turn_l5, hC, hM, if_pos (nI_le (by omega) (by omega)), if_pos (nI_le (by omega) (by omega))]
    exact ⟨w, rfl, rfl⟩
  | succ j ih =>
    intro k w x f1 f2 hk h1 h2 hi
    obtain ⟨f1', rfl, h1'⟩ := fu h1
    obtain ⟨f2', rfl, h2'⟩ := fu h2
    obtain ⟨d, hd, ed⟩ := hp k (by omega)
    obtain ⟨y, hy, ey⟩ := hs d (by omega)
    rw [fC_turn_l9, fM_turn_l5, hC, hM, if_neg (not_le_nI (by omega) (by omega)), if_neg (not_le_nI (by omega) (by omega)), if_pos (ck_nI (by omega) (by omega)), cl_nI (show k < 100000 by omega), e12, ed]
    simp only [lt, nI_1]
    rw [if_pos (ck_nI (show d < 6 by omega) (by omega)), if_pos (ck_nI (show d < 6 by omega) (by omega)), if_pos (ck_nI (show k < 6 by omega) (by omega)), if_pos (ck_nI (show k < 6 by omega) (by omega)), cl_nI (show d < 100000 by omega), e4]
    rcases hi with ⟨rfl, rfl, rfl⟩ | ⟨d0, hd0, rfl, rfl⟩
    · have c1 : ¬ (1000 : Int32) ≤ m.1 64 d := by rw [ey, show (1000 : Int32) = nI 1000 from rfl, nI_leI (by omega) (by omega)]; omega
      rw [if_neg c1, if_pos (show (-5 : Int32) < 0 by decide)]
      exact ih (0 + 1) (nI d) (m.1 64 d) f1' f2' (by omega) (h1' j rfl) (h2' j rfl) (Or.inr ⟨d, hd, rfl, rfl⟩)
    · rw [if_neg (nI_pos (show d0 < 2 ^ 31 by omega)), if_pos (ck_nI (show d0 < 6 by omega) (by omega)), cl_nI (show d0 < 100000 by omega)]
      try rw [if_pos (ck_nI (show d < 6 by omega) (by omega))]
      by_cases c : m.1 64 d0 ≤ m.1 64 d
      · rw [if_pos c, if_pos c]
        exact ih (k + 1) (nI d0) (m.1 64 d0) f1' f2' (by omega) (h1' j rfl) (h2' j rfl) (Or.inr ⟨d0, hd0, rfl, rfl⟩)
      · rw [if_neg c, if_neg c]
        exact ih (k + 1) (nI d) (m.1 64 d) f1' f2' (by omega) (h1' j rfl) (h2' j rfl) (Or.inr ⟨d, hd, rfl, rfl⟩)
theorem op_turn {sh : Sh} {R : RR} {m : MI} (H : Rel sh R m) : Ans sh R m (fun m => fC_turn m) (fun m => fM_turn m) := by
  have H0 := H
  obtain ⟨⟨n, s, l, q, nn, se, bo, h1, h2, h3, h4, h5, h6, h7, h8, h9, h10, h11, h12, -⟩, -⟩ := H
  obtain ⟨v, a, b⟩ := turn_lock h1.1 h1.2.1 h1.2.2 h10.1 h12.1 h12.2.1 h10.2 n 0 (-5) 1000 1000 1000 (by omega) (by omega) (by omega) (Or.inl ⟨rfl, rfl, rfl⟩)
  exact ⟨v, m, m, a, b, H0⟩
theorem most_lock {m : MI} {n : Nat} (a : Int32) (hn : n ≤ 6) (hC : m.1 1 0 = nI n) (hM : m.1 61 0 = nI n) (e4 : m.1 4 = m.1 64) :
    ∀ (j k d : Nat) (x : Int32) (f1 f2 : Nat), k + j = n → j < f1 → j < f2 → d < n →
    ∃ v, fC_most_l39 a (fun m8 z5 z6 z7 => if a = 0 then some (z5, m8) else if ck z5 6 = true then some ((m8.1 4 z5.toNatClampNeg) - z6, m8) else none) f1 m (nI d) x (nI k) = some (v, m) ∧
      fM_most_l22 a (fun m6 z3 z4 z5 => if z3 < 0 then some (z3, m6) else if a = 0 then some (z3, m6) else if ck z3 6 = true then some ((m6.1 64 z3.toNatClampNeg) - z4, m6) else none) f2 m (nI d) x (nI k) = some (v, m) := by
  intro j
  induction j with
  | zero =>
    intro k d x f1 f2 hk h1 h2 hd
    obtain ⟨f1', rfl, -⟩ := fu h1
    obtain ⟨f2', rfl, -⟩ := fu h2
    rw [fC_most_l39, fM_most_l22, hC, hM, if_pos (nI_le (by omega) (by omega)), if_pos (nI_le (by omega) (by omega)), if_neg (nI_pos (show d < 2 ^ 31 by omega))]
    rw [if_pos (ck_nI (show d < 6 by omega) (by omega)), if_pos (ck_nI (show d < 6 by omega) (by omega)), e4]
    by_cases ha : a = 0
    · simp only [if_pos ha]; exact ⟨_, rfl, rfl⟩
    · simp only [if_neg ha]; exact ⟨_, rfl, rfl⟩
  | succ j ih =>
    intro k d x f1 f2 hk h1 h2 hd
    obtain ⟨f1', rfl, h1'⟩ := fu h1
    obtain ⟨f2', rfl, h2'⟩ := fu h2
    have ckk : ck (nI k) 6 = true := ck_nI (by omega) (by omega)
    have ckd : ck (nI d) 6 = true := ck_nI (by omega) (by omega)
    rw [fC_most_l39, fM_most_l22, hC, hM, if_neg (not_le_nI (by omega) (by omega)), if_neg (not_le_nI (by omega) (by omega)), if_neg (nI_pos (show d < 2 ^ 31 by omega))]
    simp only [ckk, ckd, if_true, lt, nI_1, e4, cl_nI (show k < 100000 by omega), cl_nI (show d < 100000 by omega)]
    have key : (if m.1 64 k < x then m.1 64 k else x) = (if x ≤ m.1 64 k then x else m.1 64 k) := by
      by_cases c : x ≤ m.1 64 k
      · rw [if_pos c, if_neg (Int32.not_lt.mpr c)]
      · rw [if_neg c, if_pos (Int32.not_le.mp c)]
    rw [key]
    by_cases c2 : m.1 64 k ≤ m.1 64 d
    · rw [if_pos c2, if_pos c2]
      obtain ⟨v, p1, p2⟩ := ih (k + 1) d (if x ≤ m.1 64 k then x else m.1 64 k) f1' f2' (by omega) (h1' j rfl) (h2' j rfl) hd
      refine ⟨v, p1, ?_⟩
      by_cases c : x ≤ m.1 64 k
      · rw [if_pos c] at p2 ⊢; exact p2
      · rw [if_neg c] at p2 ⊢; exact p2
    · rw [if_neg c2, if_neg c2]
      obtain ⟨v, p1, p2⟩ := ih (k + 1) k (if x ≤ m.1 64 k then x else m.1 64 k) f1' f2' (by omega) (h1' j rfl) (h2' j rfl) (by omega)
      refine ⟨v, p1, ?_⟩
      by_cases c : x ≤ m.1 64 k
      · rw [if_pos c] at p2 ⊢; exact p2
      · rw [if_neg c] at p2 ⊢; exact p2
theorem most_first {m : MI} {n : Nat} (a : Int32) (kc : MI → Int32 → Int32 → Int32 → Option (Int32 × MI)) (hn : 0 < n ∧ n ≤ 6) (hM : m.1 61 0 = nI n) {y : Nat} (hy : y ≤ 999) (ey : m.1 64 0 = nI y) (f : Nat) : fM_most_l22 a kc (f + 1) m (-5) 999 0 = fM_most_l22 a kc f m (nI 0) (m.1 64 0) (nI 1) := by
  rw [fM_most_l22, hM, if_neg (show ¬ nI n ≤ 0 by rw [show (0 : Int32) = nI 0 from rfl, nI_leI (by omega) (by omega)]; omega), if_pos (show (-5 : Int32) < 0 by decide), if_pos (show ck 0 6 = true from rfl), if_pos (show ck 0 6 = true from rfl)]
  have c0 : (0 : Int32).toNatClampNeg = 0 := rfl
  simp only [lt, c0]
  by_cases c : (999 : Int32) ≤ m.1 64 0
  · have e9 : m.1 64 0 = 999 := by
      rw [ey, show (999 : Int32) = nI 999 from rfl, nI_leI (by omega) (by omega)] at c
      rw [ey, show y = 999 by omega]; rfl
    rw [if_pos c, e9]
    rfl
  · rw [if_neg c]
    rfl
theorem most_zero {m : MI} (a : Int32) (kc : MI → Int32 → Int32 → Int32 → Option (Int32 × MI)) (hM : m.1 61 0 = nI 0) (f : Nat) : fM_most_l22 a kc (f + 1) m (-5) 999 0 = kc m (-5) 999 0 := by
  rw [fM_most_l22, hM, if_pos (show nI 0 ≤ 0 by decide)]
theorem op_most {sh : Sh} {R : RR} {m : MI} (a : Int32) (H : Rel sh R m) : Ans sh R m (fun m => fC_most m a) (fun m => fM_most m a) := by
  have H0 := H
  obtain ⟨⟨n, s, l, q, nn, se, bo, h1, h2, h3, h4, h5, h6, h7, h8, h9, h10, h11, h12, -⟩, -⟩ := H
  obtain ⟨F, hF⟩ : ∃ F : Nat, F = 1000 := ⟨_, rfl⟩
  obtain ⟨F', hF'⟩ : ∃ F' : Nat, F = F' + 1 ∧ 10 < F' := ⟨F - 1, by omega, by omega⟩
  by_cases ha : a < 0 ∨ 1 < a
  · refine ⟨-1, m, m, ?_, ?_, H0⟩
    · by_cases h0 : a < 0
      · show fC_most m a = _
        unfold fC_most
        rw [if_pos h0]
      · have : ¬ a ≤ 1 := Int32.not_le.mpr (ha.resolve_left h0)
        show fC_most m a = _
        unfold fC_most
        rw [if_neg h0, if_neg this]
    · show fM_most m a = _
      unfold fM_most
      rw [M_in0 ha]
      simp only [Option.bind_some]
      rw [if_pos trivial]
  · obtain ⟨a0, a1⟩ := not_or.mp ha
    have a1' : a ≤ 1 := Int32.not_lt.mp a1
    have eM : fM_most m a = fM_most_l22 a (fun m6 z3 z4 z5 => if z3 < 0 then some (z3, m6) else if a = 0 then some (z3, m6) else if ck z3 6 = true then some ((m6.1 64 z3.toNatClampNeg) - z4, m6) else none) F m (-5) 999 0 := by
      unfold fM_most
      rw [M_in1 ha, hF]
      simp only [Option.bind_some]
      rw [if_neg (show ¬ (1 : Int32) = 0 by decide)]
    by_cases hn0 : n = 0
    · subst hn0
      refine ⟨-5, m, m, ?_, ?_, H0⟩
      · show fC_most m a = _
        unfold fC_most
        rw [if_neg a0, if_pos a1', h1.2.1, if_pos (show nI 0 = 0 from rfl)]
      · show fM_most m a = _
        rw [eM, hF'.1, most_zero a _ h1.2.2]
        rfl
    · obtain ⟨y, hy, ey⟩ := h10.2 0 (by omega)
      obtain ⟨v, p1, p2⟩ := most_lock a h1.1 h1.2.1 h1.2.2 h10.1 (n - 1) 1 0 (m.1 64 0) F F' (by omega) (by omega) (by omega) (by omega)
      refine ⟨v, m, m, ?_, ?_, H0⟩
      · show fC_most m a = _
        unfold fC_most
        rw [if_neg a0, if_pos a1', h1.2.1, if_neg (show ¬ nI n = 0 by rw [show (0 : Int32) = nI 0 from rfl, nI_eq (by omega) (by omega)]; exact hn0), show m.1 4 = m.1 64 from h10.1, ← hF]
        exact p1
      · show fM_most m a = _
        rw [eM, hF'.1, most_first a _ (by omega) h1.2.2 hy ey]
        exact p2
def kb (x k : Nat) : Bool := k == 0 || x == k || (k == 1 && x == 4) || (k == 2 && x == 5) || (k == 3 && x == 6)
theorem kind_tab (m : MI) : ∀ x, x < 7 → ∀ k, k < 7 → fC_isKindOf m (nI x) (nI k) = some (if kb x k = true then 1 else 0, m) := by
  intro x hx k hk
  have h7 : ∀ z : Nat, z < 7 → z = 0 ∨ z = 1 ∨ z = 2 ∨ z = 3 ∨ z = 4 ∨ z = 5 ∨ z = 6 := fun z h => by omega
  rcases h7 x hx with rfl | rfl | rfl | rfl | rfl | rfl | rfl <;> rcases h7 k hk with rfl | rfl | rfl | rfl | rfl | rfl | rfl <;> rfl
theorem op_taken {sh : Sh} {R : RR} {m : MI} (a b : Int32) (H : Rel sh R m) : Ans sh R m (fun m => fC_taken m a b) (fun m => fM_taken m a b) := by
  have H0 := H
  obtain ⟨⟨n, s, l, q, nn, se, bo, h1, h2, h3, h4, h5, h6, h7, h8, -⟩, -⟩ := H
  have e2 : m.1 2 = m.1 62 := h8.1
  have i6 : ∀ z : Nat, z < 2 ^ 31 → ((6 : Int32) < nI z ↔ ¬ nI z < 7) := fun z hz => by
    rw [show (6 : Int32) = nI 6 from rfl, show (7 : Int32) = nI 7 from rfl, nI_ltI (by omega) hz, nI_ltI hz (by omega)]; omega
  by_cases hb : b < 0 ∨ 6 < b
  · refine ⟨-2, m, m, ?_, by simp [fM_taken, M_in0 hb], H0⟩
    by_cases b0 : b < 0
    · simp [fC_taken, b0]
    · obtain ⟨z, hz, rfl⟩ := nI_of b0
      simp [fC_taken, b0, (i6 z hz).mp (hb.resolve_left b0)]
  obtain ⟨b0, b6⟩ := not_or.mp hb
  obtain ⟨k, hk, rfl⟩ := nI_of b0
  have b7 : nI k < 7 := Decidable.by_contra fun hh => b6 ((i6 k hk).mpr hh)
  have hk7 : k < 7 := by rwa [show (7 : Int32) = nI 7 from rfl, nI_ltI hk (by omega)] at b7
  rcases dcase (n := n) (by omega) a with hd | ⟨j, hj, rfl, hd⟩
  · exact ⟨-11, m, m, by simp [fC_taken, b0, b7, W_has0 h1.2.1 hd], by simp [fM_taken, M_in1 hb, M_isD0 (by omega) h1.2.2 hd], H0⟩
  obtain ⟨x, hx, ex⟩ := h8.2 j (by omega)
  refine ⟨if kb x k = true then nI x else -12, m, m, ?_, ?_, H0⟩
  · simp only [fC_taken, b0, b7, W_has1 h1.2.1 hd, Option.bind_some, ck_nI (show j < 6 by omega) (show 6 ≤ 100000 by omega), cl_nI (show j < 100000 by omega), e2, ex, kind_tab m x (by omega) k hk7, if_false, if_true, show ¬ (1 : Int32) = 0 from by decide]
    cases kb x k <;> rfl
  · simp only [fM_taken, M_in1 hb, M_isD1 (by omega) h1.2.2 hd, Option.bind_some, ck_nI (show j < 6 by omega) (show 6 ≤ 100000 by omega), cl_nI (show j < 100000 by omega), ex, lt, if_false, if_true, show ¬ (1 : Int32) = 0 from by decide]
    have h7 : ∀ z : Nat, z < 7 → z = 0 ∨ z = 1 ∨ z = 2 ∨ z = 3 ∨ z = 4 ∨ z = 5 ∨ z = 6 := fun z h => by omega
    rcases h7 x (by omega) with rfl | rfl | rfl | rfl | rfl | rfl | rfl <;> rcases h7 k hk7 with rfl | rfl | rfl | rfl | rfl | rfl | rfl <;> rfl
