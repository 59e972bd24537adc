/-! THE SAME ANSWERS: odds, mean -/
def smG (G : Nat → Nat) : Nat → Nat
  | 0 => 0
  | k + 1 => smG G k + G k
theorem smG_le {G : Nat → Nat} (h : ∀ k, G k ≤ 1000000) : ∀ k, smG G k ≤ 1000000 * k
  | 0 => Nat.le_refl _
  | k + 1 => by
    have := smG_le h k
    have := h k
    show smG G k + G k ≤ 1000000 * (k + 1)
    omega
theorem mean_C {m : MI} {n : Nat} {G : Nat → Nat} (hn : n ≤ 6) (h0 : m.1 1 0 = nI n) (hG : ∀ k, G k ≤ 1000000) (h : ∀ d, d < n → m.1 38 d = nI (G d)) (u : Int32) (kc : MI → Int64 → Int32 → Option (Int64 × MI)) : ∀ (q k f : Nat), k + q = n → q < f → fC_mean_l48 u kc f m (lN (smG G k)) (nI k) = kc m (lN (smG G n)) (nI n) := by
  intro q
  induction q with
  | zero =>
    intro k f hk hf
    obtain ⟨f', rfl, -⟩ := fu hf
    have : k = n := by omega
    subst this
    rw [fC_mean_l48, h0, if_pos (Int32.le_refl _)]
  | succ q ih =>
    intro k f hk hf
    obtain ⟨f', rfl, hf'⟩ := fu hf
    have := hG k
    rw [fC_mean_l48, h0, if_neg (not_le_nI (by omega) (by omega))]
    simp only [ck_nI (show k < 6 by omega) (show 6 ≤ 100000 by omega), cl_nI (show k < 100000 by omega), if_true, h k (by omega), nI_l (show G k < 2 ^ 31 by omega), ltl, lt, lN_add, nI_1]
    exact ih (k + 1) f' (by omega) (hf' q rfl)
theorem mean_M {m : MI} {n : Nat} {G : Nat → Nat} (hn : n ≤ 6) (h0 : m.1 61 0 = nI n) (hG : ∀ k, G k ≤ 1000000) (h : ∀ d, d < n → m.1 77 d = nI (G d)) (u : Int32) (kc : MI → Int64 → Int32 → Option (Int64 × MI)) : ∀ (q k f : Nat), k + q = n → q < f → fM_mean_l30 u kc f m (lN (smG G k)) (nI k) = kc m (lN (smG G n)) (nI n) := by
  intro q
  induction q with
  | zero =>
    intro k f hk hf
    obtain ⟨f', rfl, -⟩ := fu hf
    have : k = n := by omega
    subst this
    rw [fM_mean_l30, h0, if_pos (Int32.le_refl _)]
  | succ q ih =>
    intro k f hk hf
    obtain ⟨f', rfl, hf'⟩ := fu hf
    have := hG k
    rw [fM_mean_l30, h0, if_neg (not_le_nI (by omega) (by omega))]
    simp only [ck_nI (show k < 6 by omega) (show 6 ≤ 100000 by omega), cl_nI (show k < 100000 by omega), if_true, h k (by omega), nI_l (show G k < 2 ^ 31 by omega), ltl, lt, lN_add, nI_1]
    exact ih (k + 1) f' (by omega) (hf' q rfl)
theorem op_mean {sh : Sh} {R : RR} {m : MI} (b : Int32) (H : Rel sh R m) : Ans sh R m (fun m => fC_mean sh R m b) (fun m => fM_mean m b) := by
  obtain ⟨hw, a, z, cs, P, n, o, hF, hC, hP, hD, ⟨hn, h0, h0'⟩, o1, o2, o3, o4, o5, h34⟩ := night H
  have hA := hC.2.2.2.1
  have hZ := hC.2.2.2.2.1
  have one : ¬ (1 : Int32) = 0 := by decide
  obtain ⟨F, hF1⟩ : ∃ F : Nat, F = 1000 := ⟨_, rfl⟩
  by_cases hb : b < 0 ∨ 1 < b
  · refine ⟨-9223372036854775808, m, m, ?_, ?_, H⟩
    · show fC_mean sh R m b = _
      unfold fC_mean
      rw [C_part, if_pos hb]
      simp only [Option.bind_some]
      rw [if_pos trivial]
    · show fM_mean m b = _
      unfold fM_mean
      rw [M_in0 hb]
      simp only [Option.bind_some]
      rw [if_pos trivial]
  by_cases hn0 : n = 0
  · have z0 : nI n = 0 := by rw [hn0]; rfl
    refine ⟨-9223372036854775808, m, m, ?_, ?_, H⟩
    · show fC_mean sh R m b = _
      unfold fC_mean
      rw [C_part, if_neg hb]
      simp only [Option.bind_some, if_neg one, h0]
      rw [if_pos z0]
    · show fM_mean m b = _
      unfold fM_mean
      rw [M_in1 hb]
      simp only [Option.bind_some, if_neg one, h0']
      rw [if_pos z0]
  have nz : ¬ nI n = 0 := fun e => hn0 ((nI_eq (b := 0) (by omega) (by omega)).mp e)
  obtain ⟨m1, a1, a2, a3, a4⟩ := L_beg (P := P) hF hC hn h0 0 (m' := m) rfl
  rw [show nI 0 = (0 : Int32) from rfl] at a1
  obtain ⟨m2, b1, b2, b3, b4⟩ := C_go_12 (T := a + (n + z - a) + 0) (S := a) hF hC.1 hC.2.1 hP hD hn (by omega) (by omega) h0 o1 o2 m1 a2 (fun i hi => by rw [a3 _ (by decide) (by decide), o5]; exact o4 i hi)
  obtain ⟨m3, c1, c2, c3, c4⟩ := M_go (S := a) (L := n + z - a) (X := 0) hP hD hn (by omega) h0' o1 o2 o4 (by omega) h34 (fun m' e => (M_whole hC hn h0' e).1) (fun m' e => (M_whole hC hn h0' e).2) m2 b2.1
  obtain ⟨G, g1, g2⟩ := byDr (o := o) (n := n) (gon_le (P := P) (T := a + (n + z - a) + 0) (o := o) (show a ≤ 3 by omega)) o2
  have q1 : ∀ d, d < n → m2.1 38 d = nI (G d) := fun d hd => by
    obtain ⟨i, hi, rfl⟩ := o3 d hd
    rw [g1 i hi]; exact b4 i hi
  have q2 : ∀ d, d < n → m3.1 77 d = nI (G d) := fun d hd => by
    obtain ⟨i, hi, rfl⟩ := o3 d hd
    rw [g1 i hi]; exact c4 i hi
  have hs := smG_le g2 n
  refine ⟨low (smG G n) 1000000 b, m2, m3, ?_, ?_, Rel_pj c2 H⟩
  · show fC_mean sh R m b = _
    unfold fC_mean
    rw [C_part, if_neg hb, ← hF1]
    simp only [Option.bind_some, if_neg one, h0]
    rw [if_neg nz, a1]
    simp only [Option.bind_some]
    rw [b1]
    simp only [Option.bind_some]
    have := mean_C (m := m2) hn (by rw [pj_at b2.1 rfl]; exact h0) g2 q1 b (fun m8 z6 _ => (fC_lowest m8 z6 1000000 b).bind fun r9 => some (r9.1, r9.2)) n 0 F (by omega) (by omega)
    refine Eq.trans this ?_
    rw [show (1000000 : Int64) = lN 1000000 from rfl, C_low b (by omega) (by omega)]
    simp only [Option.bind_some]
  · show fM_mean m2 b = _
    unfold fM_mean
    rw [M_in1 hb, ← hF1]
    simp only [Option.bind_some, if_neg one, show m2.1 61 0 = nI n by rw [pj_at b2.1 rfl]; exact h0']
    rw [if_neg nz, c1]
    simp only [Option.bind_some]
    have := mean_M (m := m3) hn (by rw [pj_at c2 rfl]; exact h0') g2 q2 b (fun m7 z5 _ => (fM_lowest m7 z5 1000000 b).bind fun r8 => some (r8.1, r8.2)) n 0 F (by omega) (by omega)
    refine Eq.trans this ?_
    rw [show (1000000 : Int64) = lN 1000000 from rfl, M_low b (by omega) (by omega)]
    simp only [Option.bind_some]
