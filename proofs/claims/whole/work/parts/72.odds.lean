theorem odds_tail {m2 : MI} {y : Nat} (hy : y ≤ 1000000) (b : Int32) : ((some (nI y, m2) : Option (Int32 × MI)).bind fun r6 => (fC_lowest r6.2 (r6.1.toInt64) 1000000 b).bind fun r7 => some (r7.1, r7.2)) = some (low y 1000000 b, m2) := by
  have hlow := C_low (m := m2) (a := y) (b := 1000000) b (by omega) (by omega)
  rw [Option.bind_some]
  show (fC_lowest m2 ((nI y).toInt64) (lN 1000000) b).bind _ = _
  rw [nI_l (show y < 2 ^ 31 by omega), hlow, Option.bind_some]
theorem op_odds {sh : Sh} {R : RR} {m : MI} (c b : Int32) (H : Rel sh R m) : Ans sh R m (fun m => fC_odds sh R m c b) (fun m => fM_odds m c b) := by
  obtain ⟨hw, a, z, cs, P, n, o, hF, hC, hP, hD, ⟨hn, h0, h0'⟩, o1, o2, o3, o4, o5, h34⟩ := night H
  have hA := hC.2.2.2.1
  have hZ := hC.2.2.2.2.1
  have one : ¬ (1 : Int32) = 0 := by decide
  rcases dcase (n := n) (by omega) c with hd | ⟨d, hd, rfl, hd'⟩
  · refine ⟨-9223372036854775808, m, m, ?_, ?_, H⟩
    · show fC_odds sh R m c b = _
      unfold fC_odds
      rw [W_has0 h0 hd]
      simp only [Option.bind_some]
      rw [if_pos trivial]
    · show fM_odds m c b = _
      unfold fM_odds
      rw [M_isD0 (show n ≤ 1000 by omega) h0' hd]
      simp only [Option.bind_some]
      rw [if_pos trivial]
  by_cases hb : b < 0 ∨ 1 < b
  · refine ⟨-9223372036854775808, m, m, ?_, ?_, H⟩
    · show fC_odds sh R m (nI d) b = _
      unfold fC_odds
      rw [W_has1 h0 hd']
      simp only [Option.bind_some, if_neg one]
      rw [C_part, if_pos hb]
      simp only [Option.bind_some]
      rw [if_pos trivial]
    · show fM_odds m (nI d) b = _
      unfold fM_odds
      rw [M_isD1 (show n ≤ 1000 by omega) h0' hd']
      simp only [Option.bind_some, if_neg one]
      rw [M_in0 hb]
      simp only [Option.bind_some]
      rw [if_pos trivial]
  obtain ⟨i, hi, rfl⟩ := o3 d hd
  obtain ⟨m1, a1, a2, a3, a4⟩ := L_beg (P := P) hF hC hn h0 0 (m' := m) rfl
  rw [show nI 0 = (0 : Int32) from rfl] at a1
  obtain ⟨m2, b1, b2, b3, b4⟩ := C_go_12 (T := a + (n + z - a) + 0) (S := a) hF hC.1 hC.2.1 hP hD hn (by omega) (by omega) h0 o1 o2 m1 a2 (fun i hi => by rw [a3 _ (by decide) (by decide), o5]; exact o4 i hi)
  obtain ⟨m3, c1, c2, c3, c4⟩ := M_go (S := a) (L := n + z - a) (X := 0) hP hD hn (by omega) h0' o1 o2 o4 (by omega) h34 (fun m' e => (M_whole hC hn h0' e).1) (fun m' e => (M_whole hC hn h0' e).2) m2 b2.1
  have cko : ck (nI (o i)) 6 = true := ck_nI (by omega) (by omega)
  have clo := cl_nI (show o i < 100000 by omega)
  obtain ⟨y, bg, q1, q2⟩ : ∃ y : Nat, y ≤ 1000000 ∧ m2.1 38 (o i) = nI y ∧ m3.1 77 (o i) = nI y := ⟨gon P (a + (n + z - a) + 0) a o i, gon_le (show a ≤ 3 by omega) i, b4 i hi, c4 i hi⟩
  refine ⟨low y 1000000 b, m2, m3, ?_, ?_, Rel_pj c2 H⟩
  · show fC_odds sh R m (nI (o i)) b = _
    unfold fC_odds fL_ofOne_12
    rw [W_has1 h0 hd']
    simp only [Option.bind_some, if_neg one]
    rw [C_part, if_neg hb]
    simp only [Option.bind_some, if_neg one]
    rw [a1]
    simp only [Option.bind_some]
    rw [b1]
    simp only [Option.bind_some]
    rw [if_pos cko, clo, q1]
    exact odds_tail bg b
  · show fM_odds m2 (nI (o i)) b = _
    unfold fM_odds
    rw [M_isD1 (show n ≤ 1000 by omega) (by rw [pj_at b2.1 rfl]; exact h0') hd']
    simp only [Option.bind_some, if_neg one]
    rw [M_in1 hb]
    simp only [Option.bind_some, if_neg one]
    rw [c1]
    simp only [Option.bind_some]
    rw [if_pos cko, clo, q2, nI_l (show y < 2 ^ 31 by omega)]
    have hlow := M_low (m := m3) (a := y) (b := 1000000) b (by omega) (by omega)
    rw [show (1000000 : Int64) = lN 1000000 from rfl]
    exact (congrArg (fun r : Option (Int64 × MI) => r.bind fun r7 => some (r7.1, r7.2)) hlow).trans rfl
