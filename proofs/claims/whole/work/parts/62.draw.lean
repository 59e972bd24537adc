/-! THE SAME ANSWERS: of, draw -/
def chN (s l pn : Nat) : Nat := if s = 0 then 0 else if l = 0 then 1000000 else 1000000 * (s * pn) / (s * pn + 10 * l)
theorem chN_le (s l pn : Nat) : chN s l pn ≤ 1000000 := by
  unfold chN
  split
  · omega
  split
  · omega
  · rename_i h1 h2
    exact Nat.div_le_of_le_mul (by rw [Nat.mul_comm]; exact Nat.mul_le_mul_right _ (by omega))
section CH
variable {sh : Sh} {R : RR} {m : MI} {hw j x zz yy rr : Nat} {cs : List Cla}
theorem ch_arith {s l pn : Nat} (hs : 0 < s) (hs2 : s ≤ 100) (hl : 0 < l) (hl2 : l ≤ 100) (hp : pn ≤ 3000) : ¬ (lN s * lN pn + lN (10 * l) = 0) ∧ ((1000000 : Int64) * (lN s * lN pn) / (lN s * lN pn + lN (10 * l))).toInt32 = nI (chN s l pn) := by
  have hb : s * pn ≤ 100 * 3000 := Nat.mul_le_mul hs2 hp
  rw [lN_mul, lN_add]
  refine ⟨fun e => by have := (lN_z (by omega)).mp e; omega, ?_⟩
  rw [show (1000000 : Int64) = lN 1000000 from rfl, lN_mul, pk_lDiv (by omega) (by omega) (by omega)]
  unfold chN
  rw [if_neg (by omega), if_neg (by omega), lN_i]
theorem W_chE (hF : Fx sh R) (hj : j < 6) (hx : x ≤ 6) (hz : zz ≤ 999) (h15 : R 1 15 = some hw) (hs : sh[hw]? = some (11, 0)) (hP : PlH sh R m hw cs) {m' : MI} (hD : DC m' m j x (nI yy) zz (nI rr)) {s l pn : Nat} {p : Int32} (hs2 : s ≤ 100) (hl2 : l ≤ 100) (hpn : pn ≤ 3000) (he : pullV cs j x (nI yy) zz (nI rr) (nI s) (nI l) p = nI pn) : ∃ g, fW_chance sh R m' (nI j) p (nI s) (nI l) = some (nI (chN s l pn), mI m' 18 g) := by
  obtain ⟨g, hg⟩ := W_pullE hF hj hx hz h15 hs hP hD (nI s) (nI l) p
  unfold fW_chance
  by_cases s0 : s = 0
  · refine ⟨m'.1 18, ?_⟩
    rw [if_neg (by rw [s0]; decide), mI_id]
    unfold chN
    rw [if_pos s0]; rfl
  · rw [if_pos (show (0 : Int32) < nI s from nI_lt (a := 0) (by omega) (by omega))]
    by_cases l0 : l = 0
    · refine ⟨m'.1 18, ?_⟩
      rw [if_neg (by rw [l0]; decide), mI_id]
      unfold chN
      rw [if_neg s0, if_pos l0]; rfl
    · refine ⟨g, ?_⟩
      obtain ⟨c1, c2⟩ := ch_arith (s := s) (l := l) (pn := pn) (by omega) hs2 (by omega) hl2 hpn
      have e10 : (nI l * 10).toInt64 = lN (10 * l) := by rw [show (10 : Int32) = nI 10 from rfl, pk_mul, nI_l (by omega), Nat.mul_comm]
      rw [if_pos (show (0 : Int32) < nI l from nI_lt (a := 0) (by omega) (by omega)), hg, he]
      simp only [Option.bind_some, ltl, e10, nI_l (show s < 2 ^ 31 by omega), nI_l (show pn < 2 ^ 31 by omega)]
      rw [if_pos c1, c2]
theorem M_chE (hj : j < 6) (hx : x ≤ 6) (hz : zz ≤ 999) (hP : PlH sh R m hw cs) {m' : MI} (hD : DM m' m j x (nI yy) zz (nI rr)) {s l pn : Nat} {p : Int32} (hs2 : s ≤ 100) (hl2 : l ≤ 100) (hpn : pn ≤ 3000) (he : pullV cs j x (nI yy) zz (nI rr) (nI s) (nI l) p = nI pn) : ∃ u g, fM_chance m' (nI j) (nI s) (nI l) p = some (nI (chN s l pn), mI (mI m' 61 u) 76 g) ∧ (∀ i, i ≠ 28 → i ≠ 29 → i ≠ 30 → u i = m'.1 61 i) := by
  obtain ⟨g, hg⟩ := M_pullE hj hx hz hP hD (nI s) (nI l) p
  unfold fM_chance
  by_cases s0 : s = 0
  · refine ⟨m'.1 61, m'.1 76, ?_, fun _ _ _ _ => rfl⟩
    have : nI s = 0 := by rw [s0]; rfl
    rw [if_pos this, if_pos this, mI_id, mI_id]
    unfold chN
    rw [if_pos s0]; rfl
  · have sn : ¬ nI s = 0 := fun e => s0 ((nI_eq (b := 0) (by omega) (by omega)).mp e)
    rw [if_neg sn]
    by_cases l0 : l = 0
    · refine ⟨m'.1 61, m'.1 76, ?_, fun _ _ _ _ => rfl⟩
      rw [if_neg (by rw [l0]; decide), if_neg sn, mI_id, mI_id]
      unfold chN
      rw [if_neg s0, if_pos l0]; rfl
    · refine ⟨upd (upd (upd (m'.1 61) 28 (nI s)) 29 (nI l)) 30 p, g, ?_, fun i h1 h2 h3 => by rw [upd_n h3, upd_n h2, upd_n h1]⟩
      obtain ⟨c1, c2⟩ := ch_arith (s := s) (l := l) (pn := pn) (by omega) hs2 (by omega) hl2 hpn
      have e10 : (10 : Int64) * (nI l).toInt64 = lN (10 * l) := by rw [nI_l (by omega), show (10 : Int64) = lN 10 from rfl, lN_mul]
      rw [if_pos (show (0 : Int32) < nI l from nI_lt (a := 0) (by omega) (by omega)), hg, he]
      simp only [Option.bind_some, ltl, e10, nI_l (show s < 2 ^ 31 by omega), nI_l (show pn < 2 ^ 31 by omega)]
      rw [if_pos c1, c2]
end CH
theorem pj_61 {m : MI} {u : Nat → Int32} (h : ∀ i, i ≠ 28 → i ≠ 29 → i ≠ 30 → u i = m.1 61 i) : pj (mI m 61 u) = pj m := by
  unfold pj
  refine Prod.ext (funext fun k => funext fun i => ?_) rfl
  dsimp only
  by_cases e : k = 61
  · subst e
    rw [mI_s]
    by_cases c : scr 61 i = true
    · rw [if_pos c, if_pos c]
    · rw [if_neg c, if_neg c, h i (fun q => c (by rw [q]; rfl)) (fun q => c (by rw [q]; rfl)) (fun q => c (by rw [q]; rfl))]
  · rw [mI_n e]
/-- what Core says of one drawer -/
theorem drw {m : MI} {n j : Nat} (hj : j < n) (hn : n ≤ 6) (h8 : m.1 2 = m.1 62 ∧ ∀ d, d < 6 → ∃ x, x ≤ 6 ∧ m.1 62 d = nI x) (h9 : m.1 3 = m.1 63 ∧ ∀ d, d < 6 → ∃ x, x ≤ 9 ∧ m.1 63 d = nI x) (h10 : m.1 4 = m.1 64 ∧ ∀ d, d < 6 → ∃ x, x ≤ 999 ∧ m.1 64 d = nI x)
    (h11 : (∀ d p, d < 6 → p < 4 → m.1 (5 + d) p = m.1 65 (4 * d + p)) ∧ ∀ i, i < 24 → ∃ x, x ≤ 9 ∧ m.1 65 i = nI x) : ∃ x yy zz rr, x ≤ 6 ∧ yy ≤ 9 ∧ zz ≤ 999 ∧ rr ≤ 9 ∧ DC m m j x (nI yy) zz (nI rr) ∧ DM m m j x (nI yy) zz (nI rr) := by
  obtain ⟨x, hx, ex⟩ := h8.2 j (by omega)
  obtain ⟨yy, hy, ey⟩ := h9.2 j (by omega)
  obtain ⟨zz, hz, ez⟩ := h10.2 j (by omega)
  obtain ⟨rr, hr, er⟩ := h11.2 (4 * j + zz % 4) (by omega)
  exact ⟨x, yy, zz, rr, hx, hy, hz, hr, ⟨fun _ _ => rfl, by rw [h8.1]; exact ex, by rw [h9.1]; exact ey, by rw [h10.1]; exact ez, by rw [h11.1 j _ (by omega) (by omega)]; exact er⟩, ⟨rfl, fun _ _ => rfl, ex, ey, ez, er⟩⟩
theorem op_of {sh : Sh} {R : RR} {m : MI} (a b : Int32) (H : Rel sh R m) : Ans sh R m (fun m => fC_of sh R m a b) (fun m => fM_of m a b) := by
  have H0 := H
  have hF := Fx_of H.2.2.2.2.2
  obtain ⟨hw, ha, hz, hC⟩ := cur_hut H.2.2.2.2.2 H.2.2.2.2.1
  obtain ⟨hr1, hs1, hd1, ha1, hz1, hv1, hv2, -⟩ := hC
  obtain ⟨cs, hP⟩ := cur_pl H.2.2.2.2.2 hr1
  obtain ⟨⟨n, s, l, q, nn, se, bo, h1, h2, h3, h4, h5, h6, h7, h8, h9, h10, h11, h12, h13, h14, h15⟩, -⟩ := H
  obtain ⟨F, hF1⟩ : ∃ F : Nat, F = 1000 := ⟨_, rfl⟩
  have one : ¬ (1 : Int32) = 0 := by decide
  have e12 : m.1 12 = m.1 66 := h12.1
  rcases dcase (n := n) (by omega) a with hA | ⟨j, hj, rfl, hA⟩
  · exact ⟨-1, m, m, by simp [fC_of, W_has0 h1.2.1 hA], by simp [fM_of, M_isD0 (by omega) h1.2.2 hA], H0⟩
  obtain ⟨p, hp, hpa⟩ := h12.2.2.1 j hj
  have hq : ∀ k, k < n → m.1 66 k = nI j → k = p := fun k hk e => h12.2.2.2 k p hk hp (e.trans hpa.symm)
  have hq' : ∀ k, k < p → m.1 66 k ≠ nI j := fun k hk e => by have := hq k (by omega) e; omega
  have hCp : fW_placeOf m (nI j) = some (nI p, m) := by
    unfold fW_placeOf
    rw [show (0 : Int32) = nI 0 from rfl, ← hF1, W_pl h1.1 h1.2.1 hp (by rw [e12]; exact hpa) (by rw [e12]; exact hq') _ p 0 F (by omega) (by omega)]
  have hMp : ∀ m' : MI, m'.1 66 = m.1 66 → fM_placeOf m' (nI j) = some (nI p, m') := fun m' e => by
    unfold fM_placeOf
    rw [show (0 : Int32) = nI 0 from rfl, ← hF1, M_pl h1.1 hp (by rw [e]; exact hpa) (by rw [e]; exact hq') _ p 0 F (by omega) (by omega)]
  have ckj : ck (nI j) 6 = true := ck_nI (by omega) (by omega)
  have clj := cl_nI (show j < 100000 by omega)
  have e2 : m.1 2 = m.1 62 := h8.1
  have e3 : m.1 3 = m.1 63 := h9.1
  have e4 : m.1 4 = m.1 64 := h10.1
  obtain ⟨x, yy, zz, rr, hx, hy, hzz, hrr, dC, dM⟩ := drw hj h1.1 h8 h9 h10 h11
  obtain ⟨pn, hpn, hpv⟩ := pull_nat (cs := cs) hP.1 (j := j) (x := x) (zz := zz) hy hrr (nI s) (nI l) (nI p)
  by_cases b0 : b = 0
  · subst b0
    refine ⟨m.1 62 j, m, m, ?_, ?_, H0⟩
    · show fC_of sh R m (nI j) 0 = _
      unfold fC_of
      rw [W_has1 h1.2.1 hA]
      simp only [Option.bind_some, if_neg one, hCp, if_true, ckj, clj, e2]
    · show fM_of m (nI j) 0 = _
      unfold fM_of
      rw [M_isD1 (show n ≤ 1000 by omega) h1.2.2 hA]
      simp only [Option.bind_some, if_neg one, if_true, ckj, clj]
  by_cases b1 : b = 1
  · subst b1
    refine ⟨m.1 63 j, m, m, ?_, ?_, H0⟩
    · show fC_of sh R m (nI j) 1 = _
      unfold fC_of
      rw [W_has1 h1.2.1 hA]
      simp only [Option.bind_some, if_neg one, hCp, if_true, ckj, clj, e3]
    · show fM_of m (nI j) 1 = _
      unfold fM_of
      rw [M_isD1 (show n ≤ 1000 by omega) h1.2.2 hA]
      simp only [Option.bind_some, if_neg one, if_true, ckj, clj]
  by_cases b2 : b = 2
  · subst b2
    refine ⟨m.1 64 j, m, m, ?_, ?_, H0⟩
    · show fC_of sh R m (nI j) 2 = _
      unfold fC_of
      rw [W_has1 h1.2.1 hA]
      simp only [Option.bind_some, if_neg one, hCp, if_true, ckj, clj, e4, if_neg b0, if_neg b1]
    · show fM_of m (nI j) 2 = _
      unfold fM_of
      rw [M_isD1 (show n ≤ 1000 by omega) h1.2.2 hA]
      simp only [Option.bind_some, if_neg one, if_true, ckj, clj, if_neg b0, if_neg b1]
  by_cases b3 : b = 3
  · subst b3
    refine ⟨nI p, m, m, ?_, ?_, H0⟩
    · show fC_of sh R m (nI j) 3 = _
      unfold fC_of
      rw [W_has1 h1.2.1 hA]
      simp only [Option.bind_some, if_neg one, hCp, if_true, if_neg b0, if_neg b1, if_neg b2]
    · show fM_of m (nI j) 3 = _
      unfold fM_of
      rw [M_isD1 (show n ≤ 1000 by omega) h1.2.2 hA]
      simp only [Option.bind_some, if_neg one, hMp m rfl, if_true, if_neg b0, if_neg b1, if_neg b2]
  by_cases b4 : b = 4
  · subst b4
    obtain ⟨g, hg⟩ := W_pullE hF (show j < 6 by omega) hx hzz hr1 hs1 hP dC (nI s) (nI l) (nI p)
    have dM' : DM (mI m 18 g) m j x (nI yy) zz (nI rr) := by
      obtain ⟨q1, q2, q3, q4, q5, q6⟩ := dM
      exact ⟨by rw [mI_n (by decide)], fun k hk => by rw [mI_n (by omega)], by rw [mI_n (by decide)]; exact q3, by rw [mI_n (by decide)]; exact q4, by rw [mI_n (by decide)]; exact q5, by rw [mI_n (by decide)]; exact q6⟩
    obtain ⟨g', hg'⟩ := M_pullE (show j < 6 by omega) hx hzz hP dM' (nI s) (nI l) (nI p)
    refine ⟨pullV cs j x (nI yy) zz (nI rr) (nI s) (nI l) (nI p), mI m 18 g, mI (mI (mI m 18 g) 61 (upd (upd (upd ((mI m 18 g).1 61) 28 (nI s)) 29 (nI l)) 30 (nI p))) 76 g', ?_, ?_, Rel_pj (Eq.trans (pj_row (k := 76) (fun _ => rfl)) (Eq.trans (pj_61 (fun i h1 h2 h3 => by rw [upd_n h3, upd_n h2, upd_n h1])) (pj_row (k := 18) (g := g) (fun _ => rfl)))) H0⟩
    · show fC_of sh R m (nI j) 4 = _
      unfold fC_of
      rw [W_has1 h1.2.1 hA]
      simp only [Option.bind_some, if_neg one, hCp, if_true, if_neg b0, if_neg b1, if_neg b2, if_neg b3, h2.2.2.1, h3.2.1, hg]
    · show fM_of (mI m 18 g) (nI j) 4 = _
      unfold fM_of
      rw [M_isD1 (show n ≤ 1000 by omega) (show (mI m 18 g).1 61 0 = nI n by rw [mI_n (by decide)]; exact h1.2.2) hA]
      simp only [Option.bind_some, if_neg one, hMp (mI m 18 g) (mI_n (by decide)), if_true, if_neg b0, if_neg b1, if_neg b2, if_neg b3]
      rw [show (mI m 18 g).1 61 2 = nI s by rw [mI_n (by decide)]; exact h2.2.2.2, show (mI m 18 g).1 61 3 = nI l by rw [mI_n (by decide)]; exact h3.2.2, hg']
      rfl
  by_cases b5 : b = 5
  · subst b5
    obtain ⟨g, hg⟩ := W_chE hF (show j < 6 by omega) hx hzz hr1 hs1 hP dC (s := s) (l := l) (by omega) (by omega) hpn hpv
    have dM' : DM (mI m 18 g) m j x (nI yy) zz (nI rr) := by
      obtain ⟨q1, q2, q3, q4, q5, q6⟩ := dM
      exact ⟨by rw [mI_n (by decide)], fun k hk => by rw [mI_n (by omega)], by rw [mI_n (by decide)]; exact q3, by rw [mI_n (by decide)]; exact q4, by rw [mI_n (by decide)]; exact q5, by rw [mI_n (by decide)]; exact q6⟩
    obtain ⟨u, g', hg', hu⟩ := M_chE (show j < 6 by omega) hx hzz hP dM' (s := s) (l := l) (by omega) (by omega) hpn hpv
    refine ⟨nI (chN s l pn), mI m 18 g, mI (mI (mI m 18 g) 61 u) 76 g', ?_, ?_, Rel_pj (Eq.trans (pj_row (k := 76) (fun _ => rfl)) (Eq.trans (pj_61 hu) (pj_row (k := 18) (g := g) (fun _ => rfl)))) H0⟩
    · show fC_of sh R m (nI j) 5 = _
      unfold fC_of
      rw [W_has1 h1.2.1 hA]
      simp only [Option.bind_some, if_neg one, hCp, if_true, if_neg b0, if_neg b1, if_neg b2, if_neg b3, if_neg b4, h2.2.2.1, h3.2.1, hg]
    · show fM_of (mI m 18 g) (nI j) 5 = _
      unfold fM_of
      rw [M_isD1 (show n ≤ 1000 by omega) (show (mI m 18 g).1 61 0 = nI n by rw [mI_n (by decide)]; exact h1.2.2) hA]
      simp only [Option.bind_some, if_neg one, hMp (mI m 18 g) (mI_n (by decide)), if_true, if_neg b0, if_neg b1, if_neg b2, if_neg b3, if_neg b4]
      rw [show (mI m 18 g).1 61 2 = nI s by rw [mI_n (by decide)]; exact h2.2.2.2, show (mI m 18 g).1 61 3 = nI l by rw [mI_n (by decide)]; exact h3.2.2, hg']
      rfl
  refine ⟨-1, m, m, ?_, ?_, H0⟩
  · show fC_of sh R m (nI j) b = _
    unfold fC_of
    rw [W_has1 h1.2.1 hA]
    simp only [Option.bind_some, if_neg one, hCp, if_neg b0, if_neg b1, if_neg b2, if_neg b3, if_neg b4, if_neg b5]
  · show fM_of m (nI j) b = _
    unfold fM_of
    rw [M_isD1 (show n ≤ 1000 by omega) h1.2.2 hA]
    simp only [Option.bind_some, if_neg one, if_neg b0, if_neg b1, if_neg b2, if_neg b3, if_neg b4, if_neg b5]
