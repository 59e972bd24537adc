theorem pj_put {m m' : MI} {k : Nat} {g : Nat → Int32} (e : pj m' = pj m) : pj (mI m' k g) = pj (mI m k g) := by
  refine Prod.ext (funext fun k' => funext fun i => ?_) (show (pj m').2 = (pj m).2 from congrArg Prod.snd e)
  show (if scr k' i = true then 0 else _) = (if scr k' i = true then 0 else _)
  by_cases c : scr k' i = true
  · rw [if_pos c, if_pos c]
  · rw [if_neg c, if_neg c]
    by_cases ek : k' = k
    · subst ek; rw [mI_s, mI_s]
    · rw [mI_n ek, mI_n ek]; exact pj_at e (by simpa using c)
section SG
variable {sh : Sh} {R : RR} {m : MI} {hw a z n : Nat} {cs : List Cla} {P : Nat → Int32 → Int32 → Int32 → Int32} {o : Nat → Nat}
/-- the night with another order laid in the reference -/
theorem M_goO (N : Ngt sh R m hw a z cs P n o) {O : Nat → Int32} {o' : Nat → Nat} (h1 : ∀ i, i < n → o' i < n) (h2 : ∀ i j, i < n → j < n → o' i = o' j → i = j) (h3 : ∀ i, i < n → O i = nI (o' i)) {m' : MI} (e : pj m' = pj (mI m 66 O)) :
    ∃ m'', fM_layLikely m' = some m'' ∧ pj m'' = pj (mI m 66 O) ∧ (∀ k, k ∉ [61, 76, 77, 78, 79] → m''.1 k = m'.1 k) ∧ ∀ i, i < n → m''.1 77 (o' i) = nI (gon P (a + (n + z - a) + 0) a o' i) := by
  obtain ⟨hF, hC, hP, hD, ⟨hn, h0, h0'⟩, o1, o2, o3, o4, o5, h34⟩ := N
  have hA := hC.2.2.2.1
  have hZ := hC.2.2.2.2.1
  have hd1 := hC.2.2.1
  have kk : ∀ k', k' ≠ 66 → (mI m 66 O).1 k' = m.1 k' := fun k' h => mI_n h
  have hC' : CurH sh R (mI m 66 O) hw a z := CurH_cg (kk hw (by omega)) (by rw [kk 61 (by decide)]) (fun k' hk' => kk k' (by omega)) hC
  have hP' : PlH sh R (mI m 66 O) hw cs := PlH_cg (fun k' hk' => kk k' (by omega)) (by rw [kk 61 (by decide)]) (fun k' hk' => kk k' (by omega)) hP
  have hD' : Drs P cs (mI m 66 O) n := Drs_cg hn (fun k' hk' => kk k' (by omega)) (fun k' hk' => kk k' (by omega)) hD
  have h0k : (mI m 66 O).1 61 0 = nI n := by rw [kk 61 (by decide)]; exact h0'
  exact M_go (S := a) (L := n + z - a) (X := 0) hP' hD' hn (by omega) h0k h1 h2 (fun i hi => by rw [mI_s]; exact h3 i hi) (by omega) (by rw [kk 61 (by decide)]; exact h34) (fun m' e => (M_whole hC' hn h0k e).1) (fun m' e => (M_whole hC' hn h0k e).2) m' e
theorem sf_M (N : Ngt sh R m hw a z cs P n o) {p : Nat} (hp : p < n) (u2 : Int32) (kc : MI → Int32 → Int32 → Int32 → Option (Int32 × MI)) : ∀ (q k f b : Nat) (O : Nat → Int32) (m' : MI), k + q = n → q < f → b < n → (∀ i, i < n → O i = nI (o (sg p b i))) → (∀ i, n ≤ i → O i = m.1 66 i) → pj m' = pj (mI m 66 O) →
    ∃ m'' O', (∀ i, n ≤ i → O' i = m.1 66 i) ∧ pj m'' = pj (mI m 66 O') ∧ m''.1 80 = m'.1 80 ∧ fM_safest_l34 (nI (o p)) u2 kc f m' (nI (sfF (fun b => gon P (a + (n + z - a) + 0) a (fun i => o (sg p b i)) b) k).1) (nI (sfF (fun b => gon P (a + (n + z - a) + 0) a (fun i => o (sg p b i)) b) k).2) (nI k) = kc m'' (nI (sfF (fun b => gon P (a + (n + z - a) + 0) a (fun i => o (sg p b i)) b) n).1) (nI (sfF (fun b => gon P (a + (n + z - a) + 0) a (fun i => o (sg p b i)) b) n).2) (nI n) := by
  have N0 := N
  obtain ⟨hF, hC, hP, hD, ⟨hn, h0, h0'⟩, o1, o2, o3, o4, o5, h34⟩ := N
  have hA := hC.2.2.2.1
  have hZ := hC.2.2.2.2.1
  have bd : ∀ b, gon P (a + (n + z - a) + 0) a (fun i => o (sg p b i)) b ≤ 1000000 := fun b => gon_le (by omega) b
  have cko : ck (nI (o p)) 6 = true := ck_nI (by have := o1 p hp; omega) (by omega)
  have clo := cl_nI (show o p < 100000 by have := o1 p hp; omega)
  intro q
  induction q with
  | zero =>
    intro k f b O m' hk hf hb hO1 hO2 e
    obtain ⟨f', rfl, -⟩ := fu hf
    have : k = n := by omega
    subst this
    refine ⟨m', O, hO2, e, rfl, ?_⟩
    rw [fM_safest_l34, show m'.1 61 0 = nI k by rw [pj_at e rfl, mI_n (by decide)]; exact h0', if_pos (Int32.le_refl _)]
  | succ q ih =>
    intro k f b O m' hk hf hb hO1 hO2 e
    obtain ⟨f', rfl, hf'⟩ := fu hf
    have e66 : m'.1 66 = O := by rw [pj_rw e (scr_r (by decide)), mI_s]
    have hOb : O b = nI (o p) := by rw [hO1 b hb, sg_self]
    have hne : ∀ j, j < b → O j ≠ nI (o p) := fun j hj ee => by
      rw [hO1 j (by omega)] at ee
      have b1 := o1 _ (sg_lt hp hb (show j < n by omega))
      have b2 := o1 p hp
      have := o2 _ _ (sg_lt hp hb (show j < n by omega)) hp ((nI_eq (by omega) (by omega)).mp ee)
      rw [← sg_self (p := p) (b := b)] at this
      have := sg_inj (this.trans (by rw [sg_self]; exact sg_self.symm))
      omega
    obtain ⟨O', p1, p2, p3⟩ := M_putsE (m := m') (n := n) (p := b) (d := k) (a := nI (o p)) hn hb (by omega) (by rw [e66]; exact hOb) (by rw [e66]; exact hne)
    rw [e66] at p2 p3
    have hO1' : ∀ i, i < n → O' i = nI (o (sg p k i)) := fun i hi => by rw [p2 i hi, ordR_sg hOb, hO1 _ (sg_lt hb (by omega) hi), sg_sg]
    have hO2' : ∀ i, n ≤ i → O' i = m.1 66 i := fun i hi => by rw [p3 i hi, hO2 i hi]
    have e' : pj (mI m' 66 O') = pj (mI m 66 O') := by rw [pj_put (k := 66) (g := O') e, mI_mI]
    obtain ⟨m2, b1, b2, b3, b4⟩ := M_goO N0 (o' := fun i => o (sg p k i)) (fun i hi => o1 _ (sg_lt hp (by omega) hi)) (fun i j hi hj e => sg_inj (o2 _ _ (sg_lt hp (by omega) hi) (sg_lt hp (by omega) hj) e)) hO1' e'
    have hv := b4 k (by omega)
    simp only [sg_self] at hv
    have bs := sfF_le bd k
    have bk := bd k
    rw [fM_safest_l34, show m'.1 61 0 = nI n by rw [pj_at e rfl, mI_n (by decide)]; exact h0', if_neg (not_le_nI (by omega) (by omega)), p1]
    simp only [Option.bind_some, b1, cko, clo, if_true, hv, lt, nI_1]
    obtain ⟨m3, O3, k0, k1, k2, k3⟩ := ih (k + 1) f' k O' m2 (by omega) (hf' q rfl) (by omega) hO1' hO2' b2
    refine ⟨m3, O3, k0, k1, by rw [k2, b3 _ (by decide), mI_n (by decide)], ?_⟩
    rw [← k3]
    by_cases c : (sfF (fun b => gon P (a + (n + z - a) + 0) a (fun i => o (sg p b i)) b) k).2 ≤ gon P (a + (n + z - a) + 0) a (fun i => o (sg p k i)) k
    · rw [if_neg (show ¬ nI (gon P (a + (n + z - a) + 0) a (fun i => o (sg p k i)) k) < nI (sfF (fun b => gon P (a + (n + z - a) + 0) a (fun i => o (sg p b i)) b) k).2 from nI_nlt c (by omega))]
      simp only [sfF, if_pos c]
    · rw [if_pos (show nI (gon P (a + (n + z - a) + 0) a (fun i => o (sg p k i)) k) < nI (sfF (fun b => gon P (a + (n + z - a) + 0) a (fun i => o (sg p b i)) b) k).2 from nI_lt (by omega) (by omega))]
      simp only [sfF, if_neg c]
end SG
theorem op_safest {sh : Sh} {R : RR} {m : MI} (c b : Int32) (H : Rel sh R m) : Ans sh R m (fun m => fC_safest sh R m c b) (fun m => fM_safest m c b) := by
  obtain ⟨hw, a, z, cs, P, n, o, N⟩ := night H
  have N0 := N
  obtain ⟨hF, hC, hP, hD, ⟨hn, h0, h0'⟩, o1, o2, o3, o4, o5, h34⟩ := N
  obtain ⟨F, hF1⟩ : ∃ F : Nat, F = 1000 := ⟨_, rfl⟩
  have one : ¬ (1 : Int32) = 0 := by decide
  rcases dcase (n := n) (by omega) c with hd | ⟨d, hd, rfl, hd'⟩
  · exact ⟨-1, m, m, by simp [fC_safest, W_has0 h0 hd], by simp [fM_safest, M_isD0 (by omega) h0' hd], H⟩
  by_cases hb : b < 0 ∨ 1 < b
  · refine ⟨-1, m, m, ?_, by simp [fM_safest, M_isD1 (show n ≤ 1000 by omega) h0' hd', M_in0 hb], H⟩
    by_cases b0 : b < 0
    · simp [fC_safest, W_has1 h0 hd', b0]
    · have : ¬ b ≤ 1 := Int32.not_le.mpr (hb.resolve_left b0)
      simp [fC_safest, W_has1 h0 hd', b0, this]
  obtain ⟨b0, b1⟩ := not_or.mp hb
  have b1' : b ≤ 1 := Int32.not_lt.mp b1
  obtain ⟨p, hp, rfl⟩ := o3 d hd
  obtain ⟨mA, a1, a2, a3, a4⟩ := L_beg (P := P) hF hC hn h0 0 (m' := m) rfl
  obtain ⟨m1, e1, r1⟩ := sf_C N0 hp b (fun m9 z6 z7 _ => if b = 0 then some (z6, m9) else some (z7, m9)) n 0 F mA (by omega) (by omega) a2
  obtain ⟨g, k1, k2⟩ := M_keep m1
  have e2 : pj (mI m1 80 g) = pj (mI m 66 (m.1 66)) := by rw [mI_id]; exact pj_r (fun _ => rfl) e1
  obtain ⟨m2, O, q1, q2, q3, r2⟩ := sf_M N0 hp b (fun m9 z6 z7 _ => (fM_putOrder m9).bind fun r10 => if b = 0 then some (z6, r10) else some (z7, r10)) n 0 F p (m.1 66) (mI m1 80 g) (by omega) (by omega) hp (fun i hi => by rw [sg_id]; exact o4 i hi) (fun _ _ => rfl) e2
  obtain ⟨h, w1, w2, w3⟩ := M_put m2
  have eh : h = m.1 66 := by
    funext i
    by_cases hi : i < 6
    · rw [w1 i hi, q3, mI_s, k1 i hi, pj_rw e1 (scr_r (by decide))]
    · rw [w2 i (by omega), pj_rw q2 (scr_r (by decide)), mI_s, q1 i (by omega)]
  have e3 : pj (mI m2 66 h) = pj m := by rw [pj_put (k := 66) (g := h) q2, mI_mI, eh, mI_id]
  refine ⟨if b = 0 then nI (sfF (fun b => gon P (a + (n + z - a) + 0) a (fun i => o (sg p b i)) b) n).1 else nI (sfF (fun b => gon P (a + (n + z - a) + 0) a (fun i => o (sg p b i)) b) n).2, m1, mI m2 66 h, ?_, ?_, Rel_pj e3 H⟩
  · show fC_safest sh R m (nI (o p)) b = _
    unfold fC_safest
    rw [W_has1 h0 hd', ← hF1]
    simp only [Option.bind_some, if_neg one, if_neg b0, if_pos b1']
    rw [show fL_begin sh R m 0 = some mA from a1]
    simp only [Option.bind_some]
    refine Eq.trans r1 ?_
    by_cases c0 : b = 0
    · rw [if_pos c0, if_pos c0]
    · rw [if_neg c0, if_neg c0]
  · show fM_safest m1 (nI (o p)) b = _
    unfold fM_safest
    rw [M_isD1 (by omega) (by rw [pj_at e1 rfl]; exact h0') hd', ← hF1]
    simp only [Option.bind_some, if_neg one, M_in1 hb, k2]
    refine Eq.trans r2 ?_
    rw [w3]
    simp only [Option.bind_some]
    by_cases c0 : b = 0
    · rw [if_pos c0, if_pos c0]
    · rw [if_neg c0, if_neg c0]
