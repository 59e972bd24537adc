/-! THE SAME ANSWERS: enough, leans -/
theorem PlH_cg {sh : Sh} {R : RR} {m m2 : MI} {hw : Nat} {cs : List Cla} (h1 : ∀ k, 99 ≤ k → m2.1 k = m.1 k) (h2 : m2.1 61 11 = m.1 61 11) (h3 : ∀ k, 68 ≤ k ∧ k ≤ 73 → m2.1 k = m.1 k) (H : PlH sh R m hw cs) : PlH sh R m2 hw cs :=
  ⟨H.1, fun m' fac a b => H.2.1 m' fac (fun k hk => (a k hk).trans (h1 k hk)) b, fun m' fac x a b c => H.2.2 m' fac x (a.trans h2) (fun k hk => (b k hk).trans (h3 k hk)) c⟩
theorem CurH_cg {sh : Sh} {R : RR} {m m2 : MI} {hw a z : Nat} (h1 : m2.1 hw = m.1 hw) (h2 : m2.1 61 11 = m.1 61 11) (h3 : ∀ k, 68 ≤ k ∧ k ≤ 73 → m2.1 k = m.1 k) (H : CurH sh R m hw a z) : CurH sh R m2 hw a z := by
  obtain ⟨r1, s1, d1, a1, z1, v1, v2, k⟩ := H
  exact ⟨r1, s1, d1, a1, z1, by rw [h1]; exact v1, by rw [h1]; exact v2, fun m' q1 q2 q3 q4 => k m' (q1.trans h2) (q2.trans (h3 68 (by omega))) (q3.trans (h3 69 (by omega))) (q4.trans (h3 70 (by omega)))⟩
theorem Drs_cg {m m2 : MI} {n : Nat} {cs : List Cla} {P : Nat → Int32 → Int32 → Int32 → Int32} (hn : n ≤ 6) (h1 : ∀ k, 2 ≤ k ∧ k ≤ 10 → m2.1 k = m.1 k) (h2 : ∀ k, 62 ≤ k ∧ k ≤ 65 → m2.1 k = m.1 k) (H : Drs P cs m n) : Drs P cs m2 n := by
  refine ⟨H.1, fun d hd => ?_⟩
  obtain ⟨x, yy, zz, rr, a1, a2, a3, a4, a5, ⟨-, b1, b2, b3, b4⟩, ⟨-, -, c1, c2, c3, c4⟩⟩ := H.2 d hd
  exact ⟨x, yy, zz, rr, a1, a2, a3, a4, a5, ⟨fun _ _ => rfl, by rw [h1 _ (by omega)]; exact b1, by rw [h1 _ (by omega)]; exact b2, by rw [h1 _ (by omega)]; exact b3, by rw [h1 _ (by omega)]; exact b4⟩, ⟨rfl, fun _ _ => rfl, by rw [h2 _ (by omega)]; exact c1, by rw [h2 _ (by omega)]; exact c2, by rw [h2 _ (by omega)]; exact c3, by rw [h2 _ (by omega)]; exact c4⟩⟩
def m34 (m : MI) (X : Nat) : MI := mI m 61 (upd (m.1 61) 34 (nI X))
theorem pj_set {m m' : MI} {x : Int32} (e : pj m' = pj m) : pj (mI m' 61 (upd (m'.1 61) 34 x)) = pj (mI m 61 (upd (m.1 61) 34 x)) := by
  refine Prod.ext (funext fun k => funext fun i => ?_) (show (pj m').2 = (pj m).2 from congrArg Prod.snd e)
  show (if scr k i = true then 0 else _) = (if scr k i = true then 0 else _)
  by_cases c : scr k i = true
  · rw [if_pos c, if_pos c]
  · rw [if_neg c, if_neg c]
    by_cases ek : k = 61
    · subst ek
      rw [mI_s, mI_s]
      by_cases ei : i = 34
      · subst ei; rw [upd_s, upd_s]
      · rw [upd_n ei, upd_n ei]; exact pj_at e (by simpa using c)
    · rw [mI_n ek, mI_n ek]; exact pj_at e (by simpa using c)
theorem m34_m34 {m : MI} {X Y : Nat} : mI (m34 m X) 61 (upd ((m34 m X).1 61) 34 (nI Y)) = m34 m Y := by
  unfold m34
  rw [mI_mI, mI_s, upd_upd]
theorem m34_0 {m : MI} (h : m.1 61 34 = nI 0) : m34 m 0 = m := by
  refine Prod.ext (funext fun k => funext fun i => ?_) rfl
  unfold m34
  by_cases ek : k = 61
  · subst ek
    rw [mI_s]
    by_cases ei : i = 34
    · subst ei; rw [upd_s, h]
    · rw [upd_n ei]
  · rw [mI_n ek]
def enR (g : Nat → Nat) (b : Int32) : Nat → Nat → Int32
  | 0, _ => -5
  | q + 1, k => if b < nI (g k) then enR g b q (k + 1) else nI k
section EN
variable {sh : Sh} {R : RR} {m : MI} {hw a z n : Nat} {cs : List Cla} {P : Nat → Int32 → Int32 → Int32 → Int32} {o : Nat → Nat}
theorem en_C (N : Ngt sh R m hw a z cs P n o) {i : Nat} (hi : i < n) (b : Int32) : ∀ (q k f : Nat) (m' : MI), k + q = 21 → q < f → pj m' = pj m → ∃ m'', pj m'' = pj m ∧ fC_enough_l28 sh R (nI (o i)) b (fun m6 _ => some (-5, m6)) f m' (nI k) = some (enR (fun X => gon P (a + (n + z - a) + X) a o i) b q k, m'') := by
  obtain ⟨hF, hC, hP, hD, ⟨hn, h0, h0'⟩, o1, o2, o3, o4, o5, h34⟩ := N
  have hA := hC.2.2.2.1
  have hZ := hC.2.2.2.2.1
  have cko : ck (nI (o i)) 6 = true := ck_nI (by have := o1 i hi; omega) (by omega)
  have clo := cl_nI (show o i < 100000 by have := o1 i hi; omega)
  intro q
  induction q with
  | zero =>
    intro k f m' hk hf e
    obtain ⟨f', rfl, -⟩ := fu hf
    refine ⟨m', e, ?_⟩
    rw [fC_enough_l28, if_pos (show (20 : Int32) < nI k from nI_lt (a := 20) (by omega) (by omega))]
    rfl
  | succ q ih =>
    intro k f m' hk hf e
    obtain ⟨f', rfl, hf'⟩ := fu hf
    obtain ⟨m1, a1, a2, a3, a4⟩ := L_beg (P := P) hF hC hn h0 k e
    obtain ⟨m2, b1, b2, b3, b4⟩ := C_go_12 (T := a + (n + z - a) + k) (S := a) hF hC.1 hC.2.1 hP hD hn (by omega) (by omega) h0 o1 o2 m1 a2 (fun i hi => by rw [a3 _ (by decide) (by decide), pj_rw e (scr_r (by decide)), o5]; exact o4 i hi)
    obtain ⟨m3, d1, d2⟩ := ih (k + 1) f' m2 (by omega) (hf' q rfl) b2.1
    rw [fC_enough_l28, if_neg (show ¬ (20 : Int32) < nI k from nI_nlt (a := 20) (by omega) (by omega)), a1]
    simp only [Option.bind_some, fL_ofOne_12, b1, cko, clo, if_true, b4 i hi, lt, nI_1]
    show ∃ m'', pj m'' = pj m ∧ (if b < nI (gon P (a + (n + z - a) + k) a o i) then _ else _) = some (if b < nI (gon P (a + (n + z - a) + k) a o i) then _ else nI k, m'')
    by_cases c : b < nI (gon P (a + (n + z - a) + k) a o i)
    · rw [if_pos c, if_pos c]; exact ⟨m3, d1, d2⟩
    · rw [if_neg c, if_neg c]; exact ⟨m2, b2.1, rfl⟩
theorem en_M (N : Ngt sh R m hw a z cs P n o) {i : Nat} (hi : i < n) (b : Int32) : ∀ (q k f : Nat) (m' : MI), k + q = 21 → q + 1 < f → pj m' = pj (m34 m k) → ∃ m'', pj m'' = pj m ∧ fM_enough_l33 (nI (o i)) b (fun m7 z6 => lm (mI m7 61 (upd (m7.1 61) 34 0)) fun m8 => some (z6, m8)) f m' (-5) = some (enR (fun X => gon P (a + (n + z - a) + X) a o i) b q k, m'') := by
  obtain ⟨hF, hC, hP, hD, ⟨hn, h0, h0'⟩, o1, o2, o3, o4, o5, h34⟩ := N
  have hA := hC.2.2.2.1
  have hZ := hC.2.2.2.2.1
  have cko : ck (nI (o i)) 6 = true := ck_nI (by have := o1 i hi; omega) (by omega)
  have clo := cl_nI (show o i < 100000 by have := o1 i hi; omega)
  have fin : ∀ (m' : MI) (k : Nat), pj m' = pj (m34 m k) → pj (mI m' 61 (upd (m'.1 61) 34 0)) = pj m := fun m' k e => by
    have := pj_set (x := nI 0) e
    rw [m34_m34, m34_0 h34] at this
    exact this
  have e34 : ∀ (m' : MI) (k : Nat), pj m' = pj (m34 m k) → m'.1 61 34 = nI k := fun m' k e => by
    rw [pj_at e rfl]
    unfold m34
    rw [mI_s, upd_s]
  intro q
  induction q with
  | zero =>
    intro k f m' hk hf e
    obtain ⟨f', rfl, -⟩ := fu hf
    refine ⟨mI m' 61 (upd (m'.1 61) 34 0), fin m' k e, ?_⟩
    rw [fM_enough_l33, e34 m' k e, if_pos (show (21 : Int32) ≤ nI k from nI_le (a := 21) (by omega) (by omega))]
    rfl
  | succ q ih =>
    intro k f m' hk hf e
    obtain ⟨f', rfl, hf'⟩ := fu hf
    have k34 : ∀ k', k' ≠ 61 → (m34 m k).1 k' = m.1 k' := fun k' h => by unfold m34; rw [mI_n h]
    have k61 : ∀ j, j ≠ 34 → (m34 m k).1 61 j = m.1 61 j := fun j h => by unfold m34; rw [mI_s, upd_n h]
    have hd1 := hC.2.2.1
    have hC' : CurH sh R (m34 m k) hw a z := CurH_cg (k34 hw (by omega)) (k61 11 (by decide)) (fun k' hk' => k34 k' (by omega)) hC
    have hP' : PlH sh R (m34 m k) hw cs := PlH_cg (fun k' hk' => k34 k' (by omega)) (k61 11 (by decide)) (fun k' hk' => k34 k' (by omega)) hP
    have hD' : Drs P cs (m34 m k) n := Drs_cg hn (fun k' hk' => k34 k' (by omega)) (fun k' hk' => k34 k' (by omega)) hD
    have h0k : (m34 m k).1 61 0 = nI n := by rw [k61 0 (by decide)]; exact h0'
    obtain ⟨m3, c1, c2, c3, c4⟩ := M_go (S := a) (L := n + z - a) (X := k) hP' hD' hn (by omega) h0k o1 o2 (fun i hi => by rw [k34 66 (by decide)]; exact o4 i hi) (by omega) (by unfold m34; rw [mI_s, upd_s]) (fun m' e => (M_whole hC' hn h0k e).1) (fun m' e => (M_whole hC' hn h0k e).2) m' e
    have es := pj_set (x := nI (k + 1)) c2
    rw [m34_m34] at es
    rw [fM_enough_l33, e34 m' k e, if_neg (show ¬ (21 : Int32) ≤ nI k from not_le_nI (n := 21) (by omega) (by omega)), if_neg (show ¬ (0 : Int32) ≤ -5 by decide), c1]
    simp only [Option.bind_some, cko, clo, if_true, c4 i hi, lt, lm, e34 m3 k c2, nI_1]
    show ∃ m'', pj m'' = pj m ∧ (if b < nI (gon P (a + (n + z - a) + k) a o i) then _ else _) = some (if b < nI (gon P (a + (n + z - a) + k) a o i) then _ else nI k, m'')
    by_cases c : b < nI (gon P (a + (n + z - a) + k) a o i)
    · rw [if_pos c, if_pos c]
      exact ih (k + 1) f' _ (by omega) (by have := hf' (q + 1) rfl; omega) es
    · rw [if_neg c, if_neg c]
      have := hf' (q + 1) rfl
      obtain ⟨f'', rfl⟩ : ∃ f'', f' = f'' + 1 := ⟨f' - 1, by omega⟩
      refine ⟨_, fin _ (k + 1) es, ?_⟩
      rw [fM_enough_l33, if_pos (show (0 : Int32) ≤ nI k from nI_pos' (by omega)), ite_self]
end EN
theorem op_enough {sh : Sh} {R : RR} {m : MI} (c b : Int32) (H : Rel sh R m) : Ans sh R m (fun m => fC_enough sh R m c b) (fun m => fM_enough m c b) := by
  obtain ⟨hw, a, z, cs, P, n, o, N⟩ := night H
  have N0 := N
  obtain ⟨hF, hC, hP, hD, ⟨hn, h0, h0'⟩, o1, o2, o3, o4, o5, h34⟩ := N
  obtain ⟨F, hF1⟩ : ∃ F : Nat, F = 1000 := ⟨_, rfl⟩
  have one : ¬ (1 : Int32) = 0 := by decide
  rcases dcase (n := n) (by omega) c with hd | ⟨d, hd, rfl, hd'⟩
  · exact ⟨-1, m, m, by simp [fC_enough, W_has0 h0 hd], by simp [fM_enough, M_isD0 (by omega) h0' hd], H⟩
  by_cases hb : b < 0 ∨ 1000000 < b
  · refine ⟨-2, m, m, ?_, by simp [fM_enough, M_isD1 (show n ≤ 1000 by omega) h0' hd', M_in0 hb], H⟩
    by_cases b0 : b < 0
    · simp [fC_enough, W_has1 h0 hd', b0]
    · have : ¬ b ≤ 1000000 := Int32.not_le.mpr (hb.resolve_left b0)
      simp [fC_enough, W_has1 h0 hd', b0, this]
  obtain ⟨b0, b1⟩ := not_or.mp hb
  have b1' : b ≤ 1000000 := Int32.not_lt.mp b1
  obtain ⟨i, hi, rfl⟩ := o3 d hd
  obtain ⟨m1, e1, r1⟩ := en_C N0 hi b 21 0 F m (by omega) (by omega) rfl
  have H1 : Rel sh R m1 := Rel_pj e1 H
  have e2 : pj (mI m1 61 (upd (m1.1 61) 34 0)) = pj (m34 m 0) := pj_set (x := nI 0) e1
  obtain ⟨m2, e3, r2⟩ := en_M N0 hi b 21 0 F (mI m1 61 (upd (m1.1 61) 34 0)) (by omega) (by omega) e2
  refine ⟨enR (fun X => gon P (a + (n + z - a) + X) a o i) b 21 0, m1, m2, ?_, ?_, Rel_pj e3 H⟩
  · show fC_enough sh R m (nI (o i)) b = _
    unfold fC_enough
    rw [W_has1 h0 hd', ← hF1]
    simp only [Option.bind_some, if_neg one, if_neg b0, if_pos b1']
    exact r1
  · show fM_enough m1 (nI (o i)) b = _
    unfold fM_enough
    rw [M_isD1 (by omega) (by rw [pj_at e1 rfl]; exact h0') hd', ← hF1]
    simp only [Option.bind_some, if_neg one, M_in1 hb, lm]
    exact r2
def leF (p : Nat → Nat) : Nat → Nat × Nat
  | 0 => (0, p 0)
  | k + 1 => if p (k + 1) ≤ (leF p k).2 then leF p k else (k + 1, p (k + 1))
theorem leF_le {p : Nat → Nat} {B : Nat} (h : ∀ k, p k ≤ B) : ∀ k, (leF p k).2 ≤ B
  | 0 => h 0
  | k + 1 => by
    show (if p (k + 1) ≤ (leF p k).2 then leF p k else (k + 1, p (k + 1))).2 ≤ B
    split
    · exact leF_le h k
    · exact h _
section LE
variable {sh : Sh} {R : RR} {m : MI} {hw a z n : Nat} {cs : List Cla} {P : Nat → Int32 → Int32 → Int32 → Int32} {o : Nat → Nat}
theorem W_pD (N : Ngt sh R m hw a z cs P n o) {d : Nat} (hd : d < n) (s l p : Int32) {m' : MI} (e : pj m' = pj m) : (∃ pn, pn ≤ 3000 ∧ P d s l p = nI pn) ∧ (∃ g, fW_pull sh R m' (nI d) p s l = some (P d s l p, mI m' 18 g)) ∧ ∃ g, fM_pull m' (nI d) s l p = some (P d s l p, mI (mI m' 61 (upd (upd (upd (m'.1 61) 28 s) 29 l) 30 p)) 76 g) := by
  obtain ⟨hF, hC, hP, hD, ⟨hn, h0, h0'⟩, -⟩ := N
  obtain ⟨x, yy, zz, rr, hx, hy, hz, hr, hp, ⟨d1, d2, d3, d4, d5⟩, ⟨e1, e2, e3, e4, e5, e6⟩⟩ := hD.2 d hd
  have r : ∀ {k : Nat}, k ∉ [18, 36, 38, 40, 41, 42, 45, 74, 76, 77, 78, 79, 80, 81, 82, 37, 43, 46, 61] → m'.1 k = m.1 k := fun h => pj_rw e (scr_r h)
  have dC : DC m' m d x (nI yy) zz (nI rr) := ⟨fun k hk => r (by simp only [List.mem_cons, List.not_mem_nil, or_false]; omega), by rw [r (by decide)]; exact d2, by rw [r (by decide)]; exact d3, by rw [r (by decide)]; exact d4, by rw [r (by simp only [List.mem_cons, List.not_mem_nil, or_false]; omega)]; exact d5⟩
  have dM : DM m' m d x (nI yy) zz (nI rr) := ⟨pj_at e rfl, fun k hk => r (by simp only [List.mem_cons, List.not_mem_nil, or_false]; omega), by rw [r (by decide)]; exact e3, by rw [r (by decide)]; exact e4, by rw [r (by decide)]; exact e5, by rw [r (by decide)]; exact e6⟩
  rw [hp]
  exact ⟨pull_nat hD.1 hy hr s l p, W_pullE hF (show d < 6 by omega) hx hz hC.1 hC.2.1 hP dC s l p, M_pullE (show d < 6 by omega) hx hz hP dM s l p⟩
theorem pj_28 {m : MI} {s l p : Int32} {g : Nat → Int32} : pj (mI (mI m 61 (upd (upd (upd (m.1 61) 28 s) 29 l) 30 p)) 76 g) = pj m :=
  Eq.trans (pj_row (fun _ => rfl)) (pj_61 (fun i h1 h2 h3 => by rw [upd_n h3, upd_n h2, upd_n h1]))
theorem le_C (N : Ngt sh R m hw a z cs P n o) {p : Nat → Nat} (hpB : ∀ k, p k ≤ 3000) (hp : ∀ d, d < n → P d (nI a) (nI (n + z - a)) 0 = nI (p d)) : ∀ (q k f : Nat) (m' : MI) (v4 v3 : Int32), k + q = n → q < f → pj m' = pj m → ((k = 0 ∧ v4 = -1 ∧ v3 = -5) ∨ (0 < k ∧ v3 = nI (leF p (k - 1)).1 ∧ v4 = nI (leF p (k - 1)).2)) →
    ∃ m'', pj m'' = pj m ∧ fC_leans_l25 sh R (nI a) (nI (n + z - a)) (fun m6 z3 _ _ => some (z3, m6)) f m' v3 v4 (nI k) = some (if n = 0 then -5 else nI (leF p (n - 1)).1, m'') := by
  have N0 := N
  obtain ⟨hF, hC, hP, hD, ⟨hn, h0, h0'⟩, -⟩ := N
  intro q
  induction q with
  | zero =>
    intro k f m' v4 v3 hk hf e hv
    obtain ⟨f', rfl, -⟩ := fu hf
    refine ⟨m', e, ?_⟩
    rw [fC_leans_l25, show m'.1 1 0 = nI n by rw [pj_at e rfl]; exact h0, if_pos (nI_le (by omega) (by omega))]
    rcases hv with ⟨h1, h2, h3⟩ | ⟨h1, h2, h3⟩
    · rw [if_pos (by omega), h3]
    · rw [if_neg (by omega), h2, show k = n by omega]
  | succ q ih =>
    intro k f m' v4 v3 hk hf e hv
    obtain ⟨f', rfl, hf'⟩ := fu hf
    obtain ⟨-, ⟨g, hg⟩, -⟩ := W_pD N0 (d := k) (by omega) (nI a) (nI (n + z - a)) 0 e
    rw [fC_leans_l25, show m'.1 1 0 = nI n by rw [pj_at e rfl]; exact h0, if_neg (not_le_nI (by omega) (by omega)), hg]
    simp only [Option.bind_some, hp k (by omega), lt, nI_1]
    have e' : pj (mI m' 18 g) = pj m := pj_r (fun _ => rfl) e
    have bk := hpB k
    rcases hv with ⟨rfl, rfl, rfl⟩ | ⟨h1, rfl, rfl⟩
    · rw [if_neg (show ¬ nI (p 0) ≤ -1 from fun h => nI_pos (n := p 0) (by omega) (Int32.lt_of_le_of_lt h (by decide)))]
      exact ih (0 + 1) f' _ _ _ (by omega) (hf' q rfl) e' (Or.inr ⟨by omega, rfl, rfl⟩)
    · obtain ⟨j, rfl⟩ : ∃ j, k = j + 1 := ⟨k - 1, by omega⟩
      simp only [Nat.add_sub_cancel]
      have bj := leF_le hpB j
      by_cases c : p (j + 1) ≤ (leF p j).2
      · rw [if_pos (nI_le c (by omega))]
        exact ih (j + 1 + 1) f' _ _ _ (by omega) (hf' q rfl) e' (Or.inr ⟨by omega, by simp only [Nat.add_sub_cancel, leF, if_pos c], by simp only [Nat.add_sub_cancel, leF, if_pos c]⟩)
      · rw [if_neg (show ¬ nI (p (j + 1)) ≤ nI (leF p j).2 by rw [nI_leI (by omega) (by omega)]; exact c)]
        exact ih (j + 1 + 1) f' _ _ _ (by omega) (hf' q rfl) e' (Or.inr ⟨by omega, by simp only [Nat.add_sub_cancel, leF, if_neg c], by simp only [Nat.add_sub_cancel, leF, if_neg c]⟩)
theorem le_M (N : Ngt sh R m hw a z cs P n o) {p : Nat → Nat} (hpB : ∀ k, p k ≤ 3000) (hp : ∀ d, d < n → P d (nI a) (nI (n + z - a)) 0 = nI (p d)) : ∀ (q k f : Nat) (m' : MI) (v2 v1 : Int32), k + q = n → q < f → pj m' = pj m → ((k = 0 ∧ v1 = -5) ∨ (0 < k ∧ (∃ t, t < 1000 ∧ v1 = nI t) ∧ v1 = nI (leF p (k - 1)).1 ∧ v2 = nI (leF p (k - 1)).2)) →
    ∃ m'', pj m'' = pj m ∧ fM_leans_l7 (fun m4 z1 _ _ => some (z1, m4)) f m' v1 v2 (nI k) = some (if n = 0 then -5 else nI (leF p (n - 1)).1, m'') := by
  have N0 := N
  obtain ⟨hF, hC, hP, hD, ⟨hn, h0, h0'⟩, -⟩ := N
  intro q
  induction q with
  | zero =>
    intro k f m' v2 v1 hk hf e hv
    obtain ⟨f', rfl, -⟩ := fu hf
    refine ⟨m', e, ?_⟩
    rw [fM_leans_l7, show m'.1 61 0 = nI n by rw [pj_at e rfl]; exact h0', if_pos (nI_le (by omega) (by omega))]
    rcases hv with ⟨h1, h2⟩ | ⟨h1, -, h2, h3⟩
    · rw [if_pos (by omega), h2]
    · rw [if_neg (by omega), h2, show k = n by omega]
  | succ q ih =>
    intro k f m' v2 v1 hk hf e hv
    obtain ⟨f', rfl, hf'⟩ := fu hf
    obtain ⟨-, -, ⟨g, hg⟩⟩ := W_pD N0 (d := k) (by omega) (nI a) (nI (n + z - a)) 0 e
    obtain ⟨w1, w2⟩ := M_whole hC hn h0' e
    rw [fM_leans_l7, show m'.1 61 0 = nI n by rw [pj_at e rfl]; exact h0', if_neg (not_le_nI (by omega) (by omega)), w1]
    simp only [Option.bind_some, w2, hg, hp k (by omega), lt, nI_1]
    have e' : pj (mI (mI m' 61 (upd (upd (upd (m'.1 61) 28 (nI a)) 29 (nI (n + z - a))) 30 0)) 76 g) = pj m := Eq.trans pj_28 e
    have bk := hpB k
    rcases hv with ⟨rfl, rfl⟩ | ⟨h1, ⟨t, ht, et⟩, ev, rfl⟩
    · rw [if_pos (show (-5 : Int32) < 0 by decide)]
      exact ih (0 + 1) f' _ _ _ (by omega) (hf' q rfl) e' (Or.inr ⟨by omega, ⟨0, by omega, rfl⟩, rfl, rfl⟩)
    · obtain ⟨j, rfl⟩ : ∃ j, k = j + 1 := ⟨k - 1, by omega⟩
      simp only [Nat.add_sub_cancel] at ev ⊢
      have bj := leF_le hpB j
      rw [if_neg (show ¬ v1 < 0 by rw [et]; exact nI_pos (by omega))]
      by_cases c : p (j + 1) ≤ (leF p j).2
      · rw [if_neg (show ¬ nI (leF p j).2 < nI (p (j + 1)) from nI_nlt c (by omega))]
        exact ih (j + 1 + 1) f' _ _ _ (by omega) (hf' q rfl) e' (Or.inr ⟨by omega, ⟨t, ht, et⟩, by simp only [Nat.add_sub_cancel, leF, if_pos c]; exact ev, by simp only [Nat.add_sub_cancel, leF, if_pos c]⟩)
      · rw [if_pos (show nI (leF p j).2 < nI (p (j + 1)) from nI_lt (by omega) (by omega))]
        exact ih (j + 1 + 1) f' _ _ _ (by omega) (hf' q rfl) e' (Or.inr ⟨by omega, ⟨j + 1, by omega, rfl⟩, by simp only [Nat.add_sub_cancel, leF, if_neg c], by simp only [Nat.add_sub_cancel, leF, if_neg c]⟩)
end LE
theorem op_leans {sh : Sh} {R : RR} {m : MI} (H : Rel sh R m) : Ans sh R m (fun m => fC_leans sh R m) (fun m => fM_leans m) := by
  obtain ⟨hw, a, z, cs, P, n, o, N⟩ := night H
  have N0 := N
  obtain ⟨hF, hC, hP, hD, ⟨hn, h0, h0'⟩, o1, o2, o3, o4, o5, h34⟩ := N
  obtain ⟨F, hF1⟩ : ∃ F : Nat, F = 1000 := ⟨_, rfl⟩
  have key : ∀ d, ∃ y, y ≤ 3000 ∧ (d < n → P d (nI a) (nI (n + z - a)) 0 = nI y) := fun d => by
    by_cases hd : d < n
    · obtain ⟨⟨pn, h1, h2⟩, -⟩ := W_pD N0 hd (nI a) (nI (n + z - a)) 0 rfl
      exact ⟨pn, h1, fun _ => h2⟩
    · exact ⟨0, by omega, fun h => absurd h hd⟩
  obtain ⟨p, hpB, hp⟩ : ∃ p : Nat → Nat, (∀ k, p k ≤ 3000) ∧ ∀ d, d < n → P d (nI a) (nI (n + z - a)) 0 = nI (p d) := ⟨fun d => Classical.choose (key d), fun d => (Classical.choose_spec (key d)).1, fun d hd => (Classical.choose_spec (key d)).2 hd⟩
  obtain ⟨m1, e1, r1⟩ := le_C N0 hpB hp n 0 F m (-1) (-5) (by omega) (by omega) rfl (Or.inl ⟨rfl, rfl, rfl⟩)
  obtain ⟨m2, e2, r2⟩ := le_M N0 hpB hp n 0 F m1 0 (-5) (by omega) (by omega) e1 (Or.inl ⟨rfl, rfl⟩)
  refine ⟨if n = 0 then -5 else nI (leF p (n - 1)).1, m1, m2, ?_, ?_, Rel_pj e2 H⟩
  · show fC_leans sh R m = _
    obtain ⟨w1, w2⟩ := W_whole hC hn h0 (m' := m) rfl
    unfold fC_leans
    rw [w1]
    simp only [Option.bind_some]
    rw [w2, ← hF1]
    simp only [Option.bind_some]
    exact r1
  · show fM_leans m1 = _
    unfold fM_leans
    rw [← hF1]
    exact r2
