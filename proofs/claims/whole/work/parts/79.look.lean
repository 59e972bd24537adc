/-! THE SAME ANSWERS: looked -/
def lkR (P : Nat → Int32 → Int32 → Int32 → Int32) (o : Nat → Nat) (n a L : Nat) (X : Nat → Nat) : Nat → Nat → Nat → Int32
  | 0, _, _ => -5
  | q + 1, k, v => if chN a (L - v) (P (o v) (nI a) (nI (L - v)) (nI v)).toNatClampNeg ≤ X k then lkR P o n a L X q (k + 1) (if v + 1 < n then v + 1 else 0) else nI k
def Bok (m : MI) (bo : Nat) (X : Nat → Nat) : Prop := bo ≤ 8 ∧ m.1 1 13 = nI bo ∧ m.1 61 44 = nI bo ∧ ∀ i, i < 8 → X i ≤ 999999 ∧ m.1 15 i = nI (X i) ∧ m.1 85 i = nI (X i)
theorem bok_of {sh : Sh} {R : RR} {m : MI} (H : Rel sh R m) : ∃ bo X, Bok m bo X := by
  obtain ⟨⟨n, s, l, q, nn, se, bo, h1, h2, h3, h4, h5, h6, h7, h8, h9, h10, h11, h12, h13, h14, h15⟩, -⟩ := H
  refine ⟨bo, fun i => (m.1 85 i).toNatClampNeg, h7.1, h7.2.1, h7.2.2, fun i hi => ?_⟩
  obtain ⟨x, hx, ex⟩ := h15.2 i hi
  have e1 : m.1 15 = m.1 85 := h15.1
  refine ⟨?_, ?_, ?_⟩
  · show (m.1 85 i).toNatClampNeg ≤ 999999
    rw [ex, nI_clamp (by omega)]; omega
  · show m.1 15 i = nI (m.1 85 i).toNatClampNeg
    rw [e1, ex, nI_clamp (by omega)]
  · show m.1 85 i = nI (m.1 85 i).toNatClampNeg
    rw [ex, nI_clamp (by omega)]
section LO
variable {sh : Sh} {R : RR} {m : MI} {hw a z n bo : Nat} {cs : List Cla} {P : Nat → Int32 → Int32 → Int32 → Int32} {o : Nat → Nat} {X : Nat → Nat}
theorem lk_C (N : Ngt sh R m hw a z cs P n o) (hB : Bok m bo X) : ∀ (q k v f : Nat) (m' : MI), k + q = bo → q < f → v < n → v ≤ n + z - a → pj m' = pj m → ∃ m'', pj m'' = pj m ∧ fW_firstShortOfBook_l25 sh R (nI a) (nI (n + z - a)) (fun m6 z4 z5 => some (-5, m6)) f m' (nI v) (nI k) = some (lkR P o n a (n + z - a) X q k v, m'') := by
  obtain ⟨hbo, hb1, hb2, hbx⟩ := hB
  have N0 := N
  obtain ⟨hF, hC, hP, hD, ⟨hn, h0, h0'⟩, o1, o2, o3, o4, o5, h34⟩ := N
  have ha := hC.2.2.2.1
  have hz := hC.2.2.2.2.1
  intro q
  induction q with
  | zero =>
    intro k v f m' hk hf hv hL e
    obtain ⟨f', rfl, -⟩ := fu hf
    refine ⟨m', e, ?_⟩
    rw [fW_firstShortOfBook_l25, pj_at e rfl, hb1, if_pos (nI_le (by omega) (by omega))]
    rfl
  | succ q ih =>
    intro k v f m' hk hf hv hL e
    obtain ⟨f', rfl, hf'⟩ := fu hf
    have r : ∀ {k : Nat}, k ∉ [18, 36, 38, 40, 41, 42, 45, 74, 76, 77, 78, 79, 80, 81, 82, 37, 43, 46, 61] → m'.1 k = m.1 k := fun h => pj_rw e (scr_r h)
    rw [fW_firstShortOfBook_l25, pj_at e rfl, hb1, if_neg (not_le_nI (by omega) (by omega))]
    obtain ⟨g, hg⟩ := W_ask N0 (s := a) (l := n + z - a - v) (v := v) e (by omega) (by omega) hv
    have ckv : ck (nI v) 6 = true := ck_nI (by omega) (by omega)
    have clv := cl_nI (show v < 100000 by omega)
    have ckk : ck (nI k) 8 = true := ck_nI (by omega) (by omega)
    have clk := cl_nI (show k < 100000 by omega)
    obtain ⟨x1, x2, x3⟩ := hbx k (by omega)
    have e12 : m'.1 12 v = nI (o v) := by rw [r (by decide), o5, o4 v hv]
    have e15 : m'.1 15 k = nI (X k) := by rw [r (by decide)]; exact x2
    have eg : pj (mI m' 18 g) = pj m := Eq.trans (pj_row (fun _ => rfl)) e
    have eg0 : (mI m' 18 g).1 1 0 = nI n := by rw [pj_at eg rfl]; exact h0
    have chle := chN_le a (n + z - a - v) (P (o v) (nI a) (nI (n + z - a - v)) (nI v)).toNatClampNeg
    simp only [ckv, clv, ckk, clk, if_true, e12, pk_sub hL, hg, Option.bind_some, e15, lt, eg0, nI_1]
    unfold lkR
    by_cases c : chN a (n + z - a - v) (P (o v) (nI a) (nI (n + z - a - v)) (nI v)).toNatClampNeg ≤ X k
    · rw [if_pos (nI_le c (by omega)), if_pos c]
      have l1 : 0 < n + z - a - v := by
        refine Nat.pos_of_ne_zero fun h => ?_
        have : chN a (n + z - a - v) (P (o v) (nI a) (nI (n + z - a - v)) (nI v)).toNatClampNeg = 1000000 := by unfold chN; rw [if_neg (by omega), if_pos h]
        omega
      by_cases d : v + 1 < n
      · rw [if_neg (not_le_nI d (by omega)), if_pos d]
        exact ih (k + 1) (v + 1) f' _ (by omega) (hf' q rfl) d (by omega) eg
      · rw [if_pos (nI_le (by omega) (by omega)), if_neg d]
        exact ih (k + 1) 0 f' _ (by omega) (hf' q rfl) (by omega) (by omega) eg
    · rw [if_neg (by rw [nI_leI (by omega) (by omega)]; exact c), if_neg c]
      exact ⟨_, eg, rfl⟩
theorem lk_M (N : Ngt sh R m hw a z cs P n o) (hB : Bok m bo X) (kc : MI → Int32 → Int32 → Option (Int32 × MI)) (m0 : MI) : ∀ (q k v f : Nat) (m' : MI), k + q = bo → q + 1 < f → v < n → v ≤ n + z - a → pj m' = pj (mS m (nI a) (nI (n + z - a - v)) (nI v) (m.1 64)) → Asd m' m0 → ∃ m'' s' l' q' w, Trd m m0 m'' o n n s' l' q' ∧ fM_looked_l13 kc f m' (-5) (nI k) = kc m'' (lkR P o n a (n + z - a) X q k v) w := by
  obtain ⟨hbo, hb1, hb2, hbx⟩ := hB
  have N0 := N
  obtain ⟨hF, hC, hP, hD, ⟨hn, h0, h0'⟩, o1, o2, o3, o4, o5, h34⟩ := N
  have ha := hC.2.2.2.1
  have hz := hC.2.2.2.2.1
  have one : ¬ (1 : Int32) = 0 := by decide
  have m5 : ¬ (0 : Int32) ≤ -5 := by decide
  have t44 : ∀ {s l q : Int32} {Z : Nat → Int32} {m' : MI}, pj m' = pj (mS m s l q Z) → m'.1 61 44 = nI bo ∧ m'.1 61 0 = nI n := fun e => ⟨by rw [pj_at e rfl, mS_61, upd_n (by decide), upd_n (by decide), upd_n (by decide)]; exact hb2, by rw [pj_at e rfl, mS_61, upd_n (by decide), upd_n (by decide), upd_n (by decide)]; exact h0'⟩
  -- a fist is laid again
  have lay : ∀ {s l q : Int32} {Z : Nat → Int32} {m' : MI}, pj m' = pj (mS m s l q Z) → ∃ mL, fM_layFist m' = some mL ∧ pj mL = pj (mS m (nI a) (nI (n + z - a)) 0 Z) ∧ Asd mL m' := fun {s l q Z m'} e => by
    have r : ∀ {k : Nat}, k ∉ [18, 36, 38, 40, 41, 42, 45, 74, 76, 77, 78, 79, 80, 81, 82, 37, 43, 46, 61] → k ≠ 64 → m'.1 k = m.1 k := fun h h2 => (pj_rw e (scr_r h)).trans (mS_o (fun q => by subst q; simp at h) h2)
    have hl := M_lay (m' := m') hC hn (t44 e).2 (by rw [pj_at e rfl, mS_61, upd_n (by decide), upd_n (by decide), upd_n (by decide)]) (r (by decide) (by decide)) (r (by decide) (by decide)) (r (by decide) (by decide))
    refine ⟨_, hl, ?_, ?_, fun j h1 h2 => ?_⟩
    · have b1 := pj_fld2 (k := 61) (j := 2) (x := nI a) e
      rw [mS_2] at b1
      have b2 := pj_fld2 (k := 61) (j := 3) (x := nI (n + z - a)) b1
      rw [mS_3] at b2
      have b3 := pj_fld2 (k := 61) (j := 4) (x := 0) b2
      rw [mS_4] at b3
      simp only [mI_mI, mI_s] at b3
      exact b3
    · rw [mI_n (by decide)]
    · rw [mI_s, upd_n (by omega), upd_n (by omega), upd_n (by omega)]
  -- the round behind a short straw
  have out : ∀ (f : Nat) (m' : MI) (x : Int32) (w : Nat) (s l q : Int32), 0 < f → 0 ≤ x → Trd m m0 m' o n n s l q → ∃ m'' s' l' q' w', Trd m m0 m'' o n n s' l' q' ∧ fM_looked_l13 kc f m' x (nI w) = kc m'' x w' := fun f m' x w s l q hf hx T => by
    obtain ⟨f', rfl, -⟩ := fu hf
    refine ⟨m', s, l, q, nI w, T, ?_⟩
    rw [fM_looked_l13]
    by_cases c1 : m'.1 61 44 ≤ nI w
    · rw [if_pos c1]
    · rw [if_neg c1]
      by_cases c2 : m'.1 61 0 ≤ 0
      · rw [if_pos c2]
      · rw [if_neg c2, if_pos hx]
  intro q
  induction q with
  | zero =>
    intro k v f m' hk hf hv hL e hA
    obtain ⟨f', rfl, -⟩ := fu (show 0 < f by omega)
    refine ⟨m', _, _, _, nI k, ⟨m.1 64, e, fun _ _ => rfl, fun _ _ _ => rfl, hA⟩, ?_⟩
    rw [fM_looked_l13, (t44 e).1, if_pos (nI_le (by omega) (by omega))]
    rfl
  | succ q ih =>
    intro k v f m' hk hf hv hL e hA
    obtain ⟨f', rfl, hf'⟩ := fu (show 0 < f by omega)
    have ckk : ck (nI k) 8 = true := ck_nI (by omega) (by omega)
    have clk := cl_nI (show k < 100000 by omega)
    obtain ⟨x1, x2, x3⟩ := hbx k (by omega)
    obtain ⟨pn, m'', hpn, hpe, hAs, ht⟩ := M_try N0 (s := a) (l := n + z - a - v) (v := v) (A := X k) e (by omega) (by omega) hv rfl x1
    have e85 : m'.1 85 k = nI (X k) := by rw [pj_at e rfl, mS_o (by decide) (by decide)]; exact x3
    have pe : (P (o v) (nI a) (nI (n + z - a - v)) (nI v)).toNatClampNeg = pn := by rw [hpe, nI_clamp (by omega)]
    rw [fM_looked_l13, (t44 e).1, if_neg (not_le_nI (by omega) (by omega)), (t44 e).2, if_neg (show ¬ nI n ≤ 0 from nI_nle (by omega) (by omega)), if_neg m5, if_pos ckk, clk, e85]
    unfold lkR
    rw [pe]
    rcases ht with ⟨t1, t2, t3⟩ | ⟨t1, y, t2, t3⟩
    · rw [t2, if_pos t1]
      have l1 : 0 < n + z - a - v := by
        refine Nat.pos_of_ne_zero fun h => ?_
        have : chN a (n + z - a - v) pn = 1000000 := by unfold chN; rw [if_neg (by omega), if_pos h]
        omega
      have t3' : pj m'' = pj (mS m (nI a) (nI (n + z - a - (v + 1))) (nI (v + 1)) (m.1 64)) := by
        rw [t3, show nI (n + z - a - v) - 1 = nI (n + z - a - (v + 1)) by
          rw [show n + z - a - v = (n + z - a - (v + 1)) + 1 by omega, nI_pred]]
      simp only [Option.bind_some, if_true, M_end (show a ≤ 100 by omega) (show v + 1 ≤ 100 by omega) hn h0' t3', lt, nI_1]
      by_cases d : v + 1 < n
      · rw [if_neg (show ¬ (a = 0 ∨ v + 1 = n) by omega), if_pos d, if_pos rfl]
        exact ih (k + 1) (v + 1) f' m'' (by omega) (by omega) d (by omega) t3' (Asd_trans hAs hA)
      · rw [if_pos (show a = 0 ∨ v + 1 = n by omega), if_neg d, if_neg one]
        obtain ⟨mL, l2, l3, l4⟩ := lay t3'
        rw [l2]
        simp only [Option.bind_some]
        exact ih (k + 1) 0 f' mL (by omega) (by omega) (by omega) (by omega) l3 (Asd_trans l4 (Asd_trans hAs hA))
    · rw [t2, if_neg t1]
      have ho := o1 v hv
      have T2 : Trd m m0 m'' o n n (nI a - 1) (nI (n + z - a - v)) (nI (v + 1)) := ⟨upd (m.1 64) (o v) y, t3, fun i h => by rw [upd_n (by omega)], fun i h1 h2 => absurd h2 (by omega), Asd_trans hAs hA⟩
      have t3' : pj m'' = pj (mS m (nI (a - 1)) (nI (n + z - a - v)) (nI (v + 1)) (upd (m.1 64) (o v) y)) := by
        rw [t3, show nI a - 1 = nI (a - 1) by
          rw [show a = (a - 1) + 1 by omega, nI_pred]; rfl]
      simp only [Option.bind_some, if_neg one, M_end (show a - 1 ≤ 100 by omega) (show v + 1 ≤ 100 by omega) hn h0' t3', lt, nI_1]
      by_cases d : a - 1 = 0 ∨ v + 1 = n
      · rw [if_pos d, if_neg one]
        obtain ⟨mL, l2, l3, l4⟩ := lay t3'
        rw [l2]
        simp only [Option.bind_some]
        exact out f' mL (nI k) (k + 1) _ _ _ (by omega) (nI_pos' (by omega)) ⟨upd (m.1 64) (o v) y, l3, fun i h => by rw [upd_n (by omega)], fun i h1 h2 => absurd h2 (by omega), Asd_trans l4 (Asd_trans hAs hA)⟩
      · rw [if_neg d, if_pos rfl]
        exact out f' m'' (nI k) (k + 1) _ _ _ (by omega) (nI_pos' (by omega)) T2
end LO
theorem op_looked {sh : Sh} {R : RR} {m : MI} (H : Rel sh R m) : Ans sh R m (fun m => fC_looked sh R m) (fun m => fM_looked m) := by
  obtain ⟨hw, a, z, cs, P, n, o, N⟩ := night H
  obtain ⟨bo, X, hB⟩ := bok_of H
  have N0 := N
  obtain ⟨hF, hC, hP, hD, ⟨hn, h0, h0'⟩, o1, o2, o3, o4, o5, h34⟩ := N
  obtain ⟨F, hF1⟩ : ∃ F : Nat, F = 1000 := ⟨_, rfl⟩
  have hbo := hB.1
  have fin : ∀ (m2 m5 : MI) (s l q : Int32), m2.1 61 37 = m.1 61 2 → m2.1 61 38 = m.1 61 3 → m2.1 61 39 = m.1 61 4 → (∀ i, i < 6 → m2.1 82 i = m.1 64 i) → Trd m m2 m5 o n n s l q → ∃ mE, fM_putBack m5 = some mE ∧ pj mE = pj m := fun m2 m5 s l q a4 a5 a6 a7 ⟨Z, t1, t2, t3, t4⟩ =>
    M_bakE t1 t2 (by rw [t4.2 37 (by omega) (by omega), a4]) (by rw [t4.2 38 (by omega) (by omega), a5]) (by rw [t4.2 39 (by omega) (by omega), a6]) (fun i hi => by rw [t4.1, a7 i hi])
  by_cases hn0 : n = 0
  · obtain ⟨m1, m2, a1, a2, a3, a4, a5, a6, a7⟩ := M_savE hC hn h0' (m' := m) rfl
    obtain ⟨mE, e1, e2⟩ := fin m2 m2 _ _ _ a4 a5 a6 a7 ⟨m.1 64, a3, fun _ _ => rfl, fun _ _ _ => rfl, rfl, fun _ _ _ => rfl⟩
    refine ⟨-5, m, mE, ?_, ?_, Rel_pj e2 H⟩
    · show fC_looked sh R m = _
      unfold fC_looked fW_firstShortOfBook
      rw [h0, if_pos (by rw [hn0]; rfl)]
      rfl
    · show fM_looked m = _
      have z2 : m2.1 61 0 = nI n := by rw [pj_at a3 rfl, mS_61, upd_n (by decide), upd_n (by decide), upd_n (by decide)]; exact h0'
      unfold fM_looked
      rw [a1]
      simp only [Option.bind_some]
      rw [a2]
      simp only [Option.bind_some]
      rw [fM_looked_l13, z2, if_pos (show nI n ≤ 0 by rw [hn0]; decide), e1, ite_self]
      rfl
  · obtain ⟨m1, e1, c1⟩ := lk_C N0 hB bo 0 0 F m (by omega) (by omega) (by omega) (by omega) rfl
    obtain ⟨mA, mB, a1, a2, a3, a4, a5, a6, a7⟩ := M_savE hC hn h0' e1
    obtain ⟨m5, s', l', q', w, T, c2⟩ := lk_M N0 hB (fun m5 z3 z4 => (fM_putBack m5).bind fun r6 => some (z3, r6)) mB bo 0 0 F mB (by omega) (by omega) (by omega) (by omega) a3 ⟨rfl, fun _ _ _ => rfl⟩
    obtain ⟨mE, e3, e4⟩ := fin mB m5 _ _ _ a4 a5 a6 a7 T
    refine ⟨lkR P o n a (n + z - a) X bo 0 0, m1, mE, ?_, ?_, Rel_pj e4 H⟩
    · show fC_looked sh R m = _
      unfold fC_looked fW_firstShortOfBook
      rw [h0, if_neg (nI_ne0 (by omega) (by omega)), (W_whole hC hn h0 rfl).1]
      simp only [Option.bind_some]
      rw [(W_whole hC hn h0 rfl).2, ← hF1]
      simp only [Option.bind_some]
      rw [show fW_firstShortOfBook_l25 sh R (nI a) (nI (n + z - a)) (fun m6 z4 z5 => some (-5, m6)) F m 0 0 = _ from c1]
      rfl
    · show fM_looked m1 = _
      unfold fM_looked
      rw [a1]
      simp only [Option.bind_some]
      rw [a2, ← hF1]
      simp only [Option.bind_some]
      rw [show fM_looked_l13 (fun m5 z3 z4 => (fM_putBack m5).bind fun r6 => some (z3, r6)) F mB (-5) 0 = _ from c2, e3]
      rfl
