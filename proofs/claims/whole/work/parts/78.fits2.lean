/-! THE SAME ANSWERS: fits (the reference) -/
section SM
variable {sh : Sh} {R : RR} {m : MI} {hw a z n se : Nat} {cs : List Cla} {P : Nat → Int32 → Int32 → Int32 → Int32} {o : Nat → Nat} {X : Nat → Nat} {B : Nat → Bool}
/-- how a tried fist of the reference stands -/
def Trd (m m0 m' : MI) (o : Nat → Nat) (n k : Nat) (s l q : Int32) : Prop := ∃ Z, pj m' = pj (mS m s l q Z) ∧ (∀ i, 6 ≤ i → Z i = m.1 64 i) ∧ (∀ i, k ≤ i → i < n → Z (o i) = m.1 64 (o i)) ∧ Asd m' m0
theorem Asd_trans {a b c : MI} (h1 : Asd a b) (h2 : Asd b c) : Asd a c := ⟨h1.1.trans h2.1, fun j p q => (h1.2 j p q).trans (h2.2 j p q)⟩
theorem M_end {m m' : MI} {s l k n : Nat} {Z : Nat → Int32} (hs : s ≤ 100) (hk : k ≤ 100) (hn : n ≤ 6) (h0 : m.1 61 0 = nI n) (e : pj m' = pj (mS m (nI s) (nI l) (nI k) Z)) : fM_isEnd m' = some (if s = 0 ∨ k = n then 1 else 0, m') := by
  have r61 : ∀ i, scr 61 i = false → m'.1 61 i = upd (upd (upd (m.1 61) 2 (nI s)) 3 (nI l)) 4 (nI k) i := fun i h => by rw [pj_at e h, mS_61]
  have e2 : m'.1 61 2 = nI s := r61 2 rfl
  have e4 : m'.1 61 4 = nI k := r61 4 rfl
  have e0 : m'.1 61 0 = nI n := by rw [r61 0 rfl]; exact h0
  unfold fM_isEnd
  rw [e2, e4, e0]
  by_cases c : s = 0
  · rw [if_pos (show nI s = 0 by rw [c]; rfl), if_pos (Or.inl c)]
  · rw [if_neg (show ¬ nI s = 0 from fun q => c ((nI_eq (b := 0) (by omega) (by omega)).mp q))]
    by_cases d : k = n
    · rw [if_pos (by rw [d]), if_pos (Or.inr d)]
    · rw [if_neg (fun q => d ((nI_eq (by omega) (by omega)).mp q)), if_neg (fun q => q.elim c d)]
theorem sn_M (N : Ngt sh R m hw a z cs P n o) (hS : Seen m se X B) (u1 u2 : Int32) (kc : MI → Int32 → Int32 → Option (Int32 × MI)) (m0 : MI) : ∀ (q k f s l : Nat) (m' : MI), k + q = se → q + 1 < f → s ≤ 100 → l ≤ 100 → k ≤ n → Trd m m0 m' o n k (nI s) (nI l) (nI k) → ∃ m'' s' l' q' w, Trd m m0 m'' o n n s' l' q' ∧ fM_isSeen_l44 u1 u2 kc f m' 1 (nI k) = kc m'' (b01 (snR P o n X B q k s l)) w := by
  obtain ⟨hse, hs1, hs2, hsx⟩ := hS
  have N0 := N
  obtain ⟨hF, hC, hP, hD, ⟨hn, h0, h0'⟩, o1, o2, o3, o4, o5, h34⟩ := N
  have one : ¬ (1 : Int32) = 0 := by decide
  have tn : ∀ {k : Nat} {s l q : Int32} {m' : MI}, Trd m m0 m' o n k s l q → Trd m m0 m' o n n s l q := fun ⟨Z, a, b, c, d⟩ => ⟨Z, a, b, fun i h1 h2 => absurd h2 (by omega), d⟩
  have t41 : ∀ {k : Nat} {s l q : Int32} {m' : MI}, Trd m m0 m' o n k s l q → m'.1 61 41 = nI se := fun ⟨Z, a, b, c, d⟩ => by rw [pj_at a rfl, mS_61, upd_n (by decide), upd_n (by decide), upd_n (by decide)]; exact hs2
  -- a round that finds it is not so
  have out : ∀ (f k : Nat) (m' : MI) (s l q : Int32), 0 < f → Trd m m0 m' o n n s l q → k ≤ 100 → ∃ m'' s' l' q' w, Trd m m0 m'' o n n s' l' q' ∧ fM_isSeen_l44 u1 u2 kc f m' 0 (nI k) = kc m'' 0 w := fun f k m' s l q hf T hk => by
    obtain ⟨f', rfl, -⟩ := fu hf
    refine ⟨m', s, l, q, nI k, T, ?_⟩
    rw [fM_isSeen_l44, t41 T]
    by_cases c : se ≤ k
    · rw [if_pos (nI_le c (by omega))]
    · rw [if_neg (not_le_nI (by omega) (by omega)), if_pos rfl]
  intro q
  induction q with
  | zero =>
    intro k f s l m' hk hf hs hl hkn T
    obtain ⟨f', rfl, -⟩ := fu (show 0 < f by omega)
    refine ⟨m', _, _, _, nI k, tn T, ?_⟩
    rw [fM_isSeen_l44, t41 T, if_pos (nI_le (by omega) (by omega))]
    rfl
  | succ q ih =>
    intro k f s l m' hk hf hs hl hkn T
    have T0 := T
    obtain ⟨Z, e, hZ6, hZ, hA⟩ := T
    obtain ⟨f', rfl, hf'⟩ := fu (show 0 < f by omega)
    rw [fM_isSeen_l44, t41 T0, if_neg (not_le_nI (by omega) (by omega)), if_neg one, M_end hs (by omega) hn h0' e]
    simp only [Option.bind_some]
    unfold snR
    by_cases c : n ≤ k ∨ s = 0
    · rw [if_pos c, if_pos (show s = 0 ∨ k = n by omega), if_neg one]
      simp only [lt, nI_1]
      exact out f' (k + 1) m' _ _ _ (by omega) (tn T0) (by omega)
    · rw [if_neg c, if_neg (show ¬ (s = 0 ∨ k = n) by omega), if_pos rfl]
      have ckk : ck (nI k) 6 = true := ck_nI (by omega) (by omega)
      have clk := cl_nI (show k < 100000 by omega)
      obtain ⟨x1, x2, x3, x4, x5⟩ := hsx k (by omega)
      obtain ⟨pn, m'', hpn, hpe, hAs, ht⟩ := M_try N0 (s := s) (l := l) (v := k) (A := X k) e hs hl (by omega) (hZ k (Nat.le_refl _) (by omega)) x1
      have e83 : m'.1 83 k = nI (X k) := by rw [pj_at e rfl, mS_o (by decide) (by decide)]; exact x3
      have pe : (P (o k) (nI s) (nI l) (nI k)).toNatClampNeg = pn := by rw [hpe, nI_clamp (by omega)]
      have fin : ∀ {M : MI} {s l q : Int32} {Y : Nat → Int32}, pj M = pj (mS m s l q Y) → M.1 84 k = b01 (B k) := fun h => by rw [pj_at h rfl, mS_o (by decide) (by decide)]; exact x5
      simp only [ckk, clk, if_true, e83, lt, nI_1, pe]
      rcases ht with ⟨t1, t2, t3⟩ | ⟨t1, y, t2, t3⟩
      · rw [t2]
        simp only [Option.bind_some, fin t3, if_pos t1]
        have l1 : 0 < l := by
          refine Nat.pos_of_ne_zero fun h => ?_
          have : chN s l pn = 1000000 := by unfold chN; rw [if_neg (by omega), if_pos h]
          omega
        obtain ⟨L, rfl⟩ : ∃ L, l = L + 1 := ⟨l - 1, by omega⟩
        rw [nI_pred] at t3
        have T2 : Trd m m0 m'' o n (k + 1) (nI s) (nI L) (nI (k + 1)) := ⟨Z, t3, hZ6, fun i h1 h2 => hZ i (by omega) h2, Asd_trans hAs hA⟩
        cases hB : B k with
        | true =>
          rw [if_neg (show ¬ (0 : Int32) = b01 true by decide), if_pos (show true = true from rfl)]
          exact out f' (k + 1) m'' _ _ _ (by omega) (tn T2) (by omega)
        | false =>
          rw [if_pos (show (0 : Int32) = b01 false by decide), if_neg (by decide)]
          exact ih (k + 1) f' s L m'' (by omega) (by omega) hs (by omega) (by omega) T2
      · rw [t2]
        simp only [Option.bind_some, fin t3, if_neg t1]
        obtain ⟨T, rfl⟩ : ∃ T, s = T + 1 := ⟨s - 1, by omega⟩
        rw [nI_pred] at t3
        have ho := o1 k (by omega)
        have T2 : Trd m m0 m'' o n (k + 1) (nI T) (nI l) (nI (k + 1)) := ⟨upd Z (o k) y, t3, fun i h => by rw [upd_n (by omega)]; exact hZ6 i h, fun i h1 h2 => by
          rw [upd_n (fun q => by have := o2 i k h2 (by omega) q; omega)]
          exact hZ i (by omega) h2, Asd_trans hAs hA⟩
        cases hB : B k with
        | true =>
          rw [if_pos (show (1 : Int32) = b01 true by decide), if_pos (show true = true from rfl)]
          exact ih (k + 1) f' T l m'' (by omega) (by omega) (by omega) hl (by omega) T2
        | false =>
          rw [if_neg (show ¬ (1 : Int32) = b01 false by decide), if_neg (by decide)]
          exact out f' (k + 1) m'' _ _ _ (by omega) (tn T2) (by omega)
theorem zb_b01 (b : Bool) : zb (b01 b) = true := by cases b <;> decide
theorem is_M (N : Ngt sh R m hw a z cs P n o) (hS : Seen m se X B) {s : Nat} (hs : 1 ≤ s ∧ s ≤ 3) {m' : MI} (e : pj m' = pj m) : ∃ m'', pj m'' = pj m ∧ fM_isSeen m' (nI s) = some (b01 (snR P o n X B se 0 s (a + (n + z - a) - s)), m'') := by
  have N0 := N
  obtain ⟨hF, hC, hP, hD, ⟨hn, h0, h0'⟩, o1, o2, o3, o4, o5, h34⟩ := N
  obtain ⟨m1, m2, a1, a2, a3, a4, a5, a6, a7⟩ := M_savE hC hn h0' e
  obtain ⟨F, hF1⟩ : ∃ F : Nat, F = 1000 := ⟨_, rfl⟩
  have hse := hS.1
  have ha := hC.2.2.2.1
  have hz := hC.2.2.2.2.1
  have m22 : m2.1 61 2 = nI a := by rw [pj_at a3 rfl, mS_61]; rfl
  have m23 : m2.1 61 3 = nI (n + z - a) := by rw [pj_at a3 rfl, mS_61]; rfl
  have b1 := pj_fld2 (k := 61) (j := 2) (x := nI s) a3
  rw [mS_2] at b1
  obtain ⟨m4, hm4⟩ : ∃ m4, m4 = mI m2 61 (upd (m2.1 61) 2 (nI s)) := ⟨_, rfl⟩
  rw [← hm4] at b1
  -- from the fist that is tried on
  have go : ∀ l : Nat, l ≤ 100 → l = a + (n + z - a) - s → ∃ m'', pj m'' = pj m ∧ fM_isSeen_l44 (nI s) (nI (a + (n + z - a))) (fun m9 z7 z8 => (fM_putBack m9).bind fun r10 => if zb z7 = true then some (z7, r10) else none) F (mI m4 61 (upd (m4.1 61) 3 (nI l))) 1 (nI 0) = some (b01 (snR P o n X B se 0 s (a + (n + z - a) - s)), m'') := fun l hl el => by
    have b2 := pj_fld2 (k := 61) (j := 3) (x := nI l) b1
    rw [mS_3] at b2
    obtain ⟨m'', s', l', q', w, ⟨Z, t1, t2, t3, t4⟩, ht⟩ := sn_M N0 hS (nI s) (nI (a + (n + z - a))) (fun m9 z7 z8 => (fM_putBack m9).bind fun r10 => if zb z7 = true then some (z7, r10) else none) (mI m4 61 (upd (m4.1 61) 3 (nI l))) se 0 F s l (mI m4 61 (upd (m4.1 61) 3 (nI l))) (by omega) (by omega) (by omega) hl (by omega) ⟨m.1 64, b2, fun _ _ => rfl, fun _ _ _ => rfl, rfl, fun _ _ _ => rfl⟩
    have q61 : ∀ j, 37 ≤ j → j ≤ 39 → m''.1 61 j = m2.1 61 j := fun j h1 h2 => by rw [t4.2 j h1 h2, mI_s, upd_n (by omega), hm4, mI_s, upd_n (by omega)]
    obtain ⟨mE, e1, e2⟩ := M_bakE t1 t2 (by rw [q61 37 (by omega) (by omega), a4]) (by rw [q61 38 (by omega) (by omega), a5]) (by rw [q61 39 (by omega) (by omega), a6]) (fun i hi => by rw [t4.1, mI_n (by decide), hm4, mI_n (by decide), a7 i hi])
    refine ⟨mE, e2, ?_⟩
    rw [ht, e1]
    simp only [Option.bind_some]
    rw [if_pos (zb_b01 _), el]
  unfold fM_isSeen
  rw [a1]
  simp only [Option.bind_some]
  rw [a2, ← hF1]
  simp only [Option.bind_some, lt, lm, m22, m23, nI_add]
  rw [← hm4]
  by_cases c : s ≤ a + (n + z - a)
  · rw [if_pos (nI_le c (by omega)), pk_sub c]
    exact go _ (by omega) rfl
  · rw [if_neg (by rw [nI_leI (by omega) (by omega)]; exact c)]
    exact go 0 (by omega) (by omega)
/-- the bits of FITS -/
def ftR (b : Nat → Bool) : Nat → Nat → Int32 → Int32
  | 0, _, v => v
  | q + 1, k, v => ftR b q (k + 1) (if b k = true then v ||| ((1 : Int32) <<< (nI k &&& 31)) else v)
theorem ft_C (N : Ngt sh R m hw a z cs P n o) (hS : Seen m se X B) : ∀ (q k f : Nat) (v : Int32) (m' : MI), k + q = 4 → 1 ≤ k → q < f → pj m' = pj m → ∃ m'', pj m'' = pj m ∧ fC_fits_l20 sh R (nI (a + (n + z - a))) (fun m6 z4 z5 => some (z4, m6)) f m' v (nI k) = some (ftR (fun s => snR P o n X B se 0 s (a + (n + z - a) - s)) q k v, m'') := by
  have ha := N.2.1.2.2.2.1
  have hz := N.2.1.2.2.2.2.1
  have hn := N.2.2.2.2.1.1
  have hse := hS.1
  intro q
  induction q with
  | zero =>
    intro k f v m' hk h1 hf e
    obtain ⟨f', rfl, -⟩ := fu hf
    refine ⟨m', e, ?_⟩
    rw [fC_fits_l20, if_pos (show (3 : Int32) < nI k from nI_lt (a := 3) (by omega) (by omega))]
    rfl
  | succ q ih =>
    intro k f v m' hk h1 hf e
    obtain ⟨f', rfl, hf'⟩ := fu hf
    rw [fC_fits_l20, if_neg (show ¬ (3 : Int32) < nI k from nI_nlt (a := 3) (by omega) (by omega))]
    have el : (if 0 < nI (a + (n + z - a)) - nI k then nI (a + (n + z - a)) - nI k else 0) = nI (a + (n + z - a) - k) := by
      have ti := sub_I (a := a + (n + z - a)) (b := k) (by omega) (by omega)
      by_cases c : k < a + (n + z - a)
      · rw [if_pos (by rw [Int32.lt_iff_toInt_lt, ti, Int32.toInt_zero]; omega), pk_sub (by omega)]
      · rw [if_neg (by rw [Int32.lt_iff_toInt_lt, ti, Int32.toInt_zero]; omega), show a + (n + z - a) - k = 0 by omega]; rfl
    rw [el]
    obtain ⟨F, hF1⟩ : ∃ F : Nat, F = 1000 := ⟨_, rfl⟩
    obtain ⟨mB, e2, h2⟩ := sn_C N hS (nI k) (nI (a + (n + z - a) - k)) se 0 F k (a + (n + z - a) - k) m' (by omega) (by omega) (by omega) (by omega) e
    have h3 : fW_isSeenBy sh R m' (nI k) (nI (a + (n + z - a) - k)) = some (b01 (snR P o n X B se 0 k (a + (n + z - a) - k)), mB) := by
      unfold fW_isSeenBy
      rw [← hF1]
      exact h2
    rw [h3]
    simp only [Option.bind_some, lt, nI_1]
    unfold ftR
    cases hb : snR P o n X B se 0 k (a + (n + z - a) - k) with
    | true =>
      rw [if_neg (by decide), if_pos (show true = true from rfl)]
      exact ih (k + 1) f' _ mB (by omega) (by omega) (hf' q rfl) e2
    | false =>
      rw [if_pos (by decide), if_neg (by decide)]
      exact ih (k + 1) f' _ mB (by omega) (by omega) (hf' q rfl) e2
theorem ft_M (N : Ngt sh R m hw a z cs P n o) (hS : Seen m se X B) : ∀ (q k f : Nat) (v : Int32) (m' : MI), k + q = 4 → 1 ≤ k → q < f → pj m' = pj m → ∃ m'', pj m'' = pj m ∧ fM_fits_l4 (fun m3 z1 z2 => some (z1, m3)) f m' v (nI k) = some (ftR (fun s => snR P o n X B se 0 s (a + (n + z - a) - s)) q k v, m'') := by
  intro q
  induction q with
  | zero =>
    intro k f v m' hk h1 hf e
    obtain ⟨f', rfl, -⟩ := fu hf
    refine ⟨m', e, ?_⟩
    rw [fM_fits_l4, if_pos (show (4 : Int32) ≤ nI k from nI_le (a := 4) (by omega) (by omega))]
    rfl
  | succ q ih =>
    intro k f v m' hk h1 hf e
    obtain ⟨f', rfl, hf'⟩ := fu hf
    rw [fM_fits_l4, if_neg (show ¬ (4 : Int32) ≤ nI k from not_le_nI (n := 4) (by omega) (by omega))]
    obtain ⟨mB, e2, h3⟩ := is_M N hS (s := k) ⟨h1, by omega⟩ e
    rw [h3]
    simp only [Option.bind_some, lt, nI_1, Int_or0]
    unfold ftR
    cases hb : snR P o n X B se 0 k (a + (n + z - a) - k) with
    | true =>
      rw [if_neg (by decide), if_pos (show true = true from rfl)]
      exact ih (k + 1) f' _ mB (by omega) (by omega) (hf' q rfl) e2
    | false =>
      rw [if_pos (by decide), if_neg (by decide)]
      exact ih (k + 1) f' _ mB (by omega) (by omega) (hf' q rfl) e2
end SM
theorem op_fits {sh : Sh} {R : RR} {m : MI} (H : Rel sh R m) : Ans sh R m (fun m => fC_fits sh R m) (fun m => fM_fits m) := by
  obtain ⟨hw, a, z, cs, P, n, o, N⟩ := night H
  obtain ⟨se, X, B, hS⟩ := seen_of H
  have N0 := N
  obtain ⟨hF, hC, hP, hD, ⟨hn, h0, h0'⟩, o1, o2, o3, o4, o5, h34⟩ := N
  obtain ⟨F, hF1⟩ : ∃ F : Nat, F = 1000 := ⟨_, rfl⟩
  obtain ⟨m1, a1, a2⟩ := ft_C N0 hS 3 1 F 0 m (by omega) (by omega) (by omega) rfl
  obtain ⟨m2, b1, b2⟩ := ft_M N0 hS 3 1 F 0 m1 (by omega) (by omega) (by omega) a1
  refine ⟨ftR (fun s => snR P o n X B se 0 s (a + (n + z - a) - s)) 3 1 0, m1, m2, ?_, ?_, Rel_pj b1 H⟩
  · show fC_fits sh R m = _
    unfold fC_fits
    rw [(W_whole hC hn h0 rfl).1]
    simp only [Option.bind_some]
    rw [(W_whole hC hn h0 rfl).2, ← hF1]
    simp only [Option.bind_some, lt, nI_add]
    exact a2
  · show fM_fits m1 = _
    unfold fM_fits
    rw [← hF1]
    exact b2
