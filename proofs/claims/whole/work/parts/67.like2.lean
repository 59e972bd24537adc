/-! THE SAME ANSWERS: likely, even -/
/-- all that the calls about a night need -/
def Ngt (sh : Sh) (R : RR) (m : MI) (hw a z : Nat) (cs : List Cla) (P : Nat → Int32 → Int32 → Int32 → Int32) (n : Nat) (o : Nat → Nat) : Prop :=
  Fx sh R ∧ CurH sh R m hw a z ∧ PlH sh R m hw cs ∧ Drs P cs m n ∧ (n ≤ 6 ∧ m.1 1 0 = nI n ∧ m.1 61 0 = nI n) ∧ (∀ i, i < n → o i < n) ∧ (∀ i j, i < n → j < n → o i = o j → i = j) ∧ (∀ d, d < n → ∃ i, i < n ∧ o i = d) ∧ (∀ i, i < n → m.1 66 i = nI (o i)) ∧ m.1 12 = m.1 66 ∧ m.1 61 34 = nI 0
theorem night {sh : Sh} {R : RR} {m : MI} (H : Rel sh R m) : ∃ hw a z cs P n o, Ngt sh R m hw a z cs P n o := by
  have hF := Fx_of H.2.2.2.2.2
  have h34 := H.2.2.2.2.1.2.2.1
  obtain ⟨hw, a, z, hC⟩ := cur_hut H.2.2.2.2.2 H.2.2.2.2.1
  obtain ⟨cs, hP⟩ := cur_pl H.2.2.2.2.2 hC.1
  obtain ⟨⟨n, s, l, q, nn, se, bo, h1, h2, h3, h4, h5, h6, h7, h8, h9, h10, h11, h12, -⟩, -⟩ := H
  obtain ⟨P, hD⟩ := Drs_of (n := n) hP.1 h1.1 h8 h9 h10 h11
  have ho : ∀ i, i < n → (m.1 66 i).toNatClampNeg < n ∧ m.1 66 i = nI (m.1 66 i).toNatClampNeg := fun i hi => by
    obtain ⟨d, hd, e⟩ := h12.2.1 i hi
    rw [e, nI_clamp (by omega)]
    exact ⟨hd, rfl⟩
  refine ⟨hw, a, z, cs, P, n, fun i => (m.1 66 i).toNatClampNeg, hF, hC, hP, hD, h1, fun i hi => (ho i hi).1, fun i j hi hj e => ?_, fun d hd => ?_, fun i hi => (ho i hi).2, h12.1, h34⟩
  · refine h12.2.2.2 i j hi hj ?_
    rw [(ho i hi).2, (ho j hj).2]
    exact congrArg nI e
  · obtain ⟨k, hk, e⟩ := h12.2.2.1 d hd
    exact ⟨k, hk, by show (m.1 66 k).toNatClampNeg = d; rw [e, nI_clamp (by omega)]⟩
section LK
variable {sh : Sh} {R : RR} {m : MI} {hw a z n : Nat} {cs : List Cla} {P : Nat → Int32 → Int32 → Int32 → Int32} {o : Nat → Nat}
theorem hut_pj (hC : CurH sh R m hw a z) {m' : MI} (e : pj m' = pj m) : m'.1 hw = m.1 hw := by
  have := hC.2.2.1
  exact pj_rw e (scr_r (by simp only [List.mem_cons, List.not_mem_nil, or_false]; omega))
theorem W_whole (hC : CurH sh R m hw a z) (hn : n ≤ 6) (h0 : m.1 1 0 = nI n) {m' : MI} (e : pj m' = pj m) : fW_wholeShorts sh R m' = some (nI a, m') ∧ fW_wholeLongs sh R m' = some (nI (n + z - a), m') := by
  have hh := hut_pj hC e
  have h0' : m'.1 1 0 = nI n := by rw [pj_at e rfl, h0]
  obtain ⟨r1, s1, d1, a1, z1, v1, v2, -⟩ := hC
  have ti : (nI n + nI z - nI a).toInt = ((n + z : Nat) : Int) - a := by rw [nI_add, sub_I (by omega) (by omega)]
  have e2 : (if 0 < nI n + nI z - nI a then nI n + nI z - nI a else 0) = nI (n + z - a) := by
    by_cases c : a < n + z
    · rw [if_pos (by rw [Int32.lt_iff_toInt_lt, ti, Int32.toInt_zero]; omega), nI_add, pk_sub (by omega)]
    · rw [if_neg (by rw [Int32.lt_iff_toInt_lt, ti, Int32.toInt_zero]; omega), show n + z - a = 0 by omega]; rfl
  unfold fW_wholeShorts fW_wholeLongs
  simp only [r1, mq, if_pos s1, hh, v1, v2, h0', e2, and_self]
theorem M_whole (hC : CurH sh R m hw a z) (hn : n ≤ 6) (h0 : m.1 61 0 = nI n) {m' : MI} (e : pj m' = pj m) : fM_wholeShorts m' = some (nI a, m') ∧ fM_wholeLongs m' = some (nI (n + z - a), m') := by
  have r : ∀ {k : Nat}, k ∉ [18, 36, 38, 40, 41, 42, 45, 74, 76, 77, 78, 79, 80, 81, 82, 37, 43, 46, 61] → m'.1 k = m.1 k := fun h => pj_rw e (scr_r h)
  obtain ⟨k1, k2⟩ := hC.2.2.2.2.2.2.2 m' (pj_at e rfl) (r (by decide)) (r (by decide)) (r (by decide))
  exact ⟨k1, k2 n hn (by rw [pj_at e rfl, h0])⟩
theorem L_beg (hF : Fx sh R) (hC : CurH sh R m hw a z) (hn : n ≤ 6) (h0 : m.1 1 0 = nI n) (X : Nat) {m' : MI} (e : pj m' = pj m) : ∃ m'', fL_begin sh R m' (nI X) = some m'' ∧ LC P (a + (n + z - a) + X) a m n m'' ∧ (∀ k, k ≠ 37 → k ≠ 40 → m''.1 k = m'.1 k) ∧ m''.2 = m'.2 := by
  obtain ⟨F, hF1⟩ : ∃ F : Nat, F = 1000 := ⟨_, rfl⟩
  have s40 : sh[40]? = some (0, 144) := hF.1 40 _ rfl
  obtain ⟨mA, hmA⟩ : ∃ mA, mA = mI m' 37 (upd (m'.1 37) 4 (nI a)) := ⟨_, rfl⟩
  have eA : pj mA = pj m := by rw [hmA]; exact Eq.trans (pj_fld rfl) e
  obtain ⟨mB, hmB⟩ : ∃ mB, mB = mI m' 37 (upd (upd (m'.1 37) 4 (nI a)) 5 (nI (n + z - a + X))) := ⟨_, rfl⟩
  have eB : pj mB = pj m := by
    have : mB = mI mA 37 (upd (mA.1 37) 5 (nI (n + z - a + X))) := by rw [hmB, hmA, mI_mI, mI_s]
    rw [this]; exact Eq.trans (pj_fld rfl) eA
  obtain ⟨g, g1, -, g3⟩ := fillI (R := R) s40 (by omega) (-1) (fun m4 _ => some m4) 144 0 F mB (by omega) (by omega)
  refine ⟨mI mB 40 g, ?_, ⟨pj_r (fun _ => rfl) eB, ?_, ⟨by omega, ?_⟩, fun d v b hd hv hb => Or.inl ?_⟩, fun k k1 k2 => ?_, ?_⟩
  · unfold fL_begin
    rw [(W_whole hC hn h0 e).1]
    simp only [Option.bind_some, lm]
    rw [← hmA, (W_whole hC hn h0 eA).2]
    simp only [Option.bind_some, nI_add]
    rw [show mI mA 37 (upd (mA.1 37) 5 (nI (n + z - a + X))) = mB by rw [hmB, hmA, mI_mI, mI_s]]
    unfold fJA_fill_53178
    rw [if_pos (kA_of s40), lenA_of s40, ← hF1]
    simp only [lt]
    rw [show Int32.ofNat 144 = nI 144 from rfl, show fJA_fill_53178_l5 sh R 40 (-1) (nI 144) (fun m4 _ => some m4) F mB 0 = _ from g3]
    rfl
  · rw [mI_n (by decide), hmB, mI_s, upd_n (by decide), upd_s]
  · rw [mI_n (by decide), hmB, mI_s, upd_s]; congr 1; omega
  · rw [mI_s, g1 _ (by omega) (by omega)]
  · rw [mI_n k2, hmB, mI_n k1]
  · rw [hmB]; rfl
theorem go_le {c w : Nat → Nat} {S : Nat} (hc : ∀ b, c b ≤ 1000000) (h : wOK S w) : goW c w ≤ 1000000 := by
  have a1 := mvW_le (w := w) (hc 1)
  have a2 := mvW_le (w := w) (hc 2)
  have a3 := mvW_le (w := w) (hc 3)
  have := h.2.2
  unfold goW
  omega
/-- the chance of each drawer, by its place -/
def gon (P : Nat → Int32 → Int32 → Int32 → Int32) (T S : Nat) (o : Nat → Nat) (i : Nat) : Nat := goW (chv P T (o i) i) (wAt (fun v => chv P T (o v) v) S i)
theorem gon_le {T S : Nat} (hS : S ≤ 3) (i : Nat) : gon P T S o i ≤ 1000000 := go_le (fun b => chv_le _ _ _) (wOK_at (C := fun v => chv P T (o v) v) hS (fun v b => chv_le _ _ _) (fun v => chv_0 _ _) i)
end LK
theorem op_likely {sh : Sh} {R : RR} {m : MI} (b : Int32) (H : Rel sh R m) : Ans sh R m (fun m => fC_likely sh R m b) (fun m => fM_likely m b) := by
  obtain ⟨hw, a, z, cs, P, n, o, hF, hC, hP, hD, ⟨hn, h0, h0'⟩, o1, o2, o3, o4, o5, h34⟩ := night H
  have hA := hC.2.2.2.1
  have hZ := hC.2.2.2.2.1
  have one : ¬ (1 : Int32) = 0 := by decide
  rcases dcase (n := n) (by omega) b with hd | ⟨d, hd, rfl, hd'⟩
  · exact ⟨-1, m, m, by simp [fC_likely, W_has0 h0 hd], by simp [fM_likely, M_isD0 (by omega) h0' hd], H⟩
  obtain ⟨i, hi, rfl⟩ := o3 d hd
  obtain ⟨m1, a1, a2, a3, a4⟩ := L_beg (P := P) hF hC hn h0 0 (m' := m) rfl
  obtain ⟨m2, b1, b2, b3, b4⟩ := C_go_12 (T := a + (n + z - a) + 0) (S := a) hF hC.1 hC.2.1 hP hD hn (by omega) (by omega) h0 o1 o2 m1 a2 (fun i hi => by rw [a3 _ (by decide) (by decide), o5]; exact o4 i hi)
  obtain ⟨m3, c1, c2, c3, c4⟩ := M_go (S := a) (L := n + z - a) (X := 0) hP hD hn (by omega) h0' o1 o2 o4 (by omega) h34 (fun m' e => (M_whole hC hn h0' e).1) (fun m' e => (M_whole hC hn h0' e).2) m2 b2.1
  have cko : ck (nI (o i)) 6 = true := ck_nI (by omega) (by omega)
  have clo := cl_nI (show o i < 100000 by omega)
  refine ⟨nI (gon P (a + (n + z - a) + 0) a o i), m2, m3, ?_, ?_, Rel_pj c2 H⟩
  · show fC_likely sh R m (nI (o i)) = _
    unfold fC_likely fL_ofOne_12
    rw [W_has1 h0 hd']
    simp only [Option.bind_some, if_neg one]
    rw [show (0 : Int32) = nI 0 from rfl, a1]
    simp only [Option.bind_some]
    rw [b1]
    simp only [Option.bind_some, cko, clo, if_true, b4 i hi]
    rfl
  · show fM_likely m2 (nI (o i)) = _
    unfold fM_likely
    rw [M_isD1 (by omega) (by rw [pj_at b2.1 rfl]; exact h0') hd']
    simp only [Option.bind_some, if_neg one, c1, cko, clo, if_true, c4 i hi]
    rfl
def hiF (G : Nat → Nat) : Nat → Nat
  | 0 => G 0
  | k + 1 => max (hiF G k) (G (k + 1))
def loF (G : Nat → Nat) : Nat → Nat
  | 0 => G 0
  | k + 1 => min (loF G k) (G (k + 1))
theorem hi_le {G : Nat → Nat} (h : ∀ k, G k ≤ 1000000) : ∀ k, hiF G k ≤ 1000000 ∧ loF G k ≤ hiF G k
  | 0 => ⟨h 0, Nat.le_refl _⟩
  | k + 1 => by
    have := hi_le h k
    have := h (k + 1)
    show max (hiF G k) (G (k + 1)) ≤ 1000000 ∧ min (loF G k) (G (k + 1)) ≤ max (hiF G k) (G (k + 1))
    omega
theorem even_C12 {m : MI} {n : Nat} {G : Nat → Nat} (hn : n ≤ 6) (h0 : m.1 1 0 = nI n) (hG : ∀ k, G k ≤ 1000000) (h : ∀ d, d < n → m.1 38 d = nI (G d)) (kc : MI → Int32 → Int32 → Int32 → Option (Int32 × MI)) : ∀ (q k f : Nat), k + 1 + q = n → q < f → fL_evenBy_12_l22 kc f m (nI (hiF G k)) (nI (loF G k)) (nI (k + 1)) = kc m (nI (hiF G (n - 1))) (nI (loF G (n - 1))) (nI n) := by
  intro q
  induction q with
  | zero =>
    intro k f hk hf
    obtain ⟨f', rfl, -⟩ := fu hf
    rw [fL_evenBy_12_l22, h0, if_pos (nI_le (by omega) (by omega)), show k = n - 1 by omega, show n - 1 + 1 = n by omega]
  | succ q ih =>
    intro k f hk hf
    obtain ⟨f', rfl, hf'⟩ := fu hf
    have b1 := hi_le hG k
    have b2 := hG (k + 1)
    have e1 : (if nI (hiF G k) < nI (G (k + 1)) then nI (G (k + 1)) else nI (hiF G k)) = nI (hiF G (k + 1)) := by
      show _ = nI (max (hiF G k) (G (k + 1)))
      by_cases c : hiF G k < G (k + 1)
      · rw [if_pos (nI_lt c (by omega)), Nat.max_eq_right (by omega)]
      · rw [if_neg (nI_nlt (by omega) (by omega)), Nat.max_eq_left (by omega)]
    have e2 : (if nI (G (k + 1)) < nI (loF G k) then nI (G (k + 1)) else nI (loF G k)) = nI (loF G (k + 1)) := by
      show _ = nI (min (loF G k) (G (k + 1)))
      by_cases c : G (k + 1) < loF G k
      · rw [if_pos (nI_lt c (by omega)), Nat.min_eq_right (by omega)]
      · rw [if_neg (nI_nlt (by omega) (by omega)), Nat.min_eq_left (by omega)]
    rw [fL_evenBy_12_l22, h0, if_neg (not_le_nI (by omega) (by omega))]
    simp only [ck_nI (show k + 1 < 6 by omega) (show 6 ≤ 100000 by omega), cl_nI (show k + 1 < 100000 by omega), if_true, h (k + 1) (by omega), lt, e1, e2, nI_1]
    exact ih (k + 1) f' (by omega) (hf' q rfl)
theorem even_C41 {m : MI} {n : Nat} {G : Nat → Nat} (hn : n ≤ 6) (h0 : m.1 1 0 = nI n) (hG : ∀ k, G k ≤ 1000000) (h : ∀ d, d < n → m.1 38 d = nI (G d)) (kc : MI → Int32 → Int32 → Int32 → Option (Int32 × MI)) : ∀ (q k f : Nat), k + 1 + q = n → q < f → fL_evenBy_41_l22 kc f m (nI (hiF G k)) (nI (loF G k)) (nI (k + 1)) = kc m (nI (hiF G (n - 1))) (nI (loF G (n - 1))) (nI n) := by
  intro q
  induction q with
  | zero =>
    intro k f hk hf
    obtain ⟨f', rfl, -⟩ := fu hf
    rw [fL_evenBy_41_l22, h0, if_pos (nI_le (by omega) (by omega)), show k = n - 1 by omega, show n - 1 + 1 = n by omega]
  | succ q ih =>
    intro k f hk hf
    obtain ⟨f', rfl, hf'⟩ := fu hf
    have b1 := hi_le hG k
    have b2 := hG (k + 1)
    have e1 : (if nI (hiF G k) < nI (G (k + 1)) then nI (G (k + 1)) else nI (hiF G k)) = nI (hiF G (k + 1)) := by
      show _ = nI (max (hiF G k) (G (k + 1)))
      by_cases c : hiF G k < G (k + 1)
      · rw [if_pos (nI_lt c (by omega)), Nat.max_eq_right (by omega)]
      · rw [if_neg (nI_nlt (by omega) (by omega)), Nat.max_eq_left (by omega)]
    have e2 : (if nI (G (k + 1)) < nI (loF G k) then nI (G (k + 1)) else nI (loF G k)) = nI (loF G (k + 1)) := by
      show _ = nI (min (loF G k) (G (k + 1)))
      by_cases c : G (k + 1) < loF G k
      · rw [if_pos (nI_lt c (by omega)), Nat.min_eq_right (by omega)]
      · rw [if_neg (nI_nlt (by omega) (by omega)), Nat.min_eq_left (by omega)]
    rw [fL_evenBy_41_l22, h0, if_neg (not_le_nI (by omega) (by omega))]
    simp only [ck_nI (show k + 1 < 6 by omega) (show 6 ≤ 100000 by omega), cl_nI (show k + 1 < 100000 by omega), if_true, h (k + 1) (by omega), lt, e1, e2, nI_1]
    exact ih (k + 1) f' (by omega) (hf' q rfl)
theorem even_M {m : MI} {n : Nat} {G : Nat → Nat} (hn : n ≤ 6) (h0 : m.1 61 0 = nI n) (hG : ∀ k, G k ≤ 1000000) (h : ∀ d, d < n → m.1 77 d = nI (G d)) (kc : MI → Int32 → Int32 → Int32 → Option (Int32 × MI)) : ∀ (q k f lo hi : Nat), k + q = n → q < f → lo ≤ 1000000 → hi ≤ 1000000 → ((k = 0 ∧ lo = 1000000 ∧ hi = 0) ∨ (0 < k ∧ lo = loF G (k - 1) ∧ hi = hiF G (k - 1))) → 0 < n → fM_evenNow_l12 kc f m (nI lo) (nI hi) (nI k) = kc m (nI (loF G (n - 1))) (nI (hiF G (n - 1))) (nI n) := by
  intro q
  induction q with
  | zero =>
    intro k f lo hi hk hf b1 b2 hv hn0
    obtain ⟨f', rfl, -⟩ := fu hf
    obtain ⟨-, e1, e2⟩ := hv.resolve_left (by omega)
    rw [fM_evenNow_l12, h0, if_pos (nI_le (by omega) (by omega)), e1, e2, show k = n by omega]
  | succ q ih =>
    intro k f lo hi hk hf b1 b2 hv hn0
    obtain ⟨f', rfl, hf'⟩ := fu hf
    have ckk : ck (nI k) 6 = true := ck_nI (by omega) (by omega)
    have clk := cl_nI (show k < 100000 by omega)
    have bG := hG k
    have next : ∀ lo' hi', lo' = min lo (G k) → hi' = max hi (G k) → fM_evenNow_l12 kc f' m (nI lo') (nI hi') (nI (k + 1)) = kc m (nI (loF G (n - 1))) (nI (hiF G (n - 1))) (nI n) := fun lo' hi' e1 e2 => by
      refine ih (k + 1) f' lo' hi' (by omega) (hf' q rfl) (by omega) (by omega) (Or.inr ⟨by omega, ?_, ?_⟩) hn0
      · rw [e1, Nat.add_sub_cancel]
        rcases hv with ⟨rfl, rfl, rfl⟩ | ⟨h1, h2, h3⟩
        · show min 1000000 (G 0) = G 0; omega
        · obtain ⟨j, rfl⟩ : ∃ j, k = j + 1 := ⟨k - 1, by omega⟩
          rw [h2]; rfl
      · rw [e2, Nat.add_sub_cancel]
        rcases hv with ⟨rfl, rfl, rfl⟩ | ⟨h1, h2, h3⟩
        · show max 0 (G 0) = G 0; omega
        · obtain ⟨j, rfl⟩ : ∃ j, k = j + 1 := ⟨k - 1, by omega⟩
          rw [h3]; rfl
    rw [fM_evenNow_l12, h0, if_neg (not_le_nI (by omega) (by omega))]
    simp only [ckk, clk, if_true, h k (by omega), lt, nI_1]
    by_cases c1 : lo ≤ G k
    · rw [if_pos (nI_le c1 (by omega))]
      by_cases c2 : G k ≤ hi
      · rw [if_pos (nI_le c2 (by omega))]; exact next lo hi (by omega) (by omega)
      · rw [if_neg (show ¬ nI (G k) ≤ nI hi by rw [nI_leI (by omega) (by omega)]; exact c2)]; exact next lo (G k) (by omega) (by omega)
    · rw [if_neg (show ¬ nI lo ≤ nI (G k) by rw [nI_leI (by omega) (by omega)]; exact c1)]
      by_cases c2 : G k ≤ hi
      · rw [if_pos (nI_le c2 (by omega))]; exact next (G k) hi (by omega) (by omega)
      · rw [if_neg (show ¬ nI (G k) ≤ nI hi by rw [nI_leI (by omega) (by omega)]; exact c2)]; exact next (G k) (G k) (by omega) (by omega)
theorem byDr {n : Nat} {o g : Nat → Nat} {B : Nat} (h : ∀ i, g i ≤ B) (oi : ∀ i j, i < n → j < n → o i = o j → i = j) : ∃ G : Nat → Nat, (∀ i, i < n → G (o i) = g i) ∧ ∀ k, G k ≤ B := by
  have key : ∀ d, ∃ y, y ≤ B ∧ ∀ i, i < n → o i = d → y = g i := fun d => by
    by_cases c : ∃ i, i < n ∧ o i = d
    · obtain ⟨i, hi, e⟩ := c
      exact ⟨g i, h i, fun j hj e' => by rw [oi i j hi hj (e.trans e'.symm)]⟩
    · exact ⟨0, Nat.zero_le _, fun i hi e => absurd ⟨i, hi, e⟩ c⟩
  exact ⟨fun d => Classical.choose (key d), fun i hi => (Classical.choose_spec (key (o i))).2 i hi rfl, fun k => (Classical.choose_spec (key k)).1⟩
theorem op_even {sh : Sh} {R : RR} {m : MI} (H : Rel sh R m) : Ans sh R m (fun m => fC_even sh R m) (fun m => fM_even m) := by
  obtain ⟨hw, a, z, cs, P, n, o, hF, hC, hP, hD, ⟨hn, h0, h0'⟩, o1, o2, o3, o4, o5, h34⟩ := night H
  have hA := hC.2.2.2.1
  have hZ := hC.2.2.2.2.1
  obtain ⟨F, hF1⟩ : ∃ F : Nat, F = 1000 := ⟨_, rfl⟩
  by_cases hn0 : n = 0
  · refine ⟨-5, m, m, ?_, ?_, H⟩
    · show fC_even sh R m = _
      unfold fC_even
      rw [h0, if_pos (by rw [hn0]; rfl)]
    · show fM_even m = _
      unfold fM_even
      rw [h0', if_pos (by rw [hn0]; rfl)]
  have nz : ¬ nI n = 0 := fun e => hn0 ((nI_eq (b := 0) (by omega) (by omega)).mp e)
  obtain ⟨m1, a1, a2, a3, a4⟩ := L_beg (P := P) hF hC hn h0 0 (m' := m) rfl
  obtain ⟨m2, b1, b2, b3, b4⟩ := C_go_12 (T := a + (n + z - a) + 0) (S := a) hF hC.1 hC.2.1 hP hD hn (by omega) (by omega) h0 o1 o2 m1 a2 (fun i hi => by rw [a3 _ (by decide) (by decide), o5]; exact o4 i hi)
  obtain ⟨m3, c1, c2, c3, c4⟩ := M_go (S := a) (L := n + z - a) (X := 0) hP hD hn (by omega) h0' o1 o2 o4 (by omega) h34 (fun m' e => (M_whole hC hn h0' e).1) (fun m' e => (M_whole hC hn h0' e).2) m2 b2.1
  obtain ⟨G, g1, g2⟩ := byDr (o := o) (n := n) (gon_le (P := P) (T := a + (n + z - a) + 0) (o := o) (show a ≤ 3 by omega)) o2
  have q1 : ∀ d, d < n → m2.1 38 d = nI (G d) := fun d hd => by
    obtain ⟨i, hi, rfl⟩ := o3 d hd
    rw [g1 i hi]; exact b4 i hi
  have q2 : ∀ d, d < n → m3.1 77 d = nI (G d) := fun d hd => by
    obtain ⟨i, hi, rfl⟩ := o3 d hd
    rw [g1 i hi]; exact c4 i hi
  have hl := hi_le g2 (n - 1)
  refine ⟨nI (hiF G (n - 1) - loF G (n - 1)), m2, m3, ?_, ?_, Rel_pj c2 H⟩
  · show fC_even sh R m = _
    unfold fC_even fL_evenBy_12
    rw [h0, if_neg nz, show (0 : Int32) = nI 0 from rfl, a1]
    simp only [Option.bind_some]
    rw [b1, ← hF1]
    simp only [Option.bind_some, lt, show (nI 0).toNatClampNeg = 0 from rfl, q1 0 (by omega)]
    rw [show nI (G 0) = nI (hiF G 0) from rfl, show (1 : Int32) = nI (0 + 1) from rfl]
    have := even_C12 (m := m2) hn (by rw [pj_at b2.1 rfl]; exact h0) g2 q1 (fun m7 z4 z5 _ => some (z4 - z5, m7)) (n - 1) 0 F (by omega) (by omega)
    rw [show nI (loF G 0) = nI (hiF G 0) from rfl] at this
    rw [this]
    simp only [Option.bind_some, pk_sub hl.2]
  · show fM_even m2 = _
    unfold fM_even fM_evenNow
    rw [show m2.1 61 0 = nI n by rw [pj_at b2.1 rfl]; exact h0', if_neg nz, c1, ← hF1]
    simp only [Option.bind_some]
    have := even_M (m := m3) (lo := 1000000) (hi := 0) hn (by rw [pj_at c2 rfl]; exact h0') g2 q2 (fun m5 z2 z3 _ => some (z3 - z2, m5)) n 0 F (by omega) (by omega) (by omega) (by omega) (Or.inl ⟨rfl, rfl, rfl⟩) (by omega)
    rw [show (1000000 : Int32) = nI 1000000 from rfl, show (0 : Int32) = nI 0 from rfl, this]
    simp only [Option.bind_some, pk_sub hl.2]
