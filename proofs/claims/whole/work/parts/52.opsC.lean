/-! THE SAME ANSWERS: the hut that is, a fist made whole; drawer -/
def lastF (w : Nat) : Nat → Cla → Nat := fun n c => if c.1 = w then c.2.1 else n
theorem lastN_f {cs : List Cla} {w d : Nat} : lastN cs w d = cs.foldl (lastF w) d := rfl
theorem M_lastL {m : MI} {j : Nat} {cs : List Cla} {w : Nat} (hw : w < 4) (hj : j < 6) (hlen : cs.length ≤ 10) (hok : ∀ c ∈ cs, claOK c) (h11 : m.1 61 11 = nI j) (h68 : m.1 68 j = nI cs.length) (hcl : ∀ c, c < cs.length → ∃ cl : Cla, cs[c]? = some cl ∧ m.1 69 (10 * j + c) = nI cl.1 ∧ m.1 70 (10 * j + c) = nI cl.2.1) (u2 : Int32) (kc : MI → Int32 → Int32 → Option (Int32 × MI)) :
    ∀ (q k v f : Nat), k + q = cs.length → q < f → fM_lastOf_l8 (nI w) u2 kc f m (nI v) (nI (10 * j + k)) = kc m (nI ((cs.drop k).foldl (lastF w) v)) (nI (10 * j + cs.length)) := by
  have hb : fM_behind m = some (nI (10 * j + cs.length), m) := by
    unfold fM_behind
    rw [h11, if_pos (nI_pos' (by omega)), if_pos (ck_nI hj (by omega)), cl_nI (by omega), h68, show (10 : Int32) = nI 10 from rfl, pk_mul, nI_add]
  intro q
  induction q with
  | zero =>
    intro k v f hk hf
    obtain ⟨f', rfl, -⟩ := fu hf
    rw [fM_lastOf_l8, hb]
    simp only [Option.bind_some]
    rw [if_pos (nI_le (by omega) (by omega)), show k = cs.length by omega, List.drop_length]
    rfl
  | succ q ih =>
    intro k v f hk hf
    obtain ⟨f', rfl, hf'⟩ := fu hf
    obtain ⟨cl, c1, c2, c3⟩ := hcl k (by omega)
    have hc4 : cl.1 < 4 := (hok cl (List.mem_of_getElem? c1)).1
    have hd : cs.drop k = cl :: cs.drop (k + 1) := by
      obtain ⟨hlt, he⟩ := List.getElem?_eq_some_iff.mp c1
      rw [List.drop_eq_getElem_cons hlt, he]
    rw [fM_lastOf_l8, hb]
    simp only [Option.bind_some]
    have ck6 : ck (nI (10 * j + k)) 60 = true := ck_nI (by omega) (by omega)
    rw [if_neg (show ¬ nI (10 * j + cs.length) ≤ nI (10 * j + k) by rw [nI_leI (by omega) (by omega)]; omega), if_pos ck6, if_pos ck6, cl_nI (by omega), c2, c3, hd, List.foldl_cons]
    simp only [lt, nI_1]
    by_cases e : cl.1 = w
    · rw [if_pos (by rw [e]), show 10 * j + k + 1 = 10 * j + (k + 1) from by omega, ih (k + 1) _ f' (by omega) (hf' q rfl)]
      unfold lastF
      rw [if_pos e]
    · rw [if_neg (fun h => e ((nI_eq (by omega) (by omega)).mp h)), show 10 * j + k + 1 = 10 * j + (k + 1) from by omega, ih (k + 1) _ f' (by omega) (hf' q rfl)]
      rw [show lastF w v cl = v from if_neg e]
theorem M_lastO {m : MI} {j : Nat} {cs : List Cla} {w : Nat} (hw : w < 4) (hj : j < 6) (hlen : cs.length ≤ 10) (hok : ∀ c ∈ cs, claOK c) (h11 : m.1 61 11 = nI j) (h68 : m.1 68 j = nI cs.length) (hcl : ∀ c, c < cs.length → ∃ cl : Cla, cs[c]? = some cl ∧ m.1 69 (10 * j + c) = nI cl.1 ∧ m.1 70 (10 * j + c) = nI cl.2.1) (d : Nat) : fM_lastOf m (nI w) (nI d) = some (nI (lastN cs w d), m) := by
  obtain ⟨F, hF⟩ : ∃ F : Nat, F = 1000 := ⟨_, rfl⟩
  have hb : fM_begin m = some (nI (10 * j + 0), m) := by
    unfold fM_begin
    rw [h11, if_pos (nI_pos' (by omega)), show (10 : Int32) = nI 10 from rfl, pk_mul]
    rfl
  unfold fM_lastOf
  rw [hb, ← hF]
  simp only [Option.bind_some]
  rw [M_lastL hw hj hlen hok h11 h68 hcl (nI d) (fun m4 z2 _ => some (z2, m4)) cs.length 0 d F (by omega) (by omega)]
  rfl
theorem M_lastN {m : MI} {w d : Nat} (h11 : m.1 61 11 = -1) : fM_lastOf m (nI w) (nI d) = some (nI d, m) := by
  obtain ⟨F, hF⟩ : ∃ F : Nat, F = 1000 := ⟨_, rfl⟩
  obtain ⟨F', hF'⟩ : ∃ F', F = F' + 1 := ⟨F - 1, by omega⟩
  have hb : fM_begin m = some (0, m) := by
    unfold fM_begin
    rw [h11, if_neg (by decide)]
  have hb2 : fM_behind m = some (0, m) := by
    unfold fM_behind
    rw [h11, if_neg (by decide)]
  unfold fM_lastOf
  rw [hb, ← hF, hF']
  simp only [Option.bind_some]
  rw [fM_lastOf_l8, hb2]
  simp only [Option.bind_some]
  rw [if_pos (by decide)]
theorem lastN_lt {cs : List Cla} {w d : Nat} (hok : ∀ c ∈ cs, claOK c) (hd : d < 100) : lastN cs w d < 100 := by
  rw [lastN_f]
  have : ∀ (l : List Cla) (v : Nat), (∀ c ∈ l, claOK c) → v < 100 → l.foldl (lastF w) v < 100 := by
    intro l
    induction l with
    | nil => intro v _ h; exact h
    | cons c l ih =>
      intro v hl h
      rw [List.foldl_cons]
      refine ih _ (fun c' h' => hl c' (List.mem_cons_of_mem _ h')) ?_
      unfold lastF
      split
      · exact (hl c (List.mem_cons_self ..)).2.1
      · exact h
  exact this cs d hok hd
/-- what the two hold of the hut that is -/
def CurH (sh : Sh) (R : RR) (m : MI) (hw a z : Nat) : Prop := R 1 15 = some hw ∧ sh[hw]? = some (11, 0) ∧ (hw = 16 ∨ hw = 34 ∨ 99 ≤ hw) ∧ (1 ≤ a ∧ a ≤ 3) ∧ z ≤ 9 ∧ m.1 hw 0 = nI a ∧ m.1 hw 1 = nI z ∧
  ∀ m' : MI, m'.1 61 11 = m.1 61 11 → m'.1 68 = m.1 68 → m'.1 69 = m.1 69 → m'.1 70 = m.1 70 → fM_wholeShorts m' = some (nI a, m') ∧ ∀ n, n ≤ 6 → m'.1 61 0 = nI n → fM_wholeLongs m' = some (nI (n + z - a), m')
theorem cur_aux {m' : MI} {x y a z : Nat} (hx : x < 100) (hy : y < 100) (e1 : fM_lastOf m' 2 1 = some (nI x, m')) (e2 : fM_lastOf m' 3 0 = some (nI y, m')) (ea : a = max 1 (min 3 x)) (ez : z = min 9 y) : fM_wholeShorts m' = some (nI a, m') ∧ ∀ n, n ≤ 6 → m'.1 61 0 = nI n → fM_wholeLongs m' = some (nI (n + z - a), m') := by
  have a1 : fM_wholeShorts m' = some (nI a, m') := by
    unfold fM_wholeShorts
    rw [e1]
    simp only [Option.bind_some]
    by_cases c1 : 1 ≤ x
    · rw [if_pos (show (1 : Int32) ≤ nI x from nI_le (a := 1) c1 (by omega))]
      by_cases c3 : x ≤ 3
      · rw [if_pos (show nI x ≤ 3 from nI_le (b := 3) c3 (by omega)), show a = x by omega]
      · rw [if_neg (show ¬ nI x ≤ 3 by rw [show (3 : Int32) = nI 3 from rfl, nI_leI (by omega) (by omega)]; exact c3), show a = 3 by omega]; rfl
    · rw [if_neg (show ¬ (1 : Int32) ≤ nI x by rw [show (1 : Int32) = nI 1 from rfl, nI_leI (by omega) (by omega)]; exact c1), show a = 1 by omega]; rfl
  refine ⟨a1, fun n hn h0 => ?_⟩
  have tail : (if 0 ≤ nI n + nI z - nI a then some (nI n + nI z - nI a, m') else some (0, m')) = some (nI (n + z - a), m') := by
    have ti : (nI n + nI z - nI a).toInt = ((n + z : Nat) : Int) - a := by rw [nI_add, sub_I (by omega) (by omega)]
    by_cases c : a ≤ n + z
    · rw [if_pos (by rw [Int32.le_iff_toInt_le, ti, Int32.toInt_zero]; omega), nI_add, pk_sub c]
    · rw [if_neg (by rw [Int32.le_iff_toInt_le, ti, Int32.toInt_zero]; omega), show n + z - a = 0 by omega]; rfl
  unfold fM_wholeLongs
  rw [e2]
  simp only [Option.bind_some]
  by_cases c9 : y ≤ 9
  · rw [if_pos (show nI y ≤ 9 from nI_le (b := 9) c9 (by omega)), a1]
    simp only [Option.bind_some, lt, h0, ← show z = y by omega]
    exact tail
  · rw [if_neg (show ¬ nI y ≤ 9 by rw [show (9 : Int32) = nI 9 from rfl, nI_leI (by omega) (by omega)]; exact c9), a1]
    simp only [Option.bind_some, lt, h0, show (9 : Int32) = nI z by rw [show z = 9 by omega]; rfl]
    exact tail
theorem base_len : base.length = 99 := rfl
theorem hutShAt {ls : List Nat} {j : Nat} (h : j < ls.length) : (base ++ hutSh ls)[99 + 2 * j]? = some (11, 0) := by
  rw [List.getElem?_append_right (by rw [base_len]; omega), base_len, show 99 + 2 * j - 99 = 2 * j by omega]
  induction ls generalizing j with
  | nil => simp at h
  | cons l ls ih =>
    cases j with
    | zero => rfl
    | succ j =>
      show ((11, 0) :: (0, l) :: hutSh ls)[2 * j + 1 + 1]? = _
      rw [List.getElem?_cons_succ, List.getElem?_cons_succ]
      exact ih (by simpa using h)
theorem cur_hut {sh : Sh} {R : RR} {m : MI} (H : Huts sh R m) (hF : Fixd m) : ∃ hw a z, CurH sh R m hw a z := by
  have hFx := Fx_of H
  obtain ⟨ls, a1, a2, a3, a4, a5, a6, a7, a8, ⟨hw, b1, b2⟩, -⟩ := H
  rcases b2 with ⟨t, h⟩ | ⟨j, j1, j2, j3⟩
  · have e2 : sh[hw]? = some (11, 0) := by
      rcases h with rfl | rfl
      · exact hFx.1 _ _ rfl
      · exact hFx.1 _ _ rfl
    have e3 : m.1 hw 0 = nI 1 ∧ m.1 hw 1 = nI 0 := by
      rcases h with rfl | rfl
      · exact hF.1
      · exact hF.2.1
    refine ⟨hw, 1, 0, b1, e2, ?_, by omega, by omega, e3.1, e3.2, fun m' q1 q2 q3 q4 => ?_⟩
    · rcases h with h | h
      · exact Or.inl h
      · exact Or.inr (Or.inl h)
    · exact cur_aux (x := 1) (y := 0) (by omega) (by omega) (M_lastN (w := 2) (d := 1) (by rw [q1, t])) (M_lastN (w := 3) (d := 0) (by rw [q1, t])) rfl rfl
  · obtain ⟨cs, c1, c2, -, c3, c4, c5, c6, c7, c8⟩ := a8 j j1
    subst j3
    refine ⟨99 + 2 * j, _, _, b1, by rw [a2]; exact hutShAt j1, Or.inr (Or.inr (by omega)), ?_, ?_, c5, c6, fun m' q1 q2 q3 q4 => ?_⟩
    · omega
    · omega
    · have hl : ∀ w d, w < 4 → fM_lastOf m' (nI w) (nI d) = some (nI (lastN cs w d), m') := fun w d hw4 => M_lastO hw4 (show j < 6 by omega) c1 c2 (by rw [q1, j2]) (by rw [q2, c7]) (fun c hc => by
        obtain ⟨cl, x1, x2, x3, -⟩ := c8 c hc
        exact ⟨cl, x1, by rw [q3, x2], by rw [q4, x3]⟩) d
      exact cur_aux (lastN_lt c2 (by omega)) (lastN_lt c2 (by omega)) (hl 2 1 (by omega)) (hl 3 0 (by omega)) rfl rfl
theorem W_make {sh : Sh} {R : RR} {m m' : MI} {hw a z n : Nat} (C : CurH sh R m hw a z) (hn : n ≤ 6) (h0 : m'.1 1 0 = nI n) (hh : m'.1 hw = m.1 hw) : fW_makeWhole sh R m' = some (mI m' 1 (upd (upd (upd (m'.1 1) 6 (nI a)) 7 (nI (n + z - a))) 8 0)) := by
  obtain ⟨r1, s1, d1, a1, z1, v1, v2, -⟩ := C
  have hne : hw ≠ 1 := by omega
  unfold fW_makeWhole fW_wholeShorts fW_wholeLongs
  simp only [r1, mq, if_pos s1, Option.bind_some, lm, mI_s, mI_mI, mI_n hne, hh, v1, v2, upd_n (show (0 : Nat) ≠ 6 by decide), h0]
  have ti : (nI n + nI z - nI a).toInt = ((n + z : Nat) : Int) - a := by rw [nI_add, sub_I (by omega) (by omega)]
  have e : (if 0 < nI n + nI z - nI a then nI n + nI z - nI a else 0) = nI (n + z - a) := by
    by_cases c : a < n + z
    · rw [if_pos (by rw [Int32.lt_iff_toInt_lt, ti, Int32.toInt_zero]; omega), nI_add, pk_sub (by omega)]
    · rw [if_neg (by rw [Int32.lt_iff_toInt_lt, ti, Int32.toInt_zero]; omega), show n + z - a = 0 by omega]; rfl
  rw [e]
theorem M_lay {sh : Sh} {R : RR} {m m' : MI} {hw a z n : Nat} (C : CurH sh R m hw a z) (hn : n ≤ 6) (h0 : m'.1 61 0 = nI n) (h11 : m'.1 61 11 = m.1 61 11) (h68 : m'.1 68 = m.1 68) (h69 : m'.1 69 = m.1 69) (h70 : m'.1 70 = m.1 70) : fM_layFist m' = some (mI m' 61 (upd (upd (upd (m'.1 61) 2 (nI a)) 3 (nI (n + z - a))) 4 0)) := by
  obtain ⟨r1, s1, d1, a1, z1, v1, v2, k⟩ := C
  unfold fM_layFist
  rw [(k m' h11 h68 h69 h70).1]
  simp only [Option.bind_some, lm]
  rw [(k (mI m' 61 (upd (m'.1 61) 2 (nI a))) (by rw [mI_s, upd_n (by decide)]; exact h11) (by rw [mI_n (by decide)]; exact h68) (by rw [mI_n (by decide)]; exact h69) (by rw [mI_n (by decide)]; exact h70)).2 n hn (by rw [mI_s, upd_n (by decide)]; exact h0)]
  simp only [Option.bind_some, mI_s, mI_mI]
