/-! THE SAME ANSWERS: the chances of a night; the pure process -/
/-- chance of drawer d at place v with b short straws, T straws in all -/
def chv (P : Nat → Int32 → Int32 → Int32 → Int32) (T d v b : Nat) : Nat := chN b (T - v - b) (P d (nI b) (nI (T - v - b)) (nI v)).toNatClampNeg
def mvW (c : Nat → Nat) (w : Nat → Nat) (b : Nat) : Nat := w b * c b / 1000000
def stW (c : Nat → Nat) (w : Nat → Nat) : Nat → Nat := fun b => w b - mvW c w b + mvW c w (b + 1)
def goW (c : Nat → Nat) (w : Nat → Nat) : Nat := mvW c w 1 + mvW c w 2 + mvW c w 3
def wAt (C : Nat → Nat → Nat) (S : Nat) : Nat → Nat → Nat
  | 0 => fun b => if b = S then 1000000 else 0
  | v + 1 => stW (C v) (wAt C S v)
def wOK (S : Nat) (w : Nat → Nat) : Prop := (∀ b, S < b → w b = 0) ∧ (∀ b, w b ≤ 1000000) ∧ w 0 + w 1 + w 2 + w 3 ≤ 1000000
theorem mvW_le {c w : Nat → Nat} {b : Nat} (h : c b ≤ 1000000) : mvW c w b ≤ w b := by
  unfold mvW
  exact Nat.div_le_of_le_mul (by rw [Nat.mul_comm]; exact Nat.mul_le_mul_right _ h)
theorem mvW_0 {c w : Nat → Nat} {b : Nat} (h : w b = 0) : mvW c w b = 0 := by unfold mvW; rw [h, Nat.zero_mul, Nat.zero_div]
theorem wOK_st {c w : Nat → Nat} {S : Nat} (hS : S ≤ 3) (hc : ∀ b, c b ≤ 1000000) (hc0 : c 0 = 0) (h : wOK S w) : wOK S (stW c w) := by
  obtain ⟨h1, h2, h3⟩ := h
  have z : mvW c w 0 = 0 := by unfold mvW; rw [hc0, Nat.mul_zero, Nat.zero_div]
  have z4 : mvW c w 4 = 0 := mvW_0 (h1 4 (by omega))
  have a1 := mvW_le (c := c) (w := w) (b := 1) (hc 1)
  have a2 := mvW_le (c := c) (w := w) (b := 2) (hc 2)
  have a3 := mvW_le (c := c) (w := w) (b := 3) (hc 3)
  have e0 : stW c w 0 = w 0 - mvW c w 0 + mvW c w 1 := rfl
  have e1 : stW c w 1 = w 1 - mvW c w 1 + mvW c w 2 := rfl
  have e2 : stW c w 2 = w 2 - mvW c w 2 + mvW c w 3 := rfl
  have e3 : stW c w 3 = w 3 - mvW c w 3 + mvW c w 4 := rfl
  have s4 : stW c w 0 + stW c w 1 + stW c w 2 + stW c w 3 ≤ 1000000 := by omega
  have g : ∀ b, S < b → stW c w b = 0 := fun b hb => by
    show w b - mvW c w b + mvW c w (b + 1) = 0
    rw [h1 b hb, mvW_0 (h1 (b + 1) (by omega))]; omega
  refine ⟨g, fun b => ?_, s4⟩
  by_cases hb : b ≤ 3
  · have : b = 0 ∨ b = 1 ∨ b = 2 ∨ b = 3 := by omega
    rcases this with rfl | rfl | rfl | rfl <;> omega
  · rw [g b (by omega)]; omega
theorem wOK_at {C : Nat → Nat → Nat} {S : Nat} (hS : S ≤ 3) (hC : ∀ v b, C v b ≤ 1000000) (hC0 : ∀ v, C v 0 = 0) : ∀ v, wOK S (wAt C S v)
  | 0 => by
    refine ⟨fun b hb => if_neg (by omega), fun b => ?_, ?_⟩
    · show (if b = S then 1000000 else 0) ≤ 1000000
      split <;> omega
    · show (if 0 = S then 1000000 else 0) + (if 1 = S then 1000000 else 0) + (if 2 = S then 1000000 else 0) + (if 3 = S then 1000000 else 0) ≤ 1000000
      split <;> split <;> split <;> split <;> omega
  | v + 1 => wOK_st hS (hC v) (hC0 v) (wOK_at hS hC hC0 v)
/-- what both hold while they go through a night: the winter, its drawers -/
def Drs (P : Nat → Int32 → Int32 → Int32 → Int32) (cs : List Cla) (m : MI) (n : Nat) : Prop := (cs.length ≤ 10 ∧ ∀ c ∈ cs, claOK c) ∧ ∀ d, d < n → ∃ x yy zz rr, x ≤ 6 ∧ yy ≤ 9 ∧ zz ≤ 999 ∧ rr ≤ 9 ∧ (∀ s l p, P d s l p = pullV cs d x (nI yy) zz (nI rr) s l p) ∧ DC m m d x (nI yy) zz (nI rr) ∧ DM m m d x (nI yy) zz (nI rr)
theorem Drs_of {m : MI} {n : Nat} {cs : List Cla} (hc : cs.length ≤ 10 ∧ ∀ c ∈ cs, claOK c) (hn : n ≤ 6) (h8 : m.1 2 = m.1 62 ∧ ∀ d, d < 6 → ∃ x, x ≤ 6 ∧ m.1 62 d = nI x) (h9 : m.1 3 = m.1 63 ∧ ∀ d, d < 6 → ∃ x, x ≤ 9 ∧ m.1 63 d = nI x) (h10 : m.1 4 = m.1 64 ∧ ∀ d, d < 6 → ∃ x, x ≤ 999 ∧ m.1 64 d = nI x)
    (h11 : (∀ d p, d < 6 → p < 4 → m.1 (5 + d) p = m.1 65 (4 * d + p)) ∧ ∀ i, i < 24 → ∃ x, x ≤ 9 ∧ m.1 65 i = nI x) : ∃ P, Drs P cs m n := by
  have key : ∀ d, ∃ F : Int32 → Int32 → Int32 → Int32, d < n → ∃ x yy zz rr, x ≤ 6 ∧ yy ≤ 9 ∧ zz ≤ 999 ∧ rr ≤ 9 ∧ (∀ s l p, F s l p = pullV cs d x (nI yy) zz (nI rr) s l p) ∧ DC m m d x (nI yy) zz (nI rr) ∧ DM m m d x (nI yy) zz (nI rr) := fun d => by
    by_cases hd : d < n
    · obtain ⟨x, yy, zz, rr, a1, a2, a3, a4, a5, a6⟩ := drw hd hn h8 h9 h10 h11
      exact ⟨fun s l p => pullV cs d x (nI yy) zz (nI rr) s l p, fun _ => ⟨x, yy, zz, rr, a1, a2, a3, a4, fun _ _ _ => rfl, a5, a6⟩⟩
    · exact ⟨fun _ _ _ => 0, fun h => absurd h hd⟩
  exact ⟨fun d => Classical.choose (key d), hc, fun d hd => Classical.choose_spec (key d) hd⟩
/-- a place's straws that are left over, as an int -/
theorem left_I {T v b : Nat} (hT : T ≤ 1000) (hv : v ≤ 10) (hb : b ≤ 10) : ((0 : Int32) < nI T - nI v - nI b ↔ 0 < T - v - b) ∧ (0 < T - v - b → nI T - nI v - nI b = nI (T - v - b)) := by
  have e : (nI T - nI v - nI b).toInt = (T : Int) - v - b := by
    rw [Int32.toInt_sub, sub_I (by omega) (by omega), nI_toInt (by omega)]
    exact Int.bmod_eq_of_le (by omega) (by omega)
  refine ⟨?_, fun h => ?_⟩
  · rw [Int32.lt_iff_toInt_lt, e, Int32.toInt_zero]; omega
  · rw [pk_sub (by omega), pk_sub (by omega)]
section CV
variable {sh : Sh} {R : RR} {m : MI} {hw n T : Nat} {cs : List Cla} {P : Nat → Int32 → Int32 → Int32 → Int32}
theorem chv_le (d v b : Nat) : chv P T d v b ≤ 1000000 := chN_le _ _ _
theorem chv_0 (d v : Nat) : chv P T d v 0 = 0 := by unfold chv chN; rw [if_pos rfl]
theorem W_chv (hF : Fx sh R) (h15 : R 1 15 = some hw) (hs : sh[hw]? = some (11, 0)) (hP : PlH sh R m hw cs) (hD : Drs P cs m n) (hn : n ≤ 6) {m' : MI} (e : pj m' = pj m) {d v b : Nat} (hd : d < n) (hv : v ≤ 10) (hb : b ≤ 10) (hT : T ≤ 100) : ∃ g, fW_chance sh R m' (nI d) (nI v) (nI b) (nI T - nI v - nI b) = some (nI (chv P T d v b), mI m' 18 g) := by
  obtain ⟨hc, hD⟩ := hD
  obtain ⟨x, yy, zz, rr, hx, hy, hz, hr, hp, dC, -⟩ := hD d hd
  obtain ⟨i1, i2⟩ := left_I (T := T) (v := v) (b := b) (by omega) hv hb
  have dC' : DC m' m d x (nI yy) zz (nI rr) := by
    obtain ⟨q1, q2, q3, q4, q5⟩ := dC
    have r : ∀ {k : Nat}, k ∉ [18, 36, 38, 40, 41, 42, 45, 74, 76, 77, 78, 79, 80, 81, 82, 37, 43, 46, 61] → m'.1 k = m.1 k := fun h => pj_rw e (scr_r h)
    exact ⟨fun k hk => r (by simp only [List.mem_cons, List.not_mem_nil, or_false]; omega), by rw [r (by decide)]; exact q2, by rw [r (by decide)]; exact q3, by rw [r (by decide)]; exact q4, by rw [r (by simp only [List.mem_cons, List.not_mem_nil, or_false]; omega)]; exact q5⟩
  by_cases h0 : 0 < T - v - b
  · rw [i2 h0]
    obtain ⟨pn, hpn, hpe⟩ := pull_nat (cs := cs) hc (j := d) (x := x) (zz := zz) hy hr (nI b) (nI (T - v - b)) (nI v)
    obtain ⟨g, hg⟩ := W_chE hF (show d < 6 by omega) hx hz h15 hs hP dC' (s := b) (l := T - v - b) (by omega) (by omega) hpn hpe
    refine ⟨g, ?_⟩
    unfold chv
    rw [hg, hp, hpe, nI_clamp (by omega)]
  · refine ⟨m'.1 18, ?_⟩
    rw [mI_id]
    unfold fW_chance chv chN
    by_cases b0 : b = 0
    · rw [if_neg (by rw [b0]; decide), if_pos b0]; rfl
    · rw [if_pos (show (0 : Int32) < nI b from nI_lt (a := 0) (by omega) (by omega)), if_neg (fun q => h0 (i1.mp q)), if_neg b0, if_pos (by omega)]; rfl
theorem M_chv (hP : PlH sh R m hw cs) (hD : Drs P cs m n) (hn : n ≤ 6) {m' : MI} (e : pj m' = pj m) {d v b : Nat} (hd : d < n) (hv : v ≤ 10) (hb : b ≤ 10) (hT : T ≤ 100) : ∃ u g, fM_chance m' (nI d) (nI b) (nI T - nI v - nI b) (nI v) = some (nI (chv P T d v b), mI (mI m' 61 u) 76 g) ∧ (∀ i, i ≠ 28 → i ≠ 29 → i ≠ 30 → u i = m'.1 61 i) := by
  obtain ⟨hc, hD⟩ := hD
  obtain ⟨x, yy, zz, rr, hx, hy, hz, hr, hp, -, dM⟩ := hD d hd
  obtain ⟨i1, i2⟩ := left_I (T := T) (v := v) (b := b) (by omega) hv hb
  have dM' : DM m' m d x (nI yy) zz (nI rr) := by
    obtain ⟨q1, q2, q3, q4, q5, q6⟩ := dM
    have r : ∀ {k : Nat}, k ∉ [18, 36, 38, 40, 41, 42, 45, 74, 76, 77, 78, 79, 80, 81, 82, 37, 43, 46, 61] → m'.1 k = m.1 k := fun h => pj_rw e (scr_r h)
    exact ⟨pj_at e rfl, fun k hk => r (by simp only [List.mem_cons, List.not_mem_nil, or_false]; omega), by rw [r (by decide)]; exact q3, by rw [r (by decide)]; exact q4, by rw [r (by decide)]; exact q5, by rw [r (by decide)]; exact q6⟩
  by_cases h0 : 0 < T - v - b
  · rw [i2 h0]
    obtain ⟨pn, hpn, hpe⟩ := pull_nat (cs := cs) hc (j := d) (x := x) (zz := zz) hy hr (nI b) (nI (T - v - b)) (nI v)
    obtain ⟨u, g, hg, hu⟩ := M_chE (show d < 6 by omega) hx hz hP dM' (s := b) (l := T - v - b) (by omega) (by omega) hpn hpe
    refine ⟨u, g, ?_, hu⟩
    unfold chv
    rw [hg, hp, hpe, nI_clamp (by omega)]
  · refine ⟨m'.1 61, m'.1 76, ?_, fun _ _ _ _ => rfl⟩
    rw [mI_id, mI_id]
    unfold fM_chance chv chN
    by_cases b0 : b = 0
    · have : nI b = 0 := by rw [b0]; rfl
      rw [if_pos this, if_pos this, if_pos b0]; rfl
    · have : ¬ nI b = 0 := fun q => b0 ((nI_eq (b := 0) (by omega) (by omega)).mp q)
      rw [if_neg this, if_neg (fun q => h0 (i1.mp q)), if_neg this, if_neg b0, if_pos (by omega)]; rfl
end CV
