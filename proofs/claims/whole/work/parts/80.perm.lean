/-! ORDERS: the k-th as the reference lays it, the next one as the class steps to it -/
def pickN : Nat → Nat → Nat → Nat → Option Nat
  | 0, _, _, _ => none
  | f + 1, s, nth, d => if s.testBit d = true then (if nth = 0 then some d else pickN f s (nth - 1) (d + 1)) else pickN f s nth (d + 1)
def clr (s d : Nat) : Nat := if s.testBit d = true then s - 2 ^ d else s
def layL : Nat → Nat → Nat → Nat → Option (List Nat)
  | 0, _, _, _ => some []
  | q + 1, all, left, rest => if all / (q + 1) = 0 then none else match pickN 6 left (rest / (all / (q + 1))) 0 with
    | none => none
    | some d => match layL q (all / (q + 1)) (clr left d) (rest % (all / (q + 1))) with
      | none => none
      | some l => some (d :: l)
def facF : Nat → Nat → Nat → Nat
  | 0, _, a => a
  | q + 1, k, a => facF q (k + 1) (a * k)
def facN (n : Nat) : Nat := facF (n - 1) 2 1
def permL (n k : Nat) : Option (List Nat) := layL n (facN n) (2 ^ n - 1) k
def perm (n k i : Nat) : Nat := ((permL n k).getD []).getD i 0
def lowN (A : Nat → Nat) : Nat → Option Nat
  | 0 => if A 0 ≤ A 1 then some 0 else none
  | j + 1 => if A (j + 1) ≤ A (j + 2) then some (j + 1) else lowN A j
def hiN (A : Nat → Nat) (low : Nat) : Nat → Nat
  | 0 => 0
  | h + 1 => if h + 1 ≤ low then h + 1 else if A low ≤ A (h + 1) then h + 1 else hiN A low h
def swN (A : Nat → Nat) (b c : Nat) : Nat → Nat := fun i => if i = c then A b else if i = b then A c else A i
def rvN : Nat → (Nat → Nat) → Nat → Nat → (Nat → Nat)
  | 0, A, _, _ => A
  | f + 1, A, l, r => if r ≤ l then A else rvN f (swN A l r) (l + 1) (r - 1)
def stepN (n : Nat) (A : Nat → Nat) : Option (Nat → Nat) := if n < 2 then none else match lowN A (n - 2) with
  | none => none
  | some l => some (rvN 6 (swN A l (hiN A l (n - 1))) (l + 1) (n - 1))
def tabP (n k : Nat) : Bool := (permL n k).isSome && decide (((permL n k).getD []).length = n) && decide (∀ i, i < n → perm n k i < n) && decide (∀ i, i < n → ∀ j, j < n → perm n k i = perm n k j → i = j) && (match stepN n (perm n k) with
  | none => decide (k + 1 = facN n)
  | some A => decide (k + 1 < facN n) && decide (∀ i, i < n → A i = perm n (k + 1) i)) && decide (k = 0 → ∀ i, i < n → perm n 0 i = i)
set_option maxRecDepth 100000 in
theorem tabP_ok : ∀ n, n < 6 → 0 < n → ∀ k, k < facN n → tabP n k = true := by decide +kernel
set_option maxRecDepth 100000 in
theorem facN_le : ∀ n, n < 6 → facN n ≤ 120 ∧ 0 < facN n := by decide +kernel
set_option maxRecDepth 100000 in
theorem hasT : ∀ s, s < 32 → ∀ d, d < 6 → (((nI s >>> (nI d &&& 31)) &&& (1 : Int32) = 1) ↔ s.testBit d = true) := by decide +kernel
set_option maxRecDepth 100000 in
theorem clrT : ∀ s, s < 32 → ∀ d, d < 6 → nI s &&& (((1 : Int32) <<< (nI d &&& 31)) ^^^ (-1 : Int32)) = nI (clr s d) := by decide +kernel
set_option maxRecDepth 100000 in
theorem fulT : ∀ n, n < 6 → ((1 : Int32) <<< (nI n &&& 31)) - 1 = nI (2 ^ n - 1) ∧ 2 ^ n - 1 < 32 := by decide +kernel
theorem clr_le (s d : Nat) : clr s d ≤ s := by
  unfold clr
  split
  · exact Nat.sub_le _ _
  · exact Nat.le_refl _
theorem tab_perm {n k : Nat} (hn : n < 6) (h0 : 0 < n) (hk : k < facN n) : (∃ l, permL n k = some l ∧ ∀ i, l.getD i 0 = perm n k i) ∧ (∀ i, i < n → perm n k i < n) ∧ (∀ i j, i < n → j < n → perm n k i = perm n k j → i = j) ∧ ((stepN n (perm n k) = none ∧ k + 1 = facN n) ∨ ∃ A, stepN n (perm n k) = some A ∧ k + 1 < facN n ∧ ∀ i, i < n → A i = perm n (k + 1) i) ∧ (k = 0 → ∀ i, i < n → perm n 0 i = i) := by
  have h := tabP_ok n hn h0 k hk
  unfold tabP at h
  simp only [Bool.and_eq_true, decide_eq_true_eq] at h
  obtain ⟨⟨⟨⟨⟨a1, a2⟩, a3⟩, a4⟩, a5⟩, a6⟩ := h
  refine ⟨?_, a3, fun i j hi hj => a4 i hi j hj, ?_, a6⟩
  · obtain ⟨l, hl⟩ := Option.isSome_iff_exists.mp a1
    refine ⟨l, hl, fun i => ?_⟩
    unfold perm
    rw [hl]; rfl
  · cases hs : stepN n (perm n k) with
    | none =>
      rw [hs] at a5
      exact Or.inl ⟨rfl, by simpa using a5⟩
    | some A =>
      rw [hs] at a5
      simp only [Bool.and_eq_true, decide_eq_true_eq] at a5
      exact Or.inr ⟨A, rfl, a5.1, a5.2⟩
/-! the class's step -/
def Rp (n : Nat) (m : MI) (A : Nat → Nat) : Prop := ∀ i, i < n → m.1 41 i = nI (A i)
theorem C_swp {n : Nat} {m : MI} {A : Nat → Nat} (hn : n ≤ 6) (h : Rp n m A) {b c : Nat} (hb : b < n) (hc : c < n) : ∃ g, fC_swap_41 m (nI b) (nI c) = some (mI m 41 g) ∧ Rp n (mI m 41 g) (swN A b c) := by
  have ckb : ck (nI b) 6 = true := ck_nI (by omega) (by omega)
  have clb := cl_nI (show b < 100000 by omega)
  have ckc : ck (nI c) 6 = true := ck_nI (by omega) (by omega)
  have clc := cl_nI (show c < 100000 by omega)
  refine ⟨upd (upd (m.1 41) b (m.1 41 c)) c (m.1 41 b), ?_, fun i hi => ?_⟩
  · unfold fC_swap_41
    simp only [ckb, clb, ckc, clc, if_true, lt, lm, mI_s, mI_mI]
  · rw [mI_s]
    unfold swN
    by_cases e : i = c
    · rw [if_pos e, e, upd_s, h b hb]
    · rw [if_neg e, upd_n e]
      by_cases e2 : i = b
      · rw [if_pos e2, e2, upd_s, h c hc]
      · rw [if_neg e2, upd_n e2, h i hi]
theorem st_l4 {n : Nat} (hn : n ≤ 6) {m : MI} {A : Nat → Nat} (h : Rp n m A) (hA : ∀ i, i < n → A i < 10) (u1 : Int32) (kc : MI → Int32 → Option (Int32 × MI)) : ∀ (j f : Nat), j + 1 < n → j + 1 < f → fC_stepOrder_41_l4 u1 kc f m (nI j) = match lowN A j with
    | none => kc m (-1)
    | some l => kc m (nI l) := by
  have cmp : ∀ j f, j + 1 < n → fC_stepOrder_41_l4 u1 kc (f + 1) m (nI j) = if A j ≤ A (j + 1) then kc m (nI j) else fC_stepOrder_41_l4 u1 kc f m (nI j + (-1)) := fun j f hj => by
    have a1 := hA j (by omega)
    have a2 := hA (j + 1) hj
    rw [fC_stepOrder_41_l4, if_neg (nI_pos (by omega)), nI_1, if_pos (ck_nI (by omega) (by omega)), if_pos (ck_nI (by omega) (by omega)), cl_nI (by omega), cl_nI (by omega), h j (by omega), h (j + 1) hj]
    by_cases c : A j ≤ A (j + 1)
    · rw [if_pos (nI_le c (by omega)), if_pos c]
    · rw [if_neg (by rw [nI_leI (by omega) (by omega)]; exact c), if_neg c]; rfl
  intro j
  induction j with
  | zero =>
    intro f hj hf
    obtain ⟨f', rfl, hf'⟩ := fu (show 0 < f by omega)
    rw [cmp 0 f' hj]
    unfold lowN
    by_cases c : A 0 ≤ A (0 + 1)
    · rw [if_pos c, if_pos (show A 0 ≤ A 1 from c)]
    · rw [if_neg c, if_neg (show ¬ A 0 ≤ A 1 from c)]
      obtain ⟨f'', rfl, -⟩ := fu (show 0 < f' by omega)
      rw [fC_stepOrder_41_l4, if_pos (by decide)]
      rfl
  | succ j ih =>
    intro f hj hf
    obtain ⟨f', rfl, hf'⟩ := fu (show 0 < f by omega)
    rw [cmp (j + 1) f' hj]
    unfold lowN
    by_cases c : A (j + 1) ≤ A (j + 2)
    · rw [if_pos (show A (j + 1) ≤ A (j + 1 + 1) from c), if_pos c]
    · rw [if_neg (show ¬ A (j + 1) ≤ A (j + 1 + 1) from c), if_neg c, pk_m1]
      exact ih f' (by omega) (by omega)
theorem st_l35 {n : Nat} (hn : n ≤ 6) {m : MI} {A : Nat → Nat} (h : Rp n m A) (hA : ∀ i, i < n → A i < 10) (u1 : Int32) {low : Nat} (hl : low < n) (kc : MI → Int32 → Option (Int32 × MI)) : ∀ (j f : Nat), j < n → j < f → fC_stepOrder_41_l35 u1 (nI low) kc f m (nI j) = kc m (nI (hiN A low j)) := by
  intro j
  induction j with
  | zero =>
    intro f hj hf
    obtain ⟨f', rfl, hf'⟩ := fu hf
    rw [fC_stepOrder_41_l35, if_pos (nI_le (by omega) (by omega))]
    rfl
  | succ j ih =>
    intro f hj hf
    obtain ⟨f', rfl, hf'⟩ := fu hf
    have a1 := hA low hl
    have a2 := hA (j + 1) hj
    rw [fC_stepOrder_41_l35]
    unfold hiN
    by_cases c : j + 1 ≤ low
    · rw [if_pos (nI_le c (by omega)), if_pos c]
    · rw [if_neg (by rw [nI_leI (by omega) (by omega)]; exact c), if_neg c, if_pos (ck_nI (by omega) (by omega)), if_pos (ck_nI (by omega) (by omega)), cl_nI (by omega), cl_nI (by omega), h low hl, h (j + 1) hj]
      by_cases d : A low ≤ A (j + 1)
      · rw [if_pos (nI_le d (by omega)), if_pos d]
      · rw [if_neg (by rw [nI_leI (by omega) (by omega)]; exact d), if_neg d, pk_m1]
        exact ih f' (by omega) (hf' j rfl)
theorem st_l71 {n : Nat} (hn : n ≤ 6) (u1 u2 u3 : Int32) (kc : MI → Int32 → Int32 → Option (Int32 × MI)) : ∀ (q l r f : Nat) (m : MI) (A : Nat → Nat), Rp n m A → r < n → r ≤ l + q → q < f → l ≤ 100 → ∃ g w1 w2, Rp n (mI m 41 g) (rvN q A l r) ∧ fC_stepOrder_41_l71 u1 u2 u3 kc f m (nI l) (nI r) = kc (mI m 41 g) w1 w2 := by
  intro q
  induction q with
  | zero =>
    intro l r f m A h hr hq hf hl
    obtain ⟨f', rfl, hf'⟩ := fu hf
    refine ⟨m.1 41, nI l, nI r, by rw [mI_id]; exact h, ?_⟩
    rw [fC_stepOrder_41_l71, if_pos (nI_le (by omega) (by omega)), mI_id]
  | succ q ih =>
    intro l r f m A h hr hq hf hl
    obtain ⟨f', rfl, hf'⟩ := fu hf
    rw [fC_stepOrder_41_l71]
    unfold rvN
    by_cases c : r ≤ l
    · refine ⟨m.1 41, nI l, nI r, by rw [mI_id, if_pos c]; exact h, ?_⟩
      rw [if_pos (nI_le c (by omega)), mI_id]
    · obtain ⟨g, g1, g2⟩ := C_swp hn h (b := l) (c := r) (by omega) hr
      obtain ⟨g', w1, w2, k1, k2⟩ := ih (l + 1) (r - 1) f' (mI m 41 g) (swN A l r) g2 (by omega) (by omega) (hf' q rfl) (by omega)
      rw [mI_mI] at k1 k2
      refine ⟨g', w1, w2, by rw [if_neg c]; exact k1, ?_⟩
      rw [if_neg (by rw [nI_leI (by omega) (by omega)]; exact c), g1]
      simp only [Option.bind_some, lt, nI_1]
      obtain ⟨r', rfl⟩ : ∃ r', r = r' + 1 := ⟨r - 1, by omega⟩
      rw [pk_m1]
      exact k2
theorem lowN_le {A : Nat → Nat} : ∀ {j l : Nat}, lowN A j = some l → l ≤ j
  | 0, l, h => by
    unfold lowN at h
    split at h
    · cases h; exact Nat.le_refl _
    · cases h
  | j + 1, l, h => by
    unfold lowN at h
    split at h
    · cases h; exact Nat.le_refl _
    · exact Nat.le_succ_of_le (lowN_le h)
theorem hiN_le {A : Nat → Nat} {low : Nat} : ∀ (j : Nat), hiN A low j ≤ j
  | 0 => Nat.le_refl _
  | j + 1 => by
    unfold hiN
    split
    · exact Nat.le_refl _
    · split
      · exact Nat.le_refl _
      · exact Nat.le_succ_of_le (hiN_le j)
theorem C_stp {n : Nat} (hn : n ≤ 6) (h0 : 0 < n) {m : MI} {A : Nat → Nat} (h : Rp n m A) (hA : ∀ i, i < n → A i < 10) : (stepN n A = none ∧ fC_stepOrder_41 m (nI n) = some (0, m)) ∨ ∃ A' g, stepN n A = some A' ∧ Rp n (mI m 41 g) A' ∧ fC_stepOrder_41 m (nI n) = some (1, mI m 41 g) := by
  obtain ⟨F, hF⟩ : ∃ F : Nat, F = 1000 := ⟨_, rfl⟩
  unfold stepN fC_stepOrder_41
  rw [← hF]
  simp only [lt]
  by_cases c : n < 2
  · refine Or.inl ⟨if_pos c, ?_⟩
    have : n = 1 := by omega
    subst this
    obtain ⟨f', e⟩ : ∃ f', F = f' + 1 := ⟨F - 1, by omega⟩
    rw [e, fC_stepOrder_41_l4, if_pos (show nI 1 - 2 < 0 by decide), if_neg (show ¬ (0 : Int32) ≤ nI 1 - 2 by decide)]
  · rw [if_neg c, show nI n - 2 = nI (n - 2) from pk_sub (b := 2) (by omega), show nI n - 1 = nI (n - 1) from pk_sub (b := 1) (by omega), st_l4 hn h hA (nI n) _ (n - 2) F (by omega) (by omega)]
    cases hl : lowN A (n - 2) with
    | none => exact Or.inl ⟨rfl, by simp only []; rw [if_neg (show ¬ (0 : Int32) ≤ -1 by decide)]⟩
    | some l =>
      have hle := lowN_le hl
      have hhi := hiN_le (A := A) (low := l) (n - 1)
      obtain ⟨g, g1, g2⟩ := C_swp hn h (b := l) (c := hiN A l (n - 1)) (by omega) (by omega)
      obtain ⟨g', w1, w2, k1, k2⟩ := st_l71 hn (nI n) (nI l) (nI (hiN A l (n - 1))) (fun m13 z11 z12 => some (1, m13)) 6 (l + 1) (n - 1) F (mI m 41 g) _ g2 (by omega) (by omega) (by omega) (by omega)
      rw [mI_mI] at k1 k2
      refine Or.inr ⟨_, g', rfl, k1, ?_⟩
      simp only []
      rw [if_pos (nI_pos' (by omega)), st_l35 hn h hA (nI n) (by omega) _ (n - 1) F (by omega) (by omega), g1]
      simp only [Option.bind_some, nI_1]
      exact k2
