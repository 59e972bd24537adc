/-! THE JOINT STATE: what class and reference hold at once; m is the memory of both -/
/-- scratch: what a call leaves behind and nobody reads -/
def scr (k i : Nat) : Bool := [18, 36, 38, 40, 41, 42, 45, 74, 76, 77, 78, 79, 80, 81, 82].contains k || (k == 37 && (i == 4 || i == 5)) || (k == 43 && (i == 1 || i == 3 || i == 4 || i == 5)) || (k == 46 && (i == 2 || i == 3 || i == 4)) || (k == 61 && [13, 14, 23, 24, 25, 28, 29, 30, 37, 38, 39].contains i)
def pj (m : MI) : MI := (fun k i => if scr k i = true then 0 else m.1 k i, fun k => if k = 39 ∨ k = 98 then (fun _ => 0) else m.2 k)
theorem pj_row {m : MI} {k : Nat} {g : Nat → Int32} (h : ∀ i, scr k i = true) : pj (mI m k g) = pj m := by
  unfold pj mI
  refine Prod.ext (funext fun k' => funext fun i => ?_) rfl
  dsimp only
  by_cases e : k' = k
  · subst e; rw [if_pos (h i), if_pos (h i)]
  · rw [ur_n e]
theorem pj_fld {m : MI} {k j : Nat} {x : Int32} (h : scr k j = true) : pj (mI m k (upd (m.1 k) j x)) = pj m := by
  unfold pj mI
  refine Prod.ext (funext fun k' => funext fun i => ?_) rfl
  dsimp only
  by_cases e : k' = k
  · subst e
    rw [ur_s]
    by_cases e2 : i = j
    · subst e2; rw [if_pos h, if_pos h]
    · simp [upd, e2]
  · rw [ur_n e]
theorem pj_J {m : MI} {k : Nat} {g : Nat → Int64} (h : k = 39 ∨ k = 98) : pj (mJ m k g) = pj m := by
  unfold pj mJ
  refine Prod.ext rfl (funext fun k' => ?_)
  dsimp only
  by_cases e : k' = k
  · subst e; rw [if_pos h, if_pos h]
  · rw [ur_n e]
theorem pj_1 {m : MI} {k i : Nat} (h : scr k i = false) : (pj m).1 k i = m.1 k i := by
  show (if scr k i = true then 0 else m.1 k i) = _
  rw [h]; rfl
theorem pj_2 {m : MI} {k : Nat} (h : k ≠ 39) (h2 : k ≠ 98) : (pj m).2 k = m.2 k := by
  show (if k = 39 ∨ k = 98 then _ else m.2 k) = _
  rw [if_neg (by omega)]
/-- one reading at two memories that differ in scratch alone -/
theorem pj_at {m m' : MI} {k i : Nat} (e : pj m' = pj m) (h : scr k i = false) : m'.1 k i = m.1 k i := by rw [← pj_1 (m := m') h, e, pj_1 h]
theorem pj_rw {m m' : MI} {k : Nat} (e : pj m' = pj m) (h : ∀ i, scr k i = false) : m'.1 k = m.1 k := funext fun i => pj_at e (h i)
theorem pj_at2 {m m' : MI} {k : Nat} (e : pj m' = pj m) (h : k ≠ 39) (h2 : k ≠ 98) : m'.2 k = m.2 k := by rw [← pj_2 (m := m') h h2, e, pj_2 h h2]
-- tokens: (kind, letter, compared, number); kind 0 a test, 1 not, 2 and, 3 or
abbrev Tok : Type := Nat × Nat × Nat × Nat
def cT (t : Tok) : Int32 := if t.1 = 0 then nI (t.2.1 * 8 + t.2.2.1 * 64 + t.2.2.2 * 256) else nI t.1
def mT (t : Tok) : Int32 := if t.1 = 0 then nI (1000 * t.2.1 + 100 * t.2.2.1 + t.2.2.2) else if t.1 = 1 then -33 else if t.1 = 2 then -38 else -124
/-- the height of the stack of truths behind some tokens -/
def hgt : List Tok → Nat → Option Nat
  | [], h => some h
  | t :: ts, h => if t.1 = 0 then (if h < 30 ∧ t.2.1 < 6 ∧ t.2.2.1 < 3 ∧ t.2.2.2 < 100 then hgt ts (h + 1) else none) else if t.1 = 1 then (if 1 ≤ h then hgt ts h else none) else if t.1 = 2 ∨ t.1 = 3 then (if 2 ≤ h then hgt ts (h - 1) else none) else none
/-- a clause: word (0 lean, 1 shy, 2 short, 3 more), number, tokens -/
abbrev Cla : Type := Nat × Nat × List Tok
def claOK (c : Cla) : Prop := c.1 < 4 ∧ c.2.1 < 100 ∧ (c.1 < 2 → hgt c.2.2 0 = some 1)
/-- the signs of the class -/
def flat (cs : List Cla) : List Int32 := cs.flatMap (fun c => if c.1 < 2 then c.2.2.map cT ++ [nI (4 + c.1 + 8 * c.2.1)] else [])
def lastN (cs : List Cla) (w d : Nat) : Nat := cs.foldl (fun n c => if c.1 = w then c.2.1 else n) d
def HRep (sh : Sh) (m : MI) (j : Nat) : Prop := ∃ cs : List Cla, cs.length ≤ 10 ∧ (∀ c ∈ cs, claOK c) ∧ (flat cs).length ≤ 100 ∧
  sh[100 + 2 * j]? = some (0, (flat cs).length) ∧ (∀ i, i < (flat cs).length → m.1 (100 + 2 * j) i = (flat cs).getD i 0) ∧
  m.1 (99 + 2 * j) 0 = nI (max 1 (min 3 (lastN cs 2 1))) ∧ m.1 (99 + 2 * j) 1 = nI (min 9 (lastN cs 3 0)) ∧
  m.1 68 j = nI cs.length ∧ ∀ c, c < cs.length → ∃ cl : Cla, cs[c]? = some cl ∧ m.1 69 (10 * j + c) = nI cl.1 ∧ m.1 70 (10 * j + c) = nI cl.2.1 ∧
    (cl.1 < 2 → ∃ fr : Nat, fr + cl.2.2.length ≤ 600 ∧ m.1 71 (10 * j + c) = nI fr ∧ m.1 72 (10 * j + c) = nI (fr + cl.2.2.length) ∧ fr + cl.2.2.length ≤ 100 * (j + 1) ∧ ∀ i, i < cl.2.2.length → m.1 73 (fr + i) = mT (cl.2.2.getD i (0, 0, 0, 0)))
def hutSh (ls : List Nat) : Sh := ls.flatMap (fun l => [(11, 0), (0, l)])
def HutAt (hu h : Nat) (t : Int32) : Prop := (t = -1 ∧ (h = 16 ∨ h = 34)) ∨ ∃ j, j < hu ∧ t = nI j ∧ h = 99 + 2 * j
/-- winter w of the class is what the reference holds in its fields and rows -/
def Core (m : MI) (w fD fN fS fL fW fSe fB aK aV aT aR aO aSD aSS aB : Nat) : Prop := ∃ n s l q nn se bo : Nat,
  (n ≤ 6 ∧ m.1 w 0 = nI n ∧ m.1 61 fD = nI n) ∧ (1 ≤ s ∧ s ≤ 3 ∧ m.1 w 6 = nI s ∧ m.1 61 fS = nI s) ∧ (l ≤ 15 ∧ m.1 w 7 = nI l ∧ m.1 61 fL = nI l) ∧
  ((q < n ∨ (n = 0 ∧ q = 0)) ∧ m.1 w 8 = nI q ∧ m.1 61 fW = nI q) ∧ (nn ≤ 9999 ∧ m.1 w 9 = nI nn ∧ m.1 61 fN = nI nn) ∧ (se ≤ 6 ∧ m.1 w 10 = nI se ∧ m.1 61 fSe = nI se) ∧ (bo ≤ 8 ∧ m.1 w 13 = nI bo ∧ m.1 61 fB = nI bo) ∧
  (m.1 (w + 1) = m.1 aK ∧ ∀ d, d < 6 → ∃ x, x ≤ 6 ∧ m.1 aK d = nI x) ∧ (m.1 (w + 2) = m.1 aV ∧ ∀ d, d < 6 → ∃ x, x ≤ 9 ∧ m.1 aV d = nI x) ∧ (m.1 (w + 3) = m.1 aT ∧ ∀ d, d < 6 → ∃ x, x ≤ 999 ∧ m.1 aT d = nI x) ∧
  ((∀ d p, d < 6 → p < 4 → m.1 (w + 4 + d) p = m.1 aR (4 * d + p)) ∧ ∀ i, i < 24 → ∃ x, x ≤ 9 ∧ m.1 aR i = nI x) ∧
  (m.1 (w + 11) = m.1 aO ∧ (∀ k, k < n → ∃ d, d < n ∧ m.1 aO k = nI d) ∧ (∀ d, d < n → ∃ k, k < n ∧ m.1 aO k = nI d) ∧ ∀ k k', k < n → k' < n → m.1 aO k = m.1 aO k' → k = k') ∧
  (m.1 (w + 12) = m.1 aSD ∧ ∀ i, i < 6 → ∃ x, x < 1000000 ∧ m.1 aSD i = nI x) ∧ (m.1 (w + 13) = m.1 aSS ∧ ∀ i, i < 6 → m.1 aSS i = 0 ∨ m.1 aSS i = 1) ∧ (m.1 (w + 14) = m.1 aB ∧ ∀ i, i < 8 → ∃ x, x < 1000000 ∧ m.1 aB i = nI x)
abbrev Cor1 (m : MI) : Prop := Core m 1 0 1 2 3 4 41 44 62 63 64 65 66 83 84 85
abbrev Cor2 (m : MI) : Prop := Core m 19 48 49 50 51 52 53 54 86 87 88 90 89 91 93 92
def Tapes (m : MI) : Prop := ∀ t, t < 6 → ∃ l : Nat, l ≤ 60 ∧ m.1 (49 + 2 * t) 0 = m.1 95 t ∧ ((m.1 95 t = -1 ∧ l = 0) ∨ ∃ s, s ≤ 4 ∧ m.1 95 t = nI s) ∧ m.1 (49 + 2 * t) 1 = nI l ∧ m.1 96 t = nI l ∧ ∀ i, i < 60 → m.2 (50 + 2 * t) i = m.2 97 (60 * t + i)
def ActsR (m : MI) : Prop := (∃ r : Nat, r ≤ 40 ∧ m.1 46 0 = nI r ∧ m.1 61 63 = nI r) ∧ ∀ i, i < 20 → m.1 47 i = m.1 94 i
def TextR (m : MI) : Prop := ∃ f : Nat, f ≤ 100 ∧ m.1 43 0 = nI f ∧ m.1 61 12 = nI f ∧ ∀ i, i < f → m.1 44 i = m.1 67 i ∧ ∃ c, c ≤ 127 ∧ m.1 67 i = nI c
def letT : List Int32 := [108, 101, 97, 110, 115, 104, 121, 115, 104, 111, 114, 116, 109, 111, 114, 101]
def Fixd (m : MI) : Prop := (m.1 16 0 = 1 ∧ m.1 16 1 = 0) ∧ (m.1 34 0 = 1 ∧ m.1 34 1 = 0) ∧ m.1 61 34 = 0 ∧ ∀ i, i < 16 → m.1 75 i = letT.getD i 0
def Rok (n : Nat) (R : RR) : Prop := ∀ k i r, R k i = some r → r < n
/-- shapes and references, the huts -/
def Huts (sh : Sh) (R : RR) (m : MI) : Prop := ∃ ls : List Nat, ls.length ≤ 6 ∧ sh = base ++ hutSh ls ∧ (∀ k j a : Nat, tbR k j = some a → R k j = some a) ∧ Rok sh.length R ∧ (∀ j, j < ls.length → R (99 + 2 * j) 2 = some (100 + 2 * j)) ∧
  m.1 0 7 = nI ls.length ∧ m.1 61 10 = nI ls.length ∧ (∀ j, j < ls.length → HRep sh m j) ∧ (∃ hw, R 1 15 = some hw ∧ HutAt ls.length hw (m.1 61 11)) ∧
  ((m.1 0 2 = 0 ∧ m.1 61 46 = 0) ∨ (m.1 0 2 = 1 ∧ m.1 61 46 = 1 ∧ (∃ hk, R 19 15 = some hk ∧ HutAt ls.length hk (m.1 61 47)) ∧ Cor2 m))
def Rel (sh : Sh) (R : RR) (m : MI) : Prop := Cor1 m ∧ Tapes m ∧ ActsR m ∧ TextR m ∧ Fixd m ∧ Huts sh R m
theorem Core_congr {m m' : MI} {w fD fN fS fL fW fSe fB aK aV aT aR aO aSD aSS aB : Nat} (hw : ∀ j, j ∈ [0, 6, 7, 8, 9, 10, 13] → m'.1 w j = m.1 w j) (h61 : ∀ j, j ∈ [fD, fN, fS, fL, fW, fSe, fB] → m'.1 61 j = m.1 61 j)
    (hr : ∀ k, (w < k ∧ k ≤ w + 14) ∨ k ∈ [aK, aV, aT, aR, aO, aSD, aSS, aB] → m'.1 k = m.1 k) (H : Core m w fD fN fS fL fW fSe fB aK aV aT aR aO aSD aSS aB) : Core m' w fD fN fS fL fW fSe fB aK aV aT aR aO aSD aSS aB := by
  obtain ⟨n, s, l, q, nn, se, bo, h1, h2, h3, h4, h5, h6, h7, h8, h9, h10, h11, h12, h13, h14, h15⟩ := H
  refine ⟨n, s, l, q, nn, se, bo, ?_⟩
  rw [hw 0 (by simp), hw 6 (by simp), hw 7 (by simp), hw 8 (by simp), hw 9 (by simp), hw 10 (by simp), hw 13 (by simp), h61 fD (by simp), h61 fN (by simp), h61 fS (by simp), h61 fL (by simp), h61 fW (by simp), h61 fSe (by simp), h61 fB (by simp),
    hr (w + 1) (by omega), hr (w + 2) (by omega), hr (w + 3) (by omega), hr (w + 11) (by omega), hr (w + 12) (by omega), hr (w + 13) (by omega), hr (w + 14) (by omega), hr aK (by simp), hr aV (by simp), hr aT (by simp), hr aR (by simp), hr aO (by simp), hr aSD (by simp), hr aSS (by simp), hr aB (by simp)]
  refine ⟨h1, h2, h3, h4, h5, h6, h7, h8, h9, h10, ⟨fun d p hd hp => ?_, h11.2⟩, h12, h13, h14, h15⟩
  rw [hr (w + 4 + d) (by omega)]
  exact h11.1 d p hd hp
theorem Tapes_congr {m m' : MI} (h1 : ∀ k, (49 ≤ k ∧ k ≤ 60) ∨ k = 95 ∨ k = 96 → m'.1 k = m.1 k) (h2 : ∀ k, (49 ≤ k ∧ k ≤ 60) ∨ k = 97 → m'.2 k = m.2 k) (H : Tapes m) : Tapes m' := by
  intro t ht
  obtain ⟨l, a⟩ := H t ht
  refine ⟨l, ?_⟩
  rw [h1 (49 + 2 * t) (by omega), h1 95 (by omega), h1 96 (by omega), h2 (50 + 2 * t) (by omega), h2 97 (by omega)]
  exact a
theorem ActsR_congr {m m' : MI} (h1 : m'.1 46 0 = m.1 46 0) (h2 : m'.1 61 63 = m.1 61 63) (h3 : m'.1 47 = m.1 47) (h4 : m'.1 94 = m.1 94) (H : ActsR m) : ActsR m' := by
  unfold ActsR
  rw [h1, h2, h3, h4]
  exact H
theorem TextR_congr {m m' : MI} (h1 : m'.1 43 0 = m.1 43 0) (h2 : m'.1 61 12 = m.1 61 12) (h3 : m'.1 44 = m.1 44) (h4 : m'.1 67 = m.1 67) (H : TextR m) : TextR m' := by
  unfold TextR
  rw [h1, h2, h3, h4]
  exact H
theorem Fixd_congr {m m' : MI} (h1 : m'.1 16 = m.1 16) (h2 : m'.1 34 = m.1 34) (h3 : m'.1 61 34 = m.1 61 34) (h4 : m'.1 75 = m.1 75) (H : Fixd m) : Fixd m' := by
  unfold Fixd
  rw [h1, h2, h3, h4]
  exact H
theorem HRep_congr {sh : Sh} {m m' : MI} {j : Nat} (h1 : ∀ k, 99 ≤ k → m'.1 k = m.1 k) (h2 : ∀ k, 68 ≤ k ∧ k ≤ 73 → m'.1 k = m.1 k) (H : HRep sh m j) : HRep sh m' j := by
  unfold HRep
  rw [h1 (100 + 2 * j) (by omega), h1 (99 + 2 * j) (by omega), h2 68 (by omega), h2 69 (by omega), h2 70 (by omega), h2 71 (by omega), h2 72 (by omega), h2 73 (by omega)]
  exact H
theorem Huts_congr {sh : Sh} {R : RR} {m m' : MI} (h1 : ∀ k, 99 ≤ k → m'.1 k = m.1 k) (h2 : ∀ k, 68 ≤ k ∧ k ≤ 73 → m'.1 k = m.1 k) (h3 : m'.1 0 7 = m.1 0 7) (h4 : m'.1 61 10 = m.1 61 10) (h5 : m'.1 61 11 = m.1 61 11) (h6 : m'.1 0 2 = m.1 0 2) (h7 : m'.1 61 46 = m.1 61 46) (h8 : m'.1 61 47 = m.1 61 47) (h9 : Cor2 m → Cor2 m') (H : Huts sh R m) : Huts sh R m' := by
  obtain ⟨ls, a1, a2, a3, a4, a5, a6, a7, a8, a9, a10⟩ := H
  refine ⟨ls, a1, a2, a3, a4, a5, by rw [h3]; exact a6, by rw [h4]; exact a7, fun j hj => HRep_congr h1 h2 (a8 j hj), by rw [h5]; exact a9, ?_⟩
  rw [h6, h7, h8]
  rcases a10 with a | ⟨b1, b2, b3, b4⟩
  · exact Or.inl a
  · exact Or.inr ⟨b1, b2, b3, h9 b4⟩
theorem scr_r {k : Nat} (h : k ∉ [18, 36, 38, 40, 41, 42, 45, 74, 76, 77, 78, 79, 80, 81, 82, 37, 43, 46, 61]) : ∀ i, scr k i = false := by
  intro i
  simp only [List.mem_cons, List.not_mem_nil, or_false, not_or] at h
  obtain ⟨a1, a2, a3, a4, a5, a6, a7, a8, a9, a10, a11, a12, a13, a14, a15, a16, a17, a18, a19⟩ := h
  simp [scr, *]
theorem Rel_pj {sh : Sh} {R : RR} {m m' : MI} (e : pj m' = pj m) (H : Rel sh R m) : Rel sh R m' := by
  have a : ∀ {k i : Nat}, scr k i = false → m'.1 k i = m.1 k i := fun h => pj_at e h
  have r : ∀ {k : Nat}, k ∉ [18, 36, 38, 40, 41, 42, 45, 74, 76, 77, 78, 79, 80, 81, 82, 37, 43, 46, 61] → m'.1 k = m.1 k := fun h => pj_rw e (scr_r h)
  obtain ⟨c1, c2, c3, c4, c5, c6⟩ := H
  have cor2 : Cor2 m → Cor2 m' := fun c => Core_congr (fun j hj => by simp only [List.mem_cons, List.not_mem_nil, or_false] at hj; rcases hj with rfl | rfl | rfl | rfl | rfl | rfl | rfl <;> exact a rfl) (fun j hj => by simp only [List.mem_cons, List.not_mem_nil, or_false] at hj; rcases hj with rfl | rfl | rfl | rfl | rfl | rfl | rfl <;> exact a rfl) (fun k hk => r (by simp only [List.mem_cons, List.not_mem_nil, or_false] at hk ⊢; omega)) c
  refine ⟨Core_congr (fun j hj => ?_) (fun j hj => ?_) (fun k hk => r ?_) c1, Tapes_congr (fun k hk => r ?_) (fun k hk => pj_at2 e (by omega) (by omega)) c2, ActsR_congr (a rfl) (a rfl) (r (by decide)) (r (by decide)) c3, TextR_congr (a rfl) (a rfl) (r (by decide)) (r (by decide)) c4, Fixd_congr (r (by decide)) (r (by decide)) (a rfl) (r (by decide)) c5, Huts_congr (fun k hk => r ?_) (fun k hk => r ?_) (a rfl) (a rfl) (a rfl) (a rfl) (a rfl) (a rfl) cor2 c6⟩
  · simp only [List.mem_cons, List.not_mem_nil, or_false] at hj
    rcases hj with rfl | rfl | rfl | rfl | rfl | rfl | rfl <;> exact a rfl
  · simp only [List.mem_cons, List.not_mem_nil, or_false] at hj
    rcases hj with rfl | rfl | rfl | rfl | rfl | rfl | rfl <;> exact a rfl
  · simp only [List.mem_cons, List.not_mem_nil, or_false] at hk ⊢; omega
  · simp only [List.mem_cons, List.not_mem_nil, or_false] at hk ⊢; omega
  · simp only [List.mem_cons, List.not_mem_nil, or_false]; omega
  · simp only [List.mem_cons, List.not_mem_nil, or_false]; omega
