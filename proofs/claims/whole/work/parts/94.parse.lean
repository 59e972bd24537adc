/-! READING A HUT: what both do, as a pure reading of the bytes -/
abbrev Res : Type := Nat ⊕ (Nat × List Tok)
def nT : Tok := (1, 0, 0, 0)
def aT : Tok := (2, 0, 0, 0)
def oT : Tok := (3, 0, 0, 0)
def rdB (T : Nat → Nat) (len p c : Nat) : Bool := decide (p < len) && decide (T p = c)
def dgB (T : Nat → Nat) (len p : Nat) : Bool := decide (p < len) && (decide (48 ≤ T p) && decide (T p ≤ 57))
def cmB (T : Nat → Nat) (len p : Nat) : Bool := decide (p < len) && (decide (60 ≤ T p) && decide (T p ≤ 62))
def nmP (T : Nat → Nat) (len p : Nat) : Option (Nat × Nat) := if dgB T len p = true then (if dgB T len (p + 1) = true then some (10 * (T p - 48) + (T (p + 1) - 48), p + 2) else some (T p - 48, p + 1)) else none
def ltP (c : Nat) : Option Nat := if c = 100 then some 0 else if c = 107 then some 1 else if c = 110 then some 2 else if c = 115 then some 3 else if c = 108 then some 4 else if c = 112 then some 5 else none
def tsP (T : Nat → Nat) (len p : Nat) : Nat ⊕ (Nat × Tok) := if p < len then (match ltP (T p) with
    | none => .inl p
    | some l => if cmB T len (p + 1) = true then (match nmP T len (p + 2) with
      | none => .inl (p + 2)
      | some (n, q) => .inr (q, (0, l, T (p + 1) - 60, n))) else .inl (p + 1)) else .inl p
def ntP (T : Nat → Nat) (len : Nat) : Nat → Nat → Nat
  | 0, _ => 0
  | f + 1, p => if rdB T len p 33 = true then ntP T len f (p + 1) + 1 else 0
def fcP (T : Nat → Nat) (len : Nat) (E : Nat → Nat → Res) (d p : Nat) : Res :=
  if d + ntP T len (4 - d) p < 4 ∧ rdB T len (p + ntP T len (4 - d) p) 40 = true then (match E (d + ntP T len (4 - d) p + 1) (p + ntP T len (4 - d) p + 1) with
    | .inl q => .inl q
    | .inr (q, ts) => if rdB T len q 41 = true then .inr (q + 1, ts ++ List.replicate (ntP T len (4 - d) p) nT) else .inl q)
  else (match tsP T len (p + ntP T len (4 - d) p) with
    | .inl q => .inl q
    | .inr (q, t) => .inr (q, [t] ++ List.replicate (ntP T len (4 - d) p) nT))
def apR (ts : List Tok) (r : Res) : Res := match r with
  | .inl q => .inl q
  | .inr (q, ts') => .inr (q, ts ++ ts')
def oneT (b : Bool) (t : Tok) : List Tok := if b = true then [t] else []
def elP (T : Nat → Nat) (len : Nat) (E : Nat → Nat → Res) : Nat → Nat → Nat → Bool → Bool → Res
  | 0, _, p, _, _ => .inl p
  | f + 1, d, p, wa, wo => match fcP T len E d p with
    | .inl q => .inl q
    | .inr (q, ts) => if rdB T len q 38 = true then apR (ts ++ oneT wa aT) (elP T len E f d (q + 1) true wo)
      else if rdB T len q 124 = true then apR (ts ++ oneT wa aT ++ oneT wo oT) (elP T len E f d (q + 1) false true)
      else .inr (q, ts ++ oneT wa aT ++ oneT wo oT)
def eP (T : Nat → Nat) (len : Nat) : Nat → Nat → Nat → Res
  | 0, _, p => .inl p
  | n + 1, d, p => elP T len (eP T len n) 100 d p false false
section PP
variable {T : Nat → Nat} {len : Nat}
theorem rdB_t {p c : Nat} (h : rdB T len p c = true) : p < len ∧ T p = c := by
  unfold rdB at h
  simpa using h
theorem nm_ok {p n q : Nat} (h : nmP T len p = some (n, q)) : n < 100 ∧ p < q ∧ q ≤ len := by
  unfold nmP at h
  by_cases c : dgB T len p = true
  · rw [if_pos c] at h
    unfold dgB at c
    simp only [Bool.and_eq_true, decide_eq_true_eq] at c
    by_cases c2 : dgB T len (p + 1) = true
    · rw [if_pos c2] at h
      unfold dgB at c2
      simp only [Bool.and_eq_true, decide_eq_true_eq] at c2
      cases h
      omega
    · rw [if_neg c2] at h
      cases h
      omega
  · rw [if_neg c] at h; cases h
theorem lt_ok {c l : Nat} (h : ltP c = some l) : l < 6 := by
  unfold ltP at h
  repeat' (split at h)
  all_goals (cases h <;> omega)
theorem ts_ok {p q : Nat} {t : Tok} (h : tsP T len p = .inr (q, t)) : p + 3 ≤ q ∧ q ≤ len ∧ ∃ l c n, t = (0, l, c, n) ∧ l < 6 ∧ c < 3 ∧ n < 100 := by
  unfold tsP at h
  by_cases c : p < len
  · rw [if_pos c] at h
    cases hl : ltP (T p) with
    | none => rw [hl] at h; cases h
    | some l =>
      rw [hl] at h
      simp only [] at h
      by_cases c2 : cmB T len (p + 1) = true
      · rw [if_pos c2] at h
        unfold cmB at c2
        simp only [Bool.and_eq_true, decide_eq_true_eq] at c2
        cases hn : nmP T len (p + 2) with
        | none => rw [hn] at h; cases h
        | some r =>
          obtain ⟨n, q'⟩ := r
          rw [hn] at h
          simp only [] at h
          cases h
          have := nm_ok hn
          exact ⟨by omega, by omega, l, _, n, rfl, lt_ok hl, by omega, by omega⟩
      · rw [if_neg c2] at h; cases h
  · rw [if_neg c] at h; cases h
theorem ts_bad {p q : Nat} (h : tsP T len p = .inl q) (hp : p ≤ len) : p ≤ q ∧ q ≤ len := by
  unfold tsP at h
  by_cases c : p < len
  · rw [if_pos c] at h
    cases hl : ltP (T p) with
    | none => rw [hl] at h; cases h; omega
    | some l =>
      rw [hl] at h
      simp only [] at h
      by_cases c2 : cmB T len (p + 1) = true
      · rw [if_pos c2] at h
        unfold cmB at c2
        simp only [Bool.and_eq_true, decide_eq_true_eq] at c2
        cases hn : nmP T len (p + 2) with
        | none => rw [hn] at h; cases h; omega
        | some r => rw [hn] at h; cases h
      · rw [if_neg c2] at h; cases h; omega
  · rw [if_neg c] at h; cases h; omega
theorem nt_ok : ∀ (f p : Nat), p ≤ len → ntP T len f p ≤ f ∧ p + ntP T len f p ≤ len ∧ (∀ j, j < ntP T len f p → rdB T len (p + j) 33 = true) ∧ (ntP T len f p < f → rdB T len (p + ntP T len f p) 33 = false)
  | 0, p, hp => ⟨Nat.le_refl _, hp, fun j hj => absurd hj (Nat.not_lt_zero _), fun h => absurd h (Nat.not_lt_zero _)⟩
  | f + 1, p, hp => by
    unfold ntP
    by_cases c : rdB T len p 33 = true
    · rw [if_pos c]
      have hc := rdB_t c
      obtain ⟨a1, a2, a3, a4⟩ := nt_ok f (p + 1) hc.1
      refine ⟨by omega, by omega, fun j hj => ?_, fun h => ?_⟩
      · cases j with
        | zero => exact c
        | succ j => rw [show p + (j + 1) = p + 1 + j by omega]; exact a3 j (by omega)
      · rw [show p + (ntP T len f (p + 1) + 1) = p + 1 + ntP T len f (p + 1) by omega]; exact a4 (by omega)
    · rw [if_neg c]
      exact ⟨by omega, by omega, fun j hj => absurd hj (Nat.not_lt_zero _), fun _ => by simpa using c⟩
/-- what a reading that succeeds is: places, how many signs -/
def okR (len p : Nat) (x : Nat) (r : Res) : Prop := match r with
  | .inl q => p ≤ q ∧ q ≤ len
  | .inr (q, ts) => p + 3 ≤ q ∧ q ≤ len ∧ 1 ≤ ts.length ∧ ts.length + 2 ≤ q - p + x
theorem fc_ok {E : Nat → Nat → Res} (hE : ∀ d p, p ≤ len → okR len p 0 (E d p)) {d p : Nat} (hp : p ≤ len) : okR len p 0 (fcP T len E d p) := by
  obtain ⟨k1, k2, k3, k4⟩ := nt_ok (T := T) (len := len) (4 - d) p hp
  unfold fcP
  by_cases c : d + ntP T len (4 - d) p < 4 ∧ rdB T len (p + ntP T len (4 - d) p) 40 = true
  · rw [if_pos c]
    have hc := rdB_t c.2
    have h := hE (d + ntP T len (4 - d) p + 1) (p + ntP T len (4 - d) p + 1) (by omega)
    cases he : E (d + ntP T len (4 - d) p + 1) (p + ntP T len (4 - d) p + 1) with
    | inl q => rw [he] at h; unfold okR at h ⊢; simp only [] at h ⊢; omega
    | inr r =>
      obtain ⟨q, ts⟩ := r
      rw [he] at h
      unfold okR at h
      simp only [] at h ⊢
      by_cases c2 : rdB T len q 41 = true
      · rw [if_pos c2]
        have := rdB_t c2
        unfold okR
        simp only [List.length_append, List.length_replicate]
        omega
      · rw [if_neg c2]
        unfold okR
        simp only []
        omega
  · rw [if_neg c]
    cases ht : tsP T len (p + ntP T len (4 - d) p) with
    | inl q =>
      have := ts_bad ht k2
      unfold okR; simp only []; omega
    | inr r =>
      obtain ⟨q, t⟩ := r
      have := ts_ok ht
      unfold okR
      simp only [List.length_append, List.length_replicate, List.length_singleton]
      omega
theorem el_ok {E : Nat → Nat → Res} (hE : ∀ d p, p ≤ len → okR len p 0 (E d p)) {d : Nat} : ∀ (f p : Nat) (wa wo : Bool), p ≤ len → okR len p (wa.toNat + wo.toNat) (elP T len E f d p wa wo)
  | 0, p, wa, wo, hp => ⟨Nat.le_refl _, hp⟩
  | f + 1, p, wa, wo, hp => by
    have h := fc_ok (T := T) hE (d := d) hp
    unfold elP
    have la : (oneT wa aT).length = wa.toNat := by cases wa <;> rfl
    have lo : (oneT wo oT).length = wo.toNat := by cases wo <;> rfl
    cases hf : fcP T len E d p with
    | inl q => rw [hf] at h; exact h
    | inr r =>
      obtain ⟨q, ts⟩ := r
      rw [hf] at h
      unfold okR at h
      simp only [] at h ⊢
      by_cases c : rdB T len q 38 = true
      · rw [if_pos c]
        have hc := rdB_t c
        have ih := el_ok hE (d := d) f (q + 1) true wo hc.1
        cases he : elP T len E f d (q + 1) true wo with
        | inl q' => rw [he] at ih; unfold okR at ih; unfold apR okR; simp only [] at ih ⊢; omega
        | inr r =>
          obtain ⟨q', ts'⟩ := r
          rw [he] at ih
          unfold okR at ih
          unfold apR okR
          simp only [List.length_append, la, Bool.toNat_true] at ih ⊢
          omega
      · rw [if_neg c]
        by_cases c2 : rdB T len q 124 = true
        · rw [if_pos c2]
          have hc := rdB_t c2
          have ih := el_ok hE (d := d) f (q + 1) false true hc.1
          cases he : elP T len E f d (q + 1) false true with
          | inl q' => rw [he] at ih; unfold okR at ih; unfold apR okR; simp only [] at ih ⊢; omega
          | inr r =>
            obtain ⟨q', ts'⟩ := r
            rw [he] at ih
            unfold okR at ih
            unfold apR okR
            simp only [List.length_append, la, lo, Bool.toNat_true, Bool.toNat_false] at ih ⊢
            omega
        · rw [if_neg c2]
          unfold okR
          simp only [List.length_append, la, lo]
          omega
theorem e_ok : ∀ (n d p : Nat), p ≤ len → okR len p 0 (eP T len n d p)
  | 0, _, p, hp => ⟨Nat.le_refl _, hp⟩
  | n + 1, d, p, hp => el_ok (fun d p hp => e_ok n d p hp) 100 p false false hp
/-- heights -/
theorem hgt_app : ∀ (a b : List Tok) (h : Nat), hgt (a ++ b) h = (hgt a h).bind (hgt b)
  | [], b, h => rfl
  | t :: a, b, h => by
    show (if t.1 = 0 then (if h < 30 ∧ t.2.1 < 6 ∧ t.2.2.1 < 3 ∧ t.2.2.2 < 100 then hgt (a ++ b) (h + 1) else none) else if t.1 = 1 then (if 1 ≤ h then hgt (a ++ b) h else none) else if t.1 = 2 ∨ t.1 = 3 then (if 2 ≤ h then hgt (a ++ b) (h - 1) else none) else none) = Option.bind (if t.1 = 0 then (if h < 30 ∧ t.2.1 < 6 ∧ t.2.2.1 < 3 ∧ t.2.2.2 < 100 then hgt a (h + 1) else none) else if t.1 = 1 then (if 1 ≤ h then hgt a h else none) else if t.1 = 2 ∨ t.1 = 3 then (if 2 ≤ h then hgt a (h - 1) else none) else none) (hgt b)
    rw [hgt_app a b (h + 1), hgt_app a b h, hgt_app a b (h - 1)]
    split
    · split <;> rfl
    · split
      · split <;> rfl
      · split
        · split <;> rfl
        · rfl
theorem hgt_n {h : Nat} (hh : 1 ≤ h) : ∀ k, hgt (List.replicate k nT) h = some h
  | 0 => rfl
  | k + 1 => by
    show (if (1 : Nat) = 0 then _ else if (1 : Nat) = 1 then (if 1 ≤ h then hgt (List.replicate k nT) h else none) else _) = _
    rw [if_neg (by decide), if_pos rfl, if_pos hh, hgt_n hh k]
theorem hgt_op {b : Bool} {t : Tok} {h : Nat} (ht : t.1 = 2 ∨ t.1 = 3) (hh : 2 ≤ h ∨ b = false) : hgt (oneT b t) h = some (h - b.toNat) := by
  cases b with
  | false => rfl
  | true =>
    show hgt [t] h = _
    show (if t.1 = 0 then _ else if t.1 = 1 then _ else if t.1 = 2 ∨ t.1 = 3 then (if 2 ≤ h then hgt [] (h - 1) else none) else none) = _
    rw [if_neg (by omega), if_neg (by omega), if_pos ht, if_pos (hh.resolve_right (by decide))]
    rfl
theorem hgt_t {l c n h : Nat} (hl : l < 6) (hc : c < 3) (hn : n < 100) (hh : h < 30) : hgt [((0, l, c, n) : Tok)] h = some (h + 1) := by
  show (if (0 : Nat) = 0 then (if h < 30 ∧ l < 6 ∧ c < 3 ∧ n < 100 then hgt [] (h + 1) else none) else _) = _
  rw [if_pos rfl, if_pos ⟨hh, hl, hc, hn⟩]
  rfl
def hgR (h x : Nat) (r : Res) : Prop := match r with
  | .inl _ => True
  | .inr (_, ts) => hgt ts (h + x) = some (h + 1)
theorem fc_h {E : Nat → Nat → Res} (hE : ∀ d p h, d ≤ 4 → h ≤ 3 * d → hgR h 0 (E d p)) {d p h : Nat} (hd : d ≤ 4) (hh : h ≤ 3 * d + 2) : hgR h 0 (fcP T len E d p) := by
  unfold fcP
  by_cases c : d + ntP T len (4 - d) p < 4 ∧ rdB T len (p + ntP T len (4 - d) p) 40 = true
  · rw [if_pos c]
    have h1 := hE (d + ntP T len (4 - d) p + 1) (p + ntP T len (4 - d) p + 1) h (by omega) (by omega)
    cases he : E (d + ntP T len (4 - d) p + 1) (p + ntP T len (4 - d) p + 1) with
    | inl q => trivial
    | inr r =>
      obtain ⟨q, ts⟩ := r
      rw [he] at h1
      unfold hgR at h1
      simp only [] at h1 ⊢
      by_cases c2 : rdB T len q 41 = true
      · rw [if_pos c2]
        unfold hgR
        simp only []
        rw [hgt_app, h1]
        exact hgt_n (by omega) _
      · rw [if_neg c2]; trivial
  · rw [if_neg c]
    cases ht : tsP T len (p + ntP T len (4 - d) p) with
    | inl q => trivial
    | inr r =>
      obtain ⟨q, t⟩ := r
      obtain ⟨-, -, l, cc, n, rfl, a1, a2, a3⟩ := ts_ok ht
      unfold hgR
      simp only []
      rw [hgt_app, hgt_t a1 a2 a3 (by omega)]
      exact hgt_n (by omega) _
theorem el_h {E : Nat → Nat → Res} (hE : ∀ d p h, d ≤ 4 → h ≤ 3 * d → hgR h 0 (E d p)) {d h : Nat} (hd : d ≤ 4) (hh : h ≤ 3 * d) : ∀ (f p : Nat) (wa wo : Bool), hgR h (wa.toNat + wo.toNat) (elP T len E f d p wa wo)
  | 0, p, wa, wo => trivial
  | f + 1, p, wa, wo => by
    have wa1 := toNat_le wa
    have wo1 := toNat_le wo
    have h1 := fc_h (T := T) (len := len) hE (p := p) (h := h + (wa.toNat + wo.toNat)) hd (by omega)
    unfold elP
    cases hf : fcP T len E d p with
    | inl q => trivial
    | inr r =>
      obtain ⟨q, ts⟩ := r
      rw [hf] at h1
      unfold hgR at h1
      simp only [] at h1 ⊢
      have ea : hgt (ts ++ oneT wa aT) (h + (wa.toNat + wo.toNat)) = some (h + 1 + wo.toNat) := by
        rw [hgt_app, show h + (wa.toNat + wo.toNat) = h + (wa.toNat + wo.toNat) + 0 from rfl, h1]
        show hgt (oneT wa aT) _ = _
        rw [hgt_op (Or.inl rfl) (by cases wa with
          | false => exact Or.inr rfl
          | true => exact Or.inl (by simp only [Bool.toNat_true]; omega))]
        congr 1; omega
      have eo : hgt (ts ++ oneT wa aT ++ oneT wo oT) (h + (wa.toNat + wo.toNat)) = some (h + 1) := by
        rw [hgt_app, ea]
        show hgt (oneT wo oT) _ = _
        rw [hgt_op (Or.inr rfl) (by cases wo with
          | false => exact Or.inr rfl
          | true => exact Or.inl (by simp only [Bool.toNat_true]; omega))]
        congr 1; omega
      by_cases c : rdB T len q 38 = true
      · rw [if_pos c]
        have ih := el_h hE hd hh f (q + 1) true wo
        cases he : elP T len E f d (q + 1) true wo with
        | inl q' => trivial
        | inr r =>
          obtain ⟨q', ts'⟩ := r
          rw [he] at ih
          unfold hgR at ih
          unfold apR hgR
          simp only [Bool.toNat_true] at ih ⊢
          rw [hgt_app, ea]
          rw [← Nat.add_assoc] at ih
          exact ih
      · rw [if_neg c]
        by_cases c2 : rdB T len q 124 = true
        · rw [if_pos c2]
          have ih := el_h hE hd hh f (q + 1) false true
          cases he : elP T len E f d (q + 1) false true with
          | inl q' => trivial
          | inr r =>
            obtain ⟨q', ts'⟩ := r
            rw [he] at ih
            unfold hgR at ih
            unfold apR hgR
            simp only [Bool.toNat_true, Bool.toNat_false, Nat.zero_add] at ih ⊢
            rw [hgt_app, eo]
            exact ih
        · rw [if_neg c2]
          exact eo
theorem e_h : ∀ (n d p h : Nat), d ≤ 4 → h ≤ 3 * d → hgR h 0 (eP T len n d p)
  | 0, _, _, _, _, _ => trivial
  | n + 1, d, p, h, hd, hh => el_h (fun d p h hd hh => e_h n d p h hd hh) hd hh 100 p false false
end PP
