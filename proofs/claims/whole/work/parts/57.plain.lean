/-! THE SAME ANSWERS: what a hut says of a drawer -/
def tv (fac : Nat → Int32) (t : Tok) : Bool := if t.2.2.1 = 0 then decide (fac t.2.1 < nI t.2.2.2) else if t.2.2.1 = 1 then decide (fac t.2.1 = nI t.2.2.2) else decide (nI t.2.2.2 < fac t.2.1)
def stp (fac : Nat → Int32) (s : List Bool) (t : Tok) : List Bool :=
  if t.1 = 0 then tv fac t :: s else match s with
    | [] => []
    | b :: s' => if t.1 = 1 then (!b) :: s' else match s' with
      | [] => []
      | a :: s'' => (if t.1 = 2 then a && b else a || b) :: s''
def holdsT (fac : Nat → Int32) (ts : List Tok) : Bool := (ts.foldl (stp fac) []).headD false
def plF (fac : Nat → Int32) (v : Int32) (c : Cla) : Int32 := if c.1 < 2 then (if holdsT fac c.2.2 = true then (if c.1 = 0 then v + nI c.2.1 else v - nI c.2.1) else v) else v
def pl (fac : Nat → Int32) (cs : List Cla) : Int32 := cs.foldl (plF fac) 10
def mx0 (x : Int32) : Int32 := if 0 < x then x else 0
theorem hgt_stp {fac : Nat → Int32} {t : Tok} {ts : List Tok} {s : List Bool} {r : Nat} (h : hgt (t :: ts) s.length = some r) : hgt ts (stp fac s t).length = some r := by
  unfold hgt at h
  unfold stp
  by_cases c0 : t.1 = 0
  · rw [if_pos c0] at h ⊢
    split at h
    · exact h
    · cases h
  · rw [if_neg c0] at h ⊢
    cases s with
    | nil =>
      exfalso
      simp only [List.length_nil] at h
      repeat' split at h
      all_goals first | omega | cases h
    | cons b s =>
      by_cases c1 : t.1 = 1
      · rw [if_pos c1] at h
        simp only [if_pos c1]
        split at h
        · exact h
        · cases h
      · rw [if_neg c1] at h
        simp only [if_neg c1]
        cases s with
        | nil =>
          exfalso
          simp only [List.length_cons, List.length_nil] at h
          repeat' split at h
          all_goals first | omega | cases h
        | cons a s =>
          split at h
          · split at h
            · exact h
            · cases h
          · cases h
section CP
variable {sh : Sh} {R : RR} {m : MI} {u q n : Nat} {kc : MI → Int32 → Int32 → Int32 → Option (Int32 × MI)} {fac : Nat → Int32}
theorem C_tok (hsu : sh[u]? = some (11, 0)) (hRu : R u 2 = some q) (hsq : sh[q]? = some (0, n)) (hn : n ≤ 1000) {i f : Nat} (hi : i < n) {t : Tok} {ts : List Tok} {s : List Bool} {r : Nat} (hh : hgt (t :: ts) s.length = some r) (ht : m.1 q i = cT t) (hfac : ∀ l, l < 6 → m.1 18 l = fac l) (hs : s.length ≤ 30) (v2 : Int32) :
    fH_plain_18_l8 sh R u kc (f + 1) m v2 (nI (enc s)) (nI i) = fH_plain_18_l8 sh R u kc f m v2 (nI (enc (stp fac s t))) (nI (i + 1)) := by
  have hck : ck (nI i) n = true := ck_nI hi (by omega)
  have hcl := cl_nI (show i < 100000 by omega)
  have hle : ¬ Int32.ofNat n ≤ nI i := not_le_nI hi hn
  rw [fH_plain_18_l8, if_pos hsu, hRu]
  simp only [mq, kA_of hsq, lenA_of hsq, if_true, if_neg hle, hck, hcl, lt, ht, nI_1]
  unfold hgt at hh
  unfold cT stp
  by_cases c0 : t.1 = 0
  · rw [if_pos c0] at hh
    simp only [if_pos c0]
    split at hh
    case isFalse => cases hh
    rename_i hb
    obtain ⟨x1, x2, x3, x4⟩ := cT_test t.2.1 hb.2.1 t.2.2.1 hb.2.2.1 t.2.2.2 hb.2.2.2
    have a1 : ¬ (0 : Int32) = 1 := by decide
    have a2 : ¬ (0 : Int32) = 2 := by decide
    have a3 : ¬ (0 : Int32) = 3 := by decide
    have a4 : ¬ (0 : Int32) = 4 := by decide
    have a5 : ¬ (0 : Int32) = 5 := by decide
    have a6 : ¬ (6 : Int32) ≤ nI t.2.1 := not_le_nI (n := 6) hb.2.1 (by omega)
    have e1 := enc_push true hb.1
    have e0 := enc_push false hb.1
    rw [show nI true.toNat = (1 : Int32) from rfl] at e1
    rw [show nI false.toNat = (0 : Int32) from rfl] at e0
    simp only [x1, if_neg a1, if_neg a2, if_neg a3, if_neg a4, if_neg a5, x2, if_neg a6, ck_nI (show t.2.1 < 6 from hb.2.1) (show 6 ≤ 100000 by omega), if_true, cl_nI (show t.2.1 < 100000 by omega), hfac _ hb.2.1, x3, x4, e1, e0]
    have c3 : t.2.2.1 = 0 ∨ t.2.2.1 = 1 ∨ t.2.2.1 = 2 := by omega
    unfold tv
    rcases c3 with c | c | c
    · rw [c]
      simp only [if_true]
      by_cases l : nI t.2.2.2 ≤ fac t.2.1
      · rw [if_pos l, decide_eq_false (Int32.not_lt.mpr l)]
        by_cases ee : fac t.2.1 = nI t.2.2.2
        · rw [if_pos ee, if_neg (by decide)]
        · rw [if_neg ee, if_neg (by decide)]
      · rw [if_neg l, decide_eq_true (Int32.not_le.mp l), if_pos (show (0 : Int32) = nI 0 from rfl)]
    · rw [c]
      simp only [if_neg (show ¬ (1 : Nat) = 0 by decide), if_true]
      by_cases l : nI t.2.2.2 ≤ fac t.2.1
      · rw [if_pos l]
        by_cases ee : fac t.2.1 = nI t.2.2.2
        · rw [if_pos ee, if_pos (show (1 : Int32) = nI 1 from rfl), decide_eq_true ee]
        · rw [if_neg ee, if_neg (by decide), decide_eq_false ee]
      · rw [if_neg l, if_neg (by decide), decide_eq_false (fun ee => l (by rw [ee]; exact Int32.le_refl _))]
    · rw [c]
      simp only [if_neg (show ¬ (2 : Nat) = 0 by decide), if_neg (show ¬ (2 : Nat) = 1 by decide)]
      by_cases l : nI t.2.2.2 ≤ fac t.2.1
      · rw [if_pos l]
        by_cases ee : fac t.2.1 = nI t.2.2.2
        · rw [if_pos ee, if_neg (by decide), decide_eq_false (fun h => by rw [ee] at h; exact Int32.lt_irrefl h)]
        · rw [if_neg ee, if_pos (show (2 : Int32) = nI 2 from rfl), decide_eq_true (Int32.lt_of_le_of_ne l (fun h => ee h.symm))]
      · rw [if_neg l, if_neg (by decide), decide_eq_false (fun h => l (Int32.le_of_lt h))]
  · rw [if_neg c0] at hh
    simp only [if_neg c0]
    cases s with
    | nil =>
      exfalso
      simp only [List.length_nil] at hh
      repeat' split at hh
      all_goals first | omega | cases hh
    | cons b s =>
      by_cases c1 : t.1 = 1
      · have e7 : nI t.1 &&& (7 : Int32) = 1 := by rw [c1]; decide +kernel
        simp only [if_pos c1, e7, if_true, enc_not]
      · rw [if_neg c1] at hh
        simp only [if_neg c1]
        cases s with
        | nil =>
          exfalso
          simp only [List.length_cons, List.length_nil] at hh
          repeat' split at hh
          all_goals first | omega | cases hh
        | cons a s =>
          simp only [List.length_cons] at hs
          by_cases c2 : t.1 = 2
          · have e7 : nI t.1 &&& (7 : Int32) = 2 := by rw [c2]; decide +kernel
            simp only [if_pos c2, e7, if_true, if_neg (show ¬ (2 : Int32) = 1 by decide), enc_and a b (show s.length ≤ 28 by omega)]
          · have c3 : t.1 = 3 := by
              split at hh
              · omega
              · cases hh
            have e7 : nI t.1 &&& (7 : Int32) = 3 := by rw [c3]; decide +kernel
            simp only [if_neg c2, e7, if_true, if_neg (show ¬ (3 : Int32) = 1 by decide), if_neg (show ¬ (3 : Int32) = 2 by decide), enc_or a b (show s.length ≤ 28 by omega)]
end CP
