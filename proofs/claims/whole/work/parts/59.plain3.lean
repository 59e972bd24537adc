/-! the same, as the reference reads it -/
def b01 (b : Bool) : Int32 := if b = true then 1 else 0
def PR (g : Nat → Int32) : List Bool → Prop
  | [] => True
  | b :: s => g s.length = b01 b ∧ PR g s
theorem PR_upd {g : Nat → Int32} {k : Nat} {x : Int32} : ∀ {s : List Bool}, s.length ≤ k → PR g s → PR (upd g k x) s
  | [], _, _ => trivial
  | b :: s, h, ⟨h1, h2⟩ => ⟨by rw [upd_n (by simp only [List.length_cons] at h; omega)]; exact h1, PR_upd (by simp only [List.length_cons] at h; omega) h2⟩
theorem b01_0 (b : Bool) : b01 b = 0 ↔ b = false := by cases b <;> decide
section MP
variable {m : MI} {kc : MI → Int32 → Int32 → Option (Int32 × MI)} {fac : Nat → Int32} {a : Int32} {cl : Nat}
theorem mI76 {g g' : Nat → Int32} : (mI m 76 g).1 76 = g := mI_s
theorem mT_test {l c n : Nat} (hl : l < 6) (hc : c < 3) (hn : n < 100) : nI (1000 * l + 100 * c + n) / 1000 = nI l ∧ (nI (1000 * l + 100 * c + n) / 100) - (nI (1000 * l + 100 * c + n) / 100) / 10 * 10 = nI c ∧ nI (1000 * l + 100 * c + n) - nI (1000 * l + 100 * c + n) / 100 * 100 = nI n := by
  refine ⟨?_, ?_, ?_⟩
  · rw [show (1000 : Int32) = nI 1000 from rfl, pk_div (by omega) (by omega) (by omega)]; congr 1; omega
  · rw [show (100 : Int32) = nI 100 from rfl, show (10 : Int32) = nI 10 from rfl, pk_div (by omega) (by omega) (by omega), pk_rem (by omega) (by omega) (by omega)]; congr 1; omega
  · rw [show (100 : Int32) = nI 100 from rfl, pk_rem (by omega) (by omega) (by omega)]; congr 1; omega
theorem M_tok {i e f : Nat} (hcl : cl < 60) (he : m.1 72 cl = nI e) (hi : i < e) (he6 : e ≤ 600) {t : Tok} {ts : List Tok} {s : List Bool} {r : Nat} (hh : hgt (t :: ts) s.length = some r) (ht : m.1 73 i = mT t) (hs : s.length ≤ 30) (g : Nat → Int32) (hg : PR g s)
    (hfac : ∀ l, l < 6 → ∀ g, fM_factOf (mI m 76 g) (nI l) a = some (fac l, mI m 76 g)) :
    ∃ g', PR g' (stp fac s t) ∧ fM_holds_l10 (nI cl) a kc (f + 1) (mI m 76 g) (nI s.length) (nI i) = fM_holds_l10 (nI cl) a kc f (mI m 76 g') (nI (stp fac s t).length) (nI (i + 1)) := by
  have c60 : ck (nI cl) 60 = true := ck_nI hcl (by omega)
  have ccl := cl_nI (show cl < 100000 by omega)
  have c600 : ck (nI i) 600 = true := ck_nI (by omega) (by omega)
  have cli := cl_nI (show i < 100000 by omega)
  have hle : ¬ nI e ≤ nI i := not_le_nI hi (by omega)
  rw [fM_holds_l10]
  simp only [c60, ccl, c600, cli, if_true, mI_n (show (72 : Nat) ≠ 76 by decide), mI_n (show (73 : Nat) ≠ 76 by decide), he, if_neg hle, ht, lt, lm]
  unfold hgt at hh
  unfold mT stp
  by_cases c0 : t.1 = 0
  · rw [if_pos c0] at hh
    simp only [if_pos c0]
    split at hh
    case isFalse => cases hh
    rename_i hb
    obtain ⟨x1, x2, x3⟩ := mT_test hb.2.1 hb.2.2.1 hb.2.2.2
    have n33 : ¬ nI (1000 * t.2.1 + 100 * t.2.2.1 + t.2.2.2) = -33 := fun h => nI_pos (n := 1000 * t.2.1 + 100 * t.2.2.1 + t.2.2.2) (by omega) (by rw [h]; decide)
    have n0 : (0 : Int32) ≤ nI (1000 * t.2.1 + 100 * t.2.2.1 + t.2.2.2) := nI_pos' (by omega)
    have ck3 : ck (nI s.length) 100 = true := ck_nI (by omega) (by omega)
    have cl3 := cl_nI (show s.length < 100000 by omega)
    simp only [if_neg n33, if_pos n0, x1, x2, x3, hfac _ hb.2.1, Option.bind_some, ck3, cl3, if_true, vpz0, vpz1, mI_s, mI_mI, nI_1]
    refine ⟨upd g s.length (b01 (tv fac t)), ⟨by rw [upd_s], PR_upd (Nat.le_refl _) hg⟩, ?_⟩
    rw [List.length_cons]
    have c3 : t.2.2.1 = 0 ∨ t.2.2.1 = 1 ∨ t.2.2.1 = 2 := by omega
    unfold tv
    rcases c3 with c | c | c
    · rw [c]
      simp only [if_true, if_pos (show nI 0 = 0 from rfl)]
      by_cases l : nI t.2.2.2 ≤ fac t.2.1
      · rw [if_pos l, decide_eq_false (Int32.not_lt.mpr l)]; rfl
      · rw [if_neg l, decide_eq_true (Int32.not_le.mp l)]; rfl
    · rw [c]
      simp only [if_neg (show ¬ nI 1 = 0 by decide), if_pos (show nI 1 = 1 from rfl), if_neg (show ¬ (1 : Nat) = 0 by decide), if_true]
      by_cases l : fac t.2.1 = nI t.2.2.2
      · rw [if_pos l, decide_eq_true l]; rfl
      · rw [if_neg l, decide_eq_false l]; rfl
    · rw [c]
      simp only [if_neg (show ¬ nI 2 = 0 by decide), if_neg (show ¬ nI 2 = 1 by decide), if_neg (show ¬ (2 : Nat) = 0 by decide), if_neg (show ¬ (2 : Nat) = 1 by decide)]
      by_cases l : fac t.2.1 ≤ nI t.2.2.2
      · rw [if_pos l, decide_eq_false (Int32.not_lt.mpr l)]; rfl
      · rw [if_neg l, decide_eq_true (Int32.not_le.mp l)]; rfl
  · rw [if_neg c0] at hh
    simp only [if_neg c0]
    cases s with
    | nil =>
      exfalso
      simp only [List.length_nil] at hh
      repeat' split at hh
      all_goals first | omega | cases hh
    | cons b s =>
      obtain ⟨hg1, hg2⟩ := hg
      have e1 : nI (b :: s).length - 1 = nI s.length := nI_pred _
      have ck3 : ck (nI s.length) 100 = true := ck_nI (by simp only [List.length_cons] at hs; omega) (by omega)
      have cl3 := cl_nI (show s.length < 100000 by simp only [List.length_cons] at hs; omega)
      by_cases c1 : t.1 = 1
      · simp only [if_pos c1, if_true, e1, ck3, cl3, mI_s, hg1, vpz0, vpz1, mI_mI, nI_1]
        refine ⟨upd g s.length (b01 (!b)), ⟨by rw [upd_s], PR_upd (Nat.le_refl _) hg2⟩, ?_⟩
        cases b
        · rw [if_pos ((b01_0 false).mpr rfl)]; rfl
        · rw [if_neg (fun h => by have := (b01_0 true).mp h; cases this)]; rfl
      · rw [if_neg c1] at hh
        simp only [if_neg c1]
        cases s with
        | nil =>
          exfalso
          simp only [List.length_cons, List.length_nil] at hh
          repeat' split at hh
          all_goals first | omega | cases hh
        | cons a' s =>
          obtain ⟨hg3, hg4⟩ := hg2
          simp only [List.length_cons] at hs
          have e2 : nI (b :: a' :: s).length + (-1) = nI (a' :: s).length := by rw [← Int32.sub_eq_add_neg]; exact nI_pred _
          have e3 : nI (a' :: s).length - 1 = nI s.length := nI_pred _
          have ck4 : ck (nI s.length) 100 = true := ck_nI (by omega) (by omega)
          have cl4 := cl_nI (show s.length < 100000 by omega)
          by_cases c2 : t.1 = 2
          · have q1 : ¬ (-38 : Int32) = -33 := by decide
            have q2 : ¬ (0 : Int32) ≤ -38 := by decide
            simp only [if_pos c2, if_neg q1, if_neg q2, if_true, e2, e3, ck4, cl4, ck3, cl3, mI_s, hg1, hg3, vpz0, vpz1, mI_mI, nI_1]
            refine ⟨upd g s.length (b01 (a' && b)), ⟨by rw [upd_s], PR_upd (Nat.le_refl _) hg4⟩, ?_⟩
            cases a'
            · rw [if_pos ((b01_0 false).mpr rfl)]; rfl
            · rw [if_neg (fun h => by have := (b01_0 true).mp h; cases this)]
              cases b
              · rw [if_pos ((b01_0 false).mpr rfl)]; rfl
              · rw [if_neg (fun h => by have := (b01_0 true).mp h; cases this)]; rfl
          · have q1 : ¬ (-124 : Int32) = -33 := by decide
            have q2 : ¬ (0 : Int32) ≤ -124 := by decide
            have q3 : ¬ (-124 : Int32) = -38 := by decide
            simp only [if_neg c2, if_neg q1, if_neg q2, if_neg q3, if_true, e2, e3, ck4, cl4, ck3, cl3, mI_s, hg1, hg3, vpz0, vpz1, mI_mI, nI_1]
            refine ⟨upd g s.length (b01 (a' || b)), ⟨by rw [upd_s], PR_upd (Nat.le_refl _) hg4⟩, ?_⟩
            cases a'
            · rw [if_pos ((b01_0 false).mpr rfl)]
              cases b
              · rw [if_pos ((b01_0 false).mpr rfl)]; rfl
              · rw [if_neg (fun h => by have := (b01_0 true).mp h; cases this)]; rfl
            · rw [if_neg (fun h => by have := (b01_0 true).mp h; cases this)]; rfl
theorem stp_len {t : Tok} {ts : List Tok} {s : List Bool} {r : Nat} (hh : hgt (t :: ts) s.length = some r) (hs : s.length ≤ 30) : (stp fac s t).length ≤ 30 := by
  unfold hgt at hh
  unfold stp
  by_cases c0 : t.1 = 0
  · rw [if_pos c0] at hh ⊢
    split at hh
    · simp only [List.length_cons]; omega
    · cases hh
  · rw [if_neg c0]
    cases s with
    | nil => simp
    | cons b s =>
      by_cases c1 : t.1 = 1
      · simp only [if_pos c1]; exact hs
      · simp only [if_neg c1]
        cases s with
        | nil => simp
        | cons a s => simp only [List.length_cons] at hs ⊢; omega
theorem M_toks {e : Nat} (hcl : cl < 60) (he : m.1 72 cl = nI e) (he6 : e ≤ 600) (hfac : ∀ l, l < 6 → ∀ g, fM_factOf (mI m 76 g) (nI l) a = some (fac l, mI m 76 g)) : ∀ (ts : List Tok) (s : List Bool) (i f : Nat) (g : Nat → Int32), hgt ts s.length = some 1 → s.length ≤ 30 → i + ts.length = e → (∀ k, k < ts.length → m.1 73 (i + k) = mT (ts.getD k (0, 0, 0, 0))) → PR g s →
    ∃ g', PR g' (ts.foldl (stp fac) s) ∧ fM_holds_l10 (nI cl) a kc (f + ts.length + 1) (mI m 76 g) (nI s.length) (nI i) = kc (mI m 76 g') (nI (ts.foldl (stp fac) s).length) (nI e) := by
  intro ts
  induction ts with
  | nil =>
    intro s i f g _ _ hi _ hg
    have hi : i = e := by simpa using hi
    refine ⟨g, hg, ?_⟩
    rw [fM_holds_l10, if_pos (ck_nI hcl (by omega)), cl_nI (show cl < 100000 by omega), mI_n (by decide), he, hi, if_pos (Int32.le_refl _)]
    rfl
  | cons t ts ih =>
    intro s i f g hh hs hi hm hg
    simp only [List.length_cons] at hi
    obtain ⟨g1, p1, p2⟩ := M_tok (kc := kc) (f := f + ts.length + 1) hcl he (i := i) (by omega) he6 hh (by have := hm 0 (by simp); simpa using this) hs g hg hfac
    obtain ⟨g2, p3, p4⟩ := ih (stp fac s t) (i + 1) f g1 (hgt_stp hh) (stp_len hh hs) (by omega) (fun k hk => by
      have := hm (k + 1) (by simp only [List.length_cons]; omega)
      rw [show i + 1 + k = i + (k + 1) by omega, this]
      rfl) p1
    refine ⟨g2, p3, ?_⟩
    rw [List.length_cons, ← Nat.add_assoc, p2, p4]
    rfl
theorem M_holdsE {fr e : Nat} {ts : List Tok} (hcl : cl < 60) (h71 : m.1 71 cl = nI fr) (he : m.1 72 cl = nI e) (hfe : fr + ts.length = e) (he6 : e ≤ 600) (hfac : ∀ l, l < 6 → ∀ g, fM_factOf (mI m 76 g) (nI l) a = some (fac l, mI m 76 g)) (hh : hgt ts 0 = some 1) (hm : ∀ k, k < ts.length → m.1 73 (fr + k) = mT (ts.getD k (0, 0, 0, 0))) (g : Nat → Int32) : ∃ g', fM_holds (mI m 76 g) (nI cl) a = some (b01 (holdsT fac ts), mI m 76 g') := by
  obtain ⟨F, hF⟩ : ∃ F : Nat, F = 1000 := ⟨_, rfl⟩
  obtain ⟨g', p1, p2⟩ := M_toks (fac := fac) (kc := fun m5 _ _ => if zb (m5.1 76 (0 : Int32).toNatClampNeg) = true then some (m5.1 76 (0 : Int32).toNatClampNeg, m5) else none) hcl he he6 hfac ts [] fr (F - ts.length - 1) g hh (by simp) hfe hm trivial
  have hl : (ts.foldl (stp fac) []).length = 1 := foldl_len (s := []) hh
  obtain ⟨b, hb⟩ := List.length_eq_one_iff.mp hl
  rw [show F - ts.length - 1 + ts.length + 1 = F by omega] at p2
  refine ⟨g', ?_⟩
  unfold fM_holds
  rw [if_pos (ck_nI hcl (by omega)), cl_nI (show cl < 100000 by omega), mI_n (by decide), h71, ← hF]
  simp only [lt]
  refine Eq.trans p2 ?_
  rw [hb] at p1
  have e0 : g' 0 = b01 b := p1.1
  rw [mI_s, show (0 : Int32).toNatClampNeg = 0 from rfl, e0, show holdsT fac ts = b by unfold holdsT; rw [hb]; rfl]
  cases b <;> rfl
end MP
