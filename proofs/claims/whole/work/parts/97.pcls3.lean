/-! READING A HUT: the class, sums, clauses, the text -/
def hdP (T : Nat → Nat) (len p : Nat) : Nat ⊕ (Nat × Nat) :=
  if rdB T len p 108 = true then (match wdP T len [108, 101, 97, 110] p with
    | .inl q => .inl q
    | .inr q => .inr (q, 0))
  else if rdB T len p 109 = true then (match wdP T len [109, 111, 114, 101] p with
    | .inl q => .inl q
    | .inr q => .inr (q, 3))
  else (match wdP T len [115, 104] p with
    | .inl q => .inl q
    | .inr q => if rdB T len q 121 = true then .inr (q + 1, 1) else (match wdP T len [111, 114, 116] q with
      | .inl q' => .inl q'
      | .inr q' => .inr (q', 2)))
def claP (T : Nat → Nat) (len p : Nat) : Nat ⊕ (Nat × Cla) := match hdP T len p with
  | .inl q => .inl q
  | .inr (q, w) => if rdB T len q 32 = true then (match nmP T len (q + 1) with
    | none => .inl (q + 1)
    | some (n, q2) => if 2 ≤ w then .inr (q2, (w, n, [])) else if rdB T len q2 32 = true then (match eP T len 8 0 (q2 + 1) with
      | .inl q3 => .inl q3
      | .inr (q3, ts) => .inr (q3, (w, n, ts))) else .inl q2) else .inl q
def txP (T : Nat → Nat) (len : Nat) : Nat → Nat → Nat ⊕ (Nat × List Cla)
  | 0, p => .inl p
  | f + 1, p => match claP T len p with
    | .inl q => .inl q
    | .inr (q, c) => if q = len then .inr (q, [c]) else if f = 0 then .inl q else if rdB T len q 59 = true then (match txP T len f (q + 1) with
      | .inl r => .inl r
      | .inr (r, cs) => .inr (r, c :: cs)) else .inl q
section PC
variable {m0 m : MI} {T : Nat → Nat} {len p : Nat} {Sg : List Int32}
theorem CR_app {m0 : MI} {Sg : List Int32} {r : Option (Int32 × MI)} {x : Res} (ts : List Tok) (h : CR m0 (Sg ++ ts.map cT) r x) : CR m0 Sg r (apR ts x) := by
  cases x with
  | inl q => exact h
  | inr y =>
    obtain ⟨q, ts'⟩ := y
    obtain ⟨m', a1, a2⟩ := h
    exact ⟨m', a1, by rw [List.map_append, ← List.append_assoc]; exact a2⟩
theorem C_el {rec : MI → Int32 → Option (Int32 × MI)} {E : Nat → Nat → Res} {D : Nat} (hT : CT m0 T len) (hR : RecOK m0 T len D rec E) {d : Nat} (hD : D ≤ d + 1) (hd : d ≤ 4) : ∀ (g i f p : Nat) (wa wo : Bool) (m : MI) (Sg : List Int32), i + g = 100 → g < f → p ≤ len → Sg.length + wa.toNat + wo.toNat ≤ p → CS m0 m p Sg → CR m0 Sg (fP_readsEither_l7 rec (nI d) (fun m4 _ _ _ => some (0, m4)) f m (b01 wa) (b01 wo) (nI i)) (elP T len E g d p wa wo) := by
  have hlen := hT.1
  intro g
  induction g with
  | zero =>
    intro i f p wa wo m Sg hi hf hp hl h
    obtain ⟨f', rfl, -⟩ := fu hf
    rw [fP_readsEither_l7, if_pos (show (100 : Int32) ≤ nI i from nI_le (a := 100) (by omega) (by omega))]
    exact ⟨m, Sg, rfl, h⟩
  | succ g ih =>
    intro i f p wa wo m Sg hi hf hp hl h
    obtain ⟨f', rfl, hf'⟩ := fu hf
    have hfc := C_fc hT hR hD hd hp (by omega) h
    have hok := fc_ok (T := T) hR.1 (d := d) hp
    rw [fP_readsEither_l7, if_neg (show ¬ (100 : Int32) ≤ nI i from not_le_nI (n := 100) (by omega) (by omega))]
    unfold elP
    cases he : fcP T len E d p with
    | inl q =>
      rw [he] at hfc
      obtain ⟨m1, S1, a1, a2⟩ := hfc
      rw [a1]
      exact ⟨m1, S1, rfl, a2⟩
    | inr r =>
      obtain ⟨q, ts⟩ := r
      rw [he] at hfc hok
      obtain ⟨m1, a1, h1⟩ := hfc
      unfold okR at hok
      simp only [] at hok ⊢
      have wa1 := toNat_le wa
      have wo1 := toNat_le wo
      rw [a1]
      simp only [Option.bind_some, if_neg (show ¬ (1 : Int32) = 0 by decide)]
      -- behind the and
      have rest : ∀ (mA : MI) (tA : List Tok), tA.length ≤ ts.length + wa.toNat → tA = ts ++ oneT wa aT → CS m0 mA q (Sg ++ tA.map cT) → CR m0 Sg ((fP_reads mA 38).bind fun r5 => if r5.1 = 0 then (if b01 wo = 0 then (fP_reads r5.2 124).bind fun r8 => if r8.1 = 0 then some (1, r8.2) else lt (nI i + 1) fun x10 => fP_readsEither_l7 rec (nI d) (fun m4 _ _ _ => some (0, m4)) f' r8.2 r5.1 r8.1 x10 else (fP_keep r5.2 3).bind fun r11 => (fP_reads r11 124).bind fun r12 => if r12.1 = 0 then some (1, r12.2) else lt (nI i + 1) fun x14 => fP_readsEither_l7 rec (nI d) (fun m4 _ _ _ => some (0, m4)) f' r12.2 r5.1 r12.1 x14) else lt (nI i + 1) fun x15 => fP_readsEither_l7 rec (nI d) (fun m4 _ _ _ => some (0, m4)) f' r5.2 r5.1 (b01 wo) x15)
          (if rdB T len q 38 = true then apR (ts ++ oneT wa aT) (elP T len E g d (q + 1) true wo) else if rdB T len q 124 = true then apR (ts ++ oneT wa aT ++ oneT wo oT) (elP T len E g d (q + 1) false true) else .inr (q, ts ++ oneT wa aT ++ oneT wo oT)) := fun mA tA hlA eA hA => by
        rw [← eA]
        rcases C_rd hT hA hok.2.1 (c := 38) (by omega) with ⟨r1, m2, r2, h2⟩ | ⟨r1, r2⟩
        · rw [show (38 : Int32) = nI 38 from rfl, r2, if_pos r1]
          simp only [Option.bind_some, if_neg (show ¬ (1 : Int32) = 0 by decide), lt, nI_1]
          exact CR_app tA (ih (i + 1) f' (q + 1) true wo m2 (Sg ++ tA.map cT) (by omega) (hf' g rfl) (rdB_t r1).1 (by rw [List.length_append, List.length_map]; simp only [Bool.toNat_true]; omega) h2)
        · rw [show (38 : Int32) = nI 38 from rfl, r2, if_neg (by rw [r1]; decide)]
          simp only [Option.bind_some, if_true]
          -- behind the or
          have rest2 : ∀ (mB : MI) (tB : List Tok), tB.length ≤ tA.length + wo.toNat → tB = tA ++ oneT wo oT → CS m0 mB q (Sg ++ tB.map cT) → CR m0 Sg ((fP_reads mB 124).bind fun r8 => if r8.1 = 0 then some (1, r8.2) else lt (nI i + 1) fun x10 => fP_readsEither_l7 rec (nI d) (fun m4 _ _ _ => some (0, m4)) f' r8.2 0 r8.1 x10) (if rdB T len q 124 = true then apR (tA ++ oneT wo oT) (elP T len E g d (q + 1) false true) else .inr (q, tA ++ oneT wo oT)) := fun mB tB hlB eB hB => by
            rw [← eB]
            rcases C_rd hT hB hok.2.1 (c := 124) (by omega) with ⟨s1, m3, s2, h3⟩ | ⟨s1, s2⟩
            · rw [show (124 : Int32) = nI 124 from rfl, s2, if_pos s1]
              simp only [Option.bind_some, if_neg (show ¬ (1 : Int32) = 0 by decide), lt, nI_1]
              exact CR_app tB (ih (i + 1) f' (q + 1) false true m3 (Sg ++ tB.map cT) (by omega) (hf' g rfl) (rdB_t s1).1 (by rw [List.length_append, List.length_map]; simp only [Bool.toNat_true, Bool.toNat_false]; omega) h3)
            · rw [show (124 : Int32) = nI 124 from rfl, s2, if_neg (by rw [s1]; decide)]
              exact ⟨mB, rfl, hB⟩
          cases wo with
          | false =>
            rw [if_pos (show b01 false = 0 from rfl)]
            exact rest2 mA tA (by simp) (by simp [oneT]) hA
          | true =>
            rw [if_neg (show ¬ b01 true = 0 by decide)]
            simp only [Bool.toNat_true] at hl
            obtain ⟨m3, k1, k2⟩ := C_kep hA (by rw [List.length_append, List.length_map]; omega) 3
            rw [k1]
            simp only [Option.bind_some]
            refine rest2 m3 (tA ++ [oT]) (by simp) rfl ?_
            rw [List.map_append, ← List.append_assoc]
            exact k2
      cases wa with
      | false =>
        rw [if_pos (show b01 false = 0 from rfl)]
        exact rest m1 ts (by simp) (by simp [oneT]) h1
      | true =>
        rw [if_neg (show ¬ b01 true = 0 by decide)]
        simp only [Bool.toNat_true] at hl
        obtain ⟨m2, k1, k2⟩ := C_kep h1 (by rw [List.length_append, List.length_map]; omega) 2
        rw [k1]
        simp only [Option.bind_some]
        refine rest m2 (ts ++ [aT]) (by simp) rfl ?_
        rw [List.map_append, ← List.append_assoc]
        exact k2
theorem C_e (hT : CT m0 T len) {D : Nat} : ∀ n, RecOK m0 T len (D + 1) (fP_readsEitherN n) (eP T len n) → RecOK m0 T len D (fP_readsEitherN (n + 1)) (eP T len (n + 1)) := fun n hR => by
  obtain ⟨F, hF1⟩ : ∃ F : Nat, F = 1000 := ⟨_, rfl⟩
  refine ⟨fun d p hp => e_ok (n + 1) d p hp, fun d p m Sg hD hd hp hl h => ?_⟩
  show CR m0 Sg (fP_readsEither (fP_readsEitherN n) m (nI d)) (elP T len (eP T len n) 100 d p false false)
  unfold fP_readsEither
  rw [← hF1]
  exact C_el hT hR (by omega) hd 100 0 F p false false m Sg (by omega) (by omega) hp (by simpa using hl) h
/-- as far as the recursion goes: eight levels, where a reading goes five at most -/
theorem C_e8 (hT : CT m0 T len) : RecOK m0 T len 0 (fP_readsEitherN 8) (eP T len 8) := by
  have b0 : ∀ n, RecOK m0 T len 5 (fP_readsEitherN n) (eP T len n) := fun n => ⟨fun d p hp => e_ok n d p hp, fun d p m Sg hD hd => by omega⟩
  exact C_e hT 7 (C_e hT 6 (C_e hT 5 (C_e hT 4 (C_e hT 3 (b0 3)))))
/-- the reading as the text stands: the rest of the reader's fields too -/
def XS (m0 m : MI) (p : Nat) (Sg : List Int32) (s l : Nat) : Prop := m.2 = m0.2 ∧ (∀ k, k ≠ 43 → k ≠ 45 → m.1 k = m0.1 k) ∧ m.1 43 0 = m0.1 43 0 ∧ m.1 43 3 = nI s ∧ m.1 43 4 = nI l ∧ m.1 43 1 = nI p ∧ m.1 43 5 = nI Sg.length ∧ ∀ i, i < Sg.length → m.1 45 i = Sg.getD i 0
theorem XS_C {s l : Nat} (h : XS m0 m p Sg s l) : CS m m p Sg := ⟨rfl, fun _ _ _ => rfl, fun _ _ _ => rfl, h.2.2.2.2.2.1, h.2.2.2.2.2.2.1, h.2.2.2.2.2.2.2⟩
theorem C_XS {m' : MI} {s l q : Nat} {Sg' : List Int32} (h : XS m0 m p Sg s l) (c : CS m m' q Sg') : XS m0 m' q Sg' s l := by
  obtain ⟨a1, a2, a3, a4, a5, a6, a7, a8⟩ := h
  obtain ⟨b1, b2, b3, b4, b5, b6⟩ := c
  exact ⟨b1.trans a1, fun k h1 h2 => (b2 k h1 h2).trans (a2 k h1 h2), (b3 0 (by decide) (by decide)).trans a3, (b3 3 (by decide) (by decide)).trans a4, (b3 4 (by decide) (by decide)).trans a5, b4, b5, b6⟩
theorem XS_T {s l : Nat} (hT : CT m0 T len) (h : XS m0 m p Sg s l) : CT m T len := ⟨hT.1, fun i hi => by rw [h.2.1 44 (by decide) (by decide)]; exact hT.2.1 i hi, by rw [h.2.1 44 (by decide) (by decide)]; exact hT.2.2⟩
theorem XS_3 {s l n : Nat} (h : XS m0 m p Sg s l) : XS m0 (mI m 43 (upd (m.1 43) 3 (nI n))) p Sg n l := by
  obtain ⟨a1, a2, a3, a4, a5, a6, a7, a8⟩ := h
  exact ⟨a1, fun k h1 h2 => by rw [mI_n h1]; exact a2 k h1 h2, by rw [mI_s, upd_n (by decide)]; exact a3, by rw [mI_s, upd_s], by rw [mI_s, upd_n (by decide)]; exact a5, by rw [mI_s, upd_n (by decide)]; exact a6, by rw [mI_s, upd_n (by decide)]; exact a7, fun i hi => by rw [mI_n (by decide)]; exact a8 i hi⟩
theorem XS_4 {s l n : Nat} (h : XS m0 m p Sg s l) : XS m0 (mI m 43 (upd (m.1 43) 4 (nI n))) p Sg s n := by
  obtain ⟨a1, a2, a3, a4, a5, a6, a7, a8⟩ := h
  exact ⟨a1, fun k h1 h2 => by rw [mI_n h1]; exact a2 k h1 h2, by rw [mI_s, upd_n (by decide)]; exact a3, by rw [mI_s, upd_n (by decide)]; exact a4, by rw [mI_s, upd_s], by rw [mI_s, upd_n (by decide)]; exact a6, by rw [mI_s, upd_n (by decide)]; exact a7, fun i hi => by rw [mI_n (by decide)]; exact a8 i hi⟩
theorem wd_inr {T : Nat → Nat} {len : Nat} : ∀ {bs : List Nat} {p q : Nat}, wdP T len bs p = .inr q → q = p + bs.length ∧ (bs ≠ [] → q ≤ len)
  | [], p, q, h => by cases h; exact ⟨rfl, fun h => absurd rfl h⟩
  | b :: bs, p, q, h => by
    unfold wdP at h
    by_cases c : rdB T len p b = true
    · rw [if_pos c] at h
      have ih := wd_inr h
      have := rdB_t c
      refine ⟨by rw [List.length_cons]; omega, fun _ => ?_⟩
      cases bs with
      | nil => cases h; omega
      | cons b' bs => exact ih.2 (by simp)
    · rw [if_neg c] at h; cases h
/-- the word -/
def wcode (w : Nat) : Int32 := if w = 0 then 4 else if w = 1 then 5 else if w = 2 then 6 else 7
theorem C_hd (hT : CT m0 T len) (h : CS m0 m p Sg) (hp : p ≤ len) : match hdP T len p with
    | .inl q => ∃ m', fP_word m = some (-1, m') ∧ CS m0 m' q Sg ∧ p ≤ q ∧ q ≤ len
    | .inr (q, w) => ∃ m', fP_word m = some (wcode w, m') ∧ CS m0 m' q Sg ∧ p + 3 ≤ q ∧ q ≤ len ∧ w < 4 := by
  obtain ⟨b1, b2, b3⟩ := CS_at hT h hp
  have eq : ∀ c, c ≤ 127 → ((if p < len then nI (T p) else -1) = nI c ↔ rdB T len p c = true) := fun c hc => by
    unfold rdB
    by_cases d : p < len
    · rw [if_pos d, byte_eq (hT.2.1 p d).1 hc]; simp [d]
    · rw [if_neg d]
      simp only [d, decide_false, Bool.false_and]
      exact ⟨fun q => absurd q (fun q => nI_pos (n := c) (by omega) (by rw [← q]; decide)), fun q => by cases q⟩
  unfold fP_word hdP
  rw [if_pos b1, b2, b3]
  by_cases c1 : rdB T len p 108 = true
  · rw [if_pos (show (if p < len then nI (T p) else -1) = 108 from (eq 108 (by omega)).mpr c1), if_pos c1]
    rcases C_w1010 hT h hp with ⟨q, m', e1, e2, e3, e4, e5⟩ | ⟨q, m', e1, e2, e3, e4, e5⟩
    · rw [e1, e5]; exact ⟨m', rfl, e4, e2, e3⟩
    · rw [e1, e5]; exact ⟨m', rfl, e4, by omega, e3, by omega⟩
  rw [if_neg (show ¬ (if p < len then nI (T p) else -1) = 108 from fun q => c1 ((eq 108 (by omega)).mp q)), if_neg c1, if_pos b1]
  by_cases c2 : rdB T len p 109 = true
  · rw [if_pos (show (if p < len then nI (T p) else -1) = 109 from (eq 109 (by omega)).mpr c2), if_pos c2]
    rcases C_w1011 hT h hp with ⟨q, m', e1, e2, e3, e4, e5⟩ | ⟨q, m', e1, e2, e3, e4, e5⟩
    · rw [e1, e5]; exact ⟨m', rfl, e4, e2, e3⟩
    · rw [e1, e5]; exact ⟨m', rfl, e4, by omega, e3, by omega⟩
  rw [if_neg (show ¬ (if p < len then nI (T p) else -1) = 109 from fun q => c2 ((eq 109 (by omega)).mp q)), if_neg c2]
  rcases C_w1012 hT h hp with ⟨q, m', e1, e2, e3, e4, e5⟩ | ⟨q, m', e1, e2, e3, e4, e5⟩
  · rw [e1, e5]; exact ⟨m', rfl, e4, e2, e3⟩
  rw [e1, e5]
  simp only [Option.bind_some, if_neg (show ¬ (1 : Int32) = 0 by decide)]
  rcases C_rd hT e4 e3 (c := 121) (by omega) with ⟨r1, m2, r2, h2⟩ | ⟨r1, r2⟩
  · have := rdB_t r1
    rw [show (121 : Int32) = nI 121 from rfl, r2, if_pos r1]
    exact ⟨m2, rfl, h2, by omega, by omega, by omega⟩
  · rw [show (121 : Int32) = nI 121 from rfl, r2, if_neg (by rw [r1]; decide)]
    simp only [Option.bind_some, if_true]
    rcases C_w1013 hT e4 e3 with ⟨q2, m3, f1, f2, f3, f4, f5⟩ | ⟨q2, m3, f1, f2, f3, f4, f5⟩
    · rw [f1, f5]; exact ⟨m3, rfl, f4, by omega, f3⟩
    · rw [f1, f5]; exact ⟨m3, rfl, f4, by omega, f3, by omega⟩
theorem C_cla (hT : CT m0 T len) {s l : Nat} (h : XS m0 m p Sg s l) (hp : p ≤ len) (hl : Sg.length ≤ p) : match claP T len p with
    | .inl q => ∃ m' Sg' s' l', fP_readsClause m = some (0, m') ∧ XS m0 m' q Sg' s' l' ∧ q ≤ len
    | .inr (q, c) => ∃ m', fP_readsClause m = some (1, m') ∧ XS m0 m' q (Sg ++ flat [c]) (if c.1 = 2 then c.2.1 else s) (if c.1 = 3 then c.2.1 else l) ∧ p < q ∧ q ≤ len ∧ (Sg ++ flat [c]).length + 1 ≤ q ∧ claOK c := by
  have hlen := hT.1
  have T1 := XS_T hT h
  have h1 := C_hd T1 (XS_C h) hp
  unfold claP fP_readsClause
  cases hh : hdP T len p with
  | inl q =>
    rw [hh] at h1
    obtain ⟨m1, a1, a2, a3, a4⟩ := h1
    rw [a1]
    simp only [Option.bind_some, if_pos (show (-1 : Int32) < 0 by decide)]
    exact ⟨m1, Sg, s, l, rfl, C_XS h a2, a4⟩
  | inr r =>
    obtain ⟨q, w⟩ := r
    rw [hh] at h1
    obtain ⟨m1, a1, a2, a3, a4, a5⟩ := h1
    have hw0 : ¬ wcode w < 0 := by
      have : ∀ w, w < 4 → ¬ wcode w < 0 := by decide
      exact this w a5
    rw [a1]
    simp only [Option.bind_some, if_neg hw0]
    have X1 := C_XS h a2
    rcases C_rd T1 a2 a4 (c := 32) (by omega) with ⟨r1, m2, r2, h2⟩ | ⟨r1, r2⟩
    case inr =>
      rw [show (32 : Int32) = nI 32 from rfl, r2, if_neg (by rw [r1]; decide)]
      exact ⟨m1, Sg, s, l, rfl, X1, a4⟩
    have hr := rdB_t r1
    rw [show (32 : Int32) = nI 32 from rfl, r2, if_pos r1]
    simp only [Option.bind_some, if_neg (show ¬ (1 : Int32) = 0 by decide)]
    rcases C_nm T1 h2 hr.1 with ⟨n1, n2⟩ | ⟨n, q2, m3, n1, n2, h3⟩
    · rw [n1, n2]
      simp only [Option.bind_some, if_neg (show ¬ (0 : Int32) ≤ -1 by decide)]
      exact ⟨m2, Sg, s, l, rfl, C_XS h h2, hr.1⟩
    have nb := nm_ok n1
    rw [n1, n2]
    simp only [Option.bind_some, if_pos (nI_pos' (show n < 2 ^ 31 by omega))]
    have X3 := C_XS h h3
    by_cases w2 : w = 2
    · subst w2
      rw [if_pos (show wcode 2 = 6 from rfl), if_pos (show 2 ≤ 2 by omega)]
      have e : flat [((2, n, []) : Cla)] = [] := rfl
      refine ⟨_, rfl, ?_, by omega, by omega, by rw [e, List.append_nil]; omega, ⟨by show (2 : Nat) < 4; omega, nb.1, fun h => absurd h (by show ¬ (2 : Nat) < 2; omega)⟩⟩
      rw [e, List.append_nil]
      exact XS_3 X3
    by_cases w3 : w = 3
    · subst w3
      rw [if_neg (show ¬ wcode 3 = 6 by decide), if_pos (show wcode 3 = 7 from rfl), if_pos (show 2 ≤ 3 by omega)]
      have e : flat [((3, n, []) : Cla)] = [] := rfl
      refine ⟨_, rfl, ?_, by omega, by omega, by rw [e, List.append_nil]; omega, ⟨by show (3 : Nat) < 4; omega, nb.1, fun h => absurd h (by show ¬ (3 : Nat) < 2; omega)⟩⟩
      rw [e, List.append_nil]
      exact XS_4 X3
    have wlt : w < 2 := by omega
    have hw4 : wcode w = nI (4 + w) ∧ ¬ wcode w = 6 ∧ ¬ wcode w = 7 := by
      have : ∀ w, w < 2 → wcode w = nI (4 + w) ∧ ¬ wcode w = 6 ∧ ¬ wcode w = 7 := by decide
      exact this w wlt
    rw [if_neg hw4.2.1, if_neg hw4.2.2, if_neg (show ¬ 2 ≤ w by omega)]
    rcases C_rd T1 h3 nb.2.2 (c := 32) (by omega) with ⟨s1, m4, s2, h4⟩ | ⟨s1, s2⟩
    case inr =>
      rw [s2, if_neg (by rw [s1]; decide)]
      exact ⟨m3, Sg, s, l, rfl, X3, nb.2.2⟩
    have hs := rdB_t s1
    rw [s2, if_pos s1]
    simp only [Option.bind_some, if_neg (show ¬ (1 : Int32) = 0 by decide)]
    have hE := (C_e8 T1).2 0 (q2 + 1) m4 Sg (by omega) (by omega) hs.1 (by omega) h4
    have hO := e_ok (T := T) (len := len) 8 0 (q2 + 1) hs.1
    have hH := e_h (T := T) (len := len) 8 0 (q2 + 1) 0 (by omega) (by omega)
    cases he : eP T len 8 0 (q2 + 1) with
    | inl q3 =>
      rw [he] at hE hO
      obtain ⟨m5, S5, t1, t2⟩ := hE
      rw [show (0 : Int32) = nI 0 from rfl, t1]
      exact ⟨m5, S5, s, l, rfl, C_XS h t2, hO.2⟩
    | inr r =>
      obtain ⟨q3, ts⟩ := r
      rw [he] at hE hO hH
      obtain ⟨m5, t1, t2⟩ := hE
      unfold okR at hO
      unfold hgR at hH
      simp only [] at hO hH ⊢
      rw [show (0 : Int32) = nI 0 from rfl, t1]
      simp only [Option.bind_some]
      rw [if_neg (show ¬ (1 : Int32) = nI 0 by decide)]
      unfold fH_clause
      simp only [Option.bind_some]
      rw [hw4.1, clauT w wlt n nb.1]
      obtain ⟨m6, k1, k2⟩ := C_kep t2 (by rw [List.length_append, List.length_map]; omega) (nI (4 + w + 8 * n))
      rw [k1]
      have e : flat [((w, n, ts) : Cla)] = ts.map cT ++ [nI (4 + w + 8 * n)] := by
        show (if w < 2 then ts.map cT ++ [nI (4 + w + 8 * n)] else []) ++ [] = _
        rw [if_pos wlt, List.append_nil]
      have el : (Sg ++ flat [((w, n, ts) : Cla)]).length = Sg.length + ts.length + 1 := by rw [e]; simp; omega
      refine ⟨m6, rfl, ?_, by omega, by omega, by rw [el]; omega, ⟨by show w < 4; omega, nb.1, fun _ => hH⟩⟩
      rw [if_neg (show ¬ w = 2 from w2), if_neg (show ¬ w = 3 from w3), e, ← List.append_assoc]
      exact C_XS h k2
theorem flat_c (c : Cla) (cs : List Cla) : flat (c :: cs) = flat [c] ++ flat cs := by
  show _ ++ flat cs = (_ ++ []) ++ flat cs
  rw [List.append_nil]
theorem C_tx (hT : CT m0 T len) (h0 : m0.1 43 0 = nI len) : ∀ (g v f p : Nat) (m : MI) (Sg : List Int32) (s l : Nat), v + g = 11 → g < f → 1 ≤ v → 0 < g → p ≤ len → Sg.length ≤ p → XS m0 m p Sg s l → match txP T len g p with
    | .inl q => ∃ m' Sg' s' l', fP_readsAll_l32 (fun m8 _ => some (0, m8)) f m (nI v) = some (0, m') ∧ XS m0 m' q Sg' s' l' ∧ q ≤ len
    | .inr (q, cs) => ∃ m', fP_readsAll_l32 (fun m8 _ => some (0, m8)) f m (nI v) = some (1, m') ∧ XS m0 m' q (Sg ++ flat cs) (lastN cs 2 s) (lastN cs 3 l) ∧ (Sg ++ flat cs).length + 1 ≤ len ∧ (∀ c ∈ cs, claOK c) ∧ cs.length ≤ g := by
  have hlen := hT.1
  intro g
  induction g with
  | zero => intro v f p m Sg s l _ _ _ h; exact absurd h (by omega)
  | succ g ih =>
    intro v f p m Sg s l hv hf hv1 hg hp hl h
    obtain ⟨f', rfl, hf'⟩ := fu hf
    have hc := C_cla hT h hp hl
    unfold txP
    rw [fP_readsAll_l32, if_neg (show ¬ (10 : Int32) < nI v from nI_nlt (a := 10) (by omega) (by omega))]
    cases he : claP T len p with
    | inl q =>
      rw [he] at hc
      obtain ⟨m1, S1, s1, l1, a1, a2, a3⟩ := hc
      rw [a1]
      exact ⟨m1, S1, s1, l1, rfl, a2, a3⟩
    | inr r =>
      obtain ⟨q, c⟩ := r
      rw [he] at hc
      obtain ⟨m1, a1, a2, a3, a4, a5, a6⟩ := hc
      rw [a1]
      simp only [Option.bind_some, if_neg (show ¬ (1 : Int32) = 0 by decide), a2.2.2.2.2.2.1, a2.2.2.1, h0]
      by_cases c1 : q = len
      · rw [if_pos c1, if_pos (show nI q = nI len by rw [c1])]
        refine ⟨m1, rfl, a2, by rw [← c1]; exact a5, fun c' hc' => ?_, by simp⟩
        rw [List.mem_singleton.mp hc']
        exact a6
      rw [if_neg c1, if_neg (fun e => c1 ((nI_eq (by omega) (by omega)).mp e))]
      by_cases c2 : g = 0
      · rw [if_pos c2, if_pos (show nI v = 10 by rw [show v = 10 by omega]; rfl)]
        exact ⟨m1, _, _, _, rfl, a2, a4⟩
      rw [if_neg c2, if_neg (show ¬ nI v = 10 from fun e => c2 (by have := (nI_eq (b := 10) (by omega) (by omega)).mp e; omega))]
      rcases C_rd (XS_T hT a2) (XS_C a2) a4 (c := 59) (by omega) with ⟨r1, m2, r2, h2⟩ | ⟨r1, r2⟩
      · have hr := rdB_t r1
        rw [show (59 : Int32) = nI 59 from rfl, r2, if_pos r1]
        simp only [Option.bind_some, if_neg (show ¬ (1 : Int32) = 0 by decide), lt, nI_1]
        have hi := ih (v + 1) f' (q + 1) m2 (Sg ++ flat [c]) _ _ (by omega) (hf' g rfl) (by omega) (by omega) hr.1 (by omega) (C_XS a2 h2)
        cases ht : txP T len g (q + 1) with
        | inl q' =>
          rw [ht] at hi
          exact hi
        | inr r =>
          obtain ⟨q', cs⟩ := r
          rw [ht] at hi
          obtain ⟨m3, b1, b2, b3, b4, b5⟩ := hi
          refine ⟨m3, b1, ?_, ?_, fun c' hc' => ?_, by rw [List.length_cons]; omega⟩
          · rw [flat_c, ← List.append_assoc]
            exact b2
          · rw [flat_c, ← List.append_assoc]; exact b3
          · rcases List.mem_cons.mp hc' with rfl | hc'
            · exact a6
            · exact b4 c' hc'
      · rw [show (59 : Int32) = nI 59 from rfl, r2, if_neg (by rw [r1]; decide)]
        exact ⟨m1, _, _, _, rfl, a2, a4⟩
end PC
