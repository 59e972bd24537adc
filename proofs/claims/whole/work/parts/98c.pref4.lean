/-! READING A HUT: the reference, clauses, the text -/
def at13 (m : MI) (q : Nat) : MI := mI m 61 (upd (m.1 61) 13 (nI q))
theorem at13_at (m : MI) (p q : Nat) : at13 (at13 m p) q = at13 m q := by unfold at13; rw [mI_s, mI_mI, upd_upd]
theorem at13_id {m : MI} {p : Nat} (h : m.1 61 13 = nI p) : at13 m p = m := by
  unfold at13
  rw [← h, show upd (m.1 61) 13 (m.1 61 13) = m.1 61 from upd_id, mI_id]
theorem at13_v (m : MI) (q : Nat) : (at13 m q).1 61 13 = nI q := by unfold at13; rw [mI_s, upd_s]
section RX
variable {m0 m : MI} {c b p o : Nat} {T : Nat → Nat} {len : Nat}
theorem RT_13 (hT : RT m T len) (q : Nat) : RT (at13 m q) T len := ⟨hT.1, fun i hi => by unfold at13; rw [mI_n (by decide)]; exact hT.2.1 i hi, by unfold at13; rw [mI_s, upd_n (by decide)]; exact hT.2.2⟩
theorem wdP_app {x : Nat} : ∀ (bs : List Nat) (p : Nat), wdP T len (bs ++ [x]) p = match wdP T len bs p with
    | .inl q => .inl q
    | .inr q => if rdB T len q x = true then .inr (q + 1) else .inl q
  | [], p => rfl
  | b :: bs, p => by
    show (if rdB T len p b = true then wdP T len (bs ++ [x]) (p + 1) else .inl p) = match (if rdB T len p b = true then wdP T len bs (p + 1) else .inl p) with
      | .inl q => .inl q
      | .inr q => if rdB T len q x = true then .inr (q + 1) else .inl q
    by_cases c : rdB T len p b = true
    · rw [if_pos c, if_pos c]; exact wdP_app bs (p + 1)
    · rw [if_neg c, if_neg c]
def tagW (w : Nat) (r : Nat ⊕ Nat) : Nat ⊕ (Nat × Nat) := match r with
  | .inl q => .inl q
  | .inr q => .inr (q, w)
def hdQ (T : Nat → Nat) (len p : Nat) : Nat ⊕ (Nat × Nat) :=
  if rdB T len p 108 = true then tagW 0 (wdP T len [108, 101, 97, 110, 32] p)
  else if rdB T len p 109 = true then tagW 3 (wdP T len [109, 111, 114, 101, 32] p)
  else if rdB T len (p + 1) 104 = true ∧ rdB T len (p + 2) 111 = true then tagW 2 (wdP T len [115, 104, 111, 114, 116, 32] p)
  else tagW 1 (wdP T len [115, 104, 121, 32] p)
theorem hdQ_eq (p : Nat) : hdQ T len p = match hdP T len p with
    | .inl q => .inl q
    | .inr (q, w) => if rdB T len q 32 = true then .inr (q + 1, w) else .inl q := by
  unfold hdQ hdP
  by_cases c1 : rdB T len p 108 = true
  · rw [if_pos c1, if_pos c1, show ([108, 101, 97, 110, 32] : List Nat) = [108, 101, 97, 110] ++ [32] from rfl, wdP_app]
    cases wdP T len [108, 101, 97, 110] p with
    | inl q => rfl
    | inr q =>
      simp only []
      by_cases d : rdB T len q 32 = true
      · rw [if_pos d, if_pos d]; rfl
      · rw [if_neg d, if_neg d]; rfl
  rw [if_neg c1, if_neg c1]
  by_cases c2 : rdB T len p 109 = true
  · rw [if_pos c2, if_pos c2, show ([109, 111, 114, 101, 32] : List Nat) = [109, 111, 114, 101] ++ [32] from rfl, wdP_app]
    cases wdP T len [109, 111, 114, 101] p with
    | inl q => rfl
    | inr q =>
      simp only []
      by_cases d : rdB T len q 32 = true
      · rw [if_pos d, if_pos d]; rfl
      · rw [if_neg d, if_neg d]; rfl
  rw [if_neg c2, if_neg c2]
  by_cases s1 : rdB T len p 115 = true
  · by_cases h1 : rdB T len (p + 1) 104 = true
    · by_cases y1 : rdB T len (p + 2) 121 = true
      · have o1 : ¬ rdB T len (p + 2) 111 = true := fun q => by
          have := (rdB_t q).2
          have := (rdB_t y1).2
          omega
        rw [if_neg (fun q => o1 q.2)]
        simp only [wdP, s1, h1, y1, if_true]
        by_cases d : rdB T len (p + 2 + 1) 32 = true
        · simp only [show p + 1 + 1 = p + 2 from rfl, d, y1, if_true]; rfl
        · simp only [show p + 1 + 1 = p + 2 from rfl, y1, if_true, if_neg d]; rfl
      · by_cases o1 : rdB T len (p + 2) 111 = true
        · rw [if_pos ⟨h1, o1⟩, show ([115, 104, 111, 114, 116, 32] : List Nat) = [115, 104, 111, 114, 116] ++ [32] from rfl, wdP_app]
          have e : wdP T len [115, 104, 111, 114, 116] p = wdP T len [111, 114, 116] (p + 2) := by
            show (if rdB T len p 115 = true then (if rdB T len (p + 1) 104 = true then wdP T len [111, 114, 116] (p + 2) else .inl (p + 1)) else .inl p) = _
            rw [if_pos s1, if_pos h1]
          have e2 : wdP T len [115, 104] p = .inr (p + 2) := by
            show (if rdB T len p 115 = true then (if rdB T len (p + 1) 104 = true then (.inr (p + 2) : Nat ⊕ Nat) else .inl (p + 1)) else .inl p) = _
            rw [if_pos s1, if_pos h1]
          rw [e, e2]
          simp only [if_neg y1]
          cases wdP T len [111, 114, 116] (p + 2) with
          | inl q => rfl
          | inr q =>
            simp only []
            by_cases d : rdB T len q 32 = true
            · rw [if_pos d, if_pos d]; rfl
            · rw [if_neg d, if_neg d]; rfl
        · rw [if_neg (fun q => o1 q.2)]
          have e2 : wdP T len [115, 104] p = .inr (p + 2) := by
            show (if rdB T len p 115 = true then (if rdB T len (p + 1) 104 = true then (.inr (p + 2) : Nat ⊕ Nat) else .inl (p + 1)) else .inl p) = _
            rw [if_pos s1, if_pos h1]
          rw [e2]
          simp only [if_neg y1]
          have e3 : wdP T len [111, 114, 116] (p + 2) = .inl (p + 2) := by
            rw [wdP, if_neg o1]
          have e4 : wdP T len [115, 104, 121, 32] p = .inl (p + 2) := by
            rw [wdP, if_pos s1, wdP, if_pos h1, wdP, if_neg y1]
          rw [e3, e4]
          rfl
    · rw [if_neg (fun q => h1 q.1)]
      have e2 : wdP T len [115, 104] p = .inl (p + 1) := by
        rw [wdP, if_pos s1, wdP, if_neg h1]
      have e4 : wdP T len [115, 104, 121, 32] p = .inl (p + 1) := by
        rw [wdP, if_pos s1, wdP, if_neg h1]
      rw [e2, e4]; rfl
  · have e2 : wdP T len [115, 104] p = .inl p := by
      rw [wdP, if_neg s1]
    have e4 : wdP T len [115, 104, 121, 32] p = .inl p := by
      rw [wdP, if_neg s1]
    have e5 : wdP T len [115, 104, 111, 114, 116, 32] p = .inl p := by
      rw [wdP, if_neg s1]
    rw [e2, e4, e5]
    split <;> rfl
/-- a word of the reference -/
theorem R_wd {a n : Nat} {bs : List Nat} (hbs : bs.length = n) (hb7 : ∀ j, j < n → bs.getD j 0 ≤ 127) (han : a + n ≤ 16) : ∀ (q k f : Nat) (m : MI) (p : Nat), k + q = n → q < f → p ≤ len → RT m T len → m.1 61 13 = nI p → (∀ j, j < n → m.1 75 (a + j) = nI (bs.getD j 0)) → fM_takesWord_l2 (nI a) (nI n) (fun m2 z1 => (fM_takes m2 32).bind fun r3 => if zb r3.1 = true then some (r3.1, r3.2) else none) f m (nI k) = match wdP T len (bs.drop k ++ [32]) p with
    | .inl q => some (0, at13 m q)
    | .inr q => some (1, at13 m q) := by
  intro q
  induction q with
  | zero =>
    intro k f m p hk hf hp hT h13 h75
    obtain ⟨f', rfl, -⟩ := fu hf
    rw [fM_takesWord_l2, if_pos (nI_le (by omega) (by omega)), List.drop_eq_nil_of_le (by omega), show (32 : Int32) = nI 32 from rfl, R_tk hT h13 hp (by omega)]
    rw [List.nil_append, wdP, wdP]
    by_cases d : rdB T len p 32 = true
    · rw [if_pos d, if_pos d]
      simp only [Option.bind_some]
      rw [if_pos (by decide)]
      rfl
    · rw [if_neg d, if_neg d]
      simp only [Option.bind_some]
      rw [if_pos (by decide), at13_id h13]
  | succ q ih =>
    intro k f m p hk hf hp hT h13 h75
    obtain ⟨f', rfl, hf'⟩ := fu hf
    have hd : bs.drop k = bs.getD k 0 :: bs.drop (k + 1) := by
      rw [List.drop_eq_getElem_cons (show k < bs.length by omega)]
      congr 1
      rw [List.getD_eq_getElem?_getD, List.getElem?_eq_getElem (show k < bs.length by omega)]; rfl
    rw [fM_takesWord_l2, if_neg (not_le_nI (by omega) (by omega)), nI_add, if_pos (ck_nI (by omega) (by omega)), cl_nI (by omega), h75 k (by omega), R_tk hT h13 hp (hb7 k (by omega)), hd]
    rw [List.cons_append, wdP]
    by_cases d : rdB T len p (bs.getD k 0) = true
    · rw [if_pos d, if_pos d]
      simp only [Option.bind_some, if_neg (show ¬ (1 : Int32) = 0 by decide), lt, nI_1]
      have hi := ih (k + 1) f' (at13 m (p + 1)) (p + 1) (by omega) (hf' q rfl) (rdB_t d).1 (RT_13 hT _) (at13_v m _) (fun j hj => by unfold at13; rw [mI_n (by decide)]; exact h75 j hj)
      refine Eq.trans hi ?_
      cases wdP T len (bs.drop (k + 1) ++ [32]) (p + 1) with
      | inl q => simp only [at13_at]
      | inr q => simp only [at13_at]
    · rw [if_neg d, if_neg d]
      simp only [Option.bind_some, if_true, at13_id h13]
theorem R_word {a n : Nat} {bs : List Nat} (hbs : bs.length = n) (hb7 : ∀ j, j < n → bs.getD j 0 ≤ 127) (han : a + n ≤ 16) (hp : p ≤ len) (hT : RT m T len) (h13 : m.1 61 13 = nI p) (h75 : ∀ i, i < 16 → m.1 75 i = letT.getD i 0) (hle : ∀ j, j < n → letT.getD (a + j) 0 = nI (bs.getD j 0)) : fM_takesWord m (nI a) (nI n) = match wdP T len (bs ++ [32]) p with
    | .inl q => some (0, at13 m q)
    | .inr q => some (1, at13 m q) := by
  obtain ⟨F, hF1⟩ : ∃ F : Nat, F = 1000 := ⟨_, rfl⟩
  unfold fM_takesWord
  rw [← hF1]
  exact R_wd hbs hb7 han n 0 F m p (by omega) (by omega) hp hT h13 (fun j hj => by rw [h75 (a + j) (by omega), hle j hj])
theorem R_p1 (hT : RT m T len) (h13 : m.1 61 13 = nI p) (hp : p ≤ len) : fM_second m = some (nxB T len (p + 1), m) := by
  have := hT.1
  unfold fM_second nxB
  rw [hT.2.2, h13, nI_1]
  by_cases d : p + 1 < len
  · rw [if_neg (not_le_nI d (by omega)), if_pos (ck_nI (by omega) (by omega)), cl_nI (by omega), (hT.2.1 _ d).2, if_pos d]
  · rw [if_pos (nI_le (by omega) (by omega)), if_neg d]
theorem R_p2 (hT : RT m T len) (h13 : m.1 61 13 = nI p) (hp : p ≤ len) : fM_third m = some (nxB T len (p + 2), m) := by
  have := hT.1
  unfold fM_third nxB
  rw [hT.2.2, h13, show nI p + 2 = nI (p + 2) from nI_add p 2]
  by_cases d : p + 2 < len
  · rw [if_neg (not_le_nI d (by omega)), if_pos (ck_nI (by omega) (by omega)), cl_nI (by omega), (hT.2.1 _ d).2, if_pos d]
  · rw [if_pos (nI_le (by omega) (by omega)), if_neg d]
def put69 (m : MI) (a w : Nat) : MI := mI m 69 (upd (m.1 69) a (nI w))
theorem R_hd {a : Nat} (ha : a < 60) (hT : RT m T len) (h13 : m.1 61 13 = nI p) (hp : p ≤ len) (h75 : ∀ i, i < 16 → m.1 75 i = letT.getD i 0) : match hdQ T len p with
    | .inl q => ∃ w, fM_takesHead m (nI a) = some (0, at13 (put69 m a w) q)
    | .inr (q, w) => fM_takesHead m (nI a) = some (1, at13 (put69 m a w) q) := by
  have cka : ck (nI a) 60 = true := ck_nI ha (by omega)
  have cla := cl_nI (show a < 100000 by omega)
  have P13 : ∀ w, (put69 m a w).1 61 13 = nI p := fun w => by unfold put69; rw [mI_n (by decide)]; exact h13
  have PT : ∀ w, RT (put69 m a w) T len := fun w => ⟨hT.1, fun i hi => by unfold put69; rw [mI_n (by decide)]; exact hT.2.1 i hi, by unfold put69; rw [mI_n (by decide)]; exact hT.2.2⟩
  have P75 : ∀ w, ∀ i, i < 16 → (put69 m a w).1 75 i = letT.getD i 0 := fun w i hi => by unfold put69; rw [mI_n (by decide)]; exact h75 i hi
  have P69 : ∀ w, (put69 m a w).1 69 a = nI w := fun w => by unfold put69; rw [mI_s, upd_s]
  have w0 : fM_takesWord (put69 m a 0) 0 4 = _ := R_word (a := 0) (n := 4) (bs := [108, 101, 97, 110]) rfl (by decide) (by omega) hp (PT 0) (P13 0) (P75 0) (by decide)
  have w3 : fM_takesWord (put69 m a 3) 12 4 = _ := R_word (a := 12) (n := 4) (bs := [109, 111, 114, 101]) rfl (by decide) (by omega) hp (PT 3) (P13 3) (P75 3) (by decide)
  have w2 : fM_takesWord (put69 m a 2) 7 5 = _ := R_word (a := 7) (n := 5) (bs := [115, 104, 111, 114, 116]) rfl (by decide) (by omega) hp (PT 2) (P13 2) (P75 2) (by decide)
  have w1 : fM_takesWord (put69 m a 1) 4 3 = _ := R_word (a := 4) (n := 3) (bs := [115, 104, 121]) rfl (by decide) (by omega) hp (PT 1) (P13 1) (P75 1) (by decide)
  -- a word's answer, as the head's
  have fin : ∀ (w : Nat) (r : Nat ⊕ Nat) (X : Option (Int32 × MI)), X = (match r with | .inl q => some (0, at13 (put69 m a w) q) | .inr q => some (1, at13 (put69 m a w) q)) → match tagW w r with
      | .inl q => ∃ w, (X.bind fun r5 => if zb r5.1 = true then some (r5.1, r5.2) else none) = some (0, at13 (put69 m a w) q)
      | .inr (q, w) => (X.bind fun r5 => if zb r5.1 = true then some (r5.1, r5.2) else none) = some (1, at13 (put69 m a w) q) := fun w r X e => by
    subst e
    cases r with
    | inl q => exact ⟨w, rfl⟩
    | inr q => rfl
  unfold fM_takesHead hdQ
  rw [R_nx hT h13 hp]
  simp only [Option.bind_some]
  by_cases c1 : rdB T len p 108 = true
  · rw [if_pos c1, if_pos (show nxB T len p = 108 from (nxB_eq hT (c := 108) (by omega)).mpr c1), if_pos cka, cla]
    simp only [lm]
    exact fin 0 _ _ w0
  rw [if_neg c1, if_neg (show ¬ nxB T len p = 108 from fun q => c1 ((nxB_eq hT (c := 108) (by omega)).mp q))]
  by_cases c2 : rdB T len p 109 = true
  · rw [if_pos c2, if_pos (show nxB T len p = 109 from (nxB_eq hT (c := 109) (by omega)).mpr c2), if_pos cka, cla]
    simp only [lm]
    exact fin 3 _ _ w3
  rw [if_neg c2, if_neg (show ¬ nxB T len p = 109 from fun q => c2 ((nxB_eq hT (c := 109) (by omega)).mp q)), R_p1 hT h13 hp]
  simp only [Option.bind_some]
  have shy : ∀ Y : Option (Int32 × MI), Y = (if ck (nI a) 60 = true then lm (mI m 69 (upd (m.1 69) (nI a).toNatClampNeg 1)) fun m25 => if ck (nI a) 60 = true then if m25.1 69 (nI a).toNatClampNeg = 2 then (fM_takesWord m25 7 5).bind fun r28 => if zb r28.1 = true then some (r28.1, r28.2) else none else (fM_takesWord m25 4 3).bind fun r30 => if zb r30.1 = true then some (r30.1, r30.2) else none else none else none) → Y = (fM_takesWord (put69 m a 1) 4 3).bind fun r5 => if zb r5.1 = true then some (r5.1, r5.2) else none := fun Y e => by
    rw [e, if_pos cka, cla]
    simp only [lm]
    rw [if_pos cka, show mI m 69 (upd (m.1 69) a 1) = put69 m a 1 from rfl, P69 1, if_neg (show ¬ nI 1 = 2 by decide)]
  by_cases h1 : rdB T len (p + 1) 104 = true
  · rw [if_pos (show nxB T len (p + 1) = 104 from (nxB_eq hT (c := 104) (by omega)).mpr h1), R_p2 hT h13 hp]
    simp only [Option.bind_some]
    by_cases o1 : rdB T len (p + 2) 111 = true
    · rw [if_pos ⟨h1, o1⟩, if_pos (show nxB T len (p + 2) = 111 from (nxB_eq hT (c := 111) (by omega)).mpr o1), if_pos cka, cla]
      simp only [lm]
      rw [if_pos cka, show mI m 69 (upd (m.1 69) a 2) = put69 m a 2 from rfl, P69 2, if_pos (show nI 2 = 2 from rfl)]
      exact fin 2 _ _ w2
    · rw [if_neg (fun q => o1 q.2), if_neg (show ¬ nxB T len (p + 2) = 111 from fun q => o1 ((nxB_eq hT (c := 111) (by omega)).mp q)), shy _ rfl]
      exact fin 1 _ _ w1
  · rw [if_neg (fun q => h1 q.1), if_neg (show ¬ nxB T len (p + 1) = 104 from fun q => h1 ((nxB_eq hT (c := 104) (by omega)).mp q)), shy _ rfl]
    exact fin 1 _ _ w1
end RX
