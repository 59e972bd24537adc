/-! THE SAME ANSWERS: draws that the reference only tries -/
def mS (m : MI) (s l q : Int32) (Z : Nat → Int32) : MI := mI (mI m 61 (upd (upd (upd (m.1 61) 2 s) 3 l) 4 q)) 64 Z
theorem mS_o {m : MI} {s l q : Int32} {Z : Nat → Int32} {k : Nat} (h : k ≠ 61) (h2 : k ≠ 64) : (mS m s l q Z).1 k = m.1 k := by unfold mS; rw [mI_n h2, mI_n h]
theorem mS_61 {m : MI} {s l q : Int32} {Z : Nat → Int32} : (mS m s l q Z).1 61 = upd (upd (upd (m.1 61) 2 s) 3 l) 4 q := by unfold mS; rw [mI_n (by decide), mI_s]
theorem mS_64 {m : MI} {s l q : Int32} {Z : Nat → Int32} : (mS m s l q Z).1 64 = Z := by unfold mS; rw [mI_s]
theorem pj_fld2 {m m' : MI} {k j : Nat} {x : Int32} (e : pj m' = pj m) : pj (mI m' k (upd (m'.1 k) j x)) = pj (mI m k (upd (m.1 k) j x)) := by
  refine Prod.ext (funext fun k' => funext fun i => ?_) (show (pj m').2 = (pj m).2 from congrArg Prod.snd e)
  show (if scr k' i = true then 0 else _) = (if scr k' i = true then 0 else _)
  by_cases c : scr k' i = true
  · rw [if_pos c, if_pos c]
  · rw [if_neg c, if_neg c]
    by_cases ek : k' = k
    · subst ek
      rw [mI_s, mI_s]
      by_cases ei : i = j
      · subst ei; rw [upd_s, upd_s]
      · rw [upd_n ei, upd_n ei]; exact pj_at e (by simpa using c)
    · rw [mI_n ek, mI_n ek]; exact pj_at e (by simpa using c)
theorem mS_2 {m : MI} {s l q x : Int32} {Z : Nat → Int32} : mI (mS m s l q Z) 61 (upd ((mS m s l q Z).1 61) 2 x) = mS m x l q Z := by
  rw [mS_61]
  unfold mS
  rw [mI_cm (by decide), mI_mI]
  congr 2
  funext i
  by_cases h4 : i = 4
  · subst h4; rfl
  · by_cases h3 : i = 3
    · subst h3; rfl
    · by_cases h2 : i = 2
      · subst h2; rfl
      · rw [upd_n h2, upd_n h4, upd_n h3, upd_n h2, upd_n h4, upd_n h3, upd_n h2]
theorem mS_3 {m : MI} {s l q x : Int32} {Z : Nat → Int32} : mI (mS m s l q Z) 61 (upd ((mS m s l q Z).1 61) 3 x) = mS m s x q Z := by
  rw [mS_61]
  unfold mS
  rw [mI_cm (by decide), mI_mI]
  congr 2
  funext i
  by_cases h4 : i = 4
  · subst h4; rfl
  · by_cases h3 : i = 3
    · subst h3; rfl
    · rw [upd_n h3, upd_n h4, upd_n h3, upd_n h4, upd_n h3]
theorem mS_4 {m : MI} {s l q x : Int32} {Z : Nat → Int32} : mI (mS m s l q Z) 61 (upd ((mS m s l q Z).1 61) 4 x) = mS m s l x Z := by
  rw [mS_61]
  unfold mS
  rw [mI_cm (by decide), mI_mI, upd_upd]
