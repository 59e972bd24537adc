/-! THE SAME ANSWERS: act -/
/-- the rows of bodies with the first ones written -/
def wr (f : Nat → Int32) (l : List Int32) : Nat → Int32 := fun i => (l[i]?).getD (f i)
theorem wr_nil {f : Nat → Int32} : wr f [] = f := rfl
theorem wr_app {f : Nat → Int32} {l : List Int32} {w : Int32} : upd (wr f l) l.length w = wr f (l ++ [w]) := by
  funext i
  unfold wr
  by_cases e : i = l.length
  · subst e; rw [upd_s]; simp
  · rw [upd_n e]
    by_cases h : i < l.length
    · rw [List.getElem?_append_left h]
    · rw [List.getElem?_eq_none (by omega), List.getElem?_eq_none (by simp; omega)]
def stC (m : MI) (l : List Int32) : MI := mI (mI m 47 (wr (m.1 47) l)) 46 (upd (m.1 46) 0 (nI l.length))
def stM (m : MI) (l : List Int32) : MI := mI (mI m 94 (wr (m.1 94) l)) 61 (upd (m.1 61) 63 (nI l.length))
theorem mI_mI {m : MI} {k : Nat} {g g' : Nat → Int32} : mI (mI m k g) k g' = mI m k g' := by
  refine Prod.ext (funext fun k' => ?_) rfl
  by_cases e : k' = k
  · subst e; rw [mI_s, mI_s]
  · rw [mI_n e, mI_n e, mI_n e]
theorem mI_cm {m : MI} {k k2 : Nat} {g g' : Nat → Int32} (h : k ≠ k2) : mI (mI m k g) k2 g' = mI (mI m k2 g') k g := by
  refine Prod.ext (funext fun k' => ?_) rfl
  by_cases e : k' = k
  · subst e; rw [mI_n h, mI_s, mI_s]
  · by_cases e2 : k' = k2
    · subst e2; rw [mI_s, mI_n e, mI_s]
    · rw [mI_n e2, mI_n e, mI_n e, mI_n e2]
theorem upd_upd {f : Nat → Int32} {k : Nat} {x y : Int32} : upd (upd f k x) k y = upd f k y := by
  funext i
  by_cases e : i = k
  · subst e; rw [upd_s, upd_s]
  · rw [upd_n e, upd_n e, upd_n e]
theorem lt_20 {n : Nat} (h : n < 20) : ¬ (20 : Int32) ≤ nI n := not_le_nI (n := 20) h (by omega)
theorem C_kp {m : MI} {l : List Int32} {w : Int32} (h : l.length < 20) : fA_keep (stC m l) w = some (stC m (l ++ [w])) := by
  have e0 : (stC m l).1 46 0 = nI l.length := rfl
  unfold fA_keep
  rw [e0, if_neg (lt_20 h), if_pos (ck_nI h (by omega)), cl_nI (by omega)]
  simp only [lm]
  have e1 : (stC m l).1 47 = wr (m.1 47) l := by unfold stC; rw [mI_n (by decide), mI_s]
  have e2 : (stC m l).1 46 = upd (m.1 46) 0 (nI l.length) := rfl
  rw [e1, wr_app, mI_n (by decide), e2, upd_s, nI_1, upd_upd]
  unfold stC
  rw [mI_cm (by decide), mI_mI, mI_cm (by decide), mI_mI, List.length_append]
  rfl
theorem M_kp {m : MI} {l : List Int32} {w : Int32} (h : l.length < 20) : fM_body (stM m l) w = some (stM m (l ++ [w])) := by
  have e0 : (stM m l).1 61 63 = nI l.length := rfl
  unfold fM_body
  rw [e0, if_neg (lt_20 h), if_pos (ck_nI h (by omega)), cl_nI (by omega)]
  simp only [lm]
  have e1 : (stM m l).1 94 = wr (m.1 94) l := by unfold stM; rw [mI_n (by decide), mI_s]
  have e2 : (stM m l).1 61 = upd (m.1 61) 63 (nI l.length) := rfl
  rw [e1, wr_app, mI_n (by decide), e2, upd_s, nI_1, upd_upd]
  unfold stM
  rw [mI_cm (by decide), mI_mI, mI_cm (by decide), mI_mI, List.length_append]
  rfl
theorem stC_0 {m : MI} {h : m.1 46 0 = 0} : stC m [] = m := by
  refine Prod.ext (funext fun k => funext fun i => ?_) rfl
  unfold stC
  by_cases e : k = 46
  · subst e
    rw [mI_s]
    by_cases e2 : i = 0
    · subst e2; rw [upd_s, h]; rfl
    · rw [upd_n e2]
  · rw [mI_n e]
    by_cases e2 : k = 47
    · subst e2; rw [mI_s, wr_nil]
    · rw [mI_n e2]
theorem stM_0 {m : MI} {h : m.1 61 63 = 0} : stM m [] = m := by
  refine Prod.ext (funext fun k => funext fun i => ?_) rfl
  unfold stM
  by_cases e : k = 61
  · subst e
    rw [mI_s]
    by_cases e2 : i = 63
    · subst e2; rw [upd_s, h]; rfl
    · rw [upd_n e2]
  · rw [mI_n e]
    by_cases e2 : k = 94
    · subst e2; rw [mI_s, wr_nil]
    · rw [mI_n e2]
theorem stC_46 {m : MI} {l : List Int32} {j : Nat} (h : j ≠ 0) : (stC m l).1 46 j = m.1 46 j := by
  unfold stC
  rw [mI_s, upd_n h]
theorem stM_x {m : MI} {l : List Int32} {k : Nat} (h : k ≠ 61) (h2 : k ≠ 94) : (stM m l).1 k = m.1 k := by
  unfold stM
  rw [mI_n h, mI_n h2]
theorem C_rn {n : Nat} {m : MI} {l : List Int32} {cls act c w : Int32} {e : Nat} (hw : ∀ m', fA_bodyOf m' cls act = some (w, m')) (hl : l.length < 20) (he : e ≤ 20) : fA_runN (n + 1) (stC m l) cls act c (nI e) = fA_work (fA_runN n) (stC m (l ++ [w])) w c (nI (e + 1)) := by
  show fA_run (fA_runN n) (stC m l) cls act c (nI e) = _
  unfold fA_run
  rw [if_pos (show nI e ≤ 20 from nI_le (b := 20) he (by omega)), hw]
  simp only [Option.bind_some]
  rw [C_kp hl]
  simp only [Option.bind_some, nI_1]
  generalize fA_work (fA_runN n) (stC m (l ++ [w])) w c (nI (e + 1)) = z
  cases z with
  | none => rfl
  | some z => rfl
section AW
variable {rec : MI → Int32 → Int32 → Int32 → Int32 → Option (Int32 × MI)} {m : MI} {b c : Int32}
theorem aw_10 : fA_work rec m 10 b c = some (b + (m.1 46 2), m) := by
  unfold fA_work
  rfl
theorem aw_11 : fA_work rec m 11 b c = (rec m (m.1 46 3) (nI 0) b c).bind fun r3 => some (r3.1 - (r3.2.1 46 4), r3.2) := by
  unfold fA_work
  rfl
theorem aw_12 : fA_work rec m 12 b c = (rec m (m.1 46 3) (nI 1) b c).bind fun r5 => some (r5.1 * 2, r5.2) := by
  unfold fA_work
  rfl
theorem aw_20 : fA_work rec m 20 b c = (rec m (nI 0) (nI 1) b c).bind fun r7 => some (r7.1 ^^^ (6 : Int32), r7.2) := by
  unfold fA_work
  rfl
theorem aw_30 : fA_work rec m 30 b c = (rec m (nI 0) (nI 0) (b * 3) c).bind fun r9 => some (r9.1, r9.2) := by
  unfold fA_work
  rfl
theorem aw_40 : fA_work rec m 40 b c = (rec m (nI 0) (nI 2) b c).bind fun r11 => (rec r11.2 (r11.2.1 46 3) (nI 1) 1 c).bind fun r12 => some (r11.1 + r12.1, r12.2) := by
  unfold fA_work
  rfl
theorem aw_50 : fA_work rec m 50 b c = (rec m (nI 1) (nI 0) b c).bind fun r14 => some (-r14.1, r14.2) := by
  unfold fA_work
  rfl
theorem aw_51 : fA_work rec m 51 b c = (rec m (nI 1) (nI 1) (b + 1) c).bind fun r16 => some (r16.1, r16.2) := by
  unfold fA_work
  rfl
theorem aw_60 : fA_work rec m 60 b c = (rec m (nI 2) (nI 2) (b - (m.1 46 2)) c).bind fun r18 => some (r18.1, r18.2) := by
  unfold fA_work
  rfl
theorem aw_70 : fA_work rec m 70 b c = (rec m (nI 3) (nI 1) b c).bind fun r20 => (rec r20.2 (nI 3) (nI 0) 2 c).bind fun r21 => some (r20.1 + r21.1, r21.2) := by
  unfold fA_work
  rfl
theorem aw_71 : fA_work rec m 71 b c = (rec m (nI 3) (nI 0) b c).bind fun r23 => some (r23.1 ^^^ (r23.2.1 46 4), r23.2) := by
  unfold fA_work
  rfl
end AW
theorem cr_0_0 {n : Nat} {m : MI} {l : List Int32} {c : Int32} {e : Nat} (hl : l.length < 20) (he : e ≤ 20) : fA_runN (n + 1) (stC m l) (nI 0) (nI 0) c (nI e) = fA_work (fA_runN n) (stC m (l ++ [10])) 10 c (nI (e + 1)) := C_rn (fun _ => rfl) hl he
theorem cr_0_1 {n : Nat} {m : MI} {l : List Int32} {c : Int32} {e : Nat} (hl : l.length < 20) (he : e ≤ 20) : fA_runN (n + 1) (stC m l) (nI 0) (nI 1) c (nI e) = fA_work (fA_runN n) (stC m (l ++ [11])) 11 c (nI (e + 1)) := C_rn (fun _ => rfl) hl he
theorem cr_0_2 {n : Nat} {m : MI} {l : List Int32} {c : Int32} {e : Nat} (hl : l.length < 20) (he : e ≤ 20) : fA_runN (n + 1) (stC m l) (nI 0) (nI 2) c (nI e) = fA_work (fA_runN n) (stC m (l ++ [12])) 12 c (nI (e + 1)) := C_rn (fun _ => rfl) hl he
theorem cr_1_0 {n : Nat} {m : MI} {l : List Int32} {c : Int32} {e : Nat} (hl : l.length < 20) (he : e ≤ 20) : fA_runN (n + 1) (stC m l) (nI 1) (nI 0) c (nI e) = fA_work (fA_runN n) (stC m (l ++ [10])) 10 c (nI (e + 1)) := C_rn (fun _ => rfl) hl he
theorem cr_1_1 {n : Nat} {m : MI} {l : List Int32} {c : Int32} {e : Nat} (hl : l.length < 20) (he : e ≤ 20) : fA_runN (n + 1) (stC m l) (nI 1) (nI 1) c (nI e) = fA_work (fA_runN n) (stC m (l ++ [20])) 20 c (nI (e + 1)) := C_rn (fun _ => rfl) hl he
theorem cr_1_2 {n : Nat} {m : MI} {l : List Int32} {c : Int32} {e : Nat} (hl : l.length < 20) (he : e ≤ 20) : fA_runN (n + 1) (stC m l) (nI 1) (nI 2) c (nI e) = fA_work (fA_runN n) (stC m (l ++ [12])) 12 c (nI (e + 1)) := C_rn (fun _ => rfl) hl he
theorem cr_2_0 {n : Nat} {m : MI} {l : List Int32} {c : Int32} {e : Nat} (hl : l.length < 20) (he : e ≤ 20) : fA_runN (n + 1) (stC m l) (nI 2) (nI 0) c (nI e) = fA_work (fA_runN n) (stC m (l ++ [30])) 30 c (nI (e + 1)) := C_rn (fun _ => rfl) hl he
theorem cr_2_1 {n : Nat} {m : MI} {l : List Int32} {c : Int32} {e : Nat} (hl : l.length < 20) (he : e ≤ 20) : fA_runN (n + 1) (stC m l) (nI 2) (nI 1) c (nI e) = fA_work (fA_runN n) (stC m (l ++ [11])) 11 c (nI (e + 1)) := C_rn (fun _ => rfl) hl he
theorem cr_2_2 {n : Nat} {m : MI} {l : List Int32} {c : Int32} {e : Nat} (hl : l.length < 20) (he : e ≤ 20) : fA_runN (n + 1) (stC m l) (nI 2) (nI 2) c (nI e) = fA_work (fA_runN n) (stC m (l ++ [12])) 12 c (nI (e + 1)) := C_rn (fun _ => rfl) hl he
theorem cr_3_0 {n : Nat} {m : MI} {l : List Int32} {c : Int32} {e : Nat} (hl : l.length < 20) (he : e ≤ 20) : fA_runN (n + 1) (stC m l) (nI 3) (nI 0) c (nI e) = fA_work (fA_runN n) (stC m (l ++ [10])) 10 c (nI (e + 1)) := C_rn (fun _ => rfl) hl he
theorem cr_3_1 {n : Nat} {m : MI} {l : List Int32} {c : Int32} {e : Nat} (hl : l.length < 20) (he : e ≤ 20) : fA_runN (n + 1) (stC m l) (nI 3) (nI 1) c (nI e) = fA_work (fA_runN n) (stC m (l ++ [11])) 11 c (nI (e + 1)) := C_rn (fun _ => rfl) hl he
theorem cr_3_2 {n : Nat} {m : MI} {l : List Int32} {c : Int32} {e : Nat} (hl : l.length < 20) (he : e ≤ 20) : fA_runN (n + 1) (stC m l) (nI 3) (nI 2) c (nI e) = fA_work (fA_runN n) (stC m (l ++ [40])) 40 c (nI (e + 1)) := C_rn (fun _ => rfl) hl he
theorem cr_4_0 {n : Nat} {m : MI} {l : List Int32} {c : Int32} {e : Nat} (hl : l.length < 20) (he : e ≤ 20) : fA_runN (n + 1) (stC m l) (nI 4) (nI 0) c (nI e) = fA_work (fA_runN n) (stC m (l ++ [50])) 50 c (nI (e + 1)) := C_rn (fun _ => rfl) hl he
theorem cr_4_1 {n : Nat} {m : MI} {l : List Int32} {c : Int32} {e : Nat} (hl : l.length < 20) (he : e ≤ 20) : fA_runN (n + 1) (stC m l) (nI 4) (nI 1) c (nI e) = fA_work (fA_runN n) (stC m (l ++ [51])) 51 c (nI (e + 1)) := C_rn (fun _ => rfl) hl he
theorem cr_4_2 {n : Nat} {m : MI} {l : List Int32} {c : Int32} {e : Nat} (hl : l.length < 20) (he : e ≤ 20) : fA_runN (n + 1) (stC m l) (nI 4) (nI 2) c (nI e) = fA_work (fA_runN n) (stC m (l ++ [12])) 12 c (nI (e + 1)) := C_rn (fun _ => rfl) hl he
theorem cr_5_0 {n : Nat} {m : MI} {l : List Int32} {c : Int32} {e : Nat} (hl : l.length < 20) (he : e ≤ 20) : fA_runN (n + 1) (stC m l) (nI 5) (nI 0) c (nI e) = fA_work (fA_runN n) (stC m (l ++ [30])) 30 c (nI (e + 1)) := C_rn (fun _ => rfl) hl he
theorem cr_5_1 {n : Nat} {m : MI} {l : List Int32} {c : Int32} {e : Nat} (hl : l.length < 20) (he : e ≤ 20) : fA_runN (n + 1) (stC m l) (nI 5) (nI 1) c (nI e) = fA_work (fA_runN n) (stC m (l ++ [11])) 11 c (nI (e + 1)) := C_rn (fun _ => rfl) hl he
theorem cr_5_2 {n : Nat} {m : MI} {l : List Int32} {c : Int32} {e : Nat} (hl : l.length < 20) (he : e ≤ 20) : fA_runN (n + 1) (stC m l) (nI 5) (nI 2) c (nI e) = fA_work (fA_runN n) (stC m (l ++ [60])) 60 c (nI (e + 1)) := C_rn (fun _ => rfl) hl he
theorem cr_6_0 {n : Nat} {m : MI} {l : List Int32} {c : Int32} {e : Nat} (hl : l.length < 20) (he : e ≤ 20) : fA_runN (n + 1) (stC m l) (nI 6) (nI 0) c (nI e) = fA_work (fA_runN n) (stC m (l ++ [71])) 71 c (nI (e + 1)) := C_rn (fun _ => rfl) hl he
theorem cr_6_1 {n : Nat} {m : MI} {l : List Int32} {c : Int32} {e : Nat} (hl : l.length < 20) (he : e ≤ 20) : fA_runN (n + 1) (stC m l) (nI 6) (nI 1) c (nI e) = fA_work (fA_runN n) (stC m (l ++ [70])) 70 c (nI (e + 1)) := C_rn (fun _ => rfl) hl he
theorem cr_6_2 {n : Nat} {m : MI} {l : List Int32} {c : Int32} {e : Nat} (hl : l.length < 20) (he : e ≤ 20) : fA_runN (n + 1) (stC m l) (nI 6) (nI 2) c (nI e) = fA_work (fA_runN n) (stC m (l ++ [40])) 40 c (nI (e + 1)) := C_rn (fun _ => rfl) hl he
-- CHAINS
theorem sc2 {m : MI} {l : List Int32} : (stC m l).1 46 2 = m.1 46 2 := stC_46 (by decide)
theorem sc3 {m : MI} {l : List Int32} : (stC m l).1 46 3 = m.1 46 3 := stC_46 (by decide)
theorem sc4 {m : MI} {l : List Int32} : (stC m l).1 46 4 = m.1 46 4 := stC_46 (by decide)
theorem nqt {a b : Nat} (ha : a < 7) (hb : b < 7) : (nI a = nI b) = (a = b) := propext (nI_eq (by omega) (by omega))
theorem nq1 {a : Nat} (ha : a < 7) : (nI a = 1) = (a = 1) := nqt (b := 1) ha (by omega)
theorem nq2 {a : Nat} (ha : a < 7) : (nI a = 2) = (a = 2) := nqt (b := 2) ha (by omega)
theorem nq3 {a : Nat} (ha : a < 7) : (nI a = 3) = (a = 3) := nqt (b := 3) ha (by omega)
theorem nq4 {a : Nat} (ha : a < 7) : (nI a = 4) = (a = 4) := nqt (b := 4) ha (by omega)
theorem nq5 {a : Nat} (ha : a < 7) : (nI a = 5) = (a = 5) := nqt (b := 5) ha (by omega)
theorem nq6 {a : Nat} (ha : a < 7) : (nI a = 6) = (a = 6) := nqt (b := 6) ha (by omega)
theorem cact_0_0 {m : MI} {j : Nat} {v b : Int32} (h2 : m.1 46 2 = nI j) (h3 : m.1 46 3 = nI 0) (h4 : m.1 46 4 = v) : fA_runN 10 (stC m []) (nI 0) (nI 0) b (nI 0) = some ((b + nI j), stC m [10]) := by
  simp only [cr_0_0, cr_0_1, cr_0_2, cr_1_0, cr_1_1, cr_1_2, cr_2_0, cr_2_1, cr_2_2, cr_3_0, cr_3_1, cr_3_2, cr_4_0, cr_4_1, cr_4_2, cr_5_0, cr_5_1, cr_5_2, cr_6_0, cr_6_1, cr_6_2, aw_10, aw_11, aw_12, aw_20, aw_30, aw_40, aw_50, aw_51, aw_60, aw_70, aw_71, sc2, sc3, sc4, h2, h3, h4, Option.bind_some, List.nil_append, List.cons_append, List.length_cons, List.length_nil, Nat.reduceAdd, Nat.reduceLT, Nat.reduceLeDiff, Nat.zero_add, Nat.zero_le]
theorem mact_0_0 {m : MI} {j : Nat} {v b : Int32} (hj : ck (nI j) 6 = true) (hl : (nI j).toNatClampNeg = j) (h2 : m.1 62 j = nI 0) (h3 : m.1 63 j = v) : fM_drawsAct (stM m []) (nI j) b = some ((b + nI j), stM m [10]) := by
  simp only [fM_drawsAct, fM_showsAct, fM_tellsAct, fM_drawerDraws, fM_drawerShows, fM_keenShows, fM_drawerTells, M_kp, stM_x, h2, h3, hj, hl, nq1, nq2, nq3, nq4, nq5, nq6, if_true, if_false, Option.bind_some, List.nil_append, List.cons_append, List.length_cons, List.length_nil, Nat.reduceAdd, Nat.reduceLT, Nat.reduceEqDiff, ne_eq, not_false_eq_true]
theorem cact_0_1 {m : MI} {j : Nat} {v b : Int32} (h2 : m.1 46 2 = nI j) (h3 : m.1 46 3 = nI 0) (h4 : m.1 46 4 = v) : fA_runN 10 (stC m []) (nI 0) (nI 1) b (nI 0) = some (((b + nI j) - v), stC m [11, 10]) := by
  simp only [cr_0_0, cr_0_1, cr_0_2, cr_1_0, cr_1_1, cr_1_2, cr_2_0, cr_2_1, cr_2_2, cr_3_0, cr_3_1, cr_3_2, cr_4_0, cr_4_1, cr_4_2, cr_5_0, cr_5_1, cr_5_2, cr_6_0, cr_6_1, cr_6_2, aw_10, aw_11, aw_12, aw_20, aw_30, aw_40, aw_50, aw_51, aw_60, aw_70, aw_71, sc2, sc3, sc4, h2, h3, h4, Option.bind_some, List.nil_append, List.cons_append, List.length_cons, List.length_nil, Nat.reduceAdd, Nat.reduceLT, Nat.reduceLeDiff, Nat.zero_add, Nat.zero_le]
theorem mact_0_1 {m : MI} {j : Nat} {v b : Int32} (hj : ck (nI j) 6 = true) (hl : (nI j).toNatClampNeg = j) (h2 : m.1 62 j = nI 0) (h3 : m.1 63 j = v) : fM_showsAct (stM m []) (nI j) b = some (((b + nI j) - v), stM m [11, 10]) := by
  simp only [fM_drawsAct, fM_showsAct, fM_tellsAct, fM_drawerDraws, fM_drawerShows, fM_keenShows, fM_drawerTells, M_kp, stM_x, h2, h3, hj, hl, nq1, nq2, nq3, nq4, nq5, nq6, if_true, if_false, Option.bind_some, List.nil_append, List.cons_append, List.length_cons, List.length_nil, Nat.reduceAdd, Nat.reduceLT, Nat.reduceEqDiff, ne_eq, not_false_eq_true]
theorem cact_0_2 {m : MI} {j : Nat} {v b : Int32} (h2 : m.1 46 2 = nI j) (h3 : m.1 46 3 = nI 0) (h4 : m.1 46 4 = v) : fA_runN 10 (stC m []) (nI 0) (nI 2) b (nI 0) = some ((((b + nI j) - v) * 2), stC m [12, 11, 10]) := by
  simp only [cr_0_0, cr_0_1, cr_0_2, cr_1_0, cr_1_1, cr_1_2, cr_2_0, cr_2_1, cr_2_2, cr_3_0, cr_3_1, cr_3_2, cr_4_0, cr_4_1, cr_4_2, cr_5_0, cr_5_1, cr_5_2, cr_6_0, cr_6_1, cr_6_2, aw_10, aw_11, aw_12, aw_20, aw_30, aw_40, aw_50, aw_51, aw_60, aw_70, aw_71, sc2, sc3, sc4, h2, h3, h4, Option.bind_some, List.nil_append, List.cons_append, List.length_cons, List.length_nil, Nat.reduceAdd, Nat.reduceLT, Nat.reduceLeDiff, Nat.zero_add, Nat.zero_le]
theorem mact_0_2 {m : MI} {j : Nat} {v b : Int32} (hj : ck (nI j) 6 = true) (hl : (nI j).toNatClampNeg = j) (h2 : m.1 62 j = nI 0) (h3 : m.1 63 j = v) : fM_tellsAct (stM m []) (nI j) b = some ((((b + nI j) - v) * 2), stM m [12, 11, 10]) := by
  simp only [fM_drawsAct, fM_showsAct, fM_tellsAct, fM_drawerDraws, fM_drawerShows, fM_keenShows, fM_drawerTells, M_kp, stM_x, h2, h3, hj, hl, nq1, nq2, nq3, nq4, nq5, nq6, if_true, if_false, Option.bind_some, List.nil_append, List.cons_append, List.length_cons, List.length_nil, Nat.reduceAdd, Nat.reduceLT, Nat.reduceEqDiff, ne_eq, not_false_eq_true]
theorem cact_1_0 {m : MI} {j : Nat} {v b : Int32} (h2 : m.1 46 2 = nI j) (h3 : m.1 46 3 = nI 1) (h4 : m.1 46 4 = v) : fA_runN 10 (stC m []) (nI 1) (nI 0) b (nI 0) = some ((b + nI j), stC m [10]) := by
  simp only [cr_0_0, cr_0_1, cr_0_2, cr_1_0, cr_1_1, cr_1_2, cr_2_0, cr_2_1, cr_2_2, cr_3_0, cr_3_1, cr_3_2, cr_4_0, cr_4_1, cr_4_2, cr_5_0, cr_5_1, cr_5_2, cr_6_0, cr_6_1, cr_6_2, aw_10, aw_11, aw_12, aw_20, aw_30, aw_40, aw_50, aw_51, aw_60, aw_70, aw_71, sc2, sc3, sc4, h2, h3, h4, Option.bind_some, List.nil_append, List.cons_append, List.length_cons, List.length_nil, Nat.reduceAdd, Nat.reduceLT, Nat.reduceLeDiff, Nat.zero_add, Nat.zero_le]
theorem mact_1_0 {m : MI} {j : Nat} {v b : Int32} (hj : ck (nI j) 6 = true) (hl : (nI j).toNatClampNeg = j) (h2 : m.1 62 j = nI 1) (h3 : m.1 63 j = v) : fM_drawsAct (stM m []) (nI j) b = some ((b + nI j), stM m [10]) := by
  simp only [fM_drawsAct, fM_showsAct, fM_tellsAct, fM_drawerDraws, fM_drawerShows, fM_keenShows, fM_drawerTells, M_kp, stM_x, h2, h3, hj, hl, nq1, nq2, nq3, nq4, nq5, nq6, if_true, if_false, Option.bind_some, List.nil_append, List.cons_append, List.length_cons, List.length_nil, Nat.reduceAdd, Nat.reduceLT, Nat.reduceEqDiff, ne_eq, not_false_eq_true]
theorem cact_1_1 {m : MI} {j : Nat} {v b : Int32} (h2 : m.1 46 2 = nI j) (h3 : m.1 46 3 = nI 1) (h4 : m.1 46 4 = v) : fA_runN 10 (stC m []) (nI 1) (nI 1) b (nI 0) = some ((((b + nI j) - v) ^^^ (6 : Int32)), stC m [20, 11, 10]) := by
  simp only [cr_0_0, cr_0_1, cr_0_2, cr_1_0, cr_1_1, cr_1_2, cr_2_0, cr_2_1, cr_2_2, cr_3_0, cr_3_1, cr_3_2, cr_4_0, cr_4_1, cr_4_2, cr_5_0, cr_5_1, cr_5_2, cr_6_0, cr_6_1, cr_6_2, aw_10, aw_11, aw_12, aw_20, aw_30, aw_40, aw_50, aw_51, aw_60, aw_70, aw_71, sc2, sc3, sc4, h2, h3, h4, Option.bind_some, List.nil_append, List.cons_append, List.length_cons, List.length_nil, Nat.reduceAdd, Nat.reduceLT, Nat.reduceLeDiff, Nat.zero_add, Nat.zero_le]
theorem mact_1_1 {m : MI} {j : Nat} {v b : Int32} (hj : ck (nI j) 6 = true) (hl : (nI j).toNatClampNeg = j) (h2 : m.1 62 j = nI 1) (h3 : m.1 63 j = v) : fM_showsAct (stM m []) (nI j) b = some ((((b + nI j) - v) ^^^ (6 : Int32)), stM m [20, 11, 10]) := by
  simp only [fM_drawsAct, fM_showsAct, fM_tellsAct, fM_drawerDraws, fM_drawerShows, fM_keenShows, fM_drawerTells, M_kp, stM_x, h2, h3, hj, hl, nq1, nq2, nq3, nq4, nq5, nq6, if_true, if_false, Option.bind_some, List.nil_append, List.cons_append, List.length_cons, List.length_nil, Nat.reduceAdd, Nat.reduceLT, Nat.reduceEqDiff, ne_eq, not_false_eq_true]
theorem cact_1_2 {m : MI} {j : Nat} {v b : Int32} (h2 : m.1 46 2 = nI j) (h3 : m.1 46 3 = nI 1) (h4 : m.1 46 4 = v) : fA_runN 10 (stC m []) (nI 1) (nI 2) b (nI 0) = some (((((b + nI j) - v) ^^^ (6 : Int32)) * 2), stC m [12, 20, 11, 10]) := by
  simp only [cr_0_0, cr_0_1, cr_0_2, cr_1_0, cr_1_1, cr_1_2, cr_2_0, cr_2_1, cr_2_2, cr_3_0, cr_3_1, cr_3_2, cr_4_0, cr_4_1, cr_4_2, cr_5_0, cr_5_1, cr_5_2, cr_6_0, cr_6_1, cr_6_2, aw_10, aw_11, aw_12, aw_20, aw_30, aw_40, aw_50, aw_51, aw_60, aw_70, aw_71, sc2, sc3, sc4, h2, h3, h4, Option.bind_some, List.nil_append, List.cons_append, List.length_cons, List.length_nil, Nat.reduceAdd, Nat.reduceLT, Nat.reduceLeDiff, Nat.zero_add, Nat.zero_le]
theorem mact_1_2 {m : MI} {j : Nat} {v b : Int32} (hj : ck (nI j) 6 = true) (hl : (nI j).toNatClampNeg = j) (h2 : m.1 62 j = nI 1) (h3 : m.1 63 j = v) : fM_tellsAct (stM m []) (nI j) b = some (((((b + nI j) - v) ^^^ (6 : Int32)) * 2), stM m [12, 20, 11, 10]) := by
  simp only [fM_drawsAct, fM_showsAct, fM_tellsAct, fM_drawerDraws, fM_drawerShows, fM_keenShows, fM_drawerTells, M_kp, stM_x, h2, h3, hj, hl, nq1, nq2, nq3, nq4, nq5, nq6, if_true, if_false, Option.bind_some, List.nil_append, List.cons_append, List.length_cons, List.length_nil, Nat.reduceAdd, Nat.reduceLT, Nat.reduceEqDiff, ne_eq, not_false_eq_true]
theorem cact_2_0 {m : MI} {j : Nat} {v b : Int32} (h2 : m.1 46 2 = nI j) (h3 : m.1 46 3 = nI 2) (h4 : m.1 46 4 = v) : fA_runN 10 (stC m []) (nI 2) (nI 0) b (nI 0) = some (((b * 3) + nI j), stC m [30, 10]) := by
  simp only [cr_0_0, cr_0_1, cr_0_2, cr_1_0, cr_1_1, cr_1_2, cr_2_0, cr_2_1, cr_2_2, cr_3_0, cr_3_1, cr_3_2, cr_4_0, cr_4_1, cr_4_2, cr_5_0, cr_5_1, cr_5_2, cr_6_0, cr_6_1, cr_6_2, aw_10, aw_11, aw_12, aw_20, aw_30, aw_40, aw_50, aw_51, aw_60, aw_70, aw_71, sc2, sc3, sc4, h2, h3, h4, Option.bind_some, List.nil_append, List.cons_append, List.length_cons, List.length_nil, Nat.reduceAdd, Nat.reduceLT, Nat.reduceLeDiff, Nat.zero_add, Nat.zero_le]
theorem mact_2_0 {m : MI} {j : Nat} {v b : Int32} (hj : ck (nI j) 6 = true) (hl : (nI j).toNatClampNeg = j) (h2 : m.1 62 j = nI 2) (h3 : m.1 63 j = v) : fM_drawsAct (stM m []) (nI j) b = some (((b * 3) + nI j), stM m [30, 10]) := by
  simp only [fM_drawsAct, fM_showsAct, fM_tellsAct, fM_drawerDraws, fM_drawerShows, fM_keenShows, fM_drawerTells, M_kp, stM_x, h2, h3, hj, hl, nq1, nq2, nq3, nq4, nq5, nq6, if_true, if_false, Option.bind_some, List.nil_append, List.cons_append, List.length_cons, List.length_nil, Nat.reduceAdd, Nat.reduceLT, Nat.reduceEqDiff, ne_eq, not_false_eq_true]
theorem cact_2_1 {m : MI} {j : Nat} {v b : Int32} (h2 : m.1 46 2 = nI j) (h3 : m.1 46 3 = nI 2) (h4 : m.1 46 4 = v) : fA_runN 10 (stC m []) (nI 2) (nI 1) b (nI 0) = some ((((b * 3) + nI j) - v), stC m [11, 30, 10]) := by
  simp only [cr_0_0, cr_0_1, cr_0_2, cr_1_0, cr_1_1, cr_1_2, cr_2_0, cr_2_1, cr_2_2, cr_3_0, cr_3_1, cr_3_2, cr_4_0, cr_4_1, cr_4_2, cr_5_0, cr_5_1, cr_5_2, cr_6_0, cr_6_1, cr_6_2, aw_10, aw_11, aw_12, aw_20, aw_30, aw_40, aw_50, aw_51, aw_60, aw_70, aw_71, sc2, sc3, sc4, h2, h3, h4, Option.bind_some, List.nil_append, List.cons_append, List.length_cons, List.length_nil, Nat.reduceAdd, Nat.reduceLT, Nat.reduceLeDiff, Nat.zero_add, Nat.zero_le]
theorem mact_2_1 {m : MI} {j : Nat} {v b : Int32} (hj : ck (nI j) 6 = true) (hl : (nI j).toNatClampNeg = j) (h2 : m.1 62 j = nI 2) (h3 : m.1 63 j = v) : fM_showsAct (stM m []) (nI j) b = some ((((b * 3) + nI j) - v), stM m [11, 30, 10]) := by
  simp only [fM_drawsAct, fM_showsAct, fM_tellsAct, fM_drawerDraws, fM_drawerShows, fM_keenShows, fM_drawerTells, M_kp, stM_x, h2, h3, hj, hl, nq1, nq2, nq3, nq4, nq5, nq6, if_true, if_false, Option.bind_some, List.nil_append, List.cons_append, List.length_cons, List.length_nil, Nat.reduceAdd, Nat.reduceLT, Nat.reduceEqDiff, ne_eq, not_false_eq_true]
theorem cact_2_2 {m : MI} {j : Nat} {v b : Int32} (h2 : m.1 46 2 = nI j) (h3 : m.1 46 3 = nI 2) (h4 : m.1 46 4 = v) : fA_runN 10 (stC m []) (nI 2) (nI 2) b (nI 0) = some (((((b * 3) + nI j) - v) * 2), stC m [12, 11, 30, 10]) := by
  simp only [cr_0_0, cr_0_1, cr_0_2, cr_1_0, cr_1_1, cr_1_2, cr_2_0, cr_2_1, cr_2_2, cr_3_0, cr_3_1, cr_3_2, cr_4_0, cr_4_1, cr_4_2, cr_5_0, cr_5_1, cr_5_2, cr_6_0, cr_6_1, cr_6_2, aw_10, aw_11, aw_12, aw_20, aw_30, aw_40, aw_50, aw_51, aw_60, aw_70, aw_71, sc2, sc3, sc4, h2, h3, h4, Option.bind_some, List.nil_append, List.cons_append, List.length_cons, List.length_nil, Nat.reduceAdd, Nat.reduceLT, Nat.reduceLeDiff, Nat.zero_add, Nat.zero_le]
theorem mact_2_2 {m : MI} {j : Nat} {v b : Int32} (hj : ck (nI j) 6 = true) (hl : (nI j).toNatClampNeg = j) (h2 : m.1 62 j = nI 2) (h3 : m.1 63 j = v) : fM_tellsAct (stM m []) (nI j) b = some (((((b * 3) + nI j) - v) * 2), stM m [12, 11, 30, 10]) := by
  simp only [fM_drawsAct, fM_showsAct, fM_tellsAct, fM_drawerDraws, fM_drawerShows, fM_keenShows, fM_drawerTells, M_kp, stM_x, h2, h3, hj, hl, nq1, nq2, nq3, nq4, nq5, nq6, if_true, if_false, Option.bind_some, List.nil_append, List.cons_append, List.length_cons, List.length_nil, Nat.reduceAdd, Nat.reduceLT, Nat.reduceEqDiff, ne_eq, not_false_eq_true]
theorem cact_3_0 {m : MI} {j : Nat} {v b : Int32} (h2 : m.1 46 2 = nI j) (h3 : m.1 46 3 = nI 3) (h4 : m.1 46 4 = v) : fA_runN 10 (stC m []) (nI 3) (nI 0) b (nI 0) = some ((b + nI j), stC m [10]) := by
  simp only [cr_0_0, cr_0_1, cr_0_2, cr_1_0, cr_1_1, cr_1_2, cr_2_0, cr_2_1, cr_2_2, cr_3_0, cr_3_1, cr_3_2, cr_4_0, cr_4_1, cr_4_2, cr_5_0, cr_5_1, cr_5_2, cr_6_0, cr_6_1, cr_6_2, aw_10, aw_11, aw_12, aw_20, aw_30, aw_40, aw_50, aw_51, aw_60, aw_70, aw_71, sc2, sc3, sc4, h2, h3, h4, Option.bind_some, List.nil_append, List.cons_append, List.length_cons, List.length_nil, Nat.reduceAdd, Nat.reduceLT, Nat.reduceLeDiff, Nat.zero_add, Nat.zero_le]
theorem mact_3_0 {m : MI} {j : Nat} {v b : Int32} (hj : ck (nI j) 6 = true) (hl : (nI j).toNatClampNeg = j) (h2 : m.1 62 j = nI 3) (h3 : m.1 63 j = v) : fM_drawsAct (stM m []) (nI j) b = some ((b + nI j), stM m [10]) := by
  simp only [fM_drawsAct, fM_showsAct, fM_tellsAct, fM_drawerDraws, fM_drawerShows, fM_keenShows, fM_drawerTells, M_kp, stM_x, h2, h3, hj, hl, nq1, nq2, nq3, nq4, nq5, nq6, if_true, if_false, Option.bind_some, List.nil_append, List.cons_append, List.length_cons, List.length_nil, Nat.reduceAdd, Nat.reduceLT, Nat.reduceEqDiff, ne_eq, not_false_eq_true]
theorem cact_3_1 {m : MI} {j : Nat} {v b : Int32} (h2 : m.1 46 2 = nI j) (h3 : m.1 46 3 = nI 3) (h4 : m.1 46 4 = v) : fA_runN 10 (stC m []) (nI 3) (nI 1) b (nI 0) = some (((b + nI j) - v), stC m [11, 10]) := by
  simp only [cr_0_0, cr_0_1, cr_0_2, cr_1_0, cr_1_1, cr_1_2, cr_2_0, cr_2_1, cr_2_2, cr_3_0, cr_3_1, cr_3_2, cr_4_0, cr_4_1, cr_4_2, cr_5_0, cr_5_1, cr_5_2, cr_6_0, cr_6_1, cr_6_2, aw_10, aw_11, aw_12, aw_20, aw_30, aw_40, aw_50, aw_51, aw_60, aw_70, aw_71, sc2, sc3, sc4, h2, h3, h4, Option.bind_some, List.nil_append, List.cons_append, List.length_cons, List.length_nil, Nat.reduceAdd, Nat.reduceLT, Nat.reduceLeDiff, Nat.zero_add, Nat.zero_le]
theorem mact_3_1 {m : MI} {j : Nat} {v b : Int32} (hj : ck (nI j) 6 = true) (hl : (nI j).toNatClampNeg = j) (h2 : m.1 62 j = nI 3) (h3 : m.1 63 j = v) : fM_showsAct (stM m []) (nI j) b = some (((b + nI j) - v), stM m [11, 10]) := by
  simp only [fM_drawsAct, fM_showsAct, fM_tellsAct, fM_drawerDraws, fM_drawerShows, fM_keenShows, fM_drawerTells, M_kp, stM_x, h2, h3, hj, hl, nq1, nq2, nq3, nq4, nq5, nq6, if_true, if_false, Option.bind_some, List.nil_append, List.cons_append, List.length_cons, List.length_nil, Nat.reduceAdd, Nat.reduceLT, Nat.reduceEqDiff, ne_eq, not_false_eq_true]
theorem cact_3_2 {m : MI} {j : Nat} {v b : Int32} (h2 : m.1 46 2 = nI j) (h3 : m.1 46 3 = nI 3) (h4 : m.1 46 4 = v) : fA_runN 10 (stC m []) (nI 3) (nI 2) b (nI 0) = some (((((b + nI j) - v) * 2) + (((1 : Int32) + nI j) - v)), stC m [40, 12, 11, 10, 11, 10]) := by
  simp only [cr_0_0, cr_0_1, cr_0_2, cr_1_0, cr_1_1, cr_1_2, cr_2_0, cr_2_1, cr_2_2, cr_3_0, cr_3_1, cr_3_2, cr_4_0, cr_4_1, cr_4_2, cr_5_0, cr_5_1, cr_5_2, cr_6_0, cr_6_1, cr_6_2, aw_10, aw_11, aw_12, aw_20, aw_30, aw_40, aw_50, aw_51, aw_60, aw_70, aw_71, sc2, sc3, sc4, h2, h3, h4, Option.bind_some, List.nil_append, List.cons_append, List.length_cons, List.length_nil, Nat.reduceAdd, Nat.reduceLT, Nat.reduceLeDiff, Nat.zero_add, Nat.zero_le]
theorem mact_3_2 {m : MI} {j : Nat} {v b : Int32} (hj : ck (nI j) 6 = true) (hl : (nI j).toNatClampNeg = j) (h2 : m.1 62 j = nI 3) (h3 : m.1 63 j = v) : fM_tellsAct (stM m []) (nI j) b = some (((((b + nI j) - v) * 2) + (((1 : Int32) + nI j) - v)), stM m [40, 12, 11, 10, 11, 10]) := by
  simp only [fM_drawsAct, fM_showsAct, fM_tellsAct, fM_drawerDraws, fM_drawerShows, fM_keenShows, fM_drawerTells, M_kp, stM_x, h2, h3, hj, hl, nq1, nq2, nq3, nq4, nq5, nq6, if_true, if_false, Option.bind_some, List.nil_append, List.cons_append, List.length_cons, List.length_nil, Nat.reduceAdd, Nat.reduceLT, Nat.reduceEqDiff, ne_eq, not_false_eq_true]
theorem cact_4_0 {m : MI} {j : Nat} {v b : Int32} (h2 : m.1 46 2 = nI j) (h3 : m.1 46 3 = nI 4) (h4 : m.1 46 4 = v) : fA_runN 10 (stC m []) (nI 4) (nI 0) b (nI 0) = some ((-(b + nI j)), stC m [50, 10]) := by
  simp only [cr_0_0, cr_0_1, cr_0_2, cr_1_0, cr_1_1, cr_1_2, cr_2_0, cr_2_1, cr_2_2, cr_3_0, cr_3_1, cr_3_2, cr_4_0, cr_4_1, cr_4_2, cr_5_0, cr_5_1, cr_5_2, cr_6_0, cr_6_1, cr_6_2, aw_10, aw_11, aw_12, aw_20, aw_30, aw_40, aw_50, aw_51, aw_60, aw_70, aw_71, sc2, sc3, sc4, h2, h3, h4, Option.bind_some, List.nil_append, List.cons_append, List.length_cons, List.length_nil, Nat.reduceAdd, Nat.reduceLT, Nat.reduceLeDiff, Nat.zero_add, Nat.zero_le]
theorem mact_4_0 {m : MI} {j : Nat} {v b : Int32} (hj : ck (nI j) 6 = true) (hl : (nI j).toNatClampNeg = j) (h2 : m.1 62 j = nI 4) (h3 : m.1 63 j = v) : fM_drawsAct (stM m []) (nI j) b = some ((-(b + nI j)), stM m [50, 10]) := by
  simp only [fM_drawsAct, fM_showsAct, fM_tellsAct, fM_drawerDraws, fM_drawerShows, fM_keenShows, fM_drawerTells, M_kp, stM_x, h2, h3, hj, hl, nq1, nq2, nq3, nq4, nq5, nq6, if_true, if_false, Option.bind_some, List.nil_append, List.cons_append, List.length_cons, List.length_nil, Nat.reduceAdd, Nat.reduceLT, Nat.reduceEqDiff, ne_eq, not_false_eq_true]
theorem cact_4_1 {m : MI} {j : Nat} {v b : Int32} (h2 : m.1 46 2 = nI j) (h3 : m.1 46 3 = nI 4) (h4 : m.1 46 4 = v) : fA_runN 10 (stC m []) (nI 4) (nI 1) b (nI 0) = some ((((-((b + 1) + nI j)) - v) ^^^ (6 : Int32)), stC m [51, 20, 11, 50, 10]) := by
  simp only [cr_0_0, cr_0_1, cr_0_2, cr_1_0, cr_1_1, cr_1_2, cr_2_0, cr_2_1, cr_2_2, cr_3_0, cr_3_1, cr_3_2, cr_4_0, cr_4_1, cr_4_2, cr_5_0, cr_5_1, cr_5_2, cr_6_0, cr_6_1, cr_6_2, aw_10, aw_11, aw_12, aw_20, aw_30, aw_40, aw_50, aw_51, aw_60, aw_70, aw_71, sc2, sc3, sc4, h2, h3, h4, Option.bind_some, List.nil_append, List.cons_append, List.length_cons, List.length_nil, Nat.reduceAdd, Nat.reduceLT, Nat.reduceLeDiff, Nat.zero_add, Nat.zero_le]
theorem mact_4_1 {m : MI} {j : Nat} {v b : Int32} (hj : ck (nI j) 6 = true) (hl : (nI j).toNatClampNeg = j) (h2 : m.1 62 j = nI 4) (h3 : m.1 63 j = v) : fM_showsAct (stM m []) (nI j) b = some ((((-((b + 1) + nI j)) - v) ^^^ (6 : Int32)), stM m [51, 20, 11, 50, 10]) := by
  simp only [fM_drawsAct, fM_showsAct, fM_tellsAct, fM_drawerDraws, fM_drawerShows, fM_keenShows, fM_drawerTells, M_kp, stM_x, h2, h3, hj, hl, nq1, nq2, nq3, nq4, nq5, nq6, if_true, if_false, Option.bind_some, List.nil_append, List.cons_append, List.length_cons, List.length_nil, Nat.reduceAdd, Nat.reduceLT, Nat.reduceEqDiff, ne_eq, not_false_eq_true]
theorem cact_4_2 {m : MI} {j : Nat} {v b : Int32} (h2 : m.1 46 2 = nI j) (h3 : m.1 46 3 = nI 4) (h4 : m.1 46 4 = v) : fA_runN 10 (stC m []) (nI 4) (nI 2) b (nI 0) = some (((((-((b + 1) + nI j)) - v) ^^^ (6 : Int32)) * 2), stC m [12, 51, 20, 11, 50, 10]) := by
  simp only [cr_0_0, cr_0_1, cr_0_2, cr_1_0, cr_1_1, cr_1_2, cr_2_0, cr_2_1, cr_2_2, cr_3_0, cr_3_1, cr_3_2, cr_4_0, cr_4_1, cr_4_2, cr_5_0, cr_5_1, cr_5_2, cr_6_0, cr_6_1, cr_6_2, aw_10, aw_11, aw_12, aw_20, aw_30, aw_40, aw_50, aw_51, aw_60, aw_70, aw_71, sc2, sc3, sc4, h2, h3, h4, Option.bind_some, List.nil_append, List.cons_append, List.length_cons, List.length_nil, Nat.reduceAdd, Nat.reduceLT, Nat.reduceLeDiff, Nat.zero_add, Nat.zero_le]
theorem mact_4_2 {m : MI} {j : Nat} {v b : Int32} (hj : ck (nI j) 6 = true) (hl : (nI j).toNatClampNeg = j) (h2 : m.1 62 j = nI 4) (h3 : m.1 63 j = v) : fM_tellsAct (stM m []) (nI j) b = some (((((-((b + 1) + nI j)) - v) ^^^ (6 : Int32)) * 2), stM m [12, 51, 20, 11, 50, 10]) := by
  simp only [fM_drawsAct, fM_showsAct, fM_tellsAct, fM_drawerDraws, fM_drawerShows, fM_keenShows, fM_drawerTells, M_kp, stM_x, h2, h3, hj, hl, nq1, nq2, nq3, nq4, nq5, nq6, if_true, if_false, Option.bind_some, List.nil_append, List.cons_append, List.length_cons, List.length_nil, Nat.reduceAdd, Nat.reduceLT, Nat.reduceEqDiff, ne_eq, not_false_eq_true]
theorem cact_5_0 {m : MI} {j : Nat} {v b : Int32} (h2 : m.1 46 2 = nI j) (h3 : m.1 46 3 = nI 5) (h4 : m.1 46 4 = v) : fA_runN 10 (stC m []) (nI 5) (nI 0) b (nI 0) = some (((b * 3) + nI j), stC m [30, 10]) := by
  simp only [cr_0_0, cr_0_1, cr_0_2, cr_1_0, cr_1_1, cr_1_2, cr_2_0, cr_2_1, cr_2_2, cr_3_0, cr_3_1, cr_3_2, cr_4_0, cr_4_1, cr_4_2, cr_5_0, cr_5_1, cr_5_2, cr_6_0, cr_6_1, cr_6_2, aw_10, aw_11, aw_12, aw_20, aw_30, aw_40, aw_50, aw_51, aw_60, aw_70, aw_71, sc2, sc3, sc4, h2, h3, h4, Option.bind_some, List.nil_append, List.cons_append, List.length_cons, List.length_nil, Nat.reduceAdd, Nat.reduceLT, Nat.reduceLeDiff, Nat.zero_add, Nat.zero_le]
theorem mact_5_0 {m : MI} {j : Nat} {v b : Int32} (hj : ck (nI j) 6 = true) (hl : (nI j).toNatClampNeg = j) (h2 : m.1 62 j = nI 5) (h3 : m.1 63 j = v) : fM_drawsAct (stM m []) (nI j) b = some (((b * 3) + nI j), stM m [30, 10]) := by
  simp only [fM_drawsAct, fM_showsAct, fM_tellsAct, fM_drawerDraws, fM_drawerShows, fM_keenShows, fM_drawerTells, M_kp, stM_x, h2, h3, hj, hl, nq1, nq2, nq3, nq4, nq5, nq6, if_true, if_false, Option.bind_some, List.nil_append, List.cons_append, List.length_cons, List.length_nil, Nat.reduceAdd, Nat.reduceLT, Nat.reduceEqDiff, ne_eq, not_false_eq_true]
theorem cact_5_1 {m : MI} {j : Nat} {v b : Int32} (h2 : m.1 46 2 = nI j) (h3 : m.1 46 3 = nI 5) (h4 : m.1 46 4 = v) : fA_runN 10 (stC m []) (nI 5) (nI 1) b (nI 0) = some ((((b * 3) + nI j) - v), stC m [11, 30, 10]) := by
  simp only [cr_0_0, cr_0_1, cr_0_2, cr_1_0, cr_1_1, cr_1_2, cr_2_0, cr_2_1, cr_2_2, cr_3_0, cr_3_1, cr_3_2, cr_4_0, cr_4_1, cr_4_2, cr_5_0, cr_5_1, cr_5_2, cr_6_0, cr_6_1, cr_6_2, aw_10, aw_11, aw_12, aw_20, aw_30, aw_40, aw_50, aw_51, aw_60, aw_70, aw_71, sc2, sc3, sc4, h2, h3, h4, Option.bind_some, List.nil_append, List.cons_append, List.length_cons, List.length_nil, Nat.reduceAdd, Nat.reduceLT, Nat.reduceLeDiff, Nat.zero_add, Nat.zero_le]
theorem mact_5_1 {m : MI} {j : Nat} {v b : Int32} (hj : ck (nI j) 6 = true) (hl : (nI j).toNatClampNeg = j) (h2 : m.1 62 j = nI 5) (h3 : m.1 63 j = v) : fM_showsAct (stM m []) (nI j) b = some ((((b * 3) + nI j) - v), stM m [11, 30, 10]) := by
  simp only [fM_drawsAct, fM_showsAct, fM_tellsAct, fM_drawerDraws, fM_drawerShows, fM_keenShows, fM_drawerTells, M_kp, stM_x, h2, h3, hj, hl, nq1, nq2, nq3, nq4, nq5, nq6, if_true, if_false, Option.bind_some, List.nil_append, List.cons_append, List.length_cons, List.length_nil, Nat.reduceAdd, Nat.reduceLT, Nat.reduceEqDiff, ne_eq, not_false_eq_true]
theorem cact_5_2 {m : MI} {j : Nat} {v b : Int32} (h2 : m.1 46 2 = nI j) (h3 : m.1 46 3 = nI 5) (h4 : m.1 46 4 = v) : fA_runN 10 (stC m []) (nI 5) (nI 2) b (nI 0) = some ((((((b - nI j) * 3) + nI j) - v) * 2), stC m [60, 12, 11, 30, 10]) := by
  simp only [cr_0_0, cr_0_1, cr_0_2, cr_1_0, cr_1_1, cr_1_2, cr_2_0, cr_2_1, cr_2_2, cr_3_0, cr_3_1, cr_3_2, cr_4_0, cr_4_1, cr_4_2, cr_5_0, cr_5_1, cr_5_2, cr_6_0, cr_6_1, cr_6_2, aw_10, aw_11, aw_12, aw_20, aw_30, aw_40, aw_50, aw_51, aw_60, aw_70, aw_71, sc2, sc3, sc4, h2, h3, h4, Option.bind_some, List.nil_append, List.cons_append, List.length_cons, List.length_nil, Nat.reduceAdd, Nat.reduceLT, Nat.reduceLeDiff, Nat.zero_add, Nat.zero_le]
theorem mact_5_2 {m : MI} {j : Nat} {v b : Int32} (hj : ck (nI j) 6 = true) (hl : (nI j).toNatClampNeg = j) (h2 : m.1 62 j = nI 5) (h3 : m.1 63 j = v) : fM_tellsAct (stM m []) (nI j) b = some ((((((b - nI j) * 3) + nI j) - v) * 2), stM m [60, 12, 11, 30, 10]) := by
  simp only [fM_drawsAct, fM_showsAct, fM_tellsAct, fM_drawerDraws, fM_drawerShows, fM_keenShows, fM_drawerTells, M_kp, stM_x, h2, h3, hj, hl, nq1, nq2, nq3, nq4, nq5, nq6, if_true, if_false, Option.bind_some, List.nil_append, List.cons_append, List.length_cons, List.length_nil, Nat.reduceAdd, Nat.reduceLT, Nat.reduceEqDiff, ne_eq, not_false_eq_true]
theorem cact_6_0 {m : MI} {j : Nat} {v b : Int32} (h2 : m.1 46 2 = nI j) (h3 : m.1 46 3 = nI 6) (h4 : m.1 46 4 = v) : fA_runN 10 (stC m []) (nI 6) (nI 0) b (nI 0) = some (((b + nI j) ^^^ v), stC m [71, 10]) := by
  simp only [cr_0_0, cr_0_1, cr_0_2, cr_1_0, cr_1_1, cr_1_2, cr_2_0, cr_2_1, cr_2_2, cr_3_0, cr_3_1, cr_3_2, cr_4_0, cr_4_1, cr_4_2, cr_5_0, cr_5_1, cr_5_2, cr_6_0, cr_6_1, cr_6_2, aw_10, aw_11, aw_12, aw_20, aw_30, aw_40, aw_50, aw_51, aw_60, aw_70, aw_71, sc2, sc3, sc4, h2, h3, h4, Option.bind_some, List.nil_append, List.cons_append, List.length_cons, List.length_nil, Nat.reduceAdd, Nat.reduceLT, Nat.reduceLeDiff, Nat.zero_add, Nat.zero_le]
theorem mact_6_0 {m : MI} {j : Nat} {v b : Int32} (hj : ck (nI j) 6 = true) (hl : (nI j).toNatClampNeg = j) (h2 : m.1 62 j = nI 6) (h3 : m.1 63 j = v) : fM_drawsAct (stM m []) (nI j) b = some (((b + nI j) ^^^ v), stM m [71, 10]) := by
  simp only [fM_drawsAct, fM_showsAct, fM_tellsAct, fM_drawerDraws, fM_drawerShows, fM_keenShows, fM_drawerTells, M_kp, stM_x, h2, h3, hj, hl, nq1, nq2, nq3, nq4, nq5, nq6, if_true, if_false, Option.bind_some, List.nil_append, List.cons_append, List.length_cons, List.length_nil, Nat.reduceAdd, Nat.reduceLT, Nat.reduceEqDiff, ne_eq, not_false_eq_true]
theorem cact_6_1 {m : MI} {j : Nat} {v b : Int32} (h2 : m.1 46 2 = nI j) (h3 : m.1 46 3 = nI 6) (h4 : m.1 46 4 = v) : fA_runN 10 (stC m []) (nI 6) (nI 1) b (nI 0) = some (((((b + nI j) ^^^ v) - v) + ((2 : Int32) + nI j)), stC m [70, 11, 71, 10, 10]) := by
  simp only [cr_0_0, cr_0_1, cr_0_2, cr_1_0, cr_1_1, cr_1_2, cr_2_0, cr_2_1, cr_2_2, cr_3_0, cr_3_1, cr_3_2, cr_4_0, cr_4_1, cr_4_2, cr_5_0, cr_5_1, cr_5_2, cr_6_0, cr_6_1, cr_6_2, aw_10, aw_11, aw_12, aw_20, aw_30, aw_40, aw_50, aw_51, aw_60, aw_70, aw_71, sc2, sc3, sc4, h2, h3, h4, Option.bind_some, List.nil_append, List.cons_append, List.length_cons, List.length_nil, Nat.reduceAdd, Nat.reduceLT, Nat.reduceLeDiff, Nat.zero_add, Nat.zero_le]
theorem mact_6_1 {m : MI} {j : Nat} {v b : Int32} (hj : ck (nI j) 6 = true) (hl : (nI j).toNatClampNeg = j) (h2 : m.1 62 j = nI 6) (h3 : m.1 63 j = v) : fM_showsAct (stM m []) (nI j) b = some (((((b + nI j) ^^^ v) - v) + ((2 : Int32) + nI j)), stM m [70, 11, 71, 10, 10]) := by
  simp only [fM_drawsAct, fM_showsAct, fM_tellsAct, fM_drawerDraws, fM_drawerShows, fM_keenShows, fM_drawerTells, M_kp, stM_x, h2, h3, hj, hl, nq1, nq2, nq3, nq4, nq5, nq6, if_true, if_false, Option.bind_some, List.nil_append, List.cons_append, List.length_cons, List.length_nil, Nat.reduceAdd, Nat.reduceLT, Nat.reduceEqDiff, ne_eq, not_false_eq_true]
theorem cact_6_2 {m : MI} {j : Nat} {v b : Int32} (h2 : m.1 46 2 = nI j) (h3 : m.1 46 3 = nI 6) (h4 : m.1 46 4 = v) : fA_runN 10 (stC m []) (nI 6) (nI 2) b (nI 0) = some (((((((b + nI j) ^^^ v) - v) + ((2 : Int32) + nI j)) * 2) + (((((1 : Int32) + nI j) ^^^ v) - v) + ((2 : Int32) + nI j))), stC m [40, 12, 70, 11, 71, 10, 10, 70, 11, 71, 10, 10]) := by
  simp only [cr_0_0, cr_0_1, cr_0_2, cr_1_0, cr_1_1, cr_1_2, cr_2_0, cr_2_1, cr_2_2, cr_3_0, cr_3_1, cr_3_2, cr_4_0, cr_4_1, cr_4_2, cr_5_0, cr_5_1, cr_5_2, cr_6_0, cr_6_1, cr_6_2, aw_10, aw_11, aw_12, aw_20, aw_30, aw_40, aw_50, aw_51, aw_60, aw_70, aw_71, sc2, sc3, sc4, h2, h3, h4, Option.bind_some, List.nil_append, List.cons_append, List.length_cons, List.length_nil, Nat.reduceAdd, Nat.reduceLT, Nat.reduceLeDiff, Nat.zero_add, Nat.zero_le]
theorem mact_6_2 {m : MI} {j : Nat} {v b : Int32} (hj : ck (nI j) 6 = true) (hl : (nI j).toNatClampNeg = j) (h2 : m.1 62 j = nI 6) (h3 : m.1 63 j = v) : fM_tellsAct (stM m []) (nI j) b = some (((((((b + nI j) ^^^ v) - v) + ((2 : Int32) + nI j)) * 2) + (((((1 : Int32) + nI j) ^^^ v) - v) + ((2 : Int32) + nI j))), stM m [40, 12, 70, 11, 71, 10, 10, 70, 11, 71, 10, 10]) := by
  simp only [fM_drawsAct, fM_showsAct, fM_tellsAct, fM_drawerDraws, fM_drawerShows, fM_keenShows, fM_drawerTells, M_kp, stM_x, h2, h3, hj, hl, nq1, nq2, nq3, nq4, nq5, nq6, if_true, if_false, Option.bind_some, List.nil_append, List.cons_append, List.length_cons, List.length_nil, Nat.reduceAdd, Nat.reduceLT, Nat.reduceEqDiff, ne_eq, not_false_eq_true]
