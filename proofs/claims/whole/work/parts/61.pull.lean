/-! THE SAME ANSWERS: pull and chance -/
def fc (j : Nat) (x z s l p : Int32) : Nat → Int32 := fun i => [nI j, x, z, s, l, p].getD i 0
def plaV (cs : List Cla) (j x zz : Nat) (s l p : Int32) : Int32 := mx0 (pl (fc j (nI x) (nI (zz % 10)) s l p) cs)
def pullV (cs : List Cla) (j x : Nat) (y : Int32) (zz : Nat) (rv s l p : Int32) : Int32 :=
  if x = 1 then mx0 (plaV cs j x zz s l p - y) else if x = 2 then plaV cs j x zz s l p + y else if x = 3 then 10 else if x = 4 then (if l < s then mx0 (plaV cs j x zz s l p - y) else 0) else if x = 5 then (2 : Int32) * (plaV cs j x zz s l p + y) else if x = 6 then (2 : Int32) * rv else plaV cs j x zz s l p
theorem pl_bd {fac : Nat → Int32} : ∀ (cs : List Cla) (v : Int32) (B : Int), (∀ c ∈ cs, claOK c) → -B ≤ v.toInt → v.toInt ≤ B → B + 100 * cs.length < 2 ^ 30 → -(B + 100 * cs.length) ≤ (cs.foldl (plF fac) v).toInt ∧ (cs.foldl (plF fac) v).toInt ≤ B + 100 * cs.length := by
  intro cs
  induction cs with
  | nil => intro v B _ h1 h2 _; simp only [List.foldl_nil, List.length_nil]; omega
  | cons c cs ih =>
    intro v B hok h1 h2 hB
    simp only [List.length_cons] at hB ⊢
    have hc : c.2.1 < 100 := (hok c (List.mem_cons_self ..)).2.1
    have hi : (nI c.2.1).toInt = (c.2.1 : Int) := nI_toInt (by omega)
    have key : -(B + 100) ≤ (plF fac v c).toInt ∧ (plF fac v c).toInt ≤ B + 100 := by
      unfold plF
      split
      · split
        · split
          · rw [Int32.toInt_add, hi, Int.bmod_eq_of_le (by omega) (by omega)]; omega
          · rw [Int32.toInt_sub, hi, Int.bmod_eq_of_le (by omega) (by omega)]; omega
        · omega
      · omega
    have := ih (plF fac v c) (B + 100) (fun c' h' => hok c' (List.mem_cons_of_mem _ h')) key.1 key.2 (by omega)
    rw [List.foldl_cons]
    omega
theorem mx0_nat {x : Int32} {B : Nat} (h : x.toInt ≤ B) (hB : B < 2 ^ 31) : ∃ n, n ≤ B ∧ mx0 x = nI n := by
  unfold mx0
  by_cases c : 0 < x
  · rw [if_pos c]
    obtain ⟨n, hn, rfl⟩ := nI_of (x := x) (fun h => Int32.lt_irrefl (Int32.lt_trans c h))
    rw [nI_toInt hn] at h
    exact ⟨n, by omega, rfl⟩
  · rw [if_neg c]; exact ⟨0, by omega, rfl⟩
theorem pla_nat {cs : List Cla} (h : cs.length ≤ 10 ∧ ∀ c ∈ cs, claOK c) (j x zz : Nat) (s l p : Int32) : ∃ n, n ≤ 1010 ∧ plaV cs j x zz s l p = nI n := by
  have b := (pl_bd (fac := fc j (nI x) (nI (zz % 10)) s l p) cs 10 10 h.2 (by decide) (by decide) (by have := h.1; omega)).2
  exact mx0_nat (B := 1010) (Int.le_trans b (by have := h.1; omega)) (by omega)
theorem pull_nat {cs : List Cla} (h : cs.length ≤ 10 ∧ ∀ c ∈ cs, claOK c) {j x yy zz rr : Nat} (hy : yy ≤ 9) (hr : rr ≤ 9) (s l p : Int32) : ∃ n, n ≤ 3000 ∧ pullV cs j x (nI yy) zz (nI rr) s l p = nI n := by
  obtain ⟨n, hn, e⟩ := pla_nat h j x zz s l p
  have k1 : ∃ n', n' ≤ 1010 ∧ mx0 (nI n - nI yy) = nI n' := mx0_nat (by rw [sub_I (by omega) (by omega)]; omega) (by omega)
  obtain ⟨n', hn', e'⟩ := k1
  unfold pullV
  rw [e, e']
  split
  · exact ⟨n', by omega, rfl⟩
  split
  · exact ⟨n + yy, by omega, nI_add _ _⟩
  split
  · exact ⟨10, by omega, rfl⟩
  split
  · split
    · exact ⟨n', by omega, rfl⟩
    · exact ⟨0, by omega, rfl⟩
  split
  · exact ⟨2 * (n + yy), by omega, by rw [nI_add, show (2 : Int32) = nI 2 from rfl, pk_mul]⟩
  split
  · exact ⟨2 * rr, by omega, by rw [show (2 : Int32) = nI 2 from rfl, pk_mul]⟩
  · exact ⟨n, by omega, rfl⟩
theorem mod10 {zz : Nat} (h : zz ≤ 999) : nI zz - nI zz / 10 * 10 = nI (zz % 10) := by rw [show (10 : Int32) = nI 10 from rfl, pk_rem (by omega) (by omega) (by omega)]
theorem mod4 {zz : Nat} (h : zz ≤ 999) : nI zz - nI zz / 4 * 4 = nI (zz % 4) := by rw [show (4 : Int32) = nI 4 from rfl, pk_rem (by omega) (by omega) (by omega)]
section PU
variable {sh : Sh} {R : RR} {m : MI} {hw j x zz : Nat} {cs : List Cla} {y rv : Int32}
/-- the values that a pull of drawer j needs, as the class holds them -/
def DC (m' m : MI) (j x : Nat) (y : Int32) (zz : Nat) (rv : Int32) : Prop := (∀ k, 99 ≤ k → m'.1 k = m.1 k) ∧ m'.1 2 j = nI x ∧ m'.1 3 j = y ∧ m'.1 4 j = nI zz ∧ m'.1 (5 + j) (zz % 4) = rv
def DM (m' m : MI) (j x : Nat) (y : Int32) (zz : Nat) (rv : Int32) : Prop := m'.1 61 11 = m.1 61 11 ∧ (∀ k, 68 ≤ k ∧ k ≤ 73 → m'.1 k = m.1 k) ∧ m'.1 62 j = nI x ∧ m'.1 63 j = y ∧ m'.1 64 j = nI zz ∧ m'.1 65 (4 * j + zz % 4) = rv
theorem W_pullE (hF : Fx sh R) (hj : j < 6) (hx : x ≤ 6) (hz : zz ≤ 999) (h15 : R 1 15 = some hw) (hs : sh[hw]? = some (11, 0)) (hP : PlH sh R m hw cs) {m' : MI} (hD : DC m' m j x y zz rv) (s l p : Int32) : ∃ g, fW_pull sh R m' (nI j) p s l = some (pullV cs j x y zz rv s l p, mI m' 18 g) := by
  obtain ⟨d1, d2, d3, d4, d5⟩ := hD
  have ckj : ck (nI j) 6 = true := ck_nI hj (by omega)
  have clj := cl_nI (show j < 100000 by omega)
  have i0' : (0 : Int32).toNatClampNeg = 0 := rfl
  have i1' : (1 : Int32).toNatClampNeg = 1 := rfl
  have i2' : (2 : Int32).toNatClampNeg = 2 := rfl
  have i3' : (3 : Int32).toNatClampNeg = 3 := rfl
  have i4' : (4 : Int32).toNatClampNeg = 4 := rfl
  have i5' : (5 : Int32).toNatClampNeg = 5 := rfl
  obtain ⟨G, hG⟩ : ∃ G, G = upd (upd (upd (upd (upd (upd (m'.1 18) 0 (nI j)) 1 (nI x)) 2 (nI (zz % 10))) 3 s) 4 l) 5 p := ⟨_, rfl⟩
  have hpl : fH_plain_18 sh R (mI m' 18 G) hw = some (plaV cs j x zz s l p, mI m' 18 G) := by
    refine hP.2.1 (mI m' 18 G) _ (fun k hk => by rw [mI_n (by omega)]; exact d1 k hk) (fun i hi => ?_)
    rw [mI_s, hG]
    rcases c6 hi with rfl | rfl | rfl | rfl | rfl | rfl <;> rfl
  have h7 : x = 0 ∨ x = 1 ∨ x = 2 ∨ x = 3 ∨ x = 4 ∨ x = 5 ∨ x = 6 := by omega
  have hsr := rowSh hF hj
  unfold fW_pull
  simp only [ckj, clj, if_true, d2, lt, lm, i0', i1', i2', i3', i4', i5', mI_s, mI_mI, mI_n (show (4 : Nat) ≠ 18 by decide), d4, mod10 hz, mod4 hz, h15, mq, if_pos hs, ← hG, hpl, Option.bind_some, mI_n (show (3 : Nat) ≠ 18 by decide), d3, R11 hF.2 hj, kA_of hsr, lenA_of hsr, ck_nI (show zz % 4 < 4 by omega) (show 4 ≤ 100000 by omega), cl_nI (show zz % 4 < 100000 by omega), d5]
  unfold pullV
  rcases h7 with rfl | rfl | rfl | rfl | rfl | rfl | rfl
  · exact ⟨G, by simp only [nq1, nq2, nq3, nq4, nq5, nq6, Nat.reduceLT, Nat.reduceEqDiff, if_true, if_false]⟩
  · exact ⟨G, by simp only [nq1, nq2, nq3, nq4, nq5, nq6, Nat.reduceLT, Nat.reduceEqDiff, if_true, if_false]; rfl⟩
  · exact ⟨G, by simp only [nq1, nq2, nq3, nq4, nq5, nq6, Nat.reduceLT, Nat.reduceEqDiff, if_true, if_false]⟩
  · exact ⟨m'.1 18, by simp only [nq1, nq2, nq3, nq4, nq5, nq6, Nat.reduceLT, Nat.reduceEqDiff, if_true, if_false, mI_id]⟩
  · by_cases c : l < s
    · exact ⟨G, by simp only [nq1, nq2, nq3, nq4, nq5, nq6, Nat.reduceLT, Nat.reduceEqDiff, if_true, if_false, if_pos c]; rfl⟩
    · exact ⟨m'.1 18, by simp only [nq1, nq2, nq3, nq4, nq5, nq6, Nat.reduceLT, Nat.reduceEqDiff, if_true, if_false, if_neg c, mI_id]⟩
  · exact ⟨G, by simp only [nq1, nq2, nq3, nq4, nq5, nq6, Nat.reduceLT, Nat.reduceEqDiff, if_true, if_false]⟩
  · exact ⟨m'.1 18, by simp only [nq1, nq2, nq3, nq4, nq5, nq6, Nat.reduceLT, Nat.reduceEqDiff, if_true, if_false, mI_id]⟩
theorem M_pullE (hj : j < 6) (hx : x ≤ 6) (hz : zz ≤ 999) (hP : PlH sh R m hw cs) {m' : MI} (hD : DM m' m j x y zz rv) (s l p : Int32) : ∃ g, fM_pull m' (nI j) s l p = some (pullV cs j x y zz rv s l p, mI (mI m' 61 (upd (upd (upd (m'.1 61) 28 s) 29 l) 30 p)) 76 g) := by
  obtain ⟨d1, d1', d2, d3, d4, d5⟩ := hD
  have ckj : ck (nI j) 6 = true := ck_nI hj (by omega)
  have clj := cl_nI (show j < 100000 by omega)
  obtain ⟨mA, hmA⟩ : ∃ mA, mA = mI m' 61 (upd (upd (upd (m'.1 61) 28 s) 29 l) 30 p) := ⟨_, rfl⟩
  have A61 : mA.1 61 = upd (upd (upd (m'.1 61) 28 s) 29 l) 30 p := by rw [hmA, mI_s]
  have Ao : ∀ k, k ≠ 61 → mA.1 k = m'.1 k := fun k h => by rw [hmA, mI_n h]
  have h62 := Ao 62 (by decide)
  have h63 := Ao 63 (by decide)
  have h64 := Ao 64 (by decide)
  have h65 := Ao 65 (by decide)
  have e4 : (4 : Int32) * nI j + nI (zz % 4) = nI (4 * j + zz % 4) := by rw [show (4 : Int32) = nI 4 from rfl, pk_mul, nI_add]
  obtain ⟨g, hg⟩ := hP.2.2 mA (fc j (nI x) (nI (zz % 10)) s l p) (nI j) (by rw [A61]; exact d1) (fun k hk => by rw [Ao k (by omega)]; exact d1' k hk) (fun i hi g => by
    have q1 : (mI mA 76 g).1 62 j = nI x := by rw [mI_n (by decide), h62]; exact d2
    have q2 : (mI mA 76 g).1 64 j = nI zz := by rw [mI_n (by decide), h64]; exact d4
    have q3 : (mI mA 76 g).1 61 = upd (upd (upd (m'.1 61) 28 s) 29 l) 30 p := by rw [mI_n (by decide), A61]
    unfold fM_factOf
    rw [q3]
    simp only [ckj, clj, q1, q2, if_true, mod10 hz]
    rcases c6 hi with rfl | rfl | rfl | rfl | rfl | rfl <;> rfl)
  have hpl : fM_plainly mA (nI j) = some (plaV cs j x zz s l p, mI mA 76 g) := hg
  have h7 : x = 0 ∨ x = 1 ∨ x = 2 ∨ x = 3 ∨ x = 4 ∨ x = 5 ∨ x = 6 := by omega
  have hk : fM_keenly mA (nI j) = some (mx0 (plaV cs j x zz s l p - y), mI mA 76 g) := by
    unfold fM_keenly
    rw [hpl]
    simp only [Option.bind_some, ckj, clj, if_true, lt, mI_n (show (63 : Nat) ≠ 76 by decide), h63, d3]
    exact mx_eq
  unfold fM_pull
  simp only [lm, mI_s, mI_mI]
  rw [← hmA]
  simp only [ckj, clj, if_true, h62, d2, hk, hpl, Option.bind_some, mI_n (show (63 : Nat) ≠ 76 by decide), h63, d3, h64, d4, mod4 hz, e4, ck_nI (show 4 * j + zz % 4 < 24 by omega) (show 24 ≤ 100000 by omega), cl_nI (show 4 * j + zz % 4 < 100000 by omega), h65, d5]
  unfold pullV
  rcases h7 with rfl | rfl | rfl | rfl | rfl | rfl | rfl
  · exact ⟨g, by simp only [nq1, nq2, nq3, nq4, nq5, nq6, Nat.reduceLT, Nat.reduceEqDiff, if_true, if_false]⟩
  · exact ⟨g, by simp only [nq1, nq2, nq3, nq4, nq5, nq6, Nat.reduceLT, Nat.reduceEqDiff, if_true, if_false]⟩
  · exact ⟨g, by simp only [nq1, nq2, nq3, nq4, nq5, nq6, Nat.reduceLT, Nat.reduceEqDiff, if_true, if_false]⟩
  · exact ⟨mA.1 76, by simp only [nq1, nq2, nq3, nq4, nq5, nq6, Nat.reduceLT, Nat.reduceEqDiff, if_true, if_false, mI_id]⟩
  · by_cases c : l < s
    · exact ⟨g, by simp only [nq1, nq2, nq3, nq4, nq5, nq6, Nat.reduceLT, Nat.reduceEqDiff, if_true, if_false, if_pos c]⟩
    · exact ⟨mA.1 76, by simp only [nq1, nq2, nq3, nq4, nq5, nq6, Nat.reduceLT, Nat.reduceEqDiff, if_true, if_false, if_neg c, mI_id]⟩
  · exact ⟨g, by simp only [nq1, nq2, nq3, nq4, nq5, nq6, Nat.reduceLT, Nat.reduceEqDiff, if_true, if_false]⟩
  · exact ⟨mA.1 76, by simp only [nq1, nq2, nq3, nq4, nq5, nq6, Nat.reduceLT, Nat.reduceEqDiff, if_true, if_false, mI_id]⟩
end PU
