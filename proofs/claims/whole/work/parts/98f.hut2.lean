/-! THE SAME ANSWERS: hut -/
/-- what a hut's reading leaves as it was -/
def Frm (f : Nat) (m m' : MI) : Prop := (∀ k, k < 99 → m'.2 k = m.2 k) ∧ (∀ k, k < 99 → k ∉ [0, 1, 43, 44, 45, 61, 68, 69, 70, 71, 72, 73, 74] → m'.1 k = m.1 k) ∧ (∀ k, 99 ≤ k → k < 99 + 2 * f → m'.1 k = m.1 k) ∧ (∀ i, i ≠ 7 → m'.1 0 i = m.1 0 i) ∧ (∀ i, i ∉ [6, 7, 8] → m'.1 1 i = m.1 1 i) ∧ (∀ i, i ∉ [2, 3, 4, 10, 11, 12, 13, 14, 23, 24, 25] → m'.1 61 i = m.1 61 i) ∧
  (∀ i, i ≠ f → m'.1 68 i = m.1 68 i) ∧ (∀ k i, 69 ≤ k → k ≤ 72 → i < 10 * f → m'.1 k i = m.1 k i) ∧ ∀ i, i < 100 * f → m'.1 73 i = m.1 73 i
theorem tbR_lt {k j a : Nat} (e : tbR k j = some a) : k < 99 := by
  rcases Nat.lt_or_ge k 99 with h | h
  · exact h
  · unfold tbR at e
    rw [List.getD_eq_getElem?_getD, List.getElem?_eq_none (show tbL.length ≤ k from h)] at e
    cases e
section FR
variable {sh sh' : Sh} {R : RR} {m m' : MI} {f : Nat}
theorem Frm_r (h : Frm f m m') {k : Nat} (hk : k < 99) (h2 : k ∉ [0, 1, 43, 44, 45, 61, 68, 69, 70, 71, 72, 73, 74]) : m'.1 k = m.1 k := h.2.1 k hk h2
theorem Frm_Cor2 (h : Frm f m m') : Cor2 m → Cor2 m' := fun H => Core_congr (fun j hj => by rw [Frm_r h (by decide) (by decide)]) (fun j hj => h.2.2.2.2.2.1 j (by
    simp only [List.mem_cons, List.not_mem_nil, or_false] at hj ⊢
    omega)) (fun k hk => Frm_r h (by simp only [List.mem_cons, List.not_mem_nil, or_false] at hk; omega) (by simp only [List.mem_cons, List.not_mem_nil, or_false] at hk ⊢; omega)) H
theorem Frm_Tap (h : Frm f m m') (H : Tapes m) : Tapes m' := Tapes_congr (fun k hk => Frm_r h (by omega) (by simp only [List.mem_cons, List.not_mem_nil, or_false]; omega)) (fun k hk => h.1 k (by omega)) H
theorem Frm_Act (h : Frm f m m') (H : ActsR m) : ActsR m' := ActsR_congr (by rw [Frm_r h (by decide) (by decide)]) (h.2.2.2.2.2.1 63 (by decide)) (Frm_r h (by decide) (by decide)) (Frm_r h (by decide) (by decide)) H
theorem Frm_Fix (h : Frm f m m') (H : Fixd m) : Fixd m' := Fixd_congr (Frm_r h (by decide) (by decide)) (Frm_r h (by decide) (by decide)) (h.2.2.2.2.2.1 34 (by decide)) (Frm_r h (by decide) (by decide)) H
end FR
theorem W_mk2 {sh : Sh} {R : RR} {m' : MI} {hw a z n : Nat} (r1 : R 1 15 = some hw) (s1 : sh[hw]? = some (11, 0)) (d1 : 99 ≤ hw) (ha : a ≤ 3) (hz : z ≤ 9) (v1 : m'.1 hw 0 = nI a) (v2 : m'.1 hw 1 = nI z) (hn : n ≤ 6) (h0 : m'.1 1 0 = nI n) : fW_makeWhole sh R m' = some (mI m' 1 (upd (upd (upd (m'.1 1) 6 (nI a)) 7 (nI (n + z - a))) 8 0)) := by
  have hne : hw ≠ 1 := by omega
  unfold fW_makeWhole fW_wholeShorts fW_wholeLongs
  simp only [r1, mq, if_pos s1, Option.bind_some, lm, mI_s, mI_mI, mI_n hne, v1, v2, upd_n (show (0 : Nat) ≠ 6 by decide), h0]
  have ti : (nI n + nI z - nI a).toInt = ((n + z : Nat) : Int) - a := by rw [nI_add, sub_I (by omega) (by omega)]
  have e : (if 0 < nI n + nI z - nI a then nI n + nI z - nI a else 0) = nI (n + z - a) := by
    by_cases c : a < n + z
    · rw [if_pos (by rw [Int32.lt_iff_toInt_lt, ti, Int32.toInt_zero]; omega), nI_add, pk_sub (by omega)]
    · rw [if_neg (by rw [Int32.lt_iff_toInt_lt, ti, Int32.toInt_zero]; omega), show n + z - a = 0 by omega]; rfl
  rw [e]
theorem clampH {x : Nat} (hx : x < 100) : (if 1 < (if nI x < 3 then nI x else 3) then (if nI x < 3 then nI x else 3) else 1) = nI (max 1 (min 3 x)) := by
  have : ∀ x, x < 100 → (if (1 : Int32) < (if nI x < 3 then nI x else 3) then (if nI x < 3 then nI x else 3) else 1) = nI (max 1 (min 3 x)) := by decide +kernel
  exact this x hx
theorem clampM {y : Nat} (hy : y < 100) : (if nI y < 9 then nI y else 9) = nI (min 9 y) := by
  have : ∀ y, y < 100 → (if nI y < 9 then nI y else (9 : Int32)) = nI (min 9 y) := by decide +kernel
  exact this y hy
theorem nhE_row {m : MI} {L N : Nat} {a b : Int32} : (nhE m L N a b).1 L = upd (upd (fun _ => 0) 0 (if 1 < (if a < 3 then a else 3) then (if a < 3 then a else 3) else 1)) 1 (if b < 9 then b else 9) := by
  unfold nhE nhM
  rw [mI_s, mI_s, mI_n (show L ≠ L + 1 by omega)]
  congr 2
  show ur (ur m.1 L (fun _ => 0)) (L + 1) (fun _ => 0) L = _
  rw [ur_n (by omega), ur_s]
theorem nhE_sig {m : MI} {L N : Nat} {a b : Int32} (hL : 99 ≤ L) (hN : N < 100) {i : Nat} (hi : i < N) : (nhE m L N a b).1 (L + 1) i = m.1 45 i := by
  unfold nhE nhM
  rw [mI_n (show L + 1 ≠ L by omega), mI_n (show L + 1 ≠ L by omega), mI_s, cl_nI (by omega), show (Int32.toNatClampNeg 0) = 0 from rfl, pk_cpy_in (Nat.zero_le _) (by omega), Nat.sub_zero, Nat.zero_add]
  show ur (ur m.1 L (fun _ => 0)) (L + 1) (fun _ => 0) 45 i = _
  rw [ur_n (by omega), ur_n (by omega)]
theorem nhE_o {m : MI} {L N : Nat} {a b : Int32} {k : Nat} (h : k ≠ L) (h2 : k ≠ L + 1) : (nhE m L N a b).1 k = m.1 k ∧ (nhE m L N a b).2 k = m.2 k := by
  unfold nhE nhM
  refine ⟨?_, ?_⟩
  · rw [mI_n h, mI_n h, mI_n h2]
    show ur (ur m.1 L (fun _ => 0)) (L + 1) (fun _ => 0) k = _
    rw [ur_n h2, ur_n h]
  · show ur (ur m.2 L (fun _ => 0)) (L + 1) (fun _ => 0) k = _
    rw [ur_n h2, ur_n h]
theorem nhR_o {R : RR} {L k : Nat} (h : k ≠ L) (h2 : k ≠ L + 1) : nhR R L k = R k := by
  unfold nhR
  rw [ur_n h]
  show ur (ur R L (fun _ => none)) (L + 1) (fun _ => none) k = _
  rw [ur_n h2, ur_n h]
theorem nhR_L {R : RR} {L : Nat} : nhR R L L 2 = some (L + 1) := by
  unfold nhR
  rw [ur_s]
  rfl
theorem op_hut {sh : Sh} {R : RR} {m : MI} (H : Rel sh R m) : ∃ v sh' R' m1 m2, CallOK YX6_hut sh R m [.ref 0] (.int v) sh' R' m1 ∧ fM_hut m1 = some (v, m2) ∧ Rel sh' R' m2 := by
  have H0 := H
  have hF := Fx_of H.2.2.2.2.2
  obtain ⟨⟨n, s, l, q, nn, se, bo, h1, h2, h3, h4, h5, h6, h7, h8, h9, h10, h11, h12, h13, h14, h15⟩, hTap, hAct, ⟨len, hlen, t1, t2, t3⟩, hFix, ⟨ls, a1, a2, a3, a4, a5, a6, a7, a8, ⟨hw, b1, b2⟩, a10⟩⟩ := H
  obtain ⟨f, hf⟩ : ∃ f, f = ls.length := ⟨_, rfl⟩
  rw [← hf] at a1 a5 a6 a7 a8 b2 a10
  by_cases f6 : f = 6
  · subst f6
    refine ⟨-4, sh, R, m, m, ⟨false, 75, 0, 0, by omega, by omega, by omega, sC_hut0 hF (by rw [a6]; decide) _ rfl⟩, ?_, H0⟩
    unfold fM_hut
    rw [a7, if_pos (by decide)]
  have hf5 : f ≤ 5 := by omega
  obtain ⟨T, hT⟩ : ∃ T : Nat → Nat, ∀ i, i < len → T i ≤ 127 ∧ m.1 67 i = nI (T i) := ⟨fun i => (m.1 67 i).toNatClampNeg, fun i hi => by
    obtain ⟨c, hc, e⟩ := (t3 i hi).2
    show (m.1 67 i).toNatClampNeg ≤ 127 ∧ m.1 67 i = nI (m.1 67 i).toNatClampNeg
    rw [e, nI_clamp (by omega)]
    exact ⟨hc, rfl⟩⟩
  obtain ⟨F, hF1⟩ : ∃ F : Nat, F = 1000 := ⟨_, rfl⟩
  -- the class
  obtain ⟨mS, hmS⟩ : ∃ mS, mS = mI (mI m 44 (upd (m.1 44) len (-1))) 43 (upd (upd (upd (upd (m.1 43) 1 0) 3 1) 4 0) 5 0) := ⟨_, rfl⟩
  have eAll : fP_readsAll m = fP_readsAll_l32 (fun m8 _ => some (0, m8)) F mS (nI 1) := by
    unfold fP_readsAll
    rw [t1, if_pos (ck_nI (by omega) (by omega)), cl_nI (by omega), ← hF1]
    simp only [lm, mI_s, mI_mI]
    rw [mI_n (show (43 : Nat) ≠ 44 by decide), ← hmS]
    rfl
  have S44 : mS.1 44 = upd (m.1 44) len (-1) := by rw [hmS, mI_n (by decide), mI_s]
  have S43 : mS.1 43 = upd (upd (upd (upd (m.1 43) 1 0) 3 1) 4 0) 5 0 := by rw [hmS, mI_s]
  have So : ∀ k, k ≠ 43 → k ≠ 44 → mS.1 k = m.1 k := fun k e1 e2 => by rw [hmS, mI_n e1, mI_n e2]
  have SJ : mS.2 = m.2 := by rw [hmS]; rfl
  have hCT : CT mS T len := ⟨hlen, fun i hi => ⟨(hT i hi).1, by rw [S44, upd_n (by omega), (t3 i hi).1]; exact (hT i hi).2⟩, by rw [S44, upd_s]⟩
  have hXS : XS mS mS 0 [] 1 0 := ⟨rfl, fun _ _ _ => rfl, rfl, by rw [S43]; rfl, by rw [S43]; rfl, by rw [S43]; rfl, by rw [S43]; rfl, fun i hi => absurd hi (Nat.not_lt_zero _)⟩
  have hC := C_tx hCT (by rw [S43, upd_n (by decide), upd_n (by decide), upd_n (by decide), upd_n (by decide)]; exact t1) 10 1 F 0 mS [] 1 0 (by omega) (by omega) (by omega) (by omega) (by omega) (by show 0 ≤ 0; omega) hXS
  -- the reference, from any memory that the class leaves
  have ref : ∀ mA : MI, mA.1 61 = m.1 61 → (∀ i, i < len → mA.1 67 i = m.1 67 i) → mA.1 75 = m.1 75 → ∃ mB, XR mB mB f 0 [] ∧ mB.2 = mA.2 ∧ (∀ k, k ≠ 61 → mB.1 k = mA.1 k) ∧ (∀ i, i ≠ 13 → i ≠ 23 → mB.1 61 i = m.1 61 i) ∧ RT mB T len ∧ (∀ i, i < 16 → mB.1 75 i = letT.getD i 0) ∧ fM_goesText mA (nI f) = fM_goesText_l15 (nI f) (fun m4 _ => some (0, m4)) F mB (nI ([] : List Cla).length) := fun mA e61 e67 e75 => by
    obtain ⟨mB, hmB⟩ : ∃ mB, mB = mI mA 61 (upd (upd (mA.1 61) 13 0) 23 (nI (100 * f))) := ⟨_, rfl⟩
    have B61 : mB.1 61 = upd (upd (mA.1 61) 13 0) 23 (nI (100 * f)) := by rw [hmB, mI_s]
    have Bo : ∀ k, k ≠ 61 → mB.1 k = mA.1 k := fun k hk => by rw [hmB, mI_n hk]
    refine ⟨mB, ⟨⟨rfl, fun _ _ => rfl, fun _ _ => rfl, fun _ _ => rfl, fun _ _ _ _ _ => rfl, fun _ _ => rfl, by rw [B61]; rfl⟩, by rw [B61, upd_s]; rfl, fun c cl hc => by simp at hc⟩, by rw [hmB]; rfl, Bo, fun i e1 e2 => by rw [B61, upd_n e2, upd_n e1, e61], ⟨hlen, fun i hi => ⟨(hT i hi).1, by rw [Bo 67 (by decide), e67 i hi]; exact (hT i hi).2⟩, by rw [B61, upd_n (by decide), upd_n (by decide), e61]; exact t2⟩, fun i hi => by rw [Bo 75 (by decide), e75]; exact hFix.2.2.2 i hi, ?_⟩
    unfold fM_goesText
    rw [← hF1]
    simp only [lm, mI_s, mI_mI, show (100 : Int32) * nI f = nI (100 * f) from pk_mul 100 f]
    rw [← hmB]
    rfl
  have c6 : ¬ nI f = 6 := fun e => f6 ((nI_eq (b := 6) (by omega) (by omega)).mp e)
  have lt6 : m.1 0 7 < 6 := by rw [a6]; exact nI_lt (b := 6) (by omega) (by omega)
  cases htx : txP T len 10 0 with
  | inl qq =>
    rw [htx] at hC
    obtain ⟨m1, Sg, s', l', e1, X1, hqq⟩ := hC
    rw [← eAll] at e1
    obtain ⟨mA, hmA⟩ : ∃ mA, mA = mI m1 43 (upd (m1.1 43) 0 0) := ⟨_, rfl⟩
    have Ao : ∀ k, k ≠ 43 → k ≠ 44 → k ≠ 45 → mA.1 k = m.1 k := fun k k1 k2 k3 => by rw [hmA, mI_n k1, X1.2.1 k k1 k3, So k k1 k2]
    have AJ : mA.2 = m.2 := by rw [hmA]; exact X1.1.trans SJ
    obtain ⟨mB, BX, BJ, Bo, B61, BT, B75, eG⟩ := ref mA (Ao 61 (by decide) (by decide) (by decide)) (fun i _ => by rw [Ao 67 (by decide) (by decide) (by decide)]) (Ao 75 (by decide) (by decide) (by decide))
    have hR := R_tx BT B75 hf5 10 F 0 mB [] rfl (by omega) (by omega) (Nat.zero_le _) (Nat.zero_le _) BX
    rw [htx] at hR
    obtain ⟨m2, e2, X2⟩ := hR
    obtain ⟨m3, hm3⟩ : ∃ m3, m3 = mI m2 61 (upd (m2.1 61) 12 0) := ⟨_, rfl⟩
    have c13 : m3.1 61 13 = nI qq := by rw [hm3, mI_s, upd_n (by decide)]; exact X2.2.2.2.2.2.2
    have hFrm : Frm f m m3 := by
      obtain ⟨x1, x2, x3, x4, x5, x6, x7⟩ := X2
      refine ⟨fun k _ => by rw [hm3]; show m2.2 k = _; rw [x1, BJ, AJ], fun k _ hk => ?_, fun k k1 k2 => ?_, fun i hi => ?_, fun i hi => ?_, fun i hi => ?_, fun i hi => ?_, fun k i k1 k2 hi => ?_, fun i hi => ?_⟩
      · simp only [List.mem_cons, List.not_mem_nil, or_false, not_or] at hk
        rw [hm3, mI_n (by omega), x2 k (by simp only [List.mem_cons, List.not_mem_nil, or_false, not_or]; omega), Bo k (by omega), Ao k (by omega) (by omega) (by omega)]
      · rw [hm3, mI_n (by omega), x2 k (by simp only [List.mem_cons, List.not_mem_nil, or_false, not_or]; omega), Bo k (by omega), Ao k (by omega) (by omega) (by omega)]
      · rw [hm3, mI_n (by decide), x2 0 (by decide), Bo 0 (by decide), Ao 0 (by decide) (by decide) (by decide)]
      · rw [hm3, mI_n (by decide), x2 1 (by decide), Bo 1 (by decide), Ao 1 (by decide) (by decide) (by decide)]
      · simp only [List.mem_cons, List.not_mem_nil, or_false, not_or] at hi
        rw [hm3, mI_s, upd_n (by omega), x3 i (by simp only [List.mem_cons, List.not_mem_nil, or_false, not_or]; omega), B61 i (by omega) (by omega)]
      · rw [hm3, mI_n (by decide), x4 i hi, Bo 68 (by decide), Ao 68 (by decide) (by decide) (by decide)]
      · rw [hm3, mI_n (by omega), x5 k i k1 k2 hi, Bo k (by omega), Ao k (by omega) (by omega) (by omega)]
      · rw [hm3, mI_n (by decide), x6 i hi, Bo 73 (by decide), Ao 73 (by decide) (by decide) (by decide)]
    -- what this case leaves besides
    have g0 : m3.1 0 = m.1 0 := by rw [hm3, mI_n (by decide), X2.2.1 0 (by decide), Bo 0 (by decide), Ao 0 (by decide) (by decide) (by decide)]
    have g1 : m3.1 1 = m.1 1 := by rw [hm3, mI_n (by decide), X2.2.1 1 (by decide), Bo 1 (by decide), Ao 1 (by decide) (by decide) (by decide)]
    have g61 : ∀ i, i ∉ [12, 13, 14, 23, 24, 25] → m3.1 61 i = m.1 61 i := fun i hi => by
      simp only [List.mem_cons, List.not_mem_nil, or_false, not_or] at hi
      rw [hm3, mI_s, upd_n (by omega), X2.2.2.1 i (by simp only [List.mem_cons, List.not_mem_nil, or_false, not_or]; omega), B61 i (by omega) (by omega)]
    have g43 : m3.1 43 0 = 0 := by rw [hm3, mI_n (by decide), X2.2.1 43 (by decide), Bo 43 (by decide), hmA, mI_s, upd_s]
    refine ⟨-10 - nI qq, sh, R, mA, m3, ⟨false, 75, 0, 0, by omega, by omega, by omega, ?_⟩, ?_, ?_⟩
    · have := sC_hut1 hF lt6 e1 _ rfl
      rw [X1.2.2.2.2.2.1, ← hmA] at this
      exact this
    · unfold fM_hut
      rw [show mA.1 61 10 = nI f by rw [Ao 61 (by decide) (by decide) (by decide)]; exact a7, if_neg c6, eG, e2]
      simp only [Option.bind_some, if_true, lm]
      rw [← hm3, c13]
    · refine ⟨Core_congr (fun j _ => by rw [g1]) (fun j hj => g61 j (by simp only [List.mem_cons, List.not_mem_nil, or_false] at hj ⊢; omega)) (fun k hk => Frm_r hFrm (by simp only [List.mem_cons, List.not_mem_nil, or_false] at hk; omega) (by simp only [List.mem_cons, List.not_mem_nil, or_false] at hk ⊢; omega)) H0.1, Frm_Tap hFrm hTap, Frm_Act hFrm hAct, ⟨0, by omega, g43, by rw [hm3, mI_s, upd_s]; rfl, fun i hi => absurd hi (Nat.not_lt_zero _)⟩, Frm_Fix hFrm hFix, ⟨ls, by omega, a2, a3, a4, by rw [← hf]; exact a5, by rw [g0, ← hf]; exact a6, by rw [g61 10 (by decide), ← hf]; exact a7, fun j hj => HRep_loc (show j < f by omega) (fun k s h => h) hFrm.2.2.1 hFrm.2.2.2.2.2.2.1 hFrm.2.2.2.2.2.2.2.1 hFrm.2.2.2.2.2.2.2.2 (a8 j (by omega)), ⟨hw, b1, by rw [g61 11 (by decide), ← hf]; exact b2⟩, ?_⟩⟩
      rw [g0, g61 46 (by decide), g61 47 (by decide), ← hf]
      rcases a10 with a | ⟨x1, x2, x3, x4⟩
      · exact Or.inl a
      · exact Or.inr ⟨x1, x2, x3, Frm_Cor2 hFrm x4⟩
  | inr r =>
    obtain ⟨qq, cs⟩ := r
    rw [htx] at hC
    obtain ⟨m1, e1, X1, hN1, hcs, hcl⟩ := hC
    rw [← eAll] at e1
    rw [List.nil_append] at X1 hN1
    obtain ⟨N, hN⟩ : ∃ N, N = (flat cs).length := ⟨_, rfl⟩
    rw [← hN] at hN1
    have hx := lastN_lt (cs := cs) (w := 2) (d := 1) hcs (by omega)
    have hy := lastN_lt (cs := cs) (w := 3) (d := 0) hcs (by omega)
    obtain ⟨x, hxe⟩ : ∃ x, x = lastN cs 2 1 := ⟨_, rfl⟩
    obtain ⟨y, hye⟩ : ∃ y, y = lastN cs 3 0 := ⟨_, rfl⟩
    rw [← hxe] at hx
    rw [← hye] at hy
    rw [← hxe, ← hye] at X1
    obtain ⟨a, ha⟩ : ∃ a, a = max 1 (min 3 x) := ⟨_, rfl⟩
    obtain ⟨z, hz⟩ : ∃ z, z = min 9 y := ⟨_, rfl⟩
    obtain ⟨mA, hmA⟩ : ∃ mA, mA = mI m1 43 (upd (m1.1 43) 0 0) := ⟨_, rfl⟩
    have Ao : ∀ k, k ≠ 43 → k ≠ 44 → k ≠ 45 → mA.1 k = m.1 k := fun k k1 k2 k3 => by rw [hmA, mI_n k1, X1.2.1 k k1 k3, So k k1 k2]
    have AJ : mA.2 = m.2 := by rw [hmA]; exact X1.1.trans SJ
    have A3 : mA.1 43 3 = nI x := by rw [hmA, mI_s, upd_n (by decide)]; exact X1.2.2.2.1
    have A4 : mA.1 43 4 = nI y := by rw [hmA, mI_s, upd_n (by decide)]; exact X1.2.2.2.2.1
    have A45 : ∀ i, i < N → mA.1 45 i = (flat cs).getD i 0 := fun i hi => by rw [hmA, mI_n (by decide)]; exact X1.2.2.2.2.2.2.2 i (by omega)
    obtain ⟨L, hL⟩ : ∃ L, sh.length = L := ⟨_, rfl⟩
    have hLf : L = 99 + 2 * f := by rw [← hL, a2, List.length_append, base_len, hutSh_len, ← hf]
    rw [hL] at a4
    obtain ⟨R2, hR2⟩ : ∃ R2, R2 = ur (nhR R L) 1 (va_up (nhR R L 1) 15 (some L)) := ⟨_, rfl⟩
    have R2o : ∀ k, k ≠ 1 → k ≠ L → k ≠ L + 1 → R2 k = R k := fun k k1 k2 k3 => by rw [hR2, ur_n k1, nhR_o k2 k3]
    have R2L : R2 L 2 = some (L + 1) := by rw [hR2, ur_n (by omega)]; exact nhR_L
    have R215 : R2 1 15 = some L := by rw [hR2, ur_s]; rfl
    have hFn : Fx (sh ++ [(11, 0)] ++ [(0, N)]) (nhR R L) := ⟨fun k s h => by
      have := hF.1 k s h
      rw [List.append_assoc, List.getElem?_append_left (List.getElem?_eq_some_iff.mp this).1]
      exact this, fun k j v e => by
      have := tbR_lt e
      rw [nhR_o (by omega) (by omega)]
      exact hF.2 k j v e⟩
    have hF2 : Fx (sh ++ [(11, 0)] ++ [(0, N)]) R2 := by rw [hR2]; exact Fx_hut hFn (Or.inl rfl)
    obtain ⟨mN, hmN⟩ : ∃ mN, mN = nhE mA L N (mA.1 43 3) (mA.1 43 4) := ⟨_, rfl⟩
    have NL : mN.1 L = upd (upd (fun _ => 0) 0 (nI a)) 1 (nI z) := by rw [hmN, nhE_row, A3, A4, clampH hx, clampM hy, ← ha, ← hz]
    have NS_ : ∀ i, i < N → mN.1 (L + 1) i = (flat cs).getD i 0 := fun i hi => by rw [hmN, nhE_sig (by omega) (by omega) hi]; exact A45 i hi
    have No : ∀ k, k ≠ L → k ≠ L + 1 → mN.1 k = mA.1 k ∧ mN.2 k = mA.2 k := fun k k1 k2 => by rw [hmN]; exact nhE_o k1 k2
    have sL : (sh ++ [((11, 0) : Nat × Nat)] ++ [((0, N) : Nat × Nat)])[L]? = some (11, 0) := by
      rw [List.append_assoc, ← hL, List.getElem?_append_right (Nat.le_refl _), Nat.sub_self]; rfl
    have sL1 : (sh ++ [((11, 0) : Nat × Nat)] ++ [((0, N) : Nat × Nat)])[L + 1]? = some (0, N) := by
      rw [List.append_assoc, ← hL, List.getElem?_append_right (by omega), show sh.length + 1 - sh.length = 1 by omega]; rfl
    have hmk := W_mk2 (m' := mN) (n := n) R215 sL (by omega) (show a ≤ 3 by omega) (show z ≤ 9 by omega) (by rw [NL]; rfl) (by rw [NL, upd_s]) h1.1 (by rw [(No 1 (by omega) (by omega)).1, Ao 1 (by decide) (by decide) (by decide)]; exact h1.2.1)
    obtain ⟨m3, hm3⟩ : ∃ m3, m3 = mI mN 1 (upd (upd (upd (mN.1 1) 6 (nI a)) 7 (nI (n + z - a))) 8 0) := ⟨_, rfl⟩
    rw [← hm3] at hmk
    have M07 : m3.1 0 7 = nI f := by rw [hm3, mI_n (by decide), (No 0 (by omega) (by omega)).1, Ao 0 (by decide) (by decide) (by decide)]; exact a6
    obtain ⟨m4, hm4⟩ : ∃ m4, m4 = mI m3 0 (upd (m3.1 0) 7 (nI (f + 1))) := ⟨_, rfl⟩
    have M4o : ∀ k, k ≠ 0 → k ≠ 1 → k ≠ L → k ≠ L + 1 → m4.1 k = mA.1 k := fun k k1 k2 k3 k4 => by rw [hm4, mI_n k1, hm3, mI_n k2, (No k k3 k4).1]
    have M4J : ∀ k, k ≠ L → k ≠ L + 1 → m4.2 k = m.2 k := fun k k3 k4 => by rw [hm4]; show m3.2 k = _; rw [hm3]; show mN.2 k = _; rw [(No k k3 k4).2, AJ]
    have M41 : m4.1 1 = upd (upd (upd (m.1 1) 6 (nI a)) 7 (nI (n + z - a))) 8 0 := by rw [hm4, mI_n (by decide), hm3, mI_s, (No 1 (by omega) (by omega)).1, Ao 1 (by decide) (by decide) (by decide)]
    have M40 : m4.1 0 = upd (m.1 0) 7 (nI (f + 1)) := by rw [hm4, mI_s, hm3, mI_n (by decide), (No 0 (by omega) (by omega)).1, Ao 0 (by decide) (by decide) (by decide)]
    have M4L : m4.1 L = upd (upd (fun _ => 0) 0 (nI a)) 1 (nI z) := by rw [hm4, mI_n (by omega), hm3, mI_n (by omega), NL]
    have M4S : ∀ i, i < N → m4.1 (L + 1) i = (flat cs).getD i 0 := fun i hi => by rw [hm4, mI_n (by omega), hm3, mI_n (by omega)]; exact NS_ i hi
    obtain ⟨mB, BX, BJ, Bo, B61, BT, B75, eG⟩ := ref m4 (by rw [M4o 61 (by decide) (by decide) (by omega) (by omega), Ao 61 (by decide) (by decide) (by decide)]) (fun i _ => by rw [M4o 67 (by decide) (by decide) (by omega) (by omega), Ao 67 (by decide) (by decide) (by decide)]) (by rw [M4o 75 (by decide) (by decide) (by omega) (by omega), Ao 75 (by decide) (by decide) (by decide)])
    have hRr := R_tx BT B75 hf5 10 F 0 mB [] rfl (by omega) (by omega) (Nat.zero_le _) (Nat.zero_le _) BX
    rw [htx] at hRr
    simp only [List.nil_append] at hRr
    obtain ⟨m5, e5, ⟨X5, -, RC5⟩, k68, hcnt⟩ := hRr
    obtain ⟨m6, hm6⟩ : ∃ m6, m6 = mI m5 61 (upd (upd (upd (m5.1 61) 12 0) 11 (nI f)) 10 (nI (f + 1))) := ⟨_, rfl⟩
    have f10 : m5.1 61 10 = nI f := by rw [X5.2.2.1 10 (by decide), B61 10 (by decide) (by decide)]; exact a7
    have M6o : ∀ k, k ∉ [61, 68, 69, 70, 71, 72, 73, 74] → m6.1 k = m4.1 k := fun k hk => by
      have hk' := hk
      simp only [List.mem_cons, List.not_mem_nil, or_false, not_or] at hk
      rw [hm6, mI_n (by omega), X5.2.1 k hk', Bo k (by omega)]
    have M661 : ∀ i, i ∉ [10, 11, 12, 13, 14, 23, 24, 25] → m6.1 61 i = m.1 61 i := fun i hi => by
      simp only [List.mem_cons, List.not_mem_nil, or_false, not_or] at hi
      rw [hm6, mI_s, upd_n (by omega), upd_n (by omega), upd_n (by omega), X5.2.2.1 i (by simp only [List.mem_cons, List.not_mem_nil, or_false, not_or]; omega), B61 i (by omega) (by omega)]
    have M6r : ∀ k, 68 ≤ k → k ≤ 73 → m6.1 k = m5.1 k := fun k k1 k2 => by rw [hm6, mI_n (by omega)]
    have B68 : ∀ k, 68 ≤ k → k ≤ 73 → mB.1 k = m.1 k := fun k k1 k2 => by rw [Bo k (by omega), M4o k (by omega) (by omega) (by omega) (by omega), Ao k (by omega) (by omega) (by omega)]
    have hFrm : Frm f m m6 := by
      refine ⟨fun k hk => by rw [hm6]; show m5.2 k = _; rw [X5.1, BJ]; exact M4J k (by omega) (by omega), fun k hk hk2 => ?_, fun k k1 k2 => ?_, fun i hi => ?_, fun i hi => ?_, fun i hi => M661 i (fun w => hi (by simp only [List.mem_cons, List.not_mem_nil, or_false] at w ⊢; omega)), fun i hi => ?_, fun k i k1 k2 hi => ?_, fun i hi => ?_⟩
      · simp only [List.mem_cons, List.not_mem_nil, or_false, not_or] at hk2
        rw [M6o k (by simp only [List.mem_cons, List.not_mem_nil, or_false, not_or]; omega), M4o k (by omega) (by omega) (by omega) (by omega), Ao k (by omega) (by omega) (by omega)]
      · rw [M6o k (by simp only [List.mem_cons, List.not_mem_nil, or_false, not_or]; omega), M4o k (by omega) (by omega) (by omega) (by omega), Ao k (by omega) (by omega) (by omega)]
      · rw [M6o 0 (by decide), M40, upd_n hi]
      · simp only [List.mem_cons, List.not_mem_nil, or_false, not_or] at hi
        rw [M6o 1 (by decide), M41, upd_n (by omega), upd_n (by omega), upd_n (by omega)]
      · rw [M6r 68 (by omega) (by omega), X5.2.2.2.1 i hi, B68 68 (by omega) (by omega)]
      · rw [M6r k (by omega) (by omega), X5.2.2.2.2.1 k i k1 k2 hi, B68 k (by omega) (by omega)]
      · rw [M6r 73 (by omega) (by omega), X5.2.2.2.2.2.1 i hi, B68 73 (by omega) (by omega)]
    have hnew : HRep (sh ++ [(11, 0)] ++ [(0, N)]) m6 f := by
      refine ⟨cs, hcl, hcs, by omega, ?_, fun i hi => ?_, ?_, ?_, ?_, fun c hc => ?_⟩
      · rw [← hN, show 100 + 2 * f = L + 1 by omega]; exact sL1
      · rw [show 100 + 2 * f = L + 1 by omega, M6o _ (by simp only [List.mem_cons, List.not_mem_nil, or_false, not_or]; omega)]; exact M4S i (by omega)
      · rw [← hLf, M6o _ (by simp only [List.mem_cons, List.not_mem_nil, or_false, not_or]; omega), M4L, ← hxe, ← ha]; rfl
      · rw [← hLf, M6o _ (by simp only [List.mem_cons, List.not_mem_nil, or_false, not_or]; omega), M4L, upd_s, ← hye, ← hz]
      · rw [M6r 68 (by omega) (by omega)]; exact k68
      · obtain ⟨d1, d2, d3⟩ := RC5 c cs[c] (List.getElem?_eq_getElem hc)
        refine ⟨cs[c], List.getElem?_eq_getElem hc, by rw [M6r 69 (by omega) (by omega)]; exact d1, by rw [M6r 70 (by omega) (by omega)]; exact d2, fun hw2 => ?_⟩
        obtain ⟨fr, u1, u2, u3, u4, u5⟩ := d3 hw2
        refine ⟨fr, by omega, by rw [M6r 71 (by omega) (by omega)]; exact u3, by rw [M6r 72 (by omega) (by omega)]; exact u4, by omega, fun i hi => ?_⟩
        rw [M6r 73 (by omega) (by omega)]; exact u5 i hi
    have hsh : ∀ (k : Nat) (s : Nat × Nat), sh[k]? = some s → (sh ++ [((11, 0) : Nat × Nat)] ++ [((0, N) : Nat × Nat)])[k]? = some s := fun k s h => by
      rw [List.append_assoc, List.getElem?_append_left (List.getElem?_eq_some_iff.mp h).1]; exact h
    have l2 : (sh ++ [((11, 0) : Nat × Nat)] ++ [((0, N) : Nat × Nat)]).length = L + 2 := by rw [List.length_append, List.length_append, hL]; rfl
    have HA : ∀ h t, HutAt f h t → HutAt (f + 1) h t := fun h t w => w.imp id (fun ⟨j, j1, j2, j3⟩ => ⟨j, by omega, j2, j3⟩)
    have hH6 : Huts (sh ++ [(11, 0)] ++ [(0, N)]) R2 m6 := by
      have l1 : (ls ++ [N]).length = f + 1 := by rw [List.length_append, hf]; rfl
      refine ⟨ls ++ [N], by rw [l1]; omega, by rw [hutSh_app, ← a2], hF2.2, ?_, fun j hj => ?_, ?_, ?_, fun j hj => ?_, ⟨L, R215, ?_⟩, ?_⟩
      · rw [l2, hR2]
        have k1 : Rok (L + 1) (zR R L) := Rok_zR a4 (by omega)
        have k2 : Rok (L + 2) (zR (zR R L) (L + 1)) := Rok_zR (n := L + 1) k1 (by omega)
        exact Rok_put (Rok_put k2 (by omega)) (by omega)
      · rw [l1] at hj
        by_cases e : j = f
        · subst e
          rw [← hLf, R2L, show 100 + 2 * j = L + 1 by omega]
        · rw [R2o _ (by omega) (by omega) (by omega)]; exact a5 j (by omega)
      · rw [l1, M6o 0 (by decide), M40, upd_s]
      · rw [l1, hm6, mI_s, upd_s]
      · rw [l1] at hj
        by_cases e : j = f
        · subst e; exact hnew
        · exact HRep_loc (show j < f by omega) hsh hFrm.2.2.1 hFrm.2.2.2.2.2.2.1 hFrm.2.2.2.2.2.2.2.1 hFrm.2.2.2.2.2.2.2.2 (a8 j (by omega))
      · rw [l1]
        exact Or.inr ⟨f, by omega, by rw [hm6, mI_s]; rfl, hLf⟩
      · rw [l1, M6o 0 (by decide), M40, upd_n (by decide), M661 46 (by decide), M661 47 (by decide), R2o 19 (by decide) (by omega) (by omega)]
        rcases a10 with w | ⟨x1, x2, ⟨hk, x3, x4⟩, x5⟩
        · exact Or.inl w
        · exact Or.inr ⟨x1, x2, ⟨hk, x3, HA _ _ x4⟩, Frm_Cor2 hFrm x5⟩
    have hFix6 := Frm_Fix hFrm hFix
    obtain ⟨hw2, a', z', hCur⟩ := cur_hut hH6 hFix6
    have ehw : hw2 = L := by
      have := hCur.1
      rw [R215] at this
      exact (Option.some.inj this).symm
    subst ehw
    have ea' : a' = a := by
      have := hCur.2.2.2.2.2.1
      rw [M6o _ (by simp only [List.mem_cons, List.not_mem_nil, or_false, not_or]; omega), M4L] at this
      exact ((nI_eq (by omega) (by have := hCur.2.2.2.1; omega)).mp this).symm
    have ez' : z' = z := by
      have := hCur.2.2.2.2.2.2.1
      rw [M6o _ (by simp only [List.mem_cons, List.not_mem_nil, or_false, not_or]; omega), M4L, upd_s] at this
      exact ((nI_eq (by omega) (by have := hCur.2.2.2.2.1; omega)).mp this).symm
    subst ea'
    subst ez'
    have hlay := M_lay (m' := m6) hCur h1.1 (by rw [M661 0 (by decide)]; exact h1.2.2) rfl rfl rfl rfl
    obtain ⟨m7, hm7⟩ : ∃ m7, m7 = mI m6 61 (upd (upd (upd (m6.1 61) 2 (nI a')) 3 (nI (n + z' - a'))) 4 0) := ⟨_, rfl⟩
    rw [← hm7] at hlay
    have M7o : ∀ k, k ≠ 61 → m7.1 k = m6.1 k := fun k hk => by rw [hm7, mI_n hk]
    have M761 : ∀ i, i ≠ 2 → i ≠ 3 → i ≠ 4 → m7.1 61 i = m6.1 61 i := fun i i1 i2 i3 => by rw [hm7, mI_s, upd_n i3, upd_n i2, upd_n i1]
    have hFrm7 : Frm f m m7 := by
      obtain ⟨y1, y2, y3, y4, y5, y6, y7, y8, y9⟩ := hFrm
      refine ⟨fun k hk => by rw [hm7]; exact y1 k hk, fun k hk hk2 => by rw [M7o k (fun e => hk2 (by subst e; simp))]; exact y2 k hk hk2, fun k k1 k2 => by rw [M7o k (by omega)]; exact y3 k k1 k2, fun i hi => by rw [M7o 0 (by decide)]; exact y4 i hi, fun i hi => by rw [M7o 1 (by decide)]; exact y5 i hi, fun i hi => ?_, fun i hi => by rw [M7o 68 (by decide)]; exact y7 i hi, fun k i k1 k2 hi => by rw [M7o k (by omega)]; exact y8 k i k1 k2 hi, fun i hi => by rw [M7o 73 (by decide)]; exact y9 i hi⟩
      have hi' := hi
      simp only [List.mem_cons, List.not_mem_nil, or_false, not_or] at hi'
      rw [M761 i (by omega) (by omega) (by omega)]; exact y6 i hi
    have r61 : ∀ i, i ∉ [2, 3, 4, 10, 11, 12, 13, 14, 23, 24, 25] → m7.1 61 i = m.1 61 i := hFrm7.2.2.2.2.2.1
    have r1 : ∀ i, i ∉ [6, 7, 8] → m7.1 1 i = m.1 1 i := hFrm7.2.2.2.2.1
    have r11 : m7.1 1 = upd (upd (upd (m.1 1) 6 (nI a')) 7 (nI (n + z' - a'))) 8 0 := by rw [M7o 1 (by decide), M6o 1 (by decide), M41]
    have rk : ∀ {k : Nat}, k < 99 → k ∉ [0, 1, 43, 44, 45, 61, 68, 69, 70, 71, 72, 73, 74] → m7.1 k = m.1 k := fun hk hk2 => Frm_r hFrm7 hk hk2
    refine ⟨nI f, sh ++ [(11, 0)] ++ [(0, N)], R2, m4, m7, ⟨true, 75, 2, 103, by omega, by omega, by omega, ?_⟩, ?_, ?_⟩
    · have := sC_hut2 hF lt6 e1 hmA hL (by omega) (by omega) a4 (show N < 100 by omega) (by rw [X1.2.2.2.2.2.2.1, hN]) (by rw [← hR2]; exact hF2) (by rw [← hR2, ← hmN]; exact hmk) _ rfl
      rw [M07, nI_1, ← hm4, ← hR2] at this
      exact this
    · unfold fM_hut
      rw [show m4.1 61 10 = nI f by rw [M4o 61 (by decide) (by decide) (by omega) (by omega), Ao 61 (by decide) (by decide) (by decide)]; exact a7, if_neg c6, eG, e5]
      simp only [Option.bind_some, if_neg (show ¬ (1 : Int32) = 0 by decide), lm, mI_s, mI_mI, upd_n (show (10 : Nat) ≠ 12 by decide), upd_n (show (10 : Nat) ≠ 11 by decide), f10, nI_1]
      rw [← hm6, hlay]
      simp only [Option.bind_some]
      rw [M761 11 (by decide) (by decide) (by decide), show m6.1 61 11 = nI f by rw [hm6, mI_s]; rfl]
    · refine ⟨⟨n, a', n + z' - a', 0, nn, se, bo, ⟨h1.1, by rw [r1 0 (by decide)]; exact h1.2.1, by rw [r61 0 (by decide)]; exact h1.2.2⟩, ⟨by omega, by omega, by rw [r11]; rfl, by rw [hm7, mI_s]; rfl⟩, ⟨by omega, by rw [r11]; rfl, by rw [hm7, mI_s]; rfl⟩, ⟨by omega, by rw [r11]; rfl, by rw [hm7, mI_s]; rfl⟩, ⟨h5.1, by rw [r1 9 (by decide)]; exact h5.2.1, by rw [r61 1 (by decide)]; exact h5.2.2⟩, ⟨h6.1, by rw [r1 10 (by decide)]; exact h6.2.1, by rw [r61 41 (by decide)]; exact h6.2.2⟩, ⟨h7.1, by rw [r1 13 (by decide)]; exact h7.2.1, by rw [r61 44 (by decide)]; exact h7.2.2⟩, ?_⟩, Frm_Tap hFrm7 hTap, Frm_Act hFrm7 hAct, ⟨0, by omega, ?_, ?_, fun i hi => absurd hi (Nat.not_lt_zero _)⟩, Frm_Fix hFrm7 hFix, ?_⟩
      · rw [rk (k := 1 + 1) (by decide) (by decide), rk (k := 62) (by decide) (by decide), rk (k := 1 + 2) (by decide) (by decide), rk (k := 63) (by decide) (by decide), rk (k := 1 + 3) (by decide) (by decide), rk (k := 64) (by decide) (by decide), rk (k := 65) (by decide) (by decide), rk (k := 1 + 11) (by decide) (by decide), rk (k := 66) (by decide) (by decide), rk (k := 1 + 12) (by decide) (by decide), rk (k := 83) (by decide) (by decide), rk (k := 1 + 13) (by decide) (by decide), rk (k := 84) (by decide) (by decide), rk (k := 1 + 14) (by decide) (by decide), rk (k := 85) (by decide) (by decide)]
        exact ⟨h8, h9, h10, ⟨fun d p hd hp => by rw [rk (k := 1 + 4 + d) (by omega) (by simp only [List.mem_cons, List.not_mem_nil, or_false]; omega)]; exact h11.1 d p hd hp, h11.2⟩, h12, h13, h14, h15⟩
      · rw [M7o 43 (by decide), M6o 43 (by decide), M4o 43 (by decide) (by decide) (by omega) (by omega), hmA, mI_s, upd_s]; rfl
      · rw [M761 12 (by decide) (by decide) (by decide), hm6, mI_s]; rfl
      · refine Huts_congr (fun k hk => M7o k (by omega)) (fun k hk => M7o k (by omega)) (by rw [M7o 0 (by decide)]) (M761 10 (by decide) (by decide) (by decide)) (M761 11 (by decide) (by decide) (by decide)) (by rw [M7o 0 (by decide)]) (M761 46 (by decide) (by decide) (by decide)) (M761 47 (by decide) (by decide) (by decide)) (fun H => ?_) hH6
        exact Core_congr (fun j _ => by rw [M7o 19 (by decide)]) (fun j hj => M761 j (by simp only [List.mem_cons, List.not_mem_nil, or_false] at hj; omega) (by simp only [List.mem_cons, List.not_mem_nil, or_false] at hj; omega) (by simp only [List.mem_cons, List.not_mem_nil, or_false] at hj; omega)) (fun k hk => M7o k (by simp only [List.mem_cons, List.not_mem_nil, or_false] at hk; omega)) H
