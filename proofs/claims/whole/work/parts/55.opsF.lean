/-- ordR is o behind a map of places -/
def sg (p b i : Nat) : Nat := if i = b then p else if (if b < i then i - 1 else i) < p then (if b < i then i - 1 else i) else (if b < i then i - 1 else i) + 1
theorem ordR_sg {o : Nat → Int32} {p b i : Nat} {a : Int32} (h : o p = a) : ordR o p b a i = o (sg p b i) := by
  unfold ordR sg
  by_cases e : i = b
  · rw [if_pos e, if_pos e, h]
  · rw [if_neg e, if_neg e]
    by_cases c : (if b < i then i - 1 else i) < p
    · rw [if_pos c, if_pos c]
    · rw [if_neg c, if_neg c]
theorem sg_lt {p b i n : Nat} (hp : p < n) (hb : b < n) (hi : i < n) : sg p b i < n := by
  unfold sg
  split
  · exact hp
  · split <;> split <;> omega
theorem sg_inj {p b i j : Nat} (h : sg p b i = sg p b j) : i = j := by
  unfold sg at h
  repeat' split at h
  all_goals omega
theorem sg_surj {p b k n : Nat} (hp : p < n) (hb : b < n) (hk : k < n) : ∃ i, i < n ∧ sg p b i = k := by
  by_cases e : k = p
  · exact ⟨b, hb, by unfold sg; rw [if_pos rfl, e]⟩
  · obtain ⟨c, hc⟩ : ∃ c, c = if k < p then k else k - 1 := ⟨_, rfl⟩
    have hcn : c < n - 1 ∧ (if c < p then c else c + 1) = k := by
      rw [hc]
      by_cases h : k < p
      · simp only [if_pos h, and_true]; omega
      · simp only [if_neg h]
        rw [if_neg (by omega)]; omega
    refine ⟨if c < b then c else c + 1, by split <;> omega, ?_⟩
    unfold sg
    by_cases h : c < b
    · rw [if_pos h, if_neg (by omega), if_neg (show ¬ b < c by omega)]; exact hcn.2
    · rw [if_neg h, if_neg (by omega), if_pos (show b < c + 1 by omega), Nat.add_sub_cancel]; exact hcn.2
theorem op_place {sh : Sh} {R : RR} {m : MI} (a b : Int32) (H : Rel sh R m) : Ans sh R m (fun m => fC_place sh R m a b) (fun m => fM_place m a b) := by
  have H0 := H
  have hF := Fx_of H.2.2.2.2.2
  obtain ⟨hw, ha, hz, hC⟩ := cur_hut H.2.2.2.2.2 H.2.2.2.2.1
  have hC0 := hC
  obtain ⟨hr1, hs1, hd1, ha1, hz1, hv1, hv2, -⟩ := hC
  obtain ⟨⟨n, s, l, q, nn, se, bo, h1, h2, h3, h4, h5, h6, h7, h8, h9, h10, h11, h12, h13, h14, h15⟩, -⟩ := H
  obtain ⟨F, hF1⟩ : ∃ F : Nat, F = 1000 := ⟨_, rfl⟩
  obtain ⟨F', hF2, hF3⟩ : ∃ F' : Nat, F = F' + 1 ∧ 10 < F' := ⟨F - 1, by omega, by omega⟩
  have one : ¬ (1 : Int32) = 0 := by decide
  have e12 : m.1 12 = m.1 66 := h12.1
  rcases dcase (n := n) (by omega) a with hA | ⟨j, hj, rfl, hA⟩
  · exact ⟨-1, m, m, by simp [fC_place, W_has0 h1.2.1 hA], by simp [fM_place, M_isD0 (by omega) h1.2.2 hA], H0⟩
  rcases dcase (n := n) (by omega) b with hB | ⟨d, hd, rfl, hB⟩
  · refine ⟨-1, m, m, by simp [fC_place, W_has1 h1.2.1 hA, W_has0 h1.2.1 hB], ?_, H0⟩
    have : b < 0 ∨ nI n - 1 < b := by rwa [lt_pred (by omega)]
    simp [fM_place, M_isD1 (show n ≤ 1000 by omega) h1.2.2 hA, h1.2.2, M_in0 this]
  have hin : ¬ (nI d < 0 ∨ nI n - 1 < nI d) := by rwa [lt_pred (by omega)]
  obtain ⟨p, hp, hpa⟩ := h12.2.2.1 j hj
  have hq : ∀ k, k < n → m.1 66 k = nI j → k = p := fun k hk e => h12.2.2.2 k p hk hp (e.trans hpa.symm)
  have hq' : ∀ k, k < p → m.1 66 k ≠ nI j := fun k hk e => by have := hq k (by omega) e; omega
  have hCp : fW_placeOf m (nI j) = some (nI p, m) := by
    unfold fW_placeOf
    rw [show (0 : Int32) = nI 0 from rfl, ← hF1, W_pl h1.1 h1.2.1 hp (by rw [e12]; exact hpa) (by rw [e12]; exact hq') _ p 0 F (by omega) (by omega)]
  have hMp : ∀ m' : MI, m'.1 66 = m.1 66 → fM_placeOf m' (nI j) = some (nI p, m') := fun m' e => by
    unfold fM_placeOf
    rw [show (0 : Int32) = nI 0 from rfl, ← hF1, M_pl h1.1 hp (by rw [e]; exact hpa) (by rw [e]; exact hq') _ p 0 F (by omega) (by omega)]
  obtain ⟨g, w, g1, -, g3⟩ := C_ow (a := nI j) h1.1 hp hd (fun m3 _ _ => some m3) n 0 0 F m h1.2.1 (by rw [e12]; exact hpa) (by rw [e12]; exact hq) (by omega) (by omega) (by rw [if_neg (Nat.not_lt_zero _), if_pos (Nat.zero_le _)])
  have hCo : fW_orderWith_41 m (nI j) (nI d) = some (mI m 41 g) := by
    unfold fW_orderWith_41
    rw [← hF1]
    exact g3
  obtain ⟨o, ho⟩ : ∃ o : Nat → Int32, o = va_cpy g (m.1 12) 0 0 n := ⟨_, rfl⟩
  have ho1 : ∀ i, i < n → o i = m.1 66 (sg p d i) := fun i hi => by
    rw [ho]
    unfold va_cpy
    rw [if_pos (by omega), show 0 + (i - 0) = i by omega, g1 i (by omega) hi, ordR_sg (by rw [e12]; exact hpa), e12]
  have ho2 : ∀ i, n ≤ i → o i = m.1 66 i := fun i hi => by
    rw [ho]
    unfold va_cpy
    rw [if_neg (by omega), e12]
  obtain ⟨mA, hmA⟩ : ∃ mA, mA = mI (mI m 41 g) 12 o := ⟨_, rfl⟩
  have Ao : ∀ k, k ≠ 41 → k ≠ 12 → mA.1 k = m.1 k := fun k h h' => by rw [hmA, mI_n h', mI_n h]
  have hmk := W_make (m' := mA) (n := n) hC0 h1.1 (by rw [Ao 1 (by decide) (by decide)]; exact h1.2.1) (Ao hw (by omega) (by omega))
  rw [Ao 1 (by decide) (by decide)] at hmk
  obtain ⟨mB, hmB⟩ : ∃ mB, mB = mI mA 1 (upd (upd (upd (m.1 1) 6 (nI ha)) 7 (nI (n + hz - ha))) 8 0) := ⟨_, rfl⟩
  have Bo : ∀ k, k ∉ [1, 12, 41] → mB.1 k = m.1 k := fun k h => by
    simp only [List.mem_cons, List.not_mem_nil, or_false, not_or] at h
    rw [hmB, mI_n h.1, Ao k h.2.2 h.2.1]
  have e61 : mB.1 61 = m.1 61 := Bo _ (by decide)
  have e66 : mB.1 66 = m.1 66 := Bo _ (by decide)
  have hMo : fM_puts mB (nI j) (nI d) = some (mI mB 66 o) := by
    unfold fM_puts
    rw [hMp mB e66, ← hF1]
    simp only [Option.bind_some]
    by_cases c : p < d
    · obtain ⟨g', q1, q2, q3⟩ := M_p1 (b := d) (by omega) (nI j) (nI p) (fun m3 _ => fM_puts_l40 (nI j) (nI d) (nI p) (fun m5 _ => if ck (nI d) 6 = true then lm (mI m5 66 (upd (m5.1 66) (nI d).toNatClampNeg (nI j))) fun m7 => some m7 else none) F m3 (nI p)) (d - p) p F mB (by omega) (by omega)
      rw [q3, hF2, M_p2x (by omega) _ _ _ (by omega) (by omega), if_pos (ck_nI (by omega) (by omega)), cl_nI (by omega)]
      simp only [lm, mI_s, mI_mI]
      congr 2
      funext i
      rw [e66] at q1 q2
      by_cases ei : i = d
      · subst ei; rw [upd_s, ho1 i hd]; unfold sg; rw [if_pos rfl, hpa]
      · rw [upd_n ei]
        by_cases hi : i < n
        · rw [ho1 i hi]
          by_cases h : p ≤ i ∧ i < d
          · rw [q1 i h.1 h.2]; congr 1; unfold sg; rw [if_neg ei, if_neg (show ¬ d < i by omega), if_neg (by omega)]
          · rw [q2 i (by omega)]; congr 1; unfold sg; rw [if_neg ei]
            by_cases h' : d < i
            · rw [if_pos h', if_neg (by omega), Nat.sub_add_cancel (by omega)]
            · rw [if_neg h', if_pos (by omega)]
        · rw [q2 i (by omega), ho2 i (by omega)]
    · obtain ⟨g', q1, q2, q3⟩ := M_p2 (b := d) (by omega) (nI j) (nI p) (fun m5 _ => if ck (nI d) 6 = true then lm (mI m5 66 (upd (m5.1 66) (nI d).toNatClampNeg (nI j))) fun m7 => some m7 else none) (p - d) p F mB (by omega) (by omega) (by omega)
      have := M_p1x (f := F') (m := mB) (b := d) (k := p) (by omega) (nI j) (nI p) (fun m3 _ => fM_puts_l40 (nI j) (nI d) (nI p) (fun m5 _ => if ck (nI d) 6 = true then lm (mI m5 66 (upd (m5.1 66) (nI d).toNatClampNeg (nI j))) fun m7 => some m7 else none) F m3 (nI p)) (by omega) (by omega)
      rw [← hF2] at this
      rw [this, q3, if_pos (ck_nI (by omega) (by omega)), cl_nI (by omega)]
      simp only [lm, mI_s, mI_mI]
      congr 2
      funext i
      rw [e66] at q1 q2
      by_cases ei : i = d
      · subst ei; rw [upd_s, ho1 i hd]; unfold sg; rw [if_pos rfl, hpa]
      · rw [upd_n ei]
        by_cases hi : i < n
        · rw [ho1 i hi]
          by_cases h : d < i ∧ i ≤ p
          · rw [q1 i h.1 h.2]; congr 1; unfold sg; rw [if_neg ei, if_pos h.1, if_pos (by omega)]
          · rw [q2 i (by omega)]; congr 1; unfold sg; rw [if_neg ei]
            by_cases h' : d < i
            · rw [if_pos h', if_neg (by omega), Nat.sub_add_cancel (by omega)]
            · rw [if_neg h', if_pos (by omega)]
        · rw [q2 i (by omega), ho2 i (by omega)]
  obtain ⟨mC, hmC⟩ : ∃ mC, mC = mI mB 66 o := ⟨_, rfl⟩
  have Cm : ∀ k, k ∉ [1, 12, 41, 66] → mC.1 k = m.1 k := fun k h => by
    simp only [List.mem_cons, List.not_mem_nil, or_false, not_or] at h
    rw [hmC, mI_n (by omega), Bo k (by simp only [List.mem_cons, List.not_mem_nil, or_false]; omega)]
  have hml := M_lay (m' := mC) (n := n) hC0 h1.1 (by rw [Cm _ (by decide)]; exact h1.2.2) (by rw [Cm _ (by decide)]) (Cm _ (by decide)) (Cm _ (by decide)) (Cm _ (by decide))
  rw [Cm 61 (by decide)] at hml
  obtain ⟨mD, hmD⟩ : ∃ mD, mD = mI mC 61 (upd (upd (upd (m.1 61) 2 (nI ha)) 3 (nI (n + hz - ha))) 4 0) := ⟨_, rfl⟩
  refine ⟨nI p, mB, mD, ?_, ?_, ?_⟩
  · show fC_place sh R m (nI j) (nI d) = _
    unfold fC_place
    rw [W_has1 h1.2.1 hA]
    simp only [Option.bind_some, if_neg one]
    rw [W_has1 h1.2.1 hB]
    simp only [Option.bind_some, if_neg one]
    rw [hCp]
    simp only [Option.bind_some]
    rw [hCo]
    simp only [Option.bind_some, mI_n (show (1 : Nat) ≠ 41 by decide), h1.2.1]
    have hcp : cpk 0 0 (nI n) 6 6 = true := by
      unfold cpk
      rw [cl_nI (show n < 100000 by omega), show (0 : Int32).toNatClampNeg = 0 from rfl]
      simp [nI_pos (show n < 2 ^ 31 by omega)]
      omega
    rw [if_pos hcp, cl_nI (show n < 100000 by omega), mI_s, mI_n (show (12 : Nat) ≠ 41 by decide), show (0 : Int32).toNatClampNeg = 0 from rfl, ← ho, ← hmA]
    simp only [lm]
    rw [hmk, ← hmB]
    rfl
  · show fM_place mB (nI j) (nI d) = _
    unfold fM_place
    rw [M_isD1 (show n ≤ 1000 by omega) (by rw [e61]; exact h1.2.2) hA]
    simp only [Option.bind_some, if_neg one, e61, h1.2.2]
    rw [M_in1 hin]
    simp only [Option.bind_some, if_neg one]
    rw [hMp mB e66]
    simp only [Option.bind_some]
    rw [hMo, ← hmC]
    simp only [Option.bind_some]
    rw [hml, ← hmD]
    rfl
  · have Dm : ∀ k, k ∉ [1, 12, 41, 61, 66] → mD.1 k = m.1 k := fun k h => by
      simp only [List.mem_cons, List.not_mem_nil, or_false, not_or] at h
      rw [hmD, mI_n (by omega), Cm k (by simp only [List.mem_cons, List.not_mem_nil, or_false]; omega)]
    have D1 : mD.1 1 = upd (upd (upd (m.1 1) 6 (nI ha)) 7 (nI (n + hz - ha))) 8 0 := by rw [hmD, mI_n (by decide), hmC, mI_n (by decide), hmB, mI_s]
    have D61 : mD.1 61 = upd (upd (upd (m.1 61) 2 (nI ha)) 3 (nI (n + hz - ha))) 4 0 := by rw [hmD, mI_s]
    have D12 : mD.1 12 = o := by rw [hmD, mI_n (by decide), hmC, mI_n (by decide), hmB, mI_n (by decide), hmA, mI_s]
    have D66 : mD.1 66 = o := by rw [hmD, mI_n (by decide), hmC, mI_s]
    have R41 : Rel sh R (mI m 41 g) := Rel_pj (pj_row (fun _ => rfl)) H0
    refine Rel_core R41 ⟨n, ha, n + hz - ha, 0, nn, se, bo, ?_⟩ (fun k hk hk2 => ?_) (fun i hi => ?_) ?_
    · rw [D1, D61, D12, D66, Dm 2 (by decide), Dm 3 (by decide), Dm 4 (by decide), Dm 13 (by decide), Dm 14 (by decide), Dm 15 (by decide), Dm 62 (by decide), Dm 63 (by decide), Dm 64 (by decide), Dm 65 (by decide), Dm 83 (by decide), Dm 84 (by decide), Dm 85 (by decide)]
      refine ⟨⟨by omega, h1.2.1, h1.2.2⟩, ⟨by omega, by omega, rfl, rfl⟩, ⟨by omega, rfl, rfl⟩, ⟨by omega, rfl, rfl⟩, ⟨h5.1, h5.2.1, h5.2.2⟩, ⟨h6.1, h6.2.1, h6.2.2⟩, ⟨h7.1, h7.2.1, h7.2.2⟩, h8, h9, h10, ⟨fun d p hd hp => ?_, h11.2⟩, ⟨rfl, fun k hk => ?_, fun d' hd' => ?_, fun k k' hk hk' he => ?_⟩, h13, h14, h15⟩
      · rw [Dm (1 + 4 + d) (by simp only [List.mem_cons, List.not_mem_nil, or_false]; omega)]
        exact h11.1 d p hd hp
      · rw [ho1 k hk]; exact h12.2.1 _ (sg_lt hp hd hk)
      · obtain ⟨k, k1, k2⟩ := h12.2.2.1 d' hd'
        obtain ⟨i, i1, i2⟩ := sg_surj hp hd k1
        exact ⟨i, i1, by rw [ho1 i i1, i2]; exact k2⟩
      · rw [ho1 k hk, ho1 k' hk'] at he
        exact sg_inj (h12.2.2.2 _ _ (sg_lt hp hd hk) (sg_lt hp hd hk') he)
    · by_cases e : k = 41
      · subst e; rw [mI_s, hmD, mI_n (by decide), hmC, mI_n (by decide), hmB, mI_n (by decide), hmA, mI_n (by decide), mI_s]
      · rw [mI_n e]
        refine Dm k ?_
        simp only [List.mem_cons, List.not_mem_nil, or_false, not_or] at hk2 ⊢
        omega
    · simp only [List.mem_cons, List.not_mem_nil, or_false, not_or] at hi
      rw [D61, upd_n (by omega), upd_n (by omega), upd_n (by omega), mI_n (by decide)]
    · rw [hmD, hmC, hmB, hmA]; rfl
