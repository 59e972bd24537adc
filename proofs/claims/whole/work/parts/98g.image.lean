/-! IMAGE AND UNDO: class and reference -/
/-- rows of ints that differ behind their ends alone -/
def MEq (sh : Sh) (m m' : MI) : Prop := m'.2 = m.2 ∧ ∀ k s, sh[k]? = some s → m'.1 k = m.1 k ∨ ((s.1 = 0 ∨ s.1 = 2) ∧ ∀ i, i < s.2 → m'.1 k i = m.1 k i)
theorem MEq_r {sh : Sh} {m : MI} : MEq sh m m := ⟨rfl, fun _ _ _ => Or.inl rfl⟩
def sgm (k : Nat) : Nat := if k = 20 then 86 else if k = 21 then 87 else if k = 22 then 88 else if k = 30 then 89 else if k = 31 then 91 else if k = 32 then 93 else if k = 33 then 92 else k
theorem sgm_o {k : Nat} (h : k ≠ 20 ∧ k ≠ 21 ∧ k ≠ 22 ∧ k ≠ 30 ∧ k ≠ 31 ∧ k ≠ 32 ∧ k ≠ 33) : sgm k = k := by
  unfold sgm
  rw [if_neg h.1, if_neg h.2.1, if_neg h.2.2.1, if_neg h.2.2.2.1, if_neg h.2.2.2.2.1, if_neg h.2.2.2.2.2.1, if_neg h.2.2.2.2.2.2]
theorem cpf_in {n : Nat} {f g : Nat → Int32} {i : Nat} (h : i < n) : cpf n f g i = f i := if_pos h
theorem op_image {sh : Sh} {R : RR} {m : MI} (H : Rel sh R m) : ∃ v R' m1 m2 m3, CallOK YX6_image sh R m [.ref 0] (.int v) sh R' m1 ∧ fM_image m1 = some (v, m2) ∧ MEq sh m2 m3 ∧ Rel sh R' m3 := by
  have hF := Fx_of H.2.2.2.2.2
  obtain ⟨⟨n, s, l, q, nn, se, bo, h1, h2, h3, h4, h5, h6, h7, h8, h9, h10, h11, h12, h13, h14, h15⟩, hTap, hAct, hTxt, hFix, ⟨ls, a1, a2, a3, a4, a5, a6, a7, a8, ⟨hw, b1, b2⟩, a10⟩⟩ := H
  obtain ⟨mb, w0, e1, e2, ⟨f0, f6, f7, f8, f9, f10, f13⟩, ⟨g20, g21, g22, g30, g31, g32, g33⟩, gr⟩ := bc_19 hF m b1
  obtain ⟨mC, hmC⟩ : ∃ mC, mC = mI mb 0 (upd (mb.1 0) 2 1) := ⟨_, rfl⟩
  obtain ⟨mf, hmf⟩ : ∃ mf, mf = mI mC 61 (upd (upd (upd (upd (upd (upd (upd (upd (upd (mC.1 61) 46 1) 47 (mC.1 61 11)) 48 (mC.1 61 0)) 49 (mC.1 61 1)) 50 (mC.1 61 2)) 51 (mC.1 61 3)) 52 (mC.1 61 4)) 53 (mC.1 61 41)) 54 (mC.1 61 44)) := ⟨_, rfl⟩
  have Co : ∀ k, k ≠ 0 → mC.1 k = mb.1 k := fun k h => by rw [hmC, mI_n h]
  have C0 : mC.1 0 = upd (m.1 0) 2 1 := by rw [hmC, mI_s, e2 0 (by omega)]
  have Fo : ∀ k, k ≠ 61 → mf.1 k = mC.1 k := fun k h => by rw [hmf, mI_n h]
  have Fb : ∀ k, k ≠ 61 → k ≠ 0 → mf.1 k = mb.1 k := fun k h h' => by rw [Fo k h, Co k h']
  have Fm : ∀ k, k ≠ 61 → k ≠ 0 → ¬ (19 ≤ k ∧ k ≤ 33) → mf.1 k = m.1 k := fun k h h' h'' => by rw [Fb k h h', e2 k h'']
  have C61 : mC.1 61 = m.1 61 := by rw [Co 61 (by decide), e2 61 (by omega)]
  have F61 : mf.1 61 = upd (upd (upd (upd (upd (upd (upd (upd (upd (m.1 61) 46 1) 47 (m.1 61 11)) 48 (m.1 61 0)) 49 (m.1 61 1)) 50 (m.1 61 2)) 51 (m.1 61 3)) 52 (m.1 61 4)) 53 (m.1 61 41)) 54 (m.1 61 44) := by rw [hmf, mI_s, C61]
  obtain ⟨F, hF1⟩ : ∃ F : Nat, F = 1000 := ⟨_, rfl⟩
  obtain ⟨x1, ⟨p1, p2, p3⟩, p4⟩ := image_l1 (fun m11 _ => fM_image_l157 (fun m13 _ => fM_image_l183 (fun m15 _ => some (m15.1 61 0, m15)) F m13 0) F m11 0) 6 0 F mf (by omega) (by omega) (fun i hi => by rw [Fm 84 (by decide) (by decide) (by omega)]; exact h14.2 i hi)
  obtain ⟨x2, ⟨q1, q2, q3⟩, q4⟩ := image_l157 (fun m13 _ => fM_image_l183 (fun m15 _ => some (m15.1 61 0, m15)) F m13 0) 24 0 F x1 (by omega) (by omega)
  obtain ⟨m2, ⟨r1, r2, r3⟩, r4⟩ := image_l183 (fun m15 _ => some (m15.1 61 0, m15)) 8 0 F x2 (by omega) (by omega)
  have S2 : m2.2 = m.2 := by rw [r1, q1, p1, hmf]; show mC.2 = _; rw [hmC]; exact e1
  have Ko : ∀ k, k ∉ [86, 87, 88, 89, 90, 91, 92, 93] → m2.1 k = mf.1 k := fun k h => by
    simp only [List.mem_cons, List.not_mem_nil, or_false, not_or] at h
    rw [r2 k (by simp only [List.mem_cons, List.not_mem_nil, or_false, forall_eq]; omega), q2 k (by simp only [List.mem_cons, List.not_mem_nil, or_false, forall_eq]; omega), p2 k (by simp only [List.mem_cons, List.not_mem_nil, or_false, forall_eq_or_imp, forall_eq]; omega)]
  have P : ∀ a b, (a, b) ∈ [(86, 62), (87, 63), (88, 64), (89, 66), (91, 83), (93, 84)] → ∀ i, i < 6 → m2.1 a i = m.1 b i := fun a b h i hi => by
    have h' := h
    simp only [List.mem_cons, List.not_mem_nil, or_false, Prod.mk.injEq] at h
    rw [r2 a (by simp only [List.mem_cons, List.not_mem_nil, or_false, forall_eq]; omega), q2 a (by simp only [List.mem_cons, List.not_mem_nil, or_false, forall_eq]; omega), p3 (a, b) h' i, if_pos ⟨Nat.zero_le _, hi⟩, Fm b (by omega) (by omega) (by omega)]
  have P90 : ∀ i, i < 24 → m2.1 90 i = m.1 65 i := fun i hi => by
    rw [r2 90 (by simp only [List.mem_cons, List.not_mem_nil, or_false, forall_eq]; omega), q3 (90, 65) (by simp) i, if_pos ⟨Nat.zero_le _, hi⟩, p2 65 (by simp only [List.mem_cons, List.not_mem_nil, or_false, forall_eq_or_imp, forall_eq]; omega), Fm 65 (by omega) (by omega) (by omega)]
  have P92 : ∀ i, i < 8 → m2.1 92 i = m.1 85 i := fun i hi => by
    rw [r3 (92, 85) (by simp) i, if_pos ⟨Nat.zero_le _, hi⟩, q2 85 (by simp only [List.mem_cons, List.not_mem_nil, or_false, forall_eq]; omega), p2 85 (by simp only [List.mem_cons, List.not_mem_nil, or_false, forall_eq_or_imp, forall_eq]; omega), Fm 85 (by omega) (by omega) (by omega)]
  have K61 : m2.1 61 = upd (upd (upd (upd (upd (upd (upd (upd (upd (m.1 61) 46 1) 47 (m.1 61 11)) 48 (m.1 61 0)) 49 (m.1 61 1)) 50 (m.1 61 2)) 51 (m.1 61 3)) 52 (m.1 61 4)) 53 (m.1 61 41)) 54 (m.1 61 44) := by rw [Ko 61 (by decide), F61]
  have K61o : ∀ i, i ∉ [46, 47, 48, 49, 50, 51, 52, 53, 54] → m2.1 61 i = m.1 61 i := fun i h => by
    simp only [List.mem_cons, List.not_mem_nil, or_false, not_or] at h
    rw [K61, upd_n (by omega), upd_n (by omega), upd_n (by omega), upd_n (by omega), upd_n (by omega), upd_n (by omega), upd_n (by omega), upd_n (by omega), upd_n (by omega)]
  have K0 : m2.1 0 = upd (m.1 0) 2 1 := by rw [Ko 0 (by decide), Fo 0 (by decide), C0]
  have Kb : ∀ k, 19 ≤ k → k ≤ 33 → m2.1 k = mb.1 k := fun k h h' => by rw [Ko k (by simp only [List.mem_cons, List.not_mem_nil, or_false]; omega), Fb k (by omega) (by omega)]
  have Km : ∀ k, k ≠ 0 → k ≠ 61 → ¬ (19 ≤ k ∧ k ≤ 33) → ¬ (86 ≤ k ∧ k ≤ 93) → m2.1 k = m.1 k := fun k c1 c2 c3 c4 => by rw [Ko k (by simp only [List.mem_cons, List.not_mem_nil, or_false]; omega), Fm k c2 c1 c3]
  obtain ⟨m3, hm3⟩ : ∃ m3 : MI, m3 = (fun k => m2.1 (sgm k), m2.2) := ⟨_, rfl⟩
  have T : ∀ k, m3.1 k = m2.1 (sgm k) := fun k => by rw [hm3]
  have To : ∀ k, k ≠ 20 ∧ k ≠ 21 ∧ k ≠ 22 ∧ k ≠ 30 ∧ k ≠ 31 ∧ k ≠ 32 ∧ k ≠ 33 → m3.1 k = m2.1 k := fun k h => by rw [T, sgm_o h]
  have Tm : ∀ k, k ≠ 0 → k ≠ 61 → ¬ (19 ≤ k ∧ k ≤ 33) → ¬ (86 ≤ k ∧ k ≤ 93) → m3.1 k = m.1 k := fun k c1 c2 c3 c4 => by rw [To k (by omega), Km k c1 c2 c3 c4]
  have T2 : m3.2 = m.2 := by rw [hm3]; exact S2
  have T61 : m3.1 61 = m2.1 61 := To 61 (by omega)
  have T0 : ∀ i, i ≠ 2 → m3.1 0 i = m.1 0 i := fun i h => by rw [To 0 (by omega), K0, upd_n h]
  have T61o : ∀ i, i ∉ [46, 47, 48, 49, 50, 51, 52, 53, 54] → m3.1 61 i = m.1 61 i := fun i h => by rw [T61, K61o i h]
  have hF' : Fx sh (ur R 19 (va_up (R 19) 15 (R 1 15))) := Fx_hut hF (Or.inr rfl)
  refine ⟨nI n, ur R 19 (va_up (R 19) 15 (R 1 15)), mC, m2, m3, ⟨false, 2, 0, 0, by omega, by omega, by omega, ?_⟩, ?_, ⟨by rw [hm3], fun k s' hs => ?_⟩, ?_⟩
  · have := sC_image hF w0 _ rfl
    rw [← hmC, f0, h1.2.1] at this
    exact this
  · unfold fM_image
    rw [← hF1]
    simp only [lm, mI_s, mI_mI, upd_s, upd_n (show (47 : Nat) ≠ 46 by decide)]
    refine Eq.trans (b := fM_image_l71 (fun m11 _ => fM_image_l157 (fun m13 _ => fM_image_l183 (fun m15 _ => some (m15.1 61 0, m15)) F m13 0) F m11 0) F mf 0) (by rw [hmf]; rfl) ?_
    refine p4.trans ?_
    refine Eq.trans (b := fM_image_l157 (fun m13 _ => fM_image_l183 (fun m15 _ => some (m15.1 61 0, m15)) F m13 0) F x1 (nI 0)) rfl ?_
    rw [q4]
    refine Eq.trans (b := fM_image_l183 (fun m15 _ => some (m15.1 61 0, m15)) F x2 (nI 0)) rfl ?_
    rw [r4]
    show some (m2.1 61 0, m2) = _
    rw [K61o 0 (by decide), h1.2.2]
  · by_cases c : k = 20 ∨ k = 21 ∨ k = 22 ∨ k = 30 ∨ k = 31 ∨ k = 32 ∨ k = 33
    · right
      rcases c with rfl | rfl | rfl | rfl | rfl | rfl | rfl
      · have e : s' = (0, 6) := by rw [hF.1 20 (0, 6) rfl] at hs; exact (Option.some.inj hs).symm
        subst e
        exact ⟨by decide, fun i hi => by rw [T, show sgm 20 = 86 from rfl, P 86 62 (by simp) i hi, Kb 20 (by omega) (by omega), g20, cpf_in hi, h8.1]⟩
      · have e : s' = (0, 6) := by rw [hF.1 21 (0, 6) rfl] at hs; exact (Option.some.inj hs).symm
        subst e
        exact ⟨by decide, fun i hi => by rw [T, show sgm 21 = 87 from rfl, P 87 63 (by simp) i hi, Kb 21 (by omega) (by omega), g21, cpf_in hi, h9.1]⟩
      · have e : s' = (0, 6) := by rw [hF.1 22 (0, 6) rfl] at hs; exact (Option.some.inj hs).symm
        subst e
        exact ⟨by decide, fun i hi => by rw [T, show sgm 22 = 88 from rfl, P 88 64 (by simp) i hi, Kb 22 (by omega) (by omega), g22, cpf_in hi, h10.1]⟩
      · have e : s' = (0, 6) := by rw [hF.1 30 (0, 6) rfl] at hs; exact (Option.some.inj hs).symm
        subst e
        exact ⟨by decide, fun i hi => by rw [T, show sgm 30 = 89 from rfl, P 89 66 (by simp) i hi, Kb 30 (by omega) (by omega), g30, cpf_in hi, h12.1]⟩
      · have e : s' = (0, 6) := by rw [hF.1 31 (0, 6) rfl] at hs; exact (Option.some.inj hs).symm
        subst e
        exact ⟨by decide, fun i hi => by rw [T, show sgm 31 = 91 from rfl, P 91 83 (by simp) i hi, Kb 31 (by omega) (by omega), g31, cpf_in hi, h13.1]⟩
      · have e : s' = (0, 6) := by rw [hF.1 32 (0, 6) rfl] at hs; exact (Option.some.inj hs).symm
        subst e
        exact ⟨by decide, fun i hi => by rw [T, show sgm 32 = 93 from rfl, P 93 84 (by simp) i hi, Kb 32 (by omega) (by omega), g32, cpf_in hi, h14.1]⟩
      · have e : s' = (0, 8) := by rw [hF.1 33 (0, 8) rfl] at hs; exact (Option.some.inj hs).symm
        subst e
        exact ⟨by decide, fun i hi => by rw [T, show sgm 33 = 92 from rfl, P92 i hi, Kb 33 (by omega) (by omega), g33, cpf_in hi, h15.1]⟩
    · left
      exact To k (by omega)
  · have Hh : ∀ j, j < ls.length → HRep sh m3 j := fun j hj => HRep_congr (fun k hk => Tm k (by omega) (by omega) (by omega) (by omega)) (fun k hk => Tm k (by omega) (by omega) (by omega) (by omega)) (a8 j hj)
    refine ⟨?_, Tapes_congr (fun k hk => Tm k (by omega) (by omega) (by omega) (by omega)) (fun k hk => by rw [T2]) hTap, ActsR_congr (by rw [Tm 46 (by decide) (by decide) (by omega) (by omega)]) (T61o 63 (by decide)) (Tm 47 (by decide) (by decide) (by omega) (by omega)) (Tm 94 (by decide) (by decide) (by omega) (by omega)) hAct, TextR_congr (by rw [Tm 43 (by decide) (by decide) (by omega) (by omega)]) (T61o 12 (by decide)) (Tm 44 (by decide) (by decide) (by omega) (by omega)) (Tm 67 (by decide) (by decide) (by omega) (by omega)) hTxt,
      Fixd_congr (Tm 16 (by decide) (by decide) (by omega) (by omega)) (by rw [Tm 34 (by decide) (by decide) (by omega) (by omega)]) (T61o 34 (by decide)) (Tm 75 (by decide) (by decide) (by omega) (by omega)) hFix,
      ⟨ls, a1, a2, hF'.2, ?_, fun j hj => ?_, by rw [T0 7 (by decide)]; exact a6, by rw [T61o 10 (by decide)]; exact a7, Hh, ⟨hw, ?_, by rw [T61o 11 (by decide)]; exact b2⟩, Or.inr ⟨?_, ?_, ⟨hw, ?_, ?_⟩, ?_⟩⟩⟩
    · refine Core_congr (fun j hj => by rw [Tm 1 (by decide) (by decide) (by omega) (by omega)]) (fun j hj => T61o j ?_) (fun k hk => ?_) ⟨n, s, l, q, nn, se, bo, h1, h2, h3, h4, h5, h6, h7, h8, h9, h10, h11, h12, h13, h14, h15⟩
      · simp only [List.mem_cons, List.not_mem_nil, or_false] at hj ⊢; omega
      · simp only [List.mem_cons, List.not_mem_nil, or_false] at hk
        exact Tm k (by omega) (by omega) (by omega) (by omega)
    · rw [b1]
      exact Rok_put a4 (a4 _ _ _ b1)
    · rw [ur_n (show 99 + 2 * j ≠ 19 by omega)]; exact a5 j hj
    · rw [ur_n (by decide)]; exact b1
    · rw [To 0 (by omega), K0, upd_s]
    · rw [T61, K61]; rfl
    · rw [ur_s]
      show (if (15 : Nat) = 15 then R 1 15 else R 19 15) = _
      rw [if_pos rfl]; exact b1
    · rw [T61, K61]; exact b2
    · have P' : ∀ a b, (a, b) ∈ [(86, 62), (87, 63), (88, 64), (89, 66), (91, 83), (93, 84)] → ∀ i, i < 6 → m3.1 a i = m.1 b i := fun a b h i hi => by
        rw [To a (by simp only [List.mem_cons, List.not_mem_nil, or_false, Prod.mk.injEq] at h; omega)]; exact P a b h i hi
      have P90' : ∀ i, i < 24 → m3.1 90 i = m.1 65 i := fun i hi => by rw [To 90 (by omega)]; exact P90 i hi
      have P92' : ∀ i, i < 8 → m3.1 92 i = m.1 85 i := fun i hi => by rw [To 92 (by omega)]; exact P92 i hi
      have W : ∀ j, m3.1 19 j = mb.1 19 j := fun j => by rw [To 19 (by omega), Kb 19 (by omega) (by omega)]
      have V : ∀ i, m3.1 61 i = m2.1 61 i := fun i => by rw [T61]
      have n6 : n ≤ 6 := h1.1
      refine ⟨n, s, l, q, nn, se, bo, ⟨h1.1, by rw [W, f0]; exact h1.2.1, by rw [V, K61]; exact h1.2.2⟩, ⟨h2.1, h2.2.1, by rw [W, f6]; exact h2.2.2.1, by rw [V, K61]; exact h2.2.2.2⟩, ⟨h3.1, by rw [W, f7]; exact h3.2.1, by rw [V, K61]; exact h3.2.2⟩, ⟨h4.1, by rw [W, f8]; exact h4.2.1, by rw [V, K61]; exact h4.2.2⟩, ⟨h5.1, by rw [W, f9]; exact h5.2.1, by rw [V, K61]; exact h5.2.2⟩, ⟨h6.1, by rw [W, f10]; exact h6.2.1, by rw [V, K61]; exact h6.2.2⟩, ⟨h7.1, by rw [W, f13]; exact h7.2.1, by rw [V, K61]; exact h7.2.2⟩,
        ⟨?_, fun d hd => by rw [P' 86 62 (by simp) d hd]; exact h8.2 d hd⟩, ⟨?_, fun d hd => by rw [P' 87 63 (by simp) d hd]; exact h9.2 d hd⟩, ⟨?_, fun d hd => by rw [P' 88 64 (by simp) d hd]; exact h10.2 d hd⟩, ⟨fun d p hd hp => ?_, fun i hi => by rw [P90' i hi]; exact h11.2 i hi⟩,
        ⟨?_, fun k hk => by rw [P' 89 66 (by simp) k (by omega)]; exact h12.2.1 k hk, fun d hd => ?_, fun k k' hk hk' e => ?_⟩, ⟨?_, fun i hi => by rw [P' 91 83 (by simp) i hi]; exact h13.2 i hi⟩, ⟨?_, fun i hi => by rw [P' 93 84 (by simp) i hi]; exact h14.2 i hi⟩, ⟨?_, fun i hi => by rw [P92' i hi]; exact h15.2 i hi⟩⟩
      · rw [T, To 86 (by omega)]; rfl
      · rw [T, To 87 (by omega)]; rfl
      · rw [T, To 88 (by omega)]; rfl
      · rw [P90' _ (by omega), To (19 + 4 + d) (by omega), Kb (19 + 4 + d) (by omega) (by omega), show 19 + 4 + d = 23 + d by omega, gr d hd, cpf_in hp, show 5 + d = 1 + 4 + d by omega]
        exact h11.1 d p hd hp
      · rw [T, To 89 (by omega)]; rfl
      · obtain ⟨k, hk, e⟩ := h12.2.2.1 d hd
        exact ⟨k, hk, by rw [P' 89 66 (by simp) k (by omega)]; exact e⟩
      · rw [P' 89 66 (by simp) k (by omega), P' 89 66 (by simp) k' (by omega)] at e
        exact h12.2.2.2 k k' hk hk' e
      · rw [T, To 91 (by omega)]; rfl
      · rw [T, To 93 (by omega)]; rfl
      · rw [T, To 92 (by omega)]; rfl
theorem cpf_eq {n : Nat} {f g : Nat → Int32} {h : Nat → Int32} (e : g = h) (e2 : ∀ i, i < n → f i = h i) : cpf n f g = h := funext fun i => by
  unfold cpf
  by_cases c : i < n
  · rw [if_pos c, e2 i c]
  · rw [if_neg c, e]
theorem op_undo {sh : Sh} {R : RR} {m : MI} (H : Rel sh R m) : ∃ v R' m1 m2, CallOK YX6_undo sh R m [.ref 0] (.int v) sh R' m1 ∧ fM_undo m1 = some (v, m2) ∧ Rel sh R' m2 := by
  have hF := Fx_of H.2.2.2.2.2
  have H0 := H
  obtain ⟨⟨n1, s1, l1, q1, nn1, se1, bo1, i1, i2, i3, i4, i5, i6, i7, i8, i9, i10, i11, i12, i13, i14, i15⟩, hTap, hAct, hTxt, hFix, ⟨ls, a1, a2, a3, a4, a5, a6, a7, a8, ⟨hw, b1, b2⟩, a10⟩⟩ := H
  rcases a10 with ⟨c1, c2⟩ | ⟨c1, c2, ⟨hk, c3, c4⟩, hC2⟩
  · refine ⟨-3, R, m, m, ⟨false, 2, 0, 0, by omega, by omega, by omega, sC_undo0 hF c1 _ rfl⟩, ?_, H0⟩
    unfold fM_undo
    rw [if_pos c2]
  · have hC2' := hC2
    obtain ⟨n, s, l, q, nn, se, bo, h1, h2, h3, h4, h5, h6, h7, h8, h9, h10, h11, h12, h13, h14, h15⟩ := hC2
    obtain ⟨mC, w0, e1, e2, ⟨f0, f6, f7, f8, f9, f10, f13⟩, ⟨g2, g3, g4, g12, g13, g14, g15⟩, gr⟩ := bc_1 hF m c3
    obtain ⟨mf, hmf⟩ : ∃ mf, mf = mI mC 61 (upd (upd (upd (upd (upd (upd (upd (upd (mC.1 61) 11 (mC.1 61 47)) 0 (mC.1 61 48)) 1 (mC.1 61 49)) 2 (mC.1 61 50)) 3 (mC.1 61 51)) 4 (mC.1 61 52)) 41 (mC.1 61 53)) 44 (mC.1 61 54)) := ⟨_, rfl⟩
    have C61 : mC.1 61 = m.1 61 := e2 61 (by omega)
    have Fo : ∀ k, k ≠ 61 → mf.1 k = mC.1 k := fun k h => by rw [hmf, mI_n h]
    have Fm : ∀ k, k ≠ 61 → ¬ (1 ≤ k ∧ k ≤ 15) → mf.1 k = m.1 k := fun k h h' => by rw [Fo k h, e2 k h']
    obtain ⟨F, hF1⟩ : ∃ F : Nat, F = 1000 := ⟨_, rfl⟩
    obtain ⟨x1, ⟨p1, p2, p3⟩, p4⟩ := undo_l1 (fun m11 _ => fM_undo_l162 (fun m13 _ => fM_undo_l188 (fun m15 _ => some (m15.1 61 0, m15)) F m13 0) F m11 0) 6 0 F mf (by omega) (by omega) (fun i hi => by rw [Fm 93 (by decide) (by omega)]; exact h14.2 i hi)
    obtain ⟨x2, ⟨q1', q2, q3⟩, q4⟩ := undo_l162 (fun m13 _ => fM_undo_l188 (fun m15 _ => some (m15.1 61 0, m15)) F m13 0) 24 0 F x1 (by omega) (by omega)
    obtain ⟨m2, ⟨r1, r2, r3⟩, r4⟩ := undo_l188 (fun m15 _ => some (m15.1 61 0, m15)) 8 0 F x2 (by omega) (by omega)
    have S2 : m2.2 = m.2 := by rw [r1, q1', p1, hmf]; exact e1
    have Ko : ∀ k, k ∉ [62, 63, 64, 65, 66, 83, 84, 85] → m2.1 k = mf.1 k := fun k h => by
      simp only [List.mem_cons, List.not_mem_nil, or_false, not_or] at h
      rw [r2 k (by simp only [List.mem_cons, List.not_mem_nil, or_false, forall_eq]; omega), q2 k (by simp only [List.mem_cons, List.not_mem_nil, or_false, forall_eq]; omega), p2 k (by simp only [List.mem_cons, List.not_mem_nil, or_false, forall_eq_or_imp, forall_eq]; omega)]
    have P : ∀ a b, (a, b) ∈ [(62, 86), (63, 87), (64, 88), (66, 89), (83, 91), (84, 93)] → ∀ i, m2.1 a i = if i < 6 then m.1 b i else m.1 a i := fun a b h i => by
      have h' := h
      simp only [List.mem_cons, List.not_mem_nil, or_false, Prod.mk.injEq] at h
      rw [r2 a (by simp only [List.mem_cons, List.not_mem_nil, or_false, forall_eq]; omega), q2 a (by simp only [List.mem_cons, List.not_mem_nil, or_false, forall_eq]; omega), p3 (a, b) h' i, Fm b (by omega) (by omega), Fm a (by omega) (by omega)]
      by_cases c : i < 6
      · rw [if_pos ⟨Nat.zero_le _, c⟩, if_pos c]
      · rw [if_neg (by omega), if_neg c]
    have P65 : ∀ i, i < 24 → m2.1 65 i = m.1 90 i := fun i hi => by
      rw [r2 65 (by simp only [List.mem_cons, List.not_mem_nil, or_false, forall_eq]; omega), q3 (65, 90) (by simp) i, if_pos ⟨Nat.zero_le _, hi⟩, p2 90 (by simp only [List.mem_cons, List.not_mem_nil, or_false, forall_eq_or_imp, forall_eq]; omega), Fm 90 (by omega) (by omega)]
    have P85 : ∀ i, m2.1 85 i = if i < 8 then m.1 92 i else m.1 85 i := fun i => by
      rw [r3 (85, 92) (by simp) i, q2 92 (by simp only [List.mem_cons, List.not_mem_nil, or_false, forall_eq]; omega), p2 92 (by simp only [List.mem_cons, List.not_mem_nil, or_false, forall_eq_or_imp, forall_eq]; omega), Fm 92 (by omega) (by omega), q2 85 (by simp only [List.mem_cons, List.not_mem_nil, or_false, forall_eq]; omega), p2 85 (by simp only [List.mem_cons, List.not_mem_nil, or_false, forall_eq_or_imp, forall_eq]; omega), Fm 85 (by omega) (by omega)]
      by_cases c : i < 8
      · rw [if_pos ⟨Nat.zero_le _, c⟩, if_pos c]
      · rw [if_neg (by omega), if_neg c]
    have K61 : m2.1 61 = upd (upd (upd (upd (upd (upd (upd (upd (m.1 61) 11 (m.1 61 47)) 0 (m.1 61 48)) 1 (m.1 61 49)) 2 (m.1 61 50)) 3 (m.1 61 51)) 4 (m.1 61 52)) 41 (m.1 61 53)) 44 (m.1 61 54) := by rw [Ko 61 (by decide), hmf, mI_s, C61]
    have K61o : ∀ i, i ∉ [11, 0, 1, 2, 3, 4, 41, 44] → m2.1 61 i = m.1 61 i := fun i h => by
      simp only [List.mem_cons, List.not_mem_nil, or_false, not_or] at h
      rw [K61, upd_n (by omega), upd_n (by omega), upd_n (by omega), upd_n (by omega), upd_n (by omega), upd_n (by omega), upd_n (by omega), upd_n (by omega)]
    have Kb : ∀ k, 1 ≤ k → k ≤ 15 → m2.1 k = mC.1 k := fun k h h' => by rw [Ko k (by simp only [List.mem_cons, List.not_mem_nil, or_false]; omega), Fo k (by omega)]
    have Tm : ∀ k, k ≠ 61 → ¬ (1 ≤ k ∧ k ≤ 15) → k ∉ [62, 63, 64, 65, 66, 83, 84, 85] → m2.1 k = m.1 k := fun k c1 c2 c3 => by rw [Ko k c3, Fm k c1 c2]
    have hF' : Fx sh (ur R 1 (va_up (R 1) 15 (R 19 15))) := Fx_hut hF (Or.inl rfl)
    refine ⟨nI n, ur R 1 (va_up (R 1) 15 (R 19 15)), mC, m2, ⟨false, 2, 0, 0, by omega, by omega, by omega, ?_⟩, ?_, ?_⟩
    · have := sC_undo1 hF (by rw [c1]; decide) w0 _ rfl
      rw [f0, h1.2.1] at this
      exact this
    · unfold fM_undo
      rw [← hF1]
      rw [if_neg (show ¬ mC.1 61 46 = 0 by rw [C61, c2]; decide)]
      simp only [lm, mI_s, mI_mI]
      refine Eq.trans (b := fM_undo_l76 (fun m11 _ => fM_undo_l162 (fun m13 _ => fM_undo_l188 (fun m15 _ => some (m15.1 61 0, m15)) F m13 0) F m11 0) F mf 0) (by rw [hmf]; rfl) ?_
      refine p4.trans ?_
      refine Eq.trans (b := fM_undo_l162 (fun m13 _ => fM_undo_l188 (fun m15 _ => some (m15.1 61 0, m15)) F m13 0) F x1 (nI 0)) rfl ?_
      rw [q4]
      refine Eq.trans (b := fM_undo_l188 (fun m15 _ => some (m15.1 61 0, m15)) F x2 (nI 0)) rfl ?_
      rw [r4]
      show some (m2.1 61 0, m2) = _
      rw [K61]
      show some (m.1 61 48, m2) = _
      rw [h1.2.2]
    · have Hh : ∀ j, j < ls.length → HRep sh m2 j := fun j hj => HRep_congr (fun k hk => Tm k (by omega) (by omega) (by simp only [List.mem_cons, List.not_mem_nil, or_false]; omega)) (fun k hk => Tm k (by omega) (by omega) (by simp only [List.mem_cons, List.not_mem_nil, or_false]; omega)) (a8 j hj)
      refine ⟨?_, Tapes_congr (fun k hk => Tm k (by omega) (by omega) (by simp only [List.mem_cons, List.not_mem_nil, or_false]; omega)) (fun k hk => by rw [S2]) hTap, ActsR_congr (by rw [Tm 46 (by decide) (by omega) (by decide)]) (K61o 63 (by decide)) (Tm 47 (by decide) (by omega) (by decide)) (Tm 94 (by decide) (by omega) (by decide)) hAct, TextR_congr (by rw [Tm 43 (by decide) (by omega) (by decide)]) (K61o 12 (by decide)) (Tm 44 (by decide) (by omega) (by decide)) (Tm 67 (by decide) (by omega) (by decide)) hTxt,
        Fixd_congr (Tm 16 (by decide) (by omega) (by decide)) (Tm 34 (by decide) (by omega) (by decide)) (K61o 34 (by decide)) (Tm 75 (by decide) (by omega) (by decide)) hFix,
        ⟨ls, a1, a2, hF'.2, ?_, fun j hj => ?_, by rw [Tm 0 (by decide) (by omega) (by decide)]; exact a6, by rw [K61o 10 (by decide)]; exact a7, Hh, ⟨hk, ?_, by rw [K61]; exact c4⟩, Or.inr ⟨?_, ?_, ⟨hk, ?_, ?_⟩, ?_⟩⟩⟩
      · have n6 : n ≤ 6 := h1.1
        have V : ∀ i, m2.1 1 i = mC.1 1 i := fun i => by rw [Kb 1 (by omega) (by omega)]
        refine ⟨n, s, l, q, nn, se, bo, ⟨h1.1, by rw [V, f0]; exact h1.2.1, by rw [K61]; exact h1.2.2⟩, ⟨h2.1, h2.2.1, by rw [V, f6]; exact h2.2.2.1, by rw [K61]; exact h2.2.2.2⟩, ⟨h3.1, by rw [V, f7]; exact h3.2.1, by rw [K61]; exact h3.2.2⟩, ⟨h4.1, by rw [V, f8]; exact h4.2.1, by rw [K61]; exact h4.2.2⟩, ⟨h5.1, by rw [V, f9]; exact h5.2.1, by rw [K61]; exact h5.2.2⟩, ⟨h6.1, by rw [V, f10]; exact h6.2.1, by rw [K61]; exact h6.2.2⟩, ⟨h7.1, by rw [V, f13]; exact h7.2.1, by rw [K61]; exact h7.2.2⟩,
          ⟨?_, fun d hd => by rw [P 62 86 (by simp) d, if_pos hd]; exact h8.2 d hd⟩, ⟨?_, fun d hd => by rw [P 63 87 (by simp) d, if_pos hd]; exact h9.2 d hd⟩, ⟨?_, fun d hd => by rw [P 64 88 (by simp) d, if_pos hd]; exact h10.2 d hd⟩, ⟨fun d p hd hp => ?_, fun i hi => by rw [P65 i hi]; exact h11.2 i hi⟩,
          ⟨?_, fun k hk => by rw [P 66 89 (by simp) k, if_pos (by omega)]; exact h12.2.1 k hk, fun d hd => ?_, fun k k' hk hk' e => ?_⟩, ⟨?_, fun i hi => by rw [P 83 91 (by simp) i, if_pos hi]; exact h13.2 i hi⟩, ⟨?_, fun i hi => by rw [P 84 93 (by simp) i, if_pos hi]; exact h14.2 i hi⟩, ⟨?_, fun i hi => by rw [P85 i, if_pos hi]; exact h15.2 i hi⟩⟩
        · refine (Kb 2 (by omega) (by omega)).trans (g2.trans (funext fun i => ?_))
          rw [P 62 86 (by simp) i, ← h8.1, ← i8.1]; rfl
        · refine (Kb 3 (by omega) (by omega)).trans (g3.trans (funext fun i => ?_))
          rw [P 63 87 (by simp) i, ← h9.1, ← i9.1]; rfl
        · refine (Kb 4 (by omega) (by omega)).trans (g4.trans (funext fun i => ?_))
          rw [P 64 88 (by simp) i, ← h10.1, ← i10.1]; rfl
        · rw [P65 _ (by omega), Kb (1 + 4 + d) (by omega) (by omega), show 1 + 4 + d = 5 + d by omega, gr d hd, cpf_in hp, show 23 + d = 19 + 4 + d by omega]
          exact h11.1 d p hd hp
        · refine (Kb 12 (by omega) (by omega)).trans (g12.trans (funext fun i => ?_))
          rw [P 66 89 (by simp) i, ← h12.1, ← i12.1]; rfl
        · obtain ⟨k, hk, e⟩ := h12.2.2.1 d hd
          exact ⟨k, hk, by rw [P 66 89 (by simp) k, if_pos (by omega)]; exact e⟩
        · rw [P 66 89 (by simp) k, P 66 89 (by simp) k', if_pos (by omega), if_pos (by omega)] at e
          exact h12.2.2.2 k k' hk hk' e
        · refine (Kb 13 (by omega) (by omega)).trans (g13.trans (funext fun i => ?_))
          rw [P 83 91 (by simp) i, ← h13.1, ← i13.1]; rfl
        · refine (Kb 14 (by omega) (by omega)).trans (g14.trans (funext fun i => ?_))
          rw [P 84 93 (by simp) i, ← h14.1, ← i14.1]; rfl
        · refine (Kb 15 (by omega) (by omega)).trans (g15.trans (funext fun i => ?_))
          rw [P85 i, ← h15.1, ← i15.1]; rfl
      · rw [c3]
        exact Rok_put a4 (a4 _ _ _ c3)
      · rw [ur_n (show 99 + 2 * j ≠ 1 by omega)]; exact a5 j hj
      · rw [ur_s]
        show (if (15 : Nat) = 15 then R 19 15 else R 1 15) = _
        rw [if_pos rfl]; exact c3
      · rw [Tm 0 (by decide) (by omega) (by decide)]; exact c1
      · rw [K61o 46 (by decide)]; exact c2
      · rw [ur_n (by decide)]; exact c3
      · rw [K61o 47 (by decide)]; exact c4
      · refine Core_congr (fun j hj => by rw [Tm 19 (by decide) (by omega) (by decide)]) (fun j hj => K61o j ?_) (fun k hk => ?_) hC2'
        · simp only [List.mem_cons, List.not_mem_nil, or_false] at hj ⊢; omega
        · simp only [List.mem_cons, List.not_mem_nil, or_false] at hk
          exact Tm k (by omega) (by omega) (by simp only [List.mem_cons, List.not_mem_nil, or_false]; omega)
