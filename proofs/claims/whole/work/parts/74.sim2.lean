/-- what the reference has put aside -/
def Asd (m'' m' : MI) : Prop := m''.1 82 = m'.1 82 ∧ ∀ j, 37 ≤ j → j ≤ 39 → m''.1 61 j = m'.1 61 j
section SI
variable {sh : Sh} {R : RR} {m : MI} {hw a z n : Nat} {cs : List Cla} {P : Nat → Int32 → Int32 → Int32 → Int32} {o : Nat → Nat}
/-- one tried draw of the reference -/
theorem M_try (N : Ngt sh R m hw a z cs P n o) {m' : MI} {s l v A : Nat} {Z : Nat → Int32} (e : pj m' = pj (mS m (nI s) (nI l) (nI v) Z)) (hs : s ≤ 100) (hl : l ≤ 100) (hv : v < n) (hZ : Z (o v) = m.1 64 (o v)) (hA : A ≤ 999999) :
    ∃ pn m'', pn ≤ 3000 ∧ P (o v) (nI s) (nI l) (nI v) = nI pn ∧ Asd m'' m' ∧ ((chN s l pn ≤ A ∧ fM_goDraw m' (nI A) = some (0, m'') ∧ pj m'' = pj (mS m (nI s) (nI l - 1) (nI (v + 1)) Z)) ∨ (¬ chN s l pn ≤ A ∧ ∃ y, fM_goDraw m' (nI A) = some (1, m'') ∧ pj m'' = pj (mS m (nI s - 1) (nI l) (nI (v + 1)) (upd Z (o v) y)))) := by
  obtain ⟨hF, hC, hP, hD, ⟨hn, h0, h0'⟩, o1, o2, o3, o4, o5, h34⟩ := N
  have ho := o1 v hv
  obtain ⟨x, yy, zz, rr, hx, hy, hz, hr, hp, dC, dM⟩ := hD.2 (o v) ho
  have r : ∀ {k : Nat}, k ∉ [18, 36, 38, 40, 41, 42, 45, 74, 76, 77, 78, 79, 80, 81, 82, 37, 43, 46, 61] → m'.1 k = (mS m (nI s) (nI l) (nI v) Z).1 k := fun h => pj_rw e (scr_r h)
  have r64 : m'.1 64 = Z := (r (by decide)).trans mS_64
  have ro : ∀ {k : Nat}, k ∉ [18, 36, 38, 40, 41, 42, 45, 74, 76, 77, 78, 79, 80, 81, 82, 37, 43, 46, 61] → k ≠ 64 → k ≠ 61 → m'.1 k = m.1 k := fun h h1 h2 => (r h).trans (mS_o h2 h1)
  have r61 : ∀ i, scr 61 i = false → m'.1 61 i = upd (upd (upd (m.1 61) 2 (nI s)) 3 (nI l)) 4 (nI v) i := fun i h => by rw [pj_at e h, mS_61]
  obtain ⟨pn, hpn, hpe⟩ := pull_nat (cs := cs) hD.1 (j := o v) (x := x) (zz := zz) hy hr (nI s) (nI l) (nI v)
  have dM' : DM m' m (o v) x (nI yy) zz (nI rr) := by
    obtain ⟨q1, q2, q3, q4, q5, q6⟩ := dM
    exact ⟨by rw [r61 11 rfl]; rfl, fun k hk => ro (by simp only [List.mem_cons, List.not_mem_nil, or_false]; omega) (by omega) (by omega), by rw [ro (by decide) (by decide) (by decide)]; exact q3, by rw [ro (by decide) (by decide) (by decide)]; exact q4, by rw [r64, hZ]; exact q5, by rw [ro (by decide) (by decide) (by decide)]; exact q6⟩
  obtain ⟨u, g, hg, hu⟩ := M_chE (show o v < 6 by omega) hx hz hP dM' (s := s) (l := l) hs hl hpn hpe
  have ckv : ck (nI v) 6 = true := ck_nI (by omega) (by omega)
  have clv := cl_nI (show v < 100000 by omega)
  have cko : ck (nI (o v)) 6 = true := ck_nI (by omega) (by omega)
  have clo := cl_nI (show o v < 100000 by omega)
  have e4 : m'.1 61 4 = nI v := r61 4 rfl
  have e3 : m'.1 61 3 = nI l := r61 3 rfl
  have e2 : m'.1 61 2 = nI s := r61 2 rfl
  have e66 : m'.1 66 v = nI (o v) := by rw [ro (by decide) (by decide) (by decide)]; exact o4 v hv
  obtain ⟨mA, hmA⟩ : ∃ mA, mA = mI (mI m' 61 u) 76 g := ⟨_, rfl⟩
  have eA : pj mA = pj (mS m (nI s) (nI l) (nI v) Z) := by rw [hmA]; exact Eq.trans (pj_row (fun _ => rfl)) (Eq.trans (pj_61 hu) e)
  have A61 : mA.1 61 = u := by rw [hmA, mI_n (by decide), mI_s]
  have u4 : u 4 = nI v := by rw [hu 4 (by decide) (by decide) (by decide), e4]
  have u3 : u 3 = nI l := by rw [hu 3 (by decide) (by decide) (by decide), e3]
  have u2 : u 2 = nI s := by rw [hu 2 (by decide) (by decide) (by decide), e2]
  have chle := chN_le s l pn
  rw [← hmA] at hg
  have hAs : ∀ X : MI, X.1 82 = mA.1 82 → (∀ j, 37 ≤ j → j ≤ 39 → X.1 61 j = mA.1 61 j) → Asd X m' := fun X h1 h2 => ⟨by rw [h1, hmA, mI_n (by decide), mI_n (by decide)], fun j a b => by rw [h2 j a b, A61, hu j (by omega) (by omega) (by omega)]⟩
  by_cases c : chN s l pn ≤ A
  · have b1 := pj_fld2 (k := 61) (j := 3) (x := nI l - 1) eA
    rw [mS_3] at b1
    have b2 := pj_fld2 (k := 61) (j := 4) (x := nI (v + 1)) b1
    rw [mS_4] at b2
    refine ⟨pn, _, hpn, by rw [hp, hpe], hAs _ (by rw [mI_n (by decide), mI_n (by decide)]) (fun j a b => by rw [mI_s, upd_n (by omega), mI_s, upd_n (by omega)]), Or.inl ⟨c, ?_, b2⟩⟩
    unfold fM_goDraw
    simp only [e4, ckv, clv, if_true, e66, e3, e2, lt, hg, Option.bind_some, if_pos (nI_le c (show A < 2 ^ 31 by omega)), lm, A61, u3, mI_s, upd_n (show (4 : Nat) ≠ 3 by decide), u4, nI_1]
  · have hnle : ¬ nI (chN s l pn) ≤ nI A := by rw [nI_leI (by omega) (by omega)]; exact c
    have b1 := pj_fld2 (k := 61) (j := 2) (x := nI s - 1) eA
    rw [mS_2] at b1
    have step : ∀ y, pj (mI (mI (mI mA 61 (upd (mA.1 61) 2 (nI s - 1))) 64 (upd Z (o v) y)) 61 (upd ((mI (mI mA 61 (upd (mA.1 61) 2 (nI s - 1))) 64 (upd Z (o v) y)).1 61) 4 (nI (v + 1)))) = pj (mS m (nI s - 1) (nI l) (nI (v + 1)) (upd Z (o v) y)) := fun y => by
      have b2 := pj_put (k := 64) (g := upd Z (o v) y) b1
      rw [show mI (mS m (nI s - 1) (nI l) (nI v) Z) 64 (upd Z (o v) y) = mS m (nI s - 1) (nI l) (nI v) (upd Z (o v) y) by unfold mS; rw [mI_mI]] at b2
      have b3 := pj_fld2 (k := 61) (j := 4) (x := nI (v + 1)) b2
      rw [mS_4] at b3
      exact b3
    have A64 : mA.1 64 = Z := by rw [hmA, mI_n (by decide), mI_n (by decide), r64]
    by_cases c9 : (999 : Int32) ≤ Z (o v)
    · refine ⟨pn, _, hpn, by rw [hp, hpe], hAs _ (by rw [mI_n (by decide), mI_n (by decide), mI_n (by decide)]) (fun j a b => by rw [mI_s, upd_n (by omega), mI_n (by decide), mI_s, upd_n (by omega)]), Or.inr ⟨c, 999, ?_, step 999⟩⟩
      unfold fM_goDraw
      simp only [e4, ckv, clv, if_true, e66, e3, e2, lt, hg, Option.bind_some, if_neg hnle, lm, A61, u2, cko, clo, mI_n (show (64 : Nat) ≠ 61 by decide), A64, if_pos c9, mI_n (show (61 : Nat) ≠ 64 by decide), mI_s, upd_n (show (4 : Nat) ≠ 2 by decide), u4, nI_1]
    · refine ⟨pn, _, hpn, by rw [hp, hpe], hAs _ (by rw [mI_n (by decide), mI_n (by decide), mI_n (by decide)]) (fun j a b => by rw [mI_s, upd_n (by omega), mI_n (by decide), mI_s, upd_n (by omega)]), Or.inr ⟨c, Z (o v) + 1, ?_, step (Z (o v) + 1)⟩⟩
      unfold fM_goDraw
      simp only [e4, ckv, clv, if_true, e66, e3, e2, lt, hg, Option.bind_some, if_neg hnle, lm, A61, u2, cko, clo, mI_n (show (64 : Nat) ≠ 61 by decide), A64, if_neg c9, mI_n (show (61 : Nat) ≠ 64 by decide), mI_s, upd_n (show (4 : Nat) ≠ 2 by decide), u4, nI_1]
end SI
