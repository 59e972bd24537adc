/-! ORDERS: how the reference lays the k-th -/
theorem M_hasE {s d : Nat} (hs : s < 32) (hd : d < 6) (m : MI) : fM_has m (nI s) (nI d) = some (if s.testBit d = true then 1 else 0, m) := by
  unfold fM_has
  by_cases c : s.testBit d = true
  · rw [if_pos ((hasT s hs d hd).mpr c), if_pos c]
  · rw [if_neg (fun q => c ((hasT s hs d hd).mp q)), if_neg c]
theorem lo_fac {n : Nat} (hn : n ≤ 6) {m : MI} (h0 : m.1 61 0 = nI n) (u1 : Int32) (kc : MI → Int32 → Int32 → Option (Int32 × MI)) : ∀ (q k a f : Nat), k + q = n + 1 → q < f → fM_layOrder_l4 u1 kc f m (nI a) (nI k) = kc m (nI (facF q k a)) (nI (n + 1)) := by
  intro q
  induction q with
  | zero =>
    intro k a f hk hf
    obtain ⟨f', rfl, -⟩ := fu hf
    rw [fM_layOrder_l4, h0, if_pos (nI_lt (by omega) (by omega)), show k = n + 1 by omega]
    rfl
  | succ q ih =>
    intro k a f hk hf
    obtain ⟨f', rfl, hf'⟩ := fu hf
    rw [fM_layOrder_l4, h0, if_neg (nI_nlt (by omega) (by omega))]
    simp only [lt, pk_mul, nI_1]
    exact ih (k + 1) (a * k) f' (by omega) (hf' q rfl)
theorem lo_pick {s : Nat} (hs : s < 32) (u1 u2 u4 u5 : Int32) (m : MI) (kc : MI → Int32 → Int32 → Option (Int32 × MI)) : ∀ (g nth d r f : Nat), d + g = 6 → g < f → nth < 1000 → pickN g s nth d = some r → r < 6 ∧ ∃ w, fM_layOrder_l78 u1 u2 (nI s) u4 u5 kc f m (nI nth) (nI d) = kc m w (nI r) := by
  have one : ¬ (1 : Int32) = 0 := by decide
  intro g
  induction g with
  | zero => intro nth d r f _ _ _ h; cases h
  | succ g ih =>
    intro nth d r f hd hf hn h
    obtain ⟨f', rfl, hf'⟩ := fu hf
    unfold pickN at h
    rw [fM_layOrder_l78, M_hasE hs (by omega)]
    simp only [Option.bind_some]
    by_cases c : s.testBit d = true
    · rw [if_pos c] at h
      rw [if_pos c, if_neg one]
      by_cases c0 : nth = 0
      · rw [if_pos c0] at h
        cases h
        exact ⟨by omega, nI nth, by rw [if_pos (show nI nth ≤ 0 by rw [c0]; decide)]⟩
      · rw [if_neg c0] at h
        obtain ⟨w, rfl⟩ : ∃ w, nth = w + 1 := ⟨nth - 1, by omega⟩
        rw [if_neg (show ¬ nI (w + 1) ≤ 0 from nI_nle (by omega) (by omega)), M_hasE hs (by omega), if_pos c]
        simp only [Option.bind_some, if_neg one, lt, nI_1, nI_pred]
        exact ih w (d + 1) r f' (by omega) (hf' g rfl) (by omega) h
    · rw [if_neg c] at h
      rw [if_neg c, if_pos rfl, M_hasE hs (by omega), if_neg c]
      simp only [Option.bind_some, if_true, lt, nI_1, show nI nth - 0 = nI nth from pk_sub (b := 0) (Nat.zero_le _), Nat.sub_zero]
      exact ih nth (d + 1) r f' (by omega) (hf' g rfl) hn h
set_option maxRecDepth 100000 in
theorem lo_go {n : Nat} (hn : n ≤ 6) (u1 : Int32) : ∀ (q k all left rest f : Nat) (m : MI) (l : List Nat), m.1 61 0 = nI n → k + q = n → q < f → all ≤ 500 → left < 32 → rest ≤ 500 → layL q all left rest = some l → ∃ O : Nat → Int32, (∀ i, i < q → O (k + i) = nI (l.getD i 0)) ∧ (∀ i, i < k ∨ n ≤ i → O i = m.1 66 i) ∧ fM_layOrder_l44 u1 (fun m10 z6 z7 z8 z9 => some (1, m10)) f m (nI all) (nI left) (nI rest) (nI k) = some (1, mI m 66 O) := by
  intro q
  induction q with
  | zero =>
    intro k all left rest f m l h0 hk hf hall hleft hrest h
    obtain ⟨f', rfl, -⟩ := fu hf
    refine ⟨m.1 66, fun i hi => absurd hi (by omega), fun _ _ => rfl, ?_⟩
    rw [fM_layOrder_l44, h0, if_pos (nI_le (by omega) (by omega)), mI_id]
  | succ q ih =>
    intro k all left rest f m l h0 hk hf hall hleft hrest h
    obtain ⟨f', rfl, hf'⟩ := fu hf
    unfold layL at h
    by_cases c : all / (q + 1) = 0
    · rw [if_pos c] at h; cases h
    rw [if_neg c] at h
    cases hp : pickN 6 left (rest / (all / (q + 1))) 0 with
    | none => rw [hp] at h; cases h
    | some d =>
      rw [hp] at h
      simp only [] at h
      cases hl : layL q (all / (q + 1)) (clr left d) (rest % (all / (q + 1))) with
      | none => rw [hl] at h; cases h
      | some l' =>
        rw [hl] at h
        simp only [] at h
        cases h
        have hp0 : 0 < all / (q + 1) := Nat.pos_of_ne_zero c
        have b1 : all / (q + 1) ≤ 500 := Nat.le_trans (Nat.div_le_self _ _) hall
        have b2 : rest / (all / (q + 1)) ≤ 500 := Nat.le_trans (Nat.div_le_self _ _) hrest
        have b3 : rest % (all / (q + 1)) ≤ 500 := Nat.le_trans (Nat.mod_le _ _) hrest
        have b4 := clr_le left d
        obtain ⟨F, hF1⟩ : ∃ F : Nat, F = 1000 := ⟨_, rfl⟩
        have kk : n - k = q + 1 := by omega
        have ckk : ck (nI k) 6 = true := ck_nI (by omega) (by omega)
        have clk := cl_nI (show k < 100000 by omega)
        obtain ⟨hd, w, hw⟩ := lo_pick hleft u1 (nI (all / (q + 1))) (nI (rest % (all / (q + 1)))) (nI k) m (fun m10 z8 z9 =>
                if ck (nI k) 6 = true then
                  lm (mI m10 66 (upd (m10.1 66) (nI k).toNatClampNeg z9)) fun m12 =>
                  lt (nI left &&& (((1 : Int32) <<< (z9 &&& 31)) ^^^ (-1 : Int32))) fun x13 =>
                  lt (nI k + 1) fun x14 =>
                  fM_layOrder_l44 u1 (fun m10 z6 z7 z8 z9 => some (1, m10)) f' m12 (nI (all / (q + 1))) x13 (nI (rest % (all / (q + 1)))) x14
                else none) 6 (rest / (all / (q + 1))) 0 d F (by omega) (by omega) (by omega) hp
        obtain ⟨O, o1, o2, o3⟩ := ih (k + 1) (all / (q + 1)) (clr left d) (rest % (all / (q + 1))) f' (mI m 66 (upd (m.1 66) k (nI d))) l' (by rw [mI_n (by decide)]; exact h0) (by omega) (hf' q rfl) b1 (by omega) b3 hl
        rw [mI_s] at o2
        refine ⟨O, fun i hi => ?_, fun i hi => ?_, ?_⟩
        · cases i with
          | zero => rw [Nat.add_zero, o2 k (Or.inl (by omega)), upd_s]; rfl
          | succ i =>
            have := o1 i (by omega)
            rw [show k + 1 + i = k + (i + 1) by omega] at this
            rw [this]; rfl
        · rw [o2 i (by omega), upd_n (by omega)]
        · rw [fM_layOrder_l44, h0, if_neg (not_le_nI (by omega) (by omega)), pk_sub (show k ≤ n by omega), kk, if_pos (show ¬ nI (q + 1) = 0 from nI_ne0 (by omega) (by omega)), pk_div (by omega) (by omega) (by omega)]
          simp only [lt]
          rw [if_pos (show ¬ nI (all / (q + 1)) = 0 from nI_ne0 hp0 (by omega)), if_pos (show ¬ nI (all / (q + 1)) = 0 from nI_ne0 hp0 (by omega)), pk_rem (by omega) hp0 (by omega), pk_div (by omega) hp0 (by omega), ← hF1]
          refine Eq.trans hw ?_
          rw [if_pos ckk, clk, clrT left hleft d hd, nI_1]
          simp only [lm, lt]
          rw [o3, mI_mI]
theorem M_layO {n k : Nat} (hn : n < 6) (h1 : 0 < n) {m : MI} (h0 : m.1 61 0 = nI n) (hk : k ≤ facN n) : (k = facN n ∧ fM_layOrder m (nI k) = some (0, m)) ∨ (k < facN n ∧ ∃ O : Nat → Int32, (∀ i, i < n → O i = nI (perm n k i)) ∧ (∀ i, n ≤ i → O i = m.1 66 i) ∧ fM_layOrder m (nI k) = some (1, mI m 66 O)) := by
  obtain ⟨F, hF1⟩ : ∃ F : Nat, F = 1000 := ⟨_, rfl⟩
  have hfac := facN_le n hn
  have e1 : ∀ kc, fM_layOrder_l4 (nI k) kc F m 1 2 = kc m (nI (facN n)) (nI (n + 1)) := fun kc => lo_fac (by omega) h0 (nI k) kc (n - 1) 2 1 F (by omega) (by omega)
  unfold fM_layOrder
  rw [← hF1, e1]
  by_cases c : k < facN n
  · obtain ⟨⟨l, hl, hp⟩, -⟩ := tab_perm hn h1 c
    obtain ⟨f1, f2⟩ := fulT n hn
    obtain ⟨O, o1, o2, o3⟩ := lo_go (show n ≤ 6 by omega) (nI k) n 0 (facN n) (2 ^ n - 1) k F m l h0 (by omega) (by omega) (by omega) f2 (by omega) hl
    refine Or.inr ⟨c, O, fun i hi => ?_, fun i hi => o2 i (Or.inr hi), ?_⟩
    · have := o1 i hi
      rw [Nat.zero_add] at this
      rw [this, hp i]
    · rw [if_pos (nI_lt c (by omega)), h0, f1]
      exact o3
  · refine Or.inl ⟨by omega, ?_⟩
    rw [if_neg (nI_nlt (by omega) (by omega))]
