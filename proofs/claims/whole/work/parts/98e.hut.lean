/-! THE SAME ANSWERS: hut -/
theorem R_tx {m0 : MI} {T : Nat → Nat} {len f : Nat} (hT : RT m0 T len) (h75 : ∀ i, i < 16 → m0.1 75 i = letT.getD i 0) (hf5 : f ≤ 5) : ∀ (g fl p : Nat) (m : MI) (cs : List Cla), cs.length + g = 10 → g < fl → 0 < g → cnt cs ≤ p → p ≤ len → XR m0 m f p cs → match txP T len g p with
    | .inl q => ∃ m', fM_goesText_l15 (nI f) (fun m4 _ => some (0, m4)) fl m (nI cs.length) = some (0, m') ∧ XF m0 m' f q
    | .inr (q, cs') => ∃ m', fM_goesText_l15 (nI f) (fun m4 _ => some (0, m4)) fl m (nI cs.length) = some (1, m') ∧ XR m0 m' f q (cs ++ cs') ∧ m'.1 68 f = nI (cs ++ cs').length ∧ cnt (cs ++ cs') ≤ len := by
  have hlen := hT.1
  intro g
  induction g with
  | zero => intro fl p m cs _ _ h; exact absurd h (by omega)
  | succ g ih =>
    intro fl p m cs hcs hfu hg hcnt hp h
    obtain ⟨f', rfl, hf'⟩ := fu hfu
    have hc := R_cla hT h75 hf5 (show cs.length < 10 by omega) hcnt hp h
    unfold txP
    rw [fM_goesText_l15, show (10 : Int32) * nI f + nI cs.length = nI (10 * f + cs.length) by rw [show (10 : Int32) = nI 10 from rfl, pk_mul, nI_add]]
    cases he : claP T len p with
    | inl q =>
      rw [he] at hc
      obtain ⟨m1, a1, a2⟩ := hc
      rw [a1]
      exact ⟨m1, rfl, a2⟩
    | inr r =>
      obtain ⟨q, c⟩ := r
      rw [he] at hc
      obtain ⟨m1, a1, ⟨X1, a23, aRC⟩, a3, a4, a5⟩ := hc
      rw [a1]
      simp only [Option.bind_some, if_neg (show ¬ (1 : Int32) = 0 by decide), lt, nI_1]
      rw [if_pos (ck_nI (by omega) (by omega)), cl_nI (by omega)]
      simp only [lm]
      obtain ⟨m2, hm2⟩ : ∃ m2, m2 = mI m1 68 (upd (m1.1 68) f (nI (cs.length + 1))) := ⟨_, rfl⟩
      rw [← hm2]
      have X2 : XR m0 m2 f q (cs ++ [c]) := by
        obtain ⟨x1, x2, x3, x4, x5, x6, x7⟩ := X1
        rw [hm2]
        refine ⟨⟨x1, fun k hk => ?_, fun i hi => ?_, fun i hi => ?_, fun k i h1 h2 hi => ?_, fun i hi => ?_, ?_⟩, ?_, fun j cl hj => ?_⟩
        · rw [mI_n (fun e => hk (by subst e; simp))]; exact x2 k hk
        · rw [mI_n (by decide)]; exact x3 i hi
        · rw [mI_s, upd_n hi]; exact x4 i hi
        · rw [mI_n (by omega)]; exact x5 k i h1 h2 hi
        · rw [mI_n (by decide)]; exact x6 i hi
        · rw [mI_n (by decide)]; exact x7
        · rw [mI_n (by decide)]; exact a23
        · rw [mI_n (by decide), mI_n (by decide), mI_n (by decide), mI_n (by decide), mI_n (by decide)]; exact aRC j cl hj
      have m12 : m2.1 61 12 = nI len := (XF_T hT X2.1).2.2
      have m68 : m2.1 68 f = nI (cs.length + 1) := by rw [hm2, mI_s, upd_s]
      have l1 : (cs ++ [c]).length = cs.length + 1 := by rw [List.length_append]; rfl
      rw [X2.1.2.2.2.2.2.2, m12]
      by_cases c1 : q = len
      · rw [if_pos c1, if_pos (show nI q = nI len by rw [c1])]
        exact ⟨m2, rfl, X2, by rw [m68, l1], by omega⟩
      rw [if_neg c1, if_neg (show ¬ nI q = nI len from fun e => c1 ((nI_eq (by omega) (by omega)).mp e))]
      by_cases c2 : g = 0
      · rw [if_pos c2, if_pos (show nI (cs.length + 1) = 10 by rw [show cs.length + 1 = 10 by omega]; rfl)]
        exact ⟨m2, rfl, X2.1⟩
      rw [if_neg c2, if_neg (show ¬ nI (cs.length + 1) = 10 from fun e => c2 (by have := (nI_eq (b := 10) (by omega) (by omega)).mp e; omega))]
      rw [show (59 : Int32) = nI 59 from rfl, R_tk (XF_T hT X2.1) X2.1.2.2.2.2.2.2 a5 (by omega)]
      by_cases r59 : rdB T len q 59 = true
      · have hr := rdB_t r59
        rw [if_pos r59, if_pos r59]
        simp only [Option.bind_some, if_neg (show ¬ (1 : Int32) = 0 by decide)]
        have X3 : XR m0 (mI m2 61 (upd (m2.1 61) 13 (nI (q + 1)))) f (q + 1) (cs ++ [c]) := by
          obtain ⟨⟨x1, x2, x3, x4, x5, x6, x7⟩, b1, b2⟩ := X2
          refine ⟨⟨x1, fun k hk => ?_, fun i hi => ?_, fun i hi => ?_, fun k i h1 h2 hi => ?_, fun i hi => ?_, ?_⟩, ?_, fun j cl hj => ?_⟩
          · rw [mI_n (fun e => hk (by subst e; simp))]; exact x2 k hk
          · rw [mI_s, upd_n (fun e => hi (by subst e; decide))]; exact x3 i hi
          · rw [mI_n (by decide)]; exact x4 i hi
          · rw [mI_n (by omega)]; exact x5 k i h1 h2 hi
          · rw [mI_n (by decide)]; exact x6 i hi
          · rw [mI_s, upd_s]
          · rw [mI_s, upd_n (by decide)]; exact b1
          · rw [mI_n (by decide), mI_n (by decide), mI_n (by decide), mI_n (by decide), mI_n (by decide)]; exact b2 j cl hj
        have hi := ih f' (q + 1) _ (cs ++ [c]) (by rw [l1]; omega) (hf' g rfl) (by omega) (by omega) hr.1 X3
        rw [l1] at hi
        cases ht : txP T len g (q + 1) with
        | inl q' =>
          rw [ht] at hi
          exact hi
        | inr r =>
          obtain ⟨q', cs'⟩ := r
          rw [ht] at hi
          obtain ⟨m5, i1, i2, i3, i4⟩ := hi
          rw [List.append_assoc] at i2 i3 i4
          exact ⟨m5, i1, i2, i3, i4⟩
      · rw [if_neg r59, if_neg r59]
        simp only [Option.bind_some, if_true]
        exact ⟨m2, rfl, X2.1⟩
/-- what one call of the class comes to -/
def CallOK (Y : YD) (sh : Sh) (R : RR) (m : MI) (av : List Value) (v : Value) (sh' : Sh) (R' : RR) (m1 : MI) : Prop := ∃ b d k n, d ≤ 300 ∧ k ≤ 2 ∧ n ≤ 103 ∧ K b d k n Y sh (mk m R) av (fun v' s' M' => (v', s', M') = (some v, sh', mk m1 R'))
theorem hutSh_app (ls : List Nat) (N : Nat) : base ++ hutSh (ls ++ [N]) = base ++ hutSh ls ++ [(11, 0)] ++ [(0, N)] := by
  have : ∀ ls : List Nat, hutSh (ls ++ [N]) = hutSh ls ++ [(11, 0), (0, N)] := fun ls => by
    unfold hutSh
    rw [List.flatMap_append]
    rfl
  rw [this, List.append_assoc, List.append_assoc]
  rfl
theorem hutSh_len : ∀ ls : List Nat, (hutSh ls).length = 2 * ls.length
  | [] => rfl
  | l :: ls => by
    show ((11, 0) :: (0, l) :: hutSh ls).length = _
    rw [List.length_cons, List.length_cons, hutSh_len ls, List.length_cons]; omega
/-- an older hut stays -/
theorem HRep_loc {sh sh' : Sh} {m m' : MI} {j f : Nat} (hj : j < f) (hsh : ∀ (k : Nat) (s : Nat × Nat), sh[k]? = some s → sh'[k]? = some s) (h99 : ∀ k, 99 ≤ k → k < 99 + 2 * f → m'.1 k = m.1 k) (h68 : ∀ i, i ≠ f → m'.1 68 i = m.1 68 i) (h69 : ∀ k i, 69 ≤ k → k ≤ 72 → i < 10 * f → m'.1 k i = m.1 k i) (h73 : ∀ i, i < 100 * f → m'.1 73 i = m.1 73 i) (H : HRep sh m j) : HRep sh' m' j := by
  obtain ⟨cs, c1, c2, c3, c4, c5, c6, c7, c8, c9⟩ := H
  refine ⟨cs, c1, c2, c3, hsh _ _ c4, fun i hi => by rw [h99 _ (by omega) (by omega)]; exact c5 i hi, by rw [h99 _ (by omega) (by omega)]; exact c6, by rw [h99 _ (by omega) (by omega)]; exact c7, by rw [h68 j (by omega)]; exact c8, fun c hc => ?_⟩
  obtain ⟨cl, d1, d2, d3, d4⟩ := c9 c hc
  refine ⟨cl, d1, by rw [h69 69 _ (by omega) (by omega) (by omega)]; exact d2, by rw [h69 70 _ (by omega) (by omega) (by omega)]; exact d3, fun hw => ?_⟩
  obtain ⟨fr, e1, e2, e3, e4, e5⟩ := d4 hw
  refine ⟨fr, e1, by rw [h69 71 _ (by omega) (by omega) (by omega)]; exact e2, by rw [h69 72 _ (by omega) (by omega) (by omega)]; exact e3, e4, fun i hi => ?_⟩
  have : fr + i < 100 * f := by
    have : 100 * (j + 1) ≤ 100 * f := Nat.mul_le_mul_left _ hj
    omega
  rw [h73 _ this]; exact e5 i hi
