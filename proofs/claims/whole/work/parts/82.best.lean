/-! THE SAME ANSWERS: best -/
def invF (o : Nat → Nat) : Nat → Nat → Nat
  | 0, _ => 0
  | k + 1, d => if o k = d then k else invF o k d
theorem invF_lt {o : Nat → Nat} {d : Nat} : ∀ {n : Nat}, 0 < n → invF o n d < n
  | k + 1, _ => by
    unfold invF
    by_cases c : o k = d
    · rw [if_pos c]; omega
    · rw [if_neg c]
      cases k with
      | zero => exact Nat.zero_lt_one
      | succ k => exact Nat.lt_succ_of_lt (invF_lt (Nat.succ_pos k))
set_option maxRecDepth 100000 in
theorem tabI_ok : ∀ n, n < 6 → 0 < n → ∀ k, k < facN n → ∀ d, d < n → perm n k (invF (perm n k) n d) = d := by decide +kernel
def evV (P : Nat → Int32 → Int32 → Int32 → Int32) (T S n : Nat) (o : Nat → Nat) : Nat := hiF (fun d => gon P T S o (invF o n d)) (n - 1) - loF (fun d => gon P T S o (invF o n d)) (n - 1)
theorem LC_42 {P : Nat → Int32 → Int32 → Int32 → Int32} {T S n : Nat} {m m' : MI} {g : Nat → Int32} (h : LC P T S m n m') : LC P T S m n (mI m' 42 g) := by
  obtain ⟨a1, a2, a3, a4⟩ := h
  exact ⟨pj_r (fun _ => rfl) a1, by rw [mI_n (by decide)]; exact a2, ⟨a3.1, by rw [mI_n (by decide)]; exact a3.2⟩, fun d v b h1 h2 h3 => by rw [mI_n (by decide)]; exact a4 d v b h1 h2 h3⟩
section BE
variable {sh : Sh} {R : RR} {m : MI} {hw a z n : Nat} {cs : List Cla} {P : Nat → Int32 → Int32 → Int32 → Int32} {o : Nat → Nat}
theorem C_evE (N : Ngt sh R m hw a z cs P n o) (h0n : 0 < n) {o' : Nat → Nat} (h1 : ∀ i, i < n → o' i < n) (h2 : ∀ i j, i < n → j < n → o' i = o' j → i = j) (h3 : ∀ d, d < n → o' (invF o' n d) = d) {m' : MI} (hL : LC P (a + (n + z - a) + 0) a m n m') (hO : Rp n m' o') :
    ∃ m2, fL_evenBy_41 sh R m' = some (nI (evV P (a + (n + z - a) + 0) a n o'), m2) ∧ LC P (a + (n + z - a) + 0) a m n m2 ∧ ∀ k, k ≠ 18 → k ≠ 40 → k ≠ 38 → m2.1 k = m'.1 k := by
  obtain ⟨hF, hC, hP, hD, ⟨hn, h0, h0'⟩, o1, o2, o3, o4, o5, h34⟩ := N
  have hA := hC.2.2.2.1
  have hZ := hC.2.2.2.2.1
  obtain ⟨F, hF1⟩ : ∃ F : Nat, F = 1000 := ⟨_, rfl⟩
  obtain ⟨m2, b1, b2, b3, b4⟩ := C_go_41 (T := a + (n + z - a) + 0) (S := a) (o := o') hF hC.1 hC.2.1 hP hD hn (by omega) (by omega) h0 h1 h2 m' hL hO
  have g2 : ∀ d, (fun d => gon P (a + (n + z - a) + 0) a o' (invF o' n d)) d ≤ 1000000 := fun d => gon_le (by omega) _
  have q1 : ∀ d, d < n → m2.1 38 d = nI ((fun d => gon P (a + (n + z - a) + 0) a o' (invF o' n d)) d) := fun d hd => by
    have := b4 _ (invF_lt (o := o') (d := d) h0n)
    rw [h3 d hd] at this
    rw [this]
    show _ = nI (gon P (a + (n + z - a) + 0) a o' (invF o' n d))
    unfold gon
    rw [h3 d hd]
  have hl := hi_le g2 (n - 1)
  refine ⟨m2, ?_, b2, b3⟩
  unfold fL_evenBy_41
  rw [b1, ← hF1]
  simp only [Option.bind_some, lt, show (0 : Int32).toNatClampNeg = 0 from rfl]
  rw [q1 0 h0n]
  have := even_C41 (m := m2) hn (by rw [pj_at b2.1 rfl]; exact h0) g2 q1 (fun m7 z4 z5 _ => some (z4 - z5, m7)) (n - 1) 0 F (by omega) (by omega)
  refine Eq.trans this ?_
  rw [pk_sub hl.2]
  rfl
theorem M_evE (N : Ngt sh R m hw a z cs P n o) (h0n : 0 < n) {O : Nat → Int32} {o' : Nat → Nat} (h1 : ∀ i, i < n → o' i < n) (h2 : ∀ i j, i < n → j < n → o' i = o' j → i = j) (h3 : ∀ d, d < n → o' (invF o' n d) = d) (hO : ∀ i, i < n → O i = nI (o' i)) {m' : MI} (e : pj m' = pj (mI m 66 O)) :
    ∃ m2, fM_evenNow m' = some (nI (evV P (a + (n + z - a) + 0) a n o'), m2) ∧ pj m2 = pj (mI m 66 O) ∧ ∀ k, k ∉ [61, 76, 77, 78, 79] → m2.1 k = m'.1 k := by
  obtain ⟨m3, c1, c2, c3, c4⟩ := M_goO N h1 h2 hO e
  obtain ⟨hF, hC, hP, hD, ⟨hn, h0, h0'⟩, o1, o2, o3, o4, o5, h34⟩ := N
  have hA := hC.2.2.2.1
  obtain ⟨F, hF1⟩ : ∃ F : Nat, F = 1000 := ⟨_, rfl⟩
  have g2 : ∀ d, (fun d => gon P (a + (n + z - a) + 0) a o' (invF o' n d)) d ≤ 1000000 := fun d => gon_le (by omega) _
  have q2 : ∀ d, d < n → m3.1 77 d = nI ((fun d => gon P (a + (n + z - a) + 0) a o' (invF o' n d)) d) := fun d hd => by
    have := c4 _ (invF_lt (o := o') (d := d) h0n)
    rw [h3 d hd] at this
    exact this
  have hl := hi_le g2 (n - 1)
  refine ⟨m3, ?_, c2, c3⟩
  unfold fM_evenNow
  rw [c1, ← hF1]
  simp only [Option.bind_some]
  have := even_M (m := m3) (lo := 1000000) (hi := 0) hn (by rw [pj_at c2 rfl, mI_n (by decide)]; exact h0') g2 q2 (fun m5 z2 z3 _ => some (z3 - z2, m5)) n 0 F (by omega) (by omega) (by omega) (by omega) (Or.inl ⟨rfl, rfl, rfl⟩) h0n
  rw [show (1000000 : Int32) = nI 1000000 from rfl, show (0 : Int32) = nI 0 from rfl]
  refine Eq.trans this ?_
  rw [pk_sub hl.2]
  rfl
theorem evV_le {T S : Nat} (hS : S ≤ 3) (o' : Nat → Nat) : evV P T S n o' ≤ 1000000 := by
  have g2 : ∀ d, (fun d => gon P T S o' (invF o' n d)) d ≤ 1000000 := fun d => gon_le hS _
  have := hi_le g2 (n - 1)
  unfold evV
  omega
/-- the least of all orders, and which -/
def btF (E : Nat → Nat) : Nat → Nat → Nat → Nat → Nat × Nat
  | 0, _, l, b => (l, b)
  | q + 1, k, l, b => if l ≤ E k then btF E q (k + 1) l b else btF E q (k + 1) (E k) k
theorem cpk6 {n : Nat} (hn : n ≤ 6) : cpk 0 0 (nI n) 6 6 = true := by
  unfold cpk
  simp only [show (0 : Int32).toNatClampNeg = 0 from rfl, cl_nI (show n < 100000 by omega), Nat.zero_add, hn, decide_true, Bool.and_self, Bool.and_true, show decide ((0 : Int32) < 0) = false from rfl, Bool.false_or, show decide (nI n < 0) = false from decide_eq_false (nI_pos (by omega)), Bool.not_false]
theorem bs_C (N : Ngt sh R m hw a z cs P n o) (h0n : 0 < n) (h5 : n < 6) (u1 : Int32) (kc : MI → Int32 → Int32 → Int32 → Option (Int32 × MI)) : ∀ (q k l b f : Nat) (m' : MI) (v3 : Int32), k + q = facN n → q + 1 < f → (0 < q → v3 = 1 ∧ Rp n m' (perm n k)) → (q = 0 → v3 = 0) → LC P (a + (n + z - a) + 0) a m n m' → l ≤ 1000001 → (l = 1000001 ∨ ∀ i, i < n → m'.1 42 i = nI (perm n b i)) →
    ∃ m'' w1 w2, pj m'' = pj m ∧ ((btF (fun k => evV P (a + (n + z - a) + 0) a n (perm n k)) q k l b).1 = 1000001 ∨ ∀ i, i < n → m''.1 42 i = nI (perm n (btF (fun k => evV P (a + (n + z - a) + 0) a n (perm n k)) q k l b).2 i)) ∧ fC_best_l83 sh R u1 kc f m' (nI l) v3 (nI k) = kc m'' (nI (btF (fun k => evV P (a + (n + z - a) + 0) a n (perm n k)) q k l b).1) w1 w2 := by
  have N0 := N
  obtain ⟨hF, hC, hP, hD, ⟨hn, h0, h0'⟩, o1, o2, o3, o4, o5, h34⟩ := N
  have hA := hC.2.2.2.1
  have hfac := facN_le n h5
  have one : ¬ (1 : Int32) = 0 := by decide
  intro q
  induction q with
  | zero =>
    intro k l b f m' v3 hk hf h1 h2 hL hl hb
    obtain ⟨f', rfl, -⟩ := fu (show 0 < f by omega)
    refine ⟨m', v3, nI k, hL.1, hb, ?_⟩
    rw [fC_best_l83, h2 rfl]
    by_cases c : (120 : Int32) ≤ nI k
    · rw [if_pos c]; rfl
    · rw [if_neg c, if_pos rfl]; rfl
  | succ q ih =>
    intro k l b f m' v3 hk hf h1 h2 hL hl hb
    obtain ⟨f', rfl, -⟩ := fu (show 0 < f by omega)
    obtain ⟨rfl, hO⟩ := h1 (by omega)
    obtain ⟨-, p1, p2, p3, -⟩ := tab_perm h5 h0n (show k < facN n by omega)
    obtain ⟨m2, b1, b2, b3⟩ := C_evE N0 h0n p1 p2 (tabI_ok n h5 h0n k (by omega)) hL hO
    have hE := evV_le (P := P) (T := a + (n + z - a) + 0) (S := a) (n := n) (by omega) (perm n k)
    rw [fC_best_l83, if_neg (show ¬ (120 : Int32) ≤ nI k from not_le_nI (n := 120) (by omega) (by omega)), if_neg one, b1]
    simp only [Option.bind_some]
    -- the step to the next
    have stp : ∀ m3 : MI, LC P (a + (n + z - a) + 0) a m n m3 → Rp n m3 (perm n k) → ∃ m4 v, fC_stepOrder_41 m3 (m3.1 1 0) = some (v, m4) ∧ LC P (a + (n + z - a) + 0) a m n m4 ∧ (0 < q → v = 1 ∧ Rp n m4 (perm n (k + 1))) ∧ (q = 0 → v = 0) ∧ m4.1 42 = m3.1 42 := fun m3 hL3 hR3 => by
      have e0 : m3.1 1 0 = nI n := by rw [pj_at hL3.1 rfl]; exact h0
      rw [e0]
      rcases C_stp hn h0n hR3 (fun i hi => by have := p1 i hi; omega) with ⟨s1, s2⟩ | ⟨A', g, s1, s2, s3⟩
      · refine ⟨m3, 0, s2, hL3, fun hq => ?_, fun _ => rfl, rfl⟩
        rcases p3 with ⟨-, c⟩ | ⟨A, c, -⟩
        · omega
        · rw [s1] at c; cases c
      · rcases p3 with ⟨c, -⟩ | ⟨A, c, c2, c3⟩
        · rw [s1] at c; cases c
        · rw [s1] at c
          obtain rfl := Option.some.inj c
          exact ⟨mI m3 41 g, 1, s3, LC_41 hL3, fun _ => ⟨rfl, fun i hi => by rw [s2 i hi, c3 i hi]⟩, fun hq => by omega, by rw [mI_n (by decide)]⟩
    have hR2 : Rp n m2 (perm n k) := fun i hi => by rw [b3 41 (by decide) (by decide) (by decide)]; exact hO i hi
    unfold btF
    by_cases c : l ≤ evV P (a + (n + z - a) + 0) a n (perm n k)
    · rw [if_pos (nI_le c (by omega)), if_pos c]
      obtain ⟨m4, v, t1, t2, t3, t4, t5⟩ := stp m2 b2 hR2
      rw [t1]
      simp only [Option.bind_some, lt, nI_1]
      exact ih (k + 1) l b f' m4 v (by omega) (by omega) t3 t4 t2 hl (hb.imp id (fun h i hi => by rw [t5, b3 42 (by decide) (by decide) (by decide)]; exact h i hi))
    · rw [if_neg (show ¬ nI l ≤ nI (evV P (a + (n + z - a) + 0) a n (perm n k)) by rw [nI_leI (by omega) (by omega)]; exact c), if_neg c, show m2.1 1 0 = nI n by rw [pj_at b2.1 rfl]; exact h0, if_pos (cpk6 hn)]
      simp only [lm]
      obtain ⟨m4, v, t1, t2, t3, t4, t5⟩ := stp (mI m2 42 (va_cpy (m2.1 41) (m2.1 42) (0 : Int32).toNatClampNeg (0 : Int32).toNatClampNeg (nI n).toNatClampNeg)) (LC_42 b2) (fun i hi => by rw [mI_n (by decide)]; exact hR2 i hi)
      rw [t1]
      simp only [Option.bind_some, lt, nI_1]
      refine ih (k + 1) (evV P (a + (n + z - a) + 0) a n (perm n k)) k f' m4 v (by omega) (by omega) t3 t4 t2 (by omega) (Or.inr fun i hi => ?_)
      rw [t5, mI_s, cl_nI (show n < 100000 by omega), show (0 : Int32).toNatClampNeg = 0 from rfl, pk_cpy_in (Nat.zero_le _) (by omega), Nat.sub_zero, Nat.zero_add]
      exact hR2 i hi
theorem M_cp81 (u1 u2 u3 u4 : Int32) (kc : MI → Int32 → Option (Int32 × MI)) : ∀ (q k f : Nat) (m : MI), k + q = 6 → q < f → ∃ g : Nat → Int32, (∀ i, k ≤ i → i < 6 → g i = m.1 66 i) ∧ (∀ i, i < k → g i = m.1 81 i) ∧ fM_best_l72 u1 u2 u3 u4 kc f m (nI k) = kc (mI m 81 g) (nI 6) := by
  intro q
  induction q with
  | zero =>
    intro k f m hk hf
    obtain ⟨f', rfl, -⟩ := fu hf
    refine ⟨m.1 81, fun i _ _ => by omega, fun _ _ => rfl, ?_⟩
    rw [fM_best_l72, if_pos (show (6 : Int32) ≤ nI k from nI_le (a := 6) (by omega) (by omega)), mI_id, show k = 6 by omega]
  | succ q ih =>
    intro k f m hk hf
    obtain ⟨f', rfl, hf'⟩ := fu hf
    obtain ⟨g, g1, g2, g3⟩ := ih (k + 1) f' (mI m 81 (upd (m.1 81) k (m.1 66 k))) (by omega) (hf' q rfl)
    refine ⟨g, fun i h1 h2 => ?_, fun i hi => ?_, ?_⟩
    · by_cases e : i = k
      · subst e; rw [g2 i (by omega), mI_s, upd_s]
      · rw [g1 i (by omega) h2, mI_n (by decide)]
    · rw [g2 i (by omega), mI_s, upd_n (by omega)]
    · rw [fM_best_l72, if_neg (show ¬ (6 : Int32) ≤ nI k from not_le_nI (n := 6) (by omega) (by omega))]
      simp only [ck_nI (show k < 6 by omega) (show 6 ≤ 100000 by omega), cl_nI (show k < 100000 by omega), if_true, lm, lt, nI_1]
      rw [g3, mI_mI]
theorem bs_M (N : Ngt sh R m hw a z cs P n o) (h0n : 0 < n) (h5 : n < 6) (u1 : Int32) (kc : MI → Int32 → Int32 → Option (Int32 × MI)) : ∀ (q k l b f : Nat) (m' : MI) (O : Nat → Int32), k + q = facN n → q + 1 < f → pj m' = pj (mI m 66 O) → (∀ i, n ≤ i → O i = m.1 66 i) → l ≤ 1000001 → (l = 1000001 ∨ ∀ i, i < n → m'.1 81 i = nI (perm n b i)) →
    ∃ m'' O' w, pj m'' = pj (mI m 66 O') ∧ (∀ i, n ≤ i → O' i = m.1 66 i) ∧ m''.1 80 = m'.1 80 ∧ ((btF (fun k => evV P (a + (n + z - a) + 0) a n (perm n k)) q k l b).1 = 1000001 ∨ ∀ i, i < n → m''.1 81 i = nI (perm n (btF (fun k => evV P (a + (n + z - a) + 0) a n (perm n k)) q k l b).2 i)) ∧ fM_best_l43 u1 kc f m' (nI l) (nI k) = kc m'' (nI (btF (fun k => evV P (a + (n + z - a) + 0) a n (perm n k)) q k l b).1) w := by
  have N0 := N
  obtain ⟨hF, hC, hP, hD, ⟨hn, h0, h0'⟩, o1, o2, o3, o4, o5, h34⟩ := N
  have hA := hC.2.2.2.1
  have hfac := facN_le n h5
  have one : ¬ (1 : Int32) = 0 := by decide
  have e0 : ∀ {m' : MI} {O : Nat → Int32}, pj m' = pj (mI m 66 O) → m'.1 61 0 = nI n := fun e => by rw [pj_at e rfl, mI_n (by decide)]; exact h0'
  intro q
  induction q with
  | zero =>
    intro k l b f m' O hk hf e hO hl hb
    obtain ⟨f', rfl, -⟩ := fu (show 0 < f by omega)
    rcases M_layO h5 h0n (e0 e) (show k ≤ facN n by omega) with ⟨-, c⟩ | ⟨c, -⟩
    · refine ⟨m', O, nI k, e, hO, rfl, hb, ?_⟩
      rw [fM_best_l43, c]
      simp only [Option.bind_some, if_true]
      rfl
    · omega
  | succ q ih =>
    intro k l b f m' O hk hf e hO hl hb
    obtain ⟨f', rfl, -⟩ := fu (show 0 < f by omega)
    rcases M_layO h5 h0n (e0 e) (show k ≤ facN n by omega) with ⟨c, -⟩ | ⟨-, O1, c1, c2, c3⟩
    · omega
    obtain ⟨-, p1, p2, -, -⟩ := tab_perm h5 h0n (show k < facN n by omega)
    have e66 : m'.1 66 = O := by rw [pj_rw e (scr_r (by decide)), mI_s]
    have hO1 : ∀ i, n ≤ i → O1 i = m.1 66 i := fun i hi => by rw [c2 i hi, e66, hO i hi]
    have e1 : pj (mI m' 66 O1) = pj (mI m 66 O1) := by rw [pj_put (k := 66) (g := O1) e, mI_mI]
    obtain ⟨m2, b1, b2, b3⟩ := M_evE N0 h0n p1 p2 (tabI_ok n h5 h0n k (by omega)) c1 e1
    have hE := evV_le (P := P) (T := a + (n + z - a) + 0) (S := a) (n := n) (by omega) (perm n k)
    have k80 : m2.1 80 = m'.1 80 := by rw [b3 _ (by decide), mI_n (by decide)]
    have k81 : m2.1 81 = m'.1 81 := by rw [b3 _ (by decide), mI_n (by decide)]
    rw [fM_best_l43, c3]
    simp only [Option.bind_some, if_neg one, b1]
    unfold btF
    by_cases c : l ≤ evV P (a + (n + z - a) + 0) a n (perm n k)
    · rw [if_neg (nI_nlt c (by omega)), if_pos c]
      simp only [lt, nI_1]
      obtain ⟨m3, O3, w, r1, r2, r3, r4, r5⟩ := ih (k + 1) l b f' m2 O1 (by omega) (by omega) b2 hO1 hl (hb.imp id (fun h i hi => by rw [k81]; exact h i hi))
      exact ⟨m3, O3, w, r1, r2, r3.trans k80, r4, r5⟩
    · rw [if_pos (nI_lt (by omega) (by omega)), if_neg c]
      obtain ⟨F, hF1⟩ : ∃ F : Nat, F = 1000 := ⟨_, rfl⟩
      obtain ⟨g, g1, -, g3⟩ := M_cp81 u1 (nI (evV P (a + (n + z - a) + 0) a n (perm n k))) (nI k) (nI (evV P (a + (n + z - a) + 0) a n (perm n k))) (fun m6 z5 => lt (nI k + 1) fun x7 => fM_best_l43 u1 kc f' m6 (nI (evV P (a + (n + z - a) + 0) a n (perm n k))) x7) 6 0 F m2 (by omega) (by omega)
      have m66 : m2.1 66 = O1 := by rw [pj_rw b2 (scr_r (by decide)), mI_s]
      obtain ⟨m3, O3, w, r1, r2, r3, r4, r5⟩ := ih (k + 1) (evV P (a + (n + z - a) + 0) a n (perm n k)) k f' (mI m2 81 g) O1 (by omega) (by omega) (pj_r (fun _ => rfl) b2) hO1 (by omega) (Or.inr fun i hi => by rw [mI_s, g1 i (by omega) (by omega), m66]; exact c1 i hi)
      refine ⟨m3, O3, w, r1, r2, by rw [r3, mI_n (by decide)]; exact k80, r4, ?_⟩
      rw [← hF1]
      refine Eq.trans g3 ?_
      simp only [lt, nI_1]
      exact r5
end BE

theorem C_fst {n : Nat} (hn : n ≤ 6) (kc : MI → Int32 → Option MI) : ∀ (q k f : Nat) (m : MI), k + q = n → q < f → ∃ g : Nat → Int32, (∀ i, k ≤ i → i < n → g i = nI i) ∧ (∀ i, i < k → g i = m.1 41 i) ∧ fC_firstOrder_41_l2 (nI n) kc f m (nI k) = kc (mI m 41 g) (nI n) := by
  intro q
  induction q with
  | zero =>
    intro k f m hk hf
    obtain ⟨f', rfl, -⟩ := fu hf
    refine ⟨m.1 41, fun i _ _ => by omega, fun _ _ => rfl, ?_⟩
    rw [fC_firstOrder_41_l2, if_pos (nI_le (by omega) (by omega)), mI_id, show k = n by omega]
  | succ q ih =>
    intro k f m hk hf
    obtain ⟨f', rfl, hf'⟩ := fu hf
    obtain ⟨g, g1, g2, g3⟩ := ih (k + 1) f' (mI m 41 (upd (m.1 41) k (nI k))) (by omega) (hf' q rfl)
    refine ⟨g, fun i h1 h2 => ?_, fun i hi => ?_, ?_⟩
    · by_cases e : i = k
      · subst e; rw [g2 i (by omega), mI_s, upd_s]
      · exact g1 i (by omega) h2
    · rw [g2 i (by omega), mI_s, upd_n (by omega)]
    · rw [fC_firstOrder_41_l2, if_neg (not_le_nI (by omega) (by omega))]
      simp only [ck_nI (show k < 6 by omega) (show 6 ≤ 100000 by omega), cl_nI (show k < 100000 by omega), if_true, lm, lt, nI_1]
      rw [g3, mI_mI]
theorem op_best {sh : Sh} {R : RR} {m : MI} (c : Int32) (H : Rel sh R m) : Ans sh R m (fun m => fC_best sh R m c) (fun m => fM_best m c) := by
  obtain ⟨hw, a, z, cs, P, n, o, N⟩ := night H
  have N0 := N
  obtain ⟨hF, hC, hP, hD, ⟨hn, h0, h0'⟩, o1, o2, o3, o4, o5, h34⟩ := N
  obtain ⟨F, hF1⟩ : ∃ F : Nat, F = 1000 := ⟨_, rfl⟩
  have one : ¬ (1 : Int32) = 0 := by decide
  have hA := hC.2.2.2.1
  by_cases hc : c < -1 ∨ 4 < c
  · refine ⟨-1, m, m, ?_, by simp [fM_best, M_in0 hc], H⟩
    show fC_best sh R m c = _
    unfold fC_best
    rcases hc with h | h
    · rw [if_pos h]
    · have h1 : ¬ c < -1 := fun q => by
        rw [Int32.lt_iff_toInt_lt] at q h
        have : (-1 : Int32).toInt = -1 := by decide
        have : (4 : Int32).toInt = 4 := by decide
        omega
      have h2 : ¬ c < 5 := fun q => by
        rw [Int32.lt_iff_toInt_lt] at q h
        have : (5 : Int32).toInt = 5 := by decide
        have : (4 : Int32).toInt = 4 := by decide
        omega
      rw [if_neg h1, if_neg h2]
  have hc2 : c < 5 := by
    have := Int32.not_lt.mp (not_or.mp hc).2
    rw [Int32.le_iff_toInt_le] at this
    rw [Int32.lt_iff_toInt_lt]
    have : (5 : Int32).toInt = 5 := by decide
    have : (4 : Int32).toInt = 4 := by decide
    omega
  have hCb : fC_best sh R m c = if nI n = 0 then some (-5, m) else if nI n ≤ 5 then if c < nI n then (fC_firstOrder_41 m (nI n)).bind fun r6 => (fL_begin sh R r6 0).bind fun r7 => fC_best_l83 sh R c (fun m11 z8 z9 z10 => if 0 ≤ c then if ck c 6 = true then some (m11.1 42 c.toNatClampNeg, m11) else none else some (z8, m11)) 1000 r7 1000001 1 0 else some (-5, m) else some (-9, m) := by
    unfold fC_best
    rw [if_neg (not_or.mp hc).1, if_pos hc2, h0]
  have hMb : ∀ m' : MI, m'.1 61 0 = nI n → fM_best m' c = if nI n = 0 then some (-5, m') else if nI n ≤ 5 then (fM_keepOrder m').bind fun r5 => fM_best_l43 c (fun m8 z6 z7 => (fM_putOrder m8).bind fun r9 => if 0 ≤ c then if r9.1 61 0 ≤ c then some (-5, r9) else if ck c 6 = true then some (r9.1 81 c.toNatClampNeg, r9) else none else some (z6, r9)) 1000 r5 1000001 0 else some (-9, m') := fun m' e => by
    unfold fM_best
    rw [M_in1 hc]
    simp only [Option.bind_some, if_neg one, e]
  by_cases n0 : n = 0
  · have : nI n = 0 := by rw [n0]; rfl
    refine ⟨-5, m, m, ?_, ?_, H⟩
    · show fC_best sh R m c = _
      rw [hCb, if_pos this]
    · show fM_best m c = _
      rw [hMb m h0', if_pos this]
  have nz : ¬ nI n = 0 := nI_ne0 (by omega) (by omega)
  by_cases n5 : 5 < n
  · have : ¬ nI n ≤ 5 := not_le_nI (k := 5) n5 (by omega)
    refine ⟨-9, m, m, ?_, ?_, H⟩
    · show fC_best sh R m c = _
      rw [hCb, if_neg nz, if_neg this]
    · show fM_best m c = _
      rw [hMb m h0', if_neg nz, if_neg this]
  have le5 : nI n ≤ 5 := nI_le (b := 5) (by omega) (by omega)
  have hfac := facN_le n (by omega)
  -- the reference goes through all orders from any memory that differs in scratch alone
  have ref : ∀ m1 : MI, pj m1 = pj m → ∃ m3, pj m3 = pj m ∧ ((btF (fun k => evV P (a + (n + z - a) + 0) a n (perm n k)) (facN n) 0 1000001 0).1 = 1000001 ∨ ∀ i, i < n → m3.1 81 i = nI (perm n (btF (fun k => evV P (a + (n + z - a) + 0) a n (perm n k)) (facN n) 0 1000001 0).2 i)) ∧ fM_best m1 c = (if 0 ≤ c then if nI n ≤ c then some (-5, m3) else if ck c 6 = true then some (m3.1 81 c.toNatClampNeg, m3) else none else some (nI (btF (fun k => evV P (a + (n + z - a) + 0) a n (perm n k)) (facN n) 0 1000001 0).1, m3)) := fun m1 e1 => by
    obtain ⟨g, k1, k2⟩ := M_keep m1
    have e2 : pj (mI m1 80 g) = pj (mI m 66 (m.1 66)) := by rw [mI_id]; exact pj_r (fun _ => rfl) e1
    obtain ⟨m2, O, w, q1, q2, q3, q4, q5⟩ := bs_M N0 (by omega) (by omega) c (fun m8 z6 z7 => (fM_putOrder m8).bind fun r9 => if 0 ≤ c then if r9.1 61 0 ≤ c then some (-5, r9) else if ck c 6 = true then some (r9.1 81 c.toNatClampNeg, r9) else none else some (z6, r9)) (facN n) 0 1000001 0 F (mI m1 80 g) (m.1 66) (by omega) (by omega) e2 (fun _ _ => rfl) (by omega) (Or.inl rfl)
    obtain ⟨h, w1, w2, w3⟩ := M_put m2
    have eh : h = m.1 66 := by
      funext i
      by_cases hi : i < 6
      · rw [w1 i hi, q3, mI_s, k1 i hi, pj_rw e1 (scr_r (by decide))]
      · rw [w2 i (by omega), pj_rw q1 (scr_r (by decide)), mI_s, q2 i (by omega)]
    have e3 : pj (mI m2 66 h) = pj m := by rw [pj_put (k := 66) (g := h) q1, mI_mI, eh, mI_id]
    refine ⟨mI m2 66 h, e3, q4.imp id (fun hh i hi => by rw [mI_n (by decide)]; exact hh i hi), ?_⟩
    rw [hMb m1 (by rw [pj_at e1 rfl]; exact h0'), if_neg nz, if_pos le5, k2, ← hF1]
    simp only [Option.bind_some]
    refine Eq.trans q5 ?_
    rw [w3]
    simp only [Option.bind_some, show (mI m2 66 h).1 61 0 = nI n by rw [pj_at e3 rfl]; exact h0']
  by_cases cn : c < nI n
  · obtain ⟨g, g1, -, g3⟩ := C_fst (n := n) hn (fun m2 _ => some m2) n 0 F m (by omega) (by omega)
    have eA : pj (mI m 41 g) = pj m := pj_row (fun _ => rfl)
    obtain ⟨m1, a1, a2, a3, a4⟩ := L_beg (P := P) hF hC hn h0 0 (m' := mI m 41 g) eA
    obtain ⟨-, -, -, -, t0⟩ := tab_perm (show n < 6 by omega) (show 0 < n by omega) hfac.2
    obtain ⟨m2, w1, w2, b1, b2, b3⟩ := bs_C N0 (by omega) (by omega) c (fun m11 z8 z9 z10 => if 0 ≤ c then if ck c 6 = true then some (m11.1 42 c.toNatClampNeg, m11) else none else some (z8, m11)) (facN n) 0 1000001 0 F m1 1 (by omega) (by omega) (fun _ => ⟨rfl, fun i hi => by rw [a3 41 (by decide) (by decide), mI_s, g1 i (by omega) hi, t0 rfl i hi]⟩) (fun h => by omega) a2 (by omega) (Or.inl rfl)
    obtain ⟨m3, c1, c2, c3⟩ := ref m2 b1
    have hCc : fC_best sh R m c = (if 0 ≤ c then if ck c 6 = true then some (m2.1 42 c.toNatClampNeg, m2) else none else some (nI (btF (fun k => evV P (a + (n + z - a) + 0) a n (perm n k)) (facN n) 0 1000001 0).1, m2)) := by
      rw [hCb, if_neg nz, if_pos le5, if_pos cn]
      unfold fC_firstOrder_41
      rw [← hF1, show fC_firstOrder_41_l2 (nI n) (fun m2 _ => some m2) F m 0 = _ from g3]
      simp only [Option.bind_some]
      rw [show fL_begin sh R (mI m 41 g) 0 = some m1 from a1]
      simp only [Option.bind_some]
      exact b3
    by_cases p0 : 0 ≤ c
    · obtain ⟨j, hj, rfl⟩ := nI_of (Int32.not_lt.mpr p0)
      have hjn : j < n := by rw [nI_ltI (by omega) (by omega)] at cn; exact cn
      have ckj : ck (nI j) 6 = true := ck_nI (by omega) (by omega)
      have clj := cl_nI (show j < 100000 by omega)
      -- the least is below the start, so an order was kept
      have hlt : (btF (fun k => evV P (a + (n + z - a) + 0) a n (perm n k)) (facN n) 0 1000001 0).1 ≠ 1000001 := by
        have key : ∀ (q k l b : Nat), l ≤ 1000000 → (btF (fun k => evV P (a + (n + z - a) + 0) a n (perm n k)) q k l b).1 ≤ 1000000 := by
          intro q
          induction q with
          | zero => intro k l b h; exact h
          | succ q ih =>
            intro k l b h
            unfold btF
            split
            · exact ih _ _ _ h
            · exact ih _ _ _ (evV_le (by omega) _)
        obtain ⟨q, hq⟩ : ∃ q, facN n = q + 1 := ⟨facN n - 1, by omega⟩
        rw [hq]
        unfold btF
        have hE := evV_le (P := P) (T := a + (n + z - a) + 0) (S := a) (n := n) (by omega) (perm n 0)
        rw [if_neg (by omega)]
        have := key q 1 (evV P (a + (n + z - a) + 0) a n (perm n 0)) 0 hE
        exact fun e => absurd (Nat.le_trans (Nat.le_of_eq e.symm) this) (by omega)
      refine ⟨m2.1 42 j, m2, m3, ?_, ?_, Rel_pj c1 H⟩
      · show fC_best sh R m (nI j) = _
        rw [hCc, if_pos p0, if_pos ckj, clj]
      · show fM_best m2 (nI j) = _
        rw [c3, if_pos p0, if_neg (not_le_nI hjn (by omega)), if_pos ckj, clj, (c2.resolve_left hlt) j hjn, (b2.resolve_left hlt) j hjn]
    · refine ⟨nI (btF (fun k => evV P (a + (n + z - a) + 0) a n (perm n k)) (facN n) 0 1000001 0).1, m2, m3, ?_, ?_, Rel_pj c1 H⟩
      · show fC_best sh R m c = _
        rw [hCc, if_neg p0]
      · show fM_best m2 c = _
        rw [c3, if_neg p0]
  · obtain ⟨m3, c1, c2, c3⟩ := ref m rfl
    have hle : nI n ≤ c := Int32.not_lt.mp cn
    have p0 : (0 : Int32) ≤ c := Int32.le_trans (nI_pos' (show n < 2 ^ 31 by omega)) hle
    refine ⟨-5, m, m3, ?_, ?_, Rel_pj c1 H⟩
    · show fC_best sh R m c = _
      rw [hCb, if_neg nz, if_pos le5, if_neg cn]
    · show fM_best m c = _
      rw [c3, if_pos p0, if_pos hle]
