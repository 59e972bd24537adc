/-! READING A HUT: the reference, clauses and the text -/
def NS (m m' : MI) (q : Nat) : Prop := m'.2 = m.2 ∧ (∀ k, k ≠ 61 → m'.1 k = m.1 k) ∧ (∀ i, i ≠ 13 → i ≠ 14 → m'.1 61 i = m.1 61 i) ∧ m'.1 61 13 = nI q
theorem NS_14 {m m' : MI} {q : Nat} (h : NS m m' q) (x : Int32) : NS m (mI m' 61 (upd (m'.1 61) 14 x)) q := ⟨h.1, fun k hk => by rw [mI_n hk]; exact h.2.1 k hk, fun i h1 h2 => by rw [mI_s, upd_n h2]; exact h.2.2.1 i h1 h2, by rw [mI_s, upd_n (by decide)]; exact h.2.2.2⟩
theorem NS_13 {m m' : MI} {q : Nat} (h : NS m m' q) (q' : Nat) : NS m (mI m' 61 (upd (m'.1 61) 13 (nI q'))) q' := ⟨h.1, fun k hk => by rw [mI_n hk]; exact h.2.1 k hk, fun i h1 h2 => by rw [mI_s, upd_n h1]; exact h.2.2.1 i h1 h2, by rw [mI_s, upd_s]⟩
theorem NS_T {m m' : MI} {q : Nat} {T : Nat → Nat} {len : Nat} (hT : RT m T len) (h : NS m m' q) : RT m' T len := ⟨hT.1, fun i hi => by rw [h.2.1 67 (by decide)]; exact hT.2.1 i hi, by rw [h.2.2.1 12 (by decide) (by decide)]; exact hT.2.2⟩
theorem hd_facts {T : Nat → Nat} {len p q w : Nat} (h : hdP T len p = .inr (q, w)) : p + 3 ≤ q ∧ w < 4 := by
  unfold hdP at h
  by_cases c1 : rdB T len p 108 = true
  · rw [if_pos c1] at h
    cases hw : wdP T len [108, 101, 97, 110] p with
    | inl x => rw [hw] at h; cases h
    | inr x =>
      rw [hw] at h; cases h
      have := (wd_inr hw).1
      simp only [List.length_cons, List.length_nil] at this
      omega
  rw [if_neg c1] at h
  by_cases c2 : rdB T len p 109 = true
  · rw [if_pos c2] at h
    cases hw : wdP T len [109, 111, 114, 101] p with
    | inl x => rw [hw] at h; cases h
    | inr x =>
      rw [hw] at h; cases h
      have := (wd_inr hw).1
      simp only [List.length_cons, List.length_nil] at this
      omega
  rw [if_neg c2] at h
  cases hw : wdP T len [115, 104] p with
  | inl x => rw [hw] at h; cases h
  | inr x =>
    rw [hw] at h
    simp only [] at h
    have h1 := (wd_inr hw).1
    simp only [List.length_cons, List.length_nil] at h1
    by_cases c3 : rdB T len x 121 = true
    · rw [if_pos c3] at h; cases h; omega
    · rw [if_neg c3] at h
      cases hw2 : wdP T len [111, 114, 116] x with
      | inl y => rw [hw2] at h; cases h
      | inr y =>
        rw [hw2] at h; cases h
        have h2 := (wd_inr hw2).1
        simp only [List.length_cons, List.length_nil] at h2
        omega
section RX
variable {m0 m : MI} {p : Nat} {T : Nat → Nat} {len : Nat}
theorem R_num (hT : RT m T len) (h : m.1 61 13 = nI p) (hp : p ≤ len) : (nmP T len p = none ∧ fM_takesNumber m = some (0, m)) ∨ ∃ n q m', nmP T len p = some (n, q) ∧ fM_takesNumber m = some (1, m') ∧ NS m m' q ∧ m'.1 61 14 = nI n := by
  obtain ⟨F, hF1⟩ : ∃ F : Nat, F = 1000 := ⟨_, rfl⟩
  obtain ⟨f2, hF2⟩ : ∃ f2, F = f2 + 1 + 1 + 1 := ⟨F - 3, by omega⟩
  have step : ∀ (m' : MI) (p v : Nat) (f : Nat) (a : Nat) (kc : MI → Int32 → Option (Int32 × MI)), NS m m' p → p ≤ len → m'.1 61 14 = nI a → v < 2 → fM_takesNumber_l16 kc (f + 1) m' (nI v) = if dgB T len p = true then fM_takesNumber_l16 kc f (mI (mI m' 61 (upd (m'.1 61) 14 ((10 : Int32) * nI a + nI (T p) - 48))) 61 (upd ((mI m' 61 (upd (m'.1 61) 14 ((10 : Int32) * nI a + nI (T p) - 48))).1 61) 13 (nI (p + 1)))) (nI (v + 1)) else kc m' (nI v) := fun m' p v f a kc h hp ha hv => by
    have T1 := NS_T hT h
    rw [fM_takesNumber_l16, if_neg (show ¬ (2 : Int32) ≤ nI v from not_le_nI (n := 2) hv (by omega)), R_dg T1 h.2.2.2 hp]
    simp only [Option.bind_some]
    by_cases d : dgB T len p = true
    · have d' := d
      unfold dgB at d'
      simp only [Bool.and_eq_true, decide_eq_true_eq] at d'
      rw [if_pos d, if_neg (show ¬ (1 : Int32) = 0 by decide), R_nx T1 h.2.2.2 hp, if_pos d]
      unfold nxB
      rw [if_pos d'.1]
      simp only [Option.bind_some, lm, lt, ha, nI_1, mI_s, upd_n (show (13 : Nat) ≠ 14 by decide), h.2.2.2]
    · rw [if_neg d, if_pos rfl, if_neg d]
  unfold fM_takesNumber nmP
  rw [← hF1, hF2, R_dg hT h hp]
  simp only [Option.bind_some]
  have h0 : NS m m p := ⟨rfl, fun _ _ => rfl, fun _ _ _ => rfl, h⟩
  by_cases d : dgB T len p = true
  · have d' := d
    unfold dgB at d'
    simp only [Bool.and_eq_true, decide_eq_true_eq] at d'
    simp only [if_pos d]
    rw [if_neg (show ¬ (1 : Int32) = 0 by decide)]
    simp only [lm]
    have h1 := NS_14 h0 0
    rw [show (0 : Int32) = nI 0 from rfl] at h1 ⊢
    rw [step _ p 0 _ 0 _ h1 hp (by rw [mI_s, upd_s]) (by omega), if_pos d]
    have e1 : (10 : Int32) * nI 0 + nI (T p) - 48 = nI (T p - 48) := by rw [show (10 : Int32) = nI 10 from rfl, pk_mul, nI_add, show (48 : Int32) = nI 48 from rfl, pk_sub (by omega)]; congr 1; omega
    rw [e1]
    have h2 := NS_13 (NS_14 h1 (nI (T p - 48))) (p + 1)
    have v2 : (mI (mI (mI m 61 (upd (m.1 61) 14 (nI 0))) 61 (upd ((mI m 61 (upd (m.1 61) 14 (nI 0))).1 61) 14 (nI (T p - 48)))) 61 (upd ((mI (mI m 61 (upd (m.1 61) 14 (nI 0))) 61 (upd ((mI m 61 (upd (m.1 61) 14 (nI 0))).1 61) 14 (nI (T p - 48)))).1 61) 13 (nI (p + 1)))).1 61 14 = nI (T p - 48) := by rw [mI_s, upd_n (by decide), mI_s, upd_s]
    rw [step _ (p + 1) 1 _ (T p - 48) _ h2 d'.1 v2 (by omega)]
    by_cases d2 : dgB T len (p + 1) = true
    · have d2' := d2
      unfold dgB at d2'
      simp only [Bool.and_eq_true, decide_eq_true_eq] at d2'
      have e2 : (10 : Int32) * nI (T p - 48) + nI (T (p + 1)) - 48 = nI (10 * (T p - 48) + (T (p + 1) - 48)) := by rw [show (10 : Int32) = nI 10 from rfl, pk_mul, nI_add, show (48 : Int32) = nI 48 from rfl, pk_sub (by omega)]; congr 1; omega
      rw [if_pos d2, if_pos d2, e2]
      have h3 := NS_13 (NS_14 h2 (nI (10 * (T p - 48) + (T (p + 1) - 48)))) (p + 1 + 1)
      rw [fM_takesNumber_l16, if_pos (show (2 : Int32) ≤ nI (1 + 1) by decide)]
      exact Or.inr ⟨_, _, _, rfl, rfl, h3, by rw [mI_s, upd_n (by decide), mI_s, upd_s]⟩
    · rw [if_neg d2, if_neg d2]
      exact Or.inr ⟨_, _, _, rfl, rfl, h2, v2⟩
  · simp only [if_neg d]
    rw [if_pos trivial]
    exact Or.inl ⟨trivial, rfl⟩
def tl (c : Cla) : Nat := if c.1 < 2 then c.2.2.length else 0
def cnt (cs : List Cla) : Nat := (cs.map tl).sum
theorem cnt_app (cs : List Cla) (c : Cla) : cnt (cs ++ [c]) = cnt cs + tl c := by unfold cnt; rw [List.map_append, List.sum_append]; simp
def XF (m0 m : MI) (f q : Nat) : Prop := m.2 = m0.2 ∧ (∀ k, k ∉ [61, 68, 69, 70, 71, 72, 73, 74] → m.1 k = m0.1 k) ∧ (∀ i, i ∉ [13, 14, 23, 24, 25] → m.1 61 i = m0.1 61 i) ∧ (∀ i, i ≠ f → m.1 68 i = m0.1 68 i) ∧ (∀ k i, 69 ≤ k → k ≤ 72 → i < 10 * f → m.1 k i = m0.1 k i) ∧ (∀ i, i < 100 * f → m.1 73 i = m0.1 73 i) ∧ m.1 61 13 = nI q
def RC (m : MI) (f : Nat) (cs : List Cla) : Prop := ∀ c cl, cs[c]? = some cl → m.1 69 (10 * f + c) = nI cl.1 ∧ m.1 70 (10 * f + c) = nI cl.2.1 ∧ (cl.1 < 2 → ∃ fr, 100 * f ≤ fr ∧ fr + cl.2.2.length ≤ 100 * f + cnt cs ∧ m.1 71 (10 * f + c) = nI fr ∧ m.1 72 (10 * f + c) = nI (fr + cl.2.2.length) ∧ ∀ i, i < cl.2.2.length → m.1 73 (fr + i) = mT (cl.2.2.getD i t0))
def XR (m0 m : MI) (f p : Nat) (cs : List Cla) : Prop := XF m0 m f p ∧ m.1 61 23 = nI (100 * f + cnt cs) ∧ RC m f cs
theorem XF_T {f q : Nat} (hT : RT m0 T len) (h : XF m0 m f q) : RT m T len := ⟨hT.1, fun i hi => by rw [h.2.1 67 (by decide)]; exact hT.2.1 i hi, by rw [h.2.2.1 12 (by decide)]; exact hT.2.2⟩
/-- the clauses that are kept, when only the next one's places change -/
theorem RC_add {m' : MI} {f : Nat} {cs : List Cla} {c : Cla} (h : RC m f cs) (h1 : ∀ k i, 69 ≤ k → k ≤ 72 → i < 10 * f + cs.length → m'.1 k i = m.1 k i) (h2 : ∀ i, i < 100 * f + cnt cs → m'.1 73 i = m.1 73 i)
    (hc : m'.1 69 (10 * f + cs.length) = nI c.1 ∧ m'.1 70 (10 * f + cs.length) = nI c.2.1 ∧ (c.1 < 2 → m'.1 71 (10 * f + cs.length) = nI (100 * f + cnt cs) ∧ m'.1 72 (10 * f + cs.length) = nI (100 * f + cnt cs + c.2.2.length) ∧ ∀ i, i < c.2.2.length → m'.1 73 (100 * f + cnt cs + i) = mT (c.2.2.getD i t0))) : RC m' f (cs ++ [c]) := by
  intro j cl hj
  have hjl := (List.getElem?_eq_some_iff.mp hj).1
  rw [List.length_append, List.length_singleton] at hjl
  by_cases e : j < cs.length
  · rw [List.getElem?_append_left e] at hj
    obtain ⟨a1, a2, a3⟩ := h j cl hj
    refine ⟨by rw [h1 69 _ (by omega) (by omega) (by omega)]; exact a1, by rw [h1 70 _ (by omega) (by omega) (by omega)]; exact a2, fun hw => ?_⟩
    obtain ⟨fr, b1, b2, b3, b4, b5⟩ := a3 hw
    exact ⟨fr, b1, by rw [cnt_app]; omega, by rw [h1 71 _ (by omega) (by omega) (by omega)]; exact b3, by rw [h1 72 _ (by omega) (by omega) (by omega)]; exact b4, fun i hi => by rw [h2 _ (by omega)]; exact b5 i hi⟩
  · have ej : j = cs.length := by omega
    subst ej
    rw [List.getElem?_append_right (Nat.le_refl _), Nat.sub_self] at hj
    cases hj
    refine ⟨hc.1, hc.2.1, fun hw => ⟨100 * f + cnt cs, by omega, ?_, (hc.2.2 hw).1, (hc.2.2 hw).2.1, (hc.2.2 hw).2.2⟩⟩
    rw [cnt_app]
    unfold tl
    rw [if_pos hw]
    omega
theorem R_cla {f : Nat} {cs : List Cla} (hT : RT m0 T len) (h75 : ∀ i, i < 16 → m0.1 75 i = letT.getD i 0) (hf5 : f ≤ 5) (hcs : cs.length < 10) (hcnt : cnt cs ≤ p) (hp : p ≤ len) (h : XR m0 m f p cs) : match claP T len p with
    | .inl q => ∃ m', fM_takesClause m (nI (10 * f + cs.length)) = some (0, m') ∧ XF m0 m' f q
    | .inr (q, c) => ∃ m', fM_takesClause m (nI (10 * f + cs.length)) = some (1, m') ∧ XR m0 m' f q (cs ++ [c]) ∧ cnt (cs ++ [c]) ≤ q ∧ p < q ∧ q ≤ len := by
  have hlen := hT.1
  obtain ⟨hX, h23, hRC⟩ := h
  have T1 := XF_T hT hX
  have a60 : 10 * f + cs.length < 60 := by omega
  generalize ha : 10 * f + cs.length = a at a60
  have cka : ck (nI a) 60 = true := ck_nI a60 (by omega)
  have cla := cl_nI (show a < 100000 by omega)
  have hh := R_hd a60 T1 hX.2.2.2.2.2.2 hp (fun i hi => by rw [hX.2.1 75 (by decide)]; exact h75 i hi)
  -- frames
  have XF_hd : ∀ w q, XF m0 (at13 (put69 m a w) q) f q := fun w q => by
    obtain ⟨x1, x2, x3, x4, x5, x6, x7⟩ := hX
    unfold at13 put69
    refine ⟨x1, fun k hk => ?_, fun i hi => ?_, fun i hi => ?_, fun k i h1 h2 hi => ?_, fun i hi => ?_, ?_⟩
    · simp only [List.mem_cons, List.not_mem_nil, or_false, not_or] at hk
      rw [mI_n (by omega), mI_n (by omega)]; exact x2 k (by simp only [List.mem_cons, List.not_mem_nil, or_false, not_or]; omega)
    · rw [mI_s, upd_n (fun e => hi (by subst e; decide)), mI_n (by decide)]; exact x3 i hi
    · rw [mI_n (by decide), mI_n (by decide)]; exact x4 i hi
    · rw [mI_n (by omega)]
      by_cases e : k = 69
      · subst e; rw [mI_s, upd_n (by omega)]; exact x5 _ i h1 h2 hi
      · rw [mI_n e]; exact x5 k i h1 h2 hi
    · rw [mI_n (by decide), mI_n (by decide)]; exact x6 i hi
    · rw [mI_s, upd_s]
  have XF_NS : ∀ (mA mB : MI) (q q' : Nat), XF m0 mA f q → NS mA mB q' → XF m0 mB f q' := fun mA mB q q' hA hN => by
    obtain ⟨x1, x2, x3, x4, x5, x6, x7⟩ := hA
    obtain ⟨n1, n2, n3, n4⟩ := hN
    refine ⟨n1.trans x1, fun k hk => ?_, fun i hi => ?_, fun i hi => ?_, fun k i h1 h2 hi => ?_, fun i hi => ?_, n4⟩
    · simp only [List.mem_cons, List.not_mem_nil, or_false, not_or] at hk
      rw [n2 k (by omega)]; exact x2 k (by simp only [List.mem_cons, List.not_mem_nil, or_false, not_or]; omega)
    · simp only [List.mem_cons, List.not_mem_nil, or_false, not_or] at hi
      rw [n3 i (by omega) (by omega)]; exact x3 i (by simp only [List.mem_cons, List.not_mem_nil, or_false, not_or]; omega)
    · rw [n2 68 (by decide)]; exact x4 i hi
    · rw [n2 k (by omega)]; exact x5 k i h1 h2 hi
    · rw [n2 73 (by decide)]; exact x6 i hi
  have e1 := hdQ_eq (T := T) (len := len) p
  unfold claP fM_takesClause
  cases hd : hdP T len p with
  | inl q =>
    rw [hd] at e1
    rw [e1] at hh
    obtain ⟨w, hh⟩ := hh
    rw [hh]
    exact ⟨_, rfl, XF_hd w q⟩
  | inr r =>
    obtain ⟨q, w⟩ := r
    rw [hd] at e1
    simp only [] at e1 ⊢
    by_cases r32 : rdB T len q 32 = true
    case neg =>
      rw [if_neg r32] at e1 ⊢
      rw [e1] at hh
      obtain ⟨w, hh⟩ := hh
      rw [hh]
      exact ⟨_, rfl, XF_hd w q⟩
    have hr := rdB_t r32
    rw [if_pos r32] at e1 ⊢
    rw [e1] at hh
    simp only [] at hh
    rw [hh]
    simp only [Option.bind_some, if_neg (show ¬ (1 : Int32) = 0 by decide)]
    obtain ⟨m1, hm1⟩ : ∃ m1, m1 = at13 (put69 m a w) (q + 1) := ⟨_, rfl⟩
    have X1 := XF_hd w (q + 1)
    rw [← hm1] at X1 ⊢
    have m69 : m1.1 69 a = nI w := by rw [hm1]; unfold at13 put69; rw [mI_n (by decide), mI_s, upd_s]
    have m69o : ∀ i, i ≠ a → m1.1 69 i = m.1 69 i := fun i hi => by rw [hm1]; unfold at13 put69; rw [mI_n (by decide), mI_s, upd_n hi]
    have m1o : ∀ k, k ≠ 61 → k ≠ 69 → m1.1 k = m.1 k := fun k h1 h2 => by rw [hm1]; unfold at13 put69; rw [mI_n h1, mI_n h2]
    have m23 : m1.1 61 23 = nI (100 * f + cnt cs) := by rw [hm1]; unfold at13 put69; rw [mI_s, upd_n (by decide), mI_n (by decide)]; exact h23
    rcases R_num (XF_T hT X1) X1.2.2.2.2.2.2 hr.1 with ⟨n1, n2⟩ | ⟨n, q2, m2, n1, n2, N2, v14⟩
    · rw [n1, n2]
      simp only [Option.bind_some, if_true]
      exact ⟨m1, rfl, X1⟩
    have nb := nm_ok n1
    rw [n1, n2]
    simp only [Option.bind_some, if_neg (show ¬ (1 : Int32) = 0 by decide)]
    rw [if_pos cka, cla, v14]
    simp only [lm]
    have X2 := XF_NS m1 m2 _ _ X1 N2
    obtain ⟨m3, hm3⟩ : ∃ m3, m3 = mI m2 70 (upd (m2.1 70) a (nI n)) := ⟨_, rfl⟩
    rw [← hm3, if_pos cka]
    have X3 : XF m0 m3 f q2 := by
      obtain ⟨x1, x2, x3, x4, x5, x6, x7⟩ := X2
      rw [hm3]
      refine ⟨x1, fun k hk => ?_, fun i hi => ?_, fun i hi => ?_, fun k i h1 h2 hi => ?_, fun i hi => ?_, ?_⟩
      · simp only [List.mem_cons, List.not_mem_nil, or_false, not_or] at hk
        rw [mI_n (by omega)]; exact x2 k (by simp only [List.mem_cons, List.not_mem_nil, or_false, not_or]; omega)
      · rw [mI_n (by decide)]; exact x3 i hi
      · rw [mI_n (by decide)]; exact x4 i hi
      · by_cases e : k = 70
        · subst e; rw [mI_s, upd_n (by omega)]; exact x5 _ i h1 h2 hi
        · rw [mI_n e]; exact x5 k i h1 h2 hi
      · rw [mI_n (by decide)]; exact x6 i hi
      · rw [mI_n (by decide)]; exact x7
    have k69 : m3.1 69 a = nI w := by rw [hm3, mI_n (by decide), N2.2.1 69 (by decide)]; exact m69
    have k70 : m3.1 70 a = nI n := by rw [hm3, mI_s, upd_s]
    have kold : ∀ k i, 69 ≤ k → k ≤ 72 → i < a → m3.1 k i = m.1 k i := fun k i h1 h2 hi => by
      rw [hm3]
      have hA : m2.1 k i = m.1 k i := by
        rw [N2.2.1 k (by omega)]
        by_cases e : k = 69
        · subst e; exact m69o i (by omega)
        · rw [m1o k (by omega) e]
      by_cases e : k = 70
      · subst e; rw [mI_s, upd_n (by omega)]; exact hA
      · rw [mI_n e]; exact hA
    have k73 : ∀ i, m3.1 73 i = m.1 73 i := fun i => by rw [hm3, mI_n (by decide), N2.2.1 73 (by decide), m1o 73 (by decide) (by decide)]
    have k23 : m3.1 61 23 = nI (100 * f + cnt cs) := by rw [hm3, mI_n (by decide), N2.2.2.1 23 (by decide) (by decide)]; exact m23
    obtain ⟨hpq, w4⟩ := hd_facts hd
    by_cases w2 : 2 ≤ w
    · rw [if_pos w2, k69, if_pos (show (2 : Int32) ≤ nI w from nI_le (a := 2) w2 (by omega))]
      refine ⟨m3, rfl, ⟨X3, ?_, RC_add hRC (fun k i h1 h2 hi => kold k i h1 h2 (by omega)) (fun i _ => k73 i) ⟨by rw [ha]; exact k69, by rw [ha]; exact k70, fun h => absurd h (by show ¬ w < 2; omega)⟩⟩, ?_, by omega, nb.2.2⟩
      · rw [k23, cnt_app]
        unfold tl
        rw [if_neg (show ¬ w < 2 by omega), Nat.add_zero]
      · rw [cnt_app]
        unfold tl
        rw [if_neg (show ¬ w < 2 by omega)]
        omega
    rw [if_neg w2, k69, if_neg (show ¬ (2 : Int32) ≤ nI w from not_le_nI (n := 2) (by omega) (by omega)), show (32 : Int32) = nI 32 from rfl, R_tk (XF_T hT X3) X3.2.2.2.2.2.2 nb.2.2 (by omega)]
    by_cases s32 : rdB T len q2 32 = true
    case neg =>
      rw [if_neg s32, if_neg s32]
      simp only [Option.bind_some, if_true]
      exact ⟨m3, rfl, X3⟩
    have hs := rdB_t s32
    rw [if_pos s32, if_pos s32]
    simp only [Option.bind_some, if_neg (show ¬ (1 : Int32) = 0 by decide)]
    obtain ⟨m4, hm4⟩ : ∃ m4, m4 = mI m3 61 (upd (m3.1 61) 13 (nI (q2 + 1))) := ⟨_, rfl⟩
    have N4 : NS m3 m4 (q2 + 1) := by
      rw [hm4]
      exact NS_13 (q := q2) ⟨rfl, fun _ _ => rfl, fun _ _ _ => rfl, X3.2.2.2.2.2.2⟩ (q2 + 1)
    have X4 := XF_NS m3 m4 _ _ X3 N4
    rw [← hm4]
    obtain ⟨F, hF1⟩ : ∃ F : Nat, F = 1000 := ⟨_, rfl⟩
    have k23' : m4.1 61 23 = nI (100 * f + cnt cs) := by rw [N4.2.2.1 23 (by decide) (by decide)]; exact k23
    obtain ⟨mE, hmE⟩ : ∃ mE, mE = mI (mI m4 61 (upd (upd (m4.1 61) 24 0) 25 0)) 71 (upd (m4.1 71) a (nI (100 * f + cnt cs))) := ⟨_, rfl⟩
    have eE : fM_takesE m4 (nI a) = fM_takesE_l22 (nI a) F mE 1 := by
      unfold fM_takesE
      rw [← hF1]
      simp only [lm, mI_s, mI_mI, if_pos cka, cla, mI_n (show (71 : Nat) ≠ 61 by decide), upd_n (show (23 : Nat) ≠ 25 by decide), upd_n (show (23 : Nat) ≠ 24 by decide), k23']
      rw [← hmE]
    have E61 : ∀ i, i ≠ 24 → i ≠ 25 → mE.1 61 i = m4.1 61 i := fun i h1 h2 => by rw [hmE, mI_n (by decide), mI_s, upd_n h2, upd_n h1]
    have Eo : ∀ k, k ≠ 61 → k ≠ 71 → mE.1 k = m4.1 k := fun k h1 h2 => by rw [hmE, mI_n h2, mI_n h1]
    have E71 : mE.1 71 a = nI (100 * f + cnt cs) := by rw [hmE, mI_s, upd_s]
    have E71o : ∀ i, i ≠ a → mE.1 71 i = m4.1 71 i := fun i hi => by rw [hmE, mI_s, upd_n hi]
    have TE : RT mE T len := by
      have T4 := XF_T hT X4
      exact ⟨T4.1, fun i hi => by rw [Eo 67 (by decide) (by decide)]; exact T4.2.1 i hi, by rw [E61 12 (by decide) (by decide)]; exact T4.2.2⟩
    have RSE : RS mE mE a (100 * f + cnt cs) (q2 + 1) [] [] 0 := ⟨RF_rfl, by rw [E61 13 (by decide) (by decide)]; exact X4.2.2.2.2.2.2, by rw [E61 23 (by decide) (by decide), k23']; rfl, by rw [hmE, mI_n (by decide), mI_s]; rfl, by rw [hmE, mI_n (by decide), mI_s]; rfl, fun i hi => absurd hi (Nat.not_lt_zero _), fun i hi => absurd hi (Nat.not_lt_zero _)⟩
    have hE := P_e (b := 100 * f + cnt cs) TE a60 hf5 8 0 (q2 + 1) F mE [] [] (by omega) (by omega) hs.1 (by omega) (by omega) (Or.inl rfl) (by show 100 * f + cnt cs + 0 ≤ _; omega) (by show 0 ≤ _; omega) RSE
    have hO := e_ok (T := T) (len := len) 8 0 (q2 + 1) hs.1
    -- frames of the sum
    have XF_E : ∀ (mZ : MI) (q' : Nat), RF mE mZ a (100 * f + cnt cs) → mZ.1 61 13 = nI q' → XF m0 mZ f q' := fun mZ q' hR h13 => by
      obtain ⟨x1, x2, x3, x4, x5, x6, x7⟩ := X4
      obtain ⟨r1, r2, r3, r4, r5⟩ := hR
      refine ⟨r1.trans ((show mE.2 = m4.2 by rw [hmE]; rfl).trans x1), fun k hk => ?_, fun i hi => ?_, fun i hi => ?_, fun k i h1 h2 hi => ?_, fun i hi => ?_, h13⟩
      · simp only [List.mem_cons, List.not_mem_nil, or_false, not_or] at hk
        rw [r2 k (by simp only [List.mem_cons, List.not_mem_nil, or_false, not_or]; omega), Eo k (by omega) (by omega)]
        exact x2 k (by simp only [List.mem_cons, List.not_mem_nil, or_false, not_or]; omega)
      · have hi' := hi
        simp only [List.mem_cons, List.not_mem_nil, or_false, not_or] at hi'
        rw [r3 i hi, E61 i (by omega) (by omega)]; exact x3 i hi
      · rw [r2 68 (by decide), Eo 68 (by decide) (by decide)]; exact x4 i hi
      · by_cases e : k = 72
        · subst e; rw [r4 i (by omega), Eo 72 (by decide) (by decide)]; exact x5 _ i h1 h2 hi
        · rw [r2 k (by simp only [List.mem_cons, List.not_mem_nil, or_false, not_or]; omega)]
          by_cases e1 : k = 71
          · subst e1; rw [E71o i (by omega)]; exact x5 _ i h1 h2 hi
          · rw [Eo k (by omega) e1]; exact x5 k i h1 h2 hi
      · rw [r5 i (by omega), Eo 73 (by decide) (by decide)]; exact x6 i hi
    rw [eE]
    cases he : eP T len 8 0 (q2 + 1) with
    | inl q3 =>
      rw [he] at hE
      obtain ⟨m5, t1, t2, t3⟩ := hE
      rw [t1]
      exact ⟨m5, rfl, XF_E m5 q3 t2 t3⟩
    | inr r =>
      obtain ⟨q3, ts⟩ := r
      rw [he] at hE hO
      obtain ⟨m5, f5, t1, t2, t3⟩ := hE
      unfold okR at hO
      simp only [List.nil_append] at hO t1 ⊢
      have h6 := RS_72 t1 (nI (100 * f + cnt cs + ts.length))
      have eA : AFT (nI a) f5 m5 (nxB T len q3) = some (1, mI m5 72 (upd (m5.1 72) a (nI (100 * f + cnt cs + ts.length)))) := by
        unfold AFT
        rw [if_pos cka, cla, t1.2.2.1]
        simp only [lm]
        rw [h6.2.2.2.1, if_pos (show nI ([] : List Nat).length = 0 from rfl)]
      rw [t3, eA]
      simp only [Option.bind_some, if_neg (show ¬ (1 : Int32) = 0 by decide)]
      obtain ⟨m6, hm6⟩ : ∃ m6, m6 = mI m5 72 (upd (m5.1 72) a (nI (100 * f + cnt cs + ts.length))) := ⟨_, rfl⟩
      rw [← hm6] at h6 ⊢
      have ta : tl ((w, n, ts) : Cla) = ts.length := by unfold tl; rw [if_pos (show w < 2 by omega)]
      have f6 : ∀ k, k ∉ [61, 72, 73, 74] → m6.1 k = mE.1 k := h6.1.2.1
      refine ⟨m6, rfl, ⟨XF_E m6 q3 h6.1 h6.2.1, by rw [h6.2.2.1, cnt_app, ta, ← Nat.add_assoc], RC_add hRC (fun k i h1 h2 hi => ?_) (fun i hi => ?_) ⟨?_, ?_, fun _ => ⟨?_, ?_, fun i hi => ?_⟩⟩⟩, ?_, by omega, hO.2.1⟩
      · rw [← kold k i h1 h2 (by omega)]
        by_cases e : k = 72
        · subst e; rw [h6.1.2.2.2.1 i (by omega), Eo 72 (by decide) (by decide), N4.2.1 72 (by decide)]
        · rw [f6 k (by simp only [List.mem_cons, List.not_mem_nil, or_false, not_or]; omega)]
          by_cases e1 : k = 71
          · subst e1; rw [E71o i (by omega), N4.2.1 71 (by decide)]
          · rw [Eo k (by omega) e1, N4.2.1 k (by omega)]
      · rw [h6.1.2.2.2.2 i hi, Eo 73 (by decide) (by decide), N4.2.1 73 (by decide)]; exact k73 i
      · rw [ha, f6 69 (by decide), Eo 69 (by decide) (by decide), N4.2.1 69 (by decide)]; exact k69
      · rw [ha, f6 70 (by decide), Eo 70 (by decide) (by decide), N4.2.1 70 (by decide)]; exact k70
      · rw [ha, f6 71 (by decide)]; exact E71
      · rw [ha, hm6, mI_s, upd_s]
      · exact h6.2.2.2.2.2.1 i hi
      · rw [cnt_app, ta]; omega
end RX
