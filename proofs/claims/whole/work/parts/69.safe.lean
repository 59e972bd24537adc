/-! THE SAME ANSWERS: safest -/
theorem M_keep (m0 : MI) : ∃ g : Nat → Int32, (∀ i, i < 6 → g i = m0.1 66 i) ∧ fM_keepOrder m0 = some (mI m0 80 g) := by
  obtain ⟨F, hF1⟩ : ∃ F : Nat, F = 1000 := ⟨_, rfl⟩
  have key : ∀ (q k f : Nat) (m : MI), k + q = 6 → q < f → ∃ g : Nat → Int32, (∀ i, k ≤ i → i < 6 → g i = m.1 66 i) ∧ (∀ i, i < k → g i = m.1 80 i) ∧ fM_keepOrder_l2 (fun m2 _ => some m2) f m (nI k) = some (mI m 80 g) := by
    intro q
    induction q with
    | zero =>
      intro k f m hk hf
      obtain ⟨f', rfl, -⟩ := fu hf
      refine ⟨m.1 80, fun i _ _ => by omega, fun _ _ => rfl, ?_⟩
      rw [fM_keepOrder_l2, if_pos (show (6 : Int32) ≤ nI k from nI_le (a := 6) (by omega) (by omega)), mI_id]
    | succ q ih =>
      intro k f m hk hf
      obtain ⟨f', rfl, hf'⟩ := fu hf
      obtain ⟨g, g1, g2, g3⟩ := ih (k + 1) f' (mI m 80 (upd (m.1 80) k (m.1 66 k))) (by omega) (hf' q rfl)
      refine ⟨g, fun i h1 h2 => ?_, fun i hi => ?_, ?_⟩
      · by_cases e : i = k
        · subst e; rw [g2 i (by omega), mI_s, upd_s]
        · rw [g1 i (by omega) h2, mI_n (by decide)]
      · rw [g2 i (by omega), mI_s, upd_n (by omega)]
      · rw [fM_keepOrder_l2, if_neg (show ¬ (6 : Int32) ≤ nI k from not_le_nI (n := 6) (by omega) (by omega))]
        simp only [ck_nI (show k < 6 by omega) (show 6 ≤ 100000 by omega), cl_nI (show k < 100000 by omega), if_true, lm, lt, nI_1]
        rw [g3, mI_mI]
  obtain ⟨g, g1, -, g3⟩ := key 6 0 F m0 (by omega) (by omega)
  refine ⟨g, fun i hi => g1 i (by omega) hi, ?_⟩
  unfold fM_keepOrder
  rw [← hF1]
  exact g3
theorem M_put (m0 : MI) : ∃ g : Nat → Int32, (∀ i, i < 6 → g i = m0.1 80 i) ∧ (∀ i, 6 ≤ i → g i = m0.1 66 i) ∧ fM_putOrder m0 = some (mI m0 66 g) := by
  obtain ⟨F, hF1⟩ : ∃ F : Nat, F = 1000 := ⟨_, rfl⟩
  have key : ∀ (q k f : Nat) (m : MI), k + q = 6 → q < f → ∃ g : Nat → Int32, (∀ i, k ≤ i → i < 6 → g i = m.1 80 i) ∧ (∀ i, i < k ∨ 6 ≤ i → g i = m.1 66 i) ∧ fM_putOrder_l2 (fun m2 _ => some m2) f m (nI k) = some (mI m 66 g) := by
    intro q
    induction q with
    | zero =>
      intro k f m hk hf
      obtain ⟨f', rfl, -⟩ := fu hf
      refine ⟨m.1 66, fun i _ _ => by omega, fun _ _ => rfl, ?_⟩
      rw [fM_putOrder_l2, if_pos (show (6 : Int32) ≤ nI k from nI_le (a := 6) (by omega) (by omega)), mI_id]
    | succ q ih =>
      intro k f m hk hf
      obtain ⟨f', rfl, hf'⟩ := fu hf
      obtain ⟨g, g1, g2, g3⟩ := ih (k + 1) f' (mI m 66 (upd (m.1 66) k (m.1 80 k))) (by omega) (hf' q rfl)
      refine ⟨g, fun i h1 h2 => ?_, fun i hi => ?_, ?_⟩
      · by_cases e : i = k
        · subst e; rw [g2 i (by omega), mI_s, upd_s]
        · rw [g1 i (by omega) h2, mI_n (by decide)]
      · rw [g2 i (by omega), mI_s, upd_n (by omega)]
      · rw [fM_putOrder_l2, if_neg (show ¬ (6 : Int32) ≤ nI k from not_le_nI (n := 6) (by omega) (by omega))]
        simp only [ck_nI (show k < 6 by omega) (show 6 ≤ 100000 by omega), cl_nI (show k < 100000 by omega), if_true, lm, lt, nI_1]
        rw [g3, mI_mI]
  obtain ⟨g, g1, g2, g3⟩ := key 6 0 F m0 (by omega) (by omega)
  refine ⟨g, fun i hi => g1 i (by omega) hi, fun i hi => g2 i (Or.inr hi), ?_⟩
  unfold fM_putOrder
  rw [← hF1]
  exact g3
theorem M_putsE {m : MI} {n p d : Nat} {a : Int32} (hn : n ≤ 6) (hp : p < n) (hd : d < n) (hpa : m.1 66 p = a) (hq' : ∀ k, k < p → m.1 66 k ≠ a) : ∃ o : Nat → Int32, fM_puts m a (nI d) = some (mI m 66 o) ∧ (∀ i, i < n → o i = ordR (m.1 66) p d a i) ∧ ∀ i, n ≤ i → o i = m.1 66 i := by
  obtain ⟨F, hF1⟩ : ∃ F : Nat, F = 1000 := ⟨_, rfl⟩
  obtain ⟨F', hF2, hF3⟩ : ∃ F' : Nat, F = F' + 1 ∧ 10 < F' := ⟨F - 1, by omega, by omega⟩
  refine ⟨fun i => if i < n then ordR (m.1 66) p d a i else m.1 66 i, ?_, fun i hi => if_pos hi, fun i hi => if_neg (by omega)⟩
  have ho1 : ∀ i, i < n → (fun i => if i < n then ordR (m.1 66) p d a i else m.1 66 i) i = m.1 66 (sg p d i) := fun i hi => by
    show (if i < n then ordR (m.1 66) p d a i else m.1 66 i) = _
    rw [if_pos hi, ordR_sg hpa]
  have ho2 : ∀ i, n ≤ i → (fun i => if i < n then ordR (m.1 66) p d a i else m.1 66 i) i = m.1 66 i := fun i hi => if_neg (by omega)
  generalize (fun i => if i < n then ordR (m.1 66) p d a i else m.1 66 i) = o at ho1 ho2
  have hMp : fM_placeOf m a = some (nI p, m) := by
    unfold fM_placeOf
    rw [show (0 : Int32) = nI 0 from rfl, ← hF1, M_pl hn hp hpa hq' _ p 0 F (by omega) (by omega)]
  unfold fM_puts
  rw [hMp, ← hF1]
  simp only [Option.bind_some]
  by_cases c : p < d
  · obtain ⟨g', q1, q2, q3⟩ := M_p1 (b := d) (by omega) a (nI p) (fun m3 _ => fM_puts_l40 a (nI d) (nI p) (fun m5 _ => if ck (nI d) 6 = true then lm (mI m5 66 (upd (m5.1 66) (nI d).toNatClampNeg a)) fun m7 => some m7 else none) F m3 (nI p)) (d - p) p F m (by omega) (by omega)
    rw [q3, hF2, M_p2x (by omega) _ _ _ (by omega) (by omega), if_pos (ck_nI (by omega) (by omega)), cl_nI (by omega)]
    simp only [lm, mI_s, mI_mI]
    congr 2
    funext i
    by_cases ei : i = d
    · subst ei; rw [upd_s, ho1 i hd]; unfold sg; rw [if_pos rfl, hpa]
    · rw [upd_n ei]
      by_cases hi : i < n
      · rw [ho1 i hi]
        by_cases h : p ≤ i ∧ i < d
        · rw [q1 i h.1 h.2]; congr 1; unfold sg; rw [if_neg ei, if_neg (show ¬ d < i by omega), if_neg (by omega)]
        · rw [q2 i (by omega)]; congr 1; unfold sg; rw [if_neg ei]
          by_cases h' : d < i
          · rw [if_pos h', if_neg (by omega), Nat.sub_add_cancel (by omega)]
          · rw [if_neg h', if_pos (by omega)]
      · rw [q2 i (by omega), ho2 i (by omega)]
  · obtain ⟨g', q1, q2, q3⟩ := M_p2 (b := d) (by omega) a (nI p) (fun m5 _ => if ck (nI d) 6 = true then lm (mI m5 66 (upd (m5.1 66) (nI d).toNatClampNeg a)) fun m7 => some m7 else none) (p - d) p F m (by omega) (by omega) (by omega)
    have := M_p1x (f := F') (m := m) (b := d) (k := p) (by omega) a (nI p) (fun m3 _ => fM_puts_l40 a (nI d) (nI p) (fun m5 _ => if ck (nI d) 6 = true then lm (mI m5 66 (upd (m5.1 66) (nI d).toNatClampNeg a)) fun m7 => some m7 else none) F m3 (nI p)) (by omega) (by omega)
    rw [← hF2] at this
    rw [this, q3, if_pos (ck_nI (by omega) (by omega)), cl_nI (by omega)]
    simp only [lm, mI_s, mI_mI]
    congr 2
    funext i
    by_cases ei : i = d
    · subst ei; rw [upd_s, ho1 i hd]; unfold sg; rw [if_pos rfl, hpa]
    · rw [upd_n ei]
      by_cases hi : i < n
      · rw [ho1 i hi]
        by_cases h : d < i ∧ i ≤ p
        · rw [q1 i h.1 h.2]; congr 1; unfold sg; rw [if_neg ei, if_pos h.1, if_pos (by omega)]
        · rw [q2 i (by omega)]; congr 1; unfold sg; rw [if_neg ei]
          by_cases h' : d < i
          · rw [if_pos h', if_neg (by omega), Nat.sub_add_cancel (by omega)]
          · rw [if_neg h', if_pos (by omega)]
      · rw [q2 i (by omega), ho2 i (by omega)]
theorem sg_self {p b : Nat} : sg p b b = p := if_pos rfl
theorem sg_sg {p b d i : Nat} : sg p b (sg b d i) = sg p d i := by
  unfold sg
  by_cases h1 : i = d
  · simp only [if_pos h1, if_true]
  · simp only [if_neg h1]
    obtain ⟨c, hc⟩ : ∃ c, c = if d < i then i - 1 else i := ⟨_, rfl⟩
    simp only [← hc]
    by_cases h2 : c < b
    · simp only [if_pos h2]
      rw [if_neg (show ¬ c = b by omega), if_neg (show ¬ b < c by omega)]
    · simp only [if_neg h2]
      rw [if_neg (show ¬ c + 1 = b by omega), if_pos (show b < c + 1 by omega), Nat.add_sub_cancel]
theorem sg_id {p i : Nat} : sg p p i = i := by
  unfold sg
  by_cases h : i = p
  · rw [if_pos h, h]
  · rw [if_neg h]
    by_cases h2 : p < i
    · rw [if_pos h2, if_neg (by omega)]; omega
    · rw [if_neg h2, if_pos (by omega)]
def sfF (g : Nat → Nat) : Nat → Nat × Nat
  | 0 => (0, 1000001)
  | k + 1 => if (sfF g k).2 ≤ g k then sfF g k else (k, g k)
theorem sfF_le {g : Nat → Nat} (h : ∀ k, g k ≤ 1000000) : ∀ k, (sfF g k).2 ≤ 1000001
  | 0 => Nat.le_refl _
  | k + 1 => by
    have := sfF_le h k
    have := h k
    unfold sfF
    split <;> omega
section SF
variable {sh : Sh} {R : RR} {m : MI} {hw a z n : Nat} {cs : List Cla} {P : Nat → Int32 → Int32 → Int32 → Int32} {o : Nat → Nat}
theorem LC_41 {P : Nat → Int32 → Int32 → Int32 → Int32} {T S n : Nat} {m m' : MI} {g : Nat → Int32} (h : LC P T S m n m') : LC P T S m n (mI m' 41 g) := by
  refine ⟨Eq.trans (pj_row (fun _ => rfl)) h.1, ?_⟩
  rw [mI_n (by decide), mI_n (by decide)]
  exact h.2
theorem sf_C (N : Ngt sh R m hw a z cs P n o) {p : Nat} (hp : p < n) (u2 : Int32) (kc : MI → Int32 → Int32 → Int32 → Option (Int32 × MI)) : ∀ (q k f : Nat) (m' : MI), k + q = n → q < f → LC P (a + (n + z - a) + 0) a m n m' →
    ∃ m'', pj m'' = pj m ∧ fC_safest_l39 sh R (nI (o p)) u2 kc f m' (nI (sfF (fun b => gon P (a + (n + z - a) + 0) a (fun i => o (sg p b i)) b) k).1) (nI (sfF (fun b => gon P (a + (n + z - a) + 0) a (fun i => o (sg p b i)) b) k).2) (nI k) = kc m'' (nI (sfF (fun b => gon P (a + (n + z - a) + 0) a (fun i => o (sg p b i)) b) n).1) (nI (sfF (fun b => gon P (a + (n + z - a) + 0) a (fun i => o (sg p b i)) b) n).2) (nI n) := by
  obtain ⟨hF, hC, hP, hD, ⟨hn, h0, h0'⟩, o1, o2, o3, o4, o5, h34⟩ := N
  have hA := hC.2.2.2.1
  have hZ := hC.2.2.2.2.1
  obtain ⟨F, hF1⟩ : ∃ F : Nat, F = 1000 := ⟨_, rfl⟩
  have bd : ∀ b, gon P (a + (n + z - a) + 0) a (fun i => o (sg p b i)) b ≤ 1000000 := fun b => gon_le (by omega) b
  have cko : ck (nI (o p)) 6 = true := ck_nI (by have := o1 p hp; omega) (by omega)
  have clo := cl_nI (show o p < 100000 by have := o1 p hp; omega)
  intro q
  induction q with
  | zero =>
    intro k f m' hk hf hL
    obtain ⟨f', rfl, -⟩ := fu hf
    have : k = n := by omega
    subst this
    refine ⟨m', hL.1, ?_⟩
    rw [fC_safest_l39, show m'.1 1 0 = nI k by rw [pj_at hL.1 rfl]; exact h0, if_pos (Int32.le_refl _)]
  | succ q ih =>
    intro k f m' hk hf hL
    obtain ⟨f', rfl, hf'⟩ := fu hf
    have e12 : m'.1 12 = m.1 66 := by rw [pj_rw hL.1 (scr_r (by decide)), o5]
    obtain ⟨g, w, g1, -, g3⟩ := C_ow (b := k) (a := nI (o p)) hn hp (by omega) (fun m3 _ _ => some m3) n 0 0 F m' (by rw [pj_at hL.1 rfl]; exact h0) (by rw [e12]; exact o4 p hp) (fun j hj e => o2 j p hj hp (by
      rw [e12, o4 j hj] at e
      have := o1 j hj
      have := o1 p hp
      exact (nI_eq (by omega) (by omega)).mp e)) (by omega) (by omega) (by rw [if_neg (Nat.not_lt_zero _), if_pos (Nat.zero_le _)])
    have hO : fW_orderWith_41 m' (nI (o p)) (nI k) = some (mI m' 41 g) := by
      unfold fW_orderWith_41
      rw [← hF1]
      exact g3
    obtain ⟨m2, b1, b2, b3, b4⟩ := C_go_41 (o := fun i => o (sg p k i)) hF hC.1 hC.2.1 hP hD hn (by omega) (by omega) h0 (fun i hi => o1 _ (sg_lt hp (by omega) hi)) (fun i j hi hj e => sg_inj (o2 _ _ (sg_lt hp (by omega) hi) (sg_lt hp (by omega) hj) e)) (mI m' 41 g) (LC_41 hL) (fun i hi => by
      rw [mI_s, g1 i (by omega) hi, e12, ordR_sg (o4 p hp)]
      exact o4 _ (sg_lt hp (by omega) hi))
    have hv := b4 k (by omega)
    simp only [sg_self] at hv
    have hv' : m2.1 38 (o p) = nI (gon P (a + (n + z - a) + 0) a (fun i => o (sg p k i)) k) := by rw [hv]; unfold gon; simp only [sg_self]
    have bs := sfF_le bd k
    have bk := bd k
    rw [fC_safest_l39, show m'.1 1 0 = nI n by rw [pj_at hL.1 rfl]; exact h0, if_neg (not_le_nI (by omega) (by omega)), hO]
    simp only [Option.bind_some, fL_ofOne_41, b1, cko, clo, if_true, hv', lt, nI_1]
    obtain ⟨m3, k1, k2⟩ := ih (k + 1) f' m2 (by omega) (hf' q rfl) b2
    refine ⟨m3, k1, ?_⟩
    rw [← k2]
    by_cases c : (sfF (fun b => gon P (a + (n + z - a) + 0) a (fun i => o (sg p b i)) b) k).2 ≤ gon P (a + (n + z - a) + 0) a (fun i => o (sg p k i)) k
    · rw [if_pos (nI_le c (by omega))]
      simp only [sfF, if_pos c]
    · rw [if_neg (show ¬ nI (sfF (fun b => gon P (a + (n + z - a) + 0) a (fun i => o (sg p b i)) b) k).2 ≤ nI (gon P (a + (n + z - a) + 0) a (fun i => o (sg p k i)) k) by rw [nI_leI (by omega) (by omega)]; exact c)]
      simp only [sfF, if_neg c]
end SF
