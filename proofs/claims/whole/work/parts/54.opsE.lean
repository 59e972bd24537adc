/-! THE SAME ANSWERS: place -/
/-- order o with its place p taken out and a set in at b -/
def ordR (o : Nat → Int32) (p b : Nat) (a : Int32) (i : Nat) : Int32 := if i = b then a else if (if b < i then i - 1 else i) < p then o (if b < i then i - 1 else i) else o ((if b < i then i - 1 else i) + 1)
theorem W_pl {m : MI} {n p : Nat} {a : Int32} (hn : n ≤ 6) (hC : m.1 1 0 = nI n) (hp : p < n) (hpa : m.1 12 p = a) (hq : ∀ k, k < p → m.1 12 k ≠ a) (kc : MI → Int32 → Option (Int32 × MI)) : ∀ (q k f : Nat), k + q = p → q < f → fW_placeOf_l2 a kc f m (nI k) = kc m (nI p) := by
  have e1 : nI n - 1 = nI (n - 1) := by rw [show n = n - 1 + 1 by omega]; exact nI_pred _
  intro q
  induction q with
  | zero =>
    intro k f hk hf
    obtain ⟨f', rfl, -⟩ := fu hf
    have : k = p := by omega
    subst this
    rw [fW_placeOf_l2, hC, e1]
    by_cases h : n - 1 ≤ k
    · rw [if_pos (nI_le h (by omega))]
    · rw [if_neg (not_le_nI (by omega) (by omega)), if_pos (ck_nI (by omega) (by omega)), cl_nI (by omega), if_pos hpa]
  | succ q ih =>
    intro k f hk hf
    obtain ⟨f', rfl, hf'⟩ := fu hf
    rw [fW_placeOf_l2, hC, e1, if_neg (not_le_nI (by omega) (by omega)), if_pos (ck_nI (by omega) (by omega)), cl_nI (by omega), if_neg (hq k (by omega))]
    simp only [lt, nI_1]
    exact ih (k + 1) f' (by omega) (hf' q rfl)
theorem M_pl {m : MI} {n p : Nat} {a : Int32} (hn : n ≤ 6) (hp : p < n) (hpa : m.1 66 p = a) (hq : ∀ k, k < p → m.1 66 k ≠ a) (kc : MI → Int32 → Option (Int32 × MI)) : ∀ (q k f : Nat), k + q = p → q < f → fM_placeOf_l2 a kc f m (nI k) = kc m (nI p) := by
  intro q
  induction q with
  | zero =>
    intro k f hk hf
    obtain ⟨f', rfl, -⟩ := fu hf
    have : k = p := by omega
    subst this
    rw [fM_placeOf_l2, if_pos (ck_nI (by omega) (by omega)), cl_nI (by omega), if_pos hpa]
  | succ q ih =>
    intro k f hk hf
    obtain ⟨f', rfl, hf'⟩ := fu hf
    rw [fM_placeOf_l2, if_pos (ck_nI (by omega) (by omega)), cl_nI (by omega), if_neg (hq k (by omega))]
    simp only [lt, nI_1]
    exact ih (k + 1) f' (by omega) (hf' q rfl)
theorem C_ow {n p b : Nat} {a : Int32} (hn : n ≤ 6) (hp : p < n) (hb : b < n) (kc : MI → Int32 → Int32 → Option MI) : ∀ (q k v f : Nat) (m : MI), m.1 1 0 = nI n → m.1 12 p = a → (∀ k, k < n → m.1 12 k = a → k = p) → k + q = n → q < f → (v = (if (if b < k then k - 1 else k) ≤ p then (if b < k then k - 1 else k) else (if b < k then k - 1 else k) + 1)) →
    ∃ (g : Nat → Int32) (w : Int32), (∀ i, k ≤ i → i < n → g i = ordR (m.1 12) p b a i) ∧ (∀ i, i < k → g i = m.1 41 i) ∧ fW_orderWith_41_l6 a (nI b) kc f m (nI v) (nI k) = kc (mI m 41 g) w (nI n) := by
  intro q
  induction q with
  | zero =>
    intro k v f m hC hpa hq hk hf hv
    obtain ⟨f', rfl, -⟩ := fu hf
    refine ⟨m.1 41, nI v, fun i _ _ => by omega, fun _ _ => rfl, ?_⟩
    rw [fW_orderWith_41_l6, hC, if_pos (nI_le (by omega) (by omega)), show k = n by omega]
    congr 1
    refine Prod.ext (funext fun k' => ?_) rfl
    by_cases e : k' = 41
    · subst e; rw [mI_s]
    · rw [mI_n e]
  | succ q ih =>
    intro k v f m hC hpa hq hk hf hv
    obtain ⟨f', rfl, hf'⟩ := fu hf
    have step : ∀ (x : Int32) (v' : Nat), x = ordR (m.1 12) p b a k → (v' = (if (if b < k + 1 then k + 1 - 1 else k + 1) ≤ p then (if b < k + 1 then k + 1 - 1 else k + 1) else (if b < k + 1 then k + 1 - 1 else k + 1) + 1)) →
        ∃ (g : Nat → Int32) (w : Int32), (∀ i, k ≤ i → i < n → g i = ordR (m.1 12) p b a i) ∧ (∀ i, i < k → g i = m.1 41 i) ∧ fW_orderWith_41_l6 a (nI b) kc f' (mI m 41 (upd (m.1 41) k x)) (nI v') (nI (k + 1)) = kc (mI m 41 g) w (nI n) := by
      intro x v' hx hv'
      obtain ⟨g, w, g1, g2, g3⟩ := ih (k + 1) v' f' (mI m 41 (upd (m.1 41) k x)) (by rw [mI_n (by decide)]; exact hC) (by rw [mI_n (by decide)]; exact hpa) (by rw [mI_n (by decide)]; exact hq) (by omega) (hf' q rfl) hv'
      rw [mI_n (by decide)] at g1
      refine ⟨g, w, fun i h1 h2 => ?_, fun i hi => ?_, ?_⟩
      · by_cases e : i = k
        · subst e; rw [g2 i (by omega), mI_s, upd_s, hx]
        · exact g1 i (by omega) h2
      · rw [g2 i (by omega), mI_s, upd_n (by omega)]
      · rw [g3, mI_mI]
    have ckk : ck (nI k) 6 = true := ck_nI (by omega) (by omega)
    have clk := cl_nI (show k < 100000 by omega)
    rw [fW_orderWith_41_l6, hC, if_neg (not_le_nI (by omega) (by omega))]
    by_cases hkb : k = b
    · subst hkb
      rw [if_pos rfl, if_pos ckk, clk]
      simp only [lm, lt, nI_1]
      refine step a v (by unfold ordR; rw [if_pos rfl]) ?_
      rw [hv]
      simp only [Nat.lt_irrefl, if_false, if_pos (show k < k + 1 by omega), Nat.add_sub_cancel]
    · have hkb' : ¬ nI k = nI b := fun e => hkb ((nI_eq (by omega) (by omega)).mp e)
      obtain ⟨c, hc⟩ : ∃ c, c = if b < k then k - 1 else k := ⟨_, rfl⟩
      have hcn : c < n - 1 := by rw [hc]; split <;> omega
      have hc1 : (if b < k + 1 then k + 1 - 1 else k + 1) = c + 1 := by
        rw [hc]
        by_cases h : b < k
        · rw [if_pos h, if_pos (by omega)]; omega
        · rw [if_neg h, if_neg (by omega)]
      rw [← hc] at hv
      have hord : ordR (m.1 12) p b a k = if c < p then m.1 12 c else m.1 12 (c + 1) := by
        unfold ordR; rw [if_neg hkb, ← hc]
      rw [hc1] at step
      have hvn : v < n := by rw [hv]; split <;> omega
      have nv : ¬ nI n ≤ nI v := not_le_nI hvn (by omega)
      have ckv : ck (nI v) 6 = true := ck_nI (by omega) (by omega)
      have clv := cl_nI (show v < 100000 by omega)
      rw [if_neg hkb', if_neg nv, if_pos ckv, clv]
      by_cases hva : m.1 12 v = a
      · have hvp := hq v hvn hva
        have hcp : c = p := by
          rw [hvp] at hv
          by_cases h : c ≤ p
          · rw [if_pos h] at hv; exact hv.symm
          · rw [if_neg h] at hv; omega
        have nv1 : ¬ nI n ≤ nI (v + 1) := not_le_nI (by omega) (by omega)
        have ckv1 : ck (nI (v + 1)) 6 = true := ck_nI (by omega) (by omega)
        have clv1 := cl_nI (show v + 1 < 100000 by omega)
        rw [if_pos hva]
        simp only [lt, lm, nI_1, if_neg nv1, ckv1, ckk, clv1, clk, if_true]
        refine step (m.1 12 (v + 1)) (v + 1 + 1) ?_ ?_
        · rw [hord, if_neg (by omega), hvp, hcp]
        · rw [if_neg (by omega)]; omega
      · rw [if_neg hva]
        simp only [lt, lm, nI_1, if_neg nv, ckv, ckk, clv, clk, if_true]
        have hcp : c ≠ p := fun e => hva (by rw [hv, if_pos (by omega), e]; exact hpa)
        refine step (m.1 12 v) (v + 1) ?_ ?_
        · rw [hord]
          by_cases h : c < p
          · rw [if_pos h, hv, if_pos (by omega)]
          · rw [if_neg h, hv, if_neg (by omega)]
        · by_cases h : c < p
          · rw [hv, if_pos (show c ≤ p by omega), if_pos (by omega)]
          · rw [hv, if_neg (show ¬ c ≤ p by omega), if_neg (by omega)]
theorem M_p1 {b : Nat} (hb : b < 6) (a u3 : Int32) (kc : MI → Int32 → Option MI) : ∀ (q k f : Nat) (m : MI), k + q = b → q < f → ∃ g : Nat → Int32, (∀ i, k ≤ i → i < b → g i = m.1 66 (i + 1)) ∧ (∀ i, i < k ∨ b ≤ i → g i = m.1 66 i) ∧ fM_puts_l9 a (nI b) u3 kc f m (nI k) = kc (mI m 66 g) (nI b) := by
  intro q
  induction q with
  | zero =>
    intro k f m hk hf
    obtain ⟨f', rfl, -⟩ := fu hf
    refine ⟨m.1 66, fun i _ _ => by omega, fun _ _ => rfl, ?_⟩
    rw [fM_puts_l9, if_pos (nI_le (by omega) (by omega)), show k = b by omega]
    congr 1
    refine Prod.ext (funext fun k' => ?_) rfl
    by_cases e : k' = 66
    · subst e; rw [mI_s]
    · rw [mI_n e]
  | succ q ih =>
    intro k f m hk hf
    obtain ⟨f', rfl, hf'⟩ := fu hf
    obtain ⟨g, g1, g2, g3⟩ := ih (k + 1) f' (mI m 66 (upd (m.1 66) k (m.1 66 (k + 1)))) (by omega) (hf' q rfl)
    rw [mI_s] at g1 g2
    refine ⟨g, fun i h1 h2 => ?_, fun i hi => ?_, ?_⟩
    · by_cases e : i = k
      · subst e; rw [g2 i (by omega), upd_s]
      · rw [g1 i (by omega) h2, upd_n (by omega)]
    · rw [g2 i (by omega), upd_n (by omega)]
    · rw [fM_puts_l9, if_neg (not_le_nI (by omega) (by omega)), nI_1, if_pos (ck_nI (show k + 1 < 6 by omega) (by omega)), if_pos (ck_nI (show k < 6 by omega) (by omega)), cl_nI (show k < 100000 by omega), cl_nI (show k + 1 < 100000 by omega)]
      simp only [lm, lt]
      rw [g3, mI_mI]
theorem M_p1x {b k f : Nat} {m : MI} (hb : b < 6) (a u3 : Int32) (kc : MI → Int32 → Option MI) (h : b ≤ k) (hk : k < 6) : fM_puts_l9 a (nI b) u3 kc (f + 1) m (nI k) = kc m (nI k) := by
  rw [fM_puts_l9, if_pos (nI_le h (by omega))]
theorem M_p2 {b : Nat} (hb : b < 6) (a u3 : Int32) (kc : MI → Int32 → Option MI) : ∀ (q k f : Nat) (m : MI), k = b + q → k < 6 → q < f → ∃ g : Nat → Int32, (∀ i, b < i → i ≤ k → g i = m.1 66 (i - 1)) ∧ (∀ i, i ≤ b ∨ k < i → g i = m.1 66 i) ∧ fM_puts_l40 a (nI b) u3 kc f m (nI k) = kc (mI m 66 g) (nI b) := by
  intro q
  induction q with
  | zero =>
    intro k f m hk h6 hf
    obtain ⟨f', rfl, -⟩ := fu hf
    refine ⟨m.1 66, fun i _ _ => by omega, fun _ _ => rfl, ?_⟩
    rw [fM_puts_l40, if_pos (nI_le (by omega) (by omega)), show k = b by omega]
    congr 1
    refine Prod.ext (funext fun k' => ?_) rfl
    by_cases e : k' = 66
    · subst e; rw [mI_s]
    · rw [mI_n e]
  | succ q ih =>
    intro k f m hk h6 hf
    obtain ⟨f', rfl, hf'⟩ := fu hf
    obtain ⟨j, rfl⟩ : ∃ j, k = j + 1 := ⟨k - 1, by omega⟩
    obtain ⟨g, g1, g2, g3⟩ := ih j f' (mI m 66 (upd (m.1 66) (j + 1) (m.1 66 j))) (by omega) (by omega) (hf' q rfl)
    rw [mI_s] at g1 g2
    refine ⟨g, fun i h1 h2 => ?_, fun i hi => ?_, ?_⟩
    · by_cases e : i = j + 1
      · subst e; rw [g2 _ (by omega), upd_s]; rfl
      · rw [g1 i (by omega) (by omega), upd_n (by omega)]
    · rw [g2 i (by omega), upd_n (by omega)]
    · have e1 : nI (j + 1) + -1 = nI j := by rw [← nI_pred j, Int32.sub_eq_add_neg]
      rw [fM_puts_l40, if_neg (not_le_nI (n := j + 1) (k := b) (by omega) (by omega)), nI_pred, if_pos (ck_nI (show j < 6 by omega) (by omega)), if_pos (ck_nI (show j + 1 < 6 by omega) (by omega)), cl_nI (show j < 100000 by omega), cl_nI (show j + 1 < 100000 by omega)]
      simp only [lm, lt]
      rw [e1, g3, mI_mI]
theorem M_p2x {b k f : Nat} {m : MI} (hb : b < 6) (a u3 : Int32) (kc : MI → Int32 → Option MI) (h : k ≤ b) (hk : k < 6) : fM_puts_l40 a (nI b) u3 kc (f + 1) m (nI k) = kc m (nI k) := by
  rw [fM_puts_l40, if_pos (nI_le h (by omega))]
