/-! READING A HUT: the reference, its marks and stacks -/
def RT (m : MI) (T : Nat → Nat) (len : Nat) : Prop := len ≤ 100 ∧ (∀ i, i < len → T i ≤ 127 ∧ m.1 67 i = nI (T i)) ∧ m.1 61 12 = nI len
def t0 : Tok := (0, 0, 0, 0)
/-- what a sum's reading leaves alone -/
def RF (m0 m : MI) (c b : Nat) : Prop := m.2 = m0.2 ∧ (∀ k, k ∉ [61, 72, 73, 74] → m.1 k = m0.1 k) ∧ (∀ i, i ∉ [13, 14, 23, 24, 25] → m.1 61 i = m0.1 61 i) ∧ (∀ i, i ≠ c → m.1 72 i = m0.1 72 i) ∧ ∀ i, i < b → m.1 73 i = m0.1 73 i
def RS (m0 m : MI) (c b p : Nat) (S : List Tok) (W : List Nat) (o : Nat) : Prop := RF m0 m c b ∧ m.1 61 13 = nI p ∧ m.1 61 23 = nI (b + S.length) ∧ m.1 61 24 = nI W.length ∧ m.1 61 25 = nI o ∧ (∀ i, i < S.length → m.1 73 (b + i) = mT (S.getD i t0)) ∧ ∀ i, i < W.length → m.1 74 i = nI (W.getD i 0)
theorem RF_rfl {m0 : MI} {c b : Nat} : RF m0 m0 c b := ⟨rfl, fun _ _ => rfl, fun _ _ => rfl, fun _ _ => rfl, fun _ _ => rfl⟩
theorem RF_61 {m0 m : MI} {c b i : Nat} {x : Int32} (h : RF m0 m c b) (hi : i ∈ [13, 14, 23, 24, 25]) : RF m0 (mI m 61 (upd (m.1 61) i x)) c b := by
  obtain ⟨a1, a2, a3, a4, a5⟩ := h
  refine ⟨a1, fun k hk => ?_, fun j hj => ?_, fun j hj => ?_, fun j hj => ?_⟩
  · rw [mI_n (fun e => hk (by subst e; simp))]; exact a2 k hk
  · rw [mI_s, upd_n (fun e => hj (by subst e; exact hi))]; exact a3 j hj
  · rw [mI_n (by decide)]; exact a4 j hj
  · rw [mI_n (by decide)]; exact a5 j hj
theorem RF_74 {m0 m : MI} {c b : Nat} {g : Nat → Int32} (h : RF m0 m c b) : RF m0 (mI m 74 g) c b := by
  obtain ⟨a1, a2, a3, a4, a5⟩ := h
  refine ⟨a1, fun k hk => ?_, fun j hj => ?_, fun j hj => ?_, fun j hj => ?_⟩
  · rw [mI_n (fun e => hk (by subst e; simp))]; exact a2 k hk
  · rw [mI_n (by decide)]; exact a3 j hj
  · rw [mI_n (by decide)]; exact a4 j hj
  · rw [mI_n (by decide)]; exact a5 j hj
theorem RF_73 {m0 m : MI} {c b i : Nat} {x : Int32} (h : RF m0 m c b) (hi : b ≤ i) : RF m0 (mI m 73 (upd (m.1 73) i x)) c b := by
  obtain ⟨a1, a2, a3, a4, a5⟩ := h
  refine ⟨a1, fun k hk => ?_, fun j hj => ?_, fun j hj => ?_, fun j hj => ?_⟩
  · rw [mI_n (fun e => hk (by subst e; simp))]; exact a2 k hk
  · rw [mI_n (by decide)]; exact a3 j hj
  · rw [mI_n (by decide)]; exact a4 j hj
  · rw [mI_s, upd_n (by omega)]; exact a5 j hj
theorem RF_72 {m0 m : MI} {c b : Nat} {x : Int32} (h : RF m0 m c b) : RF m0 (mI m 72 (upd (m.1 72) c x)) c b := by
  obtain ⟨a1, a2, a3, a4, a5⟩ := h
  refine ⟨a1, fun k hk => ?_, fun j hj => ?_, fun j hj => ?_, fun j hj => ?_⟩
  · rw [mI_n (fun e => hk (by subst e; simp))]; exact a2 k hk
  · rw [mI_n (by decide)]; exact a3 j hj
  · rw [mI_s, upd_n hj]; exact a4 j hj
  · rw [mI_n (by decide)]; exact a5 j hj
section RR
variable {m0 m : MI} {c b p o : Nat} {S : List Tok} {W : List Nat} {T : Nat → Nat} {len : Nat}
theorem RS_13 (h : RS m0 m c b p S W o) (q : Nat) : RS m0 (mI m 61 (upd (m.1 61) 13 (nI q))) c b q S W o := by
  obtain ⟨a1, a2, a3, a4, a5, a6, a7⟩ := h
  exact ⟨RF_61 a1 (by decide), by rw [mI_s, upd_s], by rw [mI_s, upd_n (by decide)]; exact a3, by rw [mI_s, upd_n (by decide)]; exact a4, by rw [mI_s, upd_n (by decide)]; exact a5, fun i hi => by rw [mI_n (by decide)]; exact a6 i hi, fun i hi => by rw [mI_n (by decide)]; exact a7 i hi⟩
theorem RS_14 (h : RS m0 m c b p S W o) (x : Int32) : RS m0 (mI m 61 (upd (m.1 61) 14 x)) c b p S W o := by
  obtain ⟨a1, a2, a3, a4, a5, a6, a7⟩ := h
  exact ⟨RF_61 a1 (by decide), by rw [mI_s, upd_n (by decide)]; exact a2, by rw [mI_s, upd_n (by decide)]; exact a3, by rw [mI_s, upd_n (by decide)]; exact a4, by rw [mI_s, upd_n (by decide)]; exact a5, fun i hi => by rw [mI_n (by decide)]; exact a6 i hi, fun i hi => by rw [mI_n (by decide)]; exact a7 i hi⟩
theorem RS_25 (h : RS m0 m c b p S W o) (o' : Nat) : RS m0 (mI m 61 (upd (m.1 61) 25 (nI o'))) c b p S W o' := by
  obtain ⟨a1, a2, a3, a4, a5, a6, a7⟩ := h
  exact ⟨RF_61 a1 (by decide), by rw [mI_s, upd_n (by decide)]; exact a2, by rw [mI_s, upd_n (by decide)]; exact a3, by rw [mI_s, upd_n (by decide)]; exact a4, by rw [mI_s, upd_s], fun i hi => by rw [mI_n (by decide)]; exact a6 i hi, fun i hi => by rw [mI_n (by decide)]; exact a7 i hi⟩
theorem RS_pop {x : Nat} (h : RS m0 m c b p S (W ++ [x]) o) : RS m0 (mI m 61 (upd (m.1 61) 24 (nI W.length))) c b p S W o := by
  obtain ⟨a1, a2, a3, a4, a5, a6, a7⟩ := h
  exact ⟨RF_61 a1 (by decide), by rw [mI_s, upd_n (by decide)]; exact a2, by rw [mI_s, upd_n (by decide)]; exact a3, by rw [mI_s, upd_s], by rw [mI_s, upd_n (by decide)]; exact a5, fun i hi => by rw [mI_n (by decide)]; exact a6 i hi, fun i hi => by rw [mI_n (by decide), a7 i (by rw [List.length_append]; omega), getD_l hi]⟩
theorem RS_psh (h : RS m0 m c b p S W o) (x : Nat) : RS m0 (mI (mI m 74 (upd (m.1 74) W.length (nI x))) 61 (upd (m.1 61) 24 (nI (W.length + 1)))) c b p S (W ++ [x]) o := by
  obtain ⟨a1, a2, a3, a4, a5, a6, a7⟩ := h
  refine ⟨RF_61 (m := mI m 74 (upd (m.1 74) W.length (nI x))) (RF_74 a1) (by decide), by rw [mI_s, upd_n (by decide)]; exact a2, by rw [mI_s, upd_n (by decide)]; exact a3, by rw [mI_s, upd_s, List.length_append]; rfl, by rw [mI_s, upd_n (by decide)]; exact a5, fun i hi => by rw [mI_n (by decide), mI_n (by decide)]; exact a6 i hi, fun i hi => ?_⟩
  rw [List.length_append, List.length_singleton] at hi
  rw [mI_n (by decide), mI_s]
  by_cases e : i = W.length
  · subst e
    rw [upd_s, show W.length = W.length + 0 from rfl, getD_r]; rfl
  · rw [upd_n e, a7 i (by omega), getD_l (by omega)]
theorem RS_72 (h : RS m0 m c b p S W o) (x : Int32) : RS m0 (mI m 72 (upd (m.1 72) c x)) c b p S W o := by
  obtain ⟨a1, a2, a3, a4, a5, a6, a7⟩ := h
  exact ⟨RF_72 a1, by rw [mI_n (by decide)]; exact a2, by rw [mI_n (by decide)]; exact a3, by rw [mI_n (by decide)]; exact a4, by rw [mI_n (by decide)]; exact a5, fun i hi => by rw [mI_n (by decide)]; exact a6 i hi, fun i hi => by rw [mI_n (by decide)]; exact a7 i hi⟩
theorem R_em (h : RS m0 m c b p S W o) (hb : b + S.length < 600) (t : Tok) : ∃ m', fM_emits m (mT t) = some m' ∧ RS m0 m' c b p (S ++ [t]) W o ∧ m'.1 61 14 = m.1 61 14 := by
  obtain ⟨a1, a2, a3, a4, a5, a6, a7⟩ := h
  refine ⟨mI (mI m 73 (upd (m.1 73) (b + S.length) (mT t))) 61 (upd (m.1 61) 23 (nI (b + S.length + 1))), ?_, ⟨RF_61 (m := mI m 73 (upd (m.1 73) (b + S.length) (mT t))) (RF_73 a1 (by omega)) (by decide), by rw [mI_s, upd_n (by decide)]; exact a2, by rw [mI_s, upd_s, List.length_append]; rfl, by rw [mI_s, upd_n (by decide)]; exact a4, by rw [mI_s, upd_n (by decide)]; exact a5, fun i hi => ?_, fun i hi => by rw [mI_n (by decide), mI_n (by decide)]; exact a7 i hi⟩, by rw [mI_s, upd_n (by decide)]⟩
  · unfold fM_emits
    rw [a3, if_pos (ck_nI hb (by omega)), cl_nI (by omega)]
    simp only [lm, mI_n (show (61 : Nat) ≠ 73 by decide), a3, nI_1]
  · rw [List.length_append, List.length_singleton] at hi
    rw [mI_n (by decide), mI_s]
    by_cases e : i = S.length
    · subst e
      rw [upd_s, show S.length = S.length + 0 from rfl, getD_r]; rfl
    · rw [upd_n (by omega), a6 i (by omega), getD_l (by omega)]
theorem RT_of (hT : RT m0 T len) (h : RS m0 m c b p S W o) : RT m T len := ⟨hT.1, fun i hi => by rw [h.1.2.1 67 (by decide)]; exact hT.2.1 i hi, by rw [h.1.2.2.1 12 (by decide)]; exact hT.2.2⟩
def nxB (T : Nat → Nat) (len p : Nat) : Int32 := if p < len then nI (T p) else -1
theorem nxB_eq (hT : RT m T len) {p c : Nat} (hc : c ≤ 127) : nxB T len p = nI c ↔ rdB T len p c = true := by
  unfold nxB rdB
  by_cases d : p < len
  · rw [if_pos d, byte_eq (hT.2.1 p d).1 hc]; simp [d]
  · rw [if_neg d]
    simp only [d, decide_false, Bool.false_and]
    exact ⟨fun q => absurd q (fun q => nI_pos (n := c) (by omega) (by rw [← q]; decide)), fun q => by cases q⟩
theorem R_nx (hT : RT m T len) {p : Nat} (h : m.1 61 13 = nI p) (hp : p ≤ len) : fM_next m = some (nxB T len p, m) := by
  have := hT.1
  unfold fM_next nxB
  rw [hT.2.2, h]
  by_cases d : p < len
  · rw [if_neg (not_le_nI d (by omega)), if_pos (ck_nI (by omega) (by omega)), cl_nI (by omega), (hT.2.1 p d).2, if_pos d]
  · rw [if_pos (nI_le (by omega) (by omega)), if_neg d]
theorem R_tk (hT : RT m T len) {p : Nat} (h : m.1 61 13 = nI p) (hp : p ≤ len) {c : Nat} (hc : c ≤ 127) : fM_takes m (nI c) = if rdB T len p c = true then some (1, mI m 61 (upd (m.1 61) 13 (nI (p + 1)))) else some (0, m) := by
  unfold fM_takes
  rw [R_nx hT h hp]
  simp only [Option.bind_some]
  by_cases d : rdB T len p c = true
  · rw [if_pos ((nxB_eq hT hc).mpr d), if_pos d]
    simp only [lm, h, nI_1]
  · rw [if_neg (fun q => d ((nxB_eq hT hc).mp q)), if_neg d]
theorem last_app {W : List Nat} {x : Nat} {d : Nat} : (W ++ [x]).getD W.length d = x := by
  rw [show W.length = W.length + 0 from rfl, getD_r]; rfl
/-- the nots on top are done with -/
theorem R_wh (hW : W = [] ∨ ∃ W' x, W = W' ++ [x] ∧ x ≠ 33 ∧ x ≤ 127) (hWl : W.length ≤ 100) (kc : MI → Option MI) : ∀ (k f : Nat) (m : MI) (S : List Tok), k < f → W.length + k ≤ 101 → b + S.length + k ≤ 600 → RS m0 m c b p S (W ++ List.replicate k 33) (o + k) → ∃ m', RS m0 m' c b p (S ++ List.replicate k nT) W o ∧ fM_whole_l0 kc f m = kc m' := by
  intro k
  induction k with
  | zero =>
    intro f m S hf hk hb h
    obtain ⟨f', rfl, -⟩ := fu hf
    simp only [List.replicate_zero, List.append_nil, Nat.add_zero] at h ⊢
    refine ⟨m, h, ?_⟩
    rw [fM_whole_l0, h.2.2.2.1]
    rcases hW with rfl | ⟨W', x, rfl, hx, hx2⟩
    · rw [if_pos (by decide)]
    · have l1 : (W' ++ [x]).length = W'.length + 1 := by rw [List.length_append]; rfl
      rw [l1] at hWl ⊢
      have hx7 : m.1 74 W'.length = nI x := by rw [h.2.2.2.2.2.2 W'.length (by rw [l1]; omega), last_app]
      rw [if_neg (nI_nle (by omega) (by omega)), nI_pred, if_pos (ck_nI (by omega) (by omega)), cl_nI (by omega), hx7, if_neg (show ¬ nI x = 33 from fun q => hx ((nI_eq (b := 33) (by omega) (by omega)).mp q))]
  | succ k ih =>
    intro f m S hf hk hb h
    obtain ⟨f', rfl, hf'⟩ := fu hf
    have er : W ++ List.replicate (k + 1) 33 = W ++ List.replicate k 33 ++ [33] := by rw [List.replicate_succ', List.append_assoc]
    rw [er] at h
    have l1 : (W ++ List.replicate k 33 ++ [33]).length = W.length + k + 1 := by simp; omega
    have l2 : (W ++ List.replicate k 33).length = W.length + k := by simp
    have hx7 : m.1 74 (W.length + k) = nI 33 := by rw [h.2.2.2.2.2.2 (W.length + k) (by rw [l1]; omega), ← l2, last_app]
    obtain ⟨m1, e1, h1, -⟩ := R_em h (by omega) nT
    have h2 := RS_pop h1
    have h3 := RS_25 h2 (o + k)
    obtain ⟨m', i1, i2⟩ := ih f' _ (S ++ [nT]) (hf' k rfl) (by omega) (by rw [List.length_append, List.length_singleton]; omega) h3
    refine ⟨m', ?_, ?_⟩
    · rw [List.append_assoc] at i1
      exact i1
    · rw [fM_whole_l0, h.2.2.2.1, l1, if_neg (nI_nle (by omega) (by omega)), nI_pred, if_pos (ck_nI (by omega) (by omega)), cl_nI (by omega), hx7, if_pos (show nI 33 = 33 from rfl), show (-33 : Int32) = mT nT from rfl, e1]
      simp only [Option.bind_some, lm]
      have w24 : m1.1 61 24 - 1 = nI (W ++ List.replicate k 33).length := by rw [h1.2.2.2.1, l1, nI_pred, l2]
      rw [w24]
      have w25 : (mI m1 61 (upd (m1.1 61) 24 (nI (W ++ List.replicate k 33).length))).1 61 25 - 1 = nI (o + k) := by rw [h2.2.2.2.2.1, show o + (k + 1) = o + k + 1 by omega, nI_pred]
      rw [w25]
      exact i2
def pnd (wo wa : Bool) : List Nat := (if wo = true then [124] else []) ++ (if wa = true then [38] else [])
/-- what waits is settled -/
theorem R_stop {u1 : Int32} (hW : W = [] ∨ ∃ W' x, W = W' ++ [x] ∧ (x = 40 ∨ (x = 124 ∧ u1 = 38))) (hWl : W.length ≤ 100) (kc : MI → Option MI) (f : Nat) (h : RS m0 m c b p S W o) : fM_settle_l0 u1 kc (f + 1) m = kc m := by
  rw [fM_settle_l0, h.2.2.2.1]
  rcases hW with rfl | ⟨W', x, rfl, hx⟩
  · rw [if_pos (by decide)]
  · have l1 : (W' ++ [x]).length = W'.length + 1 := by rw [List.length_append]; rfl
    rw [l1] at hWl ⊢
    have hx7 : m.1 74 W'.length = nI x := by rw [h.2.2.2.2.2.2 W'.length (by rw [l1]; omega), last_app]
    rw [if_neg (nI_nle (by omega) (by omega)), nI_pred, if_pos (ck_nI (by omega) (by omega)), cl_nI (by omega), hx7]
    rcases hx with rfl | ⟨rfl, rfl⟩
    · rw [if_neg (show ¬ nI 40 = 38 by decide), if_pos (ck_nI (by omega) (by omega)), if_neg (show ¬ nI 40 = 124 by decide)]
    · rw [if_neg (show ¬ nI 124 = 38 by decide), if_pos (ck_nI (by omega) (by omega)), if_pos (show nI 124 = 124 from rfl), if_pos rfl]
theorem R_one {u1 : Int32} {x : Nat} {t : Tok} (hx : (x = 38 ∧ t = aT) ∨ (x = 124 ∧ t = oT ∧ ¬ u1 = 38)) (hWl : W.length ≤ 100) (hb : b + S.length < 600) (kc : MI → Option MI) (f : Nat) (h : RS m0 m c b p S (W ++ [x]) o) : ∃ m', RS m0 m' c b p (S ++ [t]) W o ∧ fM_settle_l0 u1 kc (f + 1) m = fM_settle_l0 u1 kc f m' := by
  have l1 : (W ++ [x]).length = W.length + 1 := by rw [List.length_append]; rfl
  have hx7 : m.1 74 W.length = nI x := by rw [h.2.2.2.2.2.2 W.length (by rw [l1]; omega), last_app]
  have h2 := RS_pop h
  obtain ⟨m', e1, h3, -⟩ := R_em h2 hb t
  refine ⟨m', h3, ?_⟩
  have w7 : (mI m 61 (upd (m.1 61) 24 (nI W.length))).1 74 W.length = nI x := by rw [mI_n (by decide)]; exact hx7
  rw [fM_settle_l0, h.2.2.2.1, l1, if_neg (nI_nle (by omega) (by omega)), nI_pred, if_pos (ck_nI (by omega) (by omega)), cl_nI (by omega), hx7]
  rcases hx with ⟨rfl, rfl⟩ | ⟨rfl, rfl, hu⟩
  · rw [if_pos (show nI 38 = 38 from rfl)]
    simp only [lm]
    rw [h2.2.2.2.1, if_pos (ck_nI (by omega) (by omega)), cl_nI (by omega), w7, show -(nI 38) = mT aT from rfl, e1]
    rfl
  · rw [if_neg (show ¬ nI 124 = 38 by decide), if_pos (ck_nI (by omega) (by omega)), if_pos (show nI 124 = 124 from rfl), if_neg hu]
    simp only [lm]
    rw [h2.2.2.2.1, if_pos (ck_nI (by omega) (by omega)), cl_nI (by omega), w7, show -(nI 124) = mT oT from rfl, e1]
    rfl
def okW (W : List Nat) : Prop := W = [] ∨ ∃ W', W = W' ++ [40]
theorem R_set38 (hW : okW W) (hWl : W.length + 2 ≤ 100) {wo wa : Bool} (hb : b + S.length < 600) (h : RS m0 m c b p S (W ++ pnd wo wa) o) : ∃ m', RS m0 m' c b p (S ++ oneT wa aT) (W ++ pnd wo false) o ∧ fM_settle m 38 = some m' := by
  obtain ⟨F, hF1⟩ : ∃ F : Nat, F = 1000 := ⟨_, rfl⟩
  obtain ⟨f2, hF2⟩ : ∃ f2, F = f2 + 1 + 1 := ⟨F - 2, by omega⟩
  have stop : ∀ (m : MI) (S : List Tok) (f : Nat), RS m0 m c b p S (W ++ pnd wo false) o → fM_settle_l0 38 (fun m1 => some m1) (f + 1) m = some m := fun m S f h => by
    refine R_stop ?_ ?_ _ f h
    · cases wo with
      | false =>
        rcases hW with rfl | ⟨W', rfl⟩
        · exact Or.inl rfl
        · exact Or.inr ⟨W', 40, by simp [pnd], Or.inl rfl⟩
      | true => exact Or.inr ⟨W, 124, by simp [pnd], Or.inr ⟨rfl, rfl⟩⟩
    · cases wo <;> simp [pnd] <;> omega
  unfold fM_settle
  rw [← hF1, hF2]
  cases wa with
  | false =>
    exact ⟨m, by simpa [oneT] using h, stop m S (f2 + 1) h⟩
  | true =>
    have e : W ++ pnd wo true = W ++ pnd wo false ++ [38] := by cases wo <;> simp [pnd]
    rw [e] at h
    obtain ⟨m', a1, a2⟩ := R_one (u1 := 38) (t := aT) (Or.inl ⟨rfl, rfl⟩) (by cases wo <;> simp [pnd] <;> omega) hb (fun m1 => some m1) (f2 + 1) h
    exact ⟨m', a1, by rw [a2]; exact stop m' _ f2 a1⟩
theorem R_set124 (hW : okW W) (hWl : W.length + 2 ≤ 100) {wo wa : Bool} (hb : b + S.length + 1 < 600) (h : RS m0 m c b p S (W ++ pnd wo wa) o) : ∃ m', RS m0 m' c b p (S ++ oneT wa aT ++ oneT wo oT) W o ∧ fM_settle m 124 = some m' := by
  obtain ⟨F, hF1⟩ : ∃ F : Nat, F = 1000 := ⟨_, rfl⟩
  obtain ⟨f2, hF2⟩ : ∃ f2, F = f2 + 1 + 1 + 1 := ⟨F - 3, by omega⟩
  have stop : ∀ (m : MI) (S : List Tok) (f : Nat), RS m0 m c b p S W o → fM_settle_l0 124 (fun m1 => some m1) (f + 1) m = some m := fun m S f h => by
    refine R_stop ?_ (by omega) _ f h
    rcases hW with rfl | ⟨W', rfl⟩
    · exact Or.inl rfl
    · exact Or.inr ⟨W', 40, rfl, Or.inl rfl⟩
  have two : ∀ (m : MI) (S : List Tok) (f : Nat), b + S.length < 600 → RS m0 m c b p S (W ++ pnd wo false) o → ∃ m', RS m0 m' c b p (S ++ oneT wo oT) W o ∧ fM_settle_l0 124 (fun m1 => some m1) (f + 1 + 1) m = some m' := fun m S f hb h => by
    cases wo with
    | false => exact ⟨m, by simpa [oneT, pnd] using h, stop m S (f + 1) (by simpa [pnd] using h)⟩
    | true =>
      obtain ⟨m', a1, a2⟩ := R_one (u1 := 124) (x := 124) (W := W) (t := oT) (Or.inr ⟨rfl, rfl, by decide⟩) (by omega) hb (fun m1 => some m1) (f + 1) (by simpa [pnd] using h)
      exact ⟨m', a1, by rw [a2]; exact stop m' _ f a1⟩
  unfold fM_settle
  rw [← hF1, hF2]
  cases wa with
  | false =>
    obtain ⟨m', a1, a2⟩ := two m S (f2 + 1) (by omega) h
    exact ⟨m', by simpa [oneT] using a1, a2⟩
  | true =>
    have e : W ++ pnd wo true = W ++ pnd wo false ++ [38] := by cases wo <;> simp [pnd]
    rw [e] at h
    obtain ⟨m1, a1, a2⟩ := R_one (u1 := 124) (t := aT) (Or.inl ⟨rfl, rfl⟩) (by cases wo <;> simp [pnd] <;> omega) (by omega) (fun m1 => some m1) (f2 + 1 + 1) h
    obtain ⟨m', b1, b2⟩ := two m1 (S ++ [aT]) f2 (by rw [List.length_append, List.length_singleton]; omega) a1
    exact ⟨m', b1, by rw [a2]; exact b2⟩
end RR
