/-! READING A HUT: the class does the pure reading -/
def CT (m0 : MI) (T : Nat → Nat) (len : Nat) : Prop := len ≤ 100 ∧ (∀ i, i < len → T i ≤ 127 ∧ m0.1 44 i = nI (T i)) ∧ m0.1 44 len = -1
def CS (m0 m : MI) (p : Nat) (Sg : List Int32) : Prop := m.2 = m0.2 ∧ (∀ k, k ≠ 43 → k ≠ 45 → m.1 k = m0.1 k) ∧ (∀ i, i ≠ 1 → i ≠ 5 → m.1 43 i = m0.1 43 i) ∧ m.1 43 1 = nI p ∧ m.1 43 5 = nI Sg.length ∧ ∀ i, i < Sg.length → m.1 45 i = Sg.getD i 0
def wdP (T : Nat → Nat) (len : Nat) : List Nat → Nat → Nat ⊕ Nat
  | [], p => .inr p
  | b :: bs, p => if rdB T len p b = true then wdP T len bs (p + 1) else .inl p
section PC
variable {m0 m : MI} {T : Nat → Nat} {len p : Nat} {Sg : List Int32}
theorem CS_at (hT : CT m0 T len) (h : CS m0 m p Sg) (hp : p ≤ len) : ck (m.1 43 1) 101 = true ∧ (m.1 43 1).toNatClampNeg = p ∧ m.1 44 p = if p < len then nI (T p) else -1 := by
  obtain ⟨h1, h2, h3⟩ := hT
  obtain ⟨a1, a2, a3, a4, a5, a6⟩ := h
  refine ⟨by rw [a4]; exact ck_nI (by omega) (by omega), by rw [a4]; exact cl_nI (by omega), ?_⟩
  rw [a2 44 (by decide) (by decide)]
  by_cases c : p < len
  · rw [if_pos c]; exact (h2 p c).2
  · rw [if_neg c, show p = len by omega]; exact h3
theorem CS_mv (h : CS m0 m p Sg) : CS m0 (mI m 43 (upd (m.1 43) 1 (nI (p + 1)))) (p + 1) Sg := by
  obtain ⟨a1, a2, a3, a4, a5, a6⟩ := h
  refine ⟨a1, fun k h1 h2 => by rw [mI_n h1]; exact a2 k h1 h2, fun i h1 h2 => by rw [mI_s, upd_n h1]; exact a3 i h1 h2, by rw [mI_s, upd_s], by rw [mI_s, upd_n (by decide)]; exact a5, fun i hi => by rw [mI_n (by decide)]; exact a6 i hi⟩
theorem byte_eq {a c : Nat} (ha : a ≤ 127) (hc : c ≤ 127) : nI a = nI c ↔ a = c := nI_eq (by omega) (by omega)
theorem C_rd (hT : CT m0 T len) (h : CS m0 m p Sg) (hp : p ≤ len) {c : Nat} (hc : c ≤ 127) : (rdB T len p c = true ∧ ∃ m', fP_reads m (nI c) = some (1, m') ∧ CS m0 m' (p + 1) Sg) ∨ (rdB T len p c = false ∧ fP_reads m (nI c) = some (0, m)) := by
  obtain ⟨b1, b2, b3⟩ := CS_at hT h hp
  have e : fP_reads m (nI c) = if m.1 44 p = nI c then some (1, mI m 43 (upd (m.1 43) 1 (nI (p + 1)))) else some (0, m) := by
    unfold fP_reads
    simp only [if_pos b1, b2, lm]
    rw [h.2.2.2.1, nI_1]
  rw [e, b3]
  by_cases c1 : p < len
  · rw [if_pos c1]
    by_cases c2 : T p = c
    · exact Or.inl ⟨by unfold rdB; simp [c1, c2], _, if_pos ((byte_eq (hT.2.1 p c1).1 hc).mpr c2), CS_mv h⟩
    · exact Or.inr ⟨by unfold rdB; simp [c2], if_neg (fun q => c2 ((byte_eq (hT.2.1 p c1).1 hc).mp q))⟩
  · rw [if_neg c1]
    exact Or.inr ⟨by unfold rdB; simp [c1], if_neg (fun q => nI_pos (n := c) (by omega) (by rw [← q]; decide))⟩
theorem C_kep (h : CS m0 m p Sg) (hl : Sg.length < 100) (x : Int32) : ∃ m', fP_keep m x = some m' ∧ CS m0 m' p (Sg ++ [x]) := by
  obtain ⟨a1, a2, a3, a4, a5, a6⟩ := h
  refine ⟨mI (mI m 45 (upd (m.1 45) Sg.length x)) 43 (upd (m.1 43) 5 (nI (Sg.length + 1))), ?_, a1, fun k h1 h2 => by rw [mI_n h1, mI_n h2]; exact a2 k h1 h2, fun i h1 h2 => by rw [mI_s, upd_n h2]; exact a3 i h1 h2, by rw [mI_s, upd_n (by decide)]; exact a4, by rw [mI_s, upd_s, List.length_append]; rfl, fun i hi => ?_⟩
  · unfold fP_keep
    rw [a5, if_neg (show ¬ (100 : Int32) ≤ nI Sg.length from not_le_nI (n := 100) hl (by omega)), if_pos (ck_nI hl (by omega)), cl_nI (by omega)]
    simp only [lm, mI_n (show (43 : Nat) ≠ 45 by decide), a5, nI_1]
  · rw [mI_n (by decide), mI_s]
    rw [List.length_append, List.length_singleton] at hi
    by_cases e : i = Sg.length
    · subst e
      rw [upd_s, List.getD_eq_getElem?_getD, List.getElem?_append_right (Nat.le_refl _), Nat.sub_self]; rfl
    · rw [upd_n e, a6 i (by omega), List.getD_eq_getElem?_getD, List.getD_eq_getElem?_getD, List.getElem?_append_left (by omega)]
/-- a number -/
theorem dg_ck (hT : CT m0 T len) (h : CS m0 m p Sg) (hp : p ≤ len) (u1 u2 : Int32) (kc : MI → Int32 → Int32 → Option (Int32 × MI)) (f : Nat) : fP_number_l4 kc (f + 1) m u1 u2 = if 2 ≤ u2 then kc m u1 u2 else if dgB T len p = true then (if 0 ≤ u1 then fP_number_l4 kc f (mI m 43 (upd (m.1 43) 1 (nI (p + 1)))) (u1 * 10 + nI (T p) - 48) (u2 + 1) else fP_number_l4 kc f (mI m 43 (upd (m.1 43) 1 (nI (p + 1)))) (0 + nI (T p) - 48) (u2 + 1)) else kc m u1 u2 := by
  obtain ⟨b1, b2, b3⟩ := CS_at hT h hp
  rw [fP_number_l4]
  by_cases c0 : 2 ≤ u2
  · rw [if_pos c0, if_pos c0]
  rw [if_neg c0, if_neg c0, if_pos b1, b2, b3]
  by_cases c1 : p < len
  · have hb := (hT.2.1 p c1).1
    rw [if_pos c1]
    by_cases c2 : 48 ≤ T p
    · rw [if_neg (show ¬ nI (T p) < 48 from nI_nlt (b := 48) c2 (by omega)), if_pos b1]
      by_cases c3 : T p ≤ 57
      · rw [if_neg (show ¬ (57 : Int32) < nI (T p) from nI_nlt (a := 57) c3 (by omega)), if_pos (show dgB T len p = true by unfold dgB; simp [c1, c2, c3])]
        simp only [b1, if_true, lt, lm]
        rw [h.2.2.2.1, nI_1]
      · rw [if_pos (show (57 : Int32) < nI (T p) from nI_lt (a := 57) (by omega) (by omega)), if_neg (show ¬ dgB T len p = true by unfold dgB; simp [c3])]
    · rw [if_pos (show nI (T p) < 48 from nI_lt (b := 48) (by omega) (by omega)), if_neg (show ¬ dgB T len p = true by unfold dgB; simp [c2])]
  · rw [if_neg c1, if_pos (show (-1 : Int32) < 48 by decide), if_neg (show ¬ dgB T len p = true by unfold dgB; simp [c1])]
theorem C_nm (hT : CT m0 T len) (h : CS m0 m p Sg) (hp : p ≤ len) : (nmP T len p = none ∧ fP_number m = some (-1, m)) ∨ ∃ n q m', nmP T len p = some (n, q) ∧ fP_number m = some (nI n, m') ∧ CS m0 m' q Sg := by
  obtain ⟨F, hF1⟩ : ∃ F : Nat, F = 1000 := ⟨_, rfl⟩
  obtain ⟨f2, hF2⟩ : ∃ f2, F = f2 + 1 + 1 + 1 := ⟨F - 3, by omega⟩
  unfold fP_number nmP
  rw [← hF1, hF2, dg_ck hT h hp, if_neg (show ¬ (2 : Int32) ≤ 0 by decide)]
  by_cases c : dgB T len p = true
  · have c' := c
    unfold dgB at c'
    simp only [Bool.and_eq_true, decide_eq_true_eq] at c'
    have e1 : (0 : Int32) + nI (T p) - 48 = nI (T p - 48) := by rw [show (0 : Int32) = nI 0 from rfl, nI_add, Nat.zero_add, show (48 : Int32) = nI 48 from rfl, pk_sub c'.2.1]
    rw [if_pos c, if_pos c, if_neg (show ¬ (0 : Int32) ≤ -1 by decide), e1]
    have h1 := CS_mv h
    rw [dg_ck hT h1 c'.1, if_neg (show ¬ (2 : Int32) ≤ 0 + 1 by decide)]
    by_cases c2 : dgB T len (p + 1) = true
    · have c2' := c2
      unfold dgB at c2'
      simp only [Bool.and_eq_true, decide_eq_true_eq] at c2'
      have e2 : nI (T p - 48) * 10 + nI (T (p + 1)) - 48 = nI (10 * (T p - 48) + (T (p + 1) - 48)) := by
        rw [show (10 : Int32) = nI 10 from rfl, pk_mul, nI_add, show (48 : Int32) = nI 48 from rfl, pk_sub (by omega)]
        congr 1; omega
      have h2 := CS_mv h1
      rw [if_pos c2, if_pos c2, if_pos (show (0 : Int32) ≤ nI (T p - 48) from nI_pos' (by omega)), e2, dg_ck hT h2 c2'.1, if_pos (show (2 : Int32) ≤ 0 + 1 + 1 by decide)]
      exact Or.inr ⟨_, _, _, rfl, rfl, h2⟩
    · rw [if_neg c2, if_neg c2]
      exact Or.inr ⟨_, _, _, rfl, rfl, h1⟩
  · rw [if_neg c, if_neg c]
    exact Or.inl ⟨rfl, rfl⟩
set_option maxRecDepth 100000 in
theorem byteT : ∀ c, c < 128 → ((nI c).toUInt32 % 65536).toInt32 = nI c ∧ (nI c).toInt8.toInt32 = nI c := by decide +kernel

theorem ix_1014 {c : Nat} (hc : c < 128) (m : MI) : fJS_indexOf_0f7a4_1014 m (((nI c).toUInt32 % 65536).toInt32) = if 100 = c then some (nI 0, m) else if 107 = c then some (nI 1, m) else if 110 = c then some (nI 2, m) else if 115 = c then some (nI 3, m) else if 108 = c then some (nI 4, m) else if 112 = c then some (nI 5, m) else some (-1, m) := by
  obtain ⟨F, hF1⟩ : ∃ F : Nat, F = 1000 := ⟨_, rfl⟩
  obtain ⟨f2, hF2⟩ : ∃ f2, F = f2 + 7 := ⟨F - 7, by omega⟩
  have e0 : ∀ (kc : MI → Int32 → Option (Int32 × MI)) (u1 u2 : Int32), fJL_indexOfChar_4cfef_1024_l7 u1 u2 6 (nI c) kc F m 0 = if 100 = c then some (nI 0, m) else if 107 = c then some (nI 1, m) else if 110 = c then some (nI 2, m) else if 115 = c then some (nI 3, m) else if 108 = c then some (nI 4, m) else if 112 = c then some (nI 5, m) else kc m 6 := by
    intro kc u1 u2
    rw [hF2]
    rw [fJL_indexOfChar_4cfef_1024_l7, if_neg (show ¬ (6 : Int32) ≤ 0 by decide), if_pos (show ck 0 6 = true by decide), show ((sByt.getD 4 []).getD ((0 : Int32).toNatClampNeg) 0) = nI 100 from rfl]
    by_cases c0 : 100 = c
    · rw [if_pos ((byte_eq (by omega) (by omega)).mpr c0), if_pos c0]; rfl
    rw [if_neg (fun q => c0 ((byte_eq (by omega) (by omega)).mp q)), if_neg c0]
    simp only [lt]
    rw [show (0 : Int32) + 1 = 1 from rfl]
    rw [fJL_indexOfChar_4cfef_1024_l7, if_neg (show ¬ (6 : Int32) ≤ 1 by decide), if_pos (show ck 1 6 = true by decide), show ((sByt.getD 4 []).getD ((1 : Int32).toNatClampNeg) 0) = nI 107 from rfl]
    by_cases c1 : 107 = c
    · rw [if_pos ((byte_eq (by omega) (by omega)).mpr c1), if_pos c1]; rfl
    rw [if_neg (fun q => c1 ((byte_eq (by omega) (by omega)).mp q)), if_neg c1]
    simp only [lt]
    rw [show (1 : Int32) + 1 = 2 from rfl]
    rw [fJL_indexOfChar_4cfef_1024_l7, if_neg (show ¬ (6 : Int32) ≤ 2 by decide), if_pos (show ck 2 6 = true by decide), show ((sByt.getD 4 []).getD ((2 : Int32).toNatClampNeg) 0) = nI 110 from rfl]
    by_cases c2 : 110 = c
    · rw [if_pos ((byte_eq (by omega) (by omega)).mpr c2), if_pos c2]; rfl
    rw [if_neg (fun q => c2 ((byte_eq (by omega) (by omega)).mp q)), if_neg c2]
    simp only [lt]
    rw [show (2 : Int32) + 1 = 3 from rfl]
    rw [fJL_indexOfChar_4cfef_1024_l7, if_neg (show ¬ (6 : Int32) ≤ 3 by decide), if_pos (show ck 3 6 = true by decide), show ((sByt.getD 4 []).getD ((3 : Int32).toNatClampNeg) 0) = nI 115 from rfl]
    by_cases c3 : 115 = c
    · rw [if_pos ((byte_eq (by omega) (by omega)).mpr c3), if_pos c3]; rfl
    rw [if_neg (fun q => c3 ((byte_eq (by omega) (by omega)).mp q)), if_neg c3]
    simp only [lt]
    rw [show (3 : Int32) + 1 = 4 from rfl]
    rw [fJL_indexOfChar_4cfef_1024_l7, if_neg (show ¬ (6 : Int32) ≤ 4 by decide), if_pos (show ck 4 6 = true by decide), show ((sByt.getD 4 []).getD ((4 : Int32).toNatClampNeg) 0) = nI 108 from rfl]
    by_cases c4 : 108 = c
    · rw [if_pos ((byte_eq (by omega) (by omega)).mpr c4), if_pos c4]; rfl
    rw [if_neg (fun q => c4 ((byte_eq (by omega) (by omega)).mp q)), if_neg c4]
    simp only [lt]
    rw [show (4 : Int32) + 1 = 5 from rfl]
    rw [fJL_indexOfChar_4cfef_1024_l7, if_neg (show ¬ (6 : Int32) ≤ 5 by decide), if_pos (show ck 5 6 = true by decide), show ((sByt.getD 4 []).getD ((5 : Int32).toNatClampNeg) 0) = nI 112 from rfl]
    by_cases c5 : 112 = c
    · rw [if_pos ((byte_eq (by omega) (by omega)).mpr c5), if_pos c5]; rfl
    rw [if_neg (fun q => c5 ((byte_eq (by omega) (by omega)).mp q)), if_neg c5]
    simp only [lt]
    rw [show (5 : Int32) + 1 = 6 from rfl]
    rw [fJL_indexOfChar_4cfef_1024_l7, if_pos (show (6 : Int32) ≤ 6 by decide)]
  have h0 : ¬ nI c < 0 := nI_pos (by omega)
  have h255 : ¬ (255 : Int32) < nI c := nI_nlt (a := 255) (by omega) (by omega)
  unfold fJS_indexOf_0f7a4_1014 fJS_indexOf_7cf53_1014 fJS_isLatin1_aae02_1014 fJS_length_8abf5_1014 fJS_coder_7d493_1014 fJL_indexOf_4cfef_1024 fJL_canEncode_9a6ad fJL_indexOfChar_4cfef_1024
  rw [(byteT c hc).1]
  simp only [Option.bind_some, if_neg h0, if_neg h255, if_neg (show ¬ (1 : Int32) = 0 by decide), lt, (byteT c hc).2, ← hF1]
  rw [if_neg (show ¬ (0 : Int32) < 0 by decide), show (if (6 : Int32) < (6 : Int32) >>> ((0 : Int32) &&& 31) then (6 : Int32) else (6 : Int32) >>> ((0 : Int32) &&& 31)) = 6 from by decide, if_pos (show (0 : Int32) < 6 by decide), e0]
  repeat' split
  all_goals rfl

theorem ix_1015 {c : Nat} (hc : c < 128) (m : MI) : fJS_indexOf_0f7a4_1015 m (((nI c).toUInt32 % 65536).toInt32) = if 60 = c then some (nI 0, m) else if 61 = c then some (nI 1, m) else if 62 = c then some (nI 2, m) else some (-1, m) := by
  obtain ⟨F, hF1⟩ : ∃ F : Nat, F = 1000 := ⟨_, rfl⟩
  obtain ⟨f2, hF2⟩ : ∃ f2, F = f2 + 4 := ⟨F - 4, by omega⟩
  have e0 : ∀ (kc : MI → Int32 → Option (Int32 × MI)) (u1 u2 : Int32), fJL_indexOfChar_4cfef_1025_l7 u1 u2 3 (nI c) kc F m 0 = if 60 = c then some (nI 0, m) else if 61 = c then some (nI 1, m) else if 62 = c then some (nI 2, m) else kc m 3 := by
    intro kc u1 u2
    rw [hF2]
    rw [fJL_indexOfChar_4cfef_1025_l7, if_neg (show ¬ (3 : Int32) ≤ 0 by decide), if_pos (show ck 0 3 = true by decide), show ((sByt.getD 5 []).getD ((0 : Int32).toNatClampNeg) 0) = nI 60 from rfl]
    by_cases c0 : 60 = c
    · rw [if_pos ((byte_eq (by omega) (by omega)).mpr c0), if_pos c0]; rfl
    rw [if_neg (fun q => c0 ((byte_eq (by omega) (by omega)).mp q)), if_neg c0]
    simp only [lt]
    rw [show (0 : Int32) + 1 = 1 from rfl]
    rw [fJL_indexOfChar_4cfef_1025_l7, if_neg (show ¬ (3 : Int32) ≤ 1 by decide), if_pos (show ck 1 3 = true by decide), show ((sByt.getD 5 []).getD ((1 : Int32).toNatClampNeg) 0) = nI 61 from rfl]
    by_cases c1 : 61 = c
    · rw [if_pos ((byte_eq (by omega) (by omega)).mpr c1), if_pos c1]; rfl
    rw [if_neg (fun q => c1 ((byte_eq (by omega) (by omega)).mp q)), if_neg c1]
    simp only [lt]
    rw [show (1 : Int32) + 1 = 2 from rfl]
    rw [fJL_indexOfChar_4cfef_1025_l7, if_neg (show ¬ (3 : Int32) ≤ 2 by decide), if_pos (show ck 2 3 = true by decide), show ((sByt.getD 5 []).getD ((2 : Int32).toNatClampNeg) 0) = nI 62 from rfl]
    by_cases c2 : 62 = c
    · rw [if_pos ((byte_eq (by omega) (by omega)).mpr c2), if_pos c2]; rfl
    rw [if_neg (fun q => c2 ((byte_eq (by omega) (by omega)).mp q)), if_neg c2]
    simp only [lt]
    rw [show (2 : Int32) + 1 = 3 from rfl]
    rw [fJL_indexOfChar_4cfef_1025_l7, if_pos (show (3 : Int32) ≤ 3 by decide)]
  have h0 : ¬ nI c < 0 := nI_pos (by omega)
  have h255 : ¬ (255 : Int32) < nI c := nI_nlt (a := 255) (by omega) (by omega)
  unfold fJS_indexOf_0f7a4_1015 fJS_indexOf_7cf53_1015 fJS_isLatin1_aae02_1015 fJS_length_8abf5_1015 fJS_coder_7d493_1015 fJL_indexOf_4cfef_1025 fJL_canEncode_9a6ad fJL_indexOfChar_4cfef_1025
  rw [(byteT c hc).1]
  simp only [Option.bind_some, if_neg h0, if_neg h255, if_neg (show ¬ (1 : Int32) = 0 by decide), lt, (byteT c hc).2, ← hF1]
  rw [if_neg (show ¬ (0 : Int32) < 0 by decide), show (if (3 : Int32) < (3 : Int32) >>> ((0 : Int32) &&& 31) then (3 : Int32) else (3 : Int32) >>> ((0 : Int32) &&& 31)) = 3 from by decide, if_pos (show (0 : Int32) < 3 by decide), e0]
  repeat' split
  all_goals rfl

theorem ch_1010 : ∀ k, k < 4 → ∀ m, fJS_charAt_5068e_1010 m (nI k) = some (nI ([108, 101, 97, 110].getD k 0), m) := by
  intro k hk m
  match k, hk with
  | 0, _ => rfl
  | 1, _ => rfl
  | 2, _ => rfl
  | 3, _ => rfl
  | k + 4, h => omega
theorem wd_1010 (hT : CT m0 T len) : ∀ (q k f : Nat) (m : MI) (p : Nat) (Sg : List Int32), k + q = 4 → q < f → p ≤ len → CS m0 m p Sg → (∃ q' m', wdP T len ([108, 101, 97, 110].drop k) p = .inl q' ∧ p ≤ q' ∧ q' ≤ len ∧ CS m0 m' q' Sg ∧ fP_readsWord_1010_l2 (fun m2 _ => some (1, m2)) f m (nI k) = some (0, m')) ∨ ∃ q' m', wdP T len ([108, 101, 97, 110].drop k) p = .inr q' ∧ q' = p + q ∧ q' ≤ len ∧ CS m0 m' q' Sg ∧ fP_readsWord_1010_l2 (fun m2 _ => some (1, m2)) f m (nI k) = some (1, m') := by
  intro q
  induction q with
  | zero =>
    intro k f m p Sg hk hf hp h
    obtain ⟨f', rfl, -⟩ := fu hf
    refine Or.inr ⟨p, m, ?_, rfl, hp, h, ?_⟩
    · rw [List.drop_eq_nil_of_le (by show 4 ≤ k; omega)]; rfl
    · rw [fP_readsWord_1010_l2]
      show (if (4 : Int32) >>> ((0 : Int32) &&& 31) ≤ nI k then _ else _) = _
      rw [show (4 : Int32) >>> ((0 : Int32) &&& 31) = nI 4 from rfl, if_pos (nI_le (by omega) (by omega))]
  | succ q ih =>
    intro k f m p Sg hk hf hp h
    obtain ⟨f', rfl, hf'⟩ := fu hf
    have hd : [108, 101, 97, 110].drop k = [108, 101, 97, 110].getD k 0 :: [108, 101, 97, 110].drop (k + 1) := by
      rw [List.drop_eq_getElem_cons (show k < 4 by omega)]
      congr 1
      rw [List.getD_eq_getElem?_getD, List.getElem?_eq_getElem (show k < 4 by omega)]; rfl
    have hb : [108, 101, 97, 110].getD k 0 ≤ 127 := by
      have : ∀ k, k < 4 → [108, 101, 97, 110].getD k 0 ≤ 127 := by decide
      exact this k (by omega)
    have e : fP_readsWord_1010_l2 (fun m2 _ => some (1, m2)) (f' + 1) m (nI k) = (fP_reads m (nI ([108, 101, 97, 110].getD k 0))).bind fun r4 => if r4.1 = 0 then some (0, r4.2) else fP_readsWord_1010_l2 (fun m2 _ => some (1, m2)) f' r4.2 (nI (k + 1)) := by
      rw [fP_readsWord_1010_l2]
      show (if (4 : Int32) >>> ((0 : Int32) &&& 31) ≤ nI k then _ else _) = _
      rw [show (4 : Int32) >>> ((0 : Int32) &&& 31) = nI 4 from rfl, if_neg (not_le_nI (by omega) (by omega)), ch_1010 k (by omega)]
      simp only [Option.bind_some, lt, nI_1]
    rw [e, hd]
    unfold wdP
    rcases C_rd hT h hp hb with ⟨r1, m1, r2, r3⟩ | ⟨r1, r2⟩
    · rw [r1, if_pos rfl, r2]
      simp only [Option.bind_some, if_neg (show ¬ (1 : Int32) = 0 by decide)]
      have hp1 := (rdB_t r1).1
      rcases ih (k + 1) f' m1 (p + 1) Sg (by omega) (hf' q rfl) hp1 r3 with ⟨q', m', i1, i2, i3, i4, i5⟩ | ⟨q', m', i1, i2, i3, i4, i5⟩
      · exact Or.inl ⟨q', m', i1, by omega, i3, i4, i5⟩
      · exact Or.inr ⟨q', m', i1, by omega, i3, i4, i5⟩
    · rw [r1, if_neg (by decide), r2]
      exact Or.inl ⟨p, m, rfl, Nat.le_refl _, hp, h, rfl⟩
theorem C_w1010 (hT : CT m0 T len) (h : CS m0 m p Sg) (hp : p ≤ len) : (∃ q' m', wdP T len [108, 101, 97, 110] p = .inl q' ∧ p ≤ q' ∧ q' ≤ len ∧ CS m0 m' q' Sg ∧ fP_readsWord_1010 m = some (0, m')) ∨ ∃ q' m', wdP T len [108, 101, 97, 110] p = .inr q' ∧ q' = p + 4 ∧ q' ≤ len ∧ CS m0 m' q' Sg ∧ fP_readsWord_1010 m = some (1, m') := by
  obtain ⟨F, hF1⟩ : ∃ F : Nat, F = 1000 := ⟨_, rfl⟩
  have := wd_1010 hT 4 0 F m p Sg (by omega) (by omega) hp h
  unfold fP_readsWord_1010
  rw [← hF1]
  exact this

theorem ch_1011 : ∀ k, k < 4 → ∀ m, fJS_charAt_5068e_1011 m (nI k) = some (nI ([109, 111, 114, 101].getD k 0), m) := by
  intro k hk m
  match k, hk with
  | 0, _ => rfl
  | 1, _ => rfl
  | 2, _ => rfl
  | 3, _ => rfl
  | k + 4, h => omega
theorem wd_1011 (hT : CT m0 T len) : ∀ (q k f : Nat) (m : MI) (p : Nat) (Sg : List Int32), k + q = 4 → q < f → p ≤ len → CS m0 m p Sg → (∃ q' m', wdP T len ([109, 111, 114, 101].drop k) p = .inl q' ∧ p ≤ q' ∧ q' ≤ len ∧ CS m0 m' q' Sg ∧ fP_readsWord_1011_l2 (fun m2 _ => some (1, m2)) f m (nI k) = some (0, m')) ∨ ∃ q' m', wdP T len ([109, 111, 114, 101].drop k) p = .inr q' ∧ q' = p + q ∧ q' ≤ len ∧ CS m0 m' q' Sg ∧ fP_readsWord_1011_l2 (fun m2 _ => some (1, m2)) f m (nI k) = some (1, m') := by
  intro q
  induction q with
  | zero =>
    intro k f m p Sg hk hf hp h
    obtain ⟨f', rfl, -⟩ := fu hf
    refine Or.inr ⟨p, m, ?_, rfl, hp, h, ?_⟩
    · rw [List.drop_eq_nil_of_le (by show 4 ≤ k; omega)]; rfl
    · rw [fP_readsWord_1011_l2]
      show (if (4 : Int32) >>> ((0 : Int32) &&& 31) ≤ nI k then _ else _) = _
      rw [show (4 : Int32) >>> ((0 : Int32) &&& 31) = nI 4 from rfl, if_pos (nI_le (by omega) (by omega))]
  | succ q ih =>
    intro k f m p Sg hk hf hp h
    obtain ⟨f', rfl, hf'⟩ := fu hf
    have hd : [109, 111, 114, 101].drop k = [109, 111, 114, 101].getD k 0 :: [109, 111, 114, 101].drop (k + 1) := by
      rw [List.drop_eq_getElem_cons (show k < 4 by omega)]
      congr 1
      rw [List.getD_eq_getElem?_getD, List.getElem?_eq_getElem (show k < 4 by omega)]; rfl
    have hb : [109, 111, 114, 101].getD k 0 ≤ 127 := by
      have : ∀ k, k < 4 → [109, 111, 114, 101].getD k 0 ≤ 127 := by decide
      exact this k (by omega)
    have e : fP_readsWord_1011_l2 (fun m2 _ => some (1, m2)) (f' + 1) m (nI k) = (fP_reads m (nI ([109, 111, 114, 101].getD k 0))).bind fun r4 => if r4.1 = 0 then some (0, r4.2) else fP_readsWord_1011_l2 (fun m2 _ => some (1, m2)) f' r4.2 (nI (k + 1)) := by
      rw [fP_readsWord_1011_l2]
      show (if (4 : Int32) >>> ((0 : Int32) &&& 31) ≤ nI k then _ else _) = _
      rw [show (4 : Int32) >>> ((0 : Int32) &&& 31) = nI 4 from rfl, if_neg (not_le_nI (by omega) (by omega)), ch_1011 k (by omega)]
      simp only [Option.bind_some, lt, nI_1]
    rw [e, hd]
    unfold wdP
    rcases C_rd hT h hp hb with ⟨r1, m1, r2, r3⟩ | ⟨r1, r2⟩
    · rw [r1, if_pos rfl, r2]
      simp only [Option.bind_some, if_neg (show ¬ (1 : Int32) = 0 by decide)]
      have hp1 := (rdB_t r1).1
      rcases ih (k + 1) f' m1 (p + 1) Sg (by omega) (hf' q rfl) hp1 r3 with ⟨q', m', i1, i2, i3, i4, i5⟩ | ⟨q', m', i1, i2, i3, i4, i5⟩
      · exact Or.inl ⟨q', m', i1, by omega, i3, i4, i5⟩
      · exact Or.inr ⟨q', m', i1, by omega, i3, i4, i5⟩
    · rw [r1, if_neg (by decide), r2]
      exact Or.inl ⟨p, m, rfl, Nat.le_refl _, hp, h, rfl⟩
theorem C_w1011 (hT : CT m0 T len) (h : CS m0 m p Sg) (hp : p ≤ len) : (∃ q' m', wdP T len [109, 111, 114, 101] p = .inl q' ∧ p ≤ q' ∧ q' ≤ len ∧ CS m0 m' q' Sg ∧ fP_readsWord_1011 m = some (0, m')) ∨ ∃ q' m', wdP T len [109, 111, 114, 101] p = .inr q' ∧ q' = p + 4 ∧ q' ≤ len ∧ CS m0 m' q' Sg ∧ fP_readsWord_1011 m = some (1, m') := by
  obtain ⟨F, hF1⟩ : ∃ F : Nat, F = 1000 := ⟨_, rfl⟩
  have := wd_1011 hT 4 0 F m p Sg (by omega) (by omega) hp h
  unfold fP_readsWord_1011
  rw [← hF1]
  exact this

theorem ch_1012 : ∀ k, k < 2 → ∀ m, fJS_charAt_5068e_1012 m (nI k) = some (nI ([115, 104].getD k 0), m) := by
  intro k hk m
  match k, hk with
  | 0, _ => rfl
  | 1, _ => rfl
  | k + 2, h => omega
theorem wd_1012 (hT : CT m0 T len) : ∀ (q k f : Nat) (m : MI) (p : Nat) (Sg : List Int32), k + q = 2 → q < f → p ≤ len → CS m0 m p Sg → (∃ q' m', wdP T len ([115, 104].drop k) p = .inl q' ∧ p ≤ q' ∧ q' ≤ len ∧ CS m0 m' q' Sg ∧ fP_readsWord_1012_l2 (fun m2 _ => some (1, m2)) f m (nI k) = some (0, m')) ∨ ∃ q' m', wdP T len ([115, 104].drop k) p = .inr q' ∧ q' = p + q ∧ q' ≤ len ∧ CS m0 m' q' Sg ∧ fP_readsWord_1012_l2 (fun m2 _ => some (1, m2)) f m (nI k) = some (1, m') := by
  intro q
  induction q with
  | zero =>
    intro k f m p Sg hk hf hp h
    obtain ⟨f', rfl, -⟩ := fu hf
    refine Or.inr ⟨p, m, ?_, rfl, hp, h, ?_⟩
    · rw [List.drop_eq_nil_of_le (by show 2 ≤ k; omega)]; rfl
    · rw [fP_readsWord_1012_l2]
      show (if (2 : Int32) >>> ((0 : Int32) &&& 31) ≤ nI k then _ else _) = _
      rw [show (2 : Int32) >>> ((0 : Int32) &&& 31) = nI 2 from rfl, if_pos (nI_le (by omega) (by omega))]
  | succ q ih =>
    intro k f m p Sg hk hf hp h
    obtain ⟨f', rfl, hf'⟩ := fu hf
    have hd : [115, 104].drop k = [115, 104].getD k 0 :: [115, 104].drop (k + 1) := by
      rw [List.drop_eq_getElem_cons (show k < 2 by omega)]
      congr 1
      rw [List.getD_eq_getElem?_getD, List.getElem?_eq_getElem (show k < 2 by omega)]; rfl
    have hb : [115, 104].getD k 0 ≤ 127 := by
      have : ∀ k, k < 2 → [115, 104].getD k 0 ≤ 127 := by decide
      exact this k (by omega)
    have e : fP_readsWord_1012_l2 (fun m2 _ => some (1, m2)) (f' + 1) m (nI k) = (fP_reads m (nI ([115, 104].getD k 0))).bind fun r4 => if r4.1 = 0 then some (0, r4.2) else fP_readsWord_1012_l2 (fun m2 _ => some (1, m2)) f' r4.2 (nI (k + 1)) := by
      rw [fP_readsWord_1012_l2]
      show (if (2 : Int32) >>> ((0 : Int32) &&& 31) ≤ nI k then _ else _) = _
      rw [show (2 : Int32) >>> ((0 : Int32) &&& 31) = nI 2 from rfl, if_neg (not_le_nI (by omega) (by omega)), ch_1012 k (by omega)]
      simp only [Option.bind_some, lt, nI_1]
    rw [e, hd]
    unfold wdP
    rcases C_rd hT h hp hb with ⟨r1, m1, r2, r3⟩ | ⟨r1, r2⟩
    · rw [r1, if_pos rfl, r2]
      simp only [Option.bind_some, if_neg (show ¬ (1 : Int32) = 0 by decide)]
      have hp1 := (rdB_t r1).1
      rcases ih (k + 1) f' m1 (p + 1) Sg (by omega) (hf' q rfl) hp1 r3 with ⟨q', m', i1, i2, i3, i4, i5⟩ | ⟨q', m', i1, i2, i3, i4, i5⟩
      · exact Or.inl ⟨q', m', i1, by omega, i3, i4, i5⟩
      · exact Or.inr ⟨q', m', i1, by omega, i3, i4, i5⟩
    · rw [r1, if_neg (by decide), r2]
      exact Or.inl ⟨p, m, rfl, Nat.le_refl _, hp, h, rfl⟩
theorem C_w1012 (hT : CT m0 T len) (h : CS m0 m p Sg) (hp : p ≤ len) : (∃ q' m', wdP T len [115, 104] p = .inl q' ∧ p ≤ q' ∧ q' ≤ len ∧ CS m0 m' q' Sg ∧ fP_readsWord_1012 m = some (0, m')) ∨ ∃ q' m', wdP T len [115, 104] p = .inr q' ∧ q' = p + 2 ∧ q' ≤ len ∧ CS m0 m' q' Sg ∧ fP_readsWord_1012 m = some (1, m') := by
  obtain ⟨F, hF1⟩ : ∃ F : Nat, F = 1000 := ⟨_, rfl⟩
  have := wd_1012 hT 2 0 F m p Sg (by omega) (by omega) hp h
  unfold fP_readsWord_1012
  rw [← hF1]
  exact this

theorem ch_1013 : ∀ k, k < 3 → ∀ m, fJS_charAt_5068e_1013 m (nI k) = some (nI ([111, 114, 116].getD k 0), m) := by
  intro k hk m
  match k, hk with
  | 0, _ => rfl
  | 1, _ => rfl
  | 2, _ => rfl
  | k + 3, h => omega
theorem wd_1013 (hT : CT m0 T len) : ∀ (q k f : Nat) (m : MI) (p : Nat) (Sg : List Int32), k + q = 3 → q < f → p ≤ len → CS m0 m p Sg → (∃ q' m', wdP T len ([111, 114, 116].drop k) p = .inl q' ∧ p ≤ q' ∧ q' ≤ len ∧ CS m0 m' q' Sg ∧ fP_readsWord_1013_l2 (fun m2 _ => some (1, m2)) f m (nI k) = some (0, m')) ∨ ∃ q' m', wdP T len ([111, 114, 116].drop k) p = .inr q' ∧ q' = p + q ∧ q' ≤ len ∧ CS m0 m' q' Sg ∧ fP_readsWord_1013_l2 (fun m2 _ => some (1, m2)) f m (nI k) = some (1, m') := by
  intro q
  induction q with
  | zero =>
    intro k f m p Sg hk hf hp h
    obtain ⟨f', rfl, -⟩ := fu hf
    refine Or.inr ⟨p, m, ?_, rfl, hp, h, ?_⟩
    · rw [List.drop_eq_nil_of_le (by show 3 ≤ k; omega)]; rfl
    · rw [fP_readsWord_1013_l2]
      show (if (3 : Int32) >>> ((0 : Int32) &&& 31) ≤ nI k then _ else _) = _
      rw [show (3 : Int32) >>> ((0 : Int32) &&& 31) = nI 3 from rfl, if_pos (nI_le (by omega) (by omega))]
  | succ q ih =>
    intro k f m p Sg hk hf hp h
    obtain ⟨f', rfl, hf'⟩ := fu hf
    have hd : [111, 114, 116].drop k = [111, 114, 116].getD k 0 :: [111, 114, 116].drop (k + 1) := by
      rw [List.drop_eq_getElem_cons (show k < 3 by omega)]
      congr 1
      rw [List.getD_eq_getElem?_getD, List.getElem?_eq_getElem (show k < 3 by omega)]; rfl
    have hb : [111, 114, 116].getD k 0 ≤ 127 := by
      have : ∀ k, k < 3 → [111, 114, 116].getD k 0 ≤ 127 := by decide
      exact this k (by omega)
    have e : fP_readsWord_1013_l2 (fun m2 _ => some (1, m2)) (f' + 1) m (nI k) = (fP_reads m (nI ([111, 114, 116].getD k 0))).bind fun r4 => if r4.1 = 0 then some (0, r4.2) else fP_readsWord_1013_l2 (fun m2 _ => some (1, m2)) f' r4.2 (nI (k + 1)) := by
      rw [fP_readsWord_1013_l2]
      show (if (3 : Int32) >>> ((0 : Int32) &&& 31) ≤ nI k then _ else _) = _
      rw [show (3 : Int32) >>> ((0 : Int32) &&& 31) = nI 3 from rfl, if_neg (not_le_nI (by omega) (by omega)), ch_1013 k (by omega)]
      simp only [Option.bind_some, lt, nI_1]
    rw [e, hd]
    unfold wdP
    rcases C_rd hT h hp hb with ⟨r1, m1, r2, r3⟩ | ⟨r1, r2⟩
    · rw [r1, if_pos rfl, r2]
      simp only [Option.bind_some, if_neg (show ¬ (1 : Int32) = 0 by decide)]
      have hp1 := (rdB_t r1).1
      rcases ih (k + 1) f' m1 (p + 1) Sg (by omega) (hf' q rfl) hp1 r3 with ⟨q', m', i1, i2, i3, i4, i5⟩ | ⟨q', m', i1, i2, i3, i4, i5⟩
      · exact Or.inl ⟨q', m', i1, by omega, i3, i4, i5⟩
      · exact Or.inr ⟨q', m', i1, by omega, i3, i4, i5⟩
    · rw [r1, if_neg (by decide), r2]
      exact Or.inl ⟨p, m, rfl, Nat.le_refl _, hp, h, rfl⟩
theorem C_w1013 (hT : CT m0 T len) (h : CS m0 m p Sg) (hp : p ≤ len) : (∃ q' m', wdP T len [111, 114, 116] p = .inl q' ∧ p ≤ q' ∧ q' ≤ len ∧ CS m0 m' q' Sg ∧ fP_readsWord_1013 m = some (0, m')) ∨ ∃ q' m', wdP T len [111, 114, 116] p = .inr q' ∧ q' = p + 3 ∧ q' ≤ len ∧ CS m0 m' q' Sg ∧ fP_readsWord_1013 m = some (1, m') := by
  obtain ⟨F, hF1⟩ : ∃ F : Nat, F = 1000 := ⟨_, rfl⟩
  have := wd_1013 hT 3 0 F m p Sg (by omega) (by omega) hp h
  unfold fP_readsWord_1013
  rw [← hF1]
  exact this

end PC
