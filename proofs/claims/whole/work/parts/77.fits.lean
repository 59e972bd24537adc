/-! THE SAME ANSWERS: fits -/
theorem upd_id {f : Nat → Int32} {k : Nat} : upd f k (f k) = f := by
  funext i
  by_cases e : i = k
  · subst e; rw [upd_s]
  · rw [upd_n e]
theorem mS_id {m : MI} : mS m (m.1 61 2) (m.1 61 3) (m.1 61 4) (m.1 64) = m := by
  unfold mS
  rw [upd_id, upd_id, upd_id, mI_id, mI_id]
theorem Int_or0 (x : Int32) : x ||| (0 : Int32) = x := by
  apply Int32.toBitVec_inj.mp
  simp
/-- what the reference put aside comes back -/
theorem M_bakE {m m'' : MI} {s l q : Int32} {Z : Nat → Int32} (e : pj m'' = pj (mS m s l q Z)) (hZ : ∀ i, 6 ≤ i → Z i = m.1 64 i) (h2 : m''.1 61 37 = m.1 61 2) (h3 : m''.1 61 38 = m.1 61 3) (h4 : m''.1 61 39 = m.1 61 4) (h82 : ∀ i, i < 6 → m''.1 82 i = m.1 64 i) : ∃ mE, fM_putBack m'' = some mE ∧ pj mE = pj m := by
  obtain ⟨g, g1, g2, g3⟩ := M_bak m''
  have eg : g = m.1 64 := by
    funext i
    by_cases hi : i < 6
    · rw [g1 i hi, h82 i hi]
    · rw [g2 i (by omega), pj_at e rfl, mS_64, hZ i (by omega)]
  refine ⟨_, g3, ?_⟩
  rw [h2, h3, h4, eg]
  have b1 := pj_fld2 (k := 61) (j := 2) (x := m.1 61 2) e
  rw [mS_2] at b1
  have b2 := pj_fld2 (k := 61) (j := 3) (x := m.1 61 3) b1
  rw [mS_3] at b2
  have b3 := pj_fld2 (k := 61) (j := 4) (x := m.1 61 4) b2
  rw [mS_4] at b3
  have b4 := pj_put (k := 64) (g := m.1 64) b3
  simp only [mI_mI, mI_s] at b4
  rw [show mI (mS m (m.1 61 2) (m.1 61 3) (m.1 61 4) Z) 64 (m.1 64) = m by
    have : mI (mS m (m.1 61 2) (m.1 61 3) (m.1 61 4) Z) 64 (m.1 64) = mS m (m.1 61 2) (m.1 61 3) (m.1 61 4) (m.1 64) := by unfold mS; rw [mI_mI]
    rw [this, mS_id]] at b4
  exact b4
/-- the reference puts aside and lays a fist -/
theorem M_savE {sh : Sh} {R : RR} {m : MI} {hw a z n : Nat} (hC : CurH sh R m hw a z) (hn : n ≤ 6) (h0 : m.1 61 0 = nI n) {m' : MI} (e : pj m' = pj m) : ∃ m1 m2, fM_save m' = some m1 ∧ fM_layFist m1 = some m2 ∧ pj m2 = pj (mS m (nI a) (nI (n + z - a)) 0 (m.1 64)) ∧ m2.1 61 37 = m.1 61 2 ∧ m2.1 61 38 = m.1 61 3 ∧ m2.1 61 39 = m.1 61 4 ∧ ∀ i, i < 6 → m2.1 82 i = m.1 64 i := by
  obtain ⟨g, g1, g2⟩ := M_sav m'
  obtain ⟨m1, hm1⟩ : ∃ m1, m1 = mI (mI m' 61 (upd (upd (upd (m'.1 61) 37 (m'.1 61 2)) 38 (m'.1 61 3)) 39 (m'.1 61 4))) 82 g := ⟨_, rfl⟩
  have r : ∀ {k : Nat}, k ∉ [18, 36, 38, 40, 41, 42, 45, 74, 76, 77, 78, 79, 80, 81, 82, 37, 43, 46, 61] → m'.1 k = m.1 k := fun h => pj_rw e (scr_r h)
  have ea : pj (mI m' 61 (upd (upd (upd (m'.1 61) 37 (m'.1 61 2)) 38 (m'.1 61 3)) 39 (m'.1 61 4))) = pj m' := by
    have b1 : pj (mI m' 61 (upd (m'.1 61) 37 (m'.1 61 2))) = pj m' := pj_fld rfl
    have b2 : pj (mI (mI m' 61 (upd (m'.1 61) 37 (m'.1 61 2))) 61 (upd ((mI m' 61 (upd (m'.1 61) 37 (m'.1 61 2))).1 61) 38 (m'.1 61 3))) = _ := pj_fld rfl
    have b3 : pj (mI (mI (mI m' 61 (upd (m'.1 61) 37 (m'.1 61 2))) 61 (upd ((mI m' 61 (upd (m'.1 61) 37 (m'.1 61 2))).1 61) 38 (m'.1 61 3))) 61 (upd ((mI (mI m' 61 (upd (m'.1 61) 37 (m'.1 61 2))) 61 (upd ((mI m' 61 (upd (m'.1 61) 37 (m'.1 61 2))).1 61) 38 (m'.1 61 3))).1 61) 39 (m'.1 61 4))) = _ := pj_fld rfl
    have b4 := b3.trans (b2.trans b1)
    simp only [mI_mI, mI_s] at b4
    exact b4
  have e1 : pj m1 = pj m := by rw [hm1]; exact Eq.trans (pj_row (fun _ => rfl)) (Eq.trans ea e)
  have m61 : m1.1 61 = upd (upd (upd (m'.1 61) 37 (m'.1 61 2)) 38 (m'.1 61 3)) 39 (m'.1 61 4) := by rw [hm1, mI_n (by decide), mI_s]
  have m82 : m1.1 82 = g := by rw [hm1, mI_s]
  have r1 : ∀ {k : Nat}, k ∉ [18, 36, 38, 40, 41, 42, 45, 74, 76, 77, 78, 79, 80, 81, 82, 37, 43, 46, 61] → m1.1 k = m.1 k := fun h => pj_rw e1 (scr_r h)
  have hl := M_lay (m' := m1) hC hn (by rw [pj_at e1 rfl]; exact h0) (pj_at e1 rfl) (r1 (by decide)) (r1 (by decide)) (r1 (by decide))
  refine ⟨m1, _, by rw [hm1]; exact g2, hl, ?_, ?_, ?_, ?_, fun i hi => ?_⟩
  · have e0 : pj m1 = pj (mS m (m.1 61 2) (m.1 61 3) (m.1 61 4) (m.1 64)) := by rw [mS_id]; exact e1
    have b1 := pj_fld2 (k := 61) (j := 2) (x := nI a) e0
    rw [mS_2] at b1
    have b2 := pj_fld2 (k := 61) (j := 3) (x := nI (n + z - a)) b1
    rw [mS_3] at b2
    have b3 := pj_fld2 (k := 61) (j := 4) (x := 0) b2
    rw [mS_4] at b3
    simp only [mI_mI, mI_s] at b3
    exact b3
  · rw [mI_s, upd_n (by decide), upd_n (by decide), upd_n (by decide), m61, upd_n (by decide), upd_n (by decide), upd_s, pj_at e rfl]
  · rw [mI_s, upd_n (by decide), upd_n (by decide), upd_n (by decide), m61, upd_n (by decide), upd_s, pj_at e rfl]
  · rw [mI_s, upd_n (by decide), upd_n (by decide), upd_n (by decide), m61, upd_s, pj_at e rfl]
  · rw [mI_n (by decide), m82, g1 i hi, r (by decide)]
/-- whether all that is seen is so -/
def snR (P : Nat → Int32 → Int32 → Int32 → Int32) (o : Nat → Nat) (n : Nat) (X : Nat → Nat) (B : Nat → Bool) : Nat → Nat → Nat → Nat → Bool
  | 0, _, _, _ => true
  | q + 1, k, s, l => if n ≤ k ∨ s = 0 then false else if chN s l (P (o k) (nI s) (nI l) (nI k)).toNatClampNeg ≤ X k then (if B k = true then false else snR P o n X B q (k + 1) s (l - 1)) else (if B k = true then snR P o n X B q (k + 1) (s - 1) l else false)
/-- what is seen, as both hold it -/
def Seen (m : MI) (se : Nat) (X : Nat → Nat) (B : Nat → Bool) : Prop := se ≤ 6 ∧ m.1 1 10 = nI se ∧ m.1 61 41 = nI se ∧ ∀ i, i < 6 → X i ≤ 999999 ∧ m.1 13 i = nI (X i) ∧ m.1 83 i = nI (X i) ∧ m.1 14 i = b01 (B i) ∧ m.1 84 i = b01 (B i)
theorem seen_of {sh : Sh} {R : RR} {m : MI} (H : Rel sh R m) : ∃ se X B, Seen m se X B := by
  obtain ⟨⟨n, s, l, q, nn, se, bo, h1, h2, h3, h4, h5, h6, h7, h8, h9, h10, h11, h12, h13, h14, h15⟩, -⟩ := H
  refine ⟨se, fun i => (m.1 83 i).toNatClampNeg, fun i => decide (m.1 84 i = 1), h6.1, h6.2.1, h6.2.2, fun i hi => ?_⟩
  obtain ⟨x, hx, ex⟩ := h13.2 i hi
  have e1 : m.1 13 = m.1 83 := h13.1
  have e2 : m.1 14 = m.1 84 := h14.1
  have eb : m.1 84 i = b01 (decide (m.1 84 i = 1)) := by
    rcases h14.2 i hi with c | c
    · rw [c]; rfl
    · rw [c]; rfl
  refine ⟨?_, ?_, ?_, ?_, eb⟩
  · show (m.1 83 i).toNatClampNeg ≤ 999999
    rw [ex, nI_clamp (by omega)]; omega
  · show m.1 13 i = nI (m.1 83 i).toNatClampNeg
    rw [e1, ex, nI_clamp (by omega)]
  · show m.1 83 i = nI (m.1 83 i).toNatClampNeg
    rw [ex, nI_clamp (by omega)]
  · rw [e2]; exact eb
section SN
variable {sh : Sh} {R : RR} {m : MI} {hw a z n se : Nat} {cs : List Cla} {P : Nat → Int32 → Int32 → Int32 → Int32} {o : Nat → Nat} {X : Nat → Nat} {B : Nat → Bool}
/-- the class's chance of who draws at a place -/
theorem W_ask (N : Ngt sh R m hw a z cs P n o) {m' : MI} {s l v : Nat} (e : pj m' = pj m) (hs : s ≤ 100) (hl : l ≤ 100) (hv : v < n) : ∃ g, fW_chance sh R m' (nI (o v)) (nI v) (nI s) (nI l) = some (nI (chN s l (P (o v) (nI s) (nI l) (nI v)).toNatClampNeg), mI m' 18 g) := by
  obtain ⟨hF, hC, hP, hD, ⟨hn, h0, h0'⟩, o1, o2, o3, o4, o5, h34⟩ := N
  have ho := o1 v hv
  obtain ⟨x, yy, zz, rr, hx, hy, hz, hr, hp, dC, dM⟩ := hD.2 (o v) ho
  have r : ∀ {k : Nat}, k ∉ [18, 36, 38, 40, 41, 42, 45, 74, 76, 77, 78, 79, 80, 81, 82, 37, 43, 46, 61] → m'.1 k = m.1 k := fun h => pj_rw e (scr_r h)
  have dC' : DC m' m (o v) x (nI yy) zz (nI rr) := by
    obtain ⟨q1, q2, q3, q4, q5⟩ := dC
    exact ⟨fun k hk => r (by simp only [List.mem_cons, List.not_mem_nil, or_false]; omega), by rw [r (by decide)]; exact q2, by rw [r (by decide)]; exact q3, by rw [r (by decide)]; exact q4, by rw [r (by simp only [List.mem_cons, List.not_mem_nil, or_false]; omega)]; exact q5⟩
  obtain ⟨pn, hpn, hpe⟩ := pull_nat (cs := cs) hD.1 (j := o v) (x := x) (zz := zz) hy hr (nI s) (nI l) (nI v)
  obtain ⟨g, hg⟩ := W_chE hF (show o v < 6 by omega) hx hz hC.1 hC.2.1 hP dC' (s := s) (l := l) hs hl hpn hpe
  exact ⟨g, by rw [hg, hp, hpe, nI_clamp (by omega)]⟩
theorem sn_C (N : Ngt sh R m hw a z cs P n o) (hS : Seen m se X B) (u1 u2 : Int32) : ∀ (q k f s l : Nat) (m' : MI), k + q = se → q < f → s ≤ 100 → l ≤ 100 → pj m' = pj m → ∃ m'', pj m'' = pj m ∧ fW_isSeenBy_l8 sh R u1 u2 (fun m4 _ _ _ => some (1, m4)) f m' (nI s) (nI l) (nI k) = some (b01 (snR P o n X B q k s l), m'') := by
  obtain ⟨hse, hs1, hs2, hsx⟩ := hS
  have N0 := N
  obtain ⟨hF, hC, hP, hD, ⟨hn, h0, h0'⟩, o1, o2, o3, o4, o5, h34⟩ := N
  intro q
  induction q with
  | zero =>
    intro k f s l m' hk hf hs hl e
    obtain ⟨f', rfl, -⟩ := fu hf
    refine ⟨m', e, ?_⟩
    rw [fW_isSeenBy_l8, pj_at e rfl, hs1, if_pos (nI_le (by omega) (by omega))]
    rfl
  | succ q ih =>
    intro k f s l m' hk hf hs hl e
    obtain ⟨f', rfl, hf'⟩ := fu hf
    have r : ∀ {k : Nat}, k ∉ [18, 36, 38, 40, 41, 42, 45, 74, 76, 77, 78, 79, 80, 81, 82, 37, 43, 46, 61] → m'.1 k = m.1 k := fun h => pj_rw e (scr_r h)
    rw [fW_isSeenBy_l8, pj_at e rfl, hs1, if_neg (not_le_nI (by omega) (by omega)), pj_at e rfl, h0]
    unfold snR
    by_cases c1 : n ≤ k
    · refine ⟨m', e, ?_⟩
      rw [if_pos (nI_le c1 (by omega)), if_pos (Or.inl c1)]; rfl
    rw [if_neg (not_le_nI (by omega) (by omega))]
    by_cases c2 : s = 0
    · refine ⟨m', e, ?_⟩
      rw [if_pos (by rw [c2]; rfl), if_pos (Or.inr c2)]; rfl
    have sn : ¬ nI s = 0 := fun e => c2 ((nI_eq (b := 0) (by omega) (by omega)).mp e)
    rw [if_neg sn, if_neg (show ¬ (n ≤ k ∨ s = 0) by omega)]
    have ckk : ck (nI k) 6 = true := ck_nI (by omega) (by omega)
    have clk := cl_nI (show k < 100000 by omega)
    obtain ⟨x1, x2, x3, x4, x5⟩ := hsx k (by omega)
    obtain ⟨g, hg⟩ := W_ask N0 (s := s) (l := l) (v := k) e hs hl (by omega)
    have e12 : m'.1 12 k = nI (o k) := by rw [r (by decide), o5, o4 k (by omega)]
    have chle := chN_le s l (P (o k) (nI s) (nI l) (nI k)).toNatClampNeg
    have e13 : m'.1 13 k = nI (X k) := by rw [r (by decide)]; exact x2
    have e14 : (mI m' 18 g).1 14 k = b01 (B k) := by rw [mI_n (by decide), r (by decide)]; exact x4
    have eg : pj (mI m' 18 g) = pj m := Eq.trans (pj_row (fun _ => rfl)) e
    simp only [ckk, clk, if_true, e12, hg, Option.bind_some, e13, e14, lt]
    by_cases c : chN s l (P (o k) (nI s) (nI l) (nI k)).toNatClampNeg ≤ X k
    · rw [if_pos (nI_le c (by omega)), if_pos c]
      have l1 : 0 < l := by
        refine Nat.pos_of_ne_zero fun h => ?_
        have : chN s l (P (o k) (nI s) (nI l) (nI k)).toNatClampNeg = 1000000 := by unfold chN; rw [if_neg c2, if_pos h]
        omega
      cases hB : B k with
      | true => exact ⟨_, eg, by rw [if_pos (show b01 true = 1 from rfl), if_pos (show true = true from rfl)]; rfl⟩
      | false =>
        rw [if_neg (show ¬ b01 false = 1 by decide), if_neg (by decide)]
        obtain ⟨L, rfl⟩ : ∃ L, l = L + 1 := ⟨l - 1, by omega⟩
        rw [pk_m1, nI_1]
        exact ih (k + 1) f' s L _ (by omega) (hf' q rfl) hs (by omega) eg
    · rw [if_neg (by rw [nI_leI (by omega) (by omega)]; exact c), if_neg c]
      cases hB : B k with
      | true =>
        rw [if_pos (show b01 true = 1 from rfl), if_pos (show true = true from rfl)]
        obtain ⟨T, rfl⟩ : ∃ T, s = T + 1 := ⟨s - 1, by omega⟩
        rw [pk_m1, nI_1]
        exact ih (k + 1) f' T l _ (by omega) (hf' q rfl) (by omega) hl eg
      | false => exact ⟨_, eg, by rw [if_neg (show ¬ b01 false = 1 by decide), if_neg (by decide)]; rfl⟩
end SN
