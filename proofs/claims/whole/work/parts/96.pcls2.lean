/-! READING A HUT: the class, tests, factors, sums -/
set_option maxRecDepth 100000 in
theorem testT : ∀ l, l < 6 → ∀ c, c < 3 → ∀ n, n < 100 → ((((0 : Int32) ||| (nI l <<< ((3 : Int32) &&& 31))) ||| (nI c <<< ((6 : Int32) &&& 31))) ||| (nI n <<< ((8 : Int32) &&& 31))) = nI (l * 8 + c * 64 + n * 256) := by decide +kernel
set_option maxRecDepth 100000 in
theorem clauT : ∀ w, w < 2 → ∀ n, n < 100 → nI (4 + w) ||| (nI n <<< ((3 : Int32) &&& 31)) = nI (4 + w + 8 * n) := by decide +kernel
section PC
variable {m0 m : MI} {T : Nat → Nat} {len p : Nat} {Sg : List Int32}
def CR (m0 : MI) (Sg : List Int32) (r : Option (Int32 × MI)) (x : Res) : Prop := match x with
  | .inl q => ∃ m' Sg', r = some (0, m') ∧ CS m0 m' q Sg'
  | .inr (q, ts) => ∃ m', r = some (1, m') ∧ CS m0 m' q (Sg ++ ts.map cT)
theorem C_ix4 (hT : CT m0 T len) (h : CS m0 m p Sg) (hp : p ≤ len) : (p < len ∧ ∃ l m', ltP (T p) = some l ∧ fP_oneOf_1014 m = some (nI l, m') ∧ CS m0 m' (p + 1) Sg) ∨ ((p < len → ltP (T p) = none) ∧ fP_oneOf_1014 m = some (-1, m)) := by
  obtain ⟨b1, b2, b3⟩ := CS_at hT h hp
  unfold fP_oneOf_1014
  rw [if_pos b1, b2, b3]
  by_cases c : p < len
  · have hb := (hT.2.1 p c).1
    rw [if_pos c, if_neg (fun q => nI_pos (n := T p) (by omega) (by rw [q]; decide)), if_pos b1, ix_1014 (by omega)]
    have fin : ∀ l : Nat, l < 6 → (if nI l < 0 then some (nI l, m) else lm (mI m 43 (upd (m.1 43) 1 ((m.1 43 1) + 1))) fun m6 => some (nI l, m6)) = some (nI l, mI m 43 (upd (m.1 43) 1 (nI (p + 1)))) := fun l hl => by
      rw [if_neg (nI_pos (by omega))]
      simp only [lm, h.2.2.2.1, nI_1]
    by_cases c1 : 100 = T p
    · rw [if_pos c1]; exact Or.inl ⟨c, 0, _, by unfold ltP; rw [if_pos c1.symm], fin 0 (by omega), CS_mv h⟩
    by_cases c2 : 107 = T p
    · rw [if_neg c1, if_pos c2]; exact Or.inl ⟨c, 1, _, by unfold ltP; rw [if_neg (Ne.symm c1), if_pos c2.symm], fin 1 (by omega), CS_mv h⟩
    by_cases c3 : 110 = T p
    · rw [if_neg c1, if_neg c2, if_pos c3]; exact Or.inl ⟨c, 2, _, by unfold ltP; rw [if_neg (Ne.symm c1), if_neg (Ne.symm c2), if_pos c3.symm], fin 2 (by omega), CS_mv h⟩
    by_cases c4 : 115 = T p
    · rw [if_neg c1, if_neg c2, if_neg c3, if_pos c4]; exact Or.inl ⟨c, 3, _, by unfold ltP; rw [if_neg (Ne.symm c1), if_neg (Ne.symm c2), if_neg (Ne.symm c3), if_pos c4.symm], fin 3 (by omega), CS_mv h⟩
    by_cases c5 : 108 = T p
    · rw [if_neg c1, if_neg c2, if_neg c3, if_neg c4, if_pos c5]; exact Or.inl ⟨c, 4, _, by unfold ltP; rw [if_neg (Ne.symm c1), if_neg (Ne.symm c2), if_neg (Ne.symm c3), if_neg (Ne.symm c4), if_pos c5.symm], fin 4 (by omega), CS_mv h⟩
    by_cases c6 : 112 = T p
    · rw [if_neg c1, if_neg c2, if_neg c3, if_neg c4, if_neg c5, if_pos c6]; exact Or.inl ⟨c, 5, _, by unfold ltP; rw [if_neg (Ne.symm c1), if_neg (Ne.symm c2), if_neg (Ne.symm c3), if_neg (Ne.symm c4), if_neg (Ne.symm c5), if_pos c6.symm], fin 5 (by omega), CS_mv h⟩
    rw [if_neg c1, if_neg c2, if_neg c3, if_neg c4, if_neg c5, if_neg c6]
    exact Or.inr ⟨fun _ => by unfold ltP; rw [if_neg (Ne.symm c1), if_neg (Ne.symm c2), if_neg (Ne.symm c3), if_neg (Ne.symm c4), if_neg (Ne.symm c5), if_neg (Ne.symm c6)], by
      simp only [Option.bind_some]
      rw [if_pos (by decide)]⟩
  · rw [if_neg c, if_pos rfl]
    exact Or.inr ⟨fun h => absurd h c, rfl⟩
theorem C_ix5 (hT : CT m0 T len) (h : CS m0 m p Sg) (hp : p ≤ len) : (cmB T len p = true ∧ ∃ m', fP_oneOf_1015 m = some (nI (T p - 60), m') ∧ CS m0 m' (p + 1) Sg) ∨ (cmB T len p = false ∧ fP_oneOf_1015 m = some (-1, m)) := by
  obtain ⟨b1, b2, b3⟩ := CS_at hT h hp
  unfold fP_oneOf_1015
  rw [if_pos b1, b2, b3]
  by_cases c : p < len
  · have hb := (hT.2.1 p c).1
    rw [if_pos c, if_neg (fun q => nI_pos (n := T p) (by omega) (by rw [q]; decide)), if_pos b1, ix_1015 (by omega)]
    have fin : ∀ l : Nat, l < 6 → (if nI l < 0 then some (nI l, m) else lm (mI m 43 (upd (m.1 43) 1 ((m.1 43 1) + 1))) fun m6 => some (nI l, m6)) = some (nI l, mI m 43 (upd (m.1 43) 1 (nI (p + 1)))) := fun l hl => by
      rw [if_neg (nI_pos (by omega))]
      simp only [lm, h.2.2.2.1, nI_1]
    by_cases c1 : 60 = T p
    · rw [if_pos c1]; exact Or.inl ⟨by unfold cmB; simp [c, ← c1], _, by rw [← c1]; exact fin 0 (by omega), CS_mv h⟩
    by_cases c2 : 61 = T p
    · rw [if_neg c1, if_pos c2]; exact Or.inl ⟨by unfold cmB; simp [c, ← c2], _, by rw [← c2]; exact fin 1 (by omega), CS_mv h⟩
    by_cases c3 : 62 = T p
    · rw [if_neg c1, if_neg c2, if_pos c3]; exact Or.inl ⟨by unfold cmB; simp [c, ← c3], _, by rw [← c3]; exact fin 2 (by omega), CS_mv h⟩
    rw [if_neg c1, if_neg c2, if_neg c3]
    refine Or.inr ⟨?_, by
      simp only [Option.bind_some]
      rw [if_pos (by decide)]⟩
    unfold cmB
    simp only [c, decide_true, Bool.true_and, Bool.and_eq_false_iff, decide_eq_false_iff_not]
    omega
  · rw [if_neg c, if_pos rfl]
    exact Or.inr ⟨by unfold cmB; simp [c], rfl⟩
theorem C_ts (hT : CT m0 T len) (h : CS m0 m p Sg) (hp : p ≤ len) (hl : Sg.length ≤ p) : match tsP T len p with
    | .inl q => ∃ m', fP_readsTest m = some (0, m') ∧ CS m0 m' q Sg
    | .inr (q, t) => ∃ m', fP_readsTest m = some (1, m') ∧ CS m0 m' q (Sg ++ [cT t]) := by
  have hlen := hT.1
  unfold tsP fP_readsTest
  rcases C_ix4 hT h hp with ⟨c, l, m1, e1, e2, h1⟩ | ⟨c, e2⟩
  · rw [if_pos c, e1, e2]
    have l6 := lt_ok e1
    simp only [Option.bind_some, if_pos (nI_pos' (show l < 2 ^ 31 by omega))]
    rcases C_ix5 hT h1 c with ⟨d, m2, e3, h2⟩ | ⟨d, e3⟩
    · have d' := d
      unfold cmB at d'
      simp only [Bool.and_eq_true, decide_eq_true_eq] at d'
      rw [if_pos d, e3]
      simp only [Option.bind_some, if_pos (nI_pos' (show T (p + 1) - 60 < 2 ^ 31 by omega))]
      rcases C_nm hT h2 d'.1 with ⟨n1, n2⟩ | ⟨n, q, m3, n1, n2, h3⟩
      · rw [n1, n2]
        simp only [Option.bind_some, if_neg (show ¬ (0 : Int32) ≤ -1 by decide)]
        exact ⟨m2, rfl, h2⟩
      · have nb := nm_ok n1
        rw [n1, n2]
        simp only [Option.bind_some, if_pos (nI_pos' (show n < 2 ^ 31 by omega))]
        unfold fH_test
        simp only [Option.bind_some]
        rw [testT l l6 (T (p + 1) - 60) (by omega) n nb.1]
        obtain ⟨m4, k1, k2⟩ := C_kep h3 (by omega) (nI (l * 8 + (T (p + 1) - 60) * 64 + n * 256))
        rw [k1]
        exact ⟨m4, rfl, k2⟩
    · rw [if_neg (by rw [d]; decide), e3]
      simp only [Option.bind_some, if_neg (show ¬ (0 : Int32) ≤ -1 by decide)]
      exact ⟨m1, rfl, h1⟩
  · rw [e2]
    simp only [Option.bind_some, if_neg (show ¬ (0 : Int32) ≤ -1 by decide)]
    by_cases c0 : p < len
    · rw [if_pos c0, c c0]
      exact ⟨m, rfl, h⟩
    · rw [if_neg c0]
      exact ⟨m, rfl, h⟩
theorem C_l2 (hT : CT m0 T len) (u1 : Int32) (kc : MI → Int32 → Option (Int32 × MI)) : ∀ (g d p f : Nat) (m : MI), d + g = 4 → g < f → p ≤ len → CS m0 m p Sg → ∃ m', CS m0 m' (p + ntP T len g p) Sg ∧ fP_readsFactor_l2 u1 kc f m (nI d) = kc m' (nI (d + ntP T len g p)) := by
  intro g
  induction g with
  | zero =>
    intro d p f m hd hf hp h
    obtain ⟨f', rfl, -⟩ := fu hf
    refine ⟨m, h, ?_⟩
    rw [fP_readsFactor_l2, if_pos (show (4 : Int32) ≤ nI d from nI_le (a := 4) (by omega) (by omega))]
    rfl
  | succ g ih =>
    intro d p f m hd hf hp h
    obtain ⟨f', rfl, hf'⟩ := fu hf
    rw [fP_readsFactor_l2, if_neg (show ¬ (4 : Int32) ≤ nI d from not_le_nI (n := 4) (by omega) (by omega))]
    unfold ntP
    rcases C_rd hT h hp (c := 33) (by omega) with ⟨r1, m1, r2, h1⟩ | ⟨r1, r2⟩
    · obtain ⟨m2, a1, a2⟩ := ih (d + 1) (p + 1) f' m1 (by omega) (hf' g rfl) (rdB_t r1).1 h1
      refine ⟨m2, by rw [if_pos r1, show p + (ntP T len g (p + 1) + 1) = p + 1 + ntP T len g (p + 1) by omega]; exact a1, ?_⟩
      rw [show (33 : Int32) = nI 33 from rfl, r2, if_pos r1]
      simp only [Option.bind_some, if_neg (show ¬ (1 : Int32) = 0 by decide), lt, nI_1]
      rw [a2, show d + 1 + ntP T len g (p + 1) = d + (ntP T len g (p + 1) + 1) by omega]
    · refine ⟨m, by rw [r1, if_neg (by decide)]; exact h, ?_⟩
      rw [show (33 : Int32) = nI 33 from rfl, r2, r1, if_neg (by decide)]
      simp only [Option.bind_some, if_true]
      rfl
theorem C_l74 (u1 u2 : Int32) (kc : MI → Int32 → Option (Int32 × MI)) : ∀ (k f : Nat) (m : MI) (Sg : List Int32), k < f → Sg.length + k ≤ 100 → CS m0 m p Sg → ∃ m' w, CS m0 m' p (Sg ++ (List.replicate k nT).map cT) ∧ fP_readsFactor_l74 u1 u2 1 kc f m (nI k) = kc m' w := by
  intro k
  induction k with
  | zero =>
    intro f m Sg hf hl h
    obtain ⟨f', rfl, -⟩ := fu hf
    refine ⟨m, nI 0, by simpa using h, ?_⟩
    rw [fP_readsFactor_l74, if_neg (by decide), if_pos (by decide)]
  | succ k ih =>
    intro f m Sg hf hl h
    obtain ⟨f', rfl, hf'⟩ := fu hf
    obtain ⟨m1, a1, a2⟩ := C_kep h (by omega) 1
    obtain ⟨m2, w, b1, b2⟩ := ih f' m1 (Sg ++ [1]) (hf' k rfl) (by rw [List.length_append, List.length_singleton]; omega) a2
    refine ⟨m2, w, ?_, ?_⟩
    · rw [List.append_assoc] at b1
      exact b1
    · rw [fP_readsFactor_l74, if_neg (by decide), if_neg (nI_nle (by omega) (by omega)), a1]
      simp only [Option.bind_some, lt, pk_m1]
      exact b2
theorem C_l74bb (u1 u2 : Int32) (kc : MI → Int32 → Option (Int32 × MI)) : ∀ (k f : Nat) (m : MI) (Sg : List Int32), k < f → Sg.length + k ≤ 100 → CS m0 m p Sg → ∃ m' w, CS m0 m' p (Sg ++ (List.replicate k nT).map cT) ∧ fP_readsFactor_l74bb u1 u2 kc f m (nI k) = kc m' w := by
  intro k
  induction k with
  | zero =>
    intro f m Sg hf hl h
    obtain ⟨f', rfl, -⟩ := fu hf
    refine ⟨m, nI 0, by simpa using h, ?_⟩
    rw [fP_readsFactor_l74bb, if_pos (by decide)]
  | succ k ih =>
    intro f m Sg hf hl h
    obtain ⟨f', rfl, hf'⟩ := fu hf
    obtain ⟨m1, a1, a2⟩ := C_kep h (by omega) 1
    obtain ⟨m2, w, b1, b2⟩ := ih f' m1 (Sg ++ [1]) (hf' k rfl) (by rw [List.length_append, List.length_singleton]; omega) a2
    refine ⟨m2, w, ?_, ?_⟩
    · rw [List.append_assoc] at b1
      exact b1
    · rw [fP_readsFactor_l74bb, if_neg (nI_nle (by omega) (by omega)), a1]
      simp only [Option.bind_some, lt, pk_m1]
      exact b2
def RecOK (m0 : MI) (T : Nat → Nat) (len D : Nat) (rec : MI → Int32 → Option (Int32 × MI)) (E : Nat → Nat → Res) : Prop := (∀ d p, p ≤ len → okR len p 0 (E d p)) ∧ ∀ (d p : Nat) (m : MI) (Sg : List Int32), D ≤ d → d ≤ 4 → p ≤ len → Sg.length ≤ p → CS m0 m p Sg → CR m0 Sg (rec m (nI d)) (E d p)
theorem C_fc {rec : MI → Int32 → Option (Int32 × MI)} {E : Nat → Nat → Res} {D : Nat} (hT : CT m0 T len) (hR : RecOK m0 T len D rec E) {d : Nat} (hD : D ≤ d + 1) (hd : d ≤ 4) (hp : p ≤ len) (hl : Sg.length ≤ p) (h : CS m0 m p Sg) : CR m0 Sg (fP_readsFactor rec m (nI d)) (fcP T len E d p) := by
  obtain ⟨F, hF1⟩ : ∃ F : Nat, F = 1000 := ⟨_, rfl⟩
  have hlen := hT.1
  obtain ⟨k1, k2, k3, k4⟩ := nt_ok (T := T) (len := len) (4 - d) p hp
  unfold fP_readsFactor
  rw [← hF1]
  obtain ⟨m1, h1, e1⟩ := C_l2 (Sg := Sg) hT (nI d) (fun m2 z1 =>
      if 4 ≤ z1 then
        (fP_readsTest m2).bind fun r4 =>
        lt (z1 - nI d) fun x5 =>
        fP_readsFactor_l74 (nI d) z1 r4.1
          (fun m7 z6 =>
            if zb r4.1 = true then some (r4.1, m7) else none
            )
          F r4.2 x5
      else
        (fP_reads m2 40).bind fun r9 =>
        if r9.1 = 0 then
          (fP_readsTest r9.2).bind fun r11 =>
          lt (z1 - nI d) fun x12 =>
          fP_readsFactor_l74 (nI d) z1 r11.1
            (fun m14 z13 =>
              if zb r11.1 = true then some (r11.1, m14) else none
              )
            F r11.2 x12
        else
          (rec r9.2 (z1 + 1)).bind fun r16 =>
          if r16.1 = 0 then
            lt (z1 - nI d) fun x18 =>
            fP_readsFactor_l74b (nI d) z1
              (fun m20 z19 =>
                some (0, m20)
                )
              F r16.2 x18
          else
            (fP_reads r16.2 41).bind fun r21 =>
            if r21.1 = 0 then
              lt (z1 - nI d) fun x23 =>
              fP_readsFactor_l74b (nI d) z1
                (fun m25 z24 =>
                  some (0, m25)
                  )
                F r21.2 x23
            else
              lt (z1 - nI d) fun x26 =>
              fP_readsFactor_l74bb (nI d) z1
                (fun m28 z27 =>
                  some (1, m28)
                  )
                F r21.2 x26) (4 - d) d p F m (by omega) (by omega) hp h
  rw [e1]
  have ek : nI (d + ntP T len (4 - d) p) - nI d = nI (ntP T len (4 - d) p) := by rw [pk_sub (by omega)]; congr 1; omega
  -- a test behind the nots
  have tst : ¬ (d + ntP T len (4 - d) p < 4 ∧ rdB T len (p + ntP T len (4 - d) p) 40 = true) → CR m0 Sg ((fP_readsTest m1).bind fun r4 => lt (nI (d + ntP T len (4 - d) p) - nI d) fun x5 => fP_readsFactor_l74 (nI d) (nI (d + ntP T len (4 - d) p)) r4.1 (fun m7 z6 => if zb r4.1 = true then some (r4.1, m7) else none) F r4.2 x5) (fcP T len E d p) := fun c => by
    unfold fcP
    rw [if_neg c, ek]
    have ht := C_ts hT h1 k2 (by omega)
    cases hts : tsP T len (p + ntP T len (4 - d) p) with
    | inl q =>
      rw [hts] at ht
      obtain ⟨m2, t1, t2⟩ := ht
      rw [t1]
      obtain ⟨f', hf⟩ : ∃ f', F = f' + 1 := ⟨F - 1, by omega⟩
      simp only [Option.bind_some, lt]
      rw [hf, fP_readsFactor_l74, if_pos rfl, if_pos (by decide)]
      exact ⟨m2, Sg, rfl, t2⟩
    | inr r =>
      obtain ⟨q, t⟩ := r
      rw [hts] at ht
      obtain ⟨m2, t1, t2⟩ := ht
      have tk := ts_ok hts
      obtain ⟨m3, w, a1, a2⟩ := C_l74 (nI d) (nI (d + ntP T len (4 - d) p)) (fun m7 z6 => if zb 1 = true then some (1, m7) else none) (ntP T len (4 - d) p) F m2 (Sg ++ [cT t]) (by omega) (by rw [List.length_append, List.length_singleton]; omega) t2
      rw [t1]
      simp only [Option.bind_some, lt]
      rw [a2, if_pos (by decide)]
      refine ⟨m3, rfl, ?_⟩
      rw [List.map_append, ← List.append_assoc]
      exact a1
  by_cases c4 : d + ntP T len (4 - d) p < 4
  · rw [if_neg (show ¬ (4 : Int32) ≤ nI (d + ntP T len (4 - d) p) from not_le_nI (n := 4) c4 (by omega))]
    rcases C_rd hT h1 k2 (c := 40) (by omega) with ⟨r1, m2, r2, h2⟩ | ⟨r1, r2⟩
    · have hr := rdB_t r1
      rw [show (40 : Int32) = nI 40 from rfl, r2]
      simp only [Option.bind_some, if_neg (show ¬ (1 : Int32) = 0 by decide), nI_1]
      have hE := hR.2 (d + ntP T len (4 - d) p + 1) (p + ntP T len (4 - d) p + 1) m2 Sg (by omega) (by omega) hr.1 (by omega) h2
      have hO := hR.1 (d + ntP T len (4 - d) p + 1) (p + ntP T len (4 - d) p + 1) hr.1
      unfold fcP
      rw [if_pos ⟨c4, r1⟩]
      cases he : E (d + ntP T len (4 - d) p + 1) (p + ntP T len (4 - d) p + 1) with
      | inl q =>
        rw [he] at hE
        obtain ⟨m3, S3, s1, s2⟩ := hE
        rw [s1]
        obtain ⟨f', hf⟩ : ∃ f', F = f' + 1 := ⟨F - 1, by omega⟩
        simp only [Option.bind_some, if_true, lt]
        rw [hf, fP_readsFactor_l74b]
        exact ⟨m3, S3, rfl, s2⟩
      | inr r =>
        obtain ⟨q, ts⟩ := r
        rw [he] at hE hO
        obtain ⟨m3, s1, s2⟩ := hE
        unfold okR at hO
        simp only [] at hO ⊢
        rw [s1]
        simp only [Option.bind_some, if_neg (show ¬ (1 : Int32) = 0 by decide)]
        rcases C_rd hT s2 hO.2.1 (c := 41) (by omega) with ⟨w1, m4, w2, h4⟩ | ⟨w1, w2⟩
        · have hw := rdB_t w1
          obtain ⟨m5, w, a1, a2⟩ := C_l74bb (nI d) (nI (d + ntP T len (4 - d) p)) (fun m28 z27 => some (1, m28)) (ntP T len (4 - d) p) F m4 (Sg ++ ts.map cT) (by omega) (by rw [List.length_append, List.length_map]; omega) h4
          rw [show (41 : Int32) = nI 41 from rfl, w2, if_pos w1]
          simp only [Option.bind_some, if_neg (show ¬ (1 : Int32) = 0 by decide), lt, ek]
          rw [a2]
          refine ⟨m5, rfl, ?_⟩
          rw [List.map_append, ← List.append_assoc]
          exact a1
        · rw [show (41 : Int32) = nI 41 from rfl, w2, if_neg (by rw [w1]; decide)]
          obtain ⟨f', hf⟩ : ∃ f', F = f' + 1 := ⟨F - 1, by omega⟩
          simp only [Option.bind_some, if_true, lt]
          rw [hf, fP_readsFactor_l74b]
          exact ⟨m3, _, rfl, s2⟩
    · rw [show (40 : Int32) = nI 40 from rfl, r2]
      simp only [Option.bind_some, if_true]
      exact tst (fun q => by rw [r1] at q; exact absurd q.2 (by decide))
  · rw [if_pos (show (4 : Int32) ≤ nI (d + ntP T len (4 - d) p) from nI_le (a := 4) (by omega) (by omega))]
    exact tst (fun q => c4 q.1)
end PC
