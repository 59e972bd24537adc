/-! THE IMAGE: become, both ways; the reference's copies -/
def cpf (n : Nat) (f g : Nat → Int32) : Nat → Int32 := fun i => if i < n then f i else g i
theorem cpy_cpf {f g : Nat → Int32} {n : Int32} {N : Nat} (hn : n.toNatClampNeg = N) : va_cpy f g (0 : Int32).toNatClampNeg (0 : Int32).toNatClampNeg n.toNatClampNeg = cpf N f g := by
  funext i
  rw [hn, show (0 : Int32).toNatClampNeg = 0 from rfl]
  unfold cpf
  by_cases h : i < N
  · rw [pk_cpy_in (Nat.zero_le _) (by omega), if_pos h, Nat.zero_add, Nat.sub_zero]
  · rw [pk_cpy_out (by omega), if_neg h]
set_option maxRecDepth 100000 in
theorem tb_rows : ∀ k, k < 6 → (tbR 11 k = some (5 + k) ∧ tbR 29 k = some (23 + k)) ∧ base[5 + k]? = some (0, 4) ∧ base[23 + k]? = some (0, 4) := by decide +kernel
set_option maxRecDepth 100000 in
theorem cpk4 : cpk 0 0 4 4 4 = true := by decide +kernel

theorem bc_l19 {sh : Sh} {R : RR} (hF : Fx sh R) (kc : MI → Int32 → Option MI) : ∀ (q k f : Nat) (m : MI), k + q = 6 → q < f → ∃ m' : MI, m'.2 = m.2 ∧ (∀ j, ¬ (23 + k ≤ j ∧ j ≤ 28) → m'.1 j = m.1 j) ∧ (∀ d, k ≤ d → d < 6 → m'.1 (23 + d) = cpf 4 (m.1 (5 + d)) (m.1 (23 + d))) ∧ fW_become_19_l55 sh R kc f m (nI k) = kc m' (nI 6) := by
  intro q
  induction q with
  | zero =>
    intro k f m hk hf
    obtain ⟨f', rfl, -⟩ := fu hf
    refine ⟨m, rfl, fun _ _ => rfl, fun d _ _ => by omega, ?_⟩
    rw [fW_become_19_l55, if_pos (show (6 : Int32) ≤ nI k from nI_le (a := 6) (by omega) (by omega)), show k = 6 by omega]
  | succ q ih =>
    intro k f m hk hf
    obtain ⟨f', rfl, hf'⟩ := fu hf
    obtain ⟨m', a1, a2, a3, a4⟩ := ih (k + 1) f' (mI m (23 + k) (cpf 4 (m.1 (5 + k)) (m.1 (23 + k)))) (by omega) (hf' q rfl)
    obtain ⟨⟨t1, t2⟩, t3, t4⟩ := tb_rows k (by omega)
    have r1 : R 11 k = some (5 + k) := hF.2 _ _ _ t1
    have r2 : R 29 k = some (23 + k) := hF.2 _ _ _ t2
    have s1 : sh[5 + k]? = some (0, 4) := hF.1 _ _ t3
    have s2 : sh[23 + k]? = some (0, 4) := hF.1 _ _ t4
    refine ⟨m', a1, fun j hj => ?_, fun d h1 h2 => ?_, ?_⟩
    · rw [a2 j (by omega), mI_n (by omega)]
    · by_cases e : d = k
      · subst e; rw [a2 _ (by omega), mI_s]
      · rw [a3 d (by omega) h2, mI_n (by omega), mI_n (by omega)]
    · rw [fW_become_19_l55, if_neg (show ¬ (6 : Int32) ≤ nI k from not_le_nI (n := 6) (by omega) (by omega))]
      simp only [ck_nI (show k < 6 by omega) (show 6 ≤ 100000 by omega), cl_nI (show k < 100000 by omega), if_true, r1, r2, mq, kA_of s1, kA_of s2, lenA_of s1, lenA_of s2, cpk4, lm, lt, nI_1]
      rw [cpy_cpf (n := 4) (N := 4) rfl, a4]
/-- winter 19 becomes as winter 1 -/
theorem bc_19 {sh : Sh} {R : RR} (hF : Fx sh R) (m : MI) {hu : Nat} (h15 : R 1 15 = some hu) : ∃ m' : MI, fW_become_19 sh R m = some m' ∧ m'.2 = m.2 ∧ (∀ k, ¬ (19 ≤ k ∧ k ≤ 33) → m'.1 k = m.1 k) ∧ (m'.1 19 0 = m.1 1 0 ∧ m'.1 19 6 = m.1 1 6 ∧ m'.1 19 7 = m.1 1 7 ∧ m'.1 19 8 = m.1 1 8 ∧ m'.1 19 9 = m.1 1 9 ∧ m'.1 19 10 = m.1 1 10 ∧ m'.1 19 13 = m.1 1 13) ∧
    (m'.1 20 = cpf 6 (m.1 2) (m.1 20) ∧ m'.1 21 = cpf 6 (m.1 3) (m.1 21) ∧ m'.1 22 = cpf 6 (m.1 4) (m.1 22) ∧ m'.1 30 = cpf 6 (m.1 12) (m.1 30) ∧ m'.1 31 = cpf 6 (m.1 13) (m.1 31) ∧ m'.1 32 = cpf 6 (m.1 14) (m.1 32) ∧ m'.1 33 = cpf 8 (m.1 15) (m.1 33)) ∧
    ∀ d, d < 6 → m'.1 (23 + d) = cpf 4 (m.1 (5 + d)) (m.1 (23 + d)) := by
  obtain ⟨F, hF1⟩ : ∃ F : Nat, F = 1000 := ⟨_, rfl⟩
  obtain ⟨mA, hmA⟩ : ∃ mA, mA = mI (mI (mI (mI m 19 (upd (m.1 19) 0 (m.1 1 0))) 20 (cpf 6 (m.1 2) (m.1 20))) 21 (cpf 6 (m.1 3) (m.1 21))) 22 (cpf 6 (m.1 4) (m.1 22)) := ⟨_, rfl⟩
  obtain ⟨m1, a1, a2, a3, a4⟩ := bc_l19 (R := R) hF (fun m6 z5 =>
      lm (mI m6 30 (cpf 6 (m6.1 12) (m6.1 30))) fun m7 =>
      lm (mI m7 19 (upd (m7.1 19) 6 (m7.1 1 6))) fun m8 =>
      lm (mI m8 19 (upd (m8.1 19) 7 (m8.1 1 7))) fun m9 =>
      lm (mI m9 19 (upd (m9.1 19) 8 (m9.1 1 8))) fun m10 =>
      lm (mI m10 19 (upd (m10.1 19) 9 (m10.1 1 9))) fun m11 =>
      lm (mI m11 19 (upd (m11.1 19) 10 (m11.1 1 10))) fun m12 =>
      lm (mI m12 31 (cpf 6 (m12.1 13) (m12.1 31))) fun m13 =>
      lm (mI m13 32 (cpf 6 (m13.1 14) (m13.1 32))) fun m14 =>
      lm (mI m14 19 (upd (m14.1 19) 13 (m14.1 1 13))) fun m15 =>
      lm (mI m15 33 (cpf 8 (m15.1 15) (m15.1 33))) fun m16 =>
      mq (R 1 15) fun q18 =>
      some m16) 6 0 F mA (by omega) (by omega)
  have b : ∀ j, ¬ (23 ≤ j ∧ j ≤ 28) → m1.1 j = mA.1 j := fun j hj => a2 j (by omega)
  refine ⟨mI (mI (mI (mI (mI m1 30 (cpf 6 (m1.1 12) (m1.1 30))) 19 (upd (upd (upd (upd (upd (upd (m1.1 19) 6 (m1.1 1 6)) 7 (m1.1 1 7)) 8 (m1.1 1 8)) 9 (m1.1 1 9)) 10 (m1.1 1 10)) 13 (m1.1 1 13))) 31 (cpf 6 (m1.1 13) (m1.1 31))) 32 (cpf 6 (m1.1 14) (m1.1 32))) 33 (cpf 8 (m1.1 15) (m1.1 33)), ?_, ?_, fun k hk => ?_, ⟨?_, ?_, ?_, ?_, ?_, ?_, ?_⟩, ⟨?_, ?_, ?_, ?_, ?_, ?_, ?_⟩, fun d hd => ?_⟩
  · unfold fW_become_19
    rw [← hF1]
    simp only [lm, cpy_cpf (n := 6) (N := 6) rfl, cpy_cpf (n := 8) (N := 8) rfl] at a4 ⊢
    refine Eq.trans (show _ = fW_become_19_l55 sh R _ F mA 0 by rw [hmA]; rfl) ?_
    refine Eq.trans a4 ?_
    rw [h15]
    simp only [mq]
    congr 1
    refine Prod.ext (funext fun k => ?_) rfl
    by_cases e0 : k = 19
    · subst e0; rfl
    by_cases e1 : k = 30
    · subst e1; rfl
    by_cases e2 : k = 31
    · subst e2; rfl
    by_cases e3 : k = 32
    · subst e3; rfl
    by_cases e4 : k = 33
    · subst e4; rfl
    simp only [mI_n e0, mI_n e1, mI_n e2, mI_n e3, mI_n e4]
  · show m1.2 = m.2
    rw [a1, hmA]; rfl
  · rw [mI_n (by omega), mI_n (by omega), mI_n (by omega), mI_n (by omega), mI_n (by omega), b k (by omega), hmA, mI_n (by omega), mI_n (by omega), mI_n (by omega), mI_n (by omega)]
  · show m1.1 19 0 = _
    rw [b 19 (by omega), hmA]; rfl
  · show m1.1 1 6 = _
    rw [b 1 (by omega), hmA]; rfl
  · show m1.1 1 7 = _
    rw [b 1 (by omega), hmA]; rfl
  · show m1.1 1 8 = _
    rw [b 1 (by omega), hmA]; rfl
  · show m1.1 1 9 = _
    rw [b 1 (by omega), hmA]; rfl
  · show m1.1 1 10 = _
    rw [b 1 (by omega), hmA]; rfl
  · show m1.1 1 13 = _
    rw [b 1 (by omega), hmA]; rfl
  · show m1.1 20 = _
    rw [b 20 (by omega), hmA]; rfl
  · show m1.1 21 = _
    rw [b 21 (by omega), hmA]; rfl
  · show m1.1 22 = _
    rw [b 22 (by omega), hmA]; rfl
  · show cpf 6 (m1.1 12) (m1.1 30) = _
    rw [b 12 (by omega), b 30 (by omega), hmA]; rfl
  · show cpf 6 (m1.1 13) (m1.1 31) = _
    rw [b 13 (by omega), b 31 (by omega), hmA]; rfl
  · show cpf 6 (m1.1 14) (m1.1 32) = _
    rw [b 14 (by omega), b 32 (by omega), hmA]; rfl
  · show cpf 8 (m1.1 15) (m1.1 33) = _
    rw [b 15 (by omega), b 33 (by omega), hmA]; rfl
  · rw [mI_n (by omega), mI_n (by omega), mI_n (by omega), mI_n (by omega), mI_n (by omega), a3 d (by omega) hd, hmA, mI_n (by omega), mI_n (by omega), mI_n (by omega), mI_n (by omega), mI_n (by omega), mI_n (by omega), mI_n (by omega), mI_n (by omega)]

theorem bc_l1 {sh : Sh} {R : RR} (hF : Fx sh R) (kc : MI → Int32 → Option MI) : ∀ (q k f : Nat) (m : MI), k + q = 6 → q < f → ∃ m' : MI, m'.2 = m.2 ∧ (∀ j, ¬ (5 + k ≤ j ∧ j ≤ 10) → m'.1 j = m.1 j) ∧ (∀ d, k ≤ d → d < 6 → m'.1 (5 + d) = cpf 4 (m.1 (23 + d)) (m.1 (5 + d))) ∧ fW_become_1_l55 sh R kc f m (nI k) = kc m' (nI 6) := by
  intro q
  induction q with
  | zero =>
    intro k f m hk hf
    obtain ⟨f', rfl, -⟩ := fu hf
    refine ⟨m, rfl, fun _ _ => rfl, fun d _ _ => by omega, ?_⟩
    rw [fW_become_1_l55, if_pos (show (6 : Int32) ≤ nI k from nI_le (a := 6) (by omega) (by omega)), show k = 6 by omega]
  | succ q ih =>
    intro k f m hk hf
    obtain ⟨f', rfl, hf'⟩ := fu hf
    obtain ⟨m', a1, a2, a3, a4⟩ := ih (k + 1) f' (mI m (5 + k) (cpf 4 (m.1 (23 + k)) (m.1 (5 + k)))) (by omega) (hf' q rfl)
    obtain ⟨⟨t1, t2⟩, t3, t4⟩ := tb_rows k (by omega)
    have r1 : R 11 k = some (5 + k) := hF.2 _ _ _ t1
    have r2 : R 29 k = some (23 + k) := hF.2 _ _ _ t2
    have s1 : sh[5 + k]? = some (0, 4) := hF.1 _ _ t3
    have s2 : sh[23 + k]? = some (0, 4) := hF.1 _ _ t4
    refine ⟨m', a1, fun j hj => ?_, fun d h1 h2 => ?_, ?_⟩
    · rw [a2 j (by omega), mI_n (by omega)]
    · by_cases e : d = k
      · subst e; rw [a2 _ (by omega), mI_s]
      · rw [a3 d (by omega) h2, mI_n (by omega), mI_n (by omega)]
    · rw [fW_become_1_l55, if_neg (show ¬ (6 : Int32) ≤ nI k from not_le_nI (n := 6) (by omega) (by omega))]
      simp only [ck_nI (show k < 6 by omega) (show 6 ≤ 100000 by omega), cl_nI (show k < 100000 by omega), if_true, r1, r2, mq, kA_of s1, kA_of s2, lenA_of s1, lenA_of s2, cpk4, lm, lt, nI_1]
      rw [cpy_cpf (n := 4) (N := 4) rfl, a4]
/-- winter 1 becomes as winter 19 -/
theorem bc_1 {sh : Sh} {R : RR} (hF : Fx sh R) (m : MI) {hu : Nat} (h15 : R 19 15 = some hu) : ∃ m' : MI, fW_become_1 sh R m = some m' ∧ m'.2 = m.2 ∧ (∀ k, ¬ (1 ≤ k ∧ k ≤ 15) → m'.1 k = m.1 k) ∧ (m'.1 1 0 = m.1 19 0 ∧ m'.1 1 6 = m.1 19 6 ∧ m'.1 1 7 = m.1 19 7 ∧ m'.1 1 8 = m.1 19 8 ∧ m'.1 1 9 = m.1 19 9 ∧ m'.1 1 10 = m.1 19 10 ∧ m'.1 1 13 = m.1 19 13) ∧
    (m'.1 2 = cpf 6 (m.1 20) (m.1 2) ∧ m'.1 3 = cpf 6 (m.1 21) (m.1 3) ∧ m'.1 4 = cpf 6 (m.1 22) (m.1 4) ∧ m'.1 12 = cpf 6 (m.1 30) (m.1 12) ∧ m'.1 13 = cpf 6 (m.1 31) (m.1 13) ∧ m'.1 14 = cpf 6 (m.1 32) (m.1 14) ∧ m'.1 15 = cpf 8 (m.1 33) (m.1 15)) ∧
    ∀ d, d < 6 → m'.1 (5 + d) = cpf 4 (m.1 (23 + d)) (m.1 (5 + d)) := by
  obtain ⟨F, hF1⟩ : ∃ F : Nat, F = 1000 := ⟨_, rfl⟩
  obtain ⟨mA, hmA⟩ : ∃ mA, mA = mI (mI (mI (mI m 1 (upd (m.1 1) 0 (m.1 19 0))) 2 (cpf 6 (m.1 20) (m.1 2))) 3 (cpf 6 (m.1 21) (m.1 3))) 4 (cpf 6 (m.1 22) (m.1 4)) := ⟨_, rfl⟩
  obtain ⟨m1, a1, a2, a3, a4⟩ := bc_l1 (R := R) hF (fun m6 z5 =>
      lm (mI m6 12 (cpf 6 (m6.1 30) (m6.1 12))) fun m7 =>
      lm (mI m7 1 (upd (m7.1 1) 6 (m7.1 19 6))) fun m8 =>
      lm (mI m8 1 (upd (m8.1 1) 7 (m8.1 19 7))) fun m9 =>
      lm (mI m9 1 (upd (m9.1 1) 8 (m9.1 19 8))) fun m10 =>
      lm (mI m10 1 (upd (m10.1 1) 9 (m10.1 19 9))) fun m11 =>
      lm (mI m11 1 (upd (m11.1 1) 10 (m11.1 19 10))) fun m12 =>
      lm (mI m12 13 (cpf 6 (m12.1 31) (m12.1 13))) fun m13 =>
      lm (mI m13 14 (cpf 6 (m13.1 32) (m13.1 14))) fun m14 =>
      lm (mI m14 1 (upd (m14.1 1) 13 (m14.1 19 13))) fun m15 =>
      lm (mI m15 15 (cpf 8 (m15.1 33) (m15.1 15))) fun m16 =>
      mq (R 19 15) fun q18 =>
      some m16) 6 0 F mA (by omega) (by omega)
  have b : ∀ j, ¬ (5 ≤ j ∧ j ≤ 10) → m1.1 j = mA.1 j := fun j hj => a2 j (by omega)
  refine ⟨mI (mI (mI (mI (mI m1 12 (cpf 6 (m1.1 30) (m1.1 12))) 1 (upd (upd (upd (upd (upd (upd (m1.1 1) 6 (m1.1 19 6)) 7 (m1.1 19 7)) 8 (m1.1 19 8)) 9 (m1.1 19 9)) 10 (m1.1 19 10)) 13 (m1.1 19 13))) 13 (cpf 6 (m1.1 31) (m1.1 13))) 14 (cpf 6 (m1.1 32) (m1.1 14))) 15 (cpf 8 (m1.1 33) (m1.1 15)), ?_, ?_, fun k hk => ?_, ⟨?_, ?_, ?_, ?_, ?_, ?_, ?_⟩, ⟨?_, ?_, ?_, ?_, ?_, ?_, ?_⟩, fun d hd => ?_⟩
  · unfold fW_become_1
    rw [← hF1]
    simp only [lm, cpy_cpf (n := 6) (N := 6) rfl, cpy_cpf (n := 8) (N := 8) rfl] at a4 ⊢
    refine Eq.trans (show _ = fW_become_1_l55 sh R _ F mA 0 by rw [hmA]; rfl) ?_
    refine Eq.trans a4 ?_
    rw [h15]
    simp only [mq]
    congr 1
    refine Prod.ext (funext fun k => ?_) rfl
    by_cases e0 : k = 1
    · subst e0; rfl
    by_cases e1 : k = 12
    · subst e1; rfl
    by_cases e2 : k = 13
    · subst e2; rfl
    by_cases e3 : k = 14
    · subst e3; rfl
    by_cases e4 : k = 15
    · subst e4; rfl
    simp only [mI_n e0, mI_n e1, mI_n e2, mI_n e3, mI_n e4]
  · show m1.2 = m.2
    rw [a1, hmA]; rfl
  · rw [mI_n (by omega), mI_n (by omega), mI_n (by omega), mI_n (by omega), mI_n (by omega), b k (by omega), hmA, mI_n (by omega), mI_n (by omega), mI_n (by omega), mI_n (by omega)]
  · show m1.1 1 0 = _
    rw [b 1 (by omega), hmA]; rfl
  · show m1.1 19 6 = _
    rw [b 19 (by omega), hmA]; rfl
  · show m1.1 19 7 = _
    rw [b 19 (by omega), hmA]; rfl
  · show m1.1 19 8 = _
    rw [b 19 (by omega), hmA]; rfl
  · show m1.1 19 9 = _
    rw [b 19 (by omega), hmA]; rfl
  · show m1.1 19 10 = _
    rw [b 19 (by omega), hmA]; rfl
  · show m1.1 19 13 = _
    rw [b 19 (by omega), hmA]; rfl
  · show m1.1 2 = _
    rw [b 2 (by omega), hmA]; rfl
  · show m1.1 3 = _
    rw [b 3 (by omega), hmA]; rfl
  · show m1.1 4 = _
    rw [b 4 (by omega), hmA]; rfl
  · show cpf 6 (m1.1 30) (m1.1 12) = _
    rw [b 30 (by omega), b 12 (by omega), hmA]; rfl
  · show cpf 6 (m1.1 31) (m1.1 13) = _
    rw [b 31 (by omega), b 13 (by omega), hmA]; rfl
  · show cpf 6 (m1.1 32) (m1.1 14) = _
    rw [b 32 (by omega), b 14 (by omega), hmA]; rfl
  · show cpf 8 (m1.1 33) (m1.1 15) = _
    rw [b 33 (by omega), b 15 (by omega), hmA]; rfl
  · rw [mI_n (by omega), mI_n (by omega), mI_n (by omega), mI_n (by omega), mI_n (by omega), a3 d (by omega) hd, hmA, mI_n (by omega), mI_n (by omega), mI_n (by omega), mI_n (by omega), mI_n (by omega), mI_n (by omega), mI_n (by omega), mI_n (by omega)]

/-- some rows copied from k on, up to n -/
def CpS (L : List (Nat × Nat)) (n k : Nat) (m m' : MI) : Prop := m'.2 = m.2 ∧ (∀ j, (∀ p ∈ L, j ≠ p.1) → m'.1 j = m.1 j) ∧ ∀ p ∈ L, ∀ i, m'.1 p.1 i = if k ≤ i ∧ i < n then m.1 p.2 i else m.1 p.1 i
theorem CpS_0 {L : List (Nat × Nat)} {n : Nat} {m : MI} : CpS L n n m m := ⟨rfl, fun _ _ => rfl, fun p _ i => by rw [if_neg (by omega)]⟩
theorem CpS_s {L : List (Nat × Nat)} {n k : Nat} {m m1 m' : MI} (hd : ∀ p ∈ L, ∀ p' ∈ L, p.2 ≠ p'.1) (h1 : m1.2 = m.2) (h2 : ∀ j, (∀ p ∈ L, j ≠ p.1) → m1.1 j = m.1 j) (h3 : ∀ p ∈ L, m1.1 p.1 = upd (m.1 p.1) k (m.1 p.2 k)) (hk : k < n) (H : CpS L n (k + 1) m1 m') : CpS L n k m m' := by
  obtain ⟨a1, a2, a3⟩ := H
  refine ⟨a1.trans h1, fun j hj => (a2 j hj).trans (h2 j hj), fun p hp i => ?_⟩
  rw [a3 p hp i, h3 p hp, h2 p.2 (fun p' hp' => hd p hp p' hp')]
  by_cases e : i = k
  · subst e
    rw [if_neg (by omega), upd_s, if_pos ⟨Nat.le_refl _, hk⟩]
  · rw [upd_n e]
    by_cases c : k + 1 ≤ i ∧ i < n
    · rw [if_pos c, if_pos (by omega)]
    · rw [if_neg c, if_neg (by omega)]
theorem nar01 {x : Int32} (h : x = 0 ∨ x = 1) : vp_nar .boolean x = x := by rcases h with rfl | rfl <;> rfl

theorem image_l1 (kc : MI → Int32 → Option (Int32 × MI)) : ∀ (q k f : Nat) (m : MI), k + q = 6 → q < f → (∀ i, i < 6 → m.1 84 i = 0 ∨ m.1 84 i = 1) → ∃ m', CpS [(86, 62), (87, 63), (88, 64), (89, 66), (91, 83), (93, 84)] 6 k m m' ∧ fM_image_l71 kc f m (nI k) = kc m' (nI 6) := by
  intro q
  induction q with
  | zero =>
    intro k f m hk hf hb
    obtain ⟨f', rfl, -⟩ := fu hf
    obtain rfl : k = 6 := by omega
    refine ⟨m, CpS_0, ?_⟩
    rw [fM_image_l71, if_pos (show (6 : Int32) ≤ nI 6 from by decide)]
  | succ q ih =>
    intro k f m hk hf hb
    obtain ⟨f', rfl, hf'⟩ := fu hf
    obtain ⟨m1, hm1⟩ : ∃ m1, m1 = mI (mI (mI (mI (mI (mI m 86 (upd (m.1 86) k (m.1 62 k))) 87 (upd (m.1 87) k (m.1 63 k))) 88 (upd (m.1 88) k (m.1 64 k))) 89 (upd (m.1 89) k (m.1 66 k))) 91 (upd (m.1 91) k (m.1 83 k))) 93 (upd (m.1 93) k (m.1 84 k)) := ⟨_, rfl⟩
    obtain ⟨m', a1, a2⟩ := ih (k + 1) f' m1 (by omega) (hf' q rfl) (fun i hi => by rw [hm1]; exact hb i hi)
    refine ⟨m', CpS_s (m1 := m1) (by decide) (by rw [hm1]; rfl) (fun j hj => ?_) (fun p hp => ?_) (by omega) a1, ?_⟩
    · simp only [List.mem_cons, List.not_mem_nil, or_false, forall_eq_or_imp, forall_eq] at hj
      obtain ⟨c1, c2, c3, c4, c5, c6⟩ := hj
      rw [hm1, mI_n c6, mI_n c5, mI_n c4, mI_n c3, mI_n c2, mI_n c1]
    · simp only [List.mem_cons, List.not_mem_nil, or_false] at hp
      rcases hp with rfl | rfl | rfl | rfl | rfl | rfl <;> (rw [hm1]; rfl)
    · rw [fM_image_l71, if_neg (show ¬ (6 : Int32) ≤ nI k from not_le_nI (n := 6) (by omega) (by omega))]
      simp only [ck_nI (show k < 6 by omega) (show 6 ≤ 100000 by omega), cl_nI (show k < 100000 by omega), if_true, lm, lt, nI_1]
      refine Eq.trans ?_ a2
      congr 1
      rw [hm1]
      refine Prod.ext ?_ rfl
      show ur _ 93 (upd _ k (vp_nar .boolean (m.1 84 k))) = _
      rw [nar01 (hb k (by omega))]
      rfl

theorem undo_l1 (kc : MI → Int32 → Option (Int32 × MI)) : ∀ (q k f : Nat) (m : MI), k + q = 6 → q < f → (∀ i, i < 6 → m.1 93 i = 0 ∨ m.1 93 i = 1) → ∃ m', CpS [(62, 86), (63, 87), (64, 88), (66, 89), (83, 91), (84, 93)] 6 k m m' ∧ fM_undo_l76 kc f m (nI k) = kc m' (nI 6) := by
  intro q
  induction q with
  | zero =>
    intro k f m hk hf hb
    obtain ⟨f', rfl, -⟩ := fu hf
    obtain rfl : k = 6 := by omega
    refine ⟨m, CpS_0, ?_⟩
    rw [fM_undo_l76, if_pos (show (6 : Int32) ≤ nI 6 from by decide)]
  | succ q ih =>
    intro k f m hk hf hb
    obtain ⟨f', rfl, hf'⟩ := fu hf
    obtain ⟨m1, hm1⟩ : ∃ m1, m1 = mI (mI (mI (mI (mI (mI m 62 (upd (m.1 62) k (m.1 86 k))) 63 (upd (m.1 63) k (m.1 87 k))) 64 (upd (m.1 64) k (m.1 88 k))) 66 (upd (m.1 66) k (m.1 89 k))) 83 (upd (m.1 83) k (m.1 91 k))) 84 (upd (m.1 84) k (m.1 93 k)) := ⟨_, rfl⟩
    obtain ⟨m', a1, a2⟩ := ih (k + 1) f' m1 (by omega) (hf' q rfl) (fun i hi => by rw [hm1]; exact hb i hi)
    refine ⟨m', CpS_s (m1 := m1) (by decide) (by rw [hm1]; rfl) (fun j hj => ?_) (fun p hp => ?_) (by omega) a1, ?_⟩
    · simp only [List.mem_cons, List.not_mem_nil, or_false, forall_eq_or_imp, forall_eq] at hj
      obtain ⟨c1, c2, c3, c4, c5, c6⟩ := hj
      rw [hm1, mI_n c6, mI_n c5, mI_n c4, mI_n c3, mI_n c2, mI_n c1]
    · simp only [List.mem_cons, List.not_mem_nil, or_false] at hp
      rcases hp with rfl | rfl | rfl | rfl | rfl | rfl <;> (rw [hm1]; rfl)
    · rw [fM_undo_l76, if_neg (show ¬ (6 : Int32) ≤ nI k from not_le_nI (n := 6) (by omega) (by omega))]
      simp only [ck_nI (show k < 6 by omega) (show 6 ≤ 100000 by omega), cl_nI (show k < 100000 by omega), if_true, lm, lt, nI_1]
      refine Eq.trans ?_ a2
      congr 1
      rw [hm1]
      refine Prod.ext ?_ rfl
      show ur _ 84 (upd _ k (vp_nar .boolean (m.1 93 k))) = _
      rw [nar01 (hb k (by omega))]
      rfl

theorem image_l157 (kc : MI → Int32 → Option (Int32 × MI)) : ∀ (q k f : Nat) (m : MI), k + q = 24 → q < f → ∃ m', CpS [(90, 65)] 24 k m m' ∧ fM_image_l157 kc f m (nI k) = kc m' (nI 24) := by
  intro q
  induction q with
  | zero =>
    intro k f m hk hf
    obtain ⟨f', rfl, -⟩ := fu hf
    obtain rfl : k = 24 := by omega
    refine ⟨m, CpS_0, ?_⟩
    rw [fM_image_l157, if_pos (show (24 : Int32) ≤ nI 24 from by decide)]
  | succ q ih =>
    intro k f m hk hf
    obtain ⟨f', rfl, hf'⟩ := fu hf
    obtain ⟨m', a1, a2⟩ := ih (k + 1) f' (mI m 90 (upd (m.1 90) k (m.1 65 k))) (by omega) (hf' q rfl)
    refine ⟨m', CpS_s (m1 := mI m 90 (upd (m.1 90) k (m.1 65 k))) (by decide) rfl (fun j hj => ?_) (fun p hp => ?_) (by omega) a1, ?_⟩
    · exact mI_n (hj _ (List.mem_singleton.mpr rfl))
    · rw [List.mem_singleton.mp hp, mI_s]
    · rw [fM_image_l157, if_neg (show ¬ (24 : Int32) ≤ nI k from not_le_nI (n := 24) (by omega) (by omega))]
      simp only [ck_nI (show k < 24 by omega) (show 24 ≤ 100000 by omega), cl_nI (show k < 100000 by omega), if_true, lm, lt, nI_1]
      exact a2

theorem image_l183 (kc : MI → Int32 → Option (Int32 × MI)) : ∀ (q k f : Nat) (m : MI), k + q = 8 → q < f → ∃ m', CpS [(92, 85)] 8 k m m' ∧ fM_image_l183 kc f m (nI k) = kc m' (nI 8) := by
  intro q
  induction q with
  | zero =>
    intro k f m hk hf
    obtain ⟨f', rfl, -⟩ := fu hf
    obtain rfl : k = 8 := by omega
    refine ⟨m, CpS_0, ?_⟩
    rw [fM_image_l183, if_pos (show (8 : Int32) ≤ nI 8 from by decide)]
  | succ q ih =>
    intro k f m hk hf
    obtain ⟨f', rfl, hf'⟩ := fu hf
    obtain ⟨m', a1, a2⟩ := ih (k + 1) f' (mI m 92 (upd (m.1 92) k (m.1 85 k))) (by omega) (hf' q rfl)
    refine ⟨m', CpS_s (m1 := mI m 92 (upd (m.1 92) k (m.1 85 k))) (by decide) rfl (fun j hj => ?_) (fun p hp => ?_) (by omega) a1, ?_⟩
    · exact mI_n (hj _ (List.mem_singleton.mpr rfl))
    · rw [List.mem_singleton.mp hp, mI_s]
    · rw [fM_image_l183, if_neg (show ¬ (8 : Int32) ≤ nI k from not_le_nI (n := 8) (by omega) (by omega))]
      simp only [ck_nI (show k < 8 by omega) (show 8 ≤ 100000 by omega), cl_nI (show k < 100000 by omega), if_true, lm, lt, nI_1]
      exact a2

theorem undo_l162 (kc : MI → Int32 → Option (Int32 × MI)) : ∀ (q k f : Nat) (m : MI), k + q = 24 → q < f → ∃ m', CpS [(65, 90)] 24 k m m' ∧ fM_undo_l162 kc f m (nI k) = kc m' (nI 24) := by
  intro q
  induction q with
  | zero =>
    intro k f m hk hf
    obtain ⟨f', rfl, -⟩ := fu hf
    obtain rfl : k = 24 := by omega
    refine ⟨m, CpS_0, ?_⟩
    rw [fM_undo_l162, if_pos (show (24 : Int32) ≤ nI 24 from by decide)]
  | succ q ih =>
    intro k f m hk hf
    obtain ⟨f', rfl, hf'⟩ := fu hf
    obtain ⟨m', a1, a2⟩ := ih (k + 1) f' (mI m 65 (upd (m.1 65) k (m.1 90 k))) (by omega) (hf' q rfl)
    refine ⟨m', CpS_s (m1 := mI m 65 (upd (m.1 65) k (m.1 90 k))) (by decide) rfl (fun j hj => ?_) (fun p hp => ?_) (by omega) a1, ?_⟩
    · exact mI_n (hj _ (List.mem_singleton.mpr rfl))
    · rw [List.mem_singleton.mp hp, mI_s]
    · rw [fM_undo_l162, if_neg (show ¬ (24 : Int32) ≤ nI k from not_le_nI (n := 24) (by omega) (by omega))]
      simp only [ck_nI (show k < 24 by omega) (show 24 ≤ 100000 by omega), cl_nI (show k < 100000 by omega), if_true, lm, lt, nI_1]
      exact a2

theorem undo_l188 (kc : MI → Int32 → Option (Int32 × MI)) : ∀ (q k f : Nat) (m : MI), k + q = 8 → q < f → ∃ m', CpS [(85, 92)] 8 k m m' ∧ fM_undo_l188 kc f m (nI k) = kc m' (nI 8) := by
  intro q
  induction q with
  | zero =>
    intro k f m hk hf
    obtain ⟨f', rfl, -⟩ := fu hf
    obtain rfl : k = 8 := by omega
    refine ⟨m, CpS_0, ?_⟩
    rw [fM_undo_l188, if_pos (show (8 : Int32) ≤ nI 8 from by decide)]
  | succ q ih =>
    intro k f m hk hf
    obtain ⟨f', rfl, hf'⟩ := fu hf
    obtain ⟨m', a1, a2⟩ := ih (k + 1) f' (mI m 85 (upd (m.1 85) k (m.1 92 k))) (by omega) (hf' q rfl)
    refine ⟨m', CpS_s (m1 := mI m 85 (upd (m.1 85) k (m.1 92 k))) (by decide) rfl (fun j hj => ?_) (fun p hp => ?_) (by omega) a1, ?_⟩
    · exact mI_n (hj _ (List.mem_singleton.mpr rfl))
    · rw [List.mem_singleton.mp hp, mI_s]
    · rw [fM_undo_l188, if_neg (show ¬ (8 : Int32) ≤ nI k from not_le_nI (n := 8) (by omega) (by omega))]
      simp only [ck_nI (show k < 8 by omega) (show 8 ≤ 100000 by omega), cl_nI (show k < 100000 by omega), if_true, lm, lt, nI_1]
      exact a2
