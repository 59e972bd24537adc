/-! THE SAME ANSWERS: coin, dice -/
theorem C_chosen {m : MI} {a : Int32} : fC_isChosen m a = some (if a < 1 ∨ 16 < a then 0 else 1, m) := by
  unfold fC_isChosen
  by_cases h : a < 1 <;> by_cases h2 : 16 < a <;> simp [h, h2]
theorem C_part {m : MI} {a : Int32} : fC_isPart m a = some (if a < 0 ∨ 1 < a then 0 else 1, m) := by
  unfold fC_isPart
  by_cases h : a < 0
  · have n0 : ¬ a = 0 := fun e => by subst e; exact absurd h (by decide)
    have n1 : ¬ a = 1 := fun e => by subst e; exact absurd h (by decide)
    simp [h, n0, n1]
  · obtain ⟨j, hj, rfl⟩ := nI_of h
    have e0 : nI j = 0 ↔ j = 0 := nI_eq (b := 0) hj (by omega)
    have e1 : nI j = 1 ↔ j = 1 := nI_eq (b := 1) hj (by omega)
    have e2 : (1 : Int32) < nI j ↔ 1 < j := nI_ltI (a := 1) (by omega) hj
    by_cases j0 : j = 0
    · subst j0; rfl
    · by_cases j1 : j = 1
      · subst j1; rfl
      · have : 1 < j := by omega
        rw [if_neg (fun e => j0 (e0.mp e)), if_neg (fun e => j1 (e1.mp e)), if_pos (Or.inr (e2.mpr this))]
theorem in_rng {a : Int32} {lo hi : Nat} (hhi : hi < 2 ^ 31) (hlo : lo ≤ hi) (h : ¬ (a < nI lo ∨ nI hi < a)) : ∃ x, lo ≤ x ∧ x ≤ hi ∧ a = nI x := by
  obtain ⟨h1, h2⟩ := not_or.mp h
  have h0 : ¬ a < 0 := fun e => h1 (by
    rw [Int32.lt_iff_toInt_lt] at e ⊢
    rw [nI_toInt (by omega)]
    have : (0 : Int32).toInt = 0 := rfl
    omega)
  obtain ⟨x, hx, rfl⟩ := nI_of h0
  rw [nI_ltI hx (by omega)] at h1
  rw [nI_ltI (by omega) hx] at h2
  exact ⟨x, by omega, by omega, rfl⟩
theorem op_coin {sh : Sh} {R : RR} {m : MI} (a b c : Int32) (H : Rel sh R m) : Ans sh R m (fun m => fC_coin m a b c) (fun m => fM_coin m a b c) := by
  obtain ⟨F, hF⟩ : ∃ F : Nat, F = 1000 := ⟨_, rfl⟩
  by_cases ha : a < 1 ∨ 99 < a
  · refine ⟨-9223372036854775808, m, m, ?_, ?_, H⟩
    · show fC_coin m a b c = _
      unfold fC_coin
      by_cases h : a < 1
      · rw [if_pos h]
      · rw [if_neg h, if_pos (ha.resolve_left h)]
    · show fM_coin m a b c = _
      unfold fM_coin
      rw [M_in0 ha]
      simp only [Option.bind_some]
      rw [if_pos trivial]
  obtain ⟨a1, a2⟩ := not_or.mp ha
  by_cases hb : b < 1 ∨ 16 < b
  · refine ⟨-9223372036854775808, m, m, ?_, ?_, H⟩
    · show fC_coin m a b c = _
      unfold fC_coin
      rw [if_neg a1, if_neg a2, C_chosen, if_pos hb]
      simp only [Option.bind_some]
      rw [if_pos trivial]
    · show fM_coin m a b c = _
      unfold fM_coin
      rw [M_in1 ha]
      simp only [Option.bind_some]
      rw [if_neg (show ¬ (1 : Int32) = 0 by decide), M_in0 hb]
      simp only [Option.bind_some]
      rw [if_pos trivial]
  by_cases hc : c < 0 ∨ 1 < c
  · refine ⟨-9223372036854775808, m, m, ?_, ?_, H⟩
    · show fC_coin m a b c = _
      unfold fC_coin
      rw [if_neg a1, if_neg a2, C_chosen, if_neg hb]
      simp only [Option.bind_some]
      rw [if_neg (show ¬ (1 : Int32) = 0 by decide), C_part, if_pos hc]
      simp only [Option.bind_some]
      rw [if_pos trivial]
    · show fM_coin m a b c = _
      unfold fM_coin
      rw [M_in1 ha]
      simp only [Option.bind_some]
      rw [if_neg (show ¬ (1 : Int32) = 0 by decide), M_in1 hb]
      simp only [Option.bind_some]
      rw [if_neg (show ¬ (1 : Int32) = 0 by decide), M_in0 hc]
      simp only [Option.bind_some]
      rw [if_pos trivial]
  obtain ⟨p, hp1, hp2, rfl⟩ := in_rng (lo := 1) (hi := 99) (by omega) (by omega) ha
  obtain ⟨z, hz1, hz2, rfl⟩ := in_rng (lo := 1) (hi := 16) (by omega) (by omega) hb
  obtain ⟨K, hK, hKb, t1, -, t3⟩ := thr_lock (m := m) (f := 2) (b := z) (by omega) (by omega) ⟨hz1, hz2⟩ 4 0 (by omega)
  have hpw := (pow4 (f := 2) (by omega) (by omega) hK).1
  have hpw2 : 2 ^ K ≤ 16 := Nat.pow_le_pow_right (n := 2) (by omega) hK
  have hp0 : 0 < 2 ^ K := Nat.pow_pos (by omega)
  have hab : K * 2 ^ K ≤ 64 := Nat.le_trans (Nat.mul_le_mul hK hpw2) (by omega)
  have hthr : fC_throwsFor m 2 (nI z) = some (nI K, m) := t1 1000 (by omega)
  have hpow : fC_power m 2 (nI K) = some (lN (2 ^ K), m) := C_pow (b := 2) (by omega) (by omega)
  have c50 : nI p = 50 ↔ p = 50 := nI_eq (b := 50) (by omega) (by omega)
  have e100 : ((100 : Int32) - nI p).toInt64 = lN (100 - p) := by
    rw [show (100 : Int32) = nI 100 from rfl, pk_sub (by omega), nI_l (by omega)]
  have hbel : 0 < z * p * (100 - p) ∧ z * p * (100 - p) < 2 ^ 40 := by
    have h1 : z * p ≤ 16 * 99 := Nat.mul_le_mul hz2 hp2
    have h2 : z * p * (100 - p) ≤ 16 * 99 * 100 := Nat.mul_le_mul h1 (by omega)
    exact ⟨Nat.mul_pos (Nat.mul_pos hz1 hp1) (by omega), by omega⟩
  refine ⟨if p = 50 then low (K * 2 ^ K) z c else low (10000 * (K * 2 ^ K)) (z * p * (100 - p)) c, m, m, ?_, ?_, H⟩
  · show fC_coin m (nI p) (nI z) c = _
    unfold fC_coin
    rw [if_neg a1, if_neg a2, C_chosen, if_neg hb]
    simp only [Option.bind_some]
    rw [if_neg (show ¬ (1 : Int32) = 0 by decide), C_part, if_neg hc]
    simp only [Option.bind_some]
    rw [if_neg (show ¬ (1 : Int32) = 0 by decide), hthr]
    simp only [Option.bind_some]
    rw [hpow]
    simp only [Option.bind_some, ltl, nI_l (show K < 2 ^ 31 by omega), nI_l (show z < 2 ^ 31 by omega), nI_l (show p < 2 ^ 31 by omega), lN_mul, e100]
    by_cases h50 : p = 50
    · rw [if_pos (c50.mpr h50), if_pos h50, C_low c (by omega) ⟨hz1, by omega⟩]
      rfl
    · rw [if_neg (fun e => h50 (c50.mp e)), if_neg h50, show (10000 : Int64) = lN 10000 from rfl, lN_mul, C_low c (by omega) hbel]
      rfl
  · show fM_coin m (nI p) (nI z) c = _
    unfold fM_coin
    rw [M_in1 ha, ← hF]
    simp only [Option.bind_some]
    rw [if_neg (show ¬ (1 : Int32) = 0 by decide), M_in1 hb]
    simp only [Option.bind_some]
    rw [if_neg (show ¬ (1 : Int32) = 0 by decide), M_in1 hc]
    simp only [Option.bind_some]
    rw [if_neg (show ¬ (1 : Int32) = 0 by decide)]
    have t3' := t3 (nI p) c (fun m9 z7 z8 =>
            if nI p = 50 then
              (fM_lowest m9 (z7 * z8) ((nI z).toInt64) c).bind fun r11 =>
              some (r11.1, r11.2)
            else
              (fM_lowest m9 (((10000 : Int64) * z7) * z8) ((((nI z).toInt64) * ((nI p).toInt64)) * (((100 : Int32) - nI p).toInt64)) c).bind fun r12 =>
              some (r12.1, r12.2)) F rfl (by omega)
    rw [Nat.pow_zero] at t3'
    refine Eq.trans t3' ?_
    simp only [nI_l (show z < 2 ^ 31 by omega), nI_l (show p < 2 ^ 31 by omega), e100]
    by_cases h50 : p = 50
    · rw [if_pos (c50.mpr h50), if_pos h50, lN_mul, M_low c (by omega) ⟨hz1, by omega⟩]
      rfl
    · rw [if_neg (fun e => h50 (c50.mp e)), if_neg h50, show (10000 : Int64) = lN 10000 from rfl, lN_mul, lN_mul, lN_mul, lN_mul, Nat.mul_assoc 10000, M_low c (by omega) hbel]
      rfl
theorem op_dice {sh : Sh} {R : RR} {m : MI} (a b c : Int32) (H : Rel sh R m) : Ans sh R m (fun m => fC_dice m a b c) (fun m => fM_dice m a b c) := by
  obtain ⟨F, hF⟩ : ∃ F : Nat, F = 1000 := ⟨_, rfl⟩
  by_cases ha : a < 2 ∨ 20 < a
  · refine ⟨-9223372036854775808, m, m, ?_, ?_, H⟩
    · show fC_dice m a b c = _
      unfold fC_dice
      by_cases h : a < 2
      · rw [if_pos h]
      · rw [if_neg h, if_pos (ha.resolve_left h)]
    · show fM_dice m a b c = _
      unfold fM_dice
      rw [M_in0 ha]
      simp only [Option.bind_some]
      rw [if_pos trivial]
  obtain ⟨a1, a2⟩ := not_or.mp ha
  by_cases hb : b < 1 ∨ 16 < b
  · refine ⟨-9223372036854775808, m, m, ?_, ?_, H⟩
    · show fC_dice m a b c = _
      unfold fC_dice
      rw [if_neg a1, if_neg a2, C_chosen, if_pos hb]
      simp only [Option.bind_some]
      rw [if_pos trivial]
    · show fM_dice m a b c = _
      unfold fM_dice
      rw [M_in1 ha]
      simp only [Option.bind_some]
      rw [if_neg (show ¬ (1 : Int32) = 0 by decide), M_in0 hb]
      simp only [Option.bind_some]
      rw [if_pos trivial]
  by_cases hc : c < 0 ∨ 1 < c
  · refine ⟨-9223372036854775808, m, m, ?_, ?_, H⟩
    · show fC_dice m a b c = _
      unfold fC_dice
      rw [if_neg a1, if_neg a2, C_chosen, if_neg hb]
      simp only [Option.bind_some]
      rw [if_neg (show ¬ (1 : Int32) = 0 by decide), C_part, if_pos hc]
      simp only [Option.bind_some]
      rw [if_pos trivial]
    · show fM_dice m a b c = _
      unfold fM_dice
      rw [M_in1 ha]
      simp only [Option.bind_some]
      rw [if_neg (show ¬ (1 : Int32) = 0 by decide), M_in1 hb]
      simp only [Option.bind_some]
      rw [if_neg (show ¬ (1 : Int32) = 0 by decide), M_in0 hc]
      simp only [Option.bind_some]
      rw [if_pos trivial]
  obtain ⟨p, hp1, hp2, rfl⟩ := in_rng (lo := 2) (hi := 20) (by omega) (by omega) ha
  obtain ⟨z, hz1, hz2, rfl⟩ := in_rng (lo := 1) (hi := 16) (by omega) (by omega) hb
  obtain ⟨K, hK, hKb, t1, t2, -⟩ := thr_lock (m := m) (f := p) (b := z) hp1 hp2 ⟨hz1, hz2⟩ 4 0 (by omega)
  have hpw := (pow4 hp1 hp2 hK).1
  have hab : K * p ^ K ≤ 4 * 160000 := Nat.mul_le_mul hK hpw
  have hthr : fC_throwsFor m (nI p) (nI z) = some (nI K, m) := t1 1000 (by omega)
  have hpow : fC_power m (nI p) (nI K) = some (lN (p ^ K), m) := C_pow hp2 (by omega)
  have nz : ¬ lN z = 0 := fun e => by have := (lN_z (by omega)).mp e; omega
  have hdm : p ^ K / z * z = p ^ K - p ^ K % z := by
    have := Nat.div_add_mod (p ^ K) z
    rw [Nat.mul_comm] at this
    omega
  have hdp : 0 < p ^ K / z * z ∧ p ^ K / z * z < 2 ^ 40 := by
    refine ⟨Nat.mul_pos (Nat.div_pos hKb hz1) hz1, ?_⟩
    omega
  refine ⟨low (K * p ^ K) (p ^ K / z * z) c, m, m, ?_, ?_, H⟩
  · show fC_dice m (nI p) (nI z) c = _
    unfold fC_dice
    rw [if_neg a1, if_neg a2, C_chosen, if_neg hb]
    simp only [Option.bind_some]
    rw [if_neg (show ¬ (1 : Int32) = 0 by decide), C_part, if_neg hc]
    simp only [Option.bind_some]
    rw [if_neg (show ¬ (1 : Int32) = 0 by decide), hthr]
    simp only [Option.bind_some]
    rw [hpow]
    simp only [Option.bind_some, nI_l (show K < 2 ^ 31 by omega), nI_l (show z < 2 ^ 31 by omega), lN_mul, if_pos nz]
    rw [pk_lRem (by omega) (by omega) (by omega), lN_sub (Nat.mod_le _ _), ← hdm, C_low c (by omega) hdp]
    rfl
  · show fM_dice m (nI p) (nI z) c = _
    unfold fM_dice
    rw [M_in1 ha, ← hF]
    simp only [Option.bind_some]
    rw [if_neg (show ¬ (1 : Int32) = 0 by decide), M_in1 hb]
    simp only [Option.bind_some]
    rw [if_neg (show ¬ (1 : Int32) = 0 by decide), M_in1 hc]
    simp only [Option.bind_some]
    rw [if_neg (show ¬ (1 : Int32) = 0 by decide)]
    have t2' := t2 c (fun m9 z7 z8 =>
            if ¬ ((nI z).toInt64 = 0) then
              (fM_lowest m9 (z7 * z8) ((z8 / ((nI z).toInt64)) * ((nI z).toInt64)) c).bind fun r11 =>
              some (r11.1, r11.2)
            else none) F (by omega)
    rw [Nat.pow_zero] at t2'
    refine Eq.trans t2' ?_
    simp only [nI_l (show z < 2 ^ 31 by omega), if_pos nz]
    rw [lN_mul, pk_lDiv (by omega) (by omega) (by omega), lN_mul, M_low c (by omega) hdp]
    rfl
