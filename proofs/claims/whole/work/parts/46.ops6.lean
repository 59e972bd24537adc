/-! THE SAME ANSWERS: fractions, coin, dice -/
theorem cmp0 (x : Int64) : lg_cmp x 0 = 0 ↔ x = 0 := by
  unfold lg_cmp
  by_cases h : x > 0
  · rw [if_pos h]
    refine ⟨fun e => absurd e (by decide), fun e => ?_⟩
    subst e; exact absurd h (by decide)
  · rw [if_neg h]
    by_cases h2 : x = 0
    · simp [h2]
    · simp [h2]
theorem cmpP (x : Int64) : 0 < lg_cmp x 0 ↔ 0 < x := by
  unfold lg_cmp
  by_cases h : x > 0
  · rw [if_pos h]; exact ⟨fun _ => h, fun _ => by decide⟩
  · rw [if_neg h]
    by_cases h2 : x = 0
    · simp [h2]
    · simp only [if_neg h2]
      exact ⟨fun e => absurd e (by decide), fun e => absurd e h⟩
theorem lN0 : lN 0 = 0 := rfl
theorem lN_z {b : Nat} (h : b < 2 ^ 63) : lN b = 0 ↔ b = 0 := by rw [← lN0, pk_lEQ h (by omega)]
theorem gcd_st (a b : Nat) : Nat.gcd a b = Nat.gcd b (a % b) := by rw [Nat.gcd_comm a b, Nat.gcd_rec b a, Nat.gcd_comm]
theorem two_st {b r : Nat} (hr : 0 < r) (h : r < b) : 2 * (b % r) < b := by
  have h1 : b % r < r := Nat.mod_lt _ hr
  have h2 : b % r + r ≤ b := by
    have := Nat.div_add_mod b r
    have h3 : 1 ≤ b / r := Nat.div_pos (Nat.le_of_lt h) hr
    have h4 : r * 1 ≤ r * (b / r) := Nat.mul_le_mul_left r h3
    omega
  omega
theorem M_gcd {m : MI} (u1 u3 : Int64) (kc : MI → Int64 → Int64 → Option (Int64 × MI)) : ∀ (k a b f : Nat), a < 2 ^ 62 → b < 2 ^ 62 → b < 2 ^ k → 2 * k + 1 ≤ f → fM_divisor_l6 u1 u3 kc f m (lN a) (lN b) = kc m (lN (Nat.gcd a b)) (lN 0) := by
  intro k
  induction k with
  | zero =>
    intro a b f ha hb hk hf
    obtain ⟨f', rfl⟩ : ∃ f', f = f' + 1 := ⟨f - 1, by omega⟩
    have : b = 0 := by omega
    subst this
    rw [fM_divisor_l6, if_pos ((cmp0 _).mpr lN0), Nat.gcd_zero_right]
  | succ k ih =>
    intro a b f ha hb hk hf
    obtain ⟨f', rfl⟩ : ∃ f', f = f' + 1 + 1 := ⟨f - 2, by omega⟩
    by_cases b0 : b = 0
    · subst b0
      rw [fM_divisor_l6, if_pos ((cmp0 _).mpr lN0), Nat.gcd_zero_right]
    · have nb : ¬ lN b = 0 := fun e => b0 ((lN_z (by omega)).mp e)
      rw [fM_divisor_l6, if_neg (fun e => nb ((cmp0 _).mp e)), if_pos nb]
      simp only [ltl]
      rw [pk_lRem (by omega) (by omega) (by omega)]
      have hr : a % b < b := Nat.mod_lt _ (by omega)
      by_cases r0 : a % b = 0
      · rw [fM_divisor_l6, if_pos ((cmp0 _).mpr (by rw [r0]; rfl)), gcd_st, r0, Nat.gcd_zero_right]
      · have nr : ¬ lN (a % b) = 0 := fun e => r0 ((lN_z (by omega)).mp e)
        rw [fM_divisor_l6, if_neg (fun e => nr ((cmp0 _).mp e)), if_pos nr]
        simp only [ltl]
        rw [pk_lRem (by omega) (by omega) (by omega)]
        have h2 := two_st (b := b) (r := a % b) (by omega) hr
        have h3 : 2 ^ (k + 1) = 2 * 2 ^ k := by rw [Nat.pow_succ]; omega
        rw [ih (a % b) (b % (a % b)) f' (by omega) (by omega) (by omega) (by omega), gcd_st a b, gcd_st b (a % b)]
theorem C_gcd {m : MI} (u1 u3 : Int64) : ∀ (k a b c f : Nat), a < 2 ^ 62 → b < 2 ^ 62 → b < 2 ^ k → c + 2 * k + 1 ≤ 100 → 2 * k + 1 ≤ f → fC_commonDivisor_l9 u1 u3 (fun m4 z1 z2 z3 => some (z1, m4)) f m (lN a) (lN b) (nI c) = some (lN (Nat.gcd a b), m) := by
  intro k
  have c100 : ∀ c : Nat, c < 100 → ¬ (100 : Int32) ≤ nI c := fun c hc => by rw [show (100 : Int32) = nI 100 from rfl, nI_leI (by omega) (by omega)]; omega
  induction k with
  | zero =>
    intro a b c f ha hb hk hc hf
    obtain ⟨f', rfl⟩ : ∃ f', f = f' + 1 := ⟨f - 1, by omega⟩
    have : b = 0 := by omega
    subst this
    rw [fC_commonDivisor_l9, if_neg (c100 c (by omega)), if_pos ((cmp0 _).mpr lN0), Nat.gcd_zero_right]
  | succ k ih =>
    intro a b c f ha hb hk hc hf
    obtain ⟨f', rfl⟩ : ∃ f', f = f' + 1 + 1 := ⟨f - 2, by omega⟩
    by_cases b0 : b = 0
    · subst b0
      rw [fC_commonDivisor_l9, if_neg (c100 c (by omega)), if_pos ((cmp0 _).mpr lN0), Nat.gcd_zero_right]
    · have nb : ¬ lN b = 0 := fun e => b0 ((lN_z (by omega)).mp e)
      rw [fC_commonDivisor_l9, if_neg (c100 c (by omega)), if_neg (fun e => nb ((cmp0 _).mp e)), if_pos nb]
      simp only [ltl, lt, nI_1]
      rw [pk_lRem (by omega) (by omega) (by omega)]
      have hr : a % b < b := Nat.mod_lt _ (by omega)
      by_cases r0 : a % b = 0
      · rw [fC_commonDivisor_l9, if_neg (c100 _ (by omega)), if_pos ((cmp0 _).mpr (by rw [r0]; rfl)), gcd_st, r0, Nat.gcd_zero_right]
      · have nr : ¬ lN (a % b) = 0 := fun e => r0 ((lN_z (by omega)).mp e)
        rw [fC_commonDivisor_l9, if_neg (c100 _ (by omega)), if_neg (fun e => nr ((cmp0 _).mp e)), if_pos nr]
        simp only [ltl, lt, nI_1]
        rw [pk_lRem (by omega) (by omega) (by omega)]
        have h2 := two_st (b := b) (r := a % b) (by omega) hr
        have h3 : 2 ^ (k + 1) = 2 * 2 ^ k := by rw [Nat.pow_succ]; omega
        rw [ih (a % b) (b % (a % b)) (c + 1 + 1) f' (by omega) (by omega) (by omega) (by omega) (by omega), gcd_st a b, gcd_st b (a % b)]
def low (a b : Nat) (c : Int32) : Int64 := if c = 0 then lN (a / Nat.gcd a b) else lN (b / Nat.gcd a b)
theorem M_low {m : MI} {a b : Nat} (c : Int32) (ha : a < 2 ^ 40) (hb : 0 < b ∧ b < 2 ^ 40) : fM_lowest m (lN a) (lN b) c = some (low a b c, m) := by
  have hg : 0 < Nat.gcd a b := Nat.gcd_pos_of_pos_right a hb.1
  have hgb : Nat.gcd a b ≤ b := Nat.gcd_le_right a hb.1
  have ng : ¬ lN (Nat.gcd a b) = 0 := fun e => by have := (lN_z (by omega)).mp e; omega
  unfold fM_lowest fM_divisor
  rw [M_gcd _ _ _ 40 a b 1000 (by omega) (by omega) (by omega) (by omega)]
  simp only [Option.bind_some, if_pos ng, low]
  by_cases hc : c = 0
  · rw [if_pos hc, if_pos hc, pk_lDiv (by omega) hg (by omega)]
  · rw [if_neg hc, if_neg hc, pk_lDiv (by omega) hg (by omega)]
theorem C_low {m : MI} {a b : Nat} (c : Int32) (ha : a < 2 ^ 40) (hb : 0 < b ∧ b < 2 ^ 40) : fC_lowest m (lN a) (lN b) c = some (low a b c, m) := by
  have hg : 0 < Nat.gcd a b := Nat.gcd_pos_of_pos_right a hb.1
  have hgb : Nat.gcd a b ≤ b := Nat.gcd_le_right a hb.1
  have ng : ¬ lN (Nat.gcd a b) = 0 := fun e => by have := (lN_z (by omega)).mp e; omega
  have pg : 0 < lg_cmp (lN (Nat.gcd a b)) 0 := (cmpP _).mpr (by rw [← lN0, pk_lLT (by omega) (by omega)]; exact hg)
  unfold fC_lowest fC_commonDivisor
  rw [show (0 : Int32) = nI 0 from rfl, C_gcd _ _ 40 a b 0 1000 (by omega) (by omega) (by omega) (by omega) (by omega)]
  simp only [Option.bind_some]
  rw [show nI 0 = 0 from rfl, if_pos pg]
  simp only [if_pos ng, low]
  by_cases hc : c = 0
  · rw [if_pos hc, if_pos hc, pk_lDiv (by omega) hg (by omega)]
  · rw [if_neg hc, if_neg hc, pk_lDiv (by omega) hg (by omega)]
theorem C_powL {m : MI} (b : Nat) (hb : b ≤ 20) : ∀ (j k f : Nat), k + j ≤ 16 → j < f → fC_power_l5 (nI b) (nI (k + j)) (fun m3 z1 z2 => some (z1, m3)) f m (lN (b ^ k)) (nI k) = some (lN (b ^ (k + j)), m) := by
  intro j
  induction j with
  | zero =>
    intro k f hk hf
    obtain ⟨f', rfl, -⟩ := fu hf
    rw [fC_power_l5, if_pos (nI_le (by omega) (by omega))]
    rfl
  | succ j ih =>
    intro k f hk hf
    obtain ⟨f', rfl, hf'⟩ := fu hf
    rw [fC_power_l5, if_neg (not_le_nI (by omega) (by omega))]
    simp only [ltl, lt, nI_1, nI_l (show b < 2 ^ 31 by omega), lN_mul]
    have := ih (k + 1) f' (by omega) (hf' j rfl)
    rw [Nat.pow_succ, show k + 1 + j = k + (j + 1) by omega] at this
    exact this
theorem C_pow {m : MI} {b k : Nat} (hb : b ≤ 20) (hk : k ≤ 16) : fC_power m (nI b) (nI k) = some (lN (b ^ k), m) := by
  have := C_powL (m := m) b hb k 0 1000 (by omega) (by omega)
  rw [Nat.zero_add, Nat.pow_zero] at this
  exact this
theorem pow4 {f : Nat} (h2 : 2 ≤ f) (h20 : f ≤ 20) {k : Nat} (hk : k ≤ 4) : f ^ k ≤ 160000 ∧ (k = 4 → 16 ≤ f ^ k) := by
  have a : f ^ k ≤ 20 ^ k := Nat.pow_le_pow_left h20 k
  have b : 20 ^ k ≤ 20 ^ 4 := Nat.pow_le_pow_right (by omega) hk
  refine ⟨by omega, fun e => ?_⟩
  subst e
  have : 2 ^ 4 ≤ f ^ 4 := Nat.pow_le_pow_left h2 4
  omega
theorem thr_lock {m : MI} {f b : Nat} (h2 : 2 ≤ f) (h20 : f ≤ 20) (hb : 1 ≤ b ∧ b ≤ 16) : ∀ (j k : Nat), k + j = 4 → ∃ K, K ≤ 4 ∧ b ≤ f ^ K ∧ (∀ F, j < F → fC_throwsFor_l2 (nI f) (nI b) (fun m2 z1 => some (z1, m2)) F m (nI k) = some (nI K, m)) ∧
    (∀ (u3 : Int32) (kc : MI → Int64 → Int64 → Option (Int64 × MI)) (F : Nat), j < F → fM_dice_l42 (nI f) (nI b) u3 kc F m (lN k) (lN (f ^ k)) = kc m (lN K) (lN (f ^ K))) ∧
    (∀ (u1 u3 : Int32) (kc : MI → Int64 → Int64 → Option (Int64 × MI)) (F : Nat), f = 2 → j < F → fM_coin_l42 u1 (nI b) u3 kc F m (lN k) (lN (f ^ k)) = kc m (lN K) (lN (f ^ K))) := by
  intro j
  induction j with
  | zero =>
    intro k hk
    have hp := pow4 h2 h20 (k := k) (by omega)
    have c : b ≤ f ^ k := Nat.le_trans hb.2 (hp.2 (by omega))
    have c2 : 0 ≤ lg_cmp (lN (f ^ k)) (nI b).toInt64 := (lg_cmp_ge _ _).mpr (by rw [nI_l (by omega), pk_lLE (by omega) (by omega)]; exact c)
    refine ⟨k, by omega, c, fun F hF => ?_, fun u3 kc F hF => ?_, fun u1 u3 kc F _ hF => ?_⟩
    · obtain ⟨F', rfl, -⟩ := fu hF
      rw [fC_throwsFor_l2, if_neg (show ¬ (16 : Int32) ≤ nI k by rw [show (16 : Int32) = nI 16 from rfl, nI_leI (by omega) (by omega)]; omega), C_pow h20 (by omega)]
      simp only [Option.bind_some]
      rw [if_pos c2]
    · obtain ⟨F', rfl, -⟩ := fu hF
      rw [fM_dice_l42, if_pos c2]
    · obtain ⟨F', rfl, -⟩ := fu hF
      rw [fM_coin_l42, if_pos c2]
  | succ j ih =>
    intro k hk
    have hp := pow4 h2 h20 (k := k) (by omega)
    by_cases c : b ≤ f ^ k
    · have c2 : 0 ≤ lg_cmp (lN (f ^ k)) (nI b).toInt64 := (lg_cmp_ge _ _).mpr (by rw [nI_l (by omega), pk_lLE (by omega) (by omega)]; exact c)
      refine ⟨k, by omega, c, fun F hF => ?_, fun u3 kc F hF => ?_, fun u1 u3 kc F _ hF => ?_⟩
      · obtain ⟨F', rfl, -⟩ := fu hF
        rw [fC_throwsFor_l2, if_neg (show ¬ (16 : Int32) ≤ nI k by rw [show (16 : Int32) = nI 16 from rfl, nI_leI (by omega) (by omega)]; omega), C_pow h20 (by omega)]
        simp only [Option.bind_some]
        rw [if_pos c2]
      · obtain ⟨F', rfl, -⟩ := fu hF
        rw [fM_dice_l42, if_pos c2]
      · obtain ⟨F', rfl, -⟩ := fu hF
        rw [fM_coin_l42, if_pos c2]
    · have c2 : ¬ 0 ≤ lg_cmp (lN (f ^ k)) (nI b).toInt64 := fun e => c (by have := (lg_cmp_ge _ _).mp e; rwa [nI_l (by omega), pk_lLE (by omega) (by omega)] at this)
      obtain ⟨K, hK, hKb, p1, p2, p3⟩ := ih (k + 1) (by omega)
      refine ⟨K, hK, hKb, fun F hF => ?_, fun u3 kc F hF => ?_, fun u1 u3 kc F e hF => ?_⟩
      · obtain ⟨F', rfl, hF'⟩ := fu hF
        rw [fC_throwsFor_l2, if_neg (show ¬ (16 : Int32) ≤ nI k by rw [show (16 : Int32) = nI 16 from rfl, nI_leI (by omega) (by omega)]; omega), C_pow h20 (by omega)]
        simp only [Option.bind_some]
        rw [if_neg c2]
        simp only [lt, nI_1]
        exact p1 F' (hF' j rfl)
      · obtain ⟨F', rfl, hF'⟩ := fu hF
        rw [fM_dice_l42, if_neg c2]
        simp only [ltl, lN_1, nI_l (show f < 2 ^ 31 by omega), lN_mul]
        have := p2 u3 kc F' (hF' j rfl)
        rw [Nat.pow_succ] at this
        exact this
      · obtain ⟨F', rfl, hF'⟩ := fu hF
        rw [fM_coin_l42, if_neg c2]
        have := p3 u1 u3 kc F' e (hF' j rfl)
        rw [Nat.pow_succ] at this
        simp only [ltl, lN_1]
        rw [show (2 : Int64) = lN 2 from rfl, lN_mul, ← e]
        rw [e] at this ⊢
        exact this
