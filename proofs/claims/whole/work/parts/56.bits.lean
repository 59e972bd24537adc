/-! THE SAME ANSWERS: truths in the bits of an int -/
theorem nI_bv (a : Nat) : (nI a).toBitVec = BitVec.ofNat 32 a := rfl
theorem nI_or (a b : Nat) : nI a ||| nI b = nI (a ||| b) := by
  rw [← Int32.toBitVec_inj, Int32.toBitVec_or, nI_bv, nI_bv, nI_bv]
  refine BitVec.eq_of_toNat_eq ?_
  rw [BitVec.toNat_or, BitVec.toNat_ofNat, BitVec.toNat_ofNat, BitVec.toNat_ofNat, Nat.or_mod_two_pow]
theorem nI_and (a b : Nat) : nI a &&& nI b = nI (a &&& b) := by
  rw [← Int32.toBitVec_inj, Int32.toBitVec_and, nI_bv, nI_bv, nI_bv]
  refine BitVec.eq_of_toNat_eq ?_
  rw [BitVec.toNat_and, BitVec.toNat_ofNat, BitVec.toNat_ofNat, BitVec.toNat_ofNat, Nat.and_mod_two_pow]
theorem nI_xor (a b : Nat) : nI a ^^^ nI b = nI (a ^^^ b) := by
  rw [← Int32.toBitVec_inj, Int32.toBitVec_xor, nI_bv, nI_bv, nI_bv]
  refine BitVec.eq_of_toNat_eq ?_
  rw [BitVec.toNat_xor, BitVec.toNat_ofNat, BitVec.toNat_ofNat, BitVec.toNat_ofNat, Nat.xor_mod_two_pow]
/-- truths, the top one first -/
def enc : List Bool → Nat
  | [] => 0
  | b :: s => 2 * enc s + b.toNat
theorem toNat_le (b : Bool) : b.toNat ≤ 1 := by cases b <;> decide
theorem enc_lt : ∀ s : List Bool, enc s < 2 ^ s.length
  | [] => by decide
  | b :: s => by
    have := enc_lt s
    have := toNat_le b
    show 2 * enc s + b.toNat < 2 ^ (s.length + 1)
    rw [Nat.pow_succ]; omega
theorem enc_30 {s : List Bool} (h : s.length ≤ 30) : enc s < 2 ^ 30 := Nat.lt_of_lt_of_le (enc_lt s) (Nat.pow_le_pow_right (by decide) h)
theorem half_eq {x t b : Nat} (h1 : x / 2 = t) (h2 : x % 2 = b) : x = 2 * t + b := by omega
theorem or1 {t b : Nat} (hb : b ≤ 1) : 2 * t ||| b = 2 * t + b := by
  refine half_eq ?_ ?_
  · rw [Nat.or_div_two, show 2 * t / 2 = t by omega, show b / 2 = 0 by omega, Nat.or_zero]
  · have h : (2 * t ||| b) % 2 = 1 ↔ (2 * t) % 2 = 1 ∨ b % 2 = 1 := Nat.or_mod_two_eq_one
    omega
theorem orm (x k : Nat) : (x ||| k) % 2 = if x % 2 = 1 ∨ k % 2 = 1 then 1 else 0 := by
  have h : (x ||| k) % 2 = 1 ↔ x % 2 = 1 ∨ k % 2 = 1 := Nat.or_mod_two_eq_one
  by_cases c : x % 2 = 1 ∨ k % 2 = 1
  · rw [if_pos c]; exact h.mpr c
  · rw [if_neg c]
    have : ¬ (x ||| k) % 2 = 1 := fun e => c (h.mp e)
    omega
theorem xorm (x k : Nat) : (x ^^^ k) % 2 = if (x % 2 = 1 ↔ k % 2 = 1) then 0 else 1 := by
  have h : (x ^^^ k) % 2 = 1 ↔ ¬ (x % 2 = 1 ↔ k % 2 = 1) := Nat.xor_mod_two_eq_one
  by_cases c : x % 2 = 1 ↔ k % 2 = 1
  · rw [if_pos c]
    have : ¬ (x ^^^ k) % 2 = 1 := fun e => h.mp e c
    omega
  · rw [if_neg c]; exact h.mpr c
theorem enc_push {s : List Bool} (b : Bool) (h : s.length < 30) : (nI (enc s) <<< ((1 : Int32) &&& 31)) ||| nI b.toNat = nI (enc (b :: s)) := by
  have := enc_30 (s := s) (by omega)
  rw [pk_shlN ((1 : Int32) &&& 31) 1 (by decide +kernel) (by omega), nI_or, show enc s * 2 ^ 1 = 2 * enc s by omega, or1 (toNat_le b)]
  rfl
theorem enc_low {s : List Bool} (b : Bool) (h : s.length < 30) : nI (enc (b :: s)) &&& (1 : Int32) = nI b.toNat := by
  have := enc_30 (s := b :: s) (by simp; omega)
  have h2 := toNat_le b
  rw [show (1 : Int32) = nI 1 from rfl, nI_and]
  congr 1
  show (2 * enc s + b.toNat) &&& 1 = b.toNat
  have e : (2 * enc s + b.toNat) &&& (2 ^ 1 - 1) = (2 * enc s + b.toNat) % 2 ^ 1 := Nat.and_two_pow_sub_one_eq_mod _ _
  rw [show (1 : Nat) = 2 ^ 1 - 1 from rfl, e]; omega
theorem enc_not {s : List Bool} (b : Bool) : nI (enc (b :: s)) ^^^ (1 : Int32) = nI (enc ((!b) :: s)) := by
  rw [show (1 : Int32) = nI 1 from rfl, nI_xor]
  congr 1
  show (2 * enc s + b.toNat) ^^^ 1 = 2 * enc s + (!b).toNat
  have h2 := toNat_le b
  refine half_eq ?_ ?_
  · rw [Nat.xor_div_two, show (2 * enc s + b.toNat) / 2 = enc s by omega, show (1 : Nat) / 2 = 0 from rfl, Nat.xor_zero]
  · rw [xorm]
    cases b
    · rw [if_neg]
      · rfl
      · intro h
        have := h.mpr rfl
        simp only [Bool.toNat_false] at this
        omega
    · rw [if_pos]
      · rfl
      · simp only [Bool.toNat_true]
        exact ⟨fun _ => trivial, fun _ => by omega⟩
theorem enc_shr {s : List Bool} (b : Bool) (h : s.length < 30) : nI (enc (b :: s)) >>> ((1 : Int32) &&& 31) = nI (enc s) := by
  have := enc_30 (s := b :: s) (by simp; omega)
  have h2 := toNat_le b
  rw [pk_shrN (by omega) ((1 : Int32) &&& 31) 1 (by decide +kernel)]
  congr 1
  show (2 * enc s + b.toNat) / 2 ^ 1 = enc s
  omega
theorem ones_or {v k : Nat} (h : v < 2 ^ k) : v ||| (2 ^ k - 1) = 2 ^ k - 1 := by
  refine Nat.eq_of_testBit_eq fun i => ?_
  rw [Nat.testBit_or, Nat.testBit_two_pow_sub_one]
  by_cases c : i < k
  · simp [c]
  · have : v.testBit i = false := Nat.testBit_lt_two_pow (Nat.lt_of_lt_of_le h (Nat.pow_le_pow_right (by decide) (by omega)))
    simp [c, this]
theorem enc_and {s : List Bool} (a b : Bool) (h : s.length ≤ 28) : (nI (enc (b :: a :: s)) >>> ((1 : Int32) &&& 31)) &&& (nI (enc (b :: a :: s)) ||| (-2 : Int32)) = nI (enc ((a && b) :: s)) := by
  have h1 := enc_30 (s := b :: a :: s) (by simp; omega)
  have h0 := enc_30 (s := s) (by omega)
  rw [enc_shr b (by simp; omega), show (-2 : Int32) = nI (2 ^ 32 - 2) by decide +kernel, nI_or, nI_and]
  congr 1
  have ha := toNat_le a
  have hb := toNat_le b
  have ea : enc (a :: s) = 2 * enc s + a.toNat := rfl
  have eb : enc (b :: a :: s) = 2 * (2 * enc s + a.toNat) + b.toNat := rfl
  show _ = 2 * enc s + (a && b).toNat
  refine half_eq ?_ ?_
  · rw [Nat.and_div_two, Nat.or_div_two, show (2 ^ 32 - 2) / 2 = 2 ^ 31 - 1 from rfl, ones_or (by omega), Nat.and_two_pow_sub_one_eq_mod, Nat.mod_eq_of_lt (by omega), ea]; omega
  · have h3 : (enc (a :: s) &&& (enc (b :: a :: s) ||| (2 ^ 32 - 2))) % 2 = 1 ↔ enc (a :: s) % 2 = 1 ∧ (enc (b :: a :: s) ||| (2 ^ 32 - 2)) % 2 = 1 := Nat.and_mod_two_eq_one
    have h4 : (enc (b :: a :: s) ||| (2 ^ 32 - 2)) % 2 = 1 ↔ enc (b :: a :: s) % 2 = 1 ∨ (2 ^ 32 - 2) % 2 = 1 := Nat.or_mod_two_eq_one
    cases a <;> cases b <;> simp only [Bool.toNat_true, Bool.toNat_false, Bool.and_true, Bool.and_false, Bool.true_and, Bool.false_and] at ea eb ⊢ <;> omega
theorem enc_or {s : List Bool} (a b : Bool) (h : s.length ≤ 28) : (nI (enc (b :: a :: s)) >>> ((1 : Int32) &&& 31)) ||| (nI (enc (b :: a :: s)) &&& (1 : Int32)) = nI (enc ((a || b) :: s)) := by
  rw [enc_shr b (by simp; omega), enc_low b (by simp; omega), nI_or]
  congr 1
  have ha := toNat_le a
  have hb := toNat_le b
  have ea : enc (a :: s) = 2 * enc s + a.toNat := rfl
  show _ = 2 * enc s + (a || b).toNat
  refine half_eq ?_ ?_
  · rw [Nat.or_div_two, show b.toNat / 2 = 0 by omega, Nat.or_zero, ea]; omega
  · rw [orm, ea]
    cases a <;> cases b <;> simp only [Bool.toNat_true, Bool.toNat_false, Bool.or_true, Bool.or_false]
    · rw [if_neg (by omega)]
    · rw [if_pos (Or.inr trivial)]
    · rw [if_pos (Or.inl (by omega))]
    · rw [if_pos (Or.inr trivial)]
/-- a token of a test, taken apart as the class does -/
theorem cT_test : ∀ l, l < 6 → ∀ c, c < 3 → ∀ n, n < 100 → (nI (l * 8 + c * 64 + n * 256) &&& (7 : Int32) = 0) ∧ (nI (l * 8 + c * 64 + n * 256) >>> ((3 : Int32) &&& 31)) &&& (7 : Int32) = nI l ∧ (nI (l * 8 + c * 64 + n * 256) >>> ((6 : Int32) &&& 31)) &&& (3 : Int32) = nI c ∧ nI (l * 8 + c * 64 + n * 256) >>> ((8 : Int32) &&& 31) = nI n := by
  intro l hl c hc n hn
  have e7 : ∀ x, x < 2 ^ 31 → nI x &&& (7 : Int32) = nI (x % 2 ^ 3) := fun x hx => pk_andN (by omega) 3 (by decide +kernel)
  have e3 : ∀ x, x < 2 ^ 31 → nI x &&& (3 : Int32) = nI (x % 2 ^ 2) := fun x hx => pk_andN (by omega) 2 (by decide +kernel)
  refine ⟨?_, ?_, ?_, ?_⟩
  · rw [e7 _ (by omega), show (l * 8 + c * 64 + n * 256) % 2 ^ 3 = 0 by omega]; rfl
  · rw [pk_shrN (by omega) ((3 : Int32) &&& 31) 3 (by decide +kernel), e7 _ (by omega)]; congr 1; omega
  · rw [pk_shrN (by omega) ((6 : Int32) &&& 31) 6 (by decide +kernel), e3 _ (by omega)]; congr 1; omega
  · rw [pk_shrN (by omega) ((8 : Int32) &&& 31) 8 (by decide +kernel)]; congr 1; omega
theorem cT_cla {w n : Nat} (hw : w < 2) (hn : n < 100) : nI (4 + w + 8 * n) &&& (7 : Int32) = nI (4 + w) ∧ nI (4 + w + 8 * n) >>> ((3 : Int32) &&& 31) = nI n := by
  refine ⟨?_, ?_⟩
  · rw [pk_andN (by omega) 3 (by decide +kernel)]; congr 1; omega
  · rw [pk_shrN (by omega) ((3 : Int32) &&& 31) 3 (by decide +kernel)]; congr 1; omega
