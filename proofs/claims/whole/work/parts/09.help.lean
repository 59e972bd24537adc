/-! WHAT THE PRINTED FUNCTIONS ARE MADE OF -/
def lt {ρ : Type} (e : Int32) (F : Int32 → Option ρ) : Option ρ := F e
def ltl {ρ : Type} (e : Int64) (F : Int64 → Option ρ) : Option ρ := F e
def lm {ρ : Type} (e : MI) (F : MI → Option ρ) : Option ρ := F e
def mn {ρ : Type} (q : Option Nat) (A : Option ρ) (F : Nat → Option ρ) : Option ρ := match q with
  | none => A
  | some a => F a
def mq {ρ : Type} (q : Option Nat) (F : Nat → Option ρ) : Option ρ := match q with
  | none => none
  | some a => F a
def kA (sh : Sh) (g kd : Nat) : Bool := match sh[g]? with
  | some s => s.1 == kd
  | none => false
def lenA (sh : Sh) (g : Nat) : Nat := match sh[g]? with
  | some s => s.2
  | none => 0
theorem kA_ok {sh : Sh} {g kd : Nat} (h : kA sh g kd = true) : sh[g]? = some (kd, lenA sh g) := by
  unfold kA at h
  unfold lenA
  cases hs : sh[g]? with
  | none => rw [hs] at h; cases h
  | some s =>
    rw [hs] at h
    obtain ⟨a, b⟩ := s
    simp only [beq_iff_eq] at h
    rw [h]
def zb (x : Int32) : Bool := decide (x = 0) || decide (x = 1)
theorem zb_ok {x : Int32} (h : zb x = true) : narrow .boolean (.int x) = .int x := by
  unfold zb at h
  simp only [Bool.or_eq_true, decide_eq_true_eq] at h
  rcases h with rfl | rfl <;> rfl
def cb (x : Int32) : Bool := decide ((x.toUInt32 % 65536).toInt32 = x)
theorem cb_ok {x : Int32} (h : cb x = true) : narrow .char (.int x) = .int x := by
  unfold cb at h
  simp only [decide_eq_true_eq] at h
  have e : narrow .char (.int x) = .int (vp_nar .char x) := by simp [vp_nar, narrow]
  rw [e]
  have e2 : vp_nar .char x = (x.toUInt32 % 65536).toInt32 := by rw [vp_nar_char]; rfl
  rw [e2, h]
def bb (x : Int32) : Bool := decide (x.toInt8.toInt32 = x)
theorem bb_ok {x : Int32} (h : bb x = true) : narrow .byte (.int x) = .int x := by
  unfold bb at h
  simp only [decide_eq_true_eq] at h
  rw [narrow_byte, h]
def cpk (sp dp c : Int32) (n0 n1 : Nat) : Bool := !(decide (sp < 0) || decide (dp < 0) || decide (c < 0)) && (decide (sp.toNatClampNeg + c.toNatClampNeg ≤ n0) && decide (dp.toNatClampNeg + c.toNatClampNeg ≤ n1))
theorem cpk_ok {sp dp c : Int32} {n0 n1 : Nat} (h : cpk sp dp c n0 n1 = true) : ¬ sp < 0 ∧ ¬ dp < 0 ∧ ¬ c < 0 ∧ sp.toNatClampNeg + c.toNatClampNeg ≤ n0 ∧ dp.toNatClampNeg + c.toNatClampNeg ≤ n1 := by
  unfold cpk at h
  simp only [Bool.and_eq_true, Bool.not_eq_true', Bool.or_eq_false_iff, decide_eq_false_iff_not, decide_eq_true_eq] at h
  exact ⟨h.1.1.1, h.1.1.2, h.1.2, h.2.1, h.2.2⟩
theorem nfw : 8 + (nativeFrameWords "java/lang/System" "arraycopy" 5 + 11) ≤ 64 := by decide +kernel
section HH
variable {ρ : Type} {em : EM ρ} {b : Bool} {d k n : Nat} {Y : YD} {sh : Sh} {R : RR} {m : MI} {pc : Nat} {ls : List (Nat × Value)} {st : List Value} {f : Option ρ} {ci j idx kk nn : Nat} {q : vw_C}
theorem o_lt {e : Int32} {F : Int32 → Option ρ} (g : ∀ x, S em b d k n Y sh R m pc ls (.int x :: st) (F x)) : S em b d k n Y sh R m pc ls (.int e :: st) (lt e F) := g e
theorem o_ltl {e : Int64} {F : Int64 → Option ρ} (g : ∀ x, S em b d k n Y sh R m pc ls (.long x :: st) (F x)) : S em b d k n Y sh R m pc ls (.long e :: st) (ltl e F) := g e
theorem o_ltL {ls : Int32 → List (Nat × Value)} {e : Int32} {F : Int32 → Option ρ} (g : ∀ x, S em b d k n Y sh R m pc (ls x) st (F x)) : S em b d k n Y sh R m pc (ls e) st (lt e F) := g e
theorem o_lm {e : MI} {F : MI → Option ρ} (g : ∀ x, S em b d k n Y sh R x pc ls st (F x)) : S em b d k n Y sh R e pc ls st (lm e F) := g e
theorem S_mq {q : Option Nat} {F : Nat → Option ρ} (g : ∀ a, q = some a → S em b d k n Y sh R m pc ls st (F a)) : S em b d k n Y sh R m pc ls st (mq q F) := by
  cases q with
  | none => exact S_none
  | some a => exact g a rfl
theorem o_mn {q : Option Nat} {ls : Option Nat → List (Nat × Value)} {st : Option Nat → List Value} {A : Option ρ} {F : Nat → Option ρ} (g1 : S em b d k n Y sh R m pc (ls none) (st none) A) (g2 : ∀ a, S em b d k n Y sh R m pc (ls (some a)) (st (some a)) (F a)) : S em b d k n Y sh R m pc (ls q) (st q) (mn q A F) := by
  cases q with
  | none => exact g1
  | some a => exact g2 a
theorem o_sub {ls' : List (Nat × Value)} (ks : List Nat) (h : lv_pick ls ks = ls') (g : S em b d k n Y sh R m pc ls' st f) : S em b d k n Y sh R m pc ls st f :=
  S_pure (fun hC hl kx => kx _ (by
    refine lv_sub hl ks ?_
    rw [← h]
    simp only [lv_pick, List.getElem?_map, List.map_filterMap])) g
theorem o_getRc {a : Nat} (hd : decode Y.2.1 pc = .ok (.getfield idx, 3)) (hs : sh[kk]? = some (10 + ci, nn)) (hc : cls8[ci]? = some q) (hj : j < q.2.2) (hw : Cond.fieldLink Y.1.cls idx (q.2.1 j).1 (q.2.1 j).2.1 (q.2.1 j).2.2.1 ∈ tW) (hr : fR ci j = true) (hv : R kk j = some a)
    (g : S em b d k n Y sh R m (pc + 3) ls (.ref a :: st) f) : S em b d k n Y sh R m pc ls (.ref kk :: st) f := o_getR hd hs hc hj hw hr hv g
theorem o_cpi {k0 n0 : Nat} {sp dp c : Int32} (hd : decode Y.2.1 pc = .ok (.invokestatic idx, 3)) (hw : Cond.methodLink Y.1.cls idx arraycopyName ∈ tW) (hw1 : Cond.native arraycopyName ∈ tW) (hw2 : Cond.static arraycopyName ∈ tW) (hw3 : Cond.initialized "java/lang/System" ∈ tW)
    (hs0 : sh[k0]? = some (0, n0)) (hs : sh[kk]? = some (0, nn)) (hc : cpk sp dp c n0 nn = true) (hd1 : 1 ≤ d) (hcat : (st.map fun v => v.category).sum ≤ 8)
    (g : S em b d k n Y sh R (mI m kk (va_cpy (m.1 k0) (m.1 kk) sp.toNatClampNeg dp.toNatClampNeg c.toNatClampNeg)) (pc + 3) ls st f) : S em b d k n Y sh R m pc ls (.int c :: .int dp :: .ref kk :: .int sp :: .ref k0 :: st) f :=
  o_copyi hd hw hw1 hw2 hw3 hs0 hs (cpk_ok hc).1 (cpk_ok hc).2.1 (cpk_ok hc).2.2.1 (cpk_ok hc).2.2.2.1 (cpk_ok hc).2.2.2.2 hd1 hcat nfw g
theorem o_cpl {k0 n0 : Nat} {sp dp c : Int32} (hd : decode Y.2.1 pc = .ok (.invokestatic idx, 3)) (hw : Cond.methodLink Y.1.cls idx arraycopyName ∈ tW) (hw1 : Cond.native arraycopyName ∈ tW) (hw2 : Cond.static arraycopyName ∈ tW) (hw3 : Cond.initialized "java/lang/System" ∈ tW)
    (hs0 : sh[k0]? = some (1, n0)) (hs : sh[kk]? = some (1, nn)) (hc : cpk sp dp c n0 nn = true) (hd1 : 1 ≤ d) (hcat : (st.map fun v => v.category).sum ≤ 8)
    (g : S em b d k n Y sh R (mJ m kk (va_cpy (m.2 k0) (m.2 kk) sp.toNatClampNeg dp.toNatClampNeg c.toNatClampNeg)) (pc + 3) ls st f) : S em b d k n Y sh R m pc ls (.int c :: .int dp :: .ref kk :: .int sp :: .ref k0 :: st) f :=
  o_copyl hd hw hw1 hw2 hw3 hs0 hs (cpk_ok hc).1 (cpk_ok hc).2.1 (cpk_ok hc).2.2.1 (cpk_ok hc).2.2.2.1 (cpk_ok hc).2.2.2.2 hd1 hcat nfw g
end HH
