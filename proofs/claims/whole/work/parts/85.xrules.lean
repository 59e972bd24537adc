/-! the rules of what is made, with the results named; what is made is apart -/
theorem Rok_zR {n n' k : Nat} {R : RR} (h : Rok n R) (hn : n ≤ n') : Rok n' (zR R k) := fun k' i r e => by
  unfold zR at e
  by_cases c : k' = k
  · subst c; rw [ur_s] at e; cases e
  · rw [ur_n c] at e; exact Nat.lt_of_lt_of_le (h k' i r e) hn
theorem Rok_put {n k j v : Nat} {R : RR} (h : Rok n R) (hv : v < n) : Rok n (ur R k (va_up (R k) j (some v))) := fun k' i r e => by
  by_cases c : k' = k
  · subst c
    rw [ur_s] at e
    unfold va_up at e
    split at e
    · cases e; exact hv
    · exact h _ _ _ e
  · rw [ur_n c] at e; exact h _ _ _ e
theorem Rok_7 {n : Nat} {R : RR} (h : Rok n R) : Rok (n + 7) (R7 R n) := fun k i r e => by
  unfold R7 at e
  split at e
  · have := h k i r e; omega
  · split at e
    · cases e
    · split at e
      · by_cases c : i < 6
        · simp only [if_pos c] at e
          cases e; omega
        · simp only [if_neg c] at e
          cases e
      · have := h k i r e; omega
theorem Rok_le {n n' : Nat} {R : RR} (h : Rok n R) (hn : n ≤ n') : Rok n' R := fun k i r e => Nat.lt_of_lt_of_le (h k i r e) hn
def okvB (n : Nat) (v : Value) : Bool := match v with
  | .ref k => decide (k < n) || decide (1000 ≤ k)
  | _ => true
theorem okvB_ok {n : Nat} {v : Value} (h : okvB n v = true) : okv n v := fun k e => by
  subst e
  unfold okvB at h
  simp only [Bool.or_eq_true, decide_eq_true_eq] at h
  exact h
theorem okv_l {n : Nat} {ls : List (Nat × Value)} (h : ls.all (fun q => okvB n q.2) = true) : ∀ q ∈ ls, okv n q.2 := fun q hq => okvB_ok (List.all_eq_true.mp h q hq)
theorem okv_s {n : Nat} {ls : List Value} (h : ls.all (fun q => okvB n q) = true) : ∀ q ∈ ls, okv n q := fun q hq => okvB_ok (List.all_eq_true.mp h q hq)
section XR
variable {ρ : Type} {em : EM ρ} {d k n : Nat} {Y : YD} {sh sh' : Sh} {R : RR} {m : MI} {pc : Nat} {ls : List (Nat × Value)} {st : List Value} {f : Option ρ} {ci idx L : Nat} {q : vw_C}
theorem x_new (k' n' : Nat) (hL : sh.length = L) (hs' : sh ++ [(10 + ci, 0)] = sh') (hd : decode Y.2.1 pc = .ok (.new idx, 3)) (hc : cls8[ci]? = some q) (hw : Cond.classLink Y.1.cls idx q.1 ∈ tW) (hw1 : Cond.instantiable q.1 q.2.2 ∈ tW) (hw2 : Cond.initialized q.1 ∈ tW)
    (hR : Rok L R) (hlen : L < 1000) (hls : ∀ v ∈ ls, okv L v.2) (hst : ∀ v ∈ st, okv L v) (hk : k' + 1 ≤ k) (hn : n' + q.2.2 ≤ n)
    (g : S em true d k' n' Y sh' (zR R L) (zI m L) (pc + 3) ls (.ref L :: st) f) : S em true d k n Y sh R m pc ls st f := by
  subst hL; subst hs'
  exact o_new k' n' hd hc hw hw1 hw2 hR hlen hls hst hk hn g
theorem x_newI (k' n' : Nat) {v : Int32} {N : Nat} (hL : sh.length = L) (hs' : sh ++ [(0, N)] = sh') (hd : decode Y.2.1 pc = .ok (.newarray .int, 2)) (hw : Cond.arrayClass .int ∈ tW) (h0 : ¬ v < 0) (hN : v.toNatClampNeg = N) (hb : N ≤ 1000)
    (hR : Rok L R) (hlen : L < 1000) (hls : ∀ v ∈ ls, okv L v.2) (hst : ∀ v ∈ st, okv L v) (hk : k' + 1 ≤ k) (hn : n' + N ≤ n)
    (g : S em true d k' n' Y sh' (zR R L) (zI m L) (pc + 2) ls (.ref L :: st) f) : S em true d k n Y sh R m pc ls (.int v :: st) f := by
  subst hL; subst hs'
  exact o_newI k' n' hd hw h0 hN hb hR hlen hls hst hk hn g
theorem x_newZ (k' n' : Nat) {v : Int32} {N : Nat} (hL : sh.length = L) (hs' : sh ++ [(2, N)] = sh') (hd : decode Y.2.1 pc = .ok (.newarray .boolean, 2)) (hw : Cond.arrayClass .boolean ∈ tW) (h0 : ¬ v < 0) (hN : v.toNatClampNeg = N) (hb : N ≤ 1000)
    (hR : Rok L R) (hlen : L < 1000) (hls : ∀ v ∈ ls, okv L v.2) (hst : ∀ v ∈ st, okv L v) (hk : k' + 1 ≤ k) (hn : n' + N ≤ n)
    (g : S em true d k' n' Y sh' (zR R L) (zI m L) (pc + 2) ls (.ref L :: st) f) : S em true d k n Y sh R m pc ls (.int v :: st) f := by
  subst hL; subst hs'
  exact o_newZ k' n' hd hw h0 hN hb hR hlen hls hst hk hn g
theorem x_newJ (k' n' : Nat) {v : Int32} {N : Nat} (hL : sh.length = L) (hs' : sh ++ [(1, N)] = sh') (hd : decode Y.2.1 pc = .ok (.newarray .long, 2)) (hw : Cond.arrayClass .long ∈ tW) (h0 : ¬ v < 0) (hN : v.toNatClampNeg = N) (hb : N ≤ 1000)
    (hR : Rok L R) (hlen : L < 1000) (hls : ∀ v ∈ ls, okv L v.2) (hst : ∀ v ∈ st, okv L v) (hk : k' + 1 ≤ k) (hn : n' + N ≤ n)
    (g : S em true d k' n' Y sh' (zR R L) (zI m L) (pc + 2) ls (.ref L :: st) f) : S em true d k n Y sh R m pc ls (.int v :: st) f := by
  subst hL; subst hs'
  exact o_newJ k' n' hd hw h0 hN hb hR hlen hls hst hk hn g
theorem x_newQ (k' n' : Nat) {v : Int32} {N : Nat} (hL : sh.length = L) (hs' : sh ++ [(3, N)] = sh') (hd : decode Y.2.1 pc = .ok (.anewarray idx, 3)) (hw : Cond.classLink Y.1.cls idx RX4 ∈ tW) (h0 : ¬ v < 0) (hN : v.toNatClampNeg = N) (hb : N ≤ 1000)
    (hR : Rok L R) (hlen : L < 1000) (hls : ∀ v ∈ ls, okv L v.2) (hst : ∀ v ∈ st, okv L v) (hk : k' + 1 ≤ k) (hn : n' + N ≤ n)
    (g : S em true d k' n' Y sh' (zR R L) (zI m L) (pc + 3) ls (.ref L :: st) f) : S em true d k n Y sh R m pc ls (.int v :: st) f := by
  subst hL; subst hs'
  exact o_newQ k' n' hd hw h0 hN hb hR hlen hls hst hk hn g
theorem x_mna {qq : Nat} (k' n' : Nat) (hL : sh.length = L) (hq : L + 6 = qq) (hs' : sh ++ sh7 = sh') (hd : decode Y.2.1 pc = .ok (.multianewarray idx 2, 4)) (hw : Cond.classLink Y.1.cls idx "[[I" ∈ tW) (hw2 : Cond.arrayClass .int ∈ tW)
    (hR : Rok L R) (hlen : L < 900) (hls : ∀ v ∈ ls, okv L v.2) (hst : ∀ v ∈ st, okv L v) (hk : k' + 7 ≤ k) (hn : n' + 30 ≤ n)
    (g : S em true d k' n' Y sh' (R7 R L) (mI7 m L) (pc + 4) ls (.ref qq :: st) f) : S em true d k n Y sh R m pc ls (.int 4 :: .int 6 :: st) f := by
  subst hL; subst hs'; subst hq
  exact o_mna k' n' hd hw hw2 hR hlen hls hst hk hn g
theorem x_callV {b : Bool} {d2 np rk nn : Nat} {Y2 : YD} {av rest : List Value} {m' : MI} (hd : decode Y.2.1 pc = .ok (.invokevirtual idx, 3)) (hlink : Cond.methodLink Y.1.cls idx Y2.1 ∈ tW) (hM : CMo Y2 ci np) (hK : KS (eV sh R) false d2 0 0 Y2 sh R m (.ref rk :: av) (some m')) (hs : sh[rk]? = some (10 + ci, nn)) (hav : av.length = np) (hst : st = av.reverse ++ .ref rk :: rest) (hcat : (rest.map fun v => v.category).sum ≤ 8) (hd2 : d2 + 1 ≤ d)
    (g : S em b d k n Y sh R m' (pc + 3) ls rest f) : S em b d k n Y sh R m pc ls st f := fun r hr => by
  obtain ⟨q, hc, hq, hinst, hsel, hini, hcode, hx, hml⟩ := hM
  refine G_callV hd (hK m' rfl) hs hc hq hlink hinst hsel hini hcode hx hav hst hcat hd2 hml (Or.inl rfl) (Nat.zero_le _) (Nat.zero_le _) (fun v sh2 M2 e _ => ?_)
  simp only [eV, Prod.mk.injEq] at e
  obtain ⟨rfl, rfl, rfl⟩ := e
  exact g r hr
end XR
theorem lay0 {m' : MI} (h11 : m'.1 61 11 = -1) (h0 : m'.1 61 0 = 0) : fM_layFist m' = some (mI m' 61 (upd (upd (upd (m'.1 61) 2 1) 3 0) 4 0)) := by
  have key : ∀ m2 : MI, m2.1 61 11 = -1 → fM_wholeShorts m2 = some (nI 1, m2) ∧ ∀ n, n ≤ 6 → m2.1 61 0 = nI n → fM_wholeLongs m2 = some (nI (n + 0 - 1), m2) := fun m2 q => cur_aux (x := 1) (y := 0) (a := 1) (z := 0) (by omega) (by omega) (M_lastN (w := 2) (d := 1) q) (M_lastN (w := 3) (d := 0) q) rfl rfl
  unfold fM_layFist
  rw [(key m' h11).1]
  simp only [Option.bind_some, lm]
  rw [(key (mI m' 61 (upd (m'.1 61) 2 (nI 1))) (by rw [mI_s, upd_n (by decide)]; exact h11)).2 0 (by omega) (by rw [mI_s, upd_n (by decide), h0]; rfl)]
  simp only [Option.bind_some, mI_s, mI_mI]
  rfl
