/-! CALLS AT THE LEVEL OF S: callees that make nothing -/
def CMo (Y2 : YD) (ci np : Nat) : Prop := ∃ q : vw_C, cls8[ci]? = some q ∧ Y2.1.cls = q.1 ∧ Cond.instanceMethod Y2.1 ∈ tW ∧ Cond.selects q.1 Y2.1 Y2.1 ∈ tW ∧ Cond.initialized q.1 ∈ tW ∧ Cond.code Y2.1 Y2.2.1 Y2.2.2.1 Y2.2.2.2 ∈ tW ∧ (Y2.1.cls ≠ "java/lang/invoke/MethodHandle" ∧ Y2.1.cls ≠ "java/lang/invoke/VarHandle" ∧ (parseMethodDescriptor Y2.1.desc).map (fun d => d.parameters.length) = some np) ∧ Y2.2.2.1 ≤ 45
def CSo (Y2 : YD) (np : Nat) : Prop := Cond.static Y2.1 ∈ tW ∧ Cond.initialized Y2.1.cls ∈ tW ∧ Cond.code Y2.1 Y2.2.1 Y2.2.2.1 Y2.2.2.2 ∈ tW ∧ (Y2.1.cls ≠ "java/lang/invoke/MethodHandle" ∧ Y2.1.cls ≠ "java/lang/invoke/VarHandle" ∧ (parseMethodDescriptor Y2.1.desc).map (fun d => d.parameters.length) = some np) ∧ Y2.2.2.1 ≤ 45
section CC
variable {ρ : Type} {em : EM ρ} {b : Bool} {d k n : Nat} {Y : YD} {sh : Sh} {R : RR} {m : MI} {pc : Nat} {ls : List (Nat × Value)} {st : List Value}
variable {ci idx rk nn d2 np : Nat} {Y2 : YD} {av rest : List Value}
theorem S_callV {ρ2 : Type} {em2 : EM ρ2} {g2 : Option ρ2} {ko : ρ2 → Option ρ} (hd : decode Y.2.1 pc = .ok (.invokevirtual idx, 3)) (hlink : Cond.methodLink Y.1.cls idx Y2.1 ∈ tW) (hM : CMo Y2 ci np) (hK : KS em2 false d2 0 0 Y2 sh R m (.ref rk :: av) g2) (hs : sh[rk]? = some (10 + ci, nn)) (hav : av.length = np) (hst : st = av.reverse ++ .ref rk :: rest) (hcat : (rest.map fun v => v.category).sum ≤ 8) (hd2 : d2 + 1 ≤ d)
    (g : ∀ (r : ρ2) (v : Option Value) (sh' : Sh) (M' : MM), (v, sh', M') = em2 r → ∀ r', ko r = some r' → G b d k n Y sh' M' (pc + 3) ls (v.toList ++ rest) (fun v sh' M' => (v, sh', M') = em r')) : S em b d k n Y sh R m pc ls st (g2.bind ko) := by
  intro r hr
  obtain ⟨r2, h1, h2⟩ := Option.bind_eq_some_iff.mp hr
  obtain ⟨q, hc, hq, hinst, hsel, hini, hcode, hx, hml⟩ := hM
  exact G_callV hd (hK r2 h1) hs hc hq hlink hinst hsel hini hcode hx hav hst hcat hd2 hml (Or.inl rfl) (Nat.zero_le _) (Nat.zero_le _) (fun v sh' M' e _ => g r2 v sh' M' e r h2)
theorem S_callS {ρ2 : Type} {em2 : EM ρ2} {g2 : Option ρ2} {ko : ρ2 → Option ρ} (hd : decode Y.2.1 pc = .ok (.invokestatic idx, 3)) (hlink : Cond.methodLink Y.1.cls idx Y2.1 ∈ tW) (hM : CSo Y2 np) (hK : KS em2 false d2 0 0 Y2 sh R m av g2) (hav : av.length = np) (hst : st = av.reverse ++ rest) (hcat : (rest.map fun v => v.category).sum ≤ 8) (hd2 : d2 + 1 ≤ d)
    (g : ∀ (r : ρ2) (v : Option Value) (sh' : Sh) (M' : MM), (v, sh', M') = em2 r → ∀ r', ko r = some r' → G b d k n Y sh' M' (pc + 3) ls (v.toList ++ rest) (fun v sh' M' => (v, sh', M') = em r')) : S em b d k n Y sh R m pc ls st (g2.bind ko) := by
  intro r hr
  obtain ⟨r2, h1, h2⟩ := Option.bind_eq_some_iff.mp hr
  obtain ⟨hstat, hini, hcode, hx, hml⟩ := hM
  exact G_callS hd (hK r2 h1) hlink hstat hini hcode hx hav hst hcat hd2 hml (Or.inl rfl) (Nat.zero_le _) (Nat.zero_le _) (fun v sh' M' e _ => g r2 v sh' M' e r h2)
theorem o_callVI {g2 : Option (Int32 × MI)} {ko : Int32 × MI → Option ρ} (hd : decode Y.2.1 pc = .ok (.invokevirtual idx, 3)) (hlink : Cond.methodLink Y.1.cls idx Y2.1 ∈ tW) (hM : CMo Y2 ci np) (hK : KS (eI sh R) false d2 0 0 Y2 sh R m (.ref rk :: av) g2) (hs : sh[rk]? = some (10 + ci, nn)) (hav : av.length = np) (hst : st = av.reverse ++ .ref rk :: rest) (hcat : (rest.map fun v => v.category).sum ≤ 8) (hd2 : d2 + 1 ≤ d)
    (g : ∀ r : Int32 × MI, S em b d k n Y sh R r.2 (pc + 3) ls (.int r.1 :: rest) (ko r)) : S em b d k n Y sh R m pc ls st (g2.bind ko) :=
  S_callV hd hlink hM hK hs hav hst hcat hd2 (fun r v sh' M' e r' h => by
    simp only [eI, Prod.mk.injEq] at e
    obtain ⟨rfl, rfl, rfl⟩ := e
    exact g r r' h)
theorem o_callSI {g2 : Option (Int32 × MI)} {ko : Int32 × MI → Option ρ} (hd : decode Y.2.1 pc = .ok (.invokestatic idx, 3)) (hlink : Cond.methodLink Y.1.cls idx Y2.1 ∈ tW) (hM : CSo Y2 np) (hK : KS (eI sh R) false d2 0 0 Y2 sh R m av g2) (hav : av.length = np) (hst : st = av.reverse ++ rest) (hcat : (rest.map fun v => v.category).sum ≤ 8) (hd2 : d2 + 1 ≤ d)
    (g : ∀ r : Int32 × MI, S em b d k n Y sh R r.2 (pc + 3) ls (.int r.1 :: rest) (ko r)) : S em b d k n Y sh R m pc ls st (g2.bind ko) :=
  S_callS hd hlink hM hK hav hst hcat hd2 (fun r v sh' M' e r' h => by
    simp only [eI, Prod.mk.injEq] at e
    obtain ⟨rfl, rfl, rfl⟩ := e
    exact g r r' h)
theorem o_callVL {g2 : Option (Int64 × MI)} {ko : Int64 × MI → Option ρ} (hd : decode Y.2.1 pc = .ok (.invokevirtual idx, 3)) (hlink : Cond.methodLink Y.1.cls idx Y2.1 ∈ tW) (hM : CMo Y2 ci np) (hK : KS (eL sh R) false d2 0 0 Y2 sh R m (.ref rk :: av) g2) (hs : sh[rk]? = some (10 + ci, nn)) (hav : av.length = np) (hst : st = av.reverse ++ .ref rk :: rest) (hcat : (rest.map fun v => v.category).sum ≤ 8) (hd2 : d2 + 1 ≤ d)
    (g : ∀ r : Int64 × MI, S em b d k n Y sh R r.2 (pc + 3) ls (.long r.1 :: rest) (ko r)) : S em b d k n Y sh R m pc ls st (g2.bind ko) :=
  S_callV hd hlink hM hK hs hav hst hcat hd2 (fun r v sh' M' e r' h => by
    simp only [eL, Prod.mk.injEq] at e
    obtain ⟨rfl, rfl, rfl⟩ := e
    exact g r r' h)
theorem o_callSL {g2 : Option (Int64 × MI)} {ko : Int64 × MI → Option ρ} (hd : decode Y.2.1 pc = .ok (.invokestatic idx, 3)) (hlink : Cond.methodLink Y.1.cls idx Y2.1 ∈ tW) (hM : CSo Y2 np) (hK : KS (eL sh R) false d2 0 0 Y2 sh R m av g2) (hav : av.length = np) (hst : st = av.reverse ++ rest) (hcat : (rest.map fun v => v.category).sum ≤ 8) (hd2 : d2 + 1 ≤ d)
    (g : ∀ r : Int64 × MI, S em b d k n Y sh R r.2 (pc + 3) ls (.long r.1 :: rest) (ko r)) : S em b d k n Y sh R m pc ls st (g2.bind ko) :=
  S_callS hd hlink hM hK hav hst hcat hd2 (fun r v sh' M' e r' h => by
    simp only [eL, Prod.mk.injEq] at e
    obtain ⟨rfl, rfl, rfl⟩ := e
    exact g r r' h)
theorem o_callVV {g2 : Option (MI)} {ko : MI → Option ρ} (hd : decode Y.2.1 pc = .ok (.invokevirtual idx, 3)) (hlink : Cond.methodLink Y.1.cls idx Y2.1 ∈ tW) (hM : CMo Y2 ci np) (hK : KS (eV sh R) false d2 0 0 Y2 sh R m (.ref rk :: av) g2) (hs : sh[rk]? = some (10 + ci, nn)) (hav : av.length = np) (hst : st = av.reverse ++ .ref rk :: rest) (hcat : (rest.map fun v => v.category).sum ≤ 8) (hd2 : d2 + 1 ≤ d)
    (g : ∀ r : MI, S em b d k n Y sh R r (pc + 3) ls (rest) (ko r)) : S em b d k n Y sh R m pc ls st (g2.bind ko) :=
  S_callV hd hlink hM hK hs hav hst hcat hd2 (fun r v sh' M' e r' h => by
    simp only [eV, Prod.mk.injEq] at e
    obtain ⟨rfl, rfl, rfl⟩ := e
    exact g r r' h)
theorem o_callSV {g2 : Option (MI)} {ko : MI → Option ρ} (hd : decode Y.2.1 pc = .ok (.invokestatic idx, 3)) (hlink : Cond.methodLink Y.1.cls idx Y2.1 ∈ tW) (hM : CSo Y2 np) (hK : KS (eV sh R) false d2 0 0 Y2 sh R m av g2) (hav : av.length = np) (hst : st = av.reverse ++ rest) (hcat : (rest.map fun v => v.category).sum ≤ 8) (hd2 : d2 + 1 ≤ d)
    (g : ∀ r : MI, S em b d k n Y sh R r (pc + 3) ls (rest) (ko r)) : S em b d k n Y sh R m pc ls st (g2.bind ko) :=
  S_callS hd hlink hM hK hav hst hcat hd2 (fun r v sh' M' e r' h => by
    simp only [eV, Prod.mk.injEq] at e
    obtain ⟨rfl, rfl, rfl⟩ := e
    exact g r r' h)
theorem o_callVQ {g2 : Option (Option Nat × MI)} {ko : Option Nat × MI → Option ρ} (hd : decode Y.2.1 pc = .ok (.invokevirtual idx, 3)) (hlink : Cond.methodLink Y.1.cls idx Y2.1 ∈ tW) (hM : CMo Y2 ci np) (hK : KS (eQ sh R) false d2 0 0 Y2 sh R m (.ref rk :: av) g2) (hs : sh[rk]? = some (10 + ci, nn)) (hav : av.length = np) (hst : st = av.reverse ++ .ref rk :: rest) (hcat : (rest.map fun v => v.category).sum ≤ 8) (hd2 : d2 + 1 ≤ d)
    (g : ∀ r : Option Nat × MI, S em b d k n Y sh R r.2 (pc + 3) ls (va_rf r.1 :: rest) (ko r)) : S em b d k n Y sh R m pc ls st (g2.bind ko) :=
  S_callV hd hlink hM hK hs hav hst hcat hd2 (fun r v sh' M' e r' h => by
    simp only [eQ, Prod.mk.injEq] at e
    obtain ⟨rfl, rfl, rfl⟩ := e
    exact g r r' h)
theorem o_callSQ {g2 : Option (Option Nat × MI)} {ko : Option Nat × MI → Option ρ} (hd : decode Y.2.1 pc = .ok (.invokestatic idx, 3)) (hlink : Cond.methodLink Y.1.cls idx Y2.1 ∈ tW) (hM : CSo Y2 np) (hK : KS (eQ sh R) false d2 0 0 Y2 sh R m av g2) (hav : av.length = np) (hst : st = av.reverse ++ rest) (hcat : (rest.map fun v => v.category).sum ≤ 8) (hd2 : d2 + 1 ≤ d)
    (g : ∀ r : Option Nat × MI, S em b d k n Y sh R r.2 (pc + 3) ls (va_rf r.1 :: rest) (ko r)) : S em b d k n Y sh R m pc ls st (g2.bind ko) :=
  S_callS hd hlink hM hK hav hst hcat hd2 (fun r v sh' M' e r' h => by
    simp only [eQ, Prod.mk.injEq] at e
    obtain ⟨rfl, rfl, rfl⟩ := e
    exact g r r' h)
end CC
