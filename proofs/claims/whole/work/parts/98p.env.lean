/-! WHAT HOLDS BEFORE THE LAW (printed by wip/whole/lawt.py) -/
theorem ao_prim {t : FieldType} {s : State} {A : Array Value} (h : (Cond.arrayClass t).before A s = true) (hm : ∀ cA, s.vm.findClass ("[" ++ t.toString) = some cA → va_RA s cA t) : ∃ cA, ArrOfT s cA t ∧ va_RA s cA t := by
  obtain ⟨c, k, comp, h1, h2, h3⟩ := Cond.arrayClass_spec h
  exact ⟨c, fun N z => ⟨fun k h => (by cases h), k, h2, comp, h3⟩, hm c h1⟩
theorem env_K {s : State} {b : Nat} (hts : ∀ w ∈ lw_tbl, w.before #[Value.ref b] s = true) : ∃ E : EV, Wk E s := by
  have hW := tW_ok hts
  have h0 : ∀ k : Nat, ∃ p : ClassId × (Nat → Nat), ∀ q : vw_C, cls8[k]? = some q → u_Kn s q.1 q.2.1 q.2.2 p.1 p.2 := by
    intro k
    match k with
    | 0 =>
      obtain ⟨cC, iS, hK⟩ := u_known (C := RX0) (T := TX0) (N := 5) (n := 5) hW (in8 (ci := 0) rfl) (hW _ k_250)
      exact ⟨(cC, iS), fun q hq => by cases hq; exact hK⟩
    | 1 =>
      obtain ⟨cC, iS, hK⟩ := u_known (C := RX1) (T := TX1) (N := 3) (n := 3) hW (in8 (ci := 1) rfl) (hW _ k_105)
      exact ⟨(cC, iS), fun q hq => by cases hq; exact hK⟩
    | 2 =>
      obtain ⟨cC, iS, hK⟩ := u_known (C := RX2) (T := TX2) (N := 7) (n := 7) hW (in8 (ci := 2) rfl) (hW _ k_220)
      exact ⟨(cC, iS), fun q hq => by cases hq; exact hK⟩
    | 3 =>
      obtain ⟨cC, iS, hK⟩ := u_known (C := RX3) (T := TX3) (N := 6) (n := 6) hW (in8 (ci := 3) rfl) (hW _ k_193)
      exact ⟨(cC, iS), fun q hq => by cases hq; exact hK⟩
    | 4 =>
      obtain ⟨cC, iS, hK⟩ := u_known (C := RX4) (T := TX4) (N := 3) (n := 3) hW (in8 (ci := 4) rfl) (hW _ k_275)
      exact ⟨(cC, iS), fun q hq => by cases hq; exact hK⟩
    | 5 =>
      obtain ⟨cC, iS, hK⟩ := u_known (C := RX5) (T := TX5) (N := 17) (n := 17) hW (in8 (ci := 5) rfl) (hW _ k_97)
      exact ⟨(cC, iS), fun q hq => by cases hq; exact hK⟩
    | 6 =>
      obtain ⟨cC, iS, hK⟩ := u_known (C := RX6) (T := TX6) (N := 10) (n := 10) hW (in8 (ci := 6) rfl) (hW _ k_89)
      exact ⟨(cC, iS), fun q hq => by cases hq; exact hK⟩
    | 7 =>
      obtain ⟨cC, iS, hK⟩ := u_known (C := RX7) (T := TX7) (N := 69) (n := 69) hW (in8 (ci := 7) rfl) (hW _ k_854)
      exact ⟨(cC, iS), fun q hq => by cases hq; exact hK⟩
    | k + 8 => exact ⟨(0, fun _ => 0), fun q hq => by simp [cls8] at hq⟩
  obtain ⟨f, hf⟩ := Classical.axiomOfChoice h0
  obtain ⟨a0, r0⟩ := ao_prim (t := .int) (hW _ k_122) (fun cA h => h)
  obtain ⟨a1, r1⟩ := ao_prim (t := .long) (hW _ k_218) (fun cA h => h)
  obtain ⟨a2, r2⟩ := ao_prim (t := .boolean) (hW _ k_1091) (fun cA h => h)
  obtain ⟨comp, a3, kA, hcomp, -, hkA, hkind, hname⟩ := Cond.arrayOver_spec (show (Cond.arrayOver (.object RX4)).before #[Value.ref b] s = true from (hts _ (List.mem_of_getElem? (i := 274) (by decide +kernel))))
  obtain ⟨comp4, a4, kB, -, -, hkB, hkind4, hname4⟩ := arrayOverA_spec (show (Cond.arrayOver (.array .int)).before #[Value.ref b] s = true from (hts _ (List.mem_of_getElem? (i := 103) (by decide +kernel))))
  refine ⟨((fun k => (f k).1, fun k => (f k).2), fun i => if i = 0 then a0 else if i = 1 then a1 else if i = 2 then a2 else if i = 3 then a3 else a4), fun k q hq => hf k q hq, fun k q hq => ?_⟩
  match k, hq with
  | 0, hq => cases hq; exact r0
  | 1, hq => cases hq; exact r1
  | 2, hq => cases hq; exact r2
  | 3, hq => cases hq; exact ⟨fun N z => ⟨fun k h => (by cases h), kA, hkA, comp, hkind⟩, kA, comp, hkA, hkind, hcomp, hname⟩
  | 4, hq => cases hq; exact ⟨fun N z => ⟨fun k h => (by cases h), kB, hkB, comp4, hkind4⟩, hname4⟩
  | k + 5, hq => simp [tyL] at hq
