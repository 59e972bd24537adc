/-! STRING CONSTANTS -/
theorem St_vkS {ad : Nat → Nat} {A : Nat → Prop} {U : State} {H : Heap} (h : St ad A U H) : vk_S 6 sLen sByt (fun i => ad (1010 + i)) (fun i => ad (1020 + i)) A U H := h.2.2.2.2.2.2.1
section SQ
variable {ρ : Type} {em : EM ρ} {b : Bool} {d k n : Nat} {Y : YD} {sh : Sh} {R : RR} {m : MI} {pc : Nat} {ls : List (Nat × Value)} {st : List Value} {f : Option ρ} {idx : Nat}
theorem o_ldcS (i : Nat) (hi : i < 6) (hY : Y.1.cls = RX2) (hd : decode Y.2.1 pc = .ok (.ldc (sIx i), 2)) (g : S em b d k n Y sh R m (pc + 2) ls (.ref (1010 + i) :: st) f) : S em b d k n Y sh R m pc ls st f :=
  S_read (fun hC hW hS kx => va_ldcS (own := RX2) (tx := sTx i) hC.1 hC.2.1 (hY ▸ hC.2.2.2.1) (hC.2.2.2.2.2.2.2.2.2.1.2.2.2.2.2.2.2.1 i hi) hd kx) g
theorem o_getSV (i : Nat) (hi : i < 6) (hd : decode Y.2.1 pc = .ok (.getfield idx, 3)) (hw : Cond.fieldLink Y.1.cls idx "java/lang/String" "value" "[B" ∈ tW) (g : S em b d k n Y sh R m (pc + 3) ls (.ref (1020 + i) :: st) f) : S em b d k n Y sh R m pc ls (.ref (1010 + i) :: st) f :=
  S_read (fun hC hW hS kx => vk_getf (ref := "java/lang/String") hC.1 hC.2.1 ((St_vkS hC.2.2.2.2.2.2.2.2.2.1).1 i hi).2.2.1 hS hC.2.2.2.1 (hC.2.2.2.2.1 _ hw) (fun _ h => h) hd kx) g
theorem o_getSC (i : Nat) (hi : i < 6) (hd : decode Y.2.1 pc = .ok (.getfield idx, 3)) (hw : Cond.fieldLink Y.1.cls idx "java/lang/String" "coder" "B" ∈ tW) (g : S em b d k n Y sh R m (pc + 3) ls (.int 0 :: st) f) : S em b d k n Y sh R m pc ls (.ref (1010 + i) :: st) f :=
  S_read (fun hC hW hS kx => vk_getf (ref := "java/lang/String") hC.1 hC.2.1 ((St_vkS hC.2.2.2.2.2.2.2.2.2.1).1 i hi).2.1 hS hC.2.2.2.1 (hC.2.2.2.2.1 _ hw) (fun _ h => h) hd kx) g
theorem o_alenS (i : Nat) (hi : i < 6) {v : Int32} (hv : Int32.ofNat (sLen.getD i 0) = v) (hd : decode Y.2.1 pc = .ok (.arraylength, 1)) (g : S em b d k n Y sh R m (pc + 1) ls (.int v :: st) f) : S em b d k n Y sh R m pc ls (.ref (1020 + i) :: st) f :=
  S_read (fun hC hW hS kx => va_tlen hC.1 hC.2.1 ((St_vkS hC.2.2.2.2.2.2.2.2.2.1).1 i hi).2.2.2 hS hv hd kx) g
theorem o_baldS (i : Nat) (hi : i < 6) {x : Int32} {nn : Nat} (hn : sLen.getD i 0 = nn) (hin : vp_in x nn) (hd : decode Y.2.1 pc = .ok (.baload, 1)) (g : S em b d k n Y sh R m (pc + 1) ls (.int ((sByt.getD i []).getD x.toNatClampNeg 0) :: st) f) : S em b d k n Y sh R m pc ls (.int x :: .ref (1020 + i) :: st) f :=
  S_read (fun hC hW hS kx => va_tb hC.1 hC.2.1 ((St_vkS hC.2.2.2.2.2.2.2.2.2.1).1 i hi).2.2.2 hS (hn ▸ hin) rfl hd kx) g
theorem o_getsF (hd : decode Y.2.1 pc = .ok (.getstatic idx, 3)) (hw : Cond.fieldLink Y.1.cls idx RJ3 "SIOOBE_FORMATTER" "Ljava/util/function/BiFunction;" ∈ tW) (g1 : S em b d k n Y sh R m (pc + 3) ls (.null :: st) f) (g2 : S em b d k n Y sh R m (pc + 3) ls (.ref 1030 :: st) f) : S em b d k n Y sh R m pc ls st f := fun r hr => by
  intro p l e s m0 args below meth c H locs cells slots E ad0 n0 ad A larr mc ms hC hAg hn hW hS hl hk hs
  rcases hC.2.2.2.2.2.2.2.2.2.1.2.2.2.2.2.1 with h | h
  · exact va_gets (ref := RJ3) hC.1 hC.2.1 h hS hC.2.2.2.1 (hC.2.2.2.2.1 _ hw) (fun _ h => h) hd (g1 r hr p l e s m0 args below meth c H locs cells slots E ad0 n0 ad A larr mc ms hC hAg hn hW hS hl hk hs)
  · exact va_gets (ref := RJ3) hC.1 hC.2.1 h hS hC.2.2.2.1 (hC.2.2.2.2.1 _ hw) (fun _ h => h) hd (g2 r hr p l e s m0 args below meth c H locs cells slots E ad0 n0 ad A larr mc ms hC hAg hn hW hS hl hk hs)
def CMs (Y2 : YD) (np : Nat) : Prop := Y2.1.cls = RJ0 ∧ Cond.instanceMethod Y2.1 ∈ tW ∧ Cond.selects RJ0 Y2.1 Y2.1 ∈ tW ∧ Cond.initialized RJ0 ∈ tW ∧ Cond.code Y2.1 Y2.2.1 Y2.2.2.1 Y2.2.2.2 ∈ tW ∧ (Y2.1.cls ≠ "java/lang/invoke/MethodHandle" ∧ Y2.1.cls ≠ "java/lang/invoke/VarHandle" ∧ (parseMethodDescriptor Y2.1.desc).map (fun d => d.parameters.length) = some np) ∧ Y2.2.2.1 ≤ 45
/-- a method of String, at a constant: it makes nothing -/
theorem o_callVT {np d2 : Nat} {Y2 : YD} {av rest : List Value} {g2 : Option (Int32 × MI)} {ko : Int32 × MI → Option ρ} (i : Nat) (hi : i < 6) (hd : decode Y.2.1 pc = .ok (.invokevirtual idx, 3)) (hlink : Cond.methodLink Y.1.cls idx Y2.1 ∈ tW) (hM : CMs Y2 np) (hK : KS (eI sh R) false d2 0 0 Y2 sh R m (.ref (1010 + i) :: av) g2) (hav : av.length = np) (hst : st = av.reverse ++ .ref (1010 + i) :: rest) (hcat : (rest.map fun v => v.category).sum ≤ 8) (hd2 : d2 + 1 ≤ d)
    (g : ∀ r : Int32 × MI, S em b d k n Y sh R r.2 (pc + 3) ls (.int r.1 :: rest) (ko r)) : S em b d k n Y sh R m pc ls st (g2.bind ko) := by
  intro r hr
  obtain ⟨r2, h1, h2⟩ := Option.bind_eq_some_iff.mp hr
  obtain ⟨hq, hinst, hsel, hini, hcode, hx, hml⟩ := hM
  have hK2 := hK r2 h1
  refine G_call (b2 := false) (k2 := 0) (n2 := 0) (av := .ref (1010 + i) :: av) (rest := rest) ?_ (Or.inl rfl) (Nat.zero_le _) (Nat.zero_le _) (Q2 := fun v sh' M' => (v, sh', M') = eI sh R r2) (fun v sh' M' e _ => ?_)
  · intro p l e R0 s m0 args below meth c H locs cells slots larr E ad A hC hW hS hsz hRf hRl hroom
    have hT := hC.2.2.2.2.1
    have hcw : CallW R0 s args Y.1.cls RJ0 idx Y2.1 Y2.2.1 Y2.2.2.1 Y2.2.2.2 (.code Y2.1 Y2.2.1 Y2.2.2.1 Y2.2.2.2 :: tW) (rmK d2 0 0) 0 0 np :=
      cwV np hT (good_cons hlink (good_cons hinst (good_cons hsel (good_cons hini (good_cons hcode tW_good))))) rfl rfl rfl ⟨hq, hx⟩ ⟨by rw [hRf]; exact hd2, by rw [hRl]; show 8 + (Y2.2.2.1 + 11) + 64 * d2 ≤ 64 * d; omega⟩
    have hrec := vk_recv (St_vkS hC.2.2.2.2.2.2.2.2.2.1) hi hS
    exact va_runV (As := av.map (cV ad)) (b := ad (1010 + i)) ⟨hC.1, hC.2.1, hC.2.2.1, hC.2.2.2.1, hT⟩ (hK2 l E ad H.size) hcw ⟨pc_blind, hrec, pc_here (av := .ref (1010 + i) :: av) hC hW hS⟩ rfl (by rw [List.length_map]; exact hav) hsz
      (by show st.map (cV ad) = _; rw [hst, List.map_append, List.map_reverse]; rfl) (by show 2 * 0 + _ ≤ 8; rw [List.map_map]; simpa [Function.comp_def, cV_cat] using hcat) hd hroom
  · simp only [eI, Prod.mk.injEq] at e
    obtain ⟨rfl, rfl, rfl⟩ := e
    exact g r2 r h2
end SQ
