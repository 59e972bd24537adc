/-! WHAT HOLDS BEFORE THE LAW: statics, String constants (printed by wip/whole/lawu.py) -/
def fwd : List Cond := flatC (Jvm.Cond.and given_1 narrow_1)
set_option maxRecDepth 100000
theorem mA_e : ∀ j, j < 7 → (Cond.eq (.elem (.static RX6 "ABOVE" "[I") (.int (Int32.ofNat j))) (.int (tabA j))) ∈ fwd := by decide +kernel
theorem mB_e : ∀ j, j < 21 → (Cond.eq (.elem (.static RX0 "BODIES" "[I") (.int (Int32.ofNat j))) (.int (tabB j))) ∈ fwd := by decide +kernel
theorem mA_a : (Cond.arrayOf (.static RX6 "ABOVE" "[I") .int) ∈ fwd := by decide +kernel
theorem mB_a : (Cond.arrayOf (.static RX0 "BODIES" "[I") .int) ∈ fwd := by decide +kernel
theorem mA_l : (Cond.eq (.length (.static RX6 "ABOVE" "[I")) (.int (Int32.ofNat 7))) ∈ fwd := by decide +kernel
theorem mB_l : (Cond.eq (.length (.static RX0 "BODIES" "[I")) (.int (Int32.ofNat 21))) ∈ fwd := by decide +kernel
theorem mC_e : (Cond.eq (.static RJ0 "COMPACT_STRINGS" "Z") (.int 1)) ∈ fwd := by decide +kernel
theorem mD_e : (Cond.isRef (.static RJ3 "SIOOBE_FORMATTER" "Ljava/util/function/BiFunction;")) ∈ fwd := by decide +kernel
def stm (i : Nat) : Term := .string RX2 (sIx i)
theorem mQs_1 : ∀ i, i < 6 → (Cond.exactly (stm i) "java/lang/String") ∈ fwd := by decide +kernel
theorem mQs_2 : ∀ i, i < 6 → (Cond.eq (.field (stm i) "java/lang/String" "coder" "B") (.int 0)) ∈ fwd := by decide +kernel
theorem mQs_3 : ∀ i, i < 6 → (Cond.arrayOf (.field (stm i) "java/lang/String" "value" "[B") .byte) ∈ fwd := by decide +kernel
theorem mQs_4 : ∀ i, i < 6 → (Cond.eq (.length (.field (stm i) "java/lang/String" "value" "[B")) (.int (Int32.ofNat (sLen.getD i 0)))) ∈ fwd := by decide +kernel
theorem mQs_5 : ∀ i, i < 6 → ∀ j, j < sLen.getD i 0 → (Cond.eq (.elem (.field (stm i) "java/lang/String" "value" "[B") (.int (Int32.ofNat j))) (.int ((sByt.getD i []).getD j 0))) ∈ fwd := by decide +kernel
theorem mQs_6 : ∀ i, i < 6 → ∀ j, j < 6 → i ≠ j → ((Cond.not (Cond.eq (stm i) (stm j))) ∈ fwd ∨ (Cond.not (Cond.eq (stm j) (stm i))) ∈ fwd) := by decide +kernel
def adE (b tA tB t3 : Nat) (aK aV : Nat → Nat) (j : Nat) : Nat := if j = 1000 then tA else if j = 1001 then tB else if j = 1030 then t3 else if 1010 ≤ j ∧ j < 1016 then aK (j - 1010) else if 1020 ≤ j ∧ j < 1026 then aV (j - 1020) else b
theorem adE_K {b tA tB t3 : Nat} {aK aV : Nat → Nat} {i : Nat} (h : i < 6) : adE b tA tB t3 aK aV (1010 + i) = aK i := by
  unfold adE
  rw [if_neg (by omega), if_neg (by omega), if_neg (by omega), if_pos (by omega), Nat.add_sub_cancel_left]
theorem adE_V {b tA tB t3 : Nat} {aK aV : Nat → Nat} {i : Nat} (h : i < 6) : adE b tA tB t3 aK aV (1020 + i) = aV i := by
  unfold adE
  rw [if_neg (by omega), if_neg (by omega), if_neg (by omega), if_neg (by omega), if_pos (by omega), Nat.add_sub_cancel_left]
theorem env_R {s : State} {b : Nat} (hts : ∀ w ∈ lw_tbl, w.before #[Value.ref b] s = true) : ∀ i, i < 6 → (Cond.stringRef RX2 (sIx i) (sTx i)).before #[Value.ref b] s = true := by
  intro i hi
  rcases c6 hi with rfl | rfl | rfl | rfl | rfl | rfl
  · exact (hts _ (List.mem_of_getElem? (i := 421) (by decide +kernel)))
  · exact (hts _ (List.mem_of_getElem? (i := 478) (by decide +kernel)))
  · exact (hts _ (List.mem_of_getElem? (i := 479) (by decide +kernel)))
  · exact (hts _ (List.mem_of_getElem? (i := 480) (by decide +kernel)))
  · exact (hts _ (List.mem_of_getElem? (i := 497) (by decide +kernel)))
  · exact (hts _ (List.mem_of_getElem? (i := 559) (by decide +kernel)))
theorem env_St {s : State} {b : Nat} (hts : ∀ w ∈ lw_tbl, w.before #[Value.ref b] s = true) (hgv : (Jvm.Cond.and given_1 narrow_1).before #[Value.ref b] s = true) : ∃ ad : Nat → Nat, ad 2000 = b ∧ St ad (fun q => s.heap.size ≤ q) s s.heap := by
  have hs : ∀ w ∈ fwd, w.before #[Value.ref b] s = true := flat_of_before _ hgv
  have hA : ∀ a : Nat, a < s.heap.size → ¬ (fun q => s.heap.size ≤ q) a := fun a h => Nat.not_le.mpr h
  have hW := tW_ok hts
  obtain ⟨tA, eA, TA⟩ := va_Tof (tm := .static RX6 "ABOVE" "[I") (ty := .int) (N := 7) (f := fun j => .int (tabA j)) (by decide) (hs _ mA_a) (va_eqt (hs _ mA_l)) (fun j hj => va_eqt (hs _ (mA_e j hj))) hA
  obtain ⟨tB, eB, TB⟩ := va_Tof (tm := .static RX0 "BODIES" "[I") (ty := .int) (N := 21) (f := fun j => .int (tabB j)) (by decide) (hs _ mB_a) (va_eqt (hs _ mB_l)) (fun j hj => va_eqt (hs _ (mB_e j hj))) hA
  have ZA := va_Zof (C := RX6) (n := "ABOVE") (d := "[I") (hts _ (List.mem_of_getElem? (i := 799) (by decide +kernel))) (hW _ k_72) eA hA
  have ZB := va_Zof (C := RX0) (n := "BODIES") (d := "[I") (hts _ (List.mem_of_getElem? (i := 797) (by decide +kernel))) (hW _ k_77) eB hA
  have ZC := va_Zof (C := RJ0) (n := "COMPACT_STRINGS") (d := "Z") (v := .int 1) (hts _ (List.mem_of_getElem? (i := 435) (by decide +kernel))) (hW _ k_83) (va_eqi (hs _ mC_e)) hA
  obtain ⟨t3, ZD⟩ : ∃ t3 : Nat, va_Zr RJ3 "SIOOBE_FORMATTER" "Ljava/util/function/BiFunction;" t3 (fun q => s.heap.size ≤ q) s s.heap := by
    rcases va_Zqof (C := RJ3) (n := "SIOOBE_FORMATTER") (d := "Ljava/util/function/BiFunction;") (hts _ (List.mem_of_getElem? (i := 451) (by decide +kernel))) (hW _ k_85) (hs _ mD_e) hA with h | ⟨t, h⟩
    · exact ⟨0, Or.inl h⟩
    · exact ⟨t, Or.inr h⟩
  obtain ⟨aK, aV, ZS, eS⟩ := vk_Sof (args := #[Value.ref b]) (s := s) (N := 6) (tm := stm) (len := sLen) (byt := sByt) (by decide +kernel) (fun i hi => hs _ (mQs_1 i hi)) (fun i hi => hs _ (mQs_2 i hi)) (fun i hi => hs _ (mQs_3 i hi)) (fun i hi => hs _ (mQs_4 i hi)) (fun i hi j hj => hs _ (mQs_5 i hi j hj)) (fun i j hi hj hij => (mQs_6 i hi j hj hij).imp (hs _) (hs _)) hA
  refine ⟨adE b tA tB t3 aK aV, rfl, ZA, TA, ZB, TB, ZC, ZD, ⟨fun i hi => ?_, fun i j hi hj e => ?_⟩, fun i hi => ?_, ?_⟩
  · show va_O _ (adE b tA tB t3 aK aV (1010 + i)) _ _ _ ∧ va_OF _ _ _ _ (adE b tA tB t3 aK aV (1010 + i)) _ _ _ ∧ va_OF _ _ _ (.ref (adE b tA tB t3 aK aV (1020 + i))) (adE b tA tB t3 aK aV (1010 + i)) _ _ _ ∧ va_T _ (adE b tA tB t3 aK aV (1020 + i)) _ _ _ _ _
    rw [adE_K hi, adE_V hi]
    exact ZS.1 i hi
  · have e' : adE b tA tB t3 aK aV (1010 + i) = adE b tA tB t3 aK aV (1010 + j) := e
    rw [adE_K hi, adE_K hj] at e'
    exact ZS.2 i j hi hj e'
  · rw [adE_K hi]
    exact vk_R.of (env_R hts i hi) (eS i hi)
  · exact ⟨va_Nw.of rfl (hts _ (List.mem_of_getElem? (i := 798) (by decide +kernel))), va_Nw.of rfl (hts _ (List.mem_of_getElem? (i := 98) (by decide +kernel))), va_Nw.of rfl (hts _ (List.mem_of_getElem? (i := 221) (by decide +kernel))), va_Nw.of rfl (hts _ (List.mem_of_getElem? (i := 251) (by decide +kernel))), va_Nw.of rfl (hts _ (List.mem_of_getElem? (i := 276) (by decide +kernel))), va_AO.of (hts _ (List.mem_of_getElem? (i := 274) (by decide +kernel))), va_AOA.of (hts _ (List.mem_of_getElem? (i := 103) (by decide +kernel)))⟩
/-- the law, from its entry -/
theorem law_start {p : Program} {e : Env} {s : State} {m : MethodId} {below : List Frame} {meth : Method} {c : Code} (l : Launch) {b L : Nat} {xs : Nat → Int32} (hL : L ≤ 3072) (C0 : lw_At p s m meth c b L xs) : W p l e room_1 s m #[Value.ref b] below meth c s.heap [] 0 0 (lw_Z below #[Value.ref b] s) (entryFrame m ([Value.ref b] : List Value).toArray 4) := by
  obtain ⟨E, hK⟩ := env_K C0.2.2.2.2.2.1
  obtain ⟨ad, h2, hSt⟩ := env_St C0.2.2.2.2.2.1 C0.2.2.2.2.2.2.2.2.2
  have hl := lv_entry ([.ref b]) (n := 4) (Nat.le_of_ble_eq_true rfl)
  rw [lg_entry_eq]
  generalize (lg_sl ([.ref b]) ++ List.replicate (4 - (lg_sl ([.ref b])).length) Slot.unset).toArray = ls at hl ⊢
  have hl : lv_has ls 4 [(0, .ref b)] := hl
  have g := L_start (X := (p, l, e, s, m, below, meth, c, b, E)) (L := L) (xs := xs) ⟨C0, hK⟩ hL
  refine g s.heap [] 0 0 ad ls h2 hSt ⟨fun k q h => by simp [cW] at h, ⟨fun i j p q h => by simp [cW] at h, fun k q h => by simp [cW] at h⟩⟩ va_S.rf ?_ (by omega) (by omega)
  show lv_has ls 4 [(0, .ref (ad 2000))]
  rw [h2]
  exact hl
