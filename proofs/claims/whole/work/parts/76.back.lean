theorem M_bak (m0 : MI) : ∃ g : Nat → Int32, (∀ i, i < 6 → g i = m0.1 82 i) ∧ (∀ i, 6 ≤ i → g i = m0.1 64 i) ∧ fM_putBack m0 = some (mI (mI m0 61 (upd (upd (upd (m0.1 61) 2 (m0.1 61 37)) 3 (m0.1 61 38)) 4 (m0.1 61 39))) 64 g) := by
  obtain ⟨F, hF1⟩ : ∃ F : Nat, F = 1000 := ⟨_, rfl⟩
  have key : ∀ (q k f : Nat) (m : MI), k + q = 6 → q < f → ∃ g : Nat → Int32, (∀ i, k ≤ i → i < 6 → g i = m.1 82 i) ∧ (∀ i, i < k ∨ 6 ≤ i → g i = m.1 64 i) ∧ fM_putBack_l26 (fun m2 _ => some m2) f m (nI k) = some (mI m 64 g) := by
    intro q
    induction q with
    | zero =>
      intro k f m hk hf
      obtain ⟨f', rfl, -⟩ := fu hf
      refine ⟨m.1 64, fun i _ _ => by omega, fun _ _ => rfl, ?_⟩
      rw [fM_putBack_l26, if_pos (show (6 : Int32) ≤ nI k from nI_le (a := 6) (by omega) (by omega)), mI_id]
    | succ q ih =>
      intro k f m hk hf
      obtain ⟨f', rfl, hf'⟩ := fu hf
      obtain ⟨g, g1, g2, g3⟩ := ih (k + 1) f' (mI m 64 (upd (m.1 64) k (m.1 82 k))) (by omega) (hf' q rfl)
      refine ⟨g, fun i h1 h2 => ?_, fun i hi => ?_, ?_⟩
      · by_cases e : i = k
        · subst e; rw [g2 i (by omega), mI_s, upd_s]
        · rw [g1 i (by omega) h2, mI_n (by decide)]
      · rw [g2 i (by omega), mI_s, upd_n (by omega)]
      · rw [fM_putBack_l26, if_neg (show ¬ (6 : Int32) ≤ nI k from not_le_nI (n := 6) (by omega) (by omega))]
        simp only [ck_nI (show k < 6 by omega) (show 6 ≤ 100000 by omega), cl_nI (show k < 100000 by omega), if_true, lm, lt, nI_1]
        rw [g3, mI_mI]
  obtain ⟨g, g1, g2, g3⟩ := key 6 0 F (mI m0 61 (upd (upd (upd (m0.1 61) 2 (m0.1 61 37)) 3 (m0.1 61 38)) 4 (m0.1 61 39))) (by omega) (by omega)
  refine ⟨g, fun i hi => by rw [g1 i (by omega) hi, mI_n (by decide)], fun i hi => by rw [g2 i (Or.inr hi), mI_n (by decide)], ?_⟩
  unfold fM_putBack
  rw [← hF1]
  simp only [lm, mI_s, mI_mI, upd_n (show (38 : Nat) ≠ 2 by decide), upd_n (show (39 : Nat) ≠ 3 by decide), upd_n (show (39 : Nat) ≠ 2 by decide)]
  exact g3
