/-! TWO MEMORIES THAT AGREE WHERE SOMETHING LIES -/
theorem arrV_ext {c : ClassId} {n : Nat} {f g : Nat → Value} (h : ∀ i, i < n → f i = g i) : arrV c n f = arrV c n g := by
  unfold arrV
  congr 1
  congr 1
  funext j
  exact h j.val j.isLt
/-- rows of ints that differ behind their ends alone -/
theorem Wd_ext {E : EV} {ad : Nat → Nat} {sh : Sh} {m m' : MI} {R : RR} {A : Nat → Prop} {H : Heap} (h2 : m'.2 = m.2) (h1 : ∀ k s, sh[k]? = some s → m'.1 k = m.1 k ∨ ((s.1 = 0 ∨ s.1 = 2) ∧ ∀ i, i < s.2 → m'.1 k i = m.1 k i)) (hW : Wd E ad sh (mk m R) A H) : Wd E ad sh (mk m' R) A H := by
  obtain ⟨hP, hD⟩ := hW
  refine ⟨fun k q hq => ?_, ⟨fun i j p q hp hq e => ?_, fun k q hq => ?_⟩⟩
  · obtain ⟨s, hs, rfl⟩ := cW_inv hq
    have h0 := hP k _ (cW_get hs)
    rcases h1 k s hs with h | ⟨h, hr⟩
    · rw [cE_ext (ct := E.2) (ad := ad) (ad' := ad) (M := mk m R) (M' := mk m' R) (k := k) (s := s) h (by show m'.2 k = m.2 k; rw [h2]) (fun _ => rfl)]
      exact h0
    · obtain ⟨a, n⟩ := s
      rcases h with rfl | rfl
      · rw [cE_i] at h0 ⊢
        show H[ad k]? = some (vp_cell _ _)
        rw [vp_cell_i, arrV_ext (g := fun j => .int (m.1 k j)) (fun i hi => by rw [show (mk m' R).1 k i = m.1 k i from hr i hi])]
        exact h0
      · rw [cE_z] at h0 ⊢
        show H[ad k]? = some (vp_cell _ _)
        rw [vp_cell_i, arrV_ext (g := fun j => .int (m.1 k j)) (fun i hi => by rw [show (mk m' R).1 k i = m.1 k i from hr i hi])]
        exact h0
  · obtain ⟨s, hs, rfl⟩ := cW_inv hp
    obtain ⟨t, ht, rfl⟩ := cW_inv hq
    exact hD.1 i j _ _ (cW_get hs) (cW_get ht) e
  · obtain ⟨s, hs, rfl⟩ := cW_inv hq
    exact hD.2 k (ad k, cE E.2 ad (mk m R) k s) (cW_get hs)
