/-! THE START: what the constructors leave -/
set_option maxRecDepth 100000
set_option maxHeartbeats 2000000
def zf : Nat → Int32 := fun _ => 0
def zg : Nat → Int64 := fun _ => 0
theorem zr_2 : mm_185.1 2 = zf := rfl
theorem zr_3 : mm_185.1 3 = zf := rfl
theorem zr_4 : mm_185.1 4 = zf := rfl
theorem zr_5 : mm_185.1 5 = zf := rfl
theorem zr_6 : mm_185.1 6 = zf := rfl
theorem zr_7 : mm_185.1 7 = zf := rfl
theorem zr_8 : mm_185.1 8 = zf := rfl
theorem zr_9 : mm_185.1 9 = zf := rfl
theorem zr_10 : mm_185.1 10 = zf := rfl
theorem zr_12 : mm_185.1 12 = zf := rfl
theorem zr_13 : mm_185.1 13 = zf := rfl
theorem zr_14 : mm_185.1 14 = zf := rfl
theorem zr_15 : mm_185.1 15 = zf := rfl
theorem zr_62 : mm_185.1 62 = zf := rfl
theorem zr_63 : mm_185.1 63 = zf := rfl
theorem zr_64 : mm_185.1 64 = zf := rfl
theorem zr_65 : mm_185.1 65 = zf := rfl
theorem zr_66 : mm_185.1 66 = zf := rfl
theorem zr_83 : mm_185.1 83 = zf := rfl
theorem zr_84 : mm_185.1 84 = zf := rfl
theorem zr_85 : mm_185.1 85 = zf := rfl
theorem zr_47 : mm_185.1 47 = zf := rfl
theorem zr_94 : mm_185.1 94 = zf := rfl
theorem zl_50 : mm_185.2 50 = zg := rfl
theorem zl_52 : mm_185.2 52 = zg := rfl
theorem zl_54 : mm_185.2 54 = zg := rfl
theorem zl_56 : mm_185.2 56 = zg := rfl
theorem zl_58 : mm_185.2 58 = zg := rfl
theorem zl_60 : mm_185.2 60 = zg := rfl
theorem zl_97 : mm_185.2 97 = zg := rfl
theorem zcor : Cor1 mm_185 := by
  refine ⟨0, 1, 0, 0, 0, 0, 0, ⟨by omega, by decide +kernel, by decide +kernel⟩, ⟨by omega, by omega, by decide +kernel, by decide +kernel⟩, ⟨by omega, by decide +kernel, by decide +kernel⟩, ⟨Or.inr ⟨rfl, rfl⟩, by decide +kernel, by decide +kernel⟩, ⟨by omega, by decide +kernel, by decide +kernel⟩, ⟨by omega, by decide +kernel, by decide +kernel⟩, ⟨by omega, by decide +kernel, by decide +kernel⟩,
    ⟨zr_2.trans zr_62.symm, fun d _ => ⟨0, by omega, by rw [zr_62]; rfl⟩⟩, ⟨zr_3.trans zr_63.symm, fun d _ => ⟨0, by omega, by rw [zr_63]; rfl⟩⟩, ⟨zr_4.trans zr_64.symm, fun d _ => ⟨0, by omega, by rw [zr_64]; rfl⟩⟩, ⟨fun d p hd hp => ?_, fun d _ => ⟨0, by omega, by rw [zr_65]; rfl⟩⟩,
    ⟨zr_12.trans zr_66.symm, fun k hk => absurd hk (Nat.not_lt_zero _), fun k hk => absurd hk (Nat.not_lt_zero _), fun k k' hk => absurd hk (Nat.not_lt_zero _)⟩, ⟨zr_13.trans zr_83.symm, fun d _ => ⟨0, by omega, by rw [zr_83]; rfl⟩⟩, ⟨zr_14.trans zr_84.symm, fun d _ => Or.inl (by rw [zr_84]; rfl)⟩, ⟨zr_15.trans zr_85.symm, fun d _ => ⟨0, by omega, by rw [zr_85]; rfl⟩⟩⟩
  rw [zr_65]
  rcases c6 hd with rfl | rfl | rfl | rfl | rfl | rfl
  · exact congrFun zr_5 p
  · exact congrFun zr_6 p
  · exact congrFun zr_7 p
  · exact congrFun zr_8 p
  · exact congrFun zr_9 p
  · exact congrFun zr_10 p
theorem ztap0 : ∀ t, t < 6 → mm_185.1 (49 + 2 * t) 0 = mm_185.1 95 t ∧ mm_185.1 95 t = -1 ∧ mm_185.1 (49 + 2 * t) 1 = nI 0 ∧ mm_185.1 96 t = nI 0 := by decide +kernel
theorem ztap : Tapes mm_185 := by
  intro t ht
  obtain ⟨h1, h2, h3, h4⟩ := ztap0 t ht
  refine ⟨0, by omega, h1, Or.inl ⟨h2, rfl⟩, h3, h4, fun i _ => ?_⟩
  rw [zl_97]
  rcases c6 ht with rfl | rfl | rfl | rfl | rfl | rfl
  · exact congrFun zl_50 i
  · exact congrFun zl_52 i
  · exact congrFun zl_54 i
  · exact congrFun zl_56 i
  · exact congrFun zl_58 i
  · exact congrFun zl_60 i
theorem zfix : Fixd mm_185 := ⟨⟨by decide +kernel, by decide +kernel⟩, ⟨by decide +kernel, by decide +kernel⟩, by decide +kernel, by decide +kernel⟩
theorem zRel : Rel zs_87 rr_173 mm_185 := by
  refine ⟨zcor, ztap, ⟨⟨0, by omega, by decide +kernel, by decide +kernel⟩, fun i _ => by rw [zr_47, zr_94]⟩, ⟨0, by omega, by decide +kernel, by decide +kernel, fun i hi => absurd hi (Nat.not_lt_zero _)⟩, zfix,
    ⟨[], by decide, rfl, Fx_mm.2, rk_173, fun j hj => absurd hj (Nat.not_lt_zero _), by decide +kernel, by decide +kernel, fun j hj => absurd hj (Nat.not_lt_zero _), ⟨16, by decide +kernel, Or.inl ⟨by decide +kernel, Or.inl rfl⟩⟩, Or.inl ⟨by decide +kernel, by decide +kernel⟩⟩⟩
