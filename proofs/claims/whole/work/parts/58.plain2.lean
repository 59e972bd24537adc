theorem getD_l {α : Type} {a b : List α} {k : Nat} {d : α} (h : k < a.length) : (a ++ b).getD k d = a.getD k d := by
  rw [List.getD_eq_getElem?_getD, List.getD_eq_getElem?_getD, List.getElem?_append_left h]
theorem getD_r {α : Type} {a b : List α} {k : Nat} {d : α} : (a ++ b).getD (a.length + k) d = b.getD k d := by
  rw [List.getD_eq_getElem?_getD, List.getD_eq_getElem?_getD, List.getElem?_append_right (by omega), show a.length + k - a.length = k by omega]
theorem plF_lt {fac : Nat → Int32} {v : Int32} {c : Cla} {b : Bool} (hw : c.1 < 2) (hb : c.2.2.foldl (stp fac) [] = [b]) : plF fac v c = if c.1 = 0 then v + nI b.toNat * nI c.2.1 else v - nI b.toNat * nI c.2.1 := by
  have hh : holdsT fac c.2.2 = b := by unfold holdsT; rw [hb]; rfl
  unfold plF
  rw [if_pos hw, hh]
  cases b
  · rw [if_neg (by decide), show nI false.toNat = (0 : Int32) from rfl, Int32.zero_mul, Int32.add_zero, Int32.sub_zero, ite_self]
  · rw [if_pos rfl, show nI true.toNat = (1 : Int32) from rfl, Int32.one_mul]
section CP2
variable {sh : Sh} {R : RR} {m : MI} {u q n : Nat} {kc : MI → Int32 → Int32 → Int32 → Option (Int32 × MI)} {fac : Nat → Int32}
theorem C_toks (hsu : sh[u]? = some (11, 0)) (hRu : R u 2 = some q) (hsq : sh[q]? = some (0, n)) (hn : n ≤ 1000) (hfac : ∀ l, l < 6 → m.1 18 l = fac l) (v2 : Int32) : ∀ (ts : List Tok) (s : List Bool) (i f : Nat), hgt ts s.length = some 1 → s.length ≤ 30 → i + ts.length ≤ n → (∀ k, k < ts.length → m.1 q (i + k) = (ts.map cT).getD k 0) →
    fH_plain_18_l8 sh R u kc (f + ts.length) m v2 (nI (enc s)) (nI i) = fH_plain_18_l8 sh R u kc f m v2 (nI (enc (ts.foldl (stp fac) s))) (nI (i + ts.length)) := by
  intro ts
  induction ts with
  | nil => intro s i f _ _ _ _; rfl
  | cons t ts ih =>
    intro s i f hh hs hi hm
    have h2 := hgt_stp (fac := fac) hh
    have hl : (stp fac s t).length ≤ 30 := by
      unfold hgt at hh
      unfold stp
      by_cases c0 : t.1 = 0
      · rw [if_pos c0] at hh ⊢
        split at hh
        · simp only [List.length_cons]; omega
        · cases hh
      · rw [if_neg c0]
        cases s with
        | nil => simp
        | cons b s =>
          by_cases c1 : t.1 = 1
          · simp only [if_pos c1]; exact hs
          · simp only [if_neg c1]
            cases s with
            | nil => simp
            | cons a s => simp only [List.length_cons] at hs ⊢; omega
    have e := C_tok (kc := kc) (f := f + ts.length) hsu hRu hsq hn (i := i) (by simp only [List.length_cons] at hi; omega) hh (by have := hm 0 (by simp); simpa using this) hfac hs v2
    rw [List.length_cons, ← Nat.add_assoc, e, ih (stp fac s t) (i + 1) f h2 hl (by simp only [List.length_cons] at hi; omega) (fun k hk => by
      have := hm (k + 1) (by simp only [List.length_cons]; omega)
      rw [show i + 1 + k = i + (k + 1) by omega, this]
      rfl), List.foldl_cons, show i + 1 + ts.length = i + (ts.length + 1) by omega]
theorem foldl_len {ts : List Tok} : ∀ {s : List Bool}, hgt ts s.length = some 1 → (ts.foldl (stp fac) s).length = 1 := by
  induction ts with
  | nil => intro s h; exact Option.some.inj h
  | cons t ts ih => intro s h; exact ih (hgt_stp h)
theorem C_clas (hsu : sh[u]? = some (11, 0)) (hRu : R u 2 = some q) (hsq : sh[q]? = some (0, n)) (hn : n ≤ 1000) (hfac : ∀ l, l < 6 → m.1 18 l = fac l) : ∀ (cs : List Cla) (v2 : Int32) (i f : Nat), (∀ c ∈ cs, claOK c) → i + (flat cs).length = n → (∀ k, k < (flat cs).length → m.1 q (i + k) = (flat cs).getD k 0) →
    fH_plain_18_l8 sh R u kc (f + (flat cs).length + 1) m v2 0 (nI i) = kc m (cs.foldl (plF fac) v2) 0 (nI n) := by
  intro cs
  induction cs with
  | nil =>
    intro v2 i f _ hi _
    have hi : i = n := by simpa [flat] using hi
    rw [fH_plain_18_l8, if_pos hsu, hRu]
    simp only [mq, kA_of hsq, lenA_of hsq, if_true]
    rw [if_pos (show Int32.ofNat n ≤ nI i by rw [hi]; exact Int32.le_refl _), hi]
    rfl
  | cons c cs ih =>
    intro v2 i f hok hi hm
    obtain ⟨k1, k2, k3⟩ := hok c (List.mem_cons_self ..)
    have hok' : ∀ c ∈ cs, claOK c := fun c' h' => hok c' (List.mem_cons_of_mem _ h')
    by_cases hw : c.1 < 2
    · have hf : flat (c :: cs) = c.2.2.map cT ++ (nI (4 + c.1 + 8 * c.2.1) :: flat cs) := by
        unfold flat
        rw [List.flatMap_cons, if_pos hw, List.append_assoc]
        rfl
      have hl : (flat (c :: cs)).length = c.2.2.length + (1 + (flat cs).length) := by rw [hf, List.length_append, List.length_map, List.length_cons]; omega
      have h1 := C_toks (kc := kc) hsu hRu hsq hn hfac v2 c.2.2 [] i (f + (flat cs).length + 1 + 1) (k3 hw) (by simp) (by omega) (fun k hk => by
        rw [hm k (by omega), hf, getD_l (by simpa using hk)])
      have hb : (c.2.2.foldl (stp fac) []).length = 1 := foldl_len (k3 hw)
      obtain ⟨b, hb2⟩ := List.length_eq_one_iff.mp hb
      have hcell : m.1 q (i + c.2.2.length) = nI (4 + c.1 + 8 * c.2.1) := by
        have := getD_r (a := c.2.2.map cT) (b := nI (4 + c.1 + 8 * c.2.1) :: flat cs) (k := 0) (d := 0)
        rw [List.length_map, Nat.add_zero] at this
        rw [hm _ (by omega), hf, this]
        rfl
      obtain ⟨x1, x2⟩ := cT_cla hw k2
      have lowb := enc_low (s := []) b (by simp)
      have h2 : fH_plain_18_l8 sh R u kc (f + (flat cs).length + 1 + 1) m v2 (nI (enc [b])) (nI (i + c.2.2.length)) = fH_plain_18_l8 sh R u kc (f + (flat cs).length + 1) m (plF fac v2 c) 0 (nI (i + c.2.2.length + 1)) := by
        have hle : ¬ Int32.ofNat n ≤ nI (i + c.2.2.length) := not_le_nI (by omega) hn
        rw [fH_plain_18_l8, if_pos hsu, hRu]
        simp only [mq, kA_of hsq, lenA_of hsq, if_true, if_neg hle, ck_nI (show i + c.2.2.length < n by omega) (show n ≤ 100000 by omega), cl_nI (show i + c.2.2.length < 100000 by omega), lt, hcell, x1, x2, lowb, nI_1]
        rw [plF_lt hw hb2]
        have cw : c.1 = 0 ∨ c.1 = 1 := by omega
        rcases cw with cw | cw
        · simp only [cw, Nat.add_zero, if_neg (show ¬ nI 4 = 1 by decide), if_neg (show ¬ nI 4 = 2 by decide), if_neg (show ¬ nI 4 = 3 by decide), if_pos (show nI 4 = 4 from rfl), if_true]
        · simp only [cw, if_neg (show ¬ nI (4 + 1) = 1 by decide), if_neg (show ¬ nI (4 + 1) = 2 by decide), if_neg (show ¬ nI (4 + 1) = 3 by decide), if_neg (show ¬ nI (4 + 1) = 4 by decide), if_pos (show nI (4 + 1) = 5 from rfl), if_neg (show ¬ (1 : Nat) = 0 by decide)]
      rw [hl, show f + (c.2.2.length + (1 + (flat cs).length)) + 1 = f + (flat cs).length + 1 + 1 + c.2.2.length by omega, show (0 : Int32) = nI (enc []) from rfl, h1, hb2, h2, ih (plF fac v2 c) (i + c.2.2.length + 1) f hok' (by omega) (fun k hk => by
        have := getD_r (a := c.2.2.map cT) (b := nI (4 + c.1 + 8 * c.2.1) :: flat cs) (k := k + 1) (d := 0)
        rw [List.length_map] at this
        rw [show i + c.2.2.length + 1 + k = i + (c.2.2.length + (k + 1)) by omega, hm _ (by omega), hf, this]
        rfl), List.foldl_cons]
      rfl
    · have hf : flat (c :: cs) = flat cs := by
        unfold flat
        rw [List.flatMap_cons, if_neg hw]
        rfl
      have hp : plF fac v2 c = v2 := by unfold plF; rw [if_neg hw]
      rw [hf] at hi hm ⊢
      rw [List.foldl_cons, hp]
      exact ih v2 i f hok' hi hm
theorem C_plain (hsu : sh[u]? = some (11, 0)) (hRu : R u 2 = some q) {cs : List Cla} (hsq : sh[q]? = some (0, (flat cs).length)) (hn : (flat cs).length ≤ 100) (hfac : ∀ l, l < 6 → m.1 18 l = fac l) (hok : ∀ c ∈ cs, claOK c) (hm : ∀ k, k < (flat cs).length → m.1 q k = (flat cs).getD k 0) : fH_plain_18 sh R m u = some (mx0 (pl fac cs), m) := by
  obtain ⟨F, hF⟩ : ∃ F : Nat, F = 1000 := ⟨_, rfl⟩
  unfold fH_plain_18
  rw [← hF]
  have := C_clas (kc := fun m4 z1 _ _ => some (if 0 < z1 then z1 else 0, m4)) hsu hRu hsq (by omega) hfac cs 10 0 (F - (flat cs).length - 1) hok (by omega) (fun k hk => by rw [Nat.zero_add]; exact hm k hk)
  rw [show F - (flat cs).length - 1 + (flat cs).length + 1 = F by omega] at this
  exact this
end CP2
