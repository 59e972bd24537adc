theorem mI_id {m : MI} {k : Nat} : mI m k (m.1 k) = m := by
  refine Prod.ext (funext fun k' => ?_) rfl
  by_cases e : k' = k
  · subst e; rw [mI_s]
  · rw [mI_n e]
theorem M_clas {m : MI} {j : Nat} {cs : List Cla} {a : Int32} {fac : Nat → Int32} (hj : j < 6) (hlen : cs.length ≤ 10) (hok : ∀ c ∈ cs, claOK c) (h11 : m.1 61 11 = nI j) (h68 : m.1 68 j = nI cs.length)
    (hcl : ∀ c, c < cs.length → ∃ cl : Cla, cs[c]? = some cl ∧ m.1 69 (10 * j + c) = nI cl.1 ∧ m.1 70 (10 * j + c) = nI cl.2.1 ∧ (cl.1 < 2 → ∃ fr : Nat, fr + cl.2.2.length ≤ 600 ∧ m.1 71 (10 * j + c) = nI fr ∧ m.1 72 (10 * j + c) = nI (fr + cl.2.2.length) ∧ fr + cl.2.2.length ≤ 100 * (j + 1) ∧ ∀ i, i < cl.2.2.length → m.1 73 (fr + i) = mT (cl.2.2.getD i (0, 0, 0, 0))))
    (hfac : ∀ l, l < 6 → ∀ g, fM_factOf (mI m 76 g) (nI l) a = some (fac l, mI m 76 g)) (kc : MI → Int32 → Int32 → Option (Int32 × MI)) :
    ∀ (q k f : Nat) (v : Int32) (g : Nat → Int32), k + q = cs.length → q < f → ∃ g', fM_plainly_l8 a kc f (mI m 76 g) v (nI (10 * j + k)) = kc (mI m 76 g') ((cs.drop k).foldl (plF fac) v) (nI (10 * j + cs.length)) := by
  have hb : ∀ g, fM_behind (mI m 76 g) = some (nI (10 * j + cs.length), mI m 76 g) := fun g => by
    unfold fM_behind
    rw [mI_n (by decide), mI_n (by decide), h11, if_pos (nI_pos' (by omega)), if_pos (ck_nI hj (by omega)), cl_nI (by omega), h68, show (10 : Int32) = nI 10 from rfl, pk_mul, nI_add]
  intro q
  induction q with
  | zero =>
    intro k f v g hk hf
    obtain ⟨f', rfl, -⟩ := fu hf
    refine ⟨g, ?_⟩
    rw [fM_plainly_l8, hb]
    simp only [Option.bind_some]
    rw [if_pos (nI_le (by omega) (by omega)), show k = cs.length by omega, List.drop_length]
    rfl
  | succ q ih =>
    intro k f v g hk hf
    obtain ⟨f', rfl, hf'⟩ := fu hf
    obtain ⟨cl, c1, c2, c3, c4⟩ := hcl k (by omega)
    obtain ⟨k1, k2, k3⟩ := hok cl (List.mem_of_getElem? c1)
    have hd : cs.drop k = cl :: cs.drop (k + 1) := by
      obtain ⟨hlt, he⟩ := List.getElem?_eq_some_iff.mp c1
      rw [List.drop_eq_getElem_cons hlt, he]
    have ck6 : ck (nI (10 * j + k)) 60 = true := ck_nI (by omega) (by omega)
    have cl6 := cl_nI (show 10 * j + k < 100000 by omega)
    have hnb : ¬ nI (10 * j + cs.length) ≤ nI (10 * j + k) := by rw [nI_leI (by omega) (by omega)]; omega
    rw [fM_plainly_l8, hb]
    simp only [Option.bind_some, if_neg hnb, ck6, cl6, if_true, mI_n (show (69 : Nat) ≠ 76 by decide), c2, lt, nI_1, hd, List.foldl_cons]
    rw [show 10 * j + k + 1 = 10 * j + (k + 1) by omega]
    by_cases hw : cl.1 < 2
    · rw [if_neg (show ¬ (2 : Int32) ≤ nI cl.1 from not_le_nI (n := 2) hw (by omega))]
      obtain ⟨fr, f1, f2, f3, f4, f5⟩ := c4 hw
      obtain ⟨g1, hg1⟩ := M_holdsE (cl := 10 * j + k) (fac := fac) (a := a) (by omega) f2 f3 rfl f1 hfac (k3 hw) f5 g
      rw [hg1]
      simp only [Option.bind_some, mI_n (show (69 : Nat) ≠ 76 by decide), mI_n (show (70 : Nat) ≠ 76 by decide), c2, c3]
      by_cases hh : holdsT fac cl.2.2 = true
      · have hp : plF fac v cl = if cl.1 = 0 then v + nI cl.2.1 else v - nI cl.2.1 := by unfold plF; rw [if_pos hw, if_pos hh]
        rw [if_neg (fun e => by rw [(b01_0 _).mp e] at hh; cases hh), hp]
        by_cases h0 : cl.1 = 0
        · rw [if_pos (by rw [h0]; rfl), if_pos h0]
          exact ih (k + 1) f' _ g1 (by omega) (hf' q rfl)
        · rw [if_neg (show ¬ nI cl.1 = 0 from fun e => h0 ((nI_eq (b := 0) (by omega) (by omega)).mp e)), if_neg h0, ← Int32.sub_eq_add_neg]
          exact ih (k + 1) f' _ g1 (by omega) (hf' q rfl)
      · have hp : plF fac v cl = v := by unfold plF; rw [if_pos hw, if_neg hh]
        rw [if_pos ((b01_0 _).mpr (by simpa using hh)), hp]
        exact ih (k + 1) f' _ g1 (by omega) (hf' q rfl)
    · have hp : plF fac v cl = v := by unfold plF; rw [if_neg hw]
      rw [if_pos (show (2 : Int32) ≤ nI cl.1 from nI_le (a := 2) (by omega) (by omega)), hp]
      exact ih (k + 1) f' v g (by omega) (hf' q rfl)
theorem mx_eq {x : Int32} {m : MI} : (if 0 ≤ x then some (x, m) else some (0, m)) = some (mx0 x, m) := by
  unfold mx0
  by_cases c : 0 < x
  · rw [if_pos c, if_pos (Int32.le_of_lt c)]
  · rw [if_neg c]
    by_cases c2 : 0 ≤ x
    · rw [if_pos c2]
      have : x = 0 := Int32.le_antisymm (Int32.not_lt.mp c) c2
      rw [this]
    · rw [if_neg c2]
/-- the clauses of the hut that is, as both hold them -/
def PlH (sh : Sh) (R : RR) (m : MI) (hw : Nat) (cs : List Cla) : Prop :=
  (cs.length ≤ 10 ∧ ∀ c ∈ cs, claOK c) ∧
  (∀ (m' : MI) (fac : Nat → Int32), (∀ k, 99 ≤ k → m'.1 k = m.1 k) → (∀ l, l < 6 → m'.1 18 l = fac l) → fH_plain_18 sh R m' hw = some (mx0 (pl fac cs), m')) ∧
  (∀ (m' : MI) (fac : Nat → Int32) (a : Int32), m'.1 61 11 = m.1 61 11 → (∀ k, 68 ≤ k ∧ k ≤ 73 → m'.1 k = m.1 k) → (∀ l, l < 6 → ∀ g, fM_factOf (mI m' 76 g) (nI l) a = some (fac l, mI m' 76 g)) → ∃ g, fM_plainly m' a = some (mx0 (pl fac cs), mI m' 76 g))
theorem cur_pl {sh : Sh} {R : RR} {m : MI} {hw : Nat} (H : Huts sh R m) (h15 : R 1 15 = some hw) : ∃ cs, PlH sh R m hw cs := by
  have hFx := Fx_of H
  obtain ⟨ls, a1, a2, a3, a4, a5, a6, a7, a8, ⟨hw', b1, b2⟩, -⟩ := H
  rw [h15] at b1
  obtain rfl := Option.some.inj b1
  obtain ⟨F, hF⟩ : ∃ F : Nat, F = 1000 := ⟨_, rfl⟩
  rcases b2 with ⟨t, h⟩ | ⟨j, j1, j2, j3⟩
  · refine ⟨[], ⟨by decide, fun c hc => by cases hc⟩, fun m' fac _ hfac => ?_, fun m' fac a h11 _ _ => ⟨m'.1 76, ?_⟩⟩
    · rcases h with rfl | rfl
      · exact C_plain (cs := []) (hFx.1 _ _ rfl) (hFx.2 16 2 17 rfl) (hFx.1 17 _ rfl) (by decide) hfac (fun c hc => by cases hc) (fun k hk => by cases hk)
      · exact C_plain (cs := []) (hFx.1 _ _ rfl) (hFx.2 34 2 35 rfl) (hFx.1 35 _ rfl) (by decide) hfac (fun c hc => by cases hc) (fun k hk => by cases hk)
    · obtain ⟨F', hF'⟩ : ∃ F', F = F' + 1 := ⟨F - 1, by omega⟩
      have hb : fM_begin m' = some (0, m') := by
        unfold fM_begin
        rw [h11, t, if_neg (by decide)]
      have hb2 : fM_behind m' = some (0, m') := by
        unfold fM_behind
        rw [h11, t, if_neg (by decide)]
      unfold fM_plainly
      rw [hb, ← hF, hF']
      simp only [Option.bind_some]
      rw [fM_plainly_l8, hb2]
      simp only [Option.bind_some]
      rw [if_pos (by decide), mI_id]
      rfl
  · obtain ⟨cs, c1, c2, c0, c3, c4, c5, c6, c7, c8⟩ := a8 j j1
    subst j3
    refine ⟨cs, ⟨c1, c2⟩, fun m' fac h99 hfac => ?_, fun m' fac a h11 h68 hfac => ?_⟩
    · exact C_plain (by rw [a2]; exact hutShAt j1) (a5 j j1) c3 c0 hfac c2 (fun k hk => by rw [h99 _ (by omega)]; exact c4 k hk)
    · obtain ⟨g, hg⟩ := M_clas (m := m') (j := j) (cs := cs) (a := a) (fac := fac) (by omega) c1 c2 (by rw [h11, j2]) (by rw [h68 68 (by omega), c7]) (fun c hc => by
        rw [h68 69 (by omega), h68 70 (by omega), h68 71 (by omega), h68 72 (by omega), h68 73 (by omega)]
        exact c8 c hc) hfac (fun m4 z2 _ => if 0 ≤ z2 then some (z2, m4) else some (0, m4)) cs.length 0 F 10 (m'.1 76) (by omega) (by omega)
      refine ⟨g, ?_⟩
      have hb : fM_begin m' = some (nI (10 * j + 0), m') := by
        unfold fM_begin
        rw [h11, j2, if_pos (nI_pos' (by omega)), show (10 : Int32) = nI 10 from rfl, pk_mul]
        rfl
      unfold fM_plainly
      rw [hb, ← hF]
      simp only [Option.bind_some]
      rw [mI_id] at hg
      rw [hg]
      exact mx_eq
