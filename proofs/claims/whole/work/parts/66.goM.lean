/-! THE SAME ANSWERS: the reference goes through a night; likely, even -/
section GM
variable {sh : Sh} {R : RR} {m : MI} {hw n T S : Nat} {cs : List Cla} {P : Nat → Int32 → Int32 → Int32 → Int32}
theorem pj_r {m m' : MI} {k : Nat} {g : Nat → Int32} (h : ∀ i, scr k i = true) (e : pj m' = pj m) : pj (mI m' k g) = pj m := Eq.trans (pj_row h) e
theorem M_w0 (hS : S ≤ 3) (u2 : Int32) (kc : MI → Int32 → Option MI) : ∀ (q k f : Nat) (m' : MI), k + q = 5 → q < f → ∃ g : Nat → Int32, (∀ i, k ≤ i → i < 5 → g i = nI (if i = S then 1000000 else 0)) ∧ (∀ i, i < k → g i = m'.1 79 i) ∧ fM_layLikely_l19 (nI S) u2 kc f m' (nI k) = kc (mI m' 79 g) (nI 5) := by
  intro q
  induction q with
  | zero =>
    intro k f m' hk hf
    obtain ⟨f', rfl, -⟩ := fu hf
    refine ⟨m'.1 79, fun i _ _ => by omega, fun _ _ => rfl, ?_⟩
    rw [fM_layLikely_l19, if_pos (show (5 : Int32) ≤ nI k from nI_le (a := 5) (by omega) (by omega)), show k = 5 by omega, mI_id]
  | succ q ih =>
    intro k f m' hk hf
    obtain ⟨f', rfl, hf'⟩ := fu hf
    have ck5 : ck (nI k) 5 = true := ck_nI (by omega) (by omega)
    have clk := cl_nI (show k < 100000 by omega)
    have step : ∀ x : Int32, x = nI (if k = S then 1000000 else 0) → ∃ g : Nat → Int32, (∀ i, k ≤ i → i < 5 → g i = nI (if i = S then 1000000 else 0)) ∧ (∀ i, i < k → g i = m'.1 79 i) ∧ fM_layLikely_l19 (nI S) u2 kc f' (mI m' 79 (upd (m'.1 79) k x)) (nI (k + 1)) = kc (mI m' 79 g) (nI 5) := fun x hx => by
      obtain ⟨g, g1, g2, g3⟩ := ih (k + 1) f' (mI m' 79 (upd (m'.1 79) k x)) (by omega) (hf' q rfl)
      rw [mI_s] at g2
      refine ⟨g, fun i h1 h2 => ?_, fun i hi => ?_, ?_⟩
      · by_cases e : i = k
        · subst e; rw [g2 i (by omega), upd_s, hx]
        · exact g1 i (by omega) h2
      · rw [g2 i (by omega), upd_n (by omega)]
      · rw [g3, mI_mI]
    rw [fM_layLikely_l19, if_neg (show ¬ (5 : Int32) ≤ nI k from not_le_nI (n := 5) (by omega) (by omega))]
    simp only [ck5, clk, if_true, lm, lt, nI_1]
    by_cases c : k = S
    · rw [if_pos (by rw [c])]
      exact step 1000000 (by rw [if_pos c]; rfl)
    · rw [if_neg (fun e => c ((nI_eq (by omega) (by omega)).mp e))]
      exact step 0 (by rw [if_neg c]; rfl)
/-- the gone of one place, row by row -/
theorem M_lin {W : Nat → Nat} (hP : PlH sh R m hw cs) (hD : Drs P cs m n) (hn : n ≤ 6) (hS : S ≤ 3) (hT : T ≤ 100) {d v : Nat} (hd : d < n) (hv : v < 6) (hW : wOK S W) (u1 : Int32) (kc : MI → Int32 → Int32 → Option MI) :
    ∀ (q b f : Nat) (m' : MI), b + q = 3 → q < f → pj m' = pj m → (∀ i, i < 5 → m'.1 79 i = nI (W i)) → (∀ i, i < 5 → (i ≤ b ∨ i = 4) → m'.1 78 i = nI (mvW (chv P T d v) W i)) →
    ∃ m'', fM_layLikely_l86 u1 (nI T) (nI v) (nI d) kc f m' (nI (smW (chv P T d v) W b)) (nI (b + 1)) = kc m'' (nI (smW (chv P T d v) W 3)) (nI 4) ∧ pj m'' = pj m ∧ (∀ k, k ≠ 61 → k ≠ 76 → k ≠ 78 → m''.1 k = m'.1 k) ∧ ∀ i, i < 5 → m''.1 78 i = nI (mvW (chv P T d v) W i) := by
  intro q
  induction q with
  | zero =>
    intro b f m' hb hf e h79 h78
    obtain ⟨f', rfl, -⟩ := fu hf
    have : b = 3 := by omega
    subst this
    refine ⟨m', ?_, e, fun _ _ _ _ => rfl, fun i hi => h78 i hi (by omega)⟩
    rw [fM_layLikely_l86, if_pos (show (4 : Int32) ≤ nI (3 + 1) from by decide)]
  | succ q ih =>
    intro b f m' hb hf e h79 h78
    obtain ⟨f', rfl, hf'⟩ := fu hf
    have ckb : ck (nI (b + 1)) 5 = true := ck_nI (by omega) (by omega)
    have clb := cl_nI (show b + 1 < 100000 by omega)
    have cc : ∀ i, chv P T d v i ≤ 1000000 := fun i => chv_le d v i
    have hW1 : W (b + 1) ≤ 1000000 := hW.2.1 _
    have hmv := mvW_le (w := W) (cc (b + 1))
    obtain ⟨u, g, k1, k2⟩ := M_chv hP hD hn e hd (show v ≤ 10 by omega) (show b + 1 ≤ 10 by omega) hT
    have prod : W (b + 1) * chv P T d v (b + 1) ≤ 1000000 * 1000000 := Nat.mul_le_mul hW1 (cc _)
    have emv : ((nI (W (b + 1))).toInt64 * (nI (chv P T d v (b + 1))).toInt64 / 1000000).toInt32 = nI (mvW (chv P T d v) W (b + 1)) := by
      have := cc (b + 1)
      rw [nI_l (by omega), nI_l (by omega), lN_mul, show (1000000 : Int64) = lN 1000000 from rfl, pk_lDiv (by omega) (by omega) (by omega), lN_i]
      rfl
    obtain ⟨m'', z1, z2, z3, z4⟩ := ih (b + 1) f' (mI (mI (mI m' 61 u) 76 g) 78 (upd (m'.1 78) (b + 1) (nI (mvW (chv P T d v) W (b + 1))))) (by omega) (hf' q rfl) (pj_r (fun _ => rfl) (pj_r (fun _ => rfl) (Eq.trans (pj_61 k2) e))) (fun i hi => by rw [mI_n (by decide), mI_n (by decide), mI_n (by decide)]; exact h79 i hi) (fun i hi h => by
      rw [mI_s]
      by_cases c : i = b + 1
      · subst c; rw [upd_s]
      · rw [upd_n c]; exact h78 i hi (by omega))
    refine ⟨m'', ?_, z2, fun k a c x => by rw [z3 k a c x, mI_n x, mI_n c, mI_n a], z4⟩
    rw [fM_layLikely_l86, if_neg (show ¬ (4 : Int32) ≤ nI (b + 1) from not_le_nI (n := 4) (by omega) (by omega)), if_pos ckb, k1]
    simp only [Option.bind_some, ckb, clb, if_true, h79 (b + 1) (by omega), emv, lm, lt, mI_s, mI_n (show (78 : Nat) ≠ 76 by decide), mI_n (show (78 : Nat) ≠ 61 by decide), upd_s, nI_add, nI_1]
    exact z1
theorem upd_I {x y z : Nat} (h : z ≤ x) (hx : x ≤ 1000000) (hy : y ≤ 1000000) : nI x + (nI y - nI z) = nI (x - z + y) := by
  rw [← Int32.toInt_inj, Int32.toInt_add, sub_I (by omega) (by omega), nI_toInt (by omega), nI_toInt (by omega), Int.bmod_eq_of_le (by omega) (by omega)]
  omega
theorem M_up {W : Nat → Nat} {c : Nat → Nat} (hc : ∀ b, c b ≤ 1000000) (hW : wOK S W) (u1 u2 u3 u4 u5 : Int32) (kc : MI → Int32 → Option MI) :
    ∀ (q b f : Nat) (m' : MI), b + q = 4 → q < f → (∀ i, i < 5 → m'.1 78 i = nI (mvW c W i)) → (∀ i, i < 5 → m'.1 79 i = nI (if i < b then stW c W i else W i)) →
    ∃ g, fM_layLikely_l159 u1 u2 u3 u4 u5 kc f m' (nI b) = kc (mI m' 79 g) (nI 4) ∧ ∀ i, i < 5 → g i = nI (if i < 4 then stW c W i else W i) := by
  intro q
  induction q with
  | zero =>
    intro b f m' hb hf h78 h79
    obtain ⟨f', rfl, -⟩ := fu hf
    have : b = 4 := by omega
    subst this
    refine ⟨m'.1 79, ?_, h79⟩
    rw [fM_layLikely_l159, if_pos (show (4 : Int32) ≤ nI 4 from by decide), mI_id]
  | succ q ih =>
    intro b f m' hb hf h78 h79
    obtain ⟨f', rfl, hf'⟩ := fu hf
    have ckb : ck (nI b) 5 = true := ck_nI (by omega) (by omega)
    have ckb1 : ck (nI (b + 1)) 5 = true := ck_nI (by omega) (by omega)
    have clb := cl_nI (show b < 100000 by omega)
    have clb1 := cl_nI (show b + 1 < 100000 by omega)
    have e1 := mvW_le (w := W) (b := b) (hc b)
    have e2 := mvW_le (w := W) (b := b + 1) (hc (b + 1))
    have w1 := hW.2.1 b
    have w2 := hW.2.1 (b + 1)
    obtain ⟨g, g1, g2⟩ := ih (b + 1) f' (mI m' 79 (upd (m'.1 79) b (nI (stW c W b)))) (by omega) (hf' q rfl) (fun i hi => by rw [mI_n (by decide)]; exact h78 i hi) (fun i hi => by
      rw [mI_s]
      by_cases x : i = b
      · subst x; rw [upd_s, if_pos (by omega)]
      · rw [upd_n x, h79 i hi]
        by_cases y : i < b
        · rw [if_pos y, if_pos (by omega)]
        · rw [if_neg y, if_neg (by omega)])
    refine ⟨g, ?_, g2⟩
    rw [fM_layLikely_l159, if_neg (show ¬ (4 : Int32) ≤ nI b from not_le_nI (n := 4) (by omega) (by omega))]
    simp only [ckb, ckb1, clb, clb1, if_true, nI_1, lm, lt, h79 b (by omega), if_neg (Nat.lt_irrefl b), h78 b (by omega), h78 (b + 1) (by omega), upd_I e1 w1 (Nat.le_trans e2 w2)]
    refine Eq.trans g1 ?_
    rw [mI_mI]
theorem M_out (hP : PlH sh R m hw cs) (hD : Drs P cs m n) (hn : n ≤ 6) (hS : S ≤ 3) (hT : T ≤ 100) (h0 : m.1 61 0 = nI n) {o : Nat → Nat} (ho : ∀ i, i < n → o i < n) (hoi : ∀ i j, i < n → j < n → o i = o j → i = j) (hO : ∀ i, i < n → m.1 66 i = nI (o i)) (u1 : Int32) (kc : MI → Int32 → Option MI) :
    ∀ (q v f : Nat) (m' : MI), v + q = n → q < f → pj m' = pj m → (∀ i, i < 5 → m'.1 79 i = nI (wAt (fun v => chv P T (o v) v) S v i)) → m'.1 78 0 = nI 0 → m'.1 78 4 = nI 0 → (∀ i, i < v → m'.1 77 (o i) = nI (goW (chv P T (o i) i) (wAt (fun v => chv P T (o v) v) S i))) →
    ∃ m'', fM_layLikely_l64 u1 (nI T) kc f m' (nI v) = kc m'' (nI n) ∧ pj m'' = pj m ∧ (∀ k, k ∉ [61, 76, 77, 78, 79] → m''.1 k = m'.1 k) ∧ ∀ i, i < n → m''.1 77 (o i) = nI (goW (chv P T (o i) i) (wAt (fun v => chv P T (o v) v) S i)) := by
  have hC : ∀ v b, chv P T (o v) v b ≤ 1000000 := fun v b => chv_le _ _ _
  have hC0 : ∀ v, chv P T (o v) v 0 = 0 := fun v => chv_0 _ _
  intro q
  induction q with
  | zero =>
    intro v f m' hk hf e h79 h780 h784 h77
    obtain ⟨f', rfl, -⟩ := fu hf
    have : v = n := by omega
    subst this
    refine ⟨m', ?_, e, fun _ _ => rfl, h77⟩
    rw [fM_layLikely_l64, show m'.1 61 0 = nI v by rw [pj_at e rfl, h0], if_pos (Int32.le_refl _)]
  | succ q ih =>
    intro v f m' hk hf e h79 h780 h784 h77
    obtain ⟨f', rfl, hf'⟩ := fu hf
    obtain ⟨F, hF1⟩ : ∃ F : Nat, F = 1000 := ⟨_, rfl⟩
    have hok := wOK_at (C := fun v => chv P T (o v) v) hS hC hC0 v
    have cko : ck (nI (o v)) 6 = true := ck_nI (by have := ho v (by omega); omega) (by omega)
    have clo := cl_nI (show o v < 100000 by have := ho v (by omega); omega)
    have z0 : mvW (chv P T (o v) v) (wAt (fun v => chv P T (o v) v) S v) 0 = 0 := by unfold mvW; rw [chv_0, Nat.mul_zero, Nat.zero_div]
    have z4 : mvW (chv P T (o v) v) (wAt (fun v => chv P T (o v) v) S v) 4 = 0 := mvW_0 (hok.1 4 (by omega))
    obtain ⟨mA, a1, a2, a3, a4⟩ := M_lin (W := wAt (fun v => chv P T (o v) v) S v) hP hD hn hS hT (ho v (by omega)) (show v < 6 by omega) hok u1 (fun m6 z4 _ => if ck (nI (o v)) 6 = true then lm (mI m6 77 (upd (m6.1 77) (nI (o v)).toNatClampNeg z4)) fun m8 => fM_layLikely_l159 u1 (nI T) (nI v) (nI (o v)) z4 (fun m10 _ => lt (nI v + 1) fun x11 => fM_layLikely_l64 u1 (nI T) kc f' m10 x11) F m8 0 else none) 3 0 F m' (by omega) (by omega) e h79 (fun i hi h => by
      have : i = 0 ∨ i = 4 := by omega
      rcases this with rfl | rfl
      · rw [z0]; exact h780
      · rw [z4]; exact h784)
    have eg : smW (chv P T (o v) v) (wAt (fun v => chv P T (o v) v) S v) 3 = goW (chv P T (o v) v) (wAt (fun v => chv P T (o v) v) S v) := by
      show mvW _ _ 0 + mvW _ _ 1 + mvW _ _ 2 + mvW _ _ 3 = mvW _ _ 1 + mvW _ _ 2 + mvW _ _ 3
      rw [z0]; omega
    have es0 : smW (chv P T (o v) v) (wAt (fun v => chv P T (o v) v) S v) 0 = 0 := z0
    rw [es0, eg] at a1
    obtain ⟨mB, hmB⟩ : ∃ mB, mB = mI mA 77 (upd (mA.1 77) (o v) (nI (goW (chv P T (o v) v) (wAt (fun v => chv P T (o v) v) S v)))) := ⟨_, rfl⟩
    obtain ⟨g, b1, b2⟩ := M_up (W := wAt (fun v => chv P T (o v) v) S v) (c := chv P T (o v) v) (hC v) hok u1 (nI T) (nI v) (nI (o v)) (nI (goW (chv P T (o v) v) (wAt (fun v => chv P T (o v) v) S v))) (fun m10 _ => lt (nI v + 1) fun x11 => fM_layLikely_l64 u1 (nI T) kc f' m10 x11) 4 0 F mB (by omega) (by omega) (fun i hi => by rw [hmB, mI_n (by decide)]; exact a4 i hi) (fun i hi => by rw [hmB, mI_n (by decide), a3 _ (by decide) (by decide) (by decide), if_neg (Nat.not_lt_zero _)]; exact h79 i hi)
    obtain ⟨m'', k1, k2, k3, k4⟩ := ih (v + 1) f' (mI mB 79 g) (by omega) (hf' q rfl) (pj_r (fun _ => rfl) (by rw [hmB]; exact pj_r (fun _ => rfl) a2)) (fun i hi => by
      rw [mI_s, b2 i hi]
      by_cases c : i < 4
      · rw [if_pos c]; rfl
      · rw [if_neg c]
        have : i = 4 := by omega
        subst this
        rw [hok.1 4 (by omega), (wOK_at (C := fun v => chv P T (o v) v) hS hC hC0 (v + 1)).1 4 (by omega)]) (by rw [mI_n (by decide), hmB, mI_n (by decide), a4 0 (by omega), z0]) (by rw [mI_n (by decide), hmB, mI_n (by decide), a4 4 (by omega), z4]) (fun i hi => by
      rw [mI_n (by decide), hmB, mI_s]
      by_cases c : i = v
      · rw [c, upd_s]
      · rw [upd_n (fun x => c (hoi i v (by omega) (by omega) x)), a3 _ (by decide) (by decide) (by decide)]
        exact h77 i (by omega))
    refine ⟨m'', ?_, k2, fun k hk' => ?_, k4⟩
    · rw [fM_layLikely_l64, show m'.1 61 0 = nI n by rw [pj_at e rfl, h0], if_neg (not_le_nI (by omega) (by omega)), if_pos (ck_nI (show v < 6 by omega) (by omega)), cl_nI (show v < 100000 by omega), show m'.1 66 v = nI (o v) by rw [pj_at e rfl]; exact hO v (by omega), ← hF1]
      simp only [lt]
      refine Eq.trans a1 ?_
      rw [if_pos cko, clo]
      simp only [lm]
      rw [← hmB]
      refine Eq.trans b1 ?_
      simp only [lt, nI_1]
      exact k1
    · have hk2 := hk'
      simp only [List.mem_cons, List.not_mem_nil, or_false, not_or] at hk2
      rw [k3 k hk', mI_n (by omega), hmB, mI_n (by omega), a3 k (by omega) (by omega) (by omega)]
theorem M_go (hP : PlH sh R m hw cs) (hD : Drs P cs m n) (hn : n ≤ 6) (hS : S ≤ 3) (h0 : m.1 61 0 = nI n) {o : Nat → Nat} (ho : ∀ i, i < n → o i < n) (hoi : ∀ i j, i < n → j < n → o i = o j → i = j) (hO : ∀ i, i < n → m.1 66 i = nI (o i)) {L X : Nat} (hT : S + L + X ≤ 100) (h34 : m.1 61 34 = nI X)
    (hws : ∀ m', pj m' = pj m → fM_wholeShorts m' = some (nI S, m')) (hwl : ∀ m', pj m' = pj m → fM_wholeLongs m' = some (nI L, m')) (m' : MI) (e : pj m' = pj m) : ∃ m'', fM_layLikely m' = some m'' ∧ pj m'' = pj m ∧ (∀ k, k ∉ [61, 76, 77, 78, 79] → m''.1 k = m'.1 k) ∧ ∀ i, i < n → m''.1 77 (o i) = nI (goW (chv P (S + L + X) (o i) i) (wAt (fun v => chv P (S + L + X) (o v) v) S i)) := by
  obtain ⟨F, hF1⟩ : ∃ F : Nat, F = 1000 := ⟨_, rfl⟩
  obtain ⟨g, g1, -, g3⟩ := M_w0 hS (nI (S + L + X)) (fun m5 _ => lm (mI m5 78 (upd (m5.1 78) (0 : Int32).toNatClampNeg 0)) fun m6 => lm (mI m6 78 (upd (m6.1 78) (4 : Int32).toNatClampNeg 0)) fun m7 => fM_layLikely_l64 (nI S) (nI (S + L + X)) (fun m9 _ => some m9) F m7 0) 5 0 F m' (by omega) (by omega)
  obtain ⟨m'', k1, k2, k3, k4⟩ := M_out (T := S + L + X) hP hD hn hS hT h0 ho hoi hO (nI S) (fun m9 _ => some m9) n 0 F (mI (mI m' 79 g) 78 (upd (upd (m'.1 78) 0 0) 4 0)) (by omega) (by omega) (pj_r (fun _ => rfl) (pj_r (fun _ => rfl) e)) (fun i hi => by rw [mI_n (by decide), mI_s, g1 i (by omega) hi]; rfl) (by rw [mI_s]; rfl) (by rw [mI_s]; rfl) (fun i hi => by omega)
  refine ⟨m'', ?_, k2, fun k hk => ?_, k4⟩
  · unfold fM_layLikely
    rw [hws m' e]
    simp only [Option.bind_some]
    rw [hwl m' e, ← hF1]
    simp only [Option.bind_some, lt, show m'.1 61 34 = nI X by rw [pj_at e rfl]; exact h34, nI_add]
    refine Eq.trans g3 ?_
    simp only [lm, mI_s, mI_n (show (78 : Nat) ≠ 79 by decide), mI_mI, show (0 : Int32).toNatClampNeg = 0 from rfl, show (4 : Int32).toNatClampNeg = 4 from rfl]
    exact k1
  · have hk2 := hk
    simp only [List.mem_cons, List.not_mem_nil, or_false, not_or] at hk2
    rw [k3 k hk, mI_n (by omega), mI_n (by omega)]
end GM
