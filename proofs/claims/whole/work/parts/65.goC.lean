/-! THE SAME ANSWERS: the class goes through a night -/
theorem lgc0 {x : Int64} : lg_cmp x 0 = 0 ↔ x = 0 := by
  unfold lg_cmp
  by_cases h : x > 0
  · rw [if_pos h]
    exact ⟨fun e => absurd e (by decide), fun e => by rw [e] at h; exact absurd h (by decide)⟩
  · rw [if_neg h]
    by_cases h2 : x = 0
    · simp [h2]
    · simp [h2]
def smW (c : Nat → Nat) (w : Nat → Nat) : Nat → Nat
  | 0 => mvW c w 0
  | b + 1 => smW c w b + mvW c w (b + 1)
theorem smW_go {S : Nat} (hS : S ≤ 3) (c w : Nat → Nat) (h0 : c 0 = 0) (h : wOK S w) : smW c w S = goW c w := by
  have z : mvW c w 0 = 0 := by unfold mvW; rw [h0, Nat.mul_zero, Nat.zero_div]
  have : S = 0 ∨ S = 1 ∨ S = 2 ∨ S = 3 := by omega
  unfold goW
  rcases this with rfl | rfl | rfl | rfl
  · show mvW c w 0 = _
    rw [mvW_0 (h.1 1 (by omega)), mvW_0 (h.1 2 (by omega)), mvW_0 (h.1 3 (by omega)), z]
  · show mvW c w 0 + mvW c w 1 = _
    rw [mvW_0 (h.1 2 (by omega)), mvW_0 (h.1 3 (by omega)), z]; omega
  · show mvW c w 0 + mvW c w 1 + mvW c w 2 = _
    rw [mvW_0 (h.1 3 (by omega)), z]; omega
  · show mvW c w 0 + mvW c w 1 + mvW c w 2 + mvW c w 3 = _
    rw [z]; omega
theorem fillL {sh : Sh} {R : RR} {u N : Nat} (hs : sh[u]? = some (1, N)) (hN : N ≤ 900) (x : Int64) (kc : MI → Int32 → Option MI) : ∀ (q k : Nat) (f : Nat) (m : MI), k + q = N → q < f → ∃ g : Nat → Int64, (∀ i, k ≤ i → i < N → g i = x) ∧ (∀ i, i < k → g i = m.2 u i) ∧ fJA_fill_d0a16_l6 sh R u x (nI N) kc f m (nI k) = kc (mJ m u g) (nI N) := by
  intro q
  induction q with
  | zero =>
    intro k f m hk hf
    obtain ⟨f', rfl, -⟩ := fu hf
    refine ⟨m.2 u, fun i _ _ => by omega, fun _ _ => rfl, ?_⟩
    rw [fJA_fill_d0a16_l6, if_pos (nI_le (by omega) (by omega)), show k = N by omega]
    congr 1
    refine Prod.ext rfl (funext fun k' => ?_)
    by_cases e : k' = u
    · subst e; rw [mJ_s]
    · rw [mJ_n e]
  | succ q ih =>
    intro k f m hk hf
    obtain ⟨f', rfl, hf'⟩ := fu hf
    obtain ⟨g, g1, g2, g3⟩ := ih (k + 1) f' (mJ m u (vp_updL (m.2 u) k x)) (by omega) (hf' q rfl)
    refine ⟨g, fun i h1 h2 => ?_, fun i hi => ?_, ?_⟩
    · by_cases e : i = k
      · subst e; rw [g2 i (by omega), mJ_s, updL_s]
      · exact g1 i (by omega) h2
    · rw [g2 i (by omega), mJ_s, updL_n (by omega)]
    · rw [fJA_fill_d0a16_l6, if_neg (not_le_nI (by omega) (by omega)), if_pos (kA_of hs), lenA_of hs, if_pos (ck_nI (show k < N by omega) (by omega)), cl_nI (show k < 100000 by omega)]
      simp only [lm, lt, nI_1]
      rw [g3, mJ_mJ]
theorem fillI {sh : Sh} {R : RR} {u N : Nat} (hs : sh[u]? = some (0, N)) (hN : N ≤ 900) (x : Int32) (kc : MI → Int32 → Option MI) : ∀ (q k : Nat) (f : Nat) (m : MI), k + q = N → q < f → ∃ g : Nat → Int32, (∀ i, k ≤ i → i < N → g i = x) ∧ (∀ i, i < k → g i = m.1 u i) ∧ fJA_fill_53178_l5 sh R u x (nI N) kc f m (nI k) = kc (mI m u g) (nI N) := by
  intro q
  induction q with
  | zero =>
    intro k f m hk hf
    obtain ⟨f', rfl, -⟩ := fu hf
    refine ⟨m.1 u, fun i _ _ => by omega, fun _ _ => rfl, ?_⟩
    rw [fJA_fill_53178_l5, if_pos (nI_le (by omega) (by omega)), show k = N by omega, mI_id]
  | succ q ih =>
    intro k f m hk hf
    obtain ⟨f', rfl, hf'⟩ := fu hf
    obtain ⟨g, g1, g2, g3⟩ := ih (k + 1) f' (mI m u (upd (m.1 u) k x)) (by omega) (hf' q rfl)
    refine ⟨g, fun i h1 h2 => ?_, fun i hi => ?_, ?_⟩
    · by_cases e : i = k
      · subst e; rw [g2 i (by omega), mI_s, upd_s]
      · exact g1 i (by omega) h2
    · rw [g2 i (by omega), mI_s, upd_n (by omega)]
    · rw [fJA_fill_53178_l5, if_neg (not_le_nI (by omega) (by omega)), if_pos (kA_of hs), lenA_of hs, if_pos (ck_nI (show k < N by omega) (by omega)), cl_nI (show k < 100000 by omega)]
      simp only [lm, lt, nI_1]
      rw [g3, mI_mI]
/-- the class in the midst of a night: its fist, the chances it keeps -/
def LC (P : Nat → Int32 → Int32 → Int32 → Int32) (T S : Nat) (m : MI) (n : Nat) (m' : MI) : Prop := pj m' = pj m ∧ m'.1 37 4 = nI S ∧ (S ≤ T ∧ m'.1 37 5 = nI (T - S)) ∧ ∀ d v b, d < n → v < 6 → b < 4 → m'.1 40 ((d * 6 + v) * 4 + b) = -1 ∨ m'.1 40 ((d * 6 + v) * 4 + b) = nI (chv P T d v b)
section GO
variable {sh : Sh} {R : RR} {m : MI} {hw n T S : Nat} {cs : List Cla} {P : Nat → Int32 → Int32 → Int32 → Int32}
theorem LC_J {m' : MI} {g : Nat → Int64} (h : LC P T S m n m') : LC P T S m n (mJ m' 39 g) := ⟨Eq.trans (pj_J (Or.inl rfl)) h.1, h.2⟩
theorem LC_38 {m' : MI} {g : Nat → Int32} (h : LC P T S m n m') : LC P T S m n (mI m' 38 g) := by
  refine ⟨Eq.trans (pj_row (fun _ => rfl)) h.1, ?_⟩
  rw [mI_n (by decide), mI_n (by decide)]
  exact h.2
theorem L_chE (hF : Fx sh R) (h15 : R 1 15 = some hw) (hs : sh[hw]? = some (11, 0)) (hP : PlH sh R m hw cs) (hD : Drs P cs m n) (hn : n ≤ 6) (hT : T ≤ 100) {m' : MI} (hL : LC P T S m n m') {d v b : Nat} (hd : d < n) (hv : v < 6) (hb : b < 4) : ∃ m'', fL_chance sh R m' (nI d) (nI v) (nI b) = some (nI (chv P T d v b), m'') ∧ LC P T S m n m'' ∧ m''.2 = m'.2 ∧ ∀ k, k ≠ 18 → k ≠ 40 → m''.1 k = m'.1 k := by
  obtain ⟨l1, l2, ⟨l3, l4⟩, l5⟩ := hL
  have ei : (nI d * 6 + nI v) * 4 + nI b = nI ((d * 6 + v) * 4 + b) := by rw [show (6 : Int32) = nI 6 from rfl, show (4 : Int32) = nI 4 from rfl, pk_mul, nI_add, pk_mul, nI_add]
  have cki : ck (nI ((d * 6 + v) * 4 + b)) 144 = true := ck_nI (by omega) (by omega)
  have cli := cl_nI (show (d * 6 + v) * 4 + b < 100000 by omega)
  unfold fL_chance
  simp only [ei, lt, cki, cli, if_true]
  by_cases c : m'.1 40 ((d * 6 + v) * 4 + b) = -1
  · rw [if_pos c, l2, l4, nI_add, show S + (T - S) = T by omega]
    obtain ⟨g, hg⟩ := W_chv hF h15 hs hP hD hn l1 hd (show v ≤ 10 by omega) (show b ≤ 10 by omega) hT
    rw [hg]
    simp only [Option.bind_some, lm, mI_s, upd_s]
    refine ⟨_, rfl, ⟨Eq.trans (pj_row (fun _ => rfl)) (Eq.trans (pj_row (fun _ => rfl)) l1), by rw [mI_n (by decide), mI_n (by decide)]; exact l2, ⟨l3, by rw [mI_n (by decide), mI_n (by decide)]; exact l4⟩, fun d' v' b' hd' hv' hb' => ?_⟩, rfl, fun k k1 k2 => by rw [mI_n k2, mI_n k1]⟩
    rw [mI_s, mI_n (by decide)]
    by_cases e : (d' * 6 + v') * 4 + b' = (d * 6 + v) * 4 + b
    · rw [e, upd_s]
      have e1 : d' = d := by omega
      have e2 : v' = v := by omega
      have e3 : b' = b := by omega
      rw [e1, e2, e3]
      exact Or.inr rfl
    · rw [upd_n e]; exact l5 d' v' b' hd' hv' hb'
  · rw [if_neg c]
    have := (l5 d v b hd hv hb).resolve_left c
    rw [this]
    exact ⟨m', rfl, ⟨l1, l2, ⟨l3, l4⟩, l5⟩, rfl, fun _ _ _ => rfl⟩
theorem C_in_12 {W : Nat → Nat} (hF : Fx sh R) (h15 : R 1 15 = some hw) (hs : sh[hw]? = some (11, 0)) (hP : PlH sh R m hw cs) (hD : Drs P cs m n) (hn : n ≤ 6) (hS : S ≤ 3) (hT : T ≤ 100) {d v : Nat} (hd : d < n) (hv : v < 6) (hW : wOK S W) (kc : MI → Int64 → Int32 → Option MI) :
    ∀ (q b f : Nat) (m' : MI), b + 1 + q = S + 1 → q < f → LC P T S m n m' → (∀ i, i < 4 → m'.2 39 i = lN (if i < b then stW (chv P T d v) W i else if i = b then W i - mvW (chv P T d v) W i else W i)) →
    ∃ m'', fL_goThrough_12_l43 sh R (nI v) (nI d) kc f m' (lN (smW (chv P T d v) W b)) (nI (b + 1)) = kc m'' (lN (smW (chv P T d v) W S)) (nI (S + 1)) ∧ LC P T S m n m'' ∧ (∀ k, k ≠ 18 → k ≠ 40 → m''.1 k = m'.1 k) ∧ ∀ i, i < 4 → m''.2 39 i = lN (if i < S then stW (chv P T d v) W i else if i = S then W i - mvW (chv P T d v) W i else W i) := by
  intro q
  induction q with
  | zero =>
    intro b f m' hb hf hL hm
    obtain ⟨f', rfl, -⟩ := fu hf
    have : b = S := by omega
    subst this
    refine ⟨m', ?_, hL, fun _ _ _ => rfl, hm⟩
    rw [fL_goThrough_12_l43, hL.2.1, if_pos (nI_lt (by omega) (by omega))]
  | succ q ih =>
    intro b f m' hb hf hL hm
    obtain ⟨f', rfl, hf'⟩ := fu hf
    have cc : ∀ i, chv P T d v i ≤ 1000000 := fun i => chv_le d v i
    have ckb : ck (nI (b + 1)) 4 = true := ck_nI (by omega) (by omega)
    have ckb' : ck (nI b) 4 = true := ck_nI (by omega) (by omega)
    have clb := cl_nI (show b + 1 < 100000 by omega)
    have clb' := cl_nI (show b < 100000 by omega)
    have hW1 : W (b + 1) ≤ 1000000 := hW.2.1 _
    have hmv := mvW_le (w := W) (cc (b + 1))
    have m1 : m'.2 39 (b + 1) = lN (W (b + 1)) := by rw [hm _ (by omega), if_neg (by omega), if_neg (by omega)]
    have m0 : m'.2 39 b = lN (W b - mvW (chv P T d v) W b) := by rw [hm _ (by omega), if_neg (by omega), if_pos rfl]
    have hWb : W b ≤ 1000000 := hW.2.1 _
    have nlt : ¬ nI S < nI (b + 1) := nI_nlt (by omega) (by omega)
    rw [fL_goThrough_12_l43, hL.2.1, if_neg nlt, if_pos ckb, clb, m1]
    have fin : ∀ (mA : MI), LC P T S m n mA → (∀ k, k ≠ 18 → k ≠ 40 → mA.1 k = m'.1 k) → (∀ i, i < 4 → mA.2 39 i = lN (if i < b + 1 then stW (chv P T d v) W i else if i = b + 1 then W i - mvW (chv P T d v) W i else W i)) →
        ∃ m'', fL_goThrough_12_l43 sh R (nI v) (nI d) kc f' mA (lN (smW (chv P T d v) W (b + 1))) (nI (b + 1 + 1)) = kc m'' (lN (smW (chv P T d v) W S)) (nI (S + 1)) ∧ LC P T S m n m'' ∧ (∀ k, k ≠ 18 → k ≠ 40 → m''.1 k = m'.1 k) ∧ ∀ i, i < 4 → m''.2 39 i = lN (if i < S then stW (chv P T d v) W i else if i = S then W i - mvW (chv P T d v) W i else W i) := fun mA hA hA2 hA3 => by
      obtain ⟨m'', k1, k2, k3, k4⟩ := ih (b + 1) f' mA (by omega) (hf' q rfl) hA hA3
      exact ⟨m'', k1, k2, fun k a c => by rw [k3 k a c, hA2 k a c], k4⟩
    by_cases w0 : W (b + 1) = 0
    · have mv0 : mvW (chv P T d v) W (b + 1) = 0 := mvW_0 w0
      rw [if_pos (lgc0.mpr (by rw [w0]; rfl)), if_pos ckb, if_pos ckb]
      simp only [lm, ltl, lt, nI_pred, ckb', clb', clb, if_true, nI_1, Int64.add_zero, Int64.sub_zero, m1, mJ_s, mJ_mJ]
      have e2 : smW (chv P T d v) W (b + 1) = smW (chv P T d v) W b := by show smW (chv P T d v) W b + mvW (chv P T d v) W (b + 1) = _; rw [mv0]; rfl
      rw [← e2]
      refine fin _ (LC_J hL) (fun _ _ _ => rfl) (fun i hi => ?_)
      rw [mJ_s]
      by_cases c1 : i = b
      · subst c1
        rw [updL_s, updL_n (by omega), m0, if_pos (by omega)]
        show lN (W i - mvW (chv P T d v) W i) = lN (W i - mvW (chv P T d v) W i + mvW (chv P T d v) W (i + 1))
        rw [mv0]; rfl
      · rw [updL_n c1]
        by_cases c2 : i = b + 1
        · subst c2; rw [updL_s, if_neg (by omega), if_pos rfl, mv0, Nat.sub_zero]
        · rw [updL_n c2, hm i hi]
          by_cases c3 : i < b
          · rw [if_pos c3, if_pos (by omega)]
          · rw [if_neg c3, if_neg c1, if_neg (by omega), if_neg c2]
    · obtain ⟨mA, g1, g2, g3, g4⟩ := L_chE hF h15 hs hP hD hn hT hL hd hv (show b + 1 < 4 by omega)
      rw [if_neg (fun e => w0 ((lN_z (by omega)).mp (lgc0.mp e))), if_pos ckb, g1]
      have prod : W (b + 1) * chv P T d v (b + 1) ≤ 1000000 * 1000000 := Nat.mul_le_mul hW1 (cc _)
      have emv : lN (W (b + 1)) * (nI (chv P T d v (b + 1))).toInt64 / 1000000 = lN (mvW (chv P T d v) W (b + 1)) := by
        have := cc (b + 1)
        rw [nI_l (by omega), lN_mul, show (1000000 : Int64) = lN 1000000 from rfl, pk_lDiv (by omega) (by omega) (by omega)]
        rfl
      simp only [Option.bind_some, ltl, lt, lm, emv, ckb, clb, if_true, nI_pred, ckb', clb', g3, m1, mJ_s, mJ_mJ, nI_1, lN_sub hmv, lN_add, updL_n (show b ≠ b + 1 by omega), m0]
      refine fin _ (LC_J g2) (fun k a c => by rw [mJ_I]; exact g4 k a c) (fun i hi => ?_)
      rw [mJ_s]
      by_cases c1 : i = b
      · subst c1
        rw [updL_s, if_pos (by omega)]
        rfl
      · rw [updL_n c1]
        by_cases c2 : i = b + 1
        · subst c2; rw [updL_s, if_neg (by omega), if_pos rfl]
        · rw [updL_n c2, hm i hi]
          by_cases c3 : i < b
          · rw [if_pos c3, if_pos (by omega)]
          · rw [if_neg c3, if_neg c1, if_neg (by omega), if_neg c2]
theorem C_out_12 (hF : Fx sh R) (h15 : R 1 15 = some hw) (hs : sh[hw]? = some (11, 0)) (hP : PlH sh R m hw cs) (hD : Drs P cs m n) (hn : n ≤ 6) (hS : S ≤ 3) (hT : T ≤ 100) (h10 : m.1 1 0 = nI n) {o : Nat → Nat} (ho : ∀ i, i < n → o i < n) (hoi : ∀ i j, i < n → j < n → o i = o j → i = j) (kc : MI → Int32 → Option MI) :
    ∀ (q v f : Nat) (m' : MI), v + q = n → q < f → LC P T S m n m' → (∀ i, i < n → m'.1 12 i = nI (o i)) → (∀ i, i < 4 → m'.2 39 i = lN (wAt (fun v => chv P T (o v) v) S v i)) → (∀ i, i < v → m'.1 38 (o i) = nI (goW (chv P T (o i) i) (wAt (fun v => chv P T (o v) v) S i))) →
    ∃ m'', fL_goThrough_12_l22 sh R kc f m' (nI v) = kc m'' (nI n) ∧ LC P T S m n m'' ∧ (∀ k, k ≠ 18 → k ≠ 40 → k ≠ 38 → m''.1 k = m'.1 k) ∧ ∀ i, i < n → m''.1 38 (o i) = nI (goW (chv P T (o i) i) (wAt (fun v => chv P T (o v) v) S i)) := by
  have hC : ∀ v b, chv P T (o v) v b ≤ 1000000 := fun v b => chv_le _ _ _
  have hC0 : ∀ v, chv P T (o v) v 0 = 0 := fun v => chv_0 _ _
  intro q
  induction q with
  | zero =>
    intro v f m' hk hf hL hO hm h38
    obtain ⟨f', rfl, -⟩ := fu hf
    have : v = n := by omega
    subst this
    refine ⟨m', ?_, hL, fun _ _ _ _ => rfl, h38⟩
    rw [fL_goThrough_12_l22, show m'.1 1 0 = nI v by rw [pj_at hL.1 rfl, h10], if_pos (Int32.le_refl _)]
  | succ q ih =>
    intro v f m' hk hf hL hO hm h38
    obtain ⟨f', rfl, hf'⟩ := fu hf
    obtain ⟨F, hF1⟩ : ∃ F : Nat, F = 1000 := ⟨_, rfl⟩
    have hok := wOK_at (C := fun v => chv P T (o v) v) hS hC hC0 v
    have cko : ck (nI (o v)) 6 = true := ck_nI (by have := ho v (by omega); omega) (by omega)
    have clo := cl_nI (show o v < 100000 by have := ho v (by omega); omega)
    obtain ⟨mA, a1, a2, a3, a4⟩ := C_in_12 (W := wAt (fun v => chv P T (o v) v) S v) hF h15 hs hP hD hn hS hT (ho v (by omega)) (show v < 6 by omega) hok (fun m6 z4 _ => if ck (nI (o v)) 6 = true then lm (mI m6 38 (upd (m6.1 38) (nI (o v)).toNatClampNeg (z4.toInt32))) fun m8 => lt (nI v + 1) fun x9 => fL_goThrough_12_l22 sh R kc f' m8 x9 else none) S 0 F m' (by omega) (by omega) hL (fun i hi => by
      rw [hm i hi, if_neg (Nat.not_lt_zero _)]
      by_cases c : i = 0
      · subst c; rw [if_pos rfl]
        have : mvW (chv P T (o v) v) (wAt (fun v => chv P T (o v) v) S v) 0 = 0 := by unfold mvW; rw [chv_0, Nat.mul_zero, Nat.zero_div]
        rw [this, Nat.sub_zero]
      · rw [if_neg c])
    have z0 : smW (chv P T (o v) v) (wAt (fun v => chv P T (o v) v) S v) 0 = 0 := by show mvW _ _ 0 = 0; unfold mvW; rw [chv_0, Nat.mul_zero, Nat.zero_div]
    rw [z0] at a1
    have eg := smW_go hS (chv P T (o v) v) (wAt (fun v => chv P T (o v) v) S v) (chv_0 _ _) hok
    obtain ⟨mB, hmB⟩ : ∃ mB, mB = mI mA 38 (upd (mA.1 38) (o v) (nI (goW (chv P T (o v) v) (wAt (fun v => chv P T (o v) v) S v)))) := ⟨_, rfl⟩
    obtain ⟨m'', k1, k2, k3, k4⟩ := ih (v + 1) f' mB (by omega) (hf' q rfl) (by rw [hmB]; exact LC_38 a2) (fun i hi => by rw [hmB, mI_n (by decide), a3 _ (by decide) (by decide)]; exact hO i hi) (fun i hi => by
      rw [hmB, mI_J, a4 i hi]
      show _ = lN (stW (chv P T (o v) v) (wAt (fun v => chv P T (o v) v) S v) i)
      by_cases c1 : i < S
      · rw [if_pos c1]
      · rw [if_neg c1]
        have z : mvW (chv P T (o v) v) (wAt (fun v => chv P T (o v) v) S v) (i + 1) = 0 := mvW_0 (hok.1 _ (by omega))
        by_cases c2 : i = S
        · rw [if_pos c2]
          unfold stW
          rw [z, Nat.add_zero]
        · rw [if_neg c2]
          unfold stW
          rw [z, mvW_0 (hok.1 i (by omega)), Nat.add_zero, Nat.sub_zero]) (fun i hi => by
      rw [hmB, mI_s]
      by_cases c : i = v
      · rw [c, upd_s]
      · rw [upd_n (fun e => c (hoi i v (by omega) (by omega) e)), a3 _ (by decide) (by decide)]
        exact h38 i (by omega))
    refine ⟨m'', ?_, k2, fun k x y z => by rw [k3 k x y z, hmB, mI_n z, a3 k x y], k4⟩
    rw [fL_goThrough_12_l22, show m'.1 1 0 = nI n by rw [pj_at hL.1 rfl, h10], if_neg (not_le_nI (by omega) (by omega)), if_pos (ck_nI (show v < 6 by omega) (by omega)), cl_nI (show v < 100000 by omega), hO v (by omega), ← hF1]
    simp only [lt]
    refine Eq.trans a1 ?_
    rw [if_pos cko, clo, lN_i, eg]
    simp only [lm, nI_1]
    rw [← hmB]
    exact k1
theorem C_go_12 (hF : Fx sh R) (h15 : R 1 15 = some hw) (hs : sh[hw]? = some (11, 0)) (hP : PlH sh R m hw cs) (hD : Drs P cs m n) (hn : n ≤ 6) (hS : S ≤ 3) (hT : T ≤ 100) (h10 : m.1 1 0 = nI n) {o : Nat → Nat} (ho : ∀ i, i < n → o i < n) (hoi : ∀ i j, i < n → j < n → o i = o j → i = j)
    (m' : MI) (hL : LC P T S m n m') (hO : ∀ i, i < n → m'.1 12 i = nI (o i)) : ∃ m'', fL_goThrough_12 sh R m' = some m'' ∧ LC P T S m n m'' ∧ (∀ k, k ≠ 18 → k ≠ 40 → k ≠ 38 → m''.1 k = m'.1 k) ∧ ∀ i, i < n → m''.1 38 (o i) = nI (goW (chv P T (o i) i) (wAt (fun v => chv P T (o v) v) S i)) := by
  obtain ⟨F, hF1⟩ : ∃ F : Nat, F = 1000 := ⟨_, rfl⟩
  have s39 : sh[39]? = some (1, 4) := hF.1 39 _ rfl
  obtain ⟨g, g1, -, g3⟩ := fillL (R := R) (N := 4) s39 (by omega) 0 (fun m4 _ => some m4) 4 0 F m' (by omega) (by omega)
  obtain ⟨m'', k1, k2, k3, k4⟩ := C_out_12 hF h15 hs hP hD hn hS hT h10 ho hoi (fun m5 _ => some m5) n 0 F (mJ m' 39 (vp_updL g S 1000000)) (by omega) (by omega) (LC_J hL) hO (fun i hi => by
    rw [mJ_s]
    show _ = lN (if i = S then 1000000 else 0)
    by_cases c : i = S
    · subst c; rw [updL_s, if_pos rfl]; rfl
    · rw [updL_n c, if_neg c, g1 i (by omega) hi]; rfl) (fun i hi => by omega)
  refine ⟨m'', ?_, k2, k3, k4⟩
  unfold fL_goThrough_12 fJA_fill_d0a16
  rw [if_pos (kA_of s39), lenA_of s39, ← hF1]
  simp only [lt]
  rw [show Int32.ofNat 4 = nI 4 from rfl, show fJA_fill_d0a16_l6 sh R 39 0 (nI 4) (fun m4 _ => some m4) F m' 0 = _ from g3]
  simp only [Option.bind_some, mJ_I, hL.2.1, ck_nI (show S < 4 by omega) (show 4 ≤ 100000 by omega), cl_nI (show S < 100000 by omega), if_true, lm, mJ_s, mJ_mJ]
  exact k1
theorem C_in_41 {W : Nat → Nat} (hF : Fx sh R) (h15 : R 1 15 = some hw) (hs : sh[hw]? = some (11, 0)) (hP : PlH sh R m hw cs) (hD : Drs P cs m n) (hn : n ≤ 6) (hS : S ≤ 3) (hT : T ≤ 100) {d v : Nat} (hd : d < n) (hv : v < 6) (hW : wOK S W) (kc : MI → Int64 → Int32 → Option MI) :
    ∀ (q b f : Nat) (m' : MI), b + 1 + q = S + 1 → q < f → LC P T S m n m' → (∀ i, i < 4 → m'.2 39 i = lN (if i < b then stW (chv P T d v) W i else if i = b then W i - mvW (chv P T d v) W i else W i)) →
    ∃ m'', fL_goThrough_41_l43 sh R (nI v) (nI d) kc f m' (lN (smW (chv P T d v) W b)) (nI (b + 1)) = kc m'' (lN (smW (chv P T d v) W S)) (nI (S + 1)) ∧ LC P T S m n m'' ∧ (∀ k, k ≠ 18 → k ≠ 40 → m''.1 k = m'.1 k) ∧ ∀ i, i < 4 → m''.2 39 i = lN (if i < S then stW (chv P T d v) W i else if i = S then W i - mvW (chv P T d v) W i else W i) := by
  intro q
  induction q with
  | zero =>
    intro b f m' hb hf hL hm
    obtain ⟨f', rfl, -⟩ := fu hf
    have : b = S := by omega
    subst this
    refine ⟨m', ?_, hL, fun _ _ _ => rfl, hm⟩
    rw [fL_goThrough_41_l43, hL.2.1, if_pos (nI_lt (by omega) (by omega))]
  | succ q ih =>
    intro b f m' hb hf hL hm
    obtain ⟨f', rfl, hf'⟩ := fu hf
    have cc : ∀ i, chv P T d v i ≤ 1000000 := fun i => chv_le d v i
    have ckb : ck (nI (b + 1)) 4 = true := ck_nI (by omega) (by omega)
    have ckb' : ck (nI b) 4 = true := ck_nI (by omega) (by omega)
    have clb := cl_nI (show b + 1 < 100000 by omega)
    have clb' := cl_nI (show b < 100000 by omega)
    have hW1 : W (b + 1) ≤ 1000000 := hW.2.1 _
    have hmv := mvW_le (w := W) (cc (b + 1))
    have m1 : m'.2 39 (b + 1) = lN (W (b + 1)) := by rw [hm _ (by omega), if_neg (by omega), if_neg (by omega)]
    have m0 : m'.2 39 b = lN (W b - mvW (chv P T d v) W b) := by rw [hm _ (by omega), if_neg (by omega), if_pos rfl]
    have hWb : W b ≤ 1000000 := hW.2.1 _
    have nlt : ¬ nI S < nI (b + 1) := nI_nlt (by omega) (by omega)
    rw [fL_goThrough_41_l43, hL.2.1, if_neg nlt, if_pos ckb, clb, m1]
    have fin : ∀ (mA : MI), LC P T S m n mA → (∀ k, k ≠ 18 → k ≠ 40 → mA.1 k = m'.1 k) → (∀ i, i < 4 → mA.2 39 i = lN (if i < b + 1 then stW (chv P T d v) W i else if i = b + 1 then W i - mvW (chv P T d v) W i else W i)) →
        ∃ m'', fL_goThrough_41_l43 sh R (nI v) (nI d) kc f' mA (lN (smW (chv P T d v) W (b + 1))) (nI (b + 1 + 1)) = kc m'' (lN (smW (chv P T d v) W S)) (nI (S + 1)) ∧ LC P T S m n m'' ∧ (∀ k, k ≠ 18 → k ≠ 40 → m''.1 k = m'.1 k) ∧ ∀ i, i < 4 → m''.2 39 i = lN (if i < S then stW (chv P T d v) W i else if i = S then W i - mvW (chv P T d v) W i else W i) := fun mA hA hA2 hA3 => by
      obtain ⟨m'', k1, k2, k3, k4⟩ := ih (b + 1) f' mA (by omega) (hf' q rfl) hA hA3
      exact ⟨m'', k1, k2, fun k a c => by rw [k3 k a c, hA2 k a c], k4⟩
    by_cases w0 : W (b + 1) = 0
    · have mv0 : mvW (chv P T d v) W (b + 1) = 0 := mvW_0 w0
      rw [if_pos (lgc0.mpr (by rw [w0]; rfl)), if_pos ckb, if_pos ckb]
      simp only [lm, ltl, lt, nI_pred, ckb', clb', clb, if_true, nI_1, Int64.add_zero, Int64.sub_zero, m1, mJ_s, mJ_mJ]
      have e2 : smW (chv P T d v) W (b + 1) = smW (chv P T d v) W b := by show smW (chv P T d v) W b + mvW (chv P T d v) W (b + 1) = _; rw [mv0]; rfl
      rw [← e2]
      refine fin _ (LC_J hL) (fun _ _ _ => rfl) (fun i hi => ?_)
      rw [mJ_s]
      by_cases c1 : i = b
      · subst c1
        rw [updL_s, updL_n (by omega), m0, if_pos (by omega)]
        show lN (W i - mvW (chv P T d v) W i) = lN (W i - mvW (chv P T d v) W i + mvW (chv P T d v) W (i + 1))
        rw [mv0]; rfl
      · rw [updL_n c1]
        by_cases c2 : i = b + 1
        · subst c2; rw [updL_s, if_neg (by omega), if_pos rfl, mv0, Nat.sub_zero]
        · rw [updL_n c2, hm i hi]
          by_cases c3 : i < b
          · rw [if_pos c3, if_pos (by omega)]
          · rw [if_neg c3, if_neg c1, if_neg (by omega), if_neg c2]
    · obtain ⟨mA, g1, g2, g3, g4⟩ := L_chE hF h15 hs hP hD hn hT hL hd hv (show b + 1 < 4 by omega)
      rw [if_neg (fun e => w0 ((lN_z (by omega)).mp (lgc0.mp e))), if_pos ckb, g1]
      have prod : W (b + 1) * chv P T d v (b + 1) ≤ 1000000 * 1000000 := Nat.mul_le_mul hW1 (cc _)
      have emv : lN (W (b + 1)) * (nI (chv P T d v (b + 1))).toInt64 / 1000000 = lN (mvW (chv P T d v) W (b + 1)) := by
        have := cc (b + 1)
        rw [nI_l (by omega), lN_mul, show (1000000 : Int64) = lN 1000000 from rfl, pk_lDiv (by omega) (by omega) (by omega)]
        rfl
      simp only [Option.bind_some, ltl, lt, lm, emv, ckb, clb, if_true, nI_pred, ckb', clb', g3, m1, mJ_s, mJ_mJ, nI_1, lN_sub hmv, lN_add, updL_n (show b ≠ b + 1 by omega), m0]
      refine fin _ (LC_J g2) (fun k a c => by rw [mJ_I]; exact g4 k a c) (fun i hi => ?_)
      rw [mJ_s]
      by_cases c1 : i = b
      · subst c1
        rw [updL_s, if_pos (by omega)]
        rfl
      · rw [updL_n c1]
        by_cases c2 : i = b + 1
        · subst c2; rw [updL_s, if_neg (by omega), if_pos rfl]
        · rw [updL_n c2, hm i hi]
          by_cases c3 : i < b
          · rw [if_pos c3, if_pos (by omega)]
          · rw [if_neg c3, if_neg c1, if_neg (by omega), if_neg c2]
theorem C_out_41 (hF : Fx sh R) (h15 : R 1 15 = some hw) (hs : sh[hw]? = some (11, 0)) (hP : PlH sh R m hw cs) (hD : Drs P cs m n) (hn : n ≤ 6) (hS : S ≤ 3) (hT : T ≤ 100) (h10 : m.1 1 0 = nI n) {o : Nat → Nat} (ho : ∀ i, i < n → o i < n) (hoi : ∀ i j, i < n → j < n → o i = o j → i = j) (kc : MI → Int32 → Option MI) :
    ∀ (q v f : Nat) (m' : MI), v + q = n → q < f → LC P T S m n m' → (∀ i, i < n → m'.1 41 i = nI (o i)) → (∀ i, i < 4 → m'.2 39 i = lN (wAt (fun v => chv P T (o v) v) S v i)) → (∀ i, i < v → m'.1 38 (o i) = nI (goW (chv P T (o i) i) (wAt (fun v => chv P T (o v) v) S i))) →
    ∃ m'', fL_goThrough_41_l22 sh R kc f m' (nI v) = kc m'' (nI n) ∧ LC P T S m n m'' ∧ (∀ k, k ≠ 18 → k ≠ 40 → k ≠ 38 → m''.1 k = m'.1 k) ∧ ∀ i, i < n → m''.1 38 (o i) = nI (goW (chv P T (o i) i) (wAt (fun v => chv P T (o v) v) S i)) := by
  have hC : ∀ v b, chv P T (o v) v b ≤ 1000000 := fun v b => chv_le _ _ _
  have hC0 : ∀ v, chv P T (o v) v 0 = 0 := fun v => chv_0 _ _
  intro q
  induction q with
  | zero =>
    intro v f m' hk hf hL hO hm h38
    obtain ⟨f', rfl, -⟩ := fu hf
    have : v = n := by omega
    subst this
    refine ⟨m', ?_, hL, fun _ _ _ _ => rfl, h38⟩
    rw [fL_goThrough_41_l22, show m'.1 1 0 = nI v by rw [pj_at hL.1 rfl, h10], if_pos (Int32.le_refl _)]
  | succ q ih =>
    intro v f m' hk hf hL hO hm h38
    obtain ⟨f', rfl, hf'⟩ := fu hf
    obtain ⟨F, hF1⟩ : ∃ F : Nat, F = 1000 := ⟨_, rfl⟩
    have hok := wOK_at (C := fun v => chv P T (o v) v) hS hC hC0 v
    have cko : ck (nI (o v)) 6 = true := ck_nI (by have := ho v (by omega); omega) (by omega)
    have clo := cl_nI (show o v < 100000 by have := ho v (by omega); omega)
    obtain ⟨mA, a1, a2, a3, a4⟩ := C_in_41 (W := wAt (fun v => chv P T (o v) v) S v) hF h15 hs hP hD hn hS hT (ho v (by omega)) (show v < 6 by omega) hok (fun m6 z4 _ => if ck (nI (o v)) 6 = true then lm (mI m6 38 (upd (m6.1 38) (nI (o v)).toNatClampNeg (z4.toInt32))) fun m8 => lt (nI v + 1) fun x9 => fL_goThrough_41_l22 sh R kc f' m8 x9 else none) S 0 F m' (by omega) (by omega) hL (fun i hi => by
      rw [hm i hi, if_neg (Nat.not_lt_zero _)]
      by_cases c : i = 0
      · subst c; rw [if_pos rfl]
        have : mvW (chv P T (o v) v) (wAt (fun v => chv P T (o v) v) S v) 0 = 0 := by unfold mvW; rw [chv_0, Nat.mul_zero, Nat.zero_div]
        rw [this, Nat.sub_zero]
      · rw [if_neg c])
    have z0 : smW (chv P T (o v) v) (wAt (fun v => chv P T (o v) v) S v) 0 = 0 := by show mvW _ _ 0 = 0; unfold mvW; rw [chv_0, Nat.mul_zero, Nat.zero_div]
    rw [z0] at a1
    have eg := smW_go hS (chv P T (o v) v) (wAt (fun v => chv P T (o v) v) S v) (chv_0 _ _) hok
    obtain ⟨mB, hmB⟩ : ∃ mB, mB = mI mA 38 (upd (mA.1 38) (o v) (nI (goW (chv P T (o v) v) (wAt (fun v => chv P T (o v) v) S v)))) := ⟨_, rfl⟩
    obtain ⟨m'', k1, k2, k3, k4⟩ := ih (v + 1) f' mB (by omega) (hf' q rfl) (by rw [hmB]; exact LC_38 a2) (fun i hi => by rw [hmB, mI_n (by decide), a3 _ (by decide) (by decide)]; exact hO i hi) (fun i hi => by
      rw [hmB, mI_J, a4 i hi]
      show _ = lN (stW (chv P T (o v) v) (wAt (fun v => chv P T (o v) v) S v) i)
      by_cases c1 : i < S
      · rw [if_pos c1]
      · rw [if_neg c1]
        have z : mvW (chv P T (o v) v) (wAt (fun v => chv P T (o v) v) S v) (i + 1) = 0 := mvW_0 (hok.1 _ (by omega))
        by_cases c2 : i = S
        · rw [if_pos c2]
          unfold stW
          rw [z, Nat.add_zero]
        · rw [if_neg c2]
          unfold stW
          rw [z, mvW_0 (hok.1 i (by omega)), Nat.add_zero, Nat.sub_zero]) (fun i hi => by
      rw [hmB, mI_s]
      by_cases c : i = v
      · rw [c, upd_s]
      · rw [upd_n (fun e => c (hoi i v (by omega) (by omega) e)), a3 _ (by decide) (by decide)]
        exact h38 i (by omega))
    refine ⟨m'', ?_, k2, fun k x y z => by rw [k3 k x y z, hmB, mI_n z, a3 k x y], k4⟩
    rw [fL_goThrough_41_l22, show m'.1 1 0 = nI n by rw [pj_at hL.1 rfl, h10], if_neg (not_le_nI (by omega) (by omega)), if_pos (ck_nI (show v < 6 by omega) (by omega)), cl_nI (show v < 100000 by omega), hO v (by omega), ← hF1]
    simp only [lt]
    refine Eq.trans a1 ?_
    rw [if_pos cko, clo, lN_i, eg]
    simp only [lm, nI_1]
    rw [← hmB]
    exact k1
theorem C_go_41 (hF : Fx sh R) (h15 : R 1 15 = some hw) (hs : sh[hw]? = some (11, 0)) (hP : PlH sh R m hw cs) (hD : Drs P cs m n) (hn : n ≤ 6) (hS : S ≤ 3) (hT : T ≤ 100) (h10 : m.1 1 0 = nI n) {o : Nat → Nat} (ho : ∀ i, i < n → o i < n) (hoi : ∀ i j, i < n → j < n → o i = o j → i = j)
    (m' : MI) (hL : LC P T S m n m') (hO : ∀ i, i < n → m'.1 41 i = nI (o i)) : ∃ m'', fL_goThrough_41 sh R m' = some m'' ∧ LC P T S m n m'' ∧ (∀ k, k ≠ 18 → k ≠ 40 → k ≠ 38 → m''.1 k = m'.1 k) ∧ ∀ i, i < n → m''.1 38 (o i) = nI (goW (chv P T (o i) i) (wAt (fun v => chv P T (o v) v) S i)) := by
  obtain ⟨F, hF1⟩ : ∃ F : Nat, F = 1000 := ⟨_, rfl⟩
  have s39 : sh[39]? = some (1, 4) := hF.1 39 _ rfl
  obtain ⟨g, g1, -, g3⟩ := fillL (R := R) (N := 4) s39 (by omega) 0 (fun m4 _ => some m4) 4 0 F m' (by omega) (by omega)
  obtain ⟨m'', k1, k2, k3, k4⟩ := C_out_41 hF h15 hs hP hD hn hS hT h10 ho hoi (fun m5 _ => some m5) n 0 F (mJ m' 39 (vp_updL g S 1000000)) (by omega) (by omega) (LC_J hL) hO (fun i hi => by
    rw [mJ_s]
    show _ = lN (if i = S then 1000000 else 0)
    by_cases c : i = S
    · subst c; rw [updL_s, if_pos rfl]; rfl
    · rw [updL_n c, if_neg c, g1 i (by omega) hi]; rfl) (fun i hi => by omega)
  refine ⟨m'', ?_, k2, k3, k4⟩
  unfold fL_goThrough_41 fJA_fill_d0a16
  rw [if_pos (kA_of s39), lenA_of s39, ← hF1]
  simp only [lt]
  rw [show Int32.ofNat 4 = nI 4 from rfl, show fJA_fill_d0a16_l6 sh R 39 0 (nI 4) (fun m4 _ => some m4) F m' 0 = _ from g3]
  simp only [Option.bind_some, mJ_I, hL.2.1, ck_nI (show S < 4 by omega) (show 4 ≤ 100000 by omega), cl_nI (show S < 100000 by omega), if_true, lm, mJ_s, mJ_mJ]
  exact k1
end GO
