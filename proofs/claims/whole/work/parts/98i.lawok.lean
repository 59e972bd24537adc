/-! THE OPERATIONS, class then reference (printed by wip/whole/lawp.py) -/
/-- an operation, class then reference: the same answer, and the joint state again (m3: as m2, but behind the ends of rows) -/
def OK2 (Y6 Y7 : YD) (av : List Value) (sh : Sh) (R : RR) (m : MI) (iv : Value → Prop) : Prop := ∃ v sh' R' m1 m2 m3, iv v ∧ CallOK Y6 sh R m (.ref 0 :: av) v sh' R' m1 ∧ CallOK Y7 sh' R' m1 (.ref 61 :: av) v sh' R' m2 ∧ MEq sh' m2 m3 ∧ Rel sh' R' m3
def isI (v : Value) : Prop := ∃ x, v = .int x
def isL (v : Value) : Prop := ∃ x, v = .long x
theorem cokI {d : Nat} {Y : YD} {sh : Sh} {R : RR} {m m1 : MI} {av : List Value} {v : Int32} (h : KS (eI sh R) false d 0 0 Y sh R m av (some (v, m1))) (hd : d ≤ 300) : CallOK Y sh R m av (.int v) sh R m1 := ⟨false, d, 0, 0, hd, by omega, by omega, h _ rfl⟩
theorem cokL {d : Nat} {Y : YD} {sh : Sh} {R : RR} {m m1 : MI} {av : List Value} {v : Int64} (h : KS (eL sh R) false d 0 0 Y sh R m av (some (v, m1))) (hd : d ≤ 300) : CallOK Y sh R m av (.long v) sh R m1 := ⟨false, d, 0, 0, hd, by omega, by omega, h _ rfl⟩
theorem okI {d d' : Nat} {Y6 Y7 : YD} {sh : Sh} {R : RR} {m : MI} {av : List Value} {fc fm : MI → Option (Int32 × MI)} (h : Ans sh R m fc fm) (hc : KS (eI sh R) false d 0 0 Y6 sh R m (.ref 0 :: av) (fc m)) (hm : ∀ m, KS (eI sh R) false d' 0 0 Y7 sh R m (.ref 61 :: av) (fm m)) (hd : d ≤ 300) (hd' : d' ≤ 300) : OK2 Y6 Y7 av sh R m isI := by
  obtain ⟨v, m1, m2, h1, h2, h3⟩ := h
  rw [h1] at hc
  have hm := hm m1
  rw [h2] at hm
  exact ⟨.int v, sh, R, m1, m2, m2, ⟨v, rfl⟩, cokI hc hd, cokI hm hd', MEq_r, h3⟩
theorem okL {d d' : Nat} {Y6 Y7 : YD} {sh : Sh} {R : RR} {m : MI} {av : List Value} {fc fm : MI → Option (Int64 × MI)} (h : Ans sh R m fc fm) (hc : KS (eL sh R) false d 0 0 Y6 sh R m (.ref 0 :: av) (fc m)) (hm : ∀ m, KS (eL sh R) false d' 0 0 Y7 sh R m (.ref 61 :: av) (fm m)) (hd : d ≤ 300) (hd' : d' ≤ 300) : OK2 Y6 Y7 av sh R m isL := by
  obtain ⟨v, m1, m2, h1, h2, h3⟩ := h
  rw [h1] at hc
  have hm := hm m1
  rw [h2] at hm
  exact ⟨.long v, sh, R, m1, m2, m2, ⟨v, rfl⟩, cokL hc hd, cokL hm hd', MEq_r, h3⟩
theorem ok_hut {sh : Sh} {R : RR} {m : MI} (H : Rel sh R m) : OK2 YX6_hut YX7_hut [] sh R m isI := by
  obtain ⟨v, sh', R', m1, m2, h1, h2, h3⟩ := op_hut H
  have hm := sM_hut (Fx_of h3.2.2.2.2.2) m1
  rw [h2] at hm
  exact ⟨.int v, sh', R', m1, m2, m2, ⟨v, rfl⟩, h1, cokI hm (by omega), MEq_r, h3⟩
theorem ok_image {sh : Sh} {R : RR} {m : MI} (H : Rel sh R m) : OK2 YX6_image YX7_image [] sh R m isI := by
  obtain ⟨v, R', m1, m2, m3, h1, h2, h4, h3⟩ := op_image H
  have hm := sM_image (Fx_of h3.2.2.2.2.2) m1
  rw [h2] at hm
  exact ⟨.int v, sh, R', m1, m2, m3, ⟨v, rfl⟩, h1, cokI hm (by omega), h4, h3⟩
theorem ok_undo {sh : Sh} {R : RR} {m : MI} (H : Rel sh R m) : OK2 YX6_undo YX7_undo [] sh R m isI := by
  obtain ⟨v, R', m1, m2, h1, h2, h3⟩ := op_undo H
  have hm := sM_undo (Fx_of h3.2.2.2.2.2) m1
  rw [h2] at hm
  exact ⟨.int v, sh, R', m1, m2, m2, ⟨v, rfl⟩, h1, cokI hm (by omega), MEq_r, h3⟩
theorem ok_drawer {sh : Sh} {R : RR} {m : MI} (a : Int32) (b : Int32) (H : Rel sh R m) : OK2 YX6_drawer YX7_drawer [.int a, .int b] sh R m isI :=
  okI (op_drawer a b H) (sC_drawer (Fx_of H.2.2.2.2.2) m a b) (fun m => sM_drawer (Fx_of H.2.2.2.2.2) m a b) (by omega) (by omega)
theorem ok_of {sh : Sh} {R : RR} {m : MI} (a : Int32) (b : Int32) (H : Rel sh R m) : OK2 YX6_of YX7_of [.int a, .int b] sh R m isI :=
  okI (op_of a b H) (sC_of (Fx_of H.2.2.2.2.2) m a b) (fun m => sM_of (Fx_of H.2.2.2.2.2) m a b) (by omega) (by omega)
theorem ok_sent {sh : Sh} {R : RR} {m : MI} (a : Int32) (b : Int32) (H : Rel sh R m) : OK2 YX6_sent YX7_sent [.int a, .int b] sh R m isI :=
  okI (op_sent a b H) (sC_sent (Fx_of H.2.2.2.2.2) m a b) (fun m => sM_sent (Fx_of H.2.2.2.2.2) m a b) (by omega) (by omega)
theorem ok_row {sh : Sh} {R : RR} {m : MI} (a : Int32) (b : Int32) (c : Int32) (H : Rel sh R m) : OK2 YX6_row YX7_row [.int a, .int b, .int c] sh R m isI :=
  okI (op_row a b c H) (sC_row (Fx_of H.2.2.2.2.2) m a b c) (fun m => sM_row (Fx_of H.2.2.2.2.2) m a b c) (by omega) (by omega)
theorem ok_place {sh : Sh} {R : RR} {m : MI} (a : Int32) (b : Int32) (H : Rel sh R m) : OK2 YX6_place YX7_place [.int a, .int b] sh R m isI :=
  okI (op_place a b H) (sC_place (Fx_of H.2.2.2.2.2) m a b) (fun m => sM_place (Fx_of H.2.2.2.2.2) m a b) (by omega) (by omega)
theorem ok_feed {sh : Sh} {R : RR} {m : MI} (a : Int32) (H : Rel sh R m) : OK2 YX6_feed YX7_feed [.int a] sh R m isI :=
  okI (op_feed a H) (sC_feed (Fx_of H.2.2.2.2.2) m a) (fun m => sM_feed (Fx_of H.2.2.2.2.2) m a) (by omega) (by omega)
theorem ok_told {sh : Sh} {R : RR} {m : MI} (a : Int32) (H : Rel sh R m) : OK2 YX6_told YX7_told [.int a] sh R m isI :=
  okI (op_told a H) (sC_told (Fx_of H.2.2.2.2.2) m a) (fun m => sM_told (Fx_of H.2.2.2.2.2) m a) (by omega) (by omega)
theorem ok_draw {sh : Sh} {R : RR} {m : MI} (a : Int32) (H : Rel sh R m) : OK2 YX6_draw YX7_draw [.int a] sh R m isI :=
  okI (op_draw a H) (sC_draw (Fx_of H.2.2.2.2.2) m a) (fun m => sM_draw (Fx_of H.2.2.2.2.2) m a) (by omega) (by omega)
theorem ok_likely {sh : Sh} {R : RR} {m : MI} (a : Int32) (H : Rel sh R m) : OK2 YX6_likely YX7_likely [.int a] sh R m isI :=
  okI (op_likely a H) (sC_likely (Fx_of H.2.2.2.2.2) m a) (fun m => sM_likely (Fx_of H.2.2.2.2.2) m a) (by omega) (by omega)
theorem ok_even {sh : Sh} {R : RR} {m : MI}  (H : Rel sh R m) : OK2 YX6_even YX7_even [] sh R m isI :=
  okI (op_even  H) (sC_even (Fx_of H.2.2.2.2.2) m ) (fun m => sM_even (Fx_of H.2.2.2.2.2) m ) (by omega) (by omega)
theorem ok_best {sh : Sh} {R : RR} {m : MI} (a : Int32) (H : Rel sh R m) : OK2 YX6_best YX7_best [.int a] sh R m isI :=
  okI (op_best a H) (sC_best (Fx_of H.2.2.2.2.2) m a) (fun m => sM_best (Fx_of H.2.2.2.2.2) m a) (by omega) (by omega)
theorem ok_safest {sh : Sh} {R : RR} {m : MI} (a : Int32) (b : Int32) (H : Rel sh R m) : OK2 YX6_safest YX7_safest [.int a, .int b] sh R m isI :=
  okI (op_safest a b H) (sC_safest (Fx_of H.2.2.2.2.2) m a b) (fun m => sM_safest (Fx_of H.2.2.2.2.2) m a b) (by omega) (by omega)
theorem ok_enough {sh : Sh} {R : RR} {m : MI} (a : Int32) (b : Int32) (H : Rel sh R m) : OK2 YX6_enough YX7_enough [.int a, .int b] sh R m isI :=
  okI (op_enough a b H) (sC_enough (Fx_of H.2.2.2.2.2) m a b) (fun m => sM_enough (Fx_of H.2.2.2.2.2) m a b) (by omega) (by omega)
theorem ok_leans {sh : Sh} {R : RR} {m : MI}  (H : Rel sh R m) : OK2 YX6_leans YX7_leans [] sh R m isI :=
  okI (op_leans  H) (sC_leans (Fx_of H.2.2.2.2.2) m ) (fun m => sM_leans (Fx_of H.2.2.2.2.2) m ) (by omega) (by omega)
theorem ok_coin {sh : Sh} {R : RR} {m : MI} (a : Int32) (b : Int32) (c : Int32) (H : Rel sh R m) : OK2 YX6_coin YX7_coin [.int a, .int b, .int c] sh R m isL :=
  okL (op_coin a b c H) (sC_coin (Fx_of H.2.2.2.2.2) m a b c) (fun m => sM_coin (Fx_of H.2.2.2.2.2) m a b c) (by omega) (by omega)
theorem ok_dice {sh : Sh} {R : RR} {m : MI} (a : Int32) (b : Int32) (c : Int32) (H : Rel sh R m) : OK2 YX6_dice YX7_dice [.int a, .int b, .int c] sh R m isL :=
  okL (op_dice a b c H) (sC_dice (Fx_of H.2.2.2.2.2) m a b c) (fun m => sM_dice (Fx_of H.2.2.2.2.2) m a b c) (by omega) (by omega)
theorem ok_turn {sh : Sh} {R : RR} {m : MI}  (H : Rel sh R m) : OK2 YX6_turn YX7_turn [] sh R m isI :=
  okI (op_turn  H) (sC_turn (Fx_of H.2.2.2.2.2) m ) (fun m => sM_turn (Fx_of H.2.2.2.2.2) m ) (by omega) (by omega)
theorem ok_uneven {sh : Sh} {R : RR} {m : MI}  (H : Rel sh R m) : OK2 YX6_uneven YX7_uneven [] sh R m isI :=
  okI (op_uneven  H) (sC_uneven (Fx_of H.2.2.2.2.2) m ) (fun m => sM_uneven (Fx_of H.2.2.2.2.2) m ) (by omega) (by omega)
theorem ok_most {sh : Sh} {R : RR} {m : MI} (a : Int32) (H : Rel sh R m) : OK2 YX6_most YX7_most [.int a] sh R m isI :=
  okI (op_most a H) (sC_most (Fx_of H.2.2.2.2.2) m a) (fun m => sM_most (Fx_of H.2.2.2.2.2) m a) (by omega) (by omega)
theorem ok_see {sh : Sh} {R : RR} {m : MI} (a : Int32) (b : Int32) (hb01 : b = 0 ∨ b = 1) (H : Rel sh R m) : OK2 YX6_see YX7_see [.int a, .int b] sh R m isI :=
  okI (op_see a b hb01 H) (sC_see (Fx_of H.2.2.2.2.2) m a b) (fun m => sM_see (Fx_of H.2.2.2.2.2) m a b) (by omega) (by omega)
theorem ok_fits {sh : Sh} {R : RR} {m : MI}  (H : Rel sh R m) : OK2 YX6_fits YX7_fits [] sh R m isI :=
  okI (op_fits  H) (sC_fits (Fx_of H.2.2.2.2.2) m ) (fun m => sM_fits (Fx_of H.2.2.2.2.2) m ) (by omega) (by omega)
theorem ok_odds {sh : Sh} {R : RR} {m : MI} (a : Int32) (b : Int32) (H : Rel sh R m) : OK2 YX6_odds YX7_odds [.int a, .int b] sh R m isL :=
  okL (op_odds a b H) (sC_odds (Fx_of H.2.2.2.2.2) m a b) (fun m => sM_odds (Fx_of H.2.2.2.2.2) m a b) (by omega) (by omega)
theorem ok_mean {sh : Sh} {R : RR} {m : MI} (a : Int32) (H : Rel sh R m) : OK2 YX6_mean YX7_mean [.int a] sh R m isL :=
  okL (op_mean a H) (sC_mean (Fx_of H.2.2.2.2.2) m a) (fun m => sM_mean (Fx_of H.2.2.2.2.2) m a) (by omega) (by omega)
theorem ok_book {sh : Sh} {R : RR} {m : MI} (a : Int32) (H : Rel sh R m) : OK2 YX6_book YX7_book [.int a] sh R m isI :=
  okI (op_book a H) (sC_book (Fx_of H.2.2.2.2.2) m a) (fun m => sM_book (Fx_of H.2.2.2.2.2) m a) (by omega) (by omega)
theorem ok_looked {sh : Sh} {R : RR} {m : MI}  (H : Rel sh R m) : OK2 YX6_looked YX7_looked [] sh R m isI :=
  okI (op_looked  H) (sC_looked (Fx_of H.2.2.2.2.2) m ) (fun m => sM_looked (Fx_of H.2.2.2.2.2) m ) (by omega) (by omega)
theorem ok_judge {sh : Sh} {R : RR} {m : MI} (a : Int32) (b : Int32) (H : Rel sh R m) : OK2 YX6_judge YX7_judge [.int a, .int b] sh R m isI :=
  okI (op_judge a b H) (sC_judge (Fx_of H.2.2.2.2.2) m a b) (fun m => sM_judge (Fx_of H.2.2.2.2.2) m a b) (by omega) (by omega)
theorem ok_act {sh : Sh} {R : RR} {m : MI} (a : Int32) (b : Int32) (c : Int32) (H : Rel sh R m) : OK2 YX6_act YX7_act [.int a, .int b, .int c] sh R m isI :=
  okI (op_act a b c H) (sC_act (Fx_of H.2.2.2.2.2) m a b c) (fun m => sM_act (Fx_of H.2.2.2.2.2) m a b c) (by omega) (by omega)
theorem ok_trace {sh : Sh} {R : RR} {m : MI} (a : Int32) (H : Rel sh R m) : OK2 YX6_trace YX7_trace [.int a] sh R m isI :=
  okI (op_trace a H) (sC_trace (Fx_of H.2.2.2.2.2) m a) (fun m => sM_trace (Fx_of H.2.2.2.2.2) m a) (by omega) (by omega)
theorem ok_taken {sh : Sh} {R : RR} {m : MI} (a : Int32) (b : Int32) (H : Rel sh R m) : OK2 YX6_taken YX7_taken [.int a, .int b] sh R m isI :=
  okI (op_taken a b H) (sC_taken (Fx_of H.2.2.2.2.2) m a b) (fun m => sM_taken (Fx_of H.2.2.2.2.2) m a b) (by omega) (by omega)
theorem ok_count {sh : Sh} {R : RR} {m : MI} (a : Int32) (H : Rel sh R m) : OK2 YX6_count YX7_count [.int a] sh R m isI :=
  okI (op_count a H) (sC_count (Fx_of H.2.2.2.2.2) m a) (fun m => sM_count (Fx_of H.2.2.2.2.2) m a) (by omega) (by omega)
theorem ok_tape {sh : Sh} {R : RR} {m : MI} (a : Int32) (b : Int32) (c : Int32) (H : Rel sh R m) : OK2 YX6_tape YX7_tape [.int a, .int b, .int c] sh R m isI :=
  okI (op_tape a b c H) (sC_tape (Fx_of H.2.2.2.2.2) m a b c) (fun m => sM_tape (Fx_of H.2.2.2.2.2) m a b c) (by omega) (by omega)
theorem ok_item {sh : Sh} {R : RR} {m : MI} (a : Int32) (b : Int32) (c : Int64) (H : Rel sh R m) : OK2 YX6_item YX7_item [.int a, .int b, .long c] sh R m isI :=
  okI (op_item a b c H) (sC_item (Fx_of H.2.2.2.2.2) m a b c) (fun m => sM_item (Fx_of H.2.2.2.2.2) m a b c) (by omega) (by omega)
theorem ok_read {sh : Sh} {R : RR} {m : MI} (a : Int32) (b : Int32) (H : Rel sh R m) : OK2 YX6_read YX7_read [.int a, .int b] sh R m isL :=
  okL (op_read a b H) (sC_read (Fx_of H.2.2.2.2.2) m a b) (fun m => sM_read (Fx_of H.2.2.2.2.2) m a b) (by omega) (by omega)
theorem ok_shift {sh : Sh} {R : RR} {m : MI} (a : Int32) (b : Int32) (c : Int32) (d : Int32) (e : Int32) (H : Rel sh R m) : OK2 YX6_shift YX7_shift [.int a, .int b, .int c, .int d, .int e] sh R m isI :=
  okI (op_shift a b c d e H) (sC_shift (Fx_of H.2.2.2.2.2) m a b c d e) (fun m => sM_shift (Fx_of H.2.2.2.2.2) m a b c d e) (by omega) (by omega)
