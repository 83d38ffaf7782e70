/-! the tape, the deeds, the hall -/
/-- no more than some regions is changed -/
def qfx (rs : List Nat) (h h' : QM) : Prop := ∀ r, rs.contains r = false → ∀ i j, h' r i j = h r i j
theorem qfx_refl (rs : List Nat) (h : QM) : qfx rs h h := fun _ _ _ _ => rfl
theorem qfx_trans {rs : List Nat} {h1 h2 h3 : QM} (a : qfx rs h1 h2) (b : qfx rs h2 h3) : qfx rs h1 h3 := fun r e i j => by rw [b r e, a r e]
theorem qfx_qu {rs : List Nat} {h : QM} {r : Nat} {i j v : Int} (e : rs.contains r = true) : qfx rs h (qu h r i j v) := fun r' q i' j' => qu_ne (fun z => by rw [z.1, e] at q; cases q)
theorem qfx_mono {rs rs' : List Nat} {h h' : QM} (a : qfx rs h h') (e : ∀ r, rs.contains r = true → rs'.contains r = true) : qfx rs' h h' := fun r q => a r (by
  cases z : rs.contains r with
  | false => rfl
  | true => rw [e r z] at q; cases q)
theorem qfx_sub {rs rs' : List Nat} (e : rs.all (fun r => rs'.contains r) = true) : ∀ r, rs.contains r = true → rs'.contains r = true := fun r h => by
  rw [List.all_eq_true] at e
  exact e r (by simpa using h)
def qtape (h : QM) (n : Nat) (b : Nat → Int) : Prop := h 9 0 1 = n ∧ n ≤ 2000 ∧ ∀ i : Nat, i < n → h 33 0 i = b i ∧ -128 ≤ b i ∧ b i ≤ 127
/-- four more -/
def qfour (n : Nat) (b : Nat → Int) (w : Int) : Nat → Int := fun i => if i < n then b i else q_w8 (q_shr w ((24 - 8 * (i - n) : Nat) : Int))
def qsum (f : Nat → Int) : Nat → Int
  | 0 => 0
  | n + 1 => qsum f n + f n
theorem qsum_bd {f : Nat → Int} {a b : Int} : ∀ {n : Nat}, (∀ i, i < n → a ≤ f i ∧ f i ≤ b) → a * n ≤ qsum f n ∧ qsum f n ≤ b * n
  | 0, _ => by unfold qsum; simp
  | n + 1, h => by
    have ih := qsum_bd (n := n) (fun i hi => h i (by omega))
    have h1 := h n (by omega)
    show a * ((n : Int) + 1) ≤ qsum f n + f n ∧ qsum f n + f n ≤ b * ((n : Int) + 1)
    rw [Int.mul_add, Int.mul_add, Int.mul_one, Int.mul_one]
    omega
/-- bits of those that are so -/
def qbits (p : Nat → Bool) : Nat → Int
  | 0 => 0
  | n + 1 => if p n then q_or (qbits p n) (q_shl 1 n) else qbits p n
def qmax (f : Nat → Int) : Nat → Int
  | 0 => -2
  | n + 1 => max (qmax f n) (f n)
/-- how many lack in all -/
def qlack (S : Nat → QZ) (n : Nat) : Nat := qc (fun x => decide (0 < n) && !(qex (fun j => S j x) n)) 400
/-- a hall with its sets -/
def qhall (h : QM) (x : Int) (n : Nat) (S : Nat → QZ) : Prop := h 2 x 1 = n ∧ n ≤ 6 ∧ ∀ j : Nat, j < n → QV2 (S j) ∧ qat h (6 * x + j) (S j)
def qfh (x : Int) (h h' : QM) : Prop := ∀ r i j, ¬ ((r = 2 ∧ i = x) ∨ ((r = 8 ∨ r = 30 ∨ r = 31 ∨ r = 32) ∧ 6 * x ≤ i ∧ i < 6 * x + 6)) → h' r i j = h r i j
theorem qfh_fx {x : Int} {h h' : QM} (f : qfh x h h') : qfx [2, 8, 30, 31, 32] h h' := fun r e i j => f r i j (by simp at e; omega)
theorem qfh_trans {x : Int} {h1 h2 h3 : QM} (a : qfh x h1 h2) (b : qfh x h2 h3) : qfh x h1 h3 := fun r i j e => by rw [b r i j e, a r i j e]
theorem qfh_8 {x : Int} {j : Nat} (hj : j < 6) {h h' : QM} (f : qf8 (6 * x + j) h h') : qfh x h h' := fun r i k e => f r i k (by omega)
theorem qhall_fr {h h' : QM} {x : Int} {n : Nat} {S : Nat → QZ} (a : qhall h x n S) (e2 : h' 2 x 1 = h 2 x 1) (e : ∀ r i j, (r = 8 ∨ r = 30 ∨ r = 31 ∨ r = 32) → 6 * x ≤ i → i < 6 * x + 6 → h' r i j = h r i j) : qhall h' x n S :=
  ⟨by rw [e2]; exact a.1, a.2.1, fun j hj => ⟨(a.2.2 j hj).1, qat_fr (a.2.2 j hj).2 (fun r k q => e r _ k q (by omega) (by have := a.2.1; omega))⟩⟩
theorem qhall_other {h h' : QM} {x y : Int} {n : Nat} {S : Nat → QZ} (f : qfh y h h') (hxy : x ≠ y) (a : qhall h x n S) : qhall h' x n S :=
  qhall_fr a (f _ _ _ (by omega)) (fun r i j q h1 h2 => f r i j (by omega))
def qdeeds (h : QM) (n : Nat) (dl : Nat → Nat × Nat) : Prop := h 1 0 3 = n ∧ n ≤ 40 ∧ 0 ≤ h 1 0 2 ∧ h 1 0 2 < 40 ∧ ∀ i : Nat, i < n → h 18 0 ((h 1 0 2 + 39 - i) % 40) = (dl i).1 ∧ h 19 0 ((h 1 0 2 + 39 - i) % 40) = (dl i).2
section QSmall
variable {l : Launch} {g : QG} {d : Nat} {h : QM} {Q : Int → QM → Prop} {n : Nat} {b : Nat → Int} {S : Nat → QZ} {dl : Nat → Nat × Nat}
theorem s_tsize (hL : qhL g) (A : qtape h n b) (k : Q n h) : q_tr l g (d + 1) n_X9_size [qr 9 0] h Q := by
  refine i_X9_size hL (fun G hG _ _ => b_X9_size_0 hG ?_)
  rw [A.1]; exact k
theorem s_room (hL : qhL g) (A : qtape h n b) (k : Q (2000 - n) h) : q_tr l g (d + 1) n_X9_room [qr 9 0] h Q := by
  refine i_X9_room hL (fun G hG _ _ => b_X9_room_0 hG ?_)
  have := A.2.1
  rw [A.1]; exact ⟨by omega, k⟩
theorem s_shorten {m : Nat} (hL : qhL g) (A : qtape h n b) (hm : m ≤ n) (k : ∀ h', qfx [9] h h' → qtape h' m b → Q 0 h') : q_tr l g (d + 1) n_X9_shorten [qr 9 0, qi m] h Q := by
  refine i_X9_shorten hL (fun G hG _ _ => b_X9_shorten_0 hG ?_)
  rw [A.1]
  refine ⟨fun q => by omega, fun _ => ⟨fun q => by omega, fun _ => k _ (qfx_qu rfl) ⟨qu_at, by have := A.2.1; omega, fun i hi => ?_⟩⟩⟩
  rw [qu_ne (by omega)]; exact A.2.2 i (by omega)
theorem s_byte {i : Nat} (hL : qhL g) (A : qtape h n b) (k : Q (if i < n then b i % 256 else -1) h) : q_tr l g (d + 1) n_X9_byteAt [qr 9 0, qi i] h Q := by
  refine i_X9_byteAt hL (fun G hG _ _ => b_X9_byteAt_0 hG ?_)
  have := A.2.1
  rw [A.1]
  refine ⟨fun q => by omega, fun _ => ⟨fun q => q_qe k (by rw [if_neg (by omega)]), fun q => ⟨by omega, q_qe k ?_⟩⟩⟩
  rw [if_pos (by omega), q_and255, (A.2.2 i (by omega)).1]
theorem s_four {w : Int} (hL : qhL g) (A : qtape h n b) (hn : n + 4 ≤ 2000) (k : ∀ h', qfx [9, 33] h h' → qtape h' (n + 4) (qfour n b w) → Q 0 h') : q_tr l g (d + 1) n_X9_putFour [qr 9 0, qi w] h Q := by
  refine i_X9_putFour hL (fun G hG _ _ => b_X9_putFour_0 hG ?_)
  have key : ∀ m, m ≤ 4 → ∀ h1, (qfx [9, 33] h h1 ∧ qtape h1 (n + m) (qfour n b w)) → G 3 [some (qr 9 0), some (qi w), some (qi (24 - 8 * (m : Int)))] [] h1 := by
    refine q_up (fun m hm ih h1 hI => b_X9_putFour_3 hG ?_)
    obtain ⟨f, a1, a2, a3⟩ := hI
    refine ⟨fun q => k h1 f (by rw [show 4 = m by omega]; exact ⟨a1, a2, a3⟩), fun q => ⟨fun q2 => by omega, fun _ => ?_⟩⟩
    rw [a1]
    have hw : -128 ≤ q_w8 (q_shr w (24 - 8 * (m : Int))) ∧ q_w8 (q_shr w (24 - 8 * (m : Int))) ≤ 127 := by unfold q_w8; omega
    refine ⟨⟨by omega, hw⟩, ?_⟩
    rw [qu_ne (by omega), a1]
    refine ⟨by omega, by omega, ?_⟩
    rw [show 24 - 8 * (m : Int) + -8 = 24 - 8 * ((m + 1 : Nat) : Int) by omega]
    refine ih (by omega) _ ⟨qfx_trans f (qfx_trans (qfx_qu rfl) (qfx_qu rfl)), by rw [qu_at]; omega, by omega, fun i hi => ?_⟩
    rw [qu_ne (by omega)]
    by_cases e : i = n + m
    · have e2 : qfour n b w i = q_w8 (q_shr w (24 - 8 * (m : Int))) := by
        unfold qfour
        rw [if_neg (by omega), show ((24 - 8 * (i - n) : Nat) : Int) = 24 - 8 * (m : Int) by omega]
      rw [e2, show (i : Int) = ((n + m : Nat) : Int) by omega, qu_at]
      exact ⟨rfl, hw⟩
    · rw [qu_ne (by omega)]; exact a3 i (by omega)
  have := key 0 (by omega) h ⟨qfx_refl _ _, A.1, A.2.1, fun i hi => ?_⟩
  · exact this
  · unfold qfour; rw [if_pos (by omega)]; exact A.2.2 i (by omega)
theorem s_dsize (hL : qhL g) (A : qdeeds h n dl) (k : Q n h) : q_tr l g (d + 1) n_X1_size [qr 1 0] h Q := by
  refine i_X1_size hL (fun G hG _ _ => b_X1_size_0 hG ?_)
  rw [A.1]; exact k
theorem s_last (hL : qhL g) (A : qdeeds h n dl) (k : Q ((h 1 0 2 + 39) % 40) h) : q_tr l g (d + 1) n_X1_last [qr 1 0] h Q := by
  refine i_X1_last hL (fun G hG _ _ => b_X1_last_0 hG ?_)
  obtain ⟨a1, a2, a3, a4, a5⟩ := A
  exact ⟨by omega, by omega, by omega, q_qe k (by congr 1; omega)⟩
theorem s_lset (hL : qhL g) (A : qdeeds h n dl) (hn : 0 < n) (k : Q (dl 0).1 h) : q_tr l g (d + 2) n_X1_lastSet [qr 1 0] h Q := by
  refine i_X1_lastSet hL (fun G hG _ _ => b_X1_lastSet_0 hG ?_)
  refine s_last hL A ⟨by omega, q_qe k ?_⟩
  have := (A.2.2.2.2 0 hn).1
  rwa [show h 1 0 2 + 39 - ((0 : Nat) : Int) = h 1 0 2 + 39 by omega] at this
theorem s_lnum (hL : qhL g) (A : qdeeds h n dl) (hn : 0 < n) (k : Q (dl 0).2 h) : q_tr l g (d + 2) n_X1_lastNumber [qr 1 0] h Q := by
  refine i_X1_lastNumber hL (fun G hG _ _ => b_X1_lastNumber_0 hG ?_)
  refine s_last hL A ⟨by omega, q_qe k ?_⟩
  have := (A.2.2.2.2 0 hn).2
  rwa [show h 1 0 2 + 39 - ((0 : Nat) : Int) = h 1 0 2 + 39 by omega] at this
theorem s_note {s x : Nat} (hL : qhL g) (A : qdeeds h n dl) (k : ∀ h', qfx [1, 18, 19] h h' → qdeeds h' (min (n + 1) 40) (fun i => if i = 0 then (s, x) else dl (i - 1)) → Q 0 h') : q_tr l g (d + 1) n_X1_note [qr 1 0, qi s, qi x] h Q := by
  refine i_X1_note hL (fun G hG _ _ => b_X1_note_0 hG ?_)
  obtain ⟨a1, a2, a3, a4, a5⟩ := A
  generalize hp : h 1 0 2 = p at *
  have e1 : (qu h 18 0 p s) 1 0 2 = p := by rw [qu_ne (by omega), hp]
  have e2 : (qu (qu h 18 0 p s) 19 0 p x) 1 0 2 = p := by rw [qu_ne (by omega), e1]
  rw [e1, e2]
  have e3 : (qu (qu (qu h 18 0 p s) 19 0 p x) 1 0 2 ((p + 1) % 40)) 1 0 3 = n := by rw [qu_ne (by omega), qu_ne (by omega), qu_ne (by omega), a1]
  rw [e3]
  refine ⟨by omega, by omega, by omega, by omega, by omega, k _ (qfx_trans (qfx_trans (qfx_qu rfl) (qfx_qu rfl)) (qfx_trans (qfx_qu rfl) (qfx_qu rfl))) ⟨by rw [qu_at]; omega, by omega, ?_, ?_, ?_⟩⟩
  · rw [qu_ne (by omega), qu_at]; omega
  · rw [qu_ne (by omega), qu_at]; omega
  · intro i hi
    dsimp only
    rw [qu_ne (by omega) (r' := 1), qu_at]
    by_cases e : i = 0
    · subst e
      rw [show ((p + 1) % 40 + 39 - ((0 : Nat) : Int)) % 40 = p by omega, if_pos rfl]
      constructor
      · rw [qu_ne (by omega), qu_ne (by omega), qu_ne (by omega), qu_at]
      · rw [qu_ne (by omega), qu_ne (by omega), qu_at]
    · rw [if_neg e]
      have := a5 (i - 1) (by omega)
      rw [show ((p + 1) % 40 + 39 - (i : Int)) % 40 = (p + 39 - ((i - 1 : Nat) : Int)) % 40 by omega]
      constructor
      · rw [qu_ne (by omega), qu_ne (by omega), qu_ne (by omega), qu_ne (by omega)]; exact this.1
      · rw [qu_ne (by omega), qu_ne (by omega), qu_ne (by omega), qu_ne (by omega)]; exact this.2
theorem s_flast (hL : qhL g) (A : qdeeds h n dl) (hn : 0 < n) (k : ∀ h', qfx [1] h h' → qdeeds h' (n - 1) (fun i => dl (i + 1)) → Q 0 h') : q_tr l g (d + 2) n_X1_forgetLast [qr 1 0] h Q := by
  refine i_X1_forgetLast hL (fun G hG _ _ => b_X1_forgetLast_0 hG ?_)
  have A' := A
  obtain ⟨a1, a2, a3, a4, a5⟩ := A'
  rw [a1]
  refine ⟨fun q => by omega, fun _ => s_last hL A ?_⟩
  rw [qu_ne (by omega), a1]
  refine ⟨by omega, k _ (qfx_trans (qfx_qu rfl) (qfx_qu rfl)) ⟨by rw [qu_at]; omega, by omega, ?_, ?_, fun i hi => ?_⟩⟩
  · rw [qu_ne (by omega), qu_at]; omega
  · rw [qu_ne (by omega), qu_at]; omega
  · have := a5 (i + 1) (by omega)
    rw [qu_ne (by omega) (r' := 1), qu_at]
    rw [show ((h 1 0 2 + 39) % 40 + 39 - (i : Int)) % 40 = (h 1 0 2 + 39 - ((i + 1 : Nat) : Int)) % 40 by omega]
    constructor
    · rw [qu_ne (by omega), qu_ne (by omega)]; exact this.1
    · rw [qu_ne (by omega), qu_ne (by omega)]; exact this.2
theorem s_fall (hL : qhL g) (k : ∀ h', qfx [1] h h' → qdeeds h' 0 dl → Q 0 h') : q_tr l g (d + 1) n_X1_forgetAll [qr 1 0] h Q := by
  refine i_X1_forgetAll hL (fun G hG _ _ => b_X1_forgetAll_0 hG ?_)
  refine k _ (qfx_trans (qfx_qu rfl) (qfx_qu rfl)) ⟨by rw [qu_at]; rfl, by omega, ?_, ?_, fun i hi => absurd hi (Nat.not_lt_zero _)⟩
  · rw [qu_ne (by omega), qu_at]; omega
  · rw [qu_ne (by omega), qu_at]; omega
theorem s_at {x s : Int} (hL : qhL g) (A : qhall h x n S) (k1 : ∀ j : Nat, s = j → j < n → Q (6 * x + j) h) (k2 : (s < 0 ∨ (n : Int) ≤ s) → Q (-1) h) : q_tr l g (d + 1) n_X2_at [qr 2 x, qi s] h Q := by
  refine i_X2_at hL (fun G hG _ _ => b_X2_at_0 hG ?_)
  have := A.2.1
  rw [A.1]
  refine ⟨fun q => k2 (Or.inl q), fun q => ⟨fun q2 => k2 (Or.inr q2), fun q2 => ⟨fun q3 => by omega, fun _ => ⟨by omega, ?_⟩⟩⟩⟩
  obtain ⟨j, rfl⟩ := Int.eq_ofNat_of_zero_le (show 0 ≤ s by omega)
  exact k1 j rfl (by omega)
theorem s_each {x : Int} (hL : qhL g) (A : qhall h x n S) (k : Q (qsum (fun j => (qgn (S j) : Nat)) n) h) : q_tr l g (d + 1) n_X2_gapsOfEach [qr 2 x] h Q := by
  refine i_X2_gapsOfEach hL (fun G hG _ _ => b_X2_gapsOfEach_0 hG ?_)
  have h6 := A.2.1
  have key : ∀ m, m ≤ n → G 4 [some (qr 2 x), some (qi (qsum (fun j => (qgn (S j) : Nat)) m)), some (qi (m : Int))] [] h := by
    refine q_up (fun m hm ih => b_X2_gapsOfEach_4 hG ?_)
    rw [A.1]
    refine ⟨fun q => q_qe k (by rw [show n = m by omega]), fun q => ?_⟩
    obtain ⟨a1, a2⟩ := A.2.2 m (by omega)
    have h1 := qgn_le a1.1
    have h2 := qsum_bd (f := fun j => (qgn (S j) : Int)) (a := 0) (b := 200) (n := m) (fun j hj => by have := qgn_le (A.2.2 j (by omega)).1.1; omega)
    rw [a2.2.2.1]
    exact ⟨by omega, by omega, by omega, ih (by omega)⟩
  exact key 0 (Nat.zero_le _)
theorem s_lbits {x : Int} (hL : qhL g) (A : qhall h x n S) (k : Q (qbits (fun j => qlone (qtop (S j)) (qgn (S j))) n) h) : q_tr l g (d + 3) n_X2_loneBits [qr 2 x] h Q := by
  refine i_X2_loneBits hL (fun G hG _ _ => b_X2_loneBits_0 hG ?_)
  have h6 := A.2.1
  have key : ∀ m, m ≤ n → G 4 [some (qr 2 x), some (qi (qbits (fun j => qlone (qtop (S j)) (qgn (S j))) m)), some (qi (m : Int))] [] h := by
    refine q_up (fun m hm ih => b_X2_loneBits_4 hG ?_)
    rw [A.1]
    refine ⟨fun q => q_qe k (by rw [show n = m by omega]), fun q => ?_⟩
    obtain ⟨a1, a2⟩ := A.2.2 m (by omega)
    have h1 := qgn_le a1.1
    have h2 := qtop_bd a1.1
    rw [a2.2.2.1, a2.2.1]
    refine ⟨by omega, by omega, s_isLone hL (by omega) (by omega) ⟨fun q2 => ⟨by omega, ?_⟩, fun q2 => ⟨by omega, ?_⟩⟩⟩
    · have := ih (by omega)
      unfold qbits at this
      rw [qb_0.mp q2] at this
      exact this
    · have := ih (by omega)
      unfold qbits at this
      rw [qb_n0.mp q2] at this
      exact this
  exact key 0 (Nat.zero_le _)
theorem s_gtop {x : Int} (hL : qhL g) (A : qhall h x n S) (k : Q (qmax (fun j => qtop (S j)) n) h) : q_tr l g (d + 1) n_X2_greatestTop [qr 2 x] h Q := by
  refine i_X2_greatestTop hL (fun G hG _ _ => b_X2_greatestTop_0 hG ?_)
  have h6 := A.2.1
  have key : ∀ m, m ≤ n → G 5 [some (qr 2 x), some (qi (qmax (fun j => qtop (S j)) m)), some (qi (m : Int))] [] h := by
    refine q_up (fun m hm ih => b_X2_greatestTop_5 hG ?_)
    rw [A.1]
    refine ⟨fun q => q_qe k (by rw [show n = m by omega]), fun q => ?_⟩
    rw [(A.2.2 m (by omega)).2.2.1]
    exact ⟨by omega, by omega, ih (by omega)⟩
  exact key 0 (Nat.zero_le _)
theorem s_lack {x : Int} (hL : qhL g) (A : qhall h x n S) (k : Q (qlack S n : Nat) h) : q_tr l g (d + 2) n_X2_gapsOfAll [qr 2 x] h Q := by
  refine i_X2_gapsOfAll hL (fun G hG _ _ => b_X2_gapsOfAll_0 hG ?_)
  have h6 := A.2.1
  unfold qlack at k
  generalize hp : (fun y => decide (0 < n) && !(qex (fun j => S j y) n)) = p at k
  have hpe : ∀ y, p y = (decide (0 < n) && !(qex (fun j => S j y) n)) := fun y => by rw [← hp]
  have p0 : ∀ y, (n = 0 ∨ ∃ j, j < n ∧ S j y = true) → p y = false := fun y q => by
    rw [hpe]
    rcases q with q | q
    · rw [q]; rfl
    · rw [qex_iff.mpr q, Bool.not_true, Bool.and_false]
  have key : ∀ m, m ≤ 399 → G 4 [some (qr 2 x), some (qi (qc p (m + 1) : Nat)), some (qi ((m + 1 : Nat) : Int)), none, none] [] h := by
    refine q_up (fun m hm ih => b_X2_gapsOfAll_4 hG ?_)
    rw [A.1]
    refine ⟨fun q => q_qe k ?_, fun q => ⟨by omega, ?_⟩⟩
    · rw [qc_none (m := m + 1) (n := 400) (by omega) (fun y _ _ => p0 y (Or.inl (by omega)))]
    · obtain ⟨a1, a2⟩ := A.2.2 0 (by omega)
      have ht := qtop_bd a1.1
      have e := a2.2.1
      rw [show (6 * x + ((0 : Nat) : Int)) = 6 * x + 0 by omega] at e
      rw [e]
      have hcl := qc_le p (m + 1)
      refine ⟨fun q2 => q_qe k ?_, fun q2 => ?_⟩
      · rw [qc_none (m := m + 1) (n := 400) (by omega) (fun y y1 _ => p0 y (Or.inr ⟨0, by omega, qtop_in a1.1 (by omega)⟩))]
      · have inner : ∀ w, w ≤ n → ∀ c : Nat, c ≤ w → (c = w ↔ ∀ j, j < w → S j (m + 1) = false) → G 29 [some (qr 2 x), some (qi (qc p (m + 1) : Nat)), some (qi ((m + 1 : Nat) : Int)), some (qi (c : Nat)), some (qi (w : Int))] [] h := by
          refine q_up (fun w hw ihw c hc hcw => b_X2_gapsOfAll_29 hG ?_)
          rw [A.1]
          refine ⟨fun q3 => ?_, fun q3 => ⟨by omega, ?_⟩⟩
          · have hwn : w = n := by omega
            subst hwn
            refine ⟨fun q4 => ⟨by omega, by omega, ?_⟩, fun q4 => ⟨by omega, by omega, ?_⟩⟩
            · have := ih (by omega)
              rw [qc_f (p0 (m + 1) (Or.inr ?_))] at this
              · rw [Int.add_zero]; exact this
              · apply Classical.byContradiction
                intro z
                have hall : ∀ j, j < w → S j (m + 1) = false := fun j hj => by
                  cases hs : S j (m + 1) with
                  | false => rfl
                  | true => exact absurd ⟨j, hj, hs⟩ z
                exact q4 (by rw [hcw.mpr hall])
            · have := ih (by omega)
              have hall := hcw.mp (by omega)
              rw [qc_t] at this
              · exact this
              · rw [hpe, decide_eq_true (by omega), Bool.true_and, qex_f.mpr hall]; rfl
          · obtain ⟨b1, b2⟩ := A.2.2 w (by omega)
            refine s_holds hL b1.1 b2 ?_
            rw [qin_nat]
            refine ⟨fun q4 => ⟨by omega, by omega, ihw (by omega) (c + 1) (by omega) ⟨fun z j hj => ?_, fun z => ?_⟩⟩, fun q4 => ⟨by omega, by omega, ?_⟩⟩
            · by_cases e : j = w
              · rw [e]; exact qb_0.mp q4
              · exact hcw.mp (by omega) j (by omega)
            · rw [hcw.mpr (fun j hj => z j (by omega))]
            · rw [Int.add_zero]
              refine ihw (by omega) c (by omega) ⟨fun z => by omega, fun z => ?_⟩
              have := z w (by omega)
              rw [qb_n0.mp q4] at this; cases this
        exact inner 0 (Nat.zero_le _) 0 (Nat.le_refl _) ⟨fun _ j hj => absurd hj (Nat.not_lt_zero _), fun _ => rfl⟩
  have h1 : qc p (0 + 1) = 0 := by
    rw [qc_f]
    · rfl
    · by_cases e : n = 0
      · exact p0 0 (Or.inl e)
      · exact p0 0 (Or.inr ⟨0, by omega, (A.2.2 0 (by omega)).1.1.1⟩)
  have := key 0 (by omega)
  rw [h1] at this
  exact this
theorem s_hcopy {x y : Int} (hL : qhL g) (A : qhall h y n S) (hxy : x ≠ y) (k : ∀ h', qfh x h h' → qhall h' x n S → Q 0 h') : q_tr l g (d + 4) n_X2_copyFrom [qr 2 x, qr 2 y] h Q := by
  refine i_X2_copyFrom hL (fun G hG _ _ => b_X2_copyFrom_0 hG ?_)
  have h6 := A.2.1
  have key : ∀ m, m ≤ n → ∀ h1, (qfh x h h1 ∧ h1 2 x 1 = n ∧ ∀ j : Nat, j < m → qat h1 (6 * x + j) (S j)) → G 10 [some (qr 2 x), some (qr 2 y), some (qi (m : Int))] [] h1 := by
    refine q_up (fun m hm ih h1 hI => b_X2_copyFrom_10 hG ?_)
    obtain ⟨f, a1, a2⟩ := hI
    rw [a1]
    refine ⟨fun q => k h1 f ⟨a1, h6, fun j hj => ⟨(A.2.2 j hj).1, a2 j (by omega)⟩⟩, fun q => ⟨fun q2 => by omega, fun _ => ⟨by omega, by omega, ?_⟩⟩⟩
    have B := (qhall_other f (fun e => hxy e.symm) A).2.2 m (by omega)
    refine s_copy hL B.1 B.2 (by omega) (fun h2 f2 b2 => ⟨by omega, ih (by omega) h2 ⟨qfh_trans f (qfh_8 (by omega) f2), ?_, fun j hj => ?_⟩⟩)
    · rw [f2 _ _ _ (by omega)]; exact a1
    · by_cases e : j = m
      · rw [e]; exact b2
      · exact qf8_at f2 (by omega) (a2 j (by omega))
  refine key 0 (Nat.zero_le _) _ ⟨fun r i j e => qu_ne (by omega), ?_, fun j hj => absurd hj (Nat.not_lt_zero _)⟩
  rw [qu_at]; exact A.1
end QSmall
