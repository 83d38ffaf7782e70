/-! StepSet: sets out of sets -/
section QSet5
variable {l : Launch} {g : QG} {d : Nat} {h : QM} {i : Int} {S : QZ} {Q : Int → QM → Prop}
def qmeet (S T : QZ) : QZ := fun x => S x && T x
theorem qmeet_v0 {S T : QZ} (V : QV1 S) (W : QV1 T) : QV0 (qmeet S T) := by
  refine ⟨by show (S 0 && T 0) = true; rw [V.1, W.1]; rfl, fun a b ha hb => ?_, fun x hx => by show (S x && T x) = true; rw [V.2.2 x (by omega), W.2.2 x (by omega)]; rfl⟩
  simp only [qmeet, Bool.and_eq_true] at ha hb ⊢
  exact ⟨V.2.1 _ _ ha.1 hb.1, W.2.1 _ _ ha.2 hb.2⟩
theorem s_meet {T : QZ} {a b : Int} (hL : qhL g) (V : QV1 S) (A : qat h a S) (W : QV1 T) (B : qat h b T) (hai : a ≠ i) (hbi : b ≠ i)
    (k : ∀ h', qf8 i h h' → (qacc (qmeet S T) = true → qat h' i (qmeet S T)) → Q (qb (qacc (qmeet S T))) h') : q_tr l g (d + 3) n_X8_becomeMeet [qr 8 i, qr 8 a, qr 8 b] h Q := by
  refine i_X8_becomeMeet hL (fun G hG _ _ => b_X8_becomeMeet_0 hG ?_)
  have up : ∀ h1, (qf8 i h h1 ∧ ∀ x : Nat, x < 0 → h1 30 i x = qb (qmeet S T x)) → G 2 [some (qr 8 i), some (qr 8 a), some (qr 8 b), some (qi ((0 : Nat) : Int))] [] h1 := by
    refine q_dn (P := fun n => ∀ h1, (qf8 i h h1 ∧ ∀ x : Nat, x < n → h1 30 i x = qb (qmeet S T x)) → G 2 [some (qr 8 i), some (qr 8 a), some (qr 8 b), some (qi (n : Int))] [] h1) (N := 400) (fun h1 hI => b_X8_becomeMeet_2 hG ?_) (fun n hn ih h1 hI => b_X8_becomeMeet_2 hG ?_)
    · exact ⟨fun _ => s_settle hL (qmeet_v0 V W) hI.2 (fun h2 f _ q => ⟨qb_01 _, k h2 (qf8_trans hI.1 f) q⟩), fun q => absurd (Int.le_refl _) q⟩
    · have nxt : ∀ v : Bool, v = qmeet S T n → G 2 [some (qr 8 i), some (qr 8 a), some (qr 8 b), some (qi ((n : Int) + 1))] [] (qu h1 30 i n (qb v)) := fun v e => by
        refine ih _ ⟨qf8_trans hI.1 (qf8_qu (by omega)), fun x hx => ?_⟩
        by_cases w : x = n
        · rw [w, qu_at, e]
        · rw [qu_ne (by omega)]; exact hI.2 x (by omega)
      refine ⟨fun q => by omega, fun _ => s_holds hL V (qf8_at hI.1 hai A) ?_⟩
      rw [qin_nat]
      refine ⟨fun q => ⟨⟨by omega, Or.inl rfl⟩, by omega, nxt false (by unfold qmeet; rw [qb_0.mp q]; rfl)⟩, fun q => s_holds hL W (qf8_at hI.1 hbi B) ?_⟩
      rw [qin_nat]
      exact ⟨fun q2 => ⟨⟨by omega, Or.inl rfl⟩, by omega, nxt false (by unfold qmeet; rw [qb_0.mp q2, Bool.and_false])⟩, fun q2 => ⟨⟨by omega, Or.inr rfl⟩, by omega, nxt true (by unfold qmeet; rw [qb_n0.mp q2, qb_n0.mp q]; rfl)⟩⟩
  exact up h ⟨qf8_refl _ _, fun x hx => absurd hx (Nat.not_lt_zero _)⟩
def qpart (S : QZ) (t : Nat) : QZ := fun x => S (x * t)
theorem qpart_v0 (V : QV1 S) {t : Nat} (ht : 1 ≤ t) : QV0 (qpart S t) := by
  refine ⟨by show S (0 * t) = true; rw [Nat.zero_mul]; exact V.1, fun a b ha hb => ?_, fun x hx => V.2.2 _ ?_⟩
  · show S ((a + b) * t) = true
    rw [Nat.add_mul]; exact V.2.1 _ _ ha hb
  · have := Nat.mul_le_mul_left x ht
    omega
theorem s_part {a : Int} {t : Nat} (hL : qhL g) (V : QV1 S) (A : qat h a S) (hai : a ≠ i) (ht : 1 ≤ t ∧ t ≤ 9)
    (k : ∀ h', qf8 i h h' → (qacc (qpart S t) = true → qat h' i (qpart S t)) → Q (qb (qacc (qpart S t))) h') : q_tr l g (d + 3) n_X8_becomePart [qr 8 i, qr 8 a, qi t] h Q := by
  refine i_X8_becomePart hL (fun G hG _ _ => b_X8_becomePart_0 hG ?_)
  have up : ∀ h1, (qf8 i h h1 ∧ ∀ x : Nat, x < 0 → h1 30 i x = qb (qpart S t x)) → G 2 [some (qr 8 i), some (qr 8 a), some (qi t), some (qi ((0 : Nat) : Int))] [] h1 := by
    refine q_dn (P := fun n => ∀ h1, (qf8 i h h1 ∧ ∀ x : Nat, x < n → h1 30 i x = qb (qpart S t x)) → G 2 [some (qr 8 i), some (qr 8 a), some (qi t), some (qi (n : Int))] [] h1) (N := 400) (fun h1 hI => b_X8_becomePart_2 hG ?_) (fun n hn ih h1 hI => b_X8_becomePart_2 hG ?_)
    · exact ⟨fun _ => s_settle hL (qpart_v0 V ht.1) hI.2 (fun h2 f _ q => ⟨qb_01 _, k h2 (qf8_trans hI.1 f) q⟩), fun q => absurd (Int.le_refl _) q⟩
    · have hm : n * t ≤ 400 * 9 := Nat.mul_le_mul (by omega) ht.2
      refine ⟨fun q => by omega, fun _ => ?_⟩
      rw [show (n : Int) * (t : Int) = ((n * t : Nat) : Int) by rw [Int.natCast_mul]]
      refine ⟨by omega, s_holds hL V (qf8_at hI.1 hai A) ?_⟩
      rw [qin_nat]
      refine ⟨⟨by omega, qb_01 _⟩, by omega, ih _ ⟨qf8_trans hI.1 (qf8_qu (by omega)), fun x hx => ?_⟩⟩
      by_cases w : x = n
      · rw [w, qu_at]; rfl
      · rw [qu_ne (by omega)]; exact hI.2 x (by omega)
  exact up h ⟨qf8_refl _ _, fun x hx => absurd hx (Nat.not_lt_zero _)⟩
theorem s_copy {a : Int} (hL : qhL g) (V : QV2 S) (A : qat h a S) (hai : a ≠ i)
    (k : ∀ h', qf8 i h h' → qat h' i S → Q 0 h') : q_tr l g (d + 3) n_X8_copyFrom [qr 8 i, qr 8 a] h Q := by
  refine i_X8_copyFrom hL (fun G hG _ _ => b_X8_copyFrom_0 hG ?_)
  have up : ∀ h1, (qf8 i h h1 ∧ ∀ x : Nat, x < 0 → h1 30 i x = qb (S x)) → G 2 [some (qr 8 i), some (qr 8 a), some (qi ((0 : Nat) : Int))] [] h1 := by
    refine q_dn (P := fun n => ∀ h1, (qf8 i h h1 ∧ ∀ x : Nat, x < n → h1 30 i x = qb (S x)) → G 2 [some (qr 8 i), some (qr 8 a), some (qi (n : Int))] [] h1) (N := 400) (fun h1 hI => b_X8_copyFrom_2 hG ?_) (fun n hn ih h1 hI => b_X8_copyFrom_2 hG ?_)
    · exact ⟨fun _ => s_settle hL (qv0_of V.1) hI.2 (fun h2 f _ q => k h2 (qf8_trans hI.1 f) (q ((qacc_iff (qv0_of V.1)).mpr V))), fun q => absurd (Int.le_refl _) q⟩
    · rw [(qf8_at hI.1 hai A).1 n hn]
      refine ⟨fun q => by omega, fun _ => ⟨by omega, ⟨by omega, qb_01 _⟩, by omega, ih _ ⟨qf8_trans hI.1 (qf8_qu (by omega)), fun x hx => ?_⟩⟩⟩
      by_cases w : x = n
      · rw [w, qu_at]
      · rw [qu_ne (by omega)]; exact hI.2 x (by omega)
  exact up h ⟨qf8_refl _ _, fun x hx => absurd hx (Nat.not_lt_zero _)⟩
def qflip (S : QZ) (x : Nat) : QZ := fun y => if y = x then !S x else S y
theorem s_flip {x : Nat} (hL : qhL g) (V : QV2 S) (A : qat h i S) (hx : 1 ≤ x ∧ x < 400) (Z : QV0 (qflip S x))
    (k : ∀ h', qf8 i h h' → qat h' i (if qacc (qflip S x) then qflip S x else S) → Q (qb (qacc (qflip S x))) h') : q_tr l g (d + 3) n_X8_flip [qr 8 i, qi x] h Q := by
  refine i_X8_flip hL (fun G hG _ _ => b_X8_flip_0 hG ?_)
  have mid : ∀ v : Bool, v = qflip S x x → G 34 [some (qr 8 i), some (qi x)] [] (qu h 30 i x (qb v)) := by
    intro v hv
    have hrow : ∀ y : Nat, y < 400 → (qu h 30 i x (qb v)) 30 i y = qb (qflip S x y) := fun y hy => by
      by_cases w : y = x
      · rw [w, qu_at, hv]
      · rw [qu_ne (by omega), A.1 y hy]; unfold qflip; rw [if_neg w]
    refine b_X8_flip_34 hG (s_settle hL Z hrow (fun h1 f e q => ?_))
    refine ⟨fun q2 => ⟨by omega, ?_⟩, fun q2 => ⟨Or.inr rfl, ?_⟩⟩
    · have q3 := qb_0.mp q2
      rw [e x, hrow x hx.2]
      have back : ∀ w : Bool, w = S x → G 63 [some (qr 8 i), none] [] (qu h1 30 i x (qb w)) := fun w hw => by
        have hrow2 : ∀ y : Nat, y < 400 → (qu h1 30 i x (qb w)) 30 i y = qb (S y) := fun y hy => by
          by_cases c : y = x
          · rw [c, qu_at, hw]
          · rw [qu_ne (by omega), e y, hrow y hy]; unfold qflip; rw [if_neg c]
        refine b_X8_flip_63 hG (s_settle hL (qv0_of V.1) hrow2 (fun h2 f2 _ q4 => ⟨Or.inl rfl, q_qe (k h2 (qf8_trans (qf8_qu (by omega)) (qf8_trans f (qf8_trans (qf8_qu (by omega)) f2))) ?_) ?_⟩))
        · rw [q3]; exact q4 ((qacc_iff (qv0_of V.1)).mpr V)
        · rw [q3]; rfl
      have hfx : qflip S x x = !S x := by unfold qflip; rw [if_pos rfl]
      rw [hfx]
      refine ⟨fun q4 => ⟨⟨by omega, Or.inl rfl⟩, back false ?_⟩, fun q4 => ⟨⟨by omega, Or.inr rfl⟩, back true ?_⟩⟩
      · have := qb_n0.mp q4; simpa using this.symm
      · have := qb_0.mp q4; simpa using this.symm
    · have q3 := qb_n0.mp q2
      refine q_qe (k h1 (qf8_trans (qf8_qu (by omega)) f) ?_) ?_
      · rw [q3]; exact q q3
      · rw [q3]; rfl
  have hfx : qflip S x x = !S x := by unfold qflip; rw [if_pos rfl]
  refine ⟨fun q => by omega, fun _ => ⟨fun _ => ⟨by omega, ?_⟩, fun q => by omega⟩⟩
  rw [A.1 x hx.2]
  refine ⟨fun q => ⟨⟨by omega, Or.inl rfl⟩, mid false (by rw [hfx, qb_n0.mp q]; rfl)⟩, fun q => ⟨⟨by omega, Or.inr rfl⟩, mid true (by rw [hfx, qb_0.mp q]; rfl)⟩⟩
/-- out of steps -/
def qspf (t : Nat → Bool) : Nat → Nat → Bool
  | 0, x => x == 0
  | f + 1, x => (x == 0) || qex (fun s => decide (0 < s) && t s && qspf t f (x - s)) (x + 1)
def qsp (t : Nat → Bool) (x : Nat) : Bool := qspf t x x
theorem qspf_s (t : Nat → Bool) (f x : Nat) : qspf t (f + 1) x = ((x == 0) || qex (fun s => decide (0 < s) && t s && qspf t f (x - s)) (x + 1)) := rfl
theorem qex_cong {p q : Nat → Bool} {n : Nat} (h : ∀ x, x < n → p x = q x) : qex p n = qex q n := by
  rw [Bool.eq_iff_iff, qex_iff, qex_iff]
  constructor
  · rintro ⟨x, h1, h2⟩; exact ⟨x, h1, by rw [← h x h1]; exact h2⟩
  · rintro ⟨x, h1, h2⟩; exact ⟨x, h1, by rw [h x h1]; exact h2⟩
theorem qspf_1 (t : Nat → Bool) : ∀ f x, x ≤ f → qspf t (f + 1) x = qspf t f x
  | 0, x, h => by
    have : x = 0 := by omega
    subst this
    rw [qspf_s]; rfl
  | f + 1, x, h => by
    rw [qspf_s, qspf_s]
    congr 1
    refine qex_cong (fun s hs => ?_)
    rcases Nat.eq_zero_or_pos s with c | c
    · rw [c]; rfl
    · rw [qspf_1 t f (x - s) (by omega)]
theorem qspf_eq {t : Nat → Bool} {f x : Nat} (h : x ≤ f) : qspf t f x = qsp t x := by
  obtain ⟨n, rfl⟩ : ∃ n, f = x + n := ⟨f - x, by omega⟩
  clear h
  induction n with
  | zero => rfl
  | succ n ih => rw [← Nat.add_assoc, qspf_1 t _ _ (by omega), ih]
theorem qsp_iff {t : Nat → Bool} {x : Nat} : qsp t x = true ↔ x = 0 ∨ ∃ s, 0 < s ∧ s ≤ x ∧ t s = true ∧ qsp t (x - s) = true := by
  rw [← qspf_eq (Nat.le_succ x), Nat.succ_eq_add_one, qspf_s, Bool.or_eq_true, qex_iff, beq_iff_eq]
  simp only [Bool.and_eq_true, decide_eq_true_eq]
  refine or_congr Iff.rfl ⟨?_, ?_⟩
  · rintro ⟨s, h1, ⟨h2, h3⟩, h4⟩
    exact ⟨s, h2, by omega, h3, by rw [qspf_eq (by omega)] at h4; exact h4⟩
  · rintro ⟨s, h1, h2, h3, h4⟩
    exact ⟨s, by omega, ⟨h1, h3⟩, by rw [qspf_eq (by omega)]; exact h4⟩
theorem qsp_0 (t : Nat → Bool) : qsp t 0 = true := qsp_iff.mpr (Or.inl rfl)
theorem qsp_add {t : Nat → Bool} : ∀ n a b, a < n → qsp t a = true → qsp t b = true → qsp t (a + b) = true
  | 0, a, b, h, _, _ => absurd h (Nat.not_lt_zero _)
  | n + 1, a, b, h, ha, hb => by
    rcases qsp_iff.mp ha with q | ⟨s, s1, s2, s3, s4⟩
    · rw [q, Nat.zero_add]; exact hb
    · refine qsp_iff.mpr (Or.inr ⟨s, s1, by omega, s3, ?_⟩)
      rw [show a + b - s = (a - s) + b by omega]
      exact qsp_add n (a - s) b (by omega) s4 hb
/-- the sums up to the row's end -/
def qspr (t : Nat → Bool) : QZ := fun x => decide (400 ≤ x) || qsp t x
theorem qspr_v0 (t : Nat → Bool) : QV0 (qspr t) := by
  refine ⟨by unfold qspr; rw [qsp_0]; rfl, fun a b ha hb => ?_, fun x hx => by unfold qspr; rw [decide_eq_true hx]; rfl⟩
  simp only [qspr, Bool.or_eq_true, decide_eq_true_eq] at ha hb ⊢
  rcases ha with ha | ha
  · left; omega
  · rcases hb with hb | hb
    · left; omega
    · right; exact qsp_add (a + 1) a b (by omega) ha hb
/-- a row of steps -/
def qrt (a : Nat → Int) (n : Nat) : Nat → Bool := fun s => qex (fun k => decide (a k = (s : Int))) n
theorem qrt_iff {a : Nat → Int} {n s : Nat} : qrt a n s = true ↔ ∃ k, k < n ∧ a k = s := by
  unfold qrt
  rw [qex_iff]
  simp only [decide_eq_true_eq]
theorem s_sums_25 {b : Int} {n : Nat} {a : Nat → Int} (hL : qhL g) (hn : n ≤ 10) (ha : ∀ k, k < n → h 25 b k = a k ∧ 1 ≤ a k ∧ a k < 100000)
    (k : ∀ h', qf8 i h h' → (qacc (qspr (qrt a n)) = true → qat h' i (qspr (qrt a n))) → Q (qb (qacc (qspr (qrt a n)))) h') : q_tr l g (d + 3) n_X8_becomeSums [qr 8 i, qr 25 b, qi n] h Q := by
  refine i_X8_becomeSums_25 hL (fun G hG _ _ => b_X8_becomeSums_25_0 hG ?_)
  generalize ht : qrt a n = t at k
  have hrow : ∀ x, x < 400 → qspr t x = qsp t x := fun x hx => by unfold qspr; rw [decide_eq_false (by omega)]; rfl
  let I : Nat → QM → Prop := fun x h1 => qf8 i h h1 ∧ ∀ y : Nat, y < x → h1 30 i y = qb (qsp t y)
  have key : ∀ h1, I (0 + 1) h1 → G 9 [some (qr 8 i), some (qr 25 b), some (qi n), some (qi ((0 + 1 : Nat) : Int)), none] [] h1 := by
    refine q_dn (P := fun x => ∀ h1, I (x + 1) h1 → G 9 [some (qr 8 i), some (qr 25 b), some (qi n), some (qi ((x + 1 : Nat) : Int)), none] [] h1) (N := 399) (fun h1 hI => b_X8_becomeSums_25_9 hG ?_) (fun x hx ih h1 hI => b_X8_becomeSums_25_9 hG ?_)
    · exact ⟨fun _ => s_settle hL (qspr_v0 t) (fun y hy => by rw [hI.2 y hy, hrow y hy]) (fun h2 f _ q => ⟨qb_01 _, k h2 (qf8_trans hI.1 f) q⟩), fun q => absurd (Int.le_refl _) q⟩
    · refine ⟨fun q => by omega, fun _ => ⟨⟨by omega, Or.inl rfl⟩, ?_⟩⟩
      -- the steps one after another
      have one : ∀ m, m ≤ n → ∀ h2 v, (I (x + 1) h2 ∧ h2 30 i ((x + 1 : Nat) : Int) = qb v ∧ (v = true ↔ ∃ kk, kk < m ∧ a kk ≤ ((x + 1 : Nat) : Int) ∧ qsp t (((x + 1 : Nat) : Int) - a kk).toNat = true)) → G 26 [some (qr 8 i), some (qr 25 b), some (qi n), some (qi ((x + 1 : Nat) : Int)), some (qi (m : Int))] [] h2 := by
        refine q_up (fun m hm ihm h2 v hI2 => b_X8_becomeSums_25_26 hG ?_)
        obtain ⟨⟨f, r⟩, e1, e2⟩ := hI2
        have done : (v = true ↔ ∃ kk, kk < n ∧ a kk ≤ ((x + 1 : Nat) : Int) ∧ qsp t (((x + 1 : Nat) : Int) - a kk).toNat = true) → (-2147483648 ≤ ((x + 1 : Nat) : Int) + 1 ∧ ((x + 1 : Nat) : Int) + 1 ≤ 2147483647) ∧ G 9 [some (qr 8 i), some (qr 25 b), some (qi n), some (qi (((x + 1 : Nat) : Int) + 1)), none] [] h2 := fun q => by
          refine ⟨by omega, ih h2 ⟨f, fun y hy => ?_⟩⟩
          by_cases w : y = x + 1
          · rw [w, e1]
            congr 1
            rw [Bool.eq_iff_iff, q, qsp_iff]
            constructor
            · rintro ⟨kk, k1, k2, k3⟩
              have h3 := ha kk k1
              right
              refine ⟨(a kk).toNat, by omega, by omega, ?_, ?_⟩
              · rw [← ht]; exact qrt_iff.mpr ⟨kk, k1, by omega⟩
              · rw [show x + 1 - (a kk).toNat = (((x + 1 : Nat) : Int) - a kk).toNat by omega]; exact k3
            · rintro (q2 | ⟨s, s1, s2, s3, s4⟩)
              · omega
              · rw [← ht] at s3
                obtain ⟨kk, k1, k2⟩ := qrt_iff.mp s3
                exact ⟨kk, k1, by omega, by rw [k2, show (((x + 1 : Nat) : Int) - (s : Int)).toNat = x + 1 - s by omega]; exact s4⟩
          · exact r y (by omega)
        refine ⟨fun q => done ?_, fun q => ⟨fun q2 => by omega, fun _ => ?_⟩⟩
        · rw [show n = m by omega]; exact e2
        · rw [e1]
          refine ⟨by omega, fun q2 => done ?_, fun q2 => ⟨by omega, ?_⟩⟩
          · rw [qb_n0.mp q2] at e2 ⊢
            obtain ⟨kk, k1, k2⟩ := e2.mp rfl
            exact ⟨fun _ => ⟨kk, by omega, k2⟩, fun _ => rfl⟩
          · have hv := qb_0.mp q2
            have hno : ¬ ∃ kk, kk < m ∧ a kk ≤ ((x + 1 : Nat) : Int) ∧ qsp t (((x + 1 : Nat) : Int) - a kk).toNat = true := fun q3 => by
              rw [e2.mpr q3] at hv; cases hv
            have h3 := ha m (by omega)
            have h4 : h2 25 b m = a m := by rw [f 25 b m (by omega)]; exact h3.1
            rw [h4]
            have nxt : ∀ v' : Bool, (v' = true ↔ a m ≤ ((x + 1 : Nat) : Int) ∧ qsp t (((x + 1 : Nat) : Int) - a m).toNat = true) → G 26 [some (qr 8 i), some (qr 25 b), some (qi n), some (qi ((x + 1 : Nat) : Int)), some (qi ((m : Int) + 1))] [] (qu h2 30 i ((x + 1 : Nat) : Int) (qb v')) := fun v' q3 => by
              refine ihm (by omega) _ v' ⟨⟨qf8_trans f (qf8_qu (by omega)), fun y hy => ?_⟩, qu_at, ?_⟩
              · rw [qu_ne (by omega)]; exact r y hy
              · rw [q3]
                constructor
                · intro q4; exact ⟨m, by omega, q4⟩
                · rintro ⟨kk, k1, k2⟩
                  by_cases w : kk = m
                  · rw [← w]; exact k2
                  · exact absurd ⟨kk, by omega, k2⟩ hno
            refine ⟨fun q3 => by omega, fun _ => ⟨by omega, fun q3 => ⟨⟨by omega, Or.inl rfl⟩, by omega, nxt false ⟨fun q4 => (by cases q4), fun q4 => by omega⟩⟩, fun q3 => ⟨by omega, by omega, by omega, ?_⟩⟩⟩
            obtain ⟨z, hz⟩ := Int.eq_ofNat_of_zero_le (show 0 ≤ ((x + 1 : Nat) : Int) - a m by omega)
            rw [hz] at nxt ⊢
            rw [r z (by omega)]
            rw [Int.toNat_natCast] at nxt
            exact ⟨fun q4 => ⟨⟨by omega, Or.inl rfl⟩, by omega, nxt false ⟨fun q5 => (by cases q5), fun q5 => by rw [qb_0.mp q4] at q5; exact absurd q5.2 (by decide)⟩⟩, fun q4 => ⟨⟨by omega, Or.inr rfl⟩, by omega, nxt true ⟨fun _ => ⟨by omega, qb_n0.mp q4⟩, fun _ => rfl⟩⟩⟩
      refine one 0 (Nat.zero_le _) _ false ⟨⟨qf8_trans hI.1 (qf8_qu (by omega)), fun y hy => ?_⟩, qu_at, fun q => (by cases q), fun ⟨kk, k1, _⟩ => absurd k1 (Nat.not_lt_zero _)⟩
      rw [qu_ne (by omega)]; exact hI.2 y hy
  refine ⟨⟨by omega, Or.inr rfl⟩, key _ ⟨qf8_qu (by omega), fun y hy => ?_⟩⟩
  have : y = 0 := by omega
  rw [this, qsp_0]
  exact qu_at
theorem s_sums_27 {n : Nat} {a : Nat → Int} (hL : qhL g) (hn : n ≤ 48) (ha : ∀ k, k < n → h 27 0 k = a k ∧ 1 ≤ a k ∧ a k < 100000)
    (k : ∀ h', qf8 i h h' → (qacc (qspr (qrt a n)) = true → qat h' i (qspr (qrt a n))) → Q (qb (qacc (qspr (qrt a n)))) h') : q_tr l g (d + 3) n_X8_becomeSums [qr 8 i, qr 27 0, qi n] h Q := by
  refine i_X8_becomeSums_27 hL (fun G hG _ _ => b_X8_becomeSums_27_0 hG ?_)
  generalize ht : qrt a n = t at k
  have hrow : ∀ x, x < 400 → qspr t x = qsp t x := fun x hx => by unfold qspr; rw [decide_eq_false (by omega)]; rfl
  let I : Nat → QM → Prop := fun x h1 => qf8 i h h1 ∧ ∀ y : Nat, y < x → h1 30 i y = qb (qsp t y)
  have key : ∀ h1, I (0 + 1) h1 → G 9 [some (qr 8 i), some (qr 27 0), some (qi n), some (qi ((0 + 1 : Nat) : Int)), none] [] h1 := by
    refine q_dn (P := fun x => ∀ h1, I (x + 1) h1 → G 9 [some (qr 8 i), some (qr 27 0), some (qi n), some (qi ((x + 1 : Nat) : Int)), none] [] h1) (N := 399) (fun h1 hI => b_X8_becomeSums_27_9 hG ?_) (fun x hx ih h1 hI => b_X8_becomeSums_27_9 hG ?_)
    · exact ⟨fun _ => s_settle hL (qspr_v0 t) (fun y hy => by rw [hI.2 y hy, hrow y hy]) (fun h2 f _ q => ⟨qb_01 _, k h2 (qf8_trans hI.1 f) q⟩), fun q => absurd (Int.le_refl _) q⟩
    · refine ⟨fun q => by omega, fun _ => ⟨⟨by omega, Or.inl rfl⟩, ?_⟩⟩
      -- the steps one after another
      have one : ∀ m, m ≤ n → ∀ h2 v, (I (x + 1) h2 ∧ h2 30 i ((x + 1 : Nat) : Int) = qb v ∧ (v = true ↔ ∃ kk, kk < m ∧ a kk ≤ ((x + 1 : Nat) : Int) ∧ qsp t (((x + 1 : Nat) : Int) - a kk).toNat = true)) → G 26 [some (qr 8 i), some (qr 27 0), some (qi n), some (qi ((x + 1 : Nat) : Int)), some (qi (m : Int))] [] h2 := by
        refine q_up (fun m hm ihm h2 v hI2 => b_X8_becomeSums_27_26 hG ?_)
        obtain ⟨⟨f, r⟩, e1, e2⟩ := hI2
        have done : (v = true ↔ ∃ kk, kk < n ∧ a kk ≤ ((x + 1 : Nat) : Int) ∧ qsp t (((x + 1 : Nat) : Int) - a kk).toNat = true) → (-2147483648 ≤ ((x + 1 : Nat) : Int) + 1 ∧ ((x + 1 : Nat) : Int) + 1 ≤ 2147483647) ∧ G 9 [some (qr 8 i), some (qr 27 0), some (qi n), some (qi (((x + 1 : Nat) : Int) + 1)), none] [] h2 := fun q => by
          refine ⟨by omega, ih h2 ⟨f, fun y hy => ?_⟩⟩
          by_cases w : y = x + 1
          · rw [w, e1]
            congr 1
            rw [Bool.eq_iff_iff, q, qsp_iff]
            constructor
            · rintro ⟨kk, k1, k2, k3⟩
              have h3 := ha kk k1
              right
              refine ⟨(a kk).toNat, by omega, by omega, ?_, ?_⟩
              · rw [← ht]; exact qrt_iff.mpr ⟨kk, k1, by omega⟩
              · rw [show x + 1 - (a kk).toNat = (((x + 1 : Nat) : Int) - a kk).toNat by omega]; exact k3
            · rintro (q2 | ⟨s, s1, s2, s3, s4⟩)
              · omega
              · rw [← ht] at s3
                obtain ⟨kk, k1, k2⟩ := qrt_iff.mp s3
                exact ⟨kk, k1, by omega, by rw [k2, show (((x + 1 : Nat) : Int) - (s : Int)).toNat = x + 1 - s by omega]; exact s4⟩
          · exact r y (by omega)
        refine ⟨fun q => done ?_, fun q => ⟨fun q2 => by omega, fun _ => ?_⟩⟩
        · rw [show n = m by omega]; exact e2
        · rw [e1]
          refine ⟨by omega, fun q2 => done ?_, fun q2 => ⟨by omega, ?_⟩⟩
          · rw [qb_n0.mp q2] at e2 ⊢
            obtain ⟨kk, k1, k2⟩ := e2.mp rfl
            exact ⟨fun _ => ⟨kk, by omega, k2⟩, fun _ => rfl⟩
          · have hv := qb_0.mp q2
            have hno : ¬ ∃ kk, kk < m ∧ a kk ≤ ((x + 1 : Nat) : Int) ∧ qsp t (((x + 1 : Nat) : Int) - a kk).toNat = true := fun q3 => by
              rw [e2.mpr q3] at hv; cases hv
            have h3 := ha m (by omega)
            have h4 : h2 27 0 m = a m := by rw [f 27 0 m (by omega)]; exact h3.1
            rw [h4]
            have nxt : ∀ v' : Bool, (v' = true ↔ a m ≤ ((x + 1 : Nat) : Int) ∧ qsp t (((x + 1 : Nat) : Int) - a m).toNat = true) → G 26 [some (qr 8 i), some (qr 27 0), some (qi n), some (qi ((x + 1 : Nat) : Int)), some (qi ((m : Int) + 1))] [] (qu h2 30 i ((x + 1 : Nat) : Int) (qb v')) := fun v' q3 => by
              refine ihm (by omega) _ v' ⟨⟨qf8_trans f (qf8_qu (by omega)), fun y hy => ?_⟩, qu_at, ?_⟩
              · rw [qu_ne (by omega)]; exact r y hy
              · rw [q3]
                constructor
                · intro q4; exact ⟨m, by omega, q4⟩
                · rintro ⟨kk, k1, k2⟩
                  by_cases w : kk = m
                  · rw [← w]; exact k2
                  · exact absurd ⟨kk, by omega, k2⟩ hno
            refine ⟨fun q3 => by omega, fun _ => ⟨by omega, fun q3 => ⟨⟨by omega, Or.inl rfl⟩, by omega, nxt false ⟨fun q4 => (by cases q4), fun q4 => by omega⟩⟩, fun q3 => ⟨by omega, by omega, by omega, ?_⟩⟩⟩
            obtain ⟨z, hz⟩ := Int.eq_ofNat_of_zero_le (show 0 ≤ ((x + 1 : Nat) : Int) - a m by omega)
            rw [hz] at nxt ⊢
            rw [r z (by omega)]
            rw [Int.toNat_natCast] at nxt
            exact ⟨fun q4 => ⟨⟨by omega, Or.inl rfl⟩, by omega, nxt false ⟨fun q5 => (by cases q5), fun q5 => by rw [qb_0.mp q4] at q5; exact absurd q5.2 (by decide)⟩⟩, fun q4 => ⟨⟨by omega, Or.inr rfl⟩, by omega, nxt true ⟨fun _ => ⟨by omega, qb_n0.mp q4⟩, fun _ => rfl⟩⟩⟩
      refine one 0 (Nat.zero_le _) _ false ⟨⟨qf8_trans hI.1 (qf8_qu (by omega)), fun y hy => ?_⟩, qu_at, fun q => (by cases q), fun ⟨kk, k1, _⟩ => absurd k1 (Nat.not_lt_zero _)⟩
      rw [qu_ne (by omega)]; exact hI.2 y hy
  refine ⟨⟨by omega, Or.inr rfl⟩, key _ ⟨qf8_qu (by omega), fun y hy => ?_⟩⟩
  have : y = 0 := by omega
  rw [this, qsp_0]
  exact qu_at
end QSet5
