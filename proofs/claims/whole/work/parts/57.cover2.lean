/-! GOOD GAPS -/
/-- a number out of bits -/
def qnb (p : Nat → Bool) : Nat → Nat
  | 0 => 0
  | m + 1 => (if p m then 1 else 0) * 2 ^ m + qnb p m
theorem qnb_lt (p : Nat → Bool) : ∀ m, qnb p m < 2 ^ m
  | 0 => Nat.one_pos
  | m + 1 => by
    have := qnb_lt p m
    show (if p m then 1 else 0) * 2 ^ m + qnb p m < 2 ^ (m + 1)
    rw [Nat.pow_succ]
    split <;> omega
theorem qnb_bit (p : Nat → Bool) : ∀ m k, qbt (qnb p m : Int) k = (decide (k < m) && p k)
  | 0, k => by
    show qbt 0 k = _
    rw [qbt_0, decide_eq_false (Nat.not_lt_zero k)]; rfl
  | m + 1, k => by
    have hl := qnb_lt p m
    have c : ((2 ^ m : Nat) : Int) = 2 ^ m := by rw [Int.natCast_pow]; rfl
    have e : ((qnb p (m + 1) : Nat) : Int) = (if p m then (1 : Int) else 0) * 2 ^ m + (qnb p m : Nat) := by
      show (((if p m then 1 else 0) * 2 ^ m + qnb p m : Nat) : Int) = _
      rw [Int.natCast_add, Int.natCast_mul, c]
      split <;> rfl
    rw [e, qbt_lo _ (by omega) (by rw [← c]; omega)]
    by_cases q : k < m
    · rw [if_pos q, qnb_bit p m k, decide_eq_true q, decide_eq_true (show k < m + 1 by omega)]
    · rw [if_neg q]
      by_cases q2 : k = m
      · subst q2
        rw [Nat.sub_self, decide_eq_true (Nat.lt_succ_self k)]
        cases p k <;> decide
      · rw [decide_eq_false (show ¬ k < m + 1 by omega), Bool.false_and]
        cases p m with
        | true =>
          show qbt 1 (k - m) = false
          rw [qbt_1]; exact decide_eq_false (by omega)
        | false => exact qbt_0 _
theorem qnb_of {p : Nat → Bool} {m : Nat} {z : Int} (hm : m ≤ 8) (h : qbs z (fun j => decide (j < m) && p j)) : z = (qnb p m : Nat) := by
  have h1 := qnb_lt p m
  have h2 := q2g hm
  exact qbt_ext h.1 (by unfold q_i32; omega) (fun k hk => by rw [h.2 k hk, qnb_bit])
/-- of two numbers the one with all bits of the other and one more is the greater one -/
theorem qbt_more {a b : Nat} : ∀ m, a < 2 ^ m → b < 2 ^ m → (∀ k, k < m → qbt (a : Int) k = true → qbt (b : Int) k = true) → a ≤ b
  | 0, ha, hb, _ => by have : 2 ^ 0 = 1 := rfl; omega
  | m + 1, ha, hb, h => by
    have e : ∀ a : Nat, (a : Int) = ((a / 2 : Nat) : Int) * 2 ^ 1 + ((a % 2 : Nat) : Int) := fun a => by omega
    have bd : ∀ a : Nat, (0 : Int) ≤ ((a % 2 : Nat) : Int) ∧ ((a % 2 : Nat) : Int) < 2 ^ 1 := fun a => by omega
    have up : ∀ (a k : Nat), qbt (a : Int) (k + 1) = qbt ((a / 2 : Nat) : Int) k := fun a k => by
      conv => lhs; rw [e a]
      rw [qbt_lo _ (bd a).1 (bd a).2, if_neg (by omega)]; rfl
    have lo : ∀ a : Nat, qbt (a : Int) 0 = decide (a % 2 = 1) := fun a => by
      unfold qbt
      rw [Int.pow_zero, Int.ediv_one]
      exact decide_eq_decide.mpr (by omega)
    rw [Nat.pow_succ] at ha hb
    have ih := qbt_more m (a := a / 2) (b := b / 2) (by omega) (by omega) (fun k hk q => by rw [← up] at q ⊢; exact h (k + 1) (by omega) q)
    have h0 := h 0 (by omega)
    rw [lo, lo, decide_eq_true_eq, decide_eq_true_eq] at h0
    omega
/-- when the j-th gap is named -/
def qnx (S : QZ) (n j : Nat) : Nat := qnb (fun j' => qgrw (qab S n) (qgp S j) 16 (qgp S j')) (qgn S)
theorem qnx_lt (S : QZ) (n j : Nat) : qnx S n j < 2 ^ qgn S := qnb_lt _ _
theorem qnx_gt {S : QZ} (V : QV1 S) {n j : Nat} (hn : n < 2 ^ qgn S) (hj : j < qgn S) (hb : qbt n j = false) : n < qnx S n j := by
  have hsub : n ≤ qnx S n j := qbt_more (qgn S) hn (qnx_lt S n j) (fun k hk q => by
    unfold qnx
    rw [qnb_bit, decide_eq_true hk, Bool.true_and, qgrw_iff]
    exact ⟨0, by omega, by omega, by rw [Nat.zero_mul, Nat.sub_zero, qab_gap hk]; exact q⟩)
  have hjb : qbt (qnx S n j : Int) j = true := by
    unfold qnx
    rw [qnb_bit, decide_eq_true hj, Bool.true_and, qgrw_iff]
    exact ⟨1, by omega, by omega, by rw [Nat.one_mul, Nat.sub_self]; exact qab_in V.1⟩
  rcases Nat.lt_or_ge n (qnx S n j) with c | c
  · exact c
  · have : n = qnx S n j := by omega
    rw [← this, hb] at hjb; cases hjb
/-- who is to name wins -/
def qwin (S : QZ) : Nat → Nat → Bool
  | 0, _ => true
  | f + 1, n => decide (n + 1 = 2 ^ qgn S) || (qclp (qab S n) && qex (fun j => !(qbt n j) && !(qwin S f (qnx S n j))) (qgn S))
theorem qwin_s (S : QZ) (f n : Nat) : qwin S (f + 1) n = (decide (n + 1 = 2 ^ qgn S) || (qclp (qab S n) && qex (fun j => !(qbt n j) && !(qwin S f (qnx S n j))) (qgn S))) := rfl
theorem qwin_1 {S : QZ} (V : QV1 S) : ∀ f n, n < 2 ^ qgn S → 2 ^ qgn S ≤ n + f + 1 → qwin S (f + 1) n = qwin S f n
  | 0, n, hn, h => by
    rw [qwin_s, decide_eq_true (by omega)]; rfl
  | f + 1, n, hn, h => by
    rw [qwin_s S (f + 1) n, qwin_s S f n]
    congr 2
    refine qex_cong (fun j hj => ?_)
    cases hb : qbt n j with
    | true => rfl
    | false =>
      have := qnx_gt V hn hj hb
      rw [qwin_1 V f _ (qnx_lt S n j) (by omega)]
def qwn (S : QZ) (n : Nat) : Bool := qwin S (2 ^ qgn S) n
theorem qwn_eq {S : QZ} (V : QV1 S) {n : Nat} (hn : n < 2 ^ qgn S) : qwn S n = (decide (n + 1 = 2 ^ qgn S) || (qclp (qab S n) && qex (fun j => !(qbt n j) && !(qwn S (qnx S n j))) (qgn S))) := by
  unfold qwn
  rw [← qwin_1 V (2 ^ qgn S) n hn (by omega), qwin_s]
def qgood (S : QZ) (i : Int) : Int := if i = -1 then (qc (fun j => !(qwn S (qnx S 0 j))) (qgn S) : Nat) else if qnth (fun j => !(qwn S (qnx S 0 j))) (qgn S) i = -1 then -1 else qgp S (qnth (fun j => !(qwn S (qnx S 0 j))) (qgn S) i).toNat
section QCov2
variable {l : Launch} {g : QG} {d : Nat} {h : QM} {i : Int} {S : QZ} {Q : Int → QM → Prop}
theorem s_isWin {n j : Nat} (hL : qhL g) (V : QV1 S) (hg : qgn S ≤ 8) (C : qcov h S) (hj : j < qgn S) (hw : qbt n j = false → h 14 0 (qnx S n j) = qb (qwn S (qnx S n j)))
    (k : Q (qb (!(qbt n j) && !(qwn S (qnx S n j)))) h) : q_tr l g (d + 3) n_X0_isWinning [qr 0 0, qi n, qi j] h Q := by
  refine i_X0_isWinning hL (fun G hG _ _ => b_X0_isWinning_0 hG ?_)
  have h16 := qgp_16 V hg hj
  rw [q_bit (show j < 32 by omega)]
  refine ⟨fun q => ⟨Or.inl rfl, q_qe k (by rw [qb_n0.mp q]; rfl)⟩, fun q => s_spread hL V hg C (fun z hz => ⟨by omega, ?_⟩)⟩
  have hb := qb_0.mp q
  rw [C.2.2 j hj]
  refine s_grown hL hz (by omega) (fun z2 hz2 => s_numberOf hL V hg C hz2 (fun z3 hz3 => ?_))
  have e := qnb_of hg hz3
  have e2 : z3 = (qnx S n j : Nat) := e
  have h1 := qnx_lt S n j
  have h2 := q2g hg
  rw [e2, hw hb]
  rw [hb] at k
  exact ⟨by omega, fun q2 => ⟨Or.inl rfl, q_qe k (by rw [qb_n0.mp q2]; rfl)⟩, fun q2 => ⟨Or.inr rfl, q_qe k (by rw [qb_0.mp q2]; rfl)⟩⟩
theorem s_play (hL : qhL g) (V : QV1 S) (hg : qgn S ≤ 8) (C : qcov2 h S) (k : ∀ h', qfx [14] h h' → (∀ n : Nat, n < 2 ^ qgn S → h' 14 0 n = qb (qwn S n)) → Q 0 h') : q_tr l g (d + 4) n_X0_play [qr 0 0, qi ((2 ^ qgn S : Nat) : Int)] h Q := by
  refine i_X0_play hL (fun G hG _ _ => b_X0_play_0 hG ?_)
  have h256 := q2g hg
  have hp : 0 < 2 ^ qgn S := Nat.two_pow_pos _
  have heq := fun n hn => qwn_eq V (n := n) hn
  generalize hA : 2 ^ qgn S = a at *
  have key : ∀ m, m + 1 ≤ a → ∀ h1, (qfx [14] h h1 ∧ ∀ n : Nat, m ≤ n → n < a → h1 14 0 n = qb (qwn S n)) → G 13 [some (qr 0 0), none, some (qi ((m : Int) - 1)), none] [] h1 := by
    intro m
    induction m with
    | zero => exact fun _ h1 hI => b_X0_play_13 hG ⟨fun _ => k h1 hI.1 (fun n hn => hI.2 n (Nat.zero_le _) hn), fun q => by omega⟩
    | succ m ih =>
      intro hm h1 hI
      obtain ⟨f1, a1⟩ := hI
      refine b_X0_play_13 hG ⟨fun q => by omega, fun _ => ?_⟩
      rw [show ((m + 1 : Nat) : Int) - 1 = (m : Int) by omega]
      refine ⟨⟨by omega, Or.inl rfl⟩, ?_⟩
      have hme := heq m (by omega)
      rw [decide_eq_false (by omega), Bool.false_or] at hme
      -- it is known of m
      have fin : ∀ h2, qfx [14] h h2 → (∀ n : Nat, m + 1 ≤ n → n < a → h2 14 0 n = qb (qwn S n)) → h2 14 0 m = qb (qwn S m) → (-2147483648 ≤ (m : Int) + (-1) ∧ (m : Int) + (-1) ≤ 2147483647) ∧ G 13 [some (qr 0 0), none, some (qi ((m : Int) + (-1))), none] [] h2 := fun h2 f2 b1 b2 => by
        refine ⟨by omega, ?_⟩
        rw [show (m : Int) + -1 = (m : Int) - 1 by omega]
        refine ih (by omega) h2 ⟨f2, fun n n1 n2 => ?_⟩
        by_cases c : n = m
        · rw [c]; exact b2
        · exact b1 n (by omega) n2
      have loop : ∀ j, j ≤ qgn S → ∀ h2, (qfx [14] h h2 ∧ (∀ n : Nat, m + 1 ≤ n → n < a → h2 14 0 n = qb (qwn S n)) ∧ h2 14 0 m = qb (qclp (qab S m) && qex (fun j => !(qbt m j) && !(qwn S (qnx S m j))) j)) → G 26 [some (qr 0 0), none, some (qi (m : Int)), some (qi (j : Int))] [] h2 := by
        refine q_up (fun j hj ihj h2 hI2 => b_X0_play_26 hG ?_)
        obtain ⟨f2, b1, b2⟩ := hI2
        have C2 := qcov_fx C.1 f2 rfl
        rw [C2.1]
        refine ⟨fun q => fin h2 f2 b1 (by rw [b2, hme, show j = qgn S by omega]), fun q => ⟨by omega, ?_⟩⟩
        have hjg : j < qgn S := by omega
        rw [f2 13 rfl, C.2 m (by omega)]
        refine ⟨fun q2 => fin h2 f2 b1 (by rw [b2, hme, qb_0.mp q2]; rfl), fun q2 => ⟨by omega, fun q3 => fin h2 f2 b1 ?_, fun q3 => ?_⟩⟩
        · rw [b2] at q3
          have e1 := qb_n0.mp q3
          rw [b2, e1, hme]
          have e2 := Bool.and_eq_true_iff.mp e1
          obtain ⟨w, w1, w2⟩ := qex_iff.mp e2.2
          rw [e2.1, qex_iff.mpr ⟨w, by omega, w2⟩]; rfl
        · refine s_isWin hL V hg C2 hjg (fun hb => b1 _ (by have := qnx_gt V (n := m) (by rw [hA]; omega) hjg hb; omega) (by have := qnx_lt S m j; omega)) ⟨⟨by omega, qb_01 _⟩, by omega, ihj hjg _ ⟨qfx_trans f2 (qfx_qu rfl), fun n n1 n2 => ?_, ?_⟩⟩
          · rw [qu_ne (by omega)]; exact b1 n n1 n2
          · rw [qu_at]
            rw [b2, qb_n0.mp q2, Bool.true_and] at q3
            rw [qb_n0.mp q2, Bool.true_and]
            show _ = qb (qex _ j || _)
            rw [qb_0.mp q3, Bool.false_or]
      refine loop 0 (Nat.zero_le _) _ ⟨qfx_trans f1 (qfx_qu rfl), fun n n1 n2 => by rw [qu_ne (by omega)]; exact a1 n n1 n2, ?_⟩
      rw [qu_at]
      show _ = qb (_ && false)
      rw [Bool.and_false]; rfl
  refine ⟨by omega, ⟨by omega, Or.inr rfl⟩, by omega, ?_⟩
  rw [show (a : Int) - 2 = ((a - 1 : Nat) : Int) - 1 by omega]
  refine key (a - 1) (by omega) _ ⟨qfx_qu rfl, fun n n1 n2 => ?_⟩
  rw [show (n : Int) = (a : Int) - 1 by omega, qu_at, heq n n2, decide_eq_true (by omega)]; rfl
theorem s_wgap {j : Int} (hL : qhL g) (V : QV2 S) (A : qat h i S) (hg : qgn S ≤ 8) (k : ∀ h', qfx [0, 13, 14, 17] h h' → Q (qgood S j) h') : q_tr l g (d + 5) n_X0_winningGapAt [qr 0 0, qr 8 i, qi j] h Q := by
  refine i_X0_winningGapAt hL (fun G hG _ _ => b_X0_winningGapAt_0 hG ?_)
  refine s_open hL V A hg (fun h1 f C => s_play hL V.1 hg C (fun h2 f2 W => ?_))
  have C2 := qcov_fx C.1 f2 rfl
  have k2 := k h2 (qfx_trans (qfx_mono f (qfx_sub rfl)) (qfx_mono f2 (qfx_sub rfl)))
  have hp : 0 < 2 ^ qgn S := Nat.two_pow_pos _
  unfold qgood at k2
  generalize hP : (fun j => !(qwn S (qnx S 0 j))) = P at k2
  have hPe : ∀ j, P j = !(qwn S (qnx S 0 j)) := fun j => by rw [← hP]
  have key : ∀ m, m ≤ qgn S → (j < 0 ∨ (qc P m : Int) ≤ j) → G 14 [some (qr 0 0), none, some (qi j), some (qi (qc P m : Nat)), some (qi (m : Int))] [] h2 := by
    refine q_up (fun m hm ih hj => b_X0_winningGapAt_14 hG ?_)
    rw [C2.1]
    have hcl := qc_le P m
    refine ⟨fun q => ⟨fun q2 => q_qe k2 ?_, fun q2 => q_qe k2 ?_⟩, fun q => ?_⟩
    · rw [if_neg q2, if_pos]
      rw [show qgn S = m by omega]
      exact qnth_no hj
    · rw [if_pos q2, show qgn S = m by omega]
    · have hmg : m < qgn S := by omega
      refine s_isWin (n := 0) hL V.1 hg C2 hmg (fun _ => W _ (qnx_lt S 0 m)) ?_
      rw [show qbt ((0 : Nat) : Int) m = false from qbt_0 m, Bool.not_false, Bool.true_and, ← hPe]
      have ih := ih hmg
      refine ⟨fun q2 => ⟨by omega, ?_⟩, fun q2 => ⟨fun q3 => ⟨by omega, by omega, ?_⟩, fun q3 => ⟨by omega, q_qe k2 ?_⟩⟩⟩
      · rw [qc_f (qb_0.mp q2)] at ih; exact ih hj
      · rw [qc_t (qb_n0.mp q2)] at ih; exact ih (by omega)
      · have e := qnth_at (qb_n0.mp q2) hmg
        rw [q3] at e
        rw [if_neg (by omega), e, if_neg (by omega), Int.toNat_natCast, C2.2.2 m hmg]
  exact key 0 (Nat.zero_le _) (by unfold qc; omega)
end QCov2
