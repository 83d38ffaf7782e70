/-! sets with few gaps as numbers: bit 15 - x is on where x is a gap; the LIST's order is that of these numbers -/
def qsv (v : Nat) : QZ := fun x => !(decide (x < 16) && qbt v (15 - x))
theorem qsv_hi {v x : Nat} (h : 16 ≤ x) : qsv v x = true := by unfold qsv; rw [decide_eq_false (by omega)]; rfl
theorem qsv_lo {v x : Nat} (h : x < 16) : qsv v x = !qbt v (15 - x) := by unfold qsv; rw [decide_eq_true h, Bool.true_and]
/-- closed under sums -/
def qcv (v : Nat) : Bool := !(qex (fun a => qex (fun b => qsv v a && qsv v b && !(qsv v (a + b))) 16) 16)
theorem qcv_iff {v : Nat} : qcv v = true ↔ ∀ a b, qsv v a = true → qsv v b = true → qsv v (a + b) = true := by
  unfold qcv
  rw [Bool.not_eq_true', qex_f]
  constructor
  · intro h a b ha hb
    rcases Nat.lt_or_ge a 16 with c | c
    · rcases Nat.lt_or_ge b 16 with e | e
      · have := qex_f.mp (h a c) b e
        rw [ha, hb] at this
        simpa using this
      · exact qsv_hi (by omega)
    · exact qsv_hi (by omega)
  · intro h a _
    refine qex_f.mpr (fun b _ => ?_)
    cases ha : qsv v a with
    | false => rfl
    | true =>
      cases hb : qsv v b with
      | false => rfl
      | true => rw [h a b ha hb]; rfl
def qbv (v : Nat) : Nat := qc (qgap (qsv v)) 16
/-- it is of the LIST of a GENUS -/
def qpl (g v : Nat) : Bool := qcv v && (qbv v == g)
/-- a gap is not as great as twice the number of gaps up to it -/
theorem qgap_half {S : QZ} (h : ∀ a b, S a = true → S b = true → S (a + b) = true) {t : Nat} (ht : S t = false) : t + 1 ≤ 2 * qc (qgap S) (t + 1) := by
  have h1 : qc S (t + 1) ≤ qc (qgap S) (t + 1) := by
    refine qc_inj (f := fun x => t - x) (fun x hx hs => ⟨by omega, ?_⟩) (fun x y hx hy _ _ e => by omega)
    refine qgap_f.mpr ?_
    cases e : S (t - x) with
    | false => rfl
    | true =>
      have := h x (t - x) hs e
      rw [show x + (t - x) = t by omega, ht] at this; cases this
  have h2 : ∀ n, qc S n + qc (qgap S) n = n := by
    intro n
    induction n with
    | zero => rfl
    | succ n ih =>
      cases e : S n with
      | true => rw [qc_t e, qc_f (qgap_t.mpr e)]; omega
      | false => rw [qc_f e, qc_t (qgap_f.mpr e)]; omega
  have := h2 (t + 1)
  omega
theorem qtop_half {S : QZ} (V : QV1 S) : qtop S + 1 ≤ 2 * qgn S := by
  have htb := qtop_bd V
  rcases Int.lt_or_le (qtop S) 0 with q | q
  · omega
  · have h1 := qgap_half V.2.1 (qtop_not (S := S) q)
    have h2 := qc_mono (qgap S) (show (qtop S).toNat + 1 ≤ 400 by omega)
    unfold qgn
    omega
/-! blocks of these numbers: those below n are told -/
theorem qbt_blk {v0 w t k : Nat} (h0 : v0 % 2 ^ t = 0) (hw : w < 2 ^ t) (hk : t ≤ k) : qbt ((v0 + w : Nat) : Int) k = qbt (v0 : Int) k := by
  have e : v0 = v0 / 2 ^ t * 2 ^ t := by have := Nat.div_add_mod v0 (2 ^ t); rw [Nat.mul_comm]; omega
  have c : ((2 ^ t : Nat) : Int) = 2 ^ t := by rw [Int.natCast_pow]; rfl
  have a1 : ((v0 + w : Nat) : Int) = ((v0 / 2 ^ t : Nat) : Int) * 2 ^ t + (w : Int) := by
    rw [← c, ← Int.natCast_mul, ← e]; rfl
  have a2 : (v0 : Int) = ((v0 / 2 ^ t : Nat) : Int) * 2 ^ t + ((0 : Nat) : Int) := by
    rw [← c, ← Int.natCast_mul, ← e]; omega
  have hp := qp2 t
  rw [a1, qbt_lo _ (by omega) (by rw [← c]; omega), if_neg (by omega)]
  rw [a2, qbt_lo _ (by omega) (by rw [← c]; omega), if_neg (by omega)]
theorem qsv_blk {v0 w n x : Nat} (hn : n ≤ 16) (h0 : v0 % 2 ^ (16 - n) = 0) (hw : w < 2 ^ (16 - n)) (hx : x < n) : qsv (v0 + w) x = qsv v0 x := by
  rw [qsv_lo (by omega), qsv_lo (by omega), qbt_blk h0 hw (by omega)]
/-- what is not told yet is of the first one of a block -/
theorem qsv_in {v0 n x : Nat} (hn : n ≤ 16) (h0 : v0 % 2 ^ (16 - n) = 0) (hx : n ≤ x) : qsv v0 x = true := by
  rcases Nat.lt_or_ge x 16 with c | c
  · rw [qsv_lo c]
    have : qbt (v0 : Int) (15 - x) = false := by
      have h1 := qbt_mod (v0 : Int) (show 15 - x < 16 - n by omega)
      have e : ((v0 : Int) % 2 ^ (16 - n)) = ((v0 % 2 ^ (16 - n) : Nat) : Int) := by rw [Int.natCast_emod, Int.natCast_pow]; rfl
      rw [e, h0, show ((0 : Nat) : Int) = 0 from rfl, qbt_0] at h1
      exact h1.symm
    rw [this]; rfl
  · exact qsv_hi c
theorem q2s {n : Nat} (hn : n < 16) : 2 ^ (16 - n) = 2 * 2 ^ (16 - (n + 1)) := by
  rw [show 16 - n = (16 - (n + 1)) + 1 by omega, Nat.pow_succ, Nat.mul_comm]
theorem q2m {v0 n : Nat} (hn : n < 16) (h0 : v0 % 2 ^ (16 - n) = 0) : v0 % 2 ^ (16 - (n + 1)) = 0 := by
  rw [q2s hn] at h0
  have h1 : 2 ^ (16 - (n + 1)) ∣ 2 * 2 ^ (16 - (n + 1)) := ⟨2, by rw [Nat.mul_comm]⟩
  have := Nat.mod_mod_of_dvd v0 h1
  rw [← this, h0, Nat.zero_mod]
/-- where n is left out -/
theorem qsv_out {v0 n x : Nat} (hn : n < 16) (h0 : v0 % 2 ^ (16 - n) = 0) : qsv (v0 + 2 ^ (16 - (n + 1))) x = (qsv v0 x && !(x == n)) := by
  have h1 := q2m hn h0
  have hp : 0 < 2 ^ (16 - (n + 1)) := Nat.two_pow_pos _
  rcases Nat.lt_or_ge x 16 with c | c
  · rcases Nat.lt_trichotomy x n with e | e | e
    · rw [qsv_blk (n := n) (by omega) h0 (by rw [q2s hn]; omega) e]
      simp [show ¬ x = n by omega]
    · subst e
      rw [qsv_lo c]
      have e2 : (15 - x) = 16 - (x + 1) := by omega
      have c2 : ((2 ^ (16 - (x + 1)) : Nat) : Int) = 2 ^ (16 - (x + 1)) := by rw [Int.natCast_pow]; rfl
      have a1 : ((v0 + 2 ^ (16 - (x + 1)) : Nat) : Int) / 2 ^ (15 - x) % 2 = 1 := by
        rw [q2s hn] at h0
        obtain ⟨k, hk⟩ := Nat.dvd_of_mod_eq_zero h0
        rw [e2, ← c2, ← Int.natCast_ediv, hk]
        have : 2 * 2 ^ (16 - (x + 1)) * k + 2 ^ (16 - (x + 1)) = (2 * k + 1) * 2 ^ (16 - (x + 1)) := by
          rw [Nat.add_mul, Nat.one_mul, Nat.mul_assoc, Nat.mul_assoc, Nat.mul_comm (2 ^ (16 - (x + 1))) k]
        rw [this, Nat.mul_div_cancel _ hp]
        omega
      unfold qbt
      rw [decide_eq_true a1]; simp
    · rw [qsv_in (n := n + 1) (by omega) (by rw [Nat.add_mod, h1, Nat.mod_self, Nat.add_zero, Nat.zero_mod]) (by omega), qsv_in (n := n) (by omega) h0 (by omega)]
      simp [show ¬ x = n by omega]
  · rw [qsv_hi c, qsv_hi c]
    simp [show ¬ x = n by omega]
theorem qbt_small {v k : Nat} (hv : v < 2 ^ k) : qbt (v : Int) k = false := by
  unfold qbt
  have c : ((2 ^ k : Nat) : Int) = 2 ^ k := by rw [Int.natCast_pow]; rfl
  rw [Int.ediv_eq_zero_of_lt (by omega) (by rw [← c]; omega)]; rfl
theorem qsv_inj {v w : Nat} (hv : v < 65536) (hw : w < 65536) (h : ∀ x, x < 16 → qsv v x = qsv w x) : v = w := by
  have : (v : Int) = (w : Int) := by
    refine qbt_ext (by unfold q_i32; omega) (by unfold q_i32; omega) (fun k hk => ?_)
    rcases Nat.lt_or_ge k 16 with c | c
    · have := h (15 - k) (by omega)
      rw [qsv_lo (by omega), qsv_lo (by omega), show 15 - (15 - k) = k by omega] at this
      simpa using this
    · have := Nat.pow_le_pow_right (show 0 < 2 by omega) c
      have e : 2 ^ 16 = 65536 := by decide
      rw [qbt_small (by omega), qbt_small (by omega)]
  omega
theorem qbv_blk {v0 w n : Nat} (hn : n ≤ 16) (h0 : v0 % 2 ^ (16 - n) = 0) (hw : w < 2 ^ (16 - n)) : qbv v0 ≤ qbv (v0 + w) ∧ (qbv (v0 + w) = qbv v0 → ∀ x, x < 16 → qsv (v0 + w) x = qsv v0 x) := by
  have e0 : qbv v0 = qc (qgap (qsv v0)) n := qc_none hn (fun x h1 _ => qgap_t.mpr (qsv_in hn h0 h1))
  have e1 : qc (qgap (qsv v0)) n = qc (qgap (qsv (v0 + w))) n := qc_cong (fun x hx => by unfold qgap; rw [qsv_blk hn h0 hw hx])
  have e2 : qc (qgap (qsv (v0 + w))) n ≤ qbv (v0 + w) := qc_mono _ hn
  refine ⟨by omega, fun e x hx => ?_⟩
  rcases Nat.lt_or_ge x n with c | c
  · exact qsv_blk hn h0 hw c
  · rw [qsv_in hn h0 c]
    cases e3 : qsv (v0 + w) x with
    | true => rfl
    | false =>
      have a1 := qc_lt hx (qgap_f.mpr e3)
      have a2 := qc_mono (qgap (qsv (v0 + w))) c
      unfold qbv at e e0
      omega
/-- no gap is left: there is one alone -/
theorem qpl_0 {v0 w n g : Nat} (hn : n ≤ 16) (hv : v0 + 2 ^ (16 - n) ≤ 65536) (h0 : v0 % 2 ^ (16 - n) = 0) (hw : w < 2 ^ (16 - n)) (hc : qcv v0 = true) (hb : qbv v0 = g) : qpl g (v0 + w) = decide (w = 0) := by
  obtain ⟨a1, a2⟩ := qbv_blk hn h0 hw
  by_cases c : w = 0
  · subst c
    rw [decide_eq_true rfl]
    unfold qpl
    rw [Nat.add_zero, hc, hb]; simp
  · rw [decide_eq_false c]
    unfold qpl
    by_cases e : qbv (v0 + w) = g
    · have := qsv_inj (by omega) (by omega) (a2 (by omega))
      omega
    · simp [e]
/-- gaps are left, but no place for them -/
theorem qpl_no {v0 w n g : Nat} (hn : n ≤ 16) (h0 : v0 % 2 ^ (16 - n) = 0) (hw : w < 2 ^ (16 - n)) (hb : qbv v0 < g) (hg : 2 * g ≤ n ∨ n = 16) : qpl g (v0 + w) = false := by
  obtain ⟨a1, a2⟩ := qbv_blk hn h0 hw
  unfold qpl
  cases hc : qcv (v0 + w) with
  | false => rfl
  | true =>
    rw [Bool.true_and]
    by_cases e : qbv (v0 + w) = g
    · exfalso
      -- a gap that is not of the first one
      have hex : ∃ x, n ≤ x ∧ x < 16 ∧ qsv (v0 + w) x = false := by
        apply Classical.byContradiction
        intro z
        have : qbv (v0 + w) = qc (qgap (qsv (v0 + w))) n := qc_none hn (fun x h1 h2 => by
          cases e3 : qsv (v0 + w) x with
          | true => exact qgap_t.mpr e3
          | false => exact absurd ⟨x, h1, h2, e3⟩ z)
        have e1 : qc (qgap (qsv v0)) n = qc (qgap (qsv (v0 + w))) n := qc_cong (fun x hx => by unfold qgap; rw [qsv_blk hn h0 hw hx])
        have e0 : qbv v0 = qc (qgap (qsv v0)) n := qc_none hn (fun x h1 _ => qgap_t.mpr (qsv_in hn h0 h1))
        omega
      obtain ⟨x, x1, x2, x3⟩ := hex
      have h1 := qgap_half (qcv_iff.mp hc) x3
      have h2 := qc_mono (qgap (qsv (v0 + w))) (show x + 1 ≤ 16 by omega)
      unfold qbv at e
      omega
    · simp [e]
/-- a sum of two above 0 of a set -/
def qs2 (p : Nat → Bool) (x : Nat) : Bool := qex (fun y => decide (0 < y) && p y && p (x - y)) x
theorem qs2_iff {p : Nat → Bool} {x : Nat} : qs2 p x = true ↔ ∃ y, 0 < y ∧ y < x ∧ p y = true ∧ p (x - y) = true := by
  unfold qs2
  rw [qex_iff]
  simp only [Bool.and_eq_true, decide_eq_true_eq]
  constructor
  · rintro ⟨y, h1, ⟨h2, h3⟩, h4⟩; exact ⟨y, h2, h1, h3, h4⟩
  · rintro ⟨y, h1, h2, h3, h4⟩; exact ⟨y, h2, ⟨h1, h3⟩, h4⟩
theorem qgen_2 {S : QZ} {x : Nat} : qgen S x = (decide (0 < x) && S x && !(qs2 S x)) := rfl
theorem qpl_sum {v0 w n g : Nat} (hn : n < 16) (h0 : v0 % 2 ^ (16 - n) = 0) (hw : w < 2 ^ (16 - (n + 1))) (hs : qs2 (qsv v0) n = true) : qpl g (v0 + 2 ^ (16 - (n + 1)) + w) = false := by
  obtain ⟨y, y1, y2, y3, y4⟩ := qs2_iff.mp hs
  have hw2 : 2 ^ (16 - (n + 1)) + w < 2 ^ (16 - n) := by rw [q2s hn]; omega
  have hm : (v0 + 2 ^ (16 - (n + 1))) % 2 ^ (16 - (n + 1)) = 0 := by rw [Nat.add_mod, q2m hn h0, Nat.mod_self, Nat.add_zero, Nat.zero_mod]
  unfold qpl
  cases hc : qcv (v0 + 2 ^ (16 - (n + 1)) + w) with
  | false => rfl
  | true =>
    have e : ∀ x, x < n → qsv (v0 + 2 ^ (16 - (n + 1)) + w) x = qsv v0 x := fun x hx => by
      rw [qsv_blk (n := n + 1) (by omega) hm hw (by omega), qsv_out hn h0]
      simp [show ¬ x = n by omega]
    have h1 := qcv_iff.mp hc y (n - y) (by rw [e y y2]; exact y3) (by rw [e _ (by omega)]; exact y4)
    rw [show y + (n - y) = n by omega, qsv_blk (n := n + 1) (by omega) hm hw (by omega), qsv_out hn h0] at h1
    simp at h1
/-- n is left out -/
theorem qcv_out {v0 n : Nat} (hn : n < 16) (hn0 : 0 < n) (h0 : v0 % 2 ^ (16 - n) = 0) (hc : qcv v0 = true) (hs : qs2 (qsv v0) n = false) : qcv (v0 + 2 ^ (16 - (n + 1))) = true ∧ qbv (v0 + 2 ^ (16 - (n + 1))) = qbv v0 + 1 := by
  constructor
  · refine qcv_iff.mpr (fun a b ha hb => ?_)
    rw [qsv_out hn h0] at ha hb ⊢
    simp only [Bool.and_eq_true, Bool.not_eq_true', beq_eq_false_iff_ne] at ha hb ⊢
    refine ⟨qcv_iff.mp hc a b ha.1 hb.1, fun e => ?_⟩
    have : qs2 (qsv v0) n = true := qs2_iff.mpr ⟨a, by
      rcases Nat.eq_zero_or_pos a with z | z
      · omega
      · exact z, by omega, ha.1, by rw [show n - a = b by omega]; exact hb.1⟩
    rw [hs] at this; cases this
  · have h1 := qc_flip (q := qgap (qsv (v0 + 2 ^ (16 - (n + 1))))) (b := n) (qgap_f.mpr (by rw [qsv_out hn h0]; simp)) 16 hn
    unfold qbv
    rw [← h1]
    congr 1
    refine qc_cong (fun x _ => ?_)
    unfold qgap
    rw [qsv_out hn h0]
    by_cases c : x = n
    · subst c; rw [qsv_in (by omega) h0 (Nat.le_refl _)]; simp
    · have hxn : (x == n) = false := by simp [c]
      rw [hxn]; simp
/-- the search, counted -/
def qdf (g : Nat) : Nat → Nat → Nat → Nat → Nat
  | 0, _, _, _ => 0
  | f + 1, n, v0, left => if left = 0 then 1 else if 2 * g ≤ n ∨ 16 ≤ n then 0 else qdf g f (n + 1) v0 left + (if qs2 (qsv v0) n then 0 else qdf g f (n + 1) (v0 + 2 ^ (16 - (n + 1))) (left - 1))
theorem qc_add (p : Nat → Bool) (a : Nat) : ∀ m, qc p (a + m) = qc p a + qc (fun w => p (a + w)) m
  | 0 => rfl
  | m + 1 => by
    rw [← Nat.add_assoc, qc_s, qc_s, qc_add p a m, Nat.add_assoc]
theorem qdf_ok {g : Nat} : ∀ f n v0 left, 17 ≤ n + f → 0 < n → n ≤ 16 → v0 + 2 ^ (16 - n) ≤ 65536 → v0 % 2 ^ (16 - n) = 0 → qcv v0 = true → qbv v0 + left = g → qc (qpl g) (v0 + 2 ^ (16 - n)) = qc (qpl g) v0 + qdf g f n v0 left
  | 0, n, v0, left, h, _, h2, _, _, _, _ => by omega
  | f + 1, n, v0, left, hf, hn0, hn, hv, h0, hc, hb => by
    rw [qc_add]
    congr 1
    unfold qdf
    have hp : 0 < 2 ^ (16 - n) := Nat.two_pow_pos _
    by_cases hl : left = 0
    · rw [if_pos hl]
      have : qc (fun w => qpl g (v0 + w)) (2 ^ (16 - n)) = qc (fun w => w == 0) (2 ^ (16 - n)) := qc_cong (fun w hw => by
        rw [qpl_0 hn hv h0 hw hc (by omega)]
        by_cases c : w = 0
        · simp [c]
        · simp [c])
      rw [this]
      have one : ∀ m, 0 < m → qc (fun w => w == 0) m = 1 := by
        intro m hm
        induction m with
        | zero => omega
        | succ m ih =>
          by_cases c : m = 0
          · subst c; rfl
          · rw [qc_f (by simp [c])]; exact ih (by omega)
      exact one _ hp
    · rw [if_neg hl]
      by_cases hg : 2 * g ≤ n ∨ 16 ≤ n
      · rw [if_pos hg, qc_none (m := 0) (n := 2 ^ (16 - n)) (Nat.zero_le _) (fun w _ hw => qpl_no hn h0 hw (by omega) (by omega))]; rfl
      · rw [if_neg hg]
        have hn16 : n < 16 := by omega
        have hm := q2m hn16 h0
        have i1 := qdf_ok (g := g) f (n + 1) v0 left (by omega) (by omega) (by omega) (by rw [q2s hn16] at hv; omega) hm hc hb
        rw [q2s hn16, Nat.two_mul, qc_add]
        rw [qc_add] at i1
        rw [show qc (fun w => qpl g (v0 + w)) (2 ^ (16 - (n + 1))) = qdf g f (n + 1) v0 left by omega]
        congr 1
        by_cases hs : qs2 (qsv v0) n = true
        · rw [if_pos hs, qc_none (m := 0) (n := 2 ^ (16 - (n + 1))) (Nat.zero_le _) (fun w _ hw => by rw [← Nat.add_assoc]; exact qpl_sum hn16 h0 hw hs)]; rfl
        · rw [if_neg hs]
          have hs2 : qs2 (qsv v0) n = false := by simpa using hs
          obtain ⟨c1, c2⟩ := qcv_out hn16 hn0 h0 hc hs2
          have i2 := qdf_ok (g := g) f (n + 1) (v0 + 2 ^ (16 - (n + 1))) (left - 1) (by omega) (by omega) (by omega) (by rw [q2s hn16] at hv; omega) (by rw [Nat.add_mod, hm, Nat.mod_self, Nat.add_zero, Nat.zero_mod]) c1 (by omega)
          rw [qc_add] at i2
          have e : qc (fun w => qpl g (v0 + 2 ^ (16 - (n + 1)) + w)) (2 ^ (16 - (n + 1))) = qc (fun w => qpl g (v0 + (2 ^ (16 - (n + 1)) + w))) (2 ^ (16 - (n + 1))) := qc_cong (fun w _ => by rw [Nat.add_assoc])
          omega
theorem qcv_0 : qcv 0 = true := by decide +kernel
theorem qbv_0 : qbv 0 = 0 := by decide +kernel
theorem qlist_n (g : Nat) : qc (qpl g) 32768 = qdf g 16 1 0 g := by
  have := qdf_ok (g := g) 16 1 0 g (by omega) (by omega) (by omega) (by decide) (by decide) qcv_0 (by rw [qbv_0]; omega)
  rw [show 0 + 2 ^ (16 - 1) = 32768 by decide] at this
  rw [this]
  show 0 + _ = _
  omega
/-- how many SETS have a GENUS -/
def qcount : List Nat := [1, 1, 2, 4, 7, 12, 23, 39, 67]
theorem qdf_all : ∀ g, g < 9 → qdf g 16 1 0 g = qcount.getD g 0 := by decide +kernel
theorem qlist_c {g : Nat} (hg : g ≤ 8) : qc (qpl g) 32768 = qcount.getD g 0 := by rw [qlist_n, qdf_all g (by omega)]
theorem qlist_67 {g : Nat} (hg : g ≤ 8) : 0 < qc (qpl g) 32768 ∧ qc (qpl g) 32768 ≤ 67 := by
  rw [qlist_c hg]
  have : ∀ g, g < 9 → 0 < qcount.getD g 0 ∧ qcount.getD g 0 ≤ 67 := by decide
  exact this g (by omega)
