/-! generators; counting over a row of those that are so; loops upward -/
theorem q_up {P : Nat → Prop} {N : Nat} (step : ∀ n, n ≤ N → (n < N → P (n + 1)) → P n) : ∀ n, n ≤ N → P n := by
  have key : ∀ k n, n + k = N → P n := by
    intro k
    induction k with
    | zero => intro n h; exact step n (by omega) (fun q => by omega)
    | succ k ih => intro n h; exact step n (by omega) (fun _ => ih (n + 1) (by omega))
  intro n h
  exact key (N - n) n (by omega)
theorem qc_same {p q : Nat → Bool} (h : ∀ x, q x = true → p x = true) {y z : Nat} (e : qc p y = qc p z) : qc q y = qc q z := by
  have key : ∀ y z, y ≤ z → qc p y = qc p z → qc q y = qc q z := by
    intro y z hyz e
    refine (qc_none hyz (fun x h1 h2 => ?_)).symm
    cases hq : q x with
    | false => rfl
    | true =>
      have h3 := qc_lt h2 (h x hq)
      have h4 := qc_mono p h1
      omega
  rcases Nat.le_total y z with a | a
  · exact key y z a e
  · exact (key z y a e.symm).symm
/-- sums over those that are so -/
def qsm (p : Nat → Bool) (f : Nat → Int) : Nat → Int
  | 0 => 0
  | n + 1 => qsm p f n + (if p n then f n else 0)
theorem qsm_none {p : Nat → Bool} {f : Nat → Int} {m : Nat} : ∀ {n : Nat}, m ≤ n → (∀ x, m ≤ x → x < n → p x = false) → qsm p f n = qsm p f m
  | 0, h, _ => by have : m = 0 := by omega
                  subst this; rfl
  | n + 1, h, hp => by
    rcases Nat.lt_or_ge n m with a | a
    · have : m = n + 1 := by omega
      subst this; rfl
    · show qsm p f n + (if p n then f n else 0) = _
      rw [hp n a (by omega), qsm_none a (fun x h1 h2 => hp x h1 (by omega))]
      simp
theorem qsm_same {p : Nat → Bool} {f : Nat → Int} {y z : Nat} (e : qc p y = qc p z) : qsm p f y = qsm p f z := by
  have key : ∀ y z, y ≤ z → qc p y = qc p z → qsm p f y = qsm p f z := by
    intro y z hyz e
    refine (qsm_none hyz (fun x h1 h2 => ?_)).symm
    cases hq : p x with
    | false => rfl
    | true =>
      have h3 := qc_lt h2 hq
      have h4 := qc_mono p h1
      omega
  rcases Nat.le_total y z with a | a
  · exact key y z a e
  · exact (key z y a e.symm).symm
theorem qsm_bd {p : Nat → Bool} {f : Nat → Int} {a b : Int} : ∀ {n : Nat}, (∀ x, x < n → p x = true → a ≤ f x ∧ f x ≤ b) → a ≤ 0 → 0 ≤ b → a * n ≤ qsm p f n ∧ qsm p f n ≤ b * n
  | 0, _, _, _ => by unfold qsm; simp
  | n + 1, h, h1, h2 => by
    have ih := qsm_bd (n := n) (fun x hx hp => h x (by omega) hp) h1 h2
    show a * ((n : Int) + 1) ≤ qsm p f n + (if p n then f n else 0) ∧ qsm p f n + (if p n then f n else 0) ≤ b * ((n : Int) + 1)
    rw [Int.mul_add, Int.mul_add, Int.mul_one, Int.mul_one]
    cases hp : p n with
    | true => have := h n (by omega) hp; simp; omega
    | false => simp; omega
/-- as many as there are (i -1), or the i-th -/
def qpick (p : Nat → Bool) (n : Nat) (i : Int) : Int := if i = -1 then (qc p n : Int) else qnth p n i
/-! generators -/
theorem qv_mul {S : QZ} (hS : QV1 S) {g : Nat} (hg : S g = true) : ∀ k, S (k * g) = true
  | 0 => by rw [Nat.zero_mul]; exact hS.1
  | k + 1 => by rw [Nat.succ_mul]; exact hS.2.1 _ _ (qv_mul hS hg k) hg
/-- what is above 0 of a SET is a GENERATOR and one of the SET -/
theorem qgen_dec {S : QZ} (hS : QV1 S) : ∀ (n x : Nat), x < n → 0 < x → S x = true → ∃ g, qgen S g = true ∧ g ≤ x ∧ S (x - g) = true
  | 0, x, h, _, _ => absurd h (Nat.not_lt_zero _)
  | n + 1, x, h, h0, hx => by
    cases hg : qgen S x with
    | true => exact ⟨x, hg, Nat.le_refl _, by rw [Nat.sub_self]; exact hS.1⟩
    | false =>
      have : ¬ ∀ y, 0 < y → y < x → S y = true → S (x - y) = false := fun q => by
        rw [qgen_iff.mpr ⟨h0, hx, q⟩] at hg
        cases hg
      have : ∃ y, 0 < y ∧ y < x ∧ S y = true ∧ S (x - y) = true := by
        apply Classical.byContradiction
        intro q
        refine this (fun y h1 h2 h3 => ?_)
        cases h4 : S (x - y) with
        | false => rfl
        | true => exact absurd ⟨y, h1, h2, h3, h4⟩ q
      obtain ⟨y, h1, h2, h3, h4⟩ := this
      obtain ⟨g, g1, g2, g3⟩ := qgen_dec hS n y (by omega) h1 h3
      exact ⟨g, g1, by omega, by rw [show x - g = (y - g) + (x - y) by omega]; exact hS.2.1 _ _ g3 h4⟩
theorem qgen_in {S : QZ} {g : Nat} (h : qgen S g = true) : 0 < g ∧ S g = true := ⟨(qgen_iff.mp h).1, (qgen_iff.mp h).2.1⟩
/-- the least above 0 of the set -/
def qlst (S : QZ) : Nat → Nat
  | 0 => 0
  | n + 1 => if qlst S n = 0 then (if S (n + 1) then n + 1 else 0) else qlst S n
theorem qlst_of {S : QZ} {m : Nat} (h0 : 0 < m) (hm : S m = true) (hl : ∀ y, 0 < y → y < m → S y = false) : ∀ n, qlst S n = if m ≤ n then m else 0
  | 0 => by unfold qlst; rw [if_neg (by omega)]
  | n + 1 => by
    unfold qlst
    rw [qlst_of h0 hm hl n]
    by_cases a : m ≤ n
    · rw [if_pos a, if_neg (by omega), if_pos (by omega)]
    · rw [if_neg a, if_pos rfl]
      by_cases b : m = n + 1
      · subst b; rw [hm]; simp
      · rw [hl (n + 1) (by omega) (by omega), if_neg Bool.false_ne_true, if_neg (by omega)]
theorem qleast {S : QZ} (hS : QV1 S) : ∃ m, 0 < m ∧ m ≤ 200 ∧ S m = true ∧ (∀ y, 0 < y → y < m → S y = false) ∧ qgen S m = true := by
  obtain ⟨m, h1, h2⟩ := pk_least (fun m => 0 < m ∧ S m = true) ⟨200, by omega, hS.2.2 200 (by omega)⟩
  have h3 : ∀ y, 0 < y → y < m → S y = false := fun y a b => by
    cases h : S y with
    | false => rfl
    | true => exact absurd ⟨a, h⟩ (h2 y b)
  refine ⟨m, h1.1, ?_, h1.2, h3, qgen_iff.mpr ⟨h1.1, h1.2, fun y a b c => by rw [h3 y a b] at c; cases c⟩⟩
  rcases Nat.lt_or_ge 200 m with a | a
  · exact absurd ⟨by omega, hS.2.2 200 (by omega)⟩ (h2 200 a)
  · exact a
theorem qgen_lt {S : QZ} (hS : QV1 S) {g : Nat} (hg : qgen S g = true) : g < 400 := by
  obtain ⟨m, h1, h2, h3, -, -⟩ := qleast hS
  rcases Nat.lt_or_ge g 400 with a | a
  · exact a
  · have := (qgen_iff.mp hg).2.2 m h1 (by omega) h3
    rw [hS.2.2 (g - m) (by omega)] at this; cases this
/-- a generator is at most top and the least one together -/
theorem qgen_top {S : QZ} (hS : QV1 S) {m g : Nat} (h1 : 0 < m) (hm : S m = true) (hg : qgen S g = true) : (g : Int) ≤ qtop S + m ∨ g = m := by
  rcases Nat.lt_trichotomy g m with a | a | a
  · left
    rcases Int.lt_or_le (qtop S + m) g with b | b
    · have := qtop_bd hS; omega
    · exact b
  · exact Or.inr a
  · left
    rcases Int.lt_or_le (qtop S + m) g with b | b
    · have := (qgen_iff.mp hg).2.2 m h1 a hm
      rw [qtop_in hS (x := g - m) (by omega)] at this; cases this
    · exact b
/-- STIFF GAPS, and those of which twice is of the set, too -/
def qstf (S : QZ) : QZ := fun x => decide (0 < x) && !S x && !(qex (fun y => decide (0 < y) && S y && !S (x + y)) 400)
def qspc (S : QZ) : QZ := fun x => qstf S x && S (2 * x)
theorem qstf_iff {S : QZ} (hS : QV1 S) {x : Nat} : qstf S x = true ↔ 0 < x ∧ S x = false ∧ ∀ g, qgen S g = true → S (x + g) = true := by
  unfold qstf
  simp only [Bool.and_eq_true, decide_eq_true_eq, Bool.not_eq_true', qex_f, Bool.and_eq_false_iff, decide_eq_false_iff_not]
  constructor
  · rintro ⟨⟨h0, h1⟩, h2⟩
    refine ⟨h0, h1, fun g hg => ?_⟩
    have h3 := qgen_in hg
    rcases h2 g (qgen_lt hS hg) with (q | q) | q
    · omega
    · rw [h3.2] at q; cases q
    · simpa using q
  · rintro ⟨h0, h1, h2⟩
    refine ⟨⟨h0, h1⟩, fun y _ => ?_⟩
    rcases Nat.eq_zero_or_pos y with a | a
    · left; left; omega
    · cases hy : S y with
      | false => left; right; rfl
      | true =>
        right
        obtain ⟨g, g1, g2, g3⟩ := qgen_dec hS (y + 1) y (by omega) a hy
        have := hS.2.1 _ _ (h2 g g1) g3
        rw [show x + g + (y - g) = x + y by omega] at this
        rw [this]; rfl
