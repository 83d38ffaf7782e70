/-! sets of whole numbers as truth-valued functions; counting -/
theorem q_qe {Q : Int → QM → Prop} {v r : Int} {h : QM} (k : Q v h) (e : r = v) : Q r h := e ▸ k
def qb (b : Bool) : Int := if b then 1 else 0
theorem qb_t : qb true = 1 := rfl
theorem qb_f : qb false = 0 := rfl
theorem qb_01 (b : Bool) : qb b = 0 ∨ qb b = 1 := by cases b <;> simp [qb]
theorem qb_0 {b : Bool} : qb b = 0 ↔ b = false := by cases b <;> simp [qb]
theorem qb_n0 {b : Bool} : ¬ qb b = 0 ↔ b = true := by cases b <;> simp [qb]
theorem qb_1 {b : Bool} : qb b = 1 ↔ b = true := by cases b <;> simp [qb]
theorem qb_dec {p : Prop} [Decidable p] : qb (decide p) = if p then 1 else 0 := by unfold qb; by_cases h : p <;> simp [h]
/-- how many below n are so -/
def qc (p : Nat → Bool) : Nat → Nat
  | 0 => 0
  | n + 1 => qc p n + (if p n then 1 else 0)
theorem qc_s (p : Nat → Bool) (n : Nat) : qc p (n + 1) = qc p n + (if p n then 1 else 0) := rfl
theorem qc_t {p : Nat → Bool} {n : Nat} (h : p n = true) : qc p (n + 1) = qc p n + 1 := by rw [qc_s, h]; rfl
theorem qc_f {p : Nat → Bool} {n : Nat} (h : p n = false) : qc p (n + 1) = qc p n := by rw [qc_s, h]; rfl
theorem qc_le (p : Nat → Bool) : ∀ n, qc p n ≤ n
  | 0 => Nat.le_refl _
  | n + 1 => by have := qc_le p n; rw [qc_s]; split <;> omega
theorem qc_mono (p : Nat → Bool) {m : Nat} : ∀ {n : Nat}, m ≤ n → qc p m ≤ qc p n
  | 0, h => by have : m = 0 := by omega
               subst this; exact Nat.le_refl _
  | n + 1, h => by
    rcases Nat.lt_or_ge n m with a | a
    · have : m = n + 1 := by omega
      subst this; exact Nat.le_refl _
    · have := qc_mono p a
      rw [qc_s]; omega
theorem qc_lt {p : Nat → Bool} {m n : Nat} (h : m < n) (hm : p m = true) : qc p m < qc p n := by
  have := qc_mono p (show m + 1 ≤ n by omega)
  rw [qc_t hm] at this
  omega
theorem qc_cong {p q : Nat → Bool} : ∀ {n : Nat}, (∀ x, x < n → p x = q x) → qc p n = qc q n
  | 0, _ => rfl
  | n + 1, h => by rw [qc_s, qc_s, qc_cong (fun x hx => h x (by omega)), h n (by omega)]
theorem qc_kth {p : Nat → Bool} {k : Nat} : ∀ {n : Nat}, k < qc p n → ∃ x, x < n ∧ p x = true ∧ qc p x = k
  | 0, h => absurd h (Nat.not_lt_zero _)
  | n + 1, h => by
    rcases Nat.lt_or_ge k (qc p n) with a | a
    · obtain ⟨x, h1, h2, h3⟩ := qc_kth a
      exact ⟨x, by omega, h2, h3⟩
    · rw [qc_s] at h
      cases hp : p n with
      | true => rw [hp] at h; exact ⟨n, by omega, hp, by simp at h; omega⟩
      | false => rw [hp] at h; simp at h; omega
theorem qc_one {p : Nat → Bool} {x y : Nat} (hx : p x = true) (hy : p y = true) (e : qc p x = qc p y) : x = y := by
  rcases Nat.lt_trichotomy x y with a | a | a
  · have := qc_lt a hx; omega
  · exact a
  · have := qc_lt a hy; omega
theorem qc_none {p : Nat → Bool} {m : Nat} : ∀ {n : Nat}, m ≤ n → (∀ x, m ≤ x → x < n → p x = false) → qc p n = qc p m
  | 0, h, _ => by have : m = 0 := by omega
                  subst this; rfl
  | n + 1, h, hp => by
    rcases Nat.lt_or_ge n m with a | a
    · have : m = n + 1 := by omega
      subst this; rfl
    · rw [qc_f (hp n a (by omega)), qc_none a (fun x h1 h2 => hp x h1 (by omega))]
/-- the i-th below n that is so; -1: there is none -/
def qnth (p : Nat → Bool) : Nat → Int → Int
  | 0, _ => -1
  | n + 1, i => if p n = true ∧ (qc p n : Int) = i then n else qnth p n i
theorem qnth_at {p : Nat → Bool} {x : Nat} (hx : p x = true) : ∀ {n : Nat}, x < n → qnth p n (qc p x) = x
  | 0, h => absurd h (Nat.not_lt_zero _)
  | n + 1, h => by
    unfold qnth
    by_cases e : p n = true ∧ (qc p n : Int) = (qc p x : Int)
    · rw [if_pos e, qc_one e.1 hx (by omega)]
    · rw [if_neg e]
      have hne : n ≠ x := fun q => e ⟨by rw [q]; exact hx, by rw [q]⟩
      exact qnth_at hx (by omega)
theorem qnth_no {p : Nat → Bool} : ∀ {n : Nat} {i : Int}, (i < 0 ∨ (qc p n : Int) ≤ i) → qnth p n i = -1
  | 0, _, _ => rfl
  | n + 1, i, h => by
    unfold qnth
    have h1 := qc_mono p (show n ≤ n + 1 by omega)
    rw [if_neg, qnth_no (by rcases h with h | h; exact Or.inl h; exact Or.inr (by omega))]
    rintro ⟨e1, e2⟩
    rw [qc_t e1] at h
    rcases h with h | h <;> omega
theorem qnth_bd {p : Nat → Bool} : ∀ {n : Nat} {i : Int}, -1 ≤ qnth p n i ∧ qnth p n i < n
  | 0, _ => by unfold qnth; omega
  | n + 1, i => by
    have := qnth_bd (p := p) (n := n) (i := i)
    unfold qnth
    split <;> omega
theorem qnth_cong {p q : Nat → Bool} : ∀ {n : Nat} {i : Int}, (∀ x, x < n → p x = q x) → qnth p n i = qnth q n i
  | 0, _, _ => rfl
  | n + 1, i, h => by
    unfold qnth
    rw [qnth_cong (fun x hx => h x (by omega)), h n (by omega), qc_cong (fun x hx => h x (by omega))]
theorem qnth_ext {p : Nat → Bool} {m : Nat} {i : Int} : ∀ {n : Nat}, m ≤ n → (∀ x, m ≤ x → x < n → p x = false) → qnth p n i = qnth p m i
  | 0, h, _ => by have : m = 0 := by omega
                  subst this; rfl
  | n + 1, h, hp => by
    rcases Nat.lt_or_ge n m with a | a
    · have : m = n + 1 := by omega
      subst this; rfl
    · show (if p n = true ∧ (qc p n : Int) = i then (n : Int) else qnth p n i) = _
      rw [if_neg (fun q => by rw [hp n a (by omega)] at q; exact absurd q.1 (by decide)), qnth_ext a (fun x h1 h2 => hp x h1 (by omega))]
/-- the greatest below n that is so, or -1 -/
def qmx (p : Nat → Bool) : Nat → Int
  | 0 => -1
  | n + 1 => if p n then n else qmx p n
theorem qmx_bd (p : Nat → Bool) : ∀ n, -1 ≤ qmx p n ∧ qmx p n < n
  | 0 => by unfold qmx; omega
  | n + 1 => by have := qmx_bd p n; unfold qmx; split <;> omega
theorem qmx_no {p : Nat → Bool} : ∀ {n x : Nat}, x < n → qmx p n < x → p x = false
  | 0, _, h, _ => absurd h (Nat.not_lt_zero _)
  | n + 1, x, h, h2 => by
    unfold qmx at h2
    cases hp : p n with
    | true => rw [hp] at h2; simp at h2; omega
    | false =>
      rw [hp] at h2
      by_cases e : x = n
      · rw [e]; exact hp
      · exact qmx_no (n := n) (by omega) (by simpa using h2)
theorem qmx_yes {p : Nat → Bool} : ∀ {n : Nat}, 0 ≤ qmx p n → p (qmx p n).toNat = true
  | 0, h => by unfold qmx at h; omega
  | n + 1, h => by
    unfold qmx at h ⊢
    cases hp : p n with
    | true => simpa using hp
    | false => rw [hp] at h; simpa using qmx_yes (n := n) (by simpa using h)
theorem qmx_of {p : Nat → Bool} {n x : Nat} (hx : x < n) (hp : p x = true) (hn : ∀ y, x < y → y < n → p y = false) : qmx p n = x := by
  have h1 := qmx_bd p n
  rcases Int.lt_or_le (qmx p n) x with a | a
  · rw [qmx_no hx a] at hp; cases hp
  · have h2 := qmx_yes (p := p) (n := n) (by omega)
    rcases Int.lt_or_le x (qmx p n) with b | b
    · rw [hn _ (by omega) (by omega)] at h2; cases h2
    · omega
theorem qmx_none {p : Nat → Bool} {n : Nat} (h : ∀ y, y < n → p y = false) : qmx p n = -1 := by
  have h1 := qmx_bd p n
  rcases Int.lt_or_le (qmx p n) 0 with a | a
  · omega
  · have h2 := qmx_yes a
    rw [h _ (by omega)] at h2; cases h2
/-- some below n is so -/
def qex (p : Nat → Bool) : Nat → Bool
  | 0 => false
  | n + 1 => qex p n || p n
theorem qex_iff {p : Nat → Bool} : ∀ {n : Nat}, qex p n = true ↔ ∃ x, x < n ∧ p x = true
  | 0 => ⟨fun h => absurd (show (false : Bool) = true from h) (by decide), fun ⟨x, h, _⟩ => absurd h (Nat.not_lt_zero _)⟩
  | n + 1 => by
    unfold qex
    rw [Bool.or_eq_true, qex_iff]
    constructor
    · rintro (⟨x, h1, h2⟩ | h)
      · exact ⟨x, by omega, h2⟩
      · exact ⟨n, by omega, h⟩
    · rintro ⟨x, h1, h2⟩
      by_cases e : x = n
      · right; rw [← e]; exact h2
      · left; exact ⟨x, by omega, h2⟩
theorem qex_f {p : Nat → Bool} {n : Nat} : qex p n = false ↔ ∀ x, x < n → p x = false := by
  constructor
  · intro h x hx
    cases hp : p x with
    | false => rfl
    | true => rw [qex_iff.mpr ⟨x, hx, hp⟩] at h; cases h
  · intro h
    cases he : qex p n with
    | false => rfl
    | true => obtain ⟨x, h1, h2⟩ := qex_iff.mp he; rw [h x h1] at h2; cases h2
abbrev qhL (g : QG) : Prop := (g.2.2.2.2.1 : Int) ≤ 100000
/-! ## sets -/
abbrev QZ : Type := Nat → Bool
/-- of whole numbers below 0 none is of it -/
def qin (S : QZ) (x : Int) : Bool := decide (0 ≤ x) && S x.toNat
theorem qin_nat (S : QZ) (n : Nat) : qin S (n : Int) = S n := by simp [qin]
theorem qin_neg {S : QZ} {x : Int} (h : x < 0) : qin S x = false := by unfold qin; rw [decide_eq_false (by omega)]; rfl
theorem qin_pos {S : QZ} {x : Int} (h : 0 ≤ x) : qin S x = S x.toNat := by simp [qin, h]
def qgap (S : QZ) : QZ := fun x => !S x
/-- it is not the sum of two above 0 of the set -/
def qgen (S : QZ) : QZ := fun x => decide (0 < x) && S x && !(qex (fun y => decide (0 < y) && S y && S (x - y)) x)
theorem qgen_iff {S : QZ} {x : Nat} : qgen S x = true ↔ 0 < x ∧ S x = true ∧ ∀ y, 0 < y → y < x → S y = true → S (x - y) = false := by
  unfold qgen
  simp only [Bool.and_eq_true, decide_eq_true_eq, Bool.not_eq_true', qex_f, Bool.and_eq_false_iff, decide_eq_false_iff_not]
  constructor
  · rintro ⟨⟨h1, h2⟩, h3⟩
    refine ⟨h1, h2, fun y a b c => ?_⟩
    rcases h3 y b with (q | q) | q
    · omega
    · rw [c] at q; cases q
    · exact q
  · rintro ⟨h1, h2, h3⟩
    refine ⟨⟨h1, h2⟩, fun y b => ?_⟩
    rcases Nat.eq_zero_or_pos y with a | a
    · left; left; omega
    · cases c : S y with
      | false => left; right; rfl
      | true => right; exact h3 y a b c
/-- a SET of the document: 0, sums, all from 200 on; 24 generators at most -/
def QV1 (S : QZ) : Prop := S 0 = true ∧ (∀ a b, S a = true → S b = true → S (a + b) = true) ∧ (∀ x, 200 ≤ x → S x = true)
def QV2 (S : QZ) : Prop := QV1 S ∧ qc (qgen S) 400 ≤ 24
/-- how many gaps; the greatest; how many generators; the least -/
def qgn (S : QZ) : Nat := qc (qgap S) 400
def qtop (S : QZ) : Int := qmx (qgap S) 400
def qgc (S : QZ) : Nat := qc (qgen S) 400
theorem qgap_hi {S : QZ} (hS : QV1 S) {x : Nat} (h : 200 ≤ x) : qgap S x = false := by unfold qgap; rw [hS.2.2 x h]; rfl
theorem qtop_bd {S : QZ} (hS : QV1 S) : -1 ≤ qtop S ∧ qtop S < 200 := by
  have h1 := qmx_bd (qgap S) 400
  refine ⟨h1.1, ?_⟩
  unfold qtop
  rcases Int.lt_or_le (qmx (qgap S) 400) 200 with a | a
  · exact a
  · have h2 := qmx_yes (p := qgap S) (n := 400) (by omega)
    rw [qgap_hi hS (by omega)] at h2; cases h2
theorem qtop_in {S : QZ} (hS : QV1 S) {x : Nat} (h : qtop S < x) : S x = true := by
  rcases Nat.lt_or_ge x 400 with a | a
  · have := qmx_no (p := qgap S) a h
    unfold qgap at this
    simpa using this
  · exact hS.2.2 x (by omega)
theorem qtop_not {S : QZ} (h : 0 ≤ qtop S) : S (qtop S).toNat = false := by
  have := qmx_yes (p := qgap S) (n := 400) h
  have h2 : (!S (qtop S).toNat) = true := this
  simpa using h2
theorem qgn_le {S : QZ} (hS : QV1 S) : qgn S ≤ 200 := by
  unfold qgn
  rw [qc_none (m := 200) (by omega) (fun x h _ => qgap_hi hS h)]
  exact qc_le _ _
