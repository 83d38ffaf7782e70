/-! WAYS: how many, which -/
/-- counting by an injection -/
theorem qc_inj {p q : Nat → Bool} {f : Nat → Nat} : ∀ {N : Nat} {M : Nat}, (∀ x, x < N → p x = true → f x < M ∧ q (f x) = true) → (∀ x y, x < N → y < N → p x = true → p y = true → f x = f y → x = y) → qc p N ≤ qc q M
  | 0, _, _, _ => Nat.zero_le _
  | N + 1, M, h1, h2 => by
    cases hp : p N with
    | false =>
      rw [qc_f hp]
      exact qc_inj (fun x hx => h1 x (by omega)) (fun x y hx hy => h2 x y (by omega) (by omega))
    | true =>
      rw [qc_t hp]
      obtain ⟨a1, a2⟩ := h1 N (by omega) hp
      have ih := qc_inj (p := p) (q := fun z => q z && !(z == f N)) (f := f) (N := N) (M := M) (fun x hx hpx => ⟨(h1 x (by omega) hpx).1, by
        rw [(h1 x (by omega) hpx).2, Bool.true_and]
        have : f x ≠ f N := fun e => by have := h2 x N (by omega) (by omega) hpx hp e; omega
        simpa using this⟩) (fun x y hx hy => h2 x y (by omega) (by omega))
      have key : ∀ n, f N < n → qc q n = qc (fun z => q z && !(z == f N)) n + 1 := by
        intro n hn
        induction n with
        | zero => omega
        | succ n ih =>
          rw [qc_s, qc_s]
          by_cases e : n = f N
          · have : qc q n = qc (fun z => q z && !(z == f N)) n := qc_cong (fun z hz => by
              have : z ≠ f N := by omega
              simp [this])
            rw [this, e]
            simp [a2]
          · rw [ih (by omega)]
            simp [e]
            omega
      rw [key M a1]
      omega
theorem qc_all : ∀ n, qc (fun _ => true) n = n
  | 0 => rfl
  | n + 1 => by rw [qc_t rfl, qc_all n]
/-- there are not more GENERATORS than the least one tells -/
theorem qgc_le {S : QZ} (V : QV1 S) : qgc S ≤ qms S := by
  obtain ⟨m1, m2, m3, m4, m5⟩ := qms_ok V
  have := qc_inj (p := qgen S) (q := fun _ => true) (f := fun x => x % qms S) (N := 400) (M := qms S) (fun x _ _ => ⟨Nat.mod_lt _ m1, rfl⟩) (fun x y _ _ hx hy e => ?_)
  · rw [qc_all] at this
    exact this
  · have key : ∀ x y, x < y → qgen S x = true → qgen S y = true → x % qms S = y % qms S → False := by
      intro x y hxy hx hy e
      have hd : ∃ k, y = x + qms S * (k + 1) := by
        have h1 := Nat.div_add_mod x (qms S)
        have h2 := Nat.div_add_mod y (qms S)
        have h3 : x / qms S < y / qms S := by
          rcases Nat.lt_or_ge (x / qms S) (y / qms S) with q | q
          · exact q
          · have := Nat.mul_le_mul_left (qms S) q; omega
        refine ⟨y / qms S - x / qms S - 1, ?_⟩
        rw [show y / qms S - x / qms S - 1 + 1 = y / qms S - x / qms S by omega, Nat.mul_sub]
        have := Nat.mul_le_mul_left (qms S) (Nat.le_of_lt h3)
        omega
      obtain ⟨k, hk⟩ := hd
      have hmk : ∀ k, S (qms S * k) = true := fun k => by rw [Nat.mul_comm]; exact qv_mul V m3 k
      have h0 := (qgen_in hx).1
      have := (qgen_iff.mp hy).2.2 x h0 hxy (qgen_in hx).2
      rw [show y - x = qms S * (k + 1) by omega, hmk] at this
      cases this
    rcases Nat.lt_trichotomy x y with q | q | q
    · exact absurd e (fun e => key x y q hx hy e)
    · exact q
    · exact absurd e (fun e => key y x q hy hx e.symm)
/-- with one more GENERATOR -/
def qWr (g : Nat) (f : Nat → Nat) : Nat → Nat → Nat
  | 0, y => f y
  | n + 1, y => f y + (if g ≤ y then qWr g f n (y - g) else 0)
theorem qWr_s (g : Nat) (f : Nat → Nat) (n y : Nat) : qWr g f (n + 1) y = f y + (if g ≤ y then qWr g f n (y - g) else 0) := rfl
theorem qWr_1 {g : Nat} (hg : 1 ≤ g) (f : Nat → Nat) : ∀ n y, y ≤ n → qWr g f (n + 1) y = qWr g f n y
  | 0, y, h => by
    rw [qWr_s, if_neg (by omega), Nat.add_zero]; rfl
  | n + 1, y, h => by
    rw [qWr_s g f (n + 1) y, qWr_s g f n y]
    by_cases e : g ≤ y
    · rw [if_pos e, if_pos e, qWr_1 hg f n (y - g) (by omega)]
    · rw [if_neg e, if_neg e]
theorem qWr_eq {g : Nat} (hg : 1 ≤ g) (f : Nat → Nat) {n y : Nat} (h : y ≤ n) : qWr g f n y = qWr g f y y := by
  obtain ⟨k, rfl⟩ : ∃ k, n = y + k := ⟨n - y, by omega⟩
  clear h
  induction k with
  | zero => rfl
  | succ k ih => rw [← Nat.add_assoc, qWr_1 hg f _ _ (by omega), ih]
/-- in how many WAYS the GENERATORS from the k-th on make y; j of them -/
def qW (gk : Nat → Nat) (c : Nat) : Nat → Nat → Nat
  | 0, y => if y = 0 then 1 else 0
  | j + 1, y => qWr (gk (c - (j + 1))) (qW gk c j) y y
def qWk (gk : Nat → Nat) (c k y : Nat) : Nat := qW gk c (c - k) y
theorem qWk_c (gk : Nat → Nat) (c y : Nat) : qWk gk c c y = if y = 0 then 1 else 0 := by unfold qWk; rw [Nat.sub_self]; rfl
theorem qWk_s {gk : Nat → Nat} {c k : Nat} (hk : k < c) (hg : 1 ≤ gk k) (y : Nat) : qWk gk c k y = qWk gk c (k + 1) y + (if gk k ≤ y then qWk gk c k (y - gk k) else 0) := by
  have e : c - k = (c - (k + 1)) + 1 := by omega
  have e2 : c - ((c - (k + 1)) + 1) = k := by omega
  unfold qWk
  rw [e]
  show qWr (gk (c - ((c - (k + 1)) + 1))) (qW gk c (c - (k + 1))) y y = _ + (if gk k ≤ y then qWr (gk (c - ((c - (k + 1)) + 1))) (qW gk c (c - (k + 1))) (y - gk k) (y - gk k) else 0)
  rw [e2, ← qWr_1 hg _ y y (Nat.le_refl _), qWr_s]
  by_cases q : gk k ≤ y
  · rw [if_pos q, if_pos q, qWr_eq hg _ (show y - gk k ≤ y by omega)]
  · rw [if_neg q, if_neg q]
/-- an upper bound -/
def qBr (f : Nat → Nat) : Nat → Nat
  | 0 => f 0
  | N + 1 => f (N + 1) + qBr f N
def qB : Nat → Nat → Nat
  | 0, _ => 1
  | j + 1, N => qBr (qB j) N
theorem qB_mono : ∀ j N, qB j N ≤ qB j (N + 1)
  | 0, _ => Nat.le_refl _
  | j + 1, N => by show _ ≤ qB j (N + 1) + qB (j + 1) N; omega
theorem qB_monoN {j N : Nat} : ∀ {N'}, N ≤ N' → qB j N ≤ qB j N'
  | 0, h => by have : N = 0 := by omega
               subst this; exact Nat.le_refl _
  | N' + 1, h => by
    by_cases e : N = N' + 1
    · rw [e]; exact Nat.le_refl _
    · exact Nat.le_trans (qB_monoN (N' := N') (by omega)) (qB_mono j N')
theorem qB_2 : ∀ j N, qB j N ≤ 2 ^ (j + N)
  | 0, N => Nat.one_le_two_pow
  | j + 1, 0 => by
    have := qB_2 j 0
    show qB j 0 ≤ _
    rw [Nat.add_zero] at *
    have := Nat.pow_succ (n := 2) (m := j)
    omega
  | j + 1, N + 1 => by
    have h1 := qB_2 j (N + 1)
    have h2 := qB_2 (j + 1) N
    show qB j (N + 1) + qB (j + 1) N ≤ _
    rw [show j + 1 + (N + 1) = (j + N + 1) + 1 by omega, Nat.pow_succ]
    rw [show j + (N + 1) = j + N + 1 by omega] at h1
    rw [show j + 1 + N = j + N + 1 by omega] at h2
    omega
theorem qB_p : ∀ j N, qB j N ≤ (N + 1) ^ j
  | 0, N => by unfold qB; simp
  | j + 1, 0 => by
    have := qB_p j 0
    show qB j 0 ≤ _
    simpa using this
  | j + 1, N + 1 => by
    have h1 := qB_p j (N + 1)
    have h2 := qB_p (j + 1) N
    show qB j (N + 1) + qB (j + 1) N ≤ _
    have h3 : (N + 1) ^ j ≤ (N + 1 + 1) ^ j := Nat.pow_le_pow_left (by omega) j
    rw [Nat.pow_succ] at h2 ⊢
    have h4 := Nat.mul_le_mul_right (N + 1) h3
    rw [Nat.mul_add (m := N + 1), Nat.mul_one]
    omega
theorem qW_B {gk : Nat → Nat} {c m : Nat} (hm : 1 ≤ m) (hg : ∀ k, k < c → m ≤ gk k) : ∀ j, j ≤ c → ∀ b y, y < b → qW gk c j y ≤ qB j (y / m)
  | 0, _, b, y, _ => by show (if y = 0 then 1 else 0) ≤ 1; split <;> omega
  | j + 1, hj, 0, y, h => absurd h (Nat.not_lt_zero _)
  | j + 1, hj, b + 1, y, h => by
    have h1 := hg (c - (j + 1)) (by omega)
    have e := qWk_s (gk := gk) (c := c) (k := c - (j + 1)) (by omega) (by omega) y
    unfold qWk at e
    rw [show c - (c - (j + 1)) = j + 1 by omega, show c - (c - (j + 1) + 1) = j by omega] at e
    rw [e]
    have h2 := qW_B hm hg j (by omega) (y + 1) y (by omega)
    by_cases q : gk (c - (j + 1)) ≤ y
    · rw [if_pos q]
      have h3 := qW_B hm hg (j + 1) hj b (y - gk (c - (j + 1))) (by omega)
      have h4 : 1 ≤ y / m := (Nat.le_div_iff_mul_le (by omega)).mpr (by omega)
      have h5 : (y - gk (c - (j + 1))) / m ≤ y / m - 1 := by
        have a1 : (y - gk (c - (j + 1)) + m) / m ≤ y / m := Nat.div_le_div_right (by omega)
        rw [Nat.add_div_right _ (by omega)] at a1
        omega
      have h6 := qB_monoN (j := j + 1) h5
      obtain ⟨z, hz⟩ : ∃ z, y / m = z + 1 := ⟨y / m - 1, by omega⟩
      rw [hz] at h2 h6 ⊢
      show _ ≤ qB j (z + 1) + qB (j + 1) z
      rw [show z + 1 - 1 = z by omega] at h6
      omega
    · rw [if_neg q]
      have : qB j (y / m) ≤ qB (j + 1) (y / m) := by
        cases y / m with
        | zero => exact Nat.le_refl _
        | succ z => show _ ≤ qB j (z + 1) + qB (j + 1) z; omega
      omega
theorem qB_j {N : Nat} : ∀ {j j'}, j ≤ j' → qB j N ≤ qB j' N := by
  have one : ∀ j, qB j N ≤ qB (j + 1) N := fun j => by
    cases N with
    | zero => exact Nat.le_refl _
    | succ z => show _ ≤ qB j (z + 1) + qB (j + 1) z; omega
  intro j j' h
  induction j' with
  | zero => have : j = 0 := by omega
            subst this; exact Nat.le_refl _
  | succ j' ih =>
    by_cases e : j = j' + 1
    · rw [e]; exact Nat.le_refl _
    · exact Nat.le_trans (ih (by omega)) (one j')
/-- no number of WAYS is too great -/
theorem qW_bd {S : QZ} (V : QV2 S) {k y : Nat} (hy : y ≤ 150) : qWk (qgk S) (qgc S) k y < 1100000000 := by
  obtain ⟨m1, m2, m3, m4, m5⟩ := qms_ok V.1
  have hc := qgc_le V.1
  have h24 : qgc S ≤ 24 := V.2
  have hg : ∀ k, k < qgc S → qms S ≤ qgk S k := fun k hk => by
    have := qgen_in (qgk_ok hk).1
    rcases Nat.lt_or_ge (qgk S k) (qms S) with q | q
    · have := m4 _ this.1 q
      rw [(qgen_in (qgk_ok hk).1).2] at this; cases this
    · exact q
  have h1 := qW_B (gk := qgk S) (c := qgc S) m1 hg (qgc S - k) (by omega) (y + 1) y (by omega)
  have h2 : y / qms S ≤ 150 / qms S := Nat.div_le_div_right hy
  have h3 := qB_monoN (j := qgc S - k) h2
  have h4 := qB_j (N := 150 / qms S) (show qgc S - k ≤ min 24 (qms S) by omega)
  have key : qB (min 24 (qms S)) (150 / qms S) < 1100000000 := by
    generalize qms S = m at *
    by_cases e : m ≤ 6
    · have a := qB_p (min 24 m) (150 / m)
      have b : (150 / m + 1) ^ (min 24 m) < 1100000000 := by
        have : m = 1 ∨ m = 2 ∨ m = 3 ∨ m = 4 ∨ m = 5 ∨ m = 6 := by omega
        rcases this with r | r | r | r | r | r <;> subst r <;> decide
      omega
    · have a := qB_2 (min 24 m) (150 / m)
      have c : min 24 m + 150 / m ≤ 30 := by
        by_cases e2 : m ≤ 24
        · have : m = 7 ∨ m = 8 ∨ m = 9 ∨ m = 10 ∨ m = 11 ∨ m = 12 ∨ m = 13 ∨ m = 14 ∨ m = 15 ∨ m = 16 ∨ m = 17 ∨ m = 18 ∨ m = 19 ∨ m = 20 ∨ m = 21 ∨ m = 22 ∨ m = 23 ∨ m = 24 := by omega
          rcases this with r | r | r | r | r | r | r | r | r | r | r | r | r | r | r | r | r | r <;> subst r <;> decide
        · have : 150 / m ≤ 150 / 25 := Nat.div_le_div_left (by omega) (by omega)
          have : 150 / 25 = 6 := by decide
          omega
      have := Nat.pow_le_pow_right (show 0 < 2 by omega) c
      have : 2 ^ 30 = 1073741824 := by decide
      omega
  unfold qWk
  omega
