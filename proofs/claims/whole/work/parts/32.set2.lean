/-! StepSet: weight, picks, rests, children, what two have in common -/
theorem q_dn {P : Nat → Prop} {N : Nat} (fin : P N) (step : ∀ y, y < N → P (y + 1) → P y) : P 0 := by
  have key : ∀ k, k ≤ N → P (N - k) := by
    intro k
    induction k with
    | zero => intro _; exact fin
    | succ k ih =>
      intro hk
      refine step _ (by omega) ?_
      have := ih (by omega)
      rwa [show N - (k + 1) + 1 = N - k by omega]
  have := key N (Nat.le_refl _)
  rwa [Nat.sub_self] at this
theorem qsm_t {p : Nat → Bool} {f : Nat → Int} {n : Nat} (h : p n = true) : qsm p f (n + 1) = qsm p f n + f n := by
  show qsm p f n + (if p n then f n else 0) = _
  rw [h]; rfl
theorem qsm_f {p : Nat → Bool} {f : Nat → Int} {n : Nat} (h : p n = false) : qsm p f (n + 1) = qsm p f n := by
  show qsm p f n + (if p n then f n else 0) = _
  rw [h]; simp
theorem qpick_no {p : Nat → Bool} {n : Nat} {i : Int} (h : i ≠ -1) (h2 : i < 0 ∨ (qc p n : Int) ≤ i) : qpick p n i = -1 := by
  unfold qpick; rw [if_neg h, qnth_no h2]
theorem qpick_at {p : Nat → Bool} {n x : Nat} {i : Int} (hx : p x = true) (hn : x < n) (e : (qc p x : Int) = i) : qpick p n i = x := by
  unfold qpick; rw [if_neg (by omega), ← e, qnth_at hx hn]
theorem qpick_all {p : Nat → Bool} {n : Nat} : qpick p n (-1) = qc p n := rfl
def qwf (S : QZ) (x : Nat) : Int := (x : Int) - ((qc (qgap S) x : Int) + 1)
def qwt (S : QZ) : Int := qsm (qgap S) (qwf S) 400
theorem qwf_bd {S : QZ} (V : QV1 S) {x : Nat} (h : qgap S x = true) (hx : x < 400) : 0 ≤ qwf S x ∧ qwf S x ≤ 400 := by
  have h1 : S x = false := by unfold qgap at h; simpa using h
  have h2 : x ≠ 0 := fun q => by rw [q, V.1] at h1; cases h1
  obtain ⟨y, rfl⟩ : ∃ y, x = y + 1 := ⟨x - 1, by omega⟩
  have h3 : qc (qgap S) (y + 1) ≤ y := by
    have e : ∀ n, qc (qgap S) (n + 1) ≤ n := by
      intro n
      induction n with
      | zero => rw [qc_f (by unfold qgap; rw [V.1]; rfl)]; exact Nat.le_refl _
      | succ n ih => have := qc_s (qgap S) (n + 1); split at this <;> omega
    exact e y
  unfold qwf
  omega
theorem qgap_f {S : QZ} {x : Nat} : qgap S x = true ↔ S x = false := by unfold qgap; simp
theorem qgap_t {S : QZ} {x : Nat} : qgap S x = false ↔ S x = true := by unfold qgap; simp
section QSet2
variable {l : Launch} {g : QG} {d : Nat} {h : QM} {i : Int} {S : QZ} {Q : Int → QM → Prop}
theorem qgn_lt {y : Nat} (hy : y < 400) (hg : qgap S y = true) : qc (qgap S) y < qgn S := qc_lt hy hg
theorem s_weight (hL : qhL g) (V : QV1 S) (A : qat h i S) (k : Q (qwt S) h) : q_tr l g (d + 1) n_X8_weight [qr 8 i] h Q := by
  refine i_X8_weight hL (fun G hG _ _ => b_X8_weight_0 hG ?_)
  have hgn := qgn_le V
  refine q_dn (P := fun y => G 4 [some (qr 8 i), some (qi (qsm (qgap S) (qwf S) y)), some (qi (qc (qgap S) y : Nat))] [] h) (N := 400) (b_X8_weight_4 hG ?_) (fun y hy ih => ?_)
  · rw [A.2.2.1]
    exact ⟨fun _ => k, fun q => absurd (Int.le_refl _) q⟩
  · cases hg : qgap S y with
    | false => rw [qsm_f hg, qc_f hg] at ih; exact ih
    | true =>
      rw [qsm_t hg, qc_t hg] at ih
      have h1 := qgn_lt hy hg
      have h2 := qwf_bd V hg hy
      have h3 := qsm_bd (p := qgap S) (f := qwf S) (a := 0) (b := 400) (n := y) (fun x hx hp => qwf_bd V hp (by omega)) (by omega) (by omega)
      refine b_X8_weight_4 hG ?_
      rw [A.2.2.1, A.2.2.2.1 y hy (qgap_f.mp hg)]
      unfold qwf at ih h2
      exact ⟨fun q => by omega, fun _ => ⟨by omega, by omega, by omega, by omega, by omega, ih⟩⟩
theorem s_stiffAt {j : Int} {b : Bool} (hL : qhL g) (V : QV2 S) (A : qat h i S) (k : Q (qpick (if b then qspc S else qstf S) 400 j) h) : q_tr l g (d + 3) n_X8_stiffAt [qr 8 i, qi j, qi (qb b)] h Q := by
  refine i_X8_stiffAt hL (fun G hG _ _ => b_X8_stiffAt_0 hG ?_)
  have hgn := qgn_le V.1
  have hcl := qc_le
  generalize hp : (if b then qspc S else qstf S) = p at k
  have hpg : ∀ y, p y = true → S y = false ∧ qstf S y = true := by
    intro y hy
    have : qstf S y = true := by
      rw [← hp] at hy
      cases b with
      | false => exact hy
      | true => unfold qspc at hy; simp at hy; exact hy.1
    exact ⟨((qstf_iff V.1).mp this).2.1, this⟩
  refine q_dn (P := fun y => (j < 0 ∨ (qc p y : Int) ≤ j) → G 5 [some (qr 8 i), some (qi j), some (qi (qb b)), some (qi (qc p y : Nat)), some (qi (qc (qgap S) y : Nat)), none] [] h) (N := 400) (fun hj => b_X8_stiffAt_5 hG ?_) (fun y hy ih hj => ?_) (by unfold qc; omega)
  · rw [A.2.2.1]
    refine ⟨fun _ => ⟨fun q => q_qe k ?_, fun q => q_qe k ?_⟩, fun q => absurd (Int.le_refl _) q⟩
    · rw [qpick_no q hj]
    · rw [q]; rfl
  · cases hg : qgap S y with
    | false =>
      have hpy : p y = false := by
        cases hpy : p y with
        | false => rfl
        | true => exact absurd (hpg y hpy).1 (by rw [qgap_t.mp hg]; decide)
      rw [qc_f hpy, qc_f hg] at ih
      exact ih hj
    | true =>
      have h1 := qgn_lt hy hg
      have h2 := hcl p y
      have h3 := hcl (qgap S) y
      rw [qc_t hg] at ih
      refine b_X8_stiffAt_5 hG ?_
      have hSy := qgap_f.mp hg
      rw [A.2.2.1, A.2.2.2.1 y hy hSy]
      have fin : p y = true → (((¬ (qc p y : Int) = j) → (-2147483648 ≤ (qc p y : Int) + 1 ∧ (qc p y : Int) + 1 ≤ 2147483647) ∧ (-2147483648 ≤ (qc (qgap S) y : Int) + 1 ∧ (qc (qgap S) y : Int) + 1 ≤ 2147483647) ∧ G 5 [some (qr 8 i), some (qi j), some (qi (qb b)), some (qi ((qc p y : Int) + 1)), some (qi ((qc (qgap S) y : Int) + 1)), none] [] h) ∧ ((qc p y : Int) = j → Q y h)) := fun hpy => by
        rw [qc_t hpy] at ih
        exact ⟨fun q => ⟨by omega, by omega, ih (by omega)⟩, fun q => q_qe k (by rw [qpick_at hpy hy q])⟩
      have skip : p y = false → (-2147483648 ≤ (qc (qgap S) y : Int) + 1 ∧ (qc (qgap S) y : Int) + 1 ≤ 2147483647) ∧ G 5 [some (qr 8 i), some (qi j), some (qi (qb b)), some (qi (qc p y : Int)), some (qi ((qc (qgap S) y : Int) + 1)), none] [] h := fun hpy => by
        rw [qc_f hpy] at ih
        exact ⟨by omega, ih hj⟩
      refine ⟨fun q => by omega, fun _ => ⟨by omega, s_isStiff hL V A ?_⟩⟩
      rw [qin_nat]
      refine ⟨fun q => skip ?_, fun q => ⟨fun q2 => fin ?_, fun q2 => ⟨by omega, s_holds hL V.1 A ?_⟩⟩⟩
      · cases hpy : p y with
        | false => rfl
        | true => rw [(hpg y hpy).2] at q; exact absurd q (by decide)
      · rw [← hp, qb_0.mp q2]; exact qb_n0.mp q
      · rw [show (2 : Int) * (y : Int) = ((2 * y : Nat) : Int) by omega, qin_nat]
        have e : p y = S (2 * y) := by
          rw [← hp, qb_n0.mp q2]
          show (qstf S y && S (2 * y)) = _
          rw [qb_n0.mp q]; rfl
        exact ⟨fun q3 => skip (by rw [e]; exact qb_0.mp q3), fun q3 => fin (by rw [e]; exact qb_n0.mp q3)⟩
/-- the least that leaves a rest: from x on by steps of n -/
def qap (S : QZ) (n : Nat) : Nat → Nat → Nat
  | 0, x => x
  | f + 1, x => if S x then x else qap S n f (x + n)
theorem qap_s {S : QZ} {n f x : Nat} (h : S x = true) : qap S n f x = x := by
  cases f with
  | zero => rfl
  | succ f => unfold qap; rw [h]; rfl
theorem qap_n {S : QZ} {n f x : Nat} (h : S x = false) : qap S n (f + 1) x = qap S n f (x + n) := by
  rw [qap, h]; simp
theorem qap_more {S : QZ} (V : QV1 S) {n : Nat} (hn : 0 < n) : ∀ f x, 200 ≤ x + f → qap S n (f + 1) x = qap S n f x
  | 0, x, h => by rw [qap_s (V.2.2 x (by omega)), qap_s (V.2.2 x (by omega))]
  | f + 1, x, h => by
    cases hx : S x with
    | true => rw [qap_s hx, qap_s hx]
    | false => rw [qap_n hx, qap_n hx, qap_more V hn f (x + n) (by omega)]
theorem s_rest {n r : Nat} (hL : qhL g) (V : QV1 S) (A : qat h i S) (hn : 0 < n ∧ n ≤ 400) (hr : r ≤ 400) (k : Q (qap S n 200 r) h) : q_tr l g (d + 2) n_X8_leastOfRest [qr 8 i, qi n, qi r] h Q := by
  refine i_X8_leastOfRest hL (fun G hG _ _ => b_X8_leastOfRest_0 hG ?_)
  have key : ∀ m, m ≤ 201 → ∀ x, (qap S n (201 - m) x = qap S n 200 r ∧ r + m ≤ x ∧ x ≤ 400 + m * 400) → G 16 [some (qr 8 i), some (qi n), none, some (qi (x : Nat)), some (qi (m : Int))] [] h := by
    refine q_up (fun m hm ih x hx => b_X8_leastOfRest_16 hG ?_)
    refine ⟨fun q => q_qe k ?_, fun q => s_holds hL V A ⟨fun q2 => q_qe k ?_, fun q2 => ⟨by omega, by omega, ?_⟩⟩⟩
    · rw [← hx.1, qap_s (V.2.2 x (by omega))]
    · rw [← hx.1, qap_s]
      have := qb_n0.mp q2
      rwa [qin_nat] at this
    · have h1 := qb_0.mp q2
      rw [qin_nat] at h1
      refine ih (by omega) (x + n) ⟨?_, by omega, by omega⟩
      rw [← hx.1, show 201 - m = (201 - (m + 1)) + 1 by omega, qap_n h1]
  refine ⟨fun q => by omega, fun _ => ⟨fun _ => key 0 (by omega) r ⟨?_, by omega, by omega⟩, fun q => by omega⟩⟩
  exact qap_more V hn.1 200 r (by omega)
theorem s_childAt {j : Int} (hL : qhL g) (V : QV2 S) (A : qat h i S) (k : Q (qpick (fun x => qgen S x && decide (qtop S < x)) 400 j) h) : q_tr l g (d + 1) n_X8_childAt [qr 8 i, qi j] h Q := by
  refine i_X8_childAt hL (fun G hG _ _ => b_X8_childAt_0 hG ?_)
  have hgc : qgc S ≤ 24 := V.2
  generalize hp : (fun x => qgen S x && decide (qtop S < (x : Nat))) = p at k
  have hpe : ∀ y, p y = (qgen S y && decide (qtop S < (y : Nat))) := fun y => by rw [← hp]
  refine q_dn (P := fun y => (j < 0 ∨ (qc p y : Int) ≤ j) → G 4 [some (qr 8 i), some (qi j), some (qi (qc p y : Nat)), some (qi (qc (qgen S) y : Nat))] [] h) (N := 400) (fun hj => b_X8_childAt_4 hG ?_) (fun y hy ih hj => ?_) (by unfold qc; omega)
  · rw [A.2.2.2.2.1]
    refine ⟨fun _ => ⟨fun q => q_qe k ?_, fun q => q_qe k ?_⟩, fun q => absurd (Int.le_refl _) q⟩
    · rw [qpick_no q hj]
    · rw [q]; rfl
  · cases hg : qgen S y with
    | false => rw [qc_f (by rw [hpe, hg]; rfl), qc_f hg] at ih; exact ih hj
    | true =>
      have h1 : qc (qgen S) y < qgc S := qc_lt hy hg
      have h2 := qc_le p y
      rw [qc_t hg] at ih
      refine b_X8_childAt_4 hG ?_
      rw [A.2.2.2.2.1, A.2.2.2.2.2 y hy hg, A.2.1]
      refine ⟨fun q => by omega, fun _ => ⟨by omega, fun q => ?_, fun q => ?_⟩⟩
      · rw [qc_f (by rw [hpe, hg, decide_eq_false (by omega)]; rfl)] at ih
        exact ⟨by omega, ih hj⟩
      · have hpy : p y = true := by rw [hpe, hg, decide_eq_true (by omega)]; rfl
        rw [qc_t hpy] at ih
        exact ⟨fun q2 => ⟨by omega, by omega, ih (by omega)⟩, fun q2 => ⟨by omega, q_qe k (by rw [qpick_at hpy hy q2])⟩⟩
end QSet2
