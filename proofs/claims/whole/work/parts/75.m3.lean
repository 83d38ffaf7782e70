/-! sets ABOVE one: closed ones, the LONE ones that meet in it; rows of picks in order -/
theorem qclp_iff {p : Nat → Bool} (h16 : ∀ x, 16 ≤ x → p x = true) : qclp p = true ↔ ∀ a b, p a = true → p b = true → p (a + b) = true := by
  unfold qclp
  rw [Bool.not_eq_true', qex_f]
  constructor
  · intro h a b ha hb
    rcases Nat.lt_or_ge a 16 with c | c
    · rcases Nat.lt_or_ge b 16 with e | e
      · have := qex_f.mp (h a c) b e
        rw [ha, hb] at this
        simpa using this
      · exact h16 _ (by omega)
    · exact h16 _ (by omega)
  · intro h a _
    refine qex_f.mpr (fun b _ => ?_)
    cases ha : p a with
    | false => rfl
    | true =>
      cases hb : p b with
      | false => rfl
      | true => rw [h a b ha hb]; rfl
theorem qab_16 {S : QZ} (V : QV1 S) (hg : qgn S ≤ 8) (n : Nat) : ∀ x, 16 ≤ x → qab S n x = true := fun x hx => qab_in (qfew V hg x hx)
theorem qab_v1 {S : QZ} (V : QV1 S) (hg : qgn S ≤ 8) {n : Nat} (h : qclp (qab S n) = true) : QV1 (qab S n) :=
  ⟨qab_in V.1, (qclp_iff (qab_16 V hg n)).mp h, fun x hx => qab_16 V hg n x (by omega)⟩
/-- closed: no gap is what one of them and another one give -/
theorem qab_cl {S : QZ} (V : QV1 S) (hg : qgn S ≤ 8) (n : Nat) : qclp (qab S n) = true ↔ ∀ a b, a < b → b < qgn S → qbt n a = true → qbt n b = false → qab S n (qgp S b - qgp S a) = false := by
  rw [qclp_iff (qab_16 V hg n)]
  constructor
  · intro h a b hab hb ha hnb
    have h1 := qgp_lt hab hb
    cases e : qab S n (qgp S b - qgp S a) with
    | false => rfl
    | true =>
      have := h _ _ (show qab S n (qgp S a) = true by rw [qab_gap (by omega)]; exact ha) e
      rw [show qgp S a + (qgp S b - qgp S a) = qgp S b by omega, qab_gap hb, hnb] at this
      cases this
  · intro h
    have key : ∀ x y, qab S n x = true → qab S n y = true → S x = false → qab S n (x + y) = true := by
      intro x y hx hy hSx
      cases e : qab S n (x + y) with
      | true => rfl
      | false =>
        have hxy : x + y < 400 := by
          rcases Nat.lt_or_ge (x + y) 400 with c | c
          · exact c
          · rw [qab_in (V.2.2 _ (by omega))] at e; cases e
        obtain ⟨b, b1, b2, b3⟩ := qab_gaps e hxy
        rcases qab_iff.mp hx with q | ⟨a, a1, a2, a3⟩
        · rw [q] at hSx; cases hSx
        · rcases Nat.eq_zero_or_pos y with c | c
          · rw [c, Nat.add_zero, hx] at e; cases e
          · have hab : a < b := by
              rcases Nat.lt_trichotomy a b with w | w | w
              · exact w
              · rw [w] at a2; omega
              · have := qgp_lt w a1; omega
            have := h a b hab b1 a3 b3
            rw [show qgp S b - qgp S a = y by omega, hy] at this
            cases this
    intro a b ha hb
    cases e1 : S a with
    | false => exact key a b ha hb e1
    | true =>
      cases e2 : S b with
      | false => rw [Nat.add_comm]; exact key b a hb ha e2
      | true => exact qab_in (V.2.1 _ _ e1 e2)
/-- the number of a set that has all of S -/
def qnum (S D : QZ) : Nat := qnb (fun k => D (qgp S k)) (qgn S)
theorem qnum_set {S D : QZ} (V : QV1 S) (h : ∀ x, S x = true → D x = true) : qab S (qnum S D) = D := by
  funext x
  cases e : S x with
  | true => rw [qab_in e, h x e]
  | false =>
    have hx : x < 400 := by
      rcases Nat.lt_or_ge x 400 with c | c
      · exact c
      · rw [V.2.2 x (by omega)] at e; cases e
    obtain ⟨h1, h2⟩ := qgp_of e hx
    rw [← h2, qab_gap h1]
    unfold qnum
    rw [qnb_bit, decide_eq_true h1, Bool.true_and]
theorem qnum_lt (S D : QZ) : qnum S D < 2 ^ qgn S := qnb_lt _ _
theorem qab_le {S : QZ} {n m : Nat} (hn : n < 2 ^ qgn S) (hm : m < 2 ^ qgn S) (h : ∀ x, qab S n x = true → qab S m x = true) : n ≤ m := qbt_more (qgn S) hn hm (fun k hk q => by
  have := h (qgp S k) (by rw [qab_gap hk]; exact q)
  rwa [qab_gap hk] at this)
/-- a LONE one ABOVE that has not one gap -/
theorem qlone_ex {S : QZ} (V : QV1 S) (hg : qgn S ≤ 8) {x : Nat} (hx : S x = false) : ∃ n, n < 2 ^ qgn S ∧ qlnp S n = true ∧ qab S n x = false := by
  have hx4 : x < 400 := by
    rcases Nat.lt_or_ge x 400 with c | c
    · exact c
    · rw [V.2.2 x (by omega)] at hx; cases hx
  have e0 : qab S (qnum S S) = S := qnum_set V (fun _ h => h)
  obtain ⟨m, ⟨n, h1, h2, h3, h4⟩, h5⟩ := pk_least (fun m => ∃ n, n < 2 ^ qgn S ∧ qclp (qab S n) = true ∧ qab S n x = false ∧ m = 2 ^ qgn S - n) ⟨2 ^ qgn S - qnum S S, qnum S S, qnum_lt S S, (qclp_iff (qab_16 V hg _)).mpr (by rw [e0]; exact V.2.1), by rw [e0]; exact hx, rfl⟩
  refine ⟨n, h1, ?_, h3⟩
  have U := qab_v1 V hg h2
  -- none that has more is without x
  have mx : ∀ D : QZ, (∀ z, qab S n z = true → D z = true) → (∀ a b, D a = true → D b = true → D (a + b) = true) → D x = false → D = qab S n := fun D d1 d2 d3 => by
    have e := qnum_set V (D := D) (fun z hz => d1 z (qab_in hz))
    have hle := qab_le h1 (qnum_lt S D) (fun z hz => by rw [e]; exact d1 z hz)
    rcases Nat.lt_or_ge n (qnum S D) with c | c
    · have := qnum_lt S D
      exact absurd ⟨qnum S D, this, (qclp_iff (qab_16 V hg _)).mpr (by rw [e]; exact d2), by rw [e]; exact d3, rfl⟩ (h5 (2 ^ qgn S - qnum S D) (by omega))
    · rw [← e, show qnum S D = n by omega]
  have up : ∀ y, x < y → qab S n y = true := fun y hy => by
    have := mx (fun z => qab S n z || decide (x < z)) (fun z hz => by rw [hz]; rfl) (fun a b ha hb => by
      rw [Bool.or_eq_true, decide_eq_true_eq] at ha hb ⊢
      rcases ha with ha | ha
      · rcases hb with hb | hb
        · exact Or.inl (U.2.1 a b ha hb)
        · exact Or.inr (by omega)
      · exact Or.inr (by omega)) (by rw [h3, decide_eq_false (Nat.lt_irrefl x)]; rfl)
    have e := congrFun this y
    rw [← e, decide_eq_true hy, Bool.or_true]
  have htop : qtop (qab S n) = x := by
    have := qtop_is (S := qab S n) (c := x + 1) (by omega) (fun y hy => up y (by omega)) (Or.inr (by rw [Nat.add_sub_cancel]; exact h3))
    omega
  have hp : qpair (qab S n) x := by
    intro y hy hy2 he
    cases e : qab S n y with
    | true =>
      have := U.2.1 _ _ e (by rw [← he]; exact e)
      rw [show y + (x - y) = x by omega, h3] at this; cases this
    | false =>
      rw [e] at he
      -- the greatest one of this kind
      obtain ⟨m2, ⟨z, z1, z2, z3, z4, z5⟩, z6⟩ := pk_least (fun m2 => ∃ z, z ≤ x ∧ 2 * z ≠ x ∧ qab S n z = false ∧ qab S n (x - z) = false ∧ m2 = x - z) ⟨x - y, y, hy, hy2, e, he.symm, rfl⟩
      have zg : x < 2 * z := by
        rcases Nat.lt_or_ge x (2 * z) with c | c
        · exact c
        · exact absurd ⟨x - z, by omega, by omega, z4, by rw [show x - (x - z) = z by omega]; exact z3, rfl⟩ (z6 (x - (x - z)) (by omega))
      have zx : z ≠ x := fun q => by rw [q, Nat.sub_self, U.1] at z4; cases z4
      have := mx (fun w => qab S n w || w == z) (fun w hw => by rw [hw]; rfl) (fun a b ha hb => by
        have one : ∀ a, qab S n a = true → (qab S n (a + z) || a + z == z) = true := fun a ha => by
          rcases Nat.eq_zero_or_pos a with c | c
          · rw [c, Nat.zero_add]; simp
          · cases e2 : qab S n (a + z) with
            | true => rfl
            | false =>
              exfalso
              have hle : a + z ≤ x := by
                rcases Nat.lt_or_ge x (a + z) with q | q
                · rw [up _ q] at e2; cases e2
                · exact q
              cases e3 : qab S n (x - (a + z)) with
              | true =>
                have := U.2.1 _ _ ha e3
                rw [show a + (x - (a + z)) = x - z by omega, z4] at this; cases this
              | false => exact z6 (x - (a + z)) (by omega) ⟨a + z, hle, by omega, e2, e3, rfl⟩
        rw [Bool.or_eq_true, beq_iff_eq] at ha hb
        rcases ha with ha | ha
        · rcases hb with hb | hb
          · rw [U.2.1 a b ha hb]; rfl
          · rw [hb]; exact one a ha
        · rcases hb with hb | hb
          · rw [ha, Nat.add_comm]; exact one b hb
          · rw [ha, hb, up (z + z) (by omega)]; rfl) (by rw [h3, beq_eq_false_iff_ne.mpr (fun q => zx q.symm)]; rfl)
      have e4 := congrFun this z
      rw [z3] at e4
      simp at e4
  unfold qlnp
  rw [h2, Bool.true_and]
  have hx0 : 0 < x := by
    rcases Nat.eq_zero_or_pos x with c | c
    · rw [c, V.1] at hx; cases hx
    · exact c
  have hgn := qgn_top U (by rw [htop]; omega)
  rw [htop, Int.toNat_natCast] at hgn
  have := (qpair_iff U.2.1 h3).mp hp
  rw [← hgn] at this
  unfold qln qlone
  rw [htop]
  exact decide_eq_true (by omega)
/-! rows of picks: increasing, below c; which is ahead -/
def qfi (c fr m : Nat) (P : Nat → Nat) : Prop := (∀ i, i < m → fr ≤ P i ∧ P i < c) ∧ ∀ i j, i < j → j < m → P i < P j
def qfl (m : Nat) (P P' : Nat → Nat) : Prop := ∃ i, i < m ∧ (∀ j, j < i → P j = P' j) ∧ P i < P' i
def qfa (ln P : Nat → Nat) (cm : Int) : Nat → Int
  | 0 => cm
  | m + 1 => q_and (qfa ln P cm m) (ln (P m))
theorem qfa_cong {ln P P' : Nat → Nat} {cm : Int} : ∀ {m}, (∀ i, i < m → P i = P' i) → qfa ln P cm m = qfa ln P' cm m
  | 0, _ => rfl
  | m + 1, h => by
    show q_and (qfa ln P cm m) _ = q_and (qfa ln P' cm m) _
    rw [qfa_cong (fun i hi => h i (by omega)), h m (by omega)]
theorem qfa_sh {ln P : Nat → Nat} {cm : Int} : ∀ m, qfa ln P cm (m + 1) = qfa ln (fun i => P (i + 1)) (q_and cm (ln (P 0))) m
  | 0 => rfl
  | m + 1 => by
    show q_and (qfa ln P cm (m + 1)) _ = q_and (qfa ln (fun i => P (i + 1)) _ m) _
    rw [qfa_sh m]
/-- the first row of picks that will do -/
def qfirst1 (ln : Nat → Nat) (c fr m : Nat) (cm : Int) (P : Nat → Nat) : Prop := qfi c fr m P ∧ qfa ln P cm m = 0 ∧ ∀ P', qfi c fr m P' → qfl m P' P → qfa ln P' cm m ≠ 0
def qcons (j : Nat) (P : Nat → Nat) : Nat → Nat := fun i => if i = 0 then j else P (i - 1)
theorem qcons_0 (j : Nat) (P : Nat → Nat) : qcons j P 0 = j := rfl
theorem qcons_s (j : Nat) (P : Nat → Nat) (i : Nat) : qcons j P (i + 1) = P i := by unfold qcons; rw [if_neg (by omega), Nat.add_sub_cancel]
theorem qch_spec {ln : Nat → Nat} {c : Nat} : ∀ m fr cm, (∀ w, qch ln c m fr cm = some w → ∃ P, qfirst1 ln c fr m cm P ∧ ∀ i, i < m → w.getD i 0 = ln (P i)) ∧ (qch ln c m fr cm = none → ∀ P, qfi c fr m P → qfa ln P cm m ≠ 0)
  | 0, fr, cm => by
    refine ⟨fun w hw => ?_, fun hn P _ => ?_⟩
    · unfold qch at hw
      by_cases e : cm = 0
      · exact ⟨fun _ => 0, ⟨⟨fun i hi => absurd hi (Nat.not_lt_zero _), fun i j _ hj => absurd hj (Nat.not_lt_zero _)⟩, e, fun P' _ ⟨i, hi, _⟩ => absurd hi (Nat.not_lt_zero _)⟩, fun i hi => absurd hi (Nat.not_lt_zero _)⟩
      · rw [if_neg e] at hw; cases hw
    · unfold qch at hn
      by_cases e : cm = 0
      · rw [if_pos e] at hn; cases hn
      · exact e
  | m + 1, fr, cm => by
    have hq : qch ln c (m + 1) fr cm = qchs (fun j => qch ln c m (j + 1) (q_and cm (ln j))) ln (c - fr) fr := rfl
    have ih := fun j => qch_spec (ln := ln) (c := c) m (j + 1) (q_and cm (ln j))
    -- those rows whose first one is j
    have tail : ∀ P j, P 0 = j → qfi c fr (m + 1) P → qfi c (j + 1) m (fun i => P (i + 1)) := fun P j hj hP => ⟨fun i hi => ⟨by have := hP.2 0 (i + 1) (by omega) (by omega); show j + 1 ≤ P (i + 1); omega, (hP.1 (i + 1) (by omega)).2⟩, fun a b hab hb => hP.2 _ _ (by omega) (by omega)⟩
    have key : ∀ f j, j + f = c → fr ≤ j → (∀ P, qfi c fr (m + 1) P → P 0 < j → qfa ln P cm (m + 1) ≠ 0) →
        (∀ w, qchs (fun j => qch ln c m (j + 1) (q_and cm (ln j))) ln f j = some w → ∃ P, qfirst1 ln c fr (m + 1) cm P ∧ ∀ i, i < m + 1 → w.getD i 0 = ln (P i)) ∧ (qchs (fun j => qch ln c m (j + 1) (q_and cm (ln j))) ln f j = none → ∀ P, qfi c fr (m + 1) P → qfa ln P cm (m + 1) ≠ 0) := by
      intro f
      induction f with
      | zero =>
        intro j hj hfr hI
        refine ⟨fun w hw => (by cases hw), fun _ P hP => hI P hP (by have := (hP.1 0 (by omega)).2; omega)⟩
      | succ f ihf =>
        intro j hj hfr hI
        have es : qchs (fun j => qch ln c m (j + 1) (q_and cm (ln j))) ln (f + 1) j = match qch ln c m (j + 1) (q_and cm (ln j)) with
          | some r => some (ln j :: r)
          | none => qchs (fun j => qch ln c m (j + 1) (q_and cm (ln j))) ln f (j + 1) := rfl
        rw [es]
        cases hF : qch ln c m (j + 1) (q_and cm (ln j)) with
        | none =>
          refine ihf (j + 1) (by omega) (by omega) (fun P hP hlt => ?_)
          by_cases e : P 0 = j
          · rw [qfa_sh, e]
            exact (ih j).2 hF _ (tail P j e hP)
          · exact hI P hP (by omega)
        | some r =>
          refine ⟨fun w hw => ?_, fun q => (by cases q)⟩
          cases hw
          obtain ⟨P, ⟨p1, p2, p3⟩, p4⟩ := (ih j).1 r hF
          refine ⟨qcons j P, ⟨⟨fun i hi => ?_, fun a b hab hb => ?_⟩, ?_, fun P' hP' hl => ?_⟩, fun i hi => ?_⟩
          · cases i with
            | zero => rw [qcons_0]; omega
            | succ i => rw [qcons_s]; have := p1.1 i (by omega); omega
          · obtain ⟨b, rfl⟩ : ∃ b', b = b' + 1 := ⟨b - 1, by omega⟩
            rw [qcons_s]
            cases a with
            | zero => rw [qcons_0]; have := p1.1 b (by omega); omega
            | succ a => rw [qcons_s]; exact p1.2 _ _ (by omega) (by omega)
          · rw [qfa_sh, qcons_0, qfa_cong (P' := P) (fun i _ => qcons_s j P i)]
            exact p2
          · obtain ⟨i, i1, i2, i3⟩ := hl
            cases i with
            | zero =>
              rw [qcons_0] at i3
              exact hI P' hP' i3
            | succ i =>
              have h0 := i2 0 (by omega)
              rw [qcons_0] at h0
              rw [qfa_sh, h0]
              refine p3 _ (tail P' j h0 hP') ⟨i, by omega, fun a ha => ?_, ?_⟩
              · have := i2 (a + 1) (by omega)
                rw [qcons_s] at this
                exact this
              · rw [qcons_s] at i3
                exact i3
          · cases i with
            | zero => rfl
            | succ i => rw [qcons_s]; exact p4 i (by omega)
    rw [hq]
    rcases Nat.lt_or_ge c fr with e | e
    · rw [show c - fr = 0 by omega]
      refine ⟨fun w hw => (by cases hw), fun _ P hP => ?_⟩
      have := (hP.1 0 (by omega)); omega
    · exact key (c - fr) fr (by omega) (Nat.le_refl _) (fun P hP hlt => by have := (hP.1 0 (by omega)).1; omega)
/-- two rows are alike, or one is ahead -/
theorem qfl_tri (m : Nat) (P P' : Nat → Nat) : (∀ i, i < m → P i = P' i) ∨ qfl m P P' ∨ qfl m P' P := by
  by_cases e : ∃ i, i < m ∧ P i ≠ P' i
  · obtain ⟨i, ⟨h1, h2⟩, h3⟩ := pk_least (fun i => i < m ∧ P i ≠ P' i) e
    have h4 : ∀ j, j < i → P j = P' j := fun j hj => by
      apply Classical.byContradiction
      intro q; exact h3 j hj ⟨by omega, q⟩
    right
    rcases Nat.lt_or_ge (P i) (P' i) with c | c
    · exact Or.inl ⟨i, h1, h4, c⟩
    · exact Or.inr ⟨i, h1, fun j hj => (h4 j hj).symm, by omega⟩
  · left
    intro i hi
    apply Classical.byContradiction
    intro q; exact e ⟨i, hi, q⟩
theorem qfirst1_one {ln : Nat → Nat} {c fr m : Nat} {cm : Int} {P P' : Nat → Nat} (h : qfirst1 ln c fr m cm P) (h' : qfirst1 ln c fr m cm P') : ∀ i, i < m → P i = P' i := by
  rcases qfl_tri m P P' with q | q | q
  · exact q
  · exact absurd h.2.1 (h'.2.2 P h.1 q)
  · exact absurd h'.2.1 (h.2.2 P' h'.1 q)
theorem qfi_gap {c fr m : Nat} {P : Nat → Nat} (h : qfi c fr m P) : ∀ j i, i ≤ j → j < m → P i + (j - i) ≤ P j
  | 0, i, hi, hj => by have : i = 0 := by omega
                       subst this; omega
  | j + 1, i, hi, hj => by
    by_cases e : i = j + 1
    · subst e; omega
    · have := qfi_gap h j i (by omega) (by omega)
      have := h.2 j (j + 1) (by omega) hj
      omega
/-- the row behind one: k goes up, the ones behind it follow -/
def qnxp (P : Nat → Nat) (k : Nat) : Nat → Nat := fun i => if i < k then P i else P k + 1 + (i - k)
theorem qnxp_ok {c m k : Nat} {P : Nat → Nat} (h : qfi c 0 m P) (hm : m ≤ c) (hk : k < m) (h1 : P k < c - m + k) (h2 : ∀ j, k < j → j < m → c - m + j ≤ P j) : qfi c 0 m (qnxp P k) ∧ ∀ P', qfi c 0 m P' → qfl m P' (qnxp P k) → (∀ i, i < m → P' i = P i) ∨ qfl m P' P := by
  refine ⟨⟨fun i hi => ⟨Nat.zero_le _, ?_⟩, fun i j hij hj => ?_⟩, fun P' hP' hl => ?_⟩
  · unfold qnxp
    split
    · exact (h.1 i hi).2
    · omega
  · unfold qnxp
    by_cases c1 : j < k
    · rw [if_pos c1, if_pos (by omega)]; exact h.2 i j hij hj
    · rw [if_neg c1]
      by_cases c2 : i < k
      · rw [if_pos c2]; have := h.2 i k c2 hk; omega
      · rw [if_neg c2]; omega
  · rcases qfl_tri m P' P with q | q | q
    · exact Or.inl q
    · exact Or.inr q
    · exfalso
      obtain ⟨i, i1, i2, i3⟩ := q
      obtain ⟨u, u1, u2, u3⟩ := hl
      have hmax : ∀ j, j < m → P' j ≤ c - m + j := fun j hj => by
        have a := qfi_gap hP' (m - 1) j (by omega) (by omega)
        have b := (hP'.1 (m - 1) (by omega)).2
        omega
      rcases Nat.lt_trichotomy i k with w | w | w
      · rcases Nat.lt_trichotomy u i with v | v | v
        · have := i2 u v
          unfold qnxp at u3
          rw [if_pos (by omega)] at u3; omega
        · rw [v] at u3; unfold qnxp at u3; rw [if_pos w] at u3; omega
        · have := u2 i v
          unfold qnxp at this
          rw [if_pos w] at this; omega
      · rw [w] at i3
        rcases Nat.lt_or_ge u k with v | v
        · have := i2 u (by omega)
          unfold qnxp at u3
          rw [if_pos v] at u3; omega
        · have := qfi_gap hP' u k v u1
          unfold qnxp at u3
          rw [if_neg (by omega)] at u3; omega
      · have := h2 i w i1
        have := hmax i i1
        omega
theorem qnxp_no {c m : Nat} {P : Nat → Nat} (h2 : ∀ j, j < m → c - m + j ≤ P j) : ∀ P', qfi c 0 m P' → (∀ i, i < m → P' i = P i) ∨ qfl m P' P := by
  intro P' hP'
  rcases qfl_tri m P' P with q | q | ⟨i, i1, i2, i3⟩
  · exact Or.inl q
  · exact Or.inr q
  · have := h2 i i1
    have a := qfi_gap hP' (m - 1) i (by omega) (by omega)
    have b := (hP'.1 (m - 1) (by omega)).2
    omega
theorem qfa_bit {ln P : Nat → Nat} {cm : Int} {k : Nat} (hk : k < 32) : ∀ m, qbt (qfa ln P cm m) k = (qbt cm k && !(qex (fun i => !(qbt (ln (P i) : Int) k)) m))
  | 0 => by show qbt cm k = (qbt cm k && !false); simp
  | m + 1 => by
    show qbt (q_and _ _) k = (qbt cm k && !(qex _ m || _))
    rw [qbt_and hk, qfa_bit hk m]
    show _ = (qbt cm k && !(qex _ m || !(qbt (ln (P m) : Int) k)))
    cases qbt cm k <;> cases qex (fun i => !(qbt (ln (P i) : Int) k)) m <;> cases qbt (ln (P m) : Int) k <;> rfl
theorem q_i32_256 {z : Int} (h : 0 ≤ z) (h2 : z < 256) : q_i32 z := by unfold q_i32; omega
theorem qfa_rg {ln P : Nat → Nat} {cm : Int} (hc : q_i32 cm) : ∀ m, q_i32 (qfa ln P cm m)
  | 0 => hc
  | m + 1 => q_and_i _ _
/-- some row of at most 8 will do -/
theorem qpcs_ex {S : QZ} (V : QV1 S) (hg : qgn S ≤ 8) : ∃ m P, 1 ≤ m ∧ m ≤ 8 ∧ qfi (qlnc S) 0 m P ∧ qfa (qlnk S) P (((2 ^ qgn S : Nat) : Int) - 1) m = 0 := by
  have h2 := q2g hg
  have hp0 : 0 < 2 ^ qgn S := Nat.two_pow_pos _
  have hcm : q_i32 (((2 ^ qgn S : Nat) : Int) - 1) := q_i32_256 (by omega) (by omega)
  have hcb : ∀ k, qbt (((2 ^ qgn S : Nat) : Int) - 1) k = decide (k < qgn S) := fun k => by
    rw [Int.natCast_pow]; exact qbt_ones
  rcases Nat.eq_zero_or_pos (qgn S) with e | e
  · -- no gap: itself
    have hS : ∀ x, S x = true := fun x => by
      cases c : S x with
      | true => rfl
      | false =>
        have hx : x < 400 := by
          rcases Nat.lt_or_ge x 400 with q | q
          · exact q
          · rw [V.2.2 x (by omega)] at c; cases c
        have := (qgp_of c hx).1; omega
    have e1 : ∀ n x, qab S n x = true := fun n x => qab_in (hS x)
    have hl : qlnp S 0 = true := by
      unfold qlnp qln
      rw [(qclp_iff (fun x _ => e1 0 x)).mpr (fun a b _ _ => e1 0 _), Bool.true_and]
      have t1 : qtop (qab S 0) = -1 := qmx_none (fun y _ => qgap_t.mpr (e1 0 y))
      have t2 : qgn (qab S 0) = 0 := qc_none (m := 0) (Nat.zero_le _) (fun y _ _ => qgap_t.mpr (e1 0 y))
      rw [t1, t2]; rfl
    have hlc : 0 < qlnc S := by have := qc_lt (p := qlnp S) (show 0 < 2 ^ qgn S by omega) hl; unfold qlnc; omega
    refine ⟨1, fun _ => 0, Nat.le_refl _, by omega, ⟨fun i _ => ⟨Nat.zero_le _, hlc⟩, fun i j _ _ => by omega⟩, ?_⟩
    refine qbt_ext (qfa_rg hcm 1) (by unfold q_i32; omega) (fun k hk => ?_)
    rw [qfa_bit hk, hcb, e, decide_eq_false (Nat.not_lt_zero _), qbt_0]; rfl
  · -- for each gap one that has it not
    have hex : ∀ j, ∃ n, j < qgn S → (n < 2 ^ qgn S ∧ qlnp S n = true ∧ qbt n j = false) := fun j => by
      by_cases hj : j < qgn S
      · obtain ⟨n, n1, n2, n3⟩ := qlone_ex V hg (qgp_ok hj).1
        rw [qab_gap hj] at n3
        exact ⟨n, fun _ => ⟨n1, n2, n3⟩⟩
      · exact ⟨0, fun q => absurd q hj⟩
    obtain ⟨nf, hnf⟩ := Classical.axiomOfChoice hex
    generalize hq : (fun i => qex (fun j => i == qc (qlnp S) (nf j)) (qgn S)) = q
    have hqe : ∀ i, q i = true ↔ ∃ j, j < qgn S ∧ i = qc (qlnp S) (nf j) := fun i => by
      rw [← hq, qex_iff]
      simp only [beq_iff_eq]
    have hin : ∀ j, j < qgn S → qc (qlnp S) (nf j) < qlnc S ∧ qlnk S (qc (qlnp S) (nf j)) = nf j := fun j hj => by
      obtain ⟨n1, n2, n3⟩ := hnf j hj
      have a := qc_lt n1 n2
      refine ⟨a, ?_⟩
      obtain ⟨y, y1, y2, y3, y4⟩ := qlnk_of (S := S) (j := qc (qlnp S) (nf j)) a
      rw [y4]; exact qc_one y2 n2 y3
    have hm1 : 0 < qc q (qlnc S) := by
      have := qc_lt (p := q) (hin 0 e).1 ((hqe _).mpr ⟨0, e, rfl⟩)
      omega
    have hm2 : qc q (qlnc S) ≤ qgn S := by
      have hch : ∀ i, ∃ j, q i = true → j < qgn S ∧ i = qc (qlnp S) (nf j) := fun i => by
        by_cases c : q i = true
        · obtain ⟨j, hj⟩ := (hqe i).mp c; exact ⟨j, fun _ => hj⟩
        · exact ⟨0, fun z => absurd z c⟩
      obtain ⟨jf, hjf⟩ := Classical.axiomOfChoice hch
      have := qc_inj (p := q) (q := fun _ => true) (f := jf) (N := qlnc S) (M := qgn S) (fun i _ hi => ⟨(hjf i hi).1, rfl⟩) (fun i i' _ _ hi hi' he => by rw [(hjf i hi).2, (hjf i' hi').2, he])
      rw [qc_all] at this; exact this
    have hnt : ∀ t, t < qc q (qlnc S) → ∃ i, i < qlnc S ∧ q i = true ∧ qc q i = t ∧ (qnth q (qlnc S) t).toNat = i := fun t ht => by
      obtain ⟨i, i1, i2, i3⟩ := qc_kth ht
      exact ⟨i, i1, i2, i3, by rw [← i3, qnth_at i2 i1]; rfl⟩
    generalize hP : (fun t : Nat => (qnth q (qlnc S) t).toNat) = P
    have hPe : ∀ t, P t = (qnth q (qlnc S) t).toNat := fun t => by rw [← hP]
    refine ⟨qc q (qlnc S), P, hm1, by omega, ⟨fun t ht => ?_, fun t t' h1 h2 => ?_⟩, ?_⟩
    · rw [hPe]
      obtain ⟨i, i1, i2, i3, i4⟩ := hnt t ht
      rw [i4]; exact ⟨Nat.zero_le _, i1⟩
    · obtain ⟨i, i1, i2, i3, i4⟩ := hnt t (by omega)
      obtain ⟨i', i1', i2', i3', i4'⟩ := hnt t' h2
      rw [hPe, hPe, i4, i4']
      rcases Nat.lt_or_ge i i' with c | c
      · exact c
      · have := qc_mono q c; omega
    · refine qbt_ext (qfa_rg hcm _) (by unfold q_i32; omega) (fun k hk => ?_)
      rw [qfa_bit hk, hcb, qbt_0]
      by_cases c : k < qgn S
      · have hb : qex (fun i => !(qbt (qlnk S (P i) : Int) k)) (qc q (qlnc S)) = true := by
          have hqk := (hqe _).mpr ⟨k, c, rfl⟩
          refine qex_iff.mpr ⟨qc q (qc (qlnp S) (nf k)), qc_lt (hin k c).1 hqk, ?_⟩
          rw [hPe, qnth_at hqk (hin k c).1, Int.toNat_natCast, (hin k c).2, (hnf k c).2.2]; rfl
        rw [hb, Bool.not_true, Bool.and_false]
      · rw [decide_eq_false c]; rfl
