/-! StepSet: children of children; what two sets have in common -/
def qdel (S : QZ) (o : Nat) : QZ := fun x => S x && !(x == o)
theorem qdel_iff {S : QZ} {o x : Nat} : qdel S o x = true ↔ S x = true ∧ x ≠ o := by unfold qdel; simp
theorem qdel_f {S : QZ} {o x : Nat} : qdel S o x = false ↔ S x = false ∨ x = o := by
  unfold qdel
  cases h : S x <;> simp
/-- what is a sum of two of a SET without one generator, is so with a generator that is left -/
theorem qdel_gen {S : QZ} (V : QV1 S) {o x : Nat} (ho : qgen S o = true) (hx : o < x) (h4 : x < 4 * o) (hS : S x = true) :
    qgen (qdel S o) x = false ↔ ∃ g, qgen S g = true ∧ g ≠ o ∧ g < x ∧ x - g ≠ o ∧ S (x - g) = true := by
  have hoi := qgen_iff.mp ho
  constructor
  · intro hg
    have h1 : ¬ ∀ y, 0 < y → y < x → qdel S o y = true → qdel S o (x - y) = false := fun q => by
      rw [qgen_iff.mpr ⟨by omega, qdel_iff.mpr ⟨hS, by omega⟩, q⟩] at hg
      cases hg
    have h2 : ∃ y, 0 < y ∧ y < x ∧ qdel S o y = true ∧ qdel S o (x - y) = true := by
      apply Classical.byContradiction
      intro q
      refine h1 (fun y a b c => ?_)
      cases e : qdel S o (x - y) with
      | false => rfl
      | true => exact absurd ⟨y, a, b, c, e⟩ q
    -- a generator other than o of the one of two
    have one : ∀ a b, 0 < a → 0 < b → a + b = x → S a = true → S b = true → a ≠ o → b ≠ o → a < 2 * o → ∃ g, qgen S g = true ∧ g ≠ o ∧ g < x ∧ x - g ≠ o ∧ S (x - g) = true := by
      intro a b ha hb e hSa hSb hao hbo ha2
      obtain ⟨g, g1, g2, g3⟩ := qgen_dec V (a + 1) a (by omega) ha hSa
      by_cases hgo : g = o
      · subst hgo
        obtain ⟨g', k1, k2, k3⟩ := qgen_dec V (a - g + 1) (a - g) (by omega) (by omega) g3
        have k4 := qgen_in k1
        refine ⟨g', k1, by omega, by omega, by omega, ?_⟩
        rw [show x - g' = (g + (a - g - g')) + b by omega]
        exact V.2.1 _ _ (V.2.1 _ _ hoi.2.1 k3) hSb
      · refine ⟨g, g1, hgo, by omega, ?_, ?_⟩
        · intro q
          have e2 : o = (a - g) + b := by omega
          rcases Nat.eq_zero_or_pos (a - g) with z | z
          · omega
          · have := hoi.2.2 b hb (by omega) hSb
            rw [show o - b = a - g by omega, g3] at this
            cases this
        · rw [show x - g = (a - g) + b by omega]
          exact V.2.1 _ _ g3 hSb
    obtain ⟨y, y1, y2, y3, y4⟩ := h2
    have y5 := qdel_iff.mp y3
    have y6 := qdel_iff.mp y4
    rcases Nat.lt_or_ge y (2 * o) with a | a
    · exact one y (x - y) y1 (by omega) (by omega) y5.1 y6.1 y5.2 y6.2 a
    · exact one (x - y) y (by omega) y1 (by omega) y6.1 y5.1 y6.2 y5.2 (by omega)
  · rintro ⟨g, g1, g2, g3, g4, g5⟩
    have g6 := qgen_in g1
    cases e : qgen (qdel S o) x with
    | false => rfl
    | true =>
      have := (qgen_iff.mp e).2.2 g g6.1 g3 (qdel_iff.mpr ⟨g6.2, g2⟩)
      rw [qdel_iff.mpr ⟨g5, g4⟩] at this
      cases this
/-- how many CHILDREN there are without one that is above TOP -/
def qcw (S : QZ) (o : Nat) : Nat := qc (fun x => decide (o < x) && qgen (qdel S o) x) 900
theorem qcw_no {S : QZ} (V : QV1 S) {o m x : Nat} (ho : qgen S o = true) (ht : qtop S < o) (hm : 0 < m) (hSm : S m = true) (hmo : m ≠ o) (hx : o + m < x) : qgen (qdel S o) x = false := by
  cases e : qgen (qdel S o) x with
  | false => rfl
  | true =>
    have := (qgen_iff.mp e).2.2 m hm (by omega) (qdel_iff.mpr ⟨hSm, hmo⟩)
    rw [qdel_iff.mpr ⟨qtop_in V (by omega), by omega⟩] at this
    cases this
section QSet3
variable {l : Launch} {g : QG} {d : Nat} {h : QM} {i : Int} {S : QZ} {Q : Int → QM → Prop}
theorem s_made {o x : Nat} (hL : qhL g) (V : QV2 S) (A : qat h i S) (ho : qgen S o = true) (hx : o < x) (h4 : x < 4 * o) (hS : S x = true) (hb : x < 900) (k : Q (qb (!(qgen (qdel S o) x))) h) : q_tr l g (d + 2) n_X8_isMadeWithout [qr 8 i, qi x, qi o] h Q := by
  refine i_X8_isMadeWithout hL (fun G hG _ _ => b_X8_isMadeWithout_0 hG ?_)
  have hgc : qgc S ≤ 24 := V.2
  have hd := qdel_gen V.1 ho hx h4 hS
  refine q_dn (P := fun y => (∀ z, z < y → ¬ (qgen S z = true ∧ z ≠ o ∧ z < x ∧ x - z ≠ o ∧ S (x - z) = true)) → G 2 [some (qr 8 i), some (qi x), some (qi o), some (qi (qc (qgen S) y : Nat)), none] [] h) (N := 400) (fun hj => b_X8_isMadeWithout_2 hG ?_) (fun y hy ih hj => ?_) (fun z hz => absurd hz (Nat.not_lt_zero _))
  · rw [A.2.2.2.2.1]
    refine ⟨fun _ => ⟨Or.inl rfl, q_qe k ?_⟩, fun q => absurd (Int.le_refl _) q⟩
    cases e : qgen (qdel S o) x with
    | true => rfl
    | false =>
      obtain ⟨z, z1⟩ := hd.mp e
      exact absurd z1 (hj z (qgen_lt V.1 z1.1))
  · cases hg : qgen S y with
    | false =>
      rw [qc_f hg] at ih
      refine ih (fun z hz q => ?_)
      by_cases e : z = y
      · rw [e, hg] at q; exact absurd q.1 (by decide)
      · exact hj z (by omega) q
    | true =>
      have h1 : qc (qgen S) y < qgc S := qc_lt hy hg
      rw [qc_t hg] at ih
      refine b_X8_isMadeWithout_2 hG ?_
      rw [A.2.2.2.2.1, A.2.2.2.2.2 y hy hg]
      have next : ¬ (qgen S y = true ∧ y ≠ o ∧ y < x ∧ x - y ≠ o ∧ S (x - y) = true) → (-2147483648 ≤ (qc (qgen S) y : Int) + 1 ∧ (qc (qgen S) y : Int) + 1 ≤ 2147483647) ∧ G 2 [some (qr 8 i), some (qi x), some (qi o), some (qi ((qc (qgen S) y : Int) + 1)), none] [] h := fun q => by
        refine ⟨by omega, ih (fun z hz q2 => ?_)⟩
        by_cases e : z = y
        · rw [e] at q2; exact q q2
        · exact hj z (by omega) q2
      refine ⟨fun q => by omega, fun _ => ⟨by omega, by omega, by omega, fun q => next (by omega), fun q => ⟨fun q2 => next (by omega), fun q2 => ⟨fun q3 => next (by omega), fun q3 => s_holds hL V.1 A ?_⟩⟩⟩⟩
      rw [show (x : Int) - (y : Int) = ((x - y : Nat) : Int) by omega, qin_nat]
      refine ⟨fun q4 => next (fun q5 => ?_), fun q4 => ⟨Or.inr rfl, q_qe k ?_⟩⟩
      · rw [q5.2.2.2.2] at q4; exact absurd q4 (by decide)
      · rw [hd.mpr ⟨y, hg, by omega, by omega, by omega, qb_n0.mp q4⟩]; rfl
theorem s_cwo {o : Nat} (hL : qhL g) (V : QV2 S) (A : qat h i S) (ho : qgen S o = true) (ht : qtop S < o) (k : Q (qcw S o : Nat) h) : q_tr l g (d + 3) n_X8_childrenWithout [qr 8 i, qi o] h Q := by
  refine i_X8_childrenWithout hL (fun G hG _ _ => b_X8_childrenWithout_0 hG ?_)
  obtain ⟨m1, m2, m3, m4, m5⟩ := qms_ok V.1
  have ho2 := qgen_lt V.1 ho
  have ho3 := qgen_in ho
  have hmo : qms S ≤ o := by
    rcases Nat.lt_or_ge o (qms S) with a | a
    · have := m4 o ho3.1 a
      rw [ho3.2] at this; cases this
    · exact a
  refine s_least hL V.1 A ⟨by omega, by omega, by omega, ?_⟩
  -- beyond them there is none
  have hno : ∀ x, o + qms S + 2 ≤ x → qgen (qdel S o) x = false := by
    intro x hx
    by_cases e : qms S = o
    · refine qcw_no V.1 ho ht (m := o + 1) (by omega) (qtop_in V.1 (by omega)) (by omega) (by omega)
    · exact qcw_no V.1 ho ht m1 m3 e (by omega)
  generalize hp : (fun x => decide (o < x) && qgen (qdel S o) x) = p
  have hpe : ∀ y, p y = (decide (o < y) && qgen (qdel S o) y) := fun y => by rw [← hp]
  have key : ∀ n, n ≤ qms S + 1 → G 16 [some (qr 8 i), some (qi o), some (qi (qc p (o + 1 + n) : Nat)), some (qi ((o : Int) + (qms S : Int) + 1)), some (qi ((o : Int) + 1 + (n : Nat)))] [] h := by
    refine q_up (fun n hn ih => b_X8_childrenWithout_16 hG ?_)
    have h1 := qc_le p (o + 1 + n)
    refine ⟨fun q => q_qe k ?_, fun q => ?_⟩
    · unfold qcw
      rw [hp, qc_none (m := o + 1 + n) (n := 900) (by omega) (fun x a b => by rw [hpe, hno x (by omega), Bool.and_false])]
    · rw [show (o : Int) + 1 + (n : Int) = ((o + 1 + n : Nat) : Int) by omega]
      refine s_made hL V A ho (by omega) (by omega) (qtop_in V.1 (by omega)) (by omega) ?_
      have h2 := ih (by omega)
      rw [show o + 1 + (n + 1) = (o + 1 + n) + 1 by omega] at h2
      have e := hpe (o + 1 + n)
      rw [decide_eq_true (by omega), Bool.true_and] at e
      rw [← e]
      refine ⟨fun q2 => ?_, fun q2 => ?_⟩
      · have e2 : p (o + 1 + n) = true := by have := qb_0.mp q2; simpa using this
        rw [qc_t e2] at h2
        refine ⟨by omega, by omega, ?_⟩
        rw [show ((o + 1 + n : Nat) : Int) + 1 = (o : Int) + 1 + ((n + 1 : Nat) : Int) by omega]
        exact h2
      · have e2 : p (o + 1 + n) = false := by have := qb_n0.mp q2; simpa using this
        rw [qc_f e2] at h2
        refine ⟨by omega, by omega, ?_⟩
        rw [show ((o + 1 + n : Nat) : Int) + 1 = (o : Int) + 1 + ((n + 1 : Nat) : Int) by omega, Int.add_zero]
        exact h2
  have h0 : qc p (o + 1) = 0 := by
    rw [qc_none (m := 0) (by omega) (fun x _ hx => by rw [hpe, decide_eq_false (by omega)]; rfl)]; rfl
  have := key 0 (by omega)
  rw [Nat.add_zero, h0] at this
  exact this
def qg2 (S : QZ) : Int := qsm (fun x => qgen S x && decide (qtop S < (x : Nat))) (fun x => (qcw S x : Nat)) 400
theorem s_grand (hL : qhL g) (V : QV2 S) (A : qat h i S) (k : Q (qg2 S) h) : q_tr l g (d + 4) n_X8_grandchildren [qr 8 i] h Q := by
  refine i_X8_grandchildren hL (fun G hG _ _ => b_X8_grandchildren_0 hG ?_)
  have hgc : qgc S ≤ 24 := V.2
  unfold qg2 at k
  generalize hp : (fun x => qgen S x && decide (qtop S < (x : Nat))) = p at k
  have hpe : ∀ y, p y = (qgen S y && decide (qtop S < (y : Nat))) := fun y => by rw [← hp]
  have hcw : ∀ x, qcw S x ≤ 900 := fun x => qc_le _ _
  refine q_dn (P := fun y => G 4 [some (qr 8 i), some (qi (qsm p (fun x => (qcw S x : Nat)) y)), some (qi (qc (qgen S) y : Nat))] [] h) (N := 400) (b_X8_grandchildren_4 hG ?_) (fun y hy ih => ?_)
  · rw [A.2.2.2.2.1]
    exact ⟨fun _ => k, fun q => absurd (Int.le_refl _) q⟩
  · cases hg : qgen S y with
    | false => rw [qsm_f (by rw [hpe, hg]; rfl), qc_f hg] at ih; exact ih
    | true =>
      have h1 : qc (qgen S) y < qgc S := qc_lt hy hg
      have h3 := qsm_bd (p := p) (f := fun x => (qcw S x : Int)) (a := 0) (b := 900) (n := y) (fun x hx hp => by have := hcw x; omega) (by omega) (by omega)
      have h4 := hcw y
      rw [qc_t hg] at ih
      refine b_X8_grandchildren_4 hG ?_
      rw [A.2.2.2.2.1, A.2.2.2.2.2 y hy hg, A.2.1]
      refine ⟨fun q => by omega, fun _ => ⟨by omega, fun q => ?_, fun q => ⟨by omega, s_cwo hL V A hg (by omega) ?_⟩⟩⟩
      · rw [qsm_f (by rw [hpe, hg, decide_eq_false (by omega)]; rfl)] at ih
        exact ⟨by omega, ih⟩
      · rw [qsm_t (by rw [hpe, hg, decide_eq_true (by omega)]; rfl)] at ih
        exact ⟨by omega, by omega, ih⟩
/-- they agree on all below n -/
def qag (S T : QZ) (n : Nat) : Bool := !(qex (fun y => S y != T y) n)
theorem qag_iff {S T : QZ} {n : Nat} : qag S T n = true ↔ ∀ y, y < n → S y = T y := by
  unfold qag
  rw [Bool.not_eq_true', qex_f]
  simp
theorem qag_f {S T : QZ} {n : Nat} (h : qag S T n = false) {m : Nat} (hm : n ≤ m) : qag S T m = false := by
  cases e : qag S T m with
  | false => rfl
  | true => rw [qag_iff.mpr (fun y hy => qag_iff.mp e y (by omega))] at h; cases h
/-- how many GAPS are alike from the least one on -/
def qcg (S T : QZ) : Nat := qc (fun x => qgap S x && qag S T (x + 1)) 400
theorem qcg_at {S T : QZ} {y : Nat} (hy : y ≤ 400) (ha : ∀ z, z < y → S z = T z) (hd : y = 400 ∨ S y ≠ T y) : qcg S T = qc (qgap S) y := by
  unfold qcg
  rw [qc_none (m := y) hy (fun x h1 h2 => ?_)]
  · refine qc_cong (fun x hx => ?_)
    rw [qag_iff.mpr (fun z hz => ha z (by omega)), Bool.and_true]
  · have : qag S T (x + 1) = false := by
      cases e : qag S T (x + 1) with
      | false => rfl
      | true =>
        rcases hd with q | q
        · omega
        · exact absurd (qag_iff.mp e y (by omega)) q
    rw [this, Bool.and_false]
theorem s_common {j : Int} {T : QZ} (hL : qhL g) (V : QV1 S) (A : qat h i S) (W : QV1 T) (B : qat h j T) (k : Q (qcg S T : Nat) h) : q_tr l g (d + 1) n_X8_commonGaps [qr 8 i, qr 8 j] h Q := by
  refine i_X8_commonGaps hL (fun G hG _ _ => b_X8_commonGaps_0 hG ?_)
  have hgn := qgn_le V
  refine q_dn (P := fun y => (∀ z, z < y → S z = T z) → G 4 [some (qr 8 i), some (qr 8 j), some (qi (qc (qgap S) y : Nat)), some (qi (qc (qgap S) y : Nat))] [] h) (N := 400) (fun hj => b_X8_commonGaps_4 hG ?_) (fun y hy ih hj => ?_) (fun z hz => absurd hz (Nat.not_lt_zero _))
  · rw [A.2.2.1]
    exact ⟨fun _ => q_qe k (by rw [qcg_at (Nat.le_refl _) hj (Or.inl rfl)]), fun q => absurd (Int.le_refl _) q⟩
  · have hcc : qc (qgap S) y = qc (qgap T) y := qc_cong (fun x hx => by unfold qgap; rw [hj x hx])
    by_cases hd : S y = T y
    · have hj2 : ∀ z, z < y + 1 → S z = T z := fun z hz => by
        by_cases e : z = y
        · rw [e]; exact hd
        · exact hj z (by omega)
      cases hg : qgap S y with
      | false => rw [qc_f hg] at ih; exact ih hj2
      | true =>
        have h1 := qgn_lt hy hg
        have hg2 : qgap T y = true := by unfold qgap at hg ⊢; rw [← hd]; exact hg
        have h2 := qgn_lt hy hg2
        rw [qc_t hg] at ih
        have e2 := B.2.2.2.1 y hy (qgap_f.mp hg2)
        rw [← hcc] at e2
        refine b_X8_commonGaps_4 hG ?_
        rw [A.2.2.1, B.2.2.1, A.2.2.2.1 y hy (qgap_f.mp hg), e2]
        exact ⟨fun q => by omega, fun _ => ⟨fun q => by omega, fun _ => ⟨by omega, by omega, fun q => absurd rfl q, fun _ => ⟨by omega, by omega, ih hj2⟩⟩⟩⟩
    · have e := qcg_at (by omega) hj (Or.inr hd)
      refine b_X8_commonGaps_4 hG ?_
      rw [A.2.2.1, B.2.2.1]
      refine ⟨fun _ => q_qe k (by rw [e]), fun q => ⟨fun _ => q_qe k (by rw [e]), fun q2 => ⟨by omega, by omega, fun _ => q_qe k (by rw [e]), fun q3 => ?_⟩⟩⟩
      exfalso
      obtain ⟨a, a1, a2, a3⟩ := qc_kth (p := qgap S) (n := 400) (k := qc (qgap S) y) (by unfold qgn at q; omega)
      obtain ⟨b, b1, b2, b3⟩ := qc_kth (p := qgap T) (n := 400) (k := qc (qgap S) y) (by unfold qgn at q2; omega)
      have e1 := A.2.2.2.1 a a1 (qgap_f.mp a2)
      have e2 := B.2.2.2.1 b b1 (qgap_f.mp b2)
      rw [a3] at e1
      rw [b3] at e2
      have hab : a = b := by omega
      subst hab
      have lt : ¬ a < y := fun q => by have := qc_lt q a2; omega
      have hay : a = y := by
        rcases Nat.lt_or_ge y a with q | q
        · exfalso
          have hns : qgap S y = false := by
            cases e : qgap S y with
            | false => rfl
            | true => have := qc_lt q e; omega
          have hnt : qgap T y = false := by
            cases e : qgap T y with
            | false => rfl
            | true => have := qc_lt q e; omega
          exact hd (by rw [qgap_t.mp hns, qgap_t.mp hnt])
        · omega
      rw [hay] at a2 b2
      exact hd (by rw [qgap_f.mp a2, qgap_f.mp b2])
/-- all of the one are of the other -/
def qsub (S T : QZ) : Bool := !(qex (fun x => S x && !T x) 400)
theorem qsub_iff {S T : QZ} : qsub S T = true ↔ ∀ x, x < 400 → S x = true → T x = true := by
  unfold qsub
  rw [Bool.not_eq_true', qex_f]
  constructor
  · intro h x hx hs
    have := h x hx
    rw [hs] at this
    simpa using this
  · intro h x hx
    cases e : S x with
    | false => rfl
    | true => rw [h x hx e]; rfl
theorem s_hasAll {j : Int} {T : QZ} (hL : qhL g) (V : QV1 S) (A : qat h i S) (W : QV1 T) (B : qat h j T) (k : Q (qb (qsub T S)) h) : q_tr l g (d + 2) n_X8_hasAllOf [qr 8 i, qr 8 j] h Q := by
  refine i_X8_hasAllOf hL (fun G hG _ _ => b_X8_hasAllOf_0 hG ?_)
  have hgn := qgn_le V
  refine q_dn (P := fun y => (∀ z, z < y → T z = true → S z = true) → G 2 [some (qr 8 i), some (qr 8 j), some (qi (qc (qgap S) y : Nat))] [] h) (N := 400) (fun hj => b_X8_hasAllOf_2 hG ?_) (fun y hy ih hj => ?_) (fun z hz => absurd hz (Nat.not_lt_zero _))
  · rw [A.2.2.1]
    exact ⟨fun _ => ⟨Or.inr rfl, q_qe k (by rw [qsub_iff.mpr hj]; rfl)⟩, fun q => absurd (Int.le_refl _) q⟩
  · cases hg : qgap S y with
    | false =>
      rw [qc_f hg] at ih
      refine ih (fun z hz q => ?_)
      by_cases e : z = y
      · rw [e]; exact qgap_t.mp hg
      · exact hj z (by omega) q
    | true =>
      have h1 := qgn_lt hy hg
      rw [qc_t hg] at ih
      refine b_X8_hasAllOf_2 hG ?_
      rw [A.2.2.1, A.2.2.2.1 y hy (qgap_f.mp hg)]
      refine ⟨fun q => by omega, fun _ => ⟨by omega, s_holds hL W B ?_⟩⟩
      rw [qin_nat]
      refine ⟨fun q => ⟨by omega, ih (fun z hz q2 => ?_)⟩, fun q => ⟨Or.inl rfl, q_qe k ?_⟩⟩
      · by_cases e : z = y
        · rw [e, qb_0.mp q] at q2; cases q2
        · exact hj z (by omega) q2
      · cases e : qsub T S with
        | false => rfl
        | true =>
          have := qsub_iff.mp e y hy (qb_n0.mp q)
          rw [qgap_f.mp hg] at this; cases this
end QSet3
