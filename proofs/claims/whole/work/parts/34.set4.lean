/-! StepSet: settling -/
theorem qu_at {h : QM} {r : Nat} {i j v : Int} : qu h r i j v r i j = v := by simp [qu]
theorem qu_ne {h : QM} {r r' : Nat} {i j v i' j' : Int} (e : ¬ (r' = r ∧ i' = i ∧ j' = j)) : qu h r i j v r' i' j' = h r' i' j' := by simp only [qu, if_neg e]
/-- a SET of which the row ends at 400 -/
def QV0 (S : QZ) : Prop := S 0 = true ∧ (∀ a b, S a = true → S b = true → S (a + b) = true) ∧ (∀ x, 400 ≤ x → S x = true)
/-- it goes not too far -/
def qacc (S : QZ) : Bool := decide (qtop S < 200) && decide (qgc S ≤ 24)
theorem qv1_of {S : QZ} (Z : QV0 S) (h : qtop S < 200) : QV1 S := by
  refine ⟨Z.1, Z.2.1, fun x hx => ?_⟩
  rcases Nat.lt_or_ge x 400 with a | a
  · have := qmx_no (p := qgap S) a (by unfold qtop at h; omega)
    unfold qgap at this
    simpa using this
  · exact Z.2.2 x a
theorem qv0_of {S : QZ} (V : QV1 S) : QV0 S := ⟨V.1, V.2.1, fun x hx => V.2.2 x (by omega)⟩
theorem qacc_iff {S : QZ} (Z : QV0 S) : qacc S = true ↔ QV2 S := by
  unfold qacc
  rw [Bool.and_eq_true, decide_eq_true_eq, decide_eq_true_eq]
  constructor
  · rintro ⟨h1, h2⟩
    exact ⟨qv1_of Z h1, h2⟩
  · rintro ⟨h1, h2⟩
    exact ⟨(qtop_bd h1).2, h2⟩
/-- no more than one object's own is changed -/
def qf8 (i : Int) (h h' : QM) : Prop := ∀ r k j, (k ≠ i ∨ (r ≠ 8 ∧ r ≠ 30 ∧ r ≠ 31 ∧ r ≠ 32)) → h' r k j = h r k j
theorem qf8_refl (i : Int) (h : QM) : qf8 i h h := fun _ _ _ _ => rfl
theorem qf8_trans {i : Int} {h1 h2 h3 : QM} (a : qf8 i h1 h2) (b : qf8 i h2 h3) : qf8 i h1 h3 := fun r k j e => by rw [b r k j e, a r k j e]
theorem qf8_qu {i : Int} {h : QM} {r : Nat} {j v : Int} (e : r = 8 ∨ r = 30 ∨ r = 31 ∨ r = 32) : qf8 i h (qu h r i j v) := fun r' k j' q => qu_ne (by omega)
theorem qf8_at {i k : Int} {h h' : QM} {S : QZ} (f : qf8 i h h') (e : k ≠ i) (a : qat h k S) : qat h' k S := qat_fr (h := h) (h' := h') (i := k) a (fun r j _ => f r k j (Or.inl e))
/-- the first GENERATORS and their number are changed alone -/
def qf32 (i : Int) (h h' : QM) : Prop := ∀ r k j, ¬ (k = i ∧ (r = 32 ∨ (r = 8 ∧ j = 4))) → h' r k j = h r k j
def qend (S : QZ) (x : Nat) : Int := if qc (qgen S) x = 0 then 400 else min 400 (qtop S + qms S + 1)
section QSet4
variable {l : Launch} {g : QG} {d : Nat} {h : QM} {i : Int} {S : QZ} {Q : Int → QM → Prop}
theorem s_find (hL : qhL g) (V : QV1 S) (R : ∀ x : Nat, x < 400 → h 30 i x = qb (S x)) (ht : h 8 i 5 = qtop S) (h0 : h 8 i 4 = 0)
    (k : ∀ h', qf32 i h h' → (qgc S ≤ 24 → h' 8 i 4 = qgc S ∧ ∀ x : Nat, x < 400 → qgen S x = true → h' 32 i (qc (qgen S) x) = x) → Q (qb (decide (qgc S ≤ 24))) h') : q_tr l g (d + 1) n_X8_findGenerators [qr 8 i] h Q := by
  refine i_X8_findGenerators hL (fun G hG _ _ => b_X8_findGenerators_0 hG ?_)
  obtain ⟨m1, m2, m3, m4, m5⟩ := qms_ok V
  have htb := qtop_bd V
  have hfirst := qgen_first V
  let I : Nat → QM → Prop := fun x h1 => qf32 i h h1 ∧ h1 8 i 4 = (qc (qgen S) x : Nat) ∧ (∀ z : Nat, z < x → qgen S z = true → h1 32 i (qc (qgen S) z) = z) ∧ qc (qgen S) x ≤ 24
  have hlast : ∀ x, x ≤ 400 → qend S x ≤ x → qgc S = qc (qgen S) x := by
    intro x hx he
    unfold qend at he
    unfold qgc
    by_cases e : qc (qgen S) x = 0
    · rw [if_pos e] at he
      have : x = 400 := by omega
      rw [this]
    · rw [if_neg e] at he
      rw [qc_none (m := x) hx (fun z z1 z2 => ?_)]
      cases hz : qgen S z with
      | false => rfl
      | true =>
        have := qgen_top V m1 m3 hz
        have hmx : qms S < x := by
          rcases Nat.lt_or_ge (qms S) x with q | q
          · exact q
          · have := qc_mono (qgen S) q
            omega
        omega
  have hfin : ∀ x h1, x ≤ 400 → I x h1 → qend S x ≤ x → Q 1 h1 := by
    rintro x h1 hx ⟨a1, a2, a3, a4⟩ he
    have e := hlast x hx he
    refine q_qe (k h1 a1 (fun _ => ⟨by rw [a2, e], fun z hz hgz => a3 z ?_ hgz⟩)) (by rw [e, decide_eq_true a4]; rfl)
    rcases Nat.lt_or_ge z x with q | q
    · exact q
    · have h2 := qc_lt hz hgz
      have h3 := qc_mono (qgen S) q
      unfold qgc at e
      omega
  have key : ∀ h1, I (0 + 1) h1 → G 6 [some (qr 8 i), some (qi (qend S (0 + 1))), some (qi ((0 + 1 : Nat) : Int)), none, none] [] h1 := by
    refine q_dn (P := fun n => ∀ h1, I (n + 1) h1 → G 6 [some (qr 8 i), some (qi (qend S (n + 1))), some (qi ((n + 1 : Nat) : Int)), none, none] [] h1) (N := 399) (fun h1 hI => b_X8_findGenerators_6 hG ?_) (fun n hn ih h1 hI => b_X8_findGenerators_6 hG ?_)
    · have : qend S (399 + 1) ≤ ((399 + 1 : Nat) : Int) := by unfold qend; split <;> omega
      exact ⟨fun q => ⟨Or.inr rfl, hfin _ h1 (by omega) hI this⟩, fun q => absurd this q⟩
    · refine ⟨fun q => ⟨Or.inr rfl, hfin _ h1 (by omega) hI q⟩, fun q => ⟨by omega, ?_⟩⟩
      obtain ⟨a1, a2, a3, a4⟩ := hI
      have hrow : ∀ z : Nat, z < 400 → h1 30 i z = qb (S z) := fun z hz => by rw [a1 30 i z (by omega)]; exact R z hz
      have htop : h1 8 i 5 = qtop S := by rw [a1 8 i 5 (by omega)]; exact ht
      rw [hrow (n + 1) (by omega)]
      -- once it is known whether it is a GENERATOR
      have dec : G 82 [some (qr 8 i), some (qi (qend S (n + 1))), some (qi ((n + 1 : Nat) : Int)), some (qi (qb (!qgen S (n + 1)))), none] [] h1 := by
        refine b_X8_findGenerators_82 hG ?_
        cases hgx : qgen S (n + 1) with
        | false =>
          refine ⟨fun _ => b_X8_findGenerators_97 hG ⟨fun _ => ⟨by omega, ?_⟩, fun q2 => absurd q2 (by decide)⟩, fun q2 => absurd q2 (by decide)⟩
          have e : qend S (n + 1 + 1) = qend S (n + 1) := by unfold qend; rw [qc_f hgx]
          have := ih h1 ⟨a1, by rw [qc_f hgx]; exact a2, fun z z1 z2 => a3 z (by
            rcases Nat.lt_or_ge z (n + 1) with w | w
            · exact w
            · have : z = n + 1 := by omega
              rw [this, hgx] at z2; cases z2) z2, by rw [qc_f hgx]; exact a4⟩
          rw [e] at this
          exact this
        | true =>
          refine ⟨fun q2 => absurd rfl q2, fun _ => ⟨fun q3 => b_X8_findGenerators_97 hG ⟨fun q4 => absurd rfl q4, fun _ => ?_⟩, fun q3 => ⟨Or.inl rfl, ?_⟩⟩⟩
          · rw [a2] at q3 ⊢
            have hcc := qc_t hgx
            generalize hcn : qc (qgen S) (n + 1) = c at *
            have e1 : (qu h1 32 i (c : Int) ((n + 1 : Nat) : Int)) 8 i 4 = c := by rw [qu_ne (by omega)]; exact a2
            rw [e1]
            have e2 : (qu (qu h1 32 i (c : Int) ((n + 1 : Nat) : Int)) 8 i 4 ((c : Int) + 1)) 8 i 5 = qtop S := by rw [qu_ne (by omega), qu_ne (by omega)]; exact htop
            have e3 : (qu (qu h1 32 i (c : Int) ((n + 1 : Nat) : Int)) 8 i 4 ((c : Int) + 1)) 32 i 0 = qms S := by
              rw [qu_ne (by omega)]
              by_cases hc0 : c = 0
              · subst hc0
                rw [show ((0 : Nat) : Int) = 0 from rfl, qu_at]
                have := qc_one m5 hgx (by rw [hfirst, hcn])
                rw [this]
              · rw [qu_ne (by omega)]
                have hmx : qms S < n + 1 := by
                  rcases Nat.lt_or_ge (qms S) (n + 1) with w | w
                  · exact w
                  · have := qc_mono (qgen S) w
                    omega
                have := a3 _ hmx m5
                rw [hfirst] at this
                exact this
            rw [e2, e3]
            refine ⟨by omega, by omega, by omega, by omega, by omega, by omega, ?_⟩
            have := ih (qu (qu h1 32 i (c : Int) ((n + 1 : Nat) : Int)) 8 i 4 ((c : Int) + 1)) ⟨fun r kk j e => by rw [qu_ne (by omega), qu_ne (by omega)]; exact a1 r kk j e, by rw [qu_at, hcc]; rfl, fun z z1 z2 => ?_, by omega⟩
            · unfold qend at this
              rw [hcc, if_neg (by omega)] at this
              exact this
            · rw [qu_ne (by omega)]
              by_cases w : z = n + 1
              · rw [w, hcn, qu_at]
              · have w1 := qc_lt (show z < n + 1 by omega) z2
                rw [qu_ne (by omega)]
                exact a3 z (by omega) z2
          · refine q_qe (k h1 a1 (fun q4 => ?_)) ?_
            · have := qc_lt (show n + 1 < 400 by omega) hgx
              unfold qgc at q4
              omega
            · rw [decide_eq_false]
              · rfl
              · have := qc_lt (show n + 1 < 400 by omega) hgx
                unfold qgc
                omega
      cases hSx : S (n + 1) with
      | false =>
        have hgx : qgen S (n + 1) = false := by
          cases e : qgen S (n + 1) with
          | false => rfl
          | true => rw [(qgen_in e).2] at hSx; cases hSx
        rw [hgx] at dec
        refine ⟨fun q2 => absurd rfl q2, fun _ => b_X8_findGenerators_29 hG ⟨fun _ => dec, fun _ => ⟨fun _ => dec, fun q2 => absurd q2 (by decide)⟩⟩⟩
      | true =>
        refine ⟨fun _ => ?_, fun q2 => absurd q2 (by decide)⟩
        refine q_dn (P := fun y => (∀ z, z < y → qgen S z = true → S (n + 1 - z) = false) → G 29 [some (qr 8 i), some (qi (qend S (n + 1))), some (qi ((n + 1 : Nat) : Int)), some (qi 0), some (qi (qc (qgen S) y : Nat))] [] h1) (N := n + 1) (fun hno => b_X8_findGenerators_29 hG ?_) (fun y hy ihy hno => ?_) (fun z hz => absurd hz (Nat.not_lt_zero _))
        · rw [a2]
          refine ⟨fun _ => ?_, fun q2 => absurd (Int.le_refl _) q2⟩
          have hgx : qgen S (n + 1) = true := by
            obtain ⟨z, z1, z2, z3⟩ := qgen_dec V (n + 1 + 1) (n + 1) (by omega) (by omega) hSx
            rcases Nat.lt_or_ge z (n + 1) with w | w
            · rw [hno z w z1] at z3; cases z3
            · rw [show n + 1 = z by omega]; exact z1
          rw [hgx] at dec
          exact dec
        · cases hgy : qgen S y with
          | false =>
            rw [qc_f hgy] at ihy
            refine ihy (fun z z1 z2 => ?_)
            by_cases w : z = y
            · rw [w, hgy] at z2; cases z2
            · exact hno z (by omega) z2
          | true =>
            have h5 := qc_lt hy hgy
            have h6 := (qgen_in hgy).1
            rw [qc_t hgy] at ihy
            have nxt : S (n + 1 - y) = false → (∀ z, z < y + 1 → qgen S z = true → S (n + 1 - z) = false) := fun q z z1 z2 => by
              by_cases w : z = y
              · rw [w]; exact q
              · exact hno z (by omega) z2
            refine b_X8_findGenerators_29 hG ?_
            rw [a2, a3 y hy hgy]
            refine ⟨fun q2 => by omega, fun _ => ⟨fun q2 => absurd rfl q2, fun _ => ⟨by omega, fun q2 => by omega, fun _ => ?_⟩⟩⟩
            rw [show ((n + 1 : Nat) : Int) - (y : Int) = ((n + 1 - y : Nat) : Int) by omega, hrow _ (by omega)]
            refine ⟨by omega, by omega, by omega, fun q2 => ⟨by omega, ihy (nxt (qb_0.mp q2))⟩, fun q2 => ⟨by omega, ?_⟩⟩
            have hgx : qgen S (n + 1) = false := by
              cases e : qgen S (n + 1) with
              | false => rfl
              | true => rw [(qgen_iff.mp e).2.2 y h6 hy (qgen_in hgy).2] at q2; exact absurd rfl q2
            rw [hgx] at dec
            exact b_X8_findGenerators_29 hG ⟨fun _ => dec, fun _ => ⟨fun _ => dec, fun q3 => absurd q3 (by decide)⟩⟩
  have e0 : qc (qgen S) (0 + 1) = 0 := by
    rw [qc_f]
    · rfl
    · cases e : qgen S 0 with
      | false => rfl
      | true => exact absurd (qgen_in e).1 (Nat.lt_irrefl 0)
  have := key h ⟨fun _ _ _ _ => rfl, by rw [e0]; exact h0, fun z z1 z2 => ?_, by omega⟩
  · unfold qend at this
    rw [e0] at this
    exact this
  · have : z = 0 := by omega
    rw [this] at z2
    exact absurd (qgen_in z2).1 (Nat.lt_irrefl 0)
theorem s_settle (hL : qhL g) (Z : QV0 S) (R : ∀ x : Nat, x < 400 → h 30 i x = qb (S x)) (k : ∀ h', qf8 i h h' → (∀ j, h' 30 i j = h 30 i j) → (qacc S = true → qat h' i S) → Q (qb (qacc S)) h') : q_tr l g (d + 2) n_X8_settle [qr 8 i] h Q := by
  refine i_X8_settle hL (fun G hG _ _ => b_X8_settle_0 hG ?_)
  let F : QM → Prop := fun h1 => qf8 i h h1 ∧ (∀ j, h1 30 i j = h 30 i j)
  -- the GAPS
  have low : qtop S < 200 → ∀ h1, (F h1 ∧ h1 8 i 5 = qtop S ∧ h1 8 i 4 = 0 ∧ h1 8 i 3 = (qc (qgap S) (0 + 1) : Nat) ∧ ∀ z : Nat, z < 0 + 1 → S z = false → h1 31 i (qc (qgap S) z) = z) → G 58 [some (qr 8 i), some (qi ((0 + 1 : Nat) : Int))] [] h1 := by
    intro ht
    have V := qv1_of Z ht
    have htb := qtop_bd V
    refine q_dn (P := fun n => ∀ h1, (F h1 ∧ h1 8 i 5 = qtop S ∧ h1 8 i 4 = 0 ∧ h1 8 i 3 = (qc (qgap S) (n + 1) : Nat) ∧ ∀ z : Nat, z < n + 1 → S z = false → h1 31 i (qc (qgap S) z) = z) → G 58 [some (qr 8 i), some (qi ((n + 1 : Nat) : Int))] [] h1) (N := 399) (fun h1 hI => b_X8_settle_58 hG ?_) (fun n hn ih h1 hI => b_X8_settle_58 hG ?_)
    · obtain ⟨⟨f1, f2⟩, a1, a2, a3, a4⟩ := hI
      rw [a1]
      refine ⟨fun _ => s_find hL V (fun x hx => by rw [f2]; exact R x hx) a1 a2 (fun h2 b1 b2 => ⟨qb_01 _, ?_⟩), fun q => by omega⟩
      refine q_qe (k h2 (qf8_trans f1 (fun r kk j e => b1 r kk j (by omega))) (fun j => by rw [b1 30 i j (by omega)]; exact f2 j) (fun q => ?_)) ?_
      · have b3 := b2 (by unfold qacc at q; simp at q; exact q.2)
        exact ⟨fun x hx => by rw [b1 30 i x (by omega), f2]; exact R x hx, by rw [b1 8 i 5 (by omega)]; exact a1, by rw [b1 8 i 3 (by omega), a3]; rfl, fun x hx hs => by rw [b1 31 i _ (by omega)]; exact a4 x hx hs, b3.1, b3.2⟩
      · unfold qacc; rw [decide_eq_true ht, Bool.true_and]
    · obtain ⟨⟨f1, f2⟩, a1, a2, a3, a4⟩ := hI
      rw [a1]
      refine ⟨fun q => ?_, fun q => ⟨by omega, ?_⟩⟩
      · have no : ∀ z, n + 1 ≤ z → S z = true := fun z hz => qtop_in V (by omega)
        refine s_find hL V (fun x hx => by rw [f2]; exact R x hx) a1 a2 (fun h2 b1 b2 => ⟨qb_01 _, ?_⟩)
        refine q_qe (k h2 (qf8_trans f1 (fun r kk j e => b1 r kk j (by omega))) (fun j => by rw [b1 30 i j (by omega)]; exact f2 j) (fun q => ?_)) ?_
        · have b3 := b2 (by unfold qacc at q; simp at q; exact q.2)
          refine ⟨fun x hx => by rw [b1 30 i x (by omega), f2]; exact R x hx, by rw [b1 8 i 5 (by omega)]; exact a1, ?_, fun x hx hs => ?_, b3.1, b3.2⟩
          · rw [b1 8 i 3 (by omega), a3]
            unfold qgn
            rw [qc_none (m := n + 1) (n := 400) (by omega) (fun z z1 _ => qgap_t.mpr (no z z1))]
          · rw [b1 31 i _ (by omega)]
            refine a4 x ?_ hs
            rcases Nat.lt_or_ge x (n + 1) with w | w
            · exact w
            · rw [no x w] at hs; cases hs
        · unfold qacc; rw [decide_eq_true ht, Bool.true_and]
      · rw [f2, R (n + 1) (by omega)]
        have hc : qc (qgap S) (n + 1) ≤ n + 1 := qc_le _ _
        have hc2 : qc (qgap S) (n + 1) < 200 := by omega
        refine ⟨fun q2 => ⟨by omega, ?_⟩, fun q2 => ?_⟩
        · have hs := qb_n0.mp q2
          have hg := qgap_t.mpr hs
          refine ih h1 ⟨⟨f1, f2⟩, a1, a2, by rw [qc_f hg]; exact a3, fun z z1 z2 => a4 z ?_ z2⟩
          rcases Nat.lt_or_ge z (n + 1) with w | w
          · exact w
          · have : z = n + 1 := by omega
            rw [this, hs] at z2; cases z2
        · have hs := qb_0.mp q2
          have hg := qgap_f.mpr hs
          rw [a3]
          have e1 : (qu h1 31 i (qc (qgap S) (n + 1) : Nat) ((n + 1 : Nat) : Int)) 8 i 3 = (qc (qgap S) (n + 1) : Nat) := by rw [qu_ne (by omega)]; exact a3
          rw [e1]
          refine ⟨by omega, by omega, by omega, ?_⟩
          refine ih _ ⟨⟨qf8_trans f1 (qf8_trans (qf8_qu (by omega)) (qf8_qu (by omega))), fun j => by rw [qu_ne (by omega), qu_ne (by omega)]; exact f2 j⟩, by rw [qu_ne (by omega), qu_ne (by omega)]; exact a1, by rw [qu_ne (by omega), qu_ne (by omega)]; exact a2, by rw [qu_at, qc_t hg]; rfl, fun z z1 z2 => ?_⟩
          rw [qu_ne (by omega)]
          by_cases w : z = n + 1
          · rw [w, qu_at]
          · have := qc_lt (show z < n + 1 by omega) (qgap_f.mpr z2)
            rw [qu_ne (by omega)]
            exact a4 z (by omega) z2
  have up : ∀ h1, (F h1 ∧ h1 8 i 5 = qmx (qgap S) 0 ∧ h1 8 i 4 = 0 ∧ h1 8 i 3 = 0) → G 17 [some (qr 8 i), some (qi ((0 : Nat) : Int))] [] h1 := by
    refine q_dn (P := fun n => ∀ h1, (F h1 ∧ h1 8 i 5 = qmx (qgap S) n ∧ h1 8 i 4 = 0 ∧ h1 8 i 3 = 0) → G 17 [some (qr 8 i), some (qi (n : Int))] [] h1) (N := 400) (fun h1 hI => b_X8_settle_17 hG ?_) (fun n hn ih h1 hI => b_X8_settle_17 hG ?_)
    · obtain ⟨⟨f1, f2⟩, a1, a2, a3⟩ := hI
      have a1 : h1 8 i 5 = qtop S := a1
      rw [a1]
      refine ⟨fun _ => ⟨fun q => low q h1 ⟨⟨f1, f2⟩, a1, a2, ?_, fun z z1 z2 => ?_⟩, fun q => ⟨Or.inl rfl, q_qe (k h1 f1 f2 (fun q2 => ?_)) ?_⟩⟩, fun q => absurd (Int.le_refl _) q⟩
      · rw [a3, qc_f (qgap_t.mpr Z.1)]; rfl
      · have : z = 0 := by omega
        rw [this, Z.1] at z2; cases z2
      · unfold qacc at q2; rw [decide_eq_false q] at q2; cases q2
      · unfold qacc; rw [decide_eq_false q]; rfl
    · obtain ⟨⟨f1, f2⟩, a1, a2, a3⟩ := hI
      rw [f2, R n hn]
      refine ⟨fun q => by omega, fun _ => ⟨by omega, fun q => ⟨by omega, ih h1 ⟨⟨f1, f2⟩, ?_, a2, a3⟩⟩, fun q => ⟨by omega, ih _ ⟨⟨qf8_trans f1 (qf8_qu (by omega)), fun j => by rw [qu_ne (by omega)]; exact f2 j⟩, ?_, by rw [qu_ne (by omega)]; exact a2, by rw [qu_ne (by omega)]; exact a3⟩⟩⟩⟩
      · rw [a1]
        show _ = (if qgap S n then (n : Int) else qmx (qgap S) n)
        rw [qgap_t.mpr (qb_n0.mp q)]; simp
      · rw [qu_at]
        show _ = (if qgap S n then (n : Int) else qmx (qgap S) n)
        rw [qgap_f.mpr (qb_0.mp q)]; simp
  refine up _ ⟨⟨qf8_trans (qf8_trans (qf8_qu (by omega)) (qf8_qu (by omega))) (qf8_qu (by omega)), fun j => by rw [qu_ne (by omega), qu_ne (by omega), qu_ne (by omega)]⟩, ?_, ?_, ?_⟩
  · rw [qu_ne (by omega), qu_ne (by omega), qu_at]; rfl
  · rw [qu_at]
  · rw [qu_ne (by omega), qu_at]
end QSet4
