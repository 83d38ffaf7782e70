/-! the model: what one line makes -/
def qwo (h : QM) (tb : Nat → Int) (n f t : Nat) : Prop := h 12 0 14 = f ∧ h 12 0 15 = qPl tb n t
def qout2 (h : QM) (tb : Nat → Int) (n : Nat) (H : Nat → QZ) (i w U B o1 o2 : Nat) : Prop :=
  if qgoods w (H o1) (fun j => qVa tb n (U + j)) B < B then qwo h tb n 5 (U + qgoods w (H o1) (fun j => qVa tb n (U + j)) B) else
  (∀ j, j < B → qright w (H o1) (qVa tb n (U + j)) = true) ∧ (h 12 0 14 = 0 ∧ q6 (qres w (H o1) (H o2) (fun j => qVa tb n (U + j)) B) ∧ qmr h 55 (4 * i) (qres w (H o1) (H o2) (fun j => qVa tb n (U + j)) B) ∨ qwo h tb n 6 (U + B) ∧ qacc (qres w (H o1) (H o2) (fun j => qVa tb n (U + j)) B) = false)
/-- after a line: a fault, or the set -/
def qout (h : QM) (tb : Nat → Int) (n : Nat) (H : Nat → QZ) (i w t U B o1 o2 : Nat) : Prop :=
  if 2 ≤ qdue w ∧ o1 = i then qwo h tb n 4 (t + 2) else if 3 ≤ qdue w ∧ o2 = i then qwo h tb n 4 (t + 3) else qout2 h tb n H i w U B o1 o2
theorem q6_of {S : QZ} (h : ∀ x, 200 ≤ x → S x = true) : q6 S := fun _ => h
section MM4
variable {l : Launch} {g : QG} {d : Nat} {h : QM} {Q : Int → QM → Prop} {n M : Nat} {tb : Nat → Int} {H : Nat → QZ}
theorem m_meansOne {i t w U B : Nat} (hL : qhL g) (C : qcut h tb n M) (M4 : M ≤ 400) (hi : i < 6) (et : qst (qK tb n) i = t) (ew : qK tb n t = w + 20) (hw : w ≤ 6) (eU : U = t + 1 + qdue w) (eM : U + B < M) (kn : ∀ j, j < qdue w → qK tb n (t + 1 + j) = 1) (kv : ∀ j, j < B → qK tb n (U + j) = 2) (ke : qK tb n (U + B) = 4) (hmin : qimin w ≤ B) (hmax : B ≤ qimax w) (h0 : h 12 0 12 = 0) (h1 : h 12 0 14 = 0) (hN : ∀ j : Nat, j < i → h 53 0 j = (qN7 tb n (qst (qK tb n) j + 1) : Nat)) (HV : ∀ j, j < i → QV2 (H j) ∧ qmr h 55 (4 * j) (H j))
    (k : ∀ h', qmq (4 * i) h h' → qout h' tb n H i w t U B (qown (qNU tb n) (qK tb n) i (t + 2)) (qown (qNU tb n) (qK tb n) i (t + 3)) → Q 0 h') : q_tr l g (d + 4) n_X12_meansOne [qr 12 0, qi (i : Int), qi (t : Int)] h Q := by
  refine i_X12_meansOne hL (fun G hG _ _ => b_X12_meansOne_0 hG ?_)
  have hd := qdue_bd w
  have hm10 := qimax_bd w
  have a20 : 4 * i ≤ 20 := by omega
  rw [(C t (by omega)).1, ew]
  unfold qout at k
  generalize ho1 : qown (qNU tb n) (qK tb n) i (t + 2) = o1 at *
  generalize ho2 : qown (qNU tb n) (qK tb n) i (t + 3) = o2 at *
  have o1i : o1 ≤ i := by rw [← ho1]; exact (qown_ok _ _ _ _).1
  have o2i : o2 ≤ i := by rw [← ho2]; exact (qown_ok _ _ _ _).1
  -- with the set of the first name put into the row
  have sw : 1 ≤ w → o1 < i → (3 ≤ qdue w → o2 < i) → ∀ (z7 : Int) (c : Int), (4 ≤ w → z7 = qVa tb n (U + 0)) → (3 ≤ qdue w → c = ((4 * o2 : Nat) : Int)) → ∀ h2, qrf 55 (4 * i) h h2 → qmr h2 55 (4 * i) (H o1) → G 87 [some (qr 12 0), none, some (qi (t : Int)), some (qi ((4 * i : Nat) : Int)), some (qi ((w + 20 : Nat) : Int)), some (qi ((4 * o1 : Nat) : Int)), some (qi c), some (qi z7), some (qi ((4 : Nat) : Int)), none] [] h2 := by
    intro hw1 l1 l2 z7 c e7 ec h2 f2 R2
    have k2 : ∀ h', qmq (4 * i) h h' → qout2 h' tb n H i w U B o1 o2 → Q 0 h' := fun h' f' o => k h' f' (by rw [if_neg (fun z => by omega), if_neg (fun z => by have := l2 z.1; omega)]; exact o)
    obtain ⟨VA, RA⟩ := HV o1 l1
    have RA2 := qmr_rf RA f2 (by omega)
    have f2q := qmq_f f2
    have C2 := qcut_w C f2q
    have e12 : h2 12 0 12 = 0 := by rw [f2 12 0 12 (by omega)]; exact h0
    have e14 : h2 12 0 14 = 0 := by rw [f2 12 0 14 (by omega)]; exact h1
    have gd : ∀ q : (∀ j, j < B → qright w (H o1) (qVa tb n (U + j)) = true), ∀ h', qmq (4 * i) h h' → (h' 12 0 14 = 0 ∧ q6 (qres w (H o1) (H o2) (fun j => qVa tb n (U + j)) B) ∧ qmr h' 55 (4 * i) (qres w (H o1) (H o2) (fun j => qVa tb n (U + j)) B) ∨ qwo h' tb n 6 (U + B) ∧ qacc (qres w (H o1) (H o2) (fun j => qVa tb n (U + j)) B) = false) → Q 0 h' := fun q h' f' o => k2 h' f' (by unfold qout2; rw [qgoods_all q, if_neg (Nat.lt_irrefl _)]; exact ⟨q, o⟩)
    -- done without a fault
    have good : ∀ q : (∀ j, j < B → qright w (H o1) (qVa tb n (U + j)) = true), ∀ R : QZ, qres w (H o1) (H o2) (fun j => qVa tb n (U + j)) B = R → q6 R → ∀ h3, qrf 55 (4 * i) h2 h3 → qmr h3 55 (4 * i) R → Q 0 h3 := fun q R eR R6 h3 f3 R3 => gd q h3 (qmq_trans f2q (qmq_f f3)) (Or.inl ⟨by rw [f3 12 0 14 (by omega)]; exact e14, by rw [eR]; exact R6, by rw [eR]; exact R3⟩)
    have noint : w ≤ 3 → ∀ j, j < B → qright w (H o1) (qVa tb n (U + j)) = true := fun h3 j hj => by
      have : qimax w = 0 := by unfold qimax; rw [if_neg (by omega), if_neg (by omega)]
      omega
    have one : 4 ≤ w → B = 1 := fun h4 => by
      have : qimax w = 1 := by unfold qimax; rw [if_neg (by omega), if_pos (by omega)]
      have : qimin w = 1 := by unfold qimin; rw [if_pos (by omega)]
      omega
    have U3 : 3 ≤ w → U = t + 3 := fun h3 => by
      have : qdue w = 2 := by unfold qdue; rw [if_neg (by omega), if_neg (by omega)]
      omega
    have allr : 4 ≤ w → qright w (H o1) (qVa tb n (U + 0)) = true → ∀ j, j < B → qright w (H o1) (qVa tb n (U + j)) = true := fun h4 hr j hj => by
      have := one h4
      rw [show j = 0 by omega]; exact hr
    have wrong : 4 ≤ w → qright w (H o1) (qVa tb n (U + 0)) = false → ∀ h', qmq (4 * i) h h' → qwo h' tb n 5 (t + 3) → Q 0 h' := fun h4 hr h' f' o => by
      have hB := one h4
      have e := qgoods_is (w := w) (A := H o1) (a := fun j => qVa tb n (U + j)) (b := B) (j := 0) (by omega) (fun j' hj' => absurd hj' (Nat.not_lt_zero _)) hr
      refine k2 h' f' ?_
      unfold qout2
      rw [e, if_pos (by omega), U3 (by omega)]
      exact o
    have v0 : 4 ≤ w → 0 ≤ qVa tb n (U + 0) ∧ qVa tb n (U + 0) < 10000 := fun h4 => qVa_bd (kv 0 (by have := one h4; omega))
    refine b_X12_meansOne_87 hG ⟨fun _ => ⟨fun q => ?_, fun q => ?_, fun q => ?_, fun q => ?_, fun q => ?_, fun q => ?_, trivial⟩, fun q => by omega⟩
    · -- drop
      have hw6 : w = 6 := by omega
      subst hw6
      rw [e7 (by omega)]
      obtain ⟨p0, p1⟩ := v0 (by omega)
      have hB := one (by omega)
      have rt : qright 6 (H o1) (qVa tb n (U + 0)) = qin (qgen (H o1)) (qVa tb n (U + 0)) := rfl
      refine m_isGen hL ⟨Or.inr rfl, by omega⟩ RA2 (qm6_1 VA.1) ?_
      rw [← rt]
      refine ⟨fun q2 => ?_, fun q2 => ⟨by omega, ?_⟩⟩
      · have q3 := qb_n0.mp q2
        have q4 := q3
        rw [rt, qin_pos p0] at q4
        obtain ⟨z1, z2, z3, z4⟩ := qgen_v0 VA.1 q4
        have eR : qres 6 (H o1) (H o2) (fun j => qVa tb n (U + j)) B = qflip (H o1) (qVa tb n (U + 0)).toNat := rfl
        refine ⟨fun q5 => ?_, fun q5 => ⟨by omega, ?_⟩⟩
        · generalize hv : (qVa tb n (U + 0)).toNat = v at *
          rw [show qVa tb n (U + 0) = (v : Int) by omega]
          refine m_takes hL ⟨Or.inr rfl, by omega⟩ (by omega) R2 (fun h3 f3 R3 => b_X12_meansOne_513 hG (good (allr (by omega) q3) _ eR ?_ h3 f3 (by rw [qflip_take z1]; exact R3)))
          intro hf x hx
          by_cases e : x = v
          · have := hf v (by omega) (by omega)
            rw [qflip_at, z1] at this; cases this
          · rw [qflip_ne e]; exact VA.1.2.2 x hx
        · refine m_wrong0 (t := t + 4) hL C2 (by have := U3 (by omega); omega) (by omega) (by omega) e12 e14 (fun h3 f3 y1 y2 => b_X12_meansOne_513 hG (gd (allr (by omega) q3) h3 (qmq_trans f2q (fun r i j e _ => f3 r i j e)) (Or.inr ⟨⟨y1, ?_⟩, ?_⟩)))
          · rw [y2, U3 (by omega), hB]
          · rw [eR]; exact qflip_far (by omega) z3 z1
      · exact m_wrong0 (t := t + 3) hL C2 (by have := U3 (by omega); omega) (by omega) (by omega) e12 e14 (fun h3 f3 y1 y2 => b_X12_meansOne_513 hG (wrong (by omega) (qb_0.mp q2) h3 (qmq_trans f2q (fun r i j e _ => f3 r i j e)) ⟨y1, y2⟩))
    · -- sum
      have hw1 : w = 1 := by omega
      subst hw1
      have l22 : o2 < i := l2 (by decide)
      obtain ⟨VB, RB⟩ := HV o2 l22
      rw [ec (by decide)]
      refine m_sumL hL hG a20 (by omega) (by omega) (by omega) (by omega) VA.1 VB.1 RA2 (qmr_rf RB f2 (by omega)) (fun h3 f3 R3 => good (noint (by omega)) _ rfl (q6_of (fun x hx => ?_)) h3 f3 R3)
      exact qplus_iff.mpr ⟨x, Nat.le_refl _, VA.1.2.2 x hx, by rw [Nat.sub_self]; exact VB.1.1⟩
    · -- meet
      have hw1 : w = 2 := by omega
      subst hw1
      have l22 : o2 < i := l2 (by decide)
      obtain ⟨VB, RB⟩ := HV o2 l22
      rw [ec (by decide)]
      refine m_meetL hG a20 (by omega) (by omega) R2 (qmr_rf RB f2 (by omega)) (fun h3 f3 R3 => good (noint (by omega)) _ rfl (q6_of (fun x hx => ?_)) h3 f3 R3)
      show (H o1 x && H o2 x) = true
      rw [VA.1.2.2 x hx, VB.1.2.2 x hx]; rfl
    · -- arf
      have hw1 : w = 3 := by omega
      subst hw1
      exact m_closes hL a20 rfl VA.1 R2 (fun h3 f3 R3 => b_X12_meansOne_513 hG (good (noint (by omega)) _ rfl (q6_of (fun x hx => (qarf_ok VA.1).1 x (VA.1.2.2 x hx))) h3 f3 R3))
    · -- part
      have hw1 : w = 4 := by omega
      subst hw1
      rw [e7 (by omega)]
      obtain ⟨p0, p1⟩ := v0 (by omega)
      have hB := one (by omega)
      have rt : qright 4 (H o1) (qVa tb n (U + 0)) = decide (1 ≤ qVa tb n (U + 0) ∧ qVa tb n (U + 0) ≤ 9) := rfl
      have eR : qres 4 (H o1) (H o2) (fun j => qVa tb n (U + j)) B = qpart (H o1) (qVa tb n (U + 0)).toNat := rfl
      refine m_in hL (q_cd (fun q2 => ⟨by omega, ?_⟩) (fun q2 => ?_))
      · refine m_wrong0 (t := t + 3) hL C2 (by have := U3 (by omega); omega) (by omega) (by omega) e12 e14 (fun h3 f3 y1 y2 => ?_)
        have f3r : ∀ x : Nat, h3 55 0 (x : Int) = h2 55 0 (x : Int) := fun x => f3 55 0 x (by omega)
        have go := m_partL (G := G) (d := d) (h := h3) (Q := Q) (a := 4 * i) (b := 4 * o1) (A := H o1) (v := (qVa tb n (U + 0)).toNat) hL hG a20 (by omega) (by omega) (by omega) VA.1 (qmr_fr RA2 (fun j _ _ => f3r j)) (qmr_fr R2 (fun j _ _ => f3r j)) (fun h4 f4 _ => wrong (by omega) (by rw [rt]; exact decide_eq_false q2) h4 (qmq_trans f2q (qmq_trans (fun r i j e _ => f3 r i j e) (qmq_f f4))) ⟨by rw [f4 12 0 14 (by omega)]; exact y1, by rw [f4 12 0 15 (by omega)]; exact y2⟩)
        rw [show (((qVa tb n (U + 0)).toNat : Nat) : Int) = qVa tb n (U + 0) by omega] at go
        exact go
      · have go := m_partL (G := G) (d := d) (h := h2) (Q := Q) (a := 4 * i) (b := 4 * o1) (A := H o1) (v := (qVa tb n (U + 0)).toNat) hL hG a20 (by omega) (by omega) (by omega) VA.1 RA2 R2 (fun h4 f4 R4 => good (allr (by omega) (by rw [rt]; exact decide_eq_true q2)) _ eR (q6_of (fun x hx => ?_)) h4 f4 R4)
        · rw [show (((qVa tb n (U + 0)).toNat : Nat) : Int) = qVa tb n (U + 0) by omega] at go
          exact go
        · refine VA.1.2.2 _ ?_
          have := Nat.mul_le_mul_left x (show 1 ≤ (qVa tb n (U + 0)).toNat by omega)
          omega
    · -- add
      have hw1 : w = 5 := by omega
      subst hw1
      rw [e7 (by omega)]
      obtain ⟨p0, p1⟩ := v0 (by omega)
      have rt : qright 5 (H o1) (qVa tb n (U + 0)) = qin (qspc (H o1)) (qVa tb n (U + 0)) := rfl
      have eR : qres 5 (H o1) (H o2) (fun j => qVa tb n (U + j)) B = qflip (H o1) (qVa tb n (U + 0)).toNat := rfl
      refine m_isSpecial hL ⟨Or.inr rfl, by omega⟩ RA2 VA.1 ?_
      rw [← rt]
      refine ⟨fun q2 => ?_, fun q2 => ⟨by omega, ?_⟩⟩
      · have q3 := qb_n0.mp q2
        have q4 := q3
        rw [rt, qin_pos p0] at q4
        obtain ⟨z1, z2, z3, z4⟩ := qspc_v0 VA.1 q4
        generalize hv : (qVa tb n (U + 0)).toNat = v at *
        rw [show qVa tb n (U + 0) = (v : Int) by omega]
        refine m_puts hL (Or.inl ⟨Or.inr rfl, by omega⟩) (by omega) R2 (fun h3 f3 R3 => b_X12_meansOne_513 hG (good (allr (by omega) q3) _ eR (q6_of (fun x hx => ?_)) h3 f3 (by rw [qflip_put z1]; exact R3)))
        rw [qflip_ne (by omega)]; exact VA.1.2.2 x hx
      · exact m_wrong0 (t := t + 3) hL C2 (by have := U3 (by omega); omega) (by omega) (by omega) e12 e14 (fun h3 f3 y1 y2 => b_X12_meansOne_513 hG (wrong (by omega) (qb_0.mp q2) h3 (qmq_trans f2q (fun r i j e _ => f3 r i j e)) ⟨y1, y2⟩))
  -- the row is copied
  have copy : 1 ≤ w → o1 < i → (3 ≤ qdue w → o2 < i) → ∀ (z7 : Int) (c : Int), (4 ≤ w → z7 = qVa tb n (U + 0)) → (3 ≤ qdue w → c = ((4 * o2 : Nat) : Int)) → G 87 [some (qr 12 0), none, some (qi (t : Int)), some (qi ((4 * i : Nat) : Int)), some (qi ((w + 20 : Nat) : Int)), some (qi ((4 * o1 : Nat) : Int)), some (qi c), some (qi z7), some (qi ((0 : Nat) : Int)), none] [] h := by
    intro hw1 l1 l2 z7 c e7 ec
    have key : ∀ m, m ≤ 4 → ∀ h2, (qrf 55 (4 * i) h h2 ∧ ∀ jj : Nat, jj < m → h2 55 0 ((4 * i + jj : Nat) : Int) = h 55 0 ((4 * o1 + jj : Nat) : Int)) → G 87 [some (qr 12 0), none, some (qi (t : Int)), some (qi ((4 * i : Nat) : Int)), some (qi ((w + 20 : Nat) : Int)), some (qi ((4 * o1 : Nat) : Int)), some (qi c), some (qi z7), some (qi (m : Int)), none] [] h2 := by
      refine q_up (fun m hm ih h2 hI => ?_)
      by_cases e : m = 4
      · subst e
        refine sw hw1 l1 l2 z7 c e7 ec h2 hI.1 (fun x hx => ?_)
        rw [hI.2 (x / 64) (by omega)]
        exact (HV o1 l1).2 x hx
      · refine b_X12_meansOne_87 hG ⟨fun q => by omega, fun _ => ⟨by omega, by omega, by omega, by omega, by omega, ih (by omega) _ ⟨qrf_trans hI.1 (fun r i jj e => qu_ne (by omega)), fun jj hjj => ?_⟩⟩⟩
        rw [show ((4 * i : Nat) : Int) + (m : Int) = ((4 * i + m : Nat) : Int) by omega, show ((4 * o1 : Nat) : Int) + (m : Int) = ((4 * o1 + m : Nat) : Int) by omega]
        by_cases e2 : jj = m
        · rw [e2, qu_at]
          exact hI.1 55 0 _ (by omega)
        · rw [qu_ne (by omega)]; exact hI.2 jj (by omega)
    exact key 0 (Nat.zero_le _) h ⟨qrf_refl _ _ _, fun jj hjj => absurd hjj (Nat.not_lt_zero _)⟩
  rw [q_4j]
  refine ⟨by omega, by omega, fun q => ⟨by omega, ?_⟩, fun q => ⟨by omega, ?_⟩⟩
  · have hw1 : 1 ≤ w := by omega
    have hd2 : 2 ≤ qdue w := by
      unfold qdue
      rw [if_neg (by omega)]
      split <;> omega
    have K2 : qK tb n (t + 2) = 1 := kn 1 (by omega)
    -- the second name, if one is due
    have two : 3 ≤ qdue w → ∀ (z : Int) (h2 : QM), (∀ r i j, ¬ (r = 12 ∧ (j = 14 ∨ j = 15)) → h2 r i j = h r i j) → (o1 < i ∧ z = ((4 * o1 : Nat) : Int) ∧ h2 = h ∨ o1 = i ∧ qwo h2 tb n 4 (t + 2)) → G 52 [some (qr 12 0), some (qi (i : Int)), some (qi (t : Int)), some (qi ((4 * i : Nat) : Int)), some (qi ((w + 20 : Nat) : Int)), some (qi z), none, none, none, none] [] h2 := by
      intro hd3 z h2 f2 ho
      have K3 : qK tb n (t + 3) = 1 := kn 2 (by omega)
      have f2q : qmq (4 * i) h h2 := fun r i j e _ => f2 r i j e
      have C2 := qcut_w C f2q
      have e12 : h2 12 0 12 = 0 := by rw [f2 12 0 12 (by omega)]; exact h0
      have w4 : w ≤ 2 := by
        rcases Nat.lt_or_ge 2 w with c | c
        · unfold qdue at hd3; rw [if_neg (by omega), if_neg (by omega)] at hd3; omega
        · exact c
      have bad4 : o1 = i → ∀ h3, qmq (4 * i) h h3 → qwo h3 tb n 4 (t + 2) → Q 0 h3 := fun e h3 f3 o => k h3 f3 (by rw [if_pos ⟨hd2, e⟩]; exact o)
      refine b_X12_meansOne_52 hG ⟨by omega, m_named (t := t + 3) hL C2 (by omega) (by omega) (by omega) (by omega) K3 e12 (fun j hj => by rw [f2 53 0 j (by omega)]; exact hN j hj) (fun q2 => ?_) (fun q2 => ?_)⟩
      · rw [ho2] at q2 ⊢
        rcases ho with ⟨y1, y2, y3⟩ | ⟨y1, y2⟩
        · subst y3
          refine ⟨fun _ => ⟨by omega, by omega, ?_⟩, fun q3 => by omega⟩
          rw [y2, q_4j]
          exact copy hw1 y1 (fun _ => q2) _ _ (fun z => by omega) (fun _ => rfl)
        · exact ⟨fun q3 => by rw [y2.1] at q3; omega, fun _ => bad4 y1 h2 f2q y2⟩
      · rw [ho2] at q2
        rcases ho with ⟨y1, y2, y3⟩ | ⟨y1, y2⟩
        · subst y3
          refine m_wrong0 (t := t + 3) hL C (by omega) (by omega) rfl h0 h1 (fun h3 f3 w1 w2 => ⟨fun q3 => by rw [w1] at q3; omega, fun _ => k h3 (fun r i j e _ => f3 r i j e) ?_⟩)
          rw [if_neg (fun z => by omega), if_pos ⟨hd3, q2⟩]
          exact ⟨w1, w2⟩
        · refine m_wrong1 (t := t + 3) hL C2 (by omega) (by omega) rfl e12 (by rw [y2.1]; omega) y2.2 (Or.inl ?_) ⟨fun q3 => by rw [y2.1] at q3; omega, fun _ => bad4 y1 h2 f2q y2⟩
          have := qPl_lt tb n (i := t + 2) (j := t + 3) (by omega) (by omega)
          omega
    -- which word
    have word : ∀ (z : Int) (h2 : QM), (∀ r i j, ¬ (r = 12 ∧ (j = 14 ∨ j = 15)) → h2 r i j = h r i j) → (o1 < i ∧ z = ((4 * o1 : Nat) : Int) ∧ h2 = h ∨ o1 = i ∧ qwo h2 tb n 4 (t + 2)) → ((((w + 20 : Nat) : Int) = 21 → G 52 [some (qr 12 0), some (qi (i : Int)), some (qi (t : Int)), some (qi ((4 * i : Nat) : Int)), some (qi ((w + 20 : Nat) : Int)), some (qi z), none, none, none, none] [] h2) ∧ (¬ ((w + 20 : Nat) : Int) = 21 → ((¬ ((w + 20 : Nat) : Int) = 22 → ((h2 12 0 14 ≤ 0 → (-2147483648 ≤ (t : Int) + 3 ∧ (t : Int) + 3 ≤ 2147483647) ∧ (0 ≤ (t : Int) + 3 ∧ (t : Int) + 3 < 403) ∧ G 87 [some (qr 12 0), none, some (qi (t : Int)), some (qi ((4 * i : Nat) : Int)), some (qi ((w + 20 : Nat) : Int)), some (qi z), some (qi 0), some (qi (h2 50 0 ((t : Int) + 3))), some (qi 0), none] [] h2) ∧ (¬ h2 12 0 14 ≤ 0 → Q 0 h2))) ∧ (((w + 20 : Nat) : Int) = 22 → G 52 [some (qr 12 0), some (qi (i : Int)), some (qi (t : Int)), some (qi ((4 * i : Nat) : Int)), some (qi ((w + 20 : Nat) : Int)), some (qi z), none, none, none, none] [] h2)))) := by
      intro z h2 f2 ho
      have due3 : w ≤ 2 → 3 ≤ qdue w := fun c => by unfold qdue; rw [if_neg (by omega), if_pos c]; omega
      refine ⟨fun q2 => two (due3 (by omega)) z h2 f2 ho, fun q2 => ⟨fun q3 => ?_, fun q3 => two (due3 (by omega)) z h2 f2 ho⟩⟩
      have d2 : qdue w = 2 := by unfold qdue; rw [if_neg (by omega), if_neg (by omega)]
      rcases ho with ⟨y1, y2, y3⟩ | ⟨y1, y2⟩
      · subst y3
        refine ⟨fun _ => ⟨by omega, by omega, ?_⟩, fun q3 => by omega⟩
        rw [y2]
        refine copy hw1 y1 (fun z => by omega) _ _ (fun w4 => ?_) (fun z => by omega)
        have hB : 1 ≤ B := by
          have : qimin w = 1 := by unfold qimin; rw [if_pos (by omega)]
          omega
        have := (C (U + 0) (by omega)).2.2.1 (kv 0 (by omega))
        rw [← this]
        congr 1
        omega
      · refine ⟨fun q3 => by rw [y2.1] at q3; omega, fun _ => k h2 (fun r i j e _ => f2 r i j e) (by rw [if_pos ⟨hd2, y1⟩]; exact y2)⟩
    refine m_named (t := t + 2) hL C (by omega) (by omega) (by omega) (by omega) K2 h0 hN (fun q2 => ?_) (fun q2 => ?_)
    · rw [ho1] at q2 ⊢
      exact word _ h (fun _ _ _ _ => rfl) (Or.inl ⟨q2, q_4j _, rfl⟩)
    · rw [ho1] at q2
      exact m_wrong0 (t := t + 2) hL C (by omega) (by omega) rfl h0 h1 (fun h3 f3 w1 w2 => word 0 h3 f3 (Or.inr ⟨q2, w1, w2⟩))
  · -- of
    have hw0 : w = 0 := by omega
    subst hw0
    have d1 : qdue 0 = 1 := rfl
    have i1 : qimin 0 = 1 := rfl
    have i2 : qimax 0 = 10 := rfl
    have k2 : ∀ h', qmq (4 * i) h h' → qout2 h' tb n H i 0 U B o1 o2 → Q 0 h' := fun h' f' o => k h' f' (by rw [if_neg (fun z => by omega), if_neg (fun z => by omega)]; exact o)
    refine m_meansOf (U := U) (B := B) hL C eM (by omega) (by omega) a20 (by omega) (by omega) kv ke h0 h1 (fun q2 h' f' w1 w2 => k2 h' f' ?_) (fun q2 h' f' o => k2 h' f' ?_)
    · have e : qgoods 0 (H o1) (fun j => qVa tb n (U + j)) B = qgoods 0 (fun _ => true) (fun j => qVa tb n (U + j)) B := rfl
      unfold qout2
      rw [e, if_pos q2]
      exact ⟨w1, w2⟩
    · have q3 : ∀ j, j < B → qright 0 (H o1) (qVa tb n (U + j)) = true := q2
      unfold qout2
      rw [qgoods_all q3, if_neg (Nat.lt_irrefl _)]
      refine ⟨q3, ?_⟩
      rcases o with ⟨y1, y2, y3⟩ | ⟨y1, y2, y3⟩
      · exact Or.inl ⟨y1, y2, y3⟩
      · exact Or.inr ⟨⟨y1, y2⟩, y3⟩
end MM4
