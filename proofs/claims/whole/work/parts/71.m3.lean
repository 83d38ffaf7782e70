/-! the model: its sets; has, gaps, generators, least ones of a rest, weight -/
def qmd (h : QM) (n : Nat) (S : Nat → QZ) : Prop := h 12 0 17 = n ∧ n ≤ 6 ∧ ∀ j : Nat, j < n → QV2 (S j) ∧ qmr h 54 (4 * j) (S j)
theorem qmd_f {rs : List Nat} {h h' : QM} {n : Nat} {S : Nat → QZ} (a : qmd h n S) (f : qmf rs h h') (e : (rs.contains 1017 || rs.contains 154) = false) : qmd h' n S := by
  rw [Bool.or_eq_false_iff] at e
  exact ⟨by rw [f 12 0 17 e.1]; exact a.1, a.2.1, fun j hj => ⟨(a.2.2 j hj).1, qmr_fr (a.2.2 j hj).2 (fun i _ h2 => f 54 0 i (by rw [qcd_lo (by have := a.2.1; omega)]; exact e.2))⟩⟩
theorem qmr_f {rs : List Nat} {h h' : QM} {a : Nat} {S : QZ} (R : qmr h 54 a S) (ha : a ≤ 20) (f : qmf rs h h') (e : rs.contains 154 = false) : qmr h' 54 a S := qmr_fr R (fun i _ h2 => f 54 0 i (by rw [qcd_lo (by omega)]; exact e))
def qselg (w : Nat) (S : QZ) : QZ := if w = 0 then qgap S else if w = 1 then qstf S else qspc S
section QM3
variable {l : Launch} {g : QG} {d : Nat} {h : QM} {Q : Int → QM → Prop} {n a : Nat} {S : Nat → QZ} {T : QZ} {s : Int}
theorem m_isSet (hL : qhL g) (M : qmd h n S) (hs : -2147483648 ≤ s ∧ s ≤ 2147483647) (k : Q (qb (decide (0 ≤ s ∧ s < n))) h) : q_tr l g (d + 2) n_X12_isSet [qr 12 0, qi s] h Q := by
  refine i_X12_isSet hL (fun G hG _ _ => b_X12_isSet_0 hG ?_)
  have := M.2.1
  rw [M.1]
  refine ⟨by omega, m_in hL ⟨qb_01 _, ?_⟩⟩
  rw [show decide (0 ≤ s ∧ s ≤ (n : Int) - 1) = decide (0 ≤ s ∧ s < n) from by
    by_cases e : 0 ≤ s ∧ s < n
    · rw [decide_eq_true e, decide_eq_true (by omega)]
    · rw [decide_eq_false e, decide_eq_false (by omega)]]
  exact k
/-- of the two ways behind isSet -/
theorem q_on {A B : Prop} (no : (s < 0 ∨ (n : Int) ≤ s) → A) (yes : ∀ j : Nat, s = j → j < n → B) : (qb (decide (0 ≤ s ∧ s < n)) = 0 → A) ∧ (¬ qb (decide (0 ≤ s ∧ s < n)) = 0 → B) := by
  by_cases e : 0 ≤ s ∧ s < n
  · rw [decide_eq_true e]
    obtain ⟨j, rfl⟩ := Int.eq_ofNat_of_zero_le e.1
    exact ⟨fun q => absurd q (by decide), fun _ => yes j rfl (by omega)⟩
  · rw [decide_eq_false e]
    exact ⟨fun _ => no (by omega), fun q => absurd rfl q⟩
theorem q_no {A B : Prop} (no : (s < 0 ∨ (n : Int) ≤ s) → A) (yes : ∀ j : Nat, s = j → j < n → B) : (¬ qb (decide (0 ≤ s ∧ s < n)) = 0 → B) ∧ (qb (decide (0 ≤ s ∧ s < n)) = 0 → A) := ⟨(q_on no yes).2, (q_on no yes).1⟩
theorem q_dc {p : Prop} [Decidable p] {A B : Prop} (no : ¬ p → A) (yes : p → B) : (qb (decide p) = 0 → A) ∧ (¬ qb (decide p) = 0 → B) := by
  by_cases e : p
  · rw [decide_eq_true e]; exact ⟨fun q => absurd q (by decide), fun _ => yes e⟩
  · rw [decide_eq_false e]; exact ⟨fun _ => no e, fun q => absurd rfl q⟩
theorem q_cd {p : Prop} [Decidable p] {A B : Prop} (no : ¬ p → A) (yes : p → B) : (¬ qb (decide p) = 0 → B) ∧ (qb (decide p) = 0 → A) := ⟨(q_dc no yes).2, (q_dc no yes).1⟩
theorem q_4j (j : Nat) : (4 : Int) * (j : Int) = ((4 * j : Nat) : Int) := by omega
theorem m_has {y : Int} (hL : qhL g) (M : qmd h n S) (k : Q (qon n S s (-1) (fun S => if 0 ≤ y ∧ y ≤ 9999 then qb (qin S y) else -1)) h) : q_tr l g (d + 3) n_X12_has [qr 12 0, qi s, qi y] h Q := by
  refine i_X12_has hL (fun G hG hw _ => b_X12_has_0 hG (m_isSet hL M (hw (qi s) (by simp)) (q_on (fun e => q_qe k (by rw [qon_out e])) (fun j e hj => ?_))))
  subst e
  rw [qon_in hj] at k
  obtain ⟨V, R⟩ := M.2.2 j hj
  have h6 := M.2.1
  refine m_in hL (q_cd (fun e => q_qe k (by rw [if_neg e])) (fun e => ⟨by omega, ?_⟩))
  rw [if_pos e] at k
  rw [q_4j]
  refine m_isOf hL (Or.inl ⟨Or.inl rfl, by omega⟩) R (qm6_1 V.1) ⟨fun q => q_qe k q.symm, fun q => q_qe k ?_⟩
  rw [qb_n0.mp q]; rfl
theorem m_ofGaps {w : Nat} {i : Int} (hL : qhL g) (M : qmd h n S) (hw3 : w < 3) (k : Q (qon n S s (-1) (fun S => qpick (qselg w S) 400 i)) h) : q_tr l g (d + 4) n_X12_ofGaps [qr 12 0, qi s, qi (w : Int), qi i] h Q := by
  refine i_X12_ofGaps hL (fun G hG hw _ => b_X12_ofGaps_0 hG (m_isSet hL M (hw (qi s) (by simp)) (q_on (fun e => q_qe k (by rw [qon_out e])) (fun j e hj => ?_))))
  subst e
  rw [qon_in hj] at k
  obtain ⟨V, R⟩ := M.2.2 j hj
  have h6 := M.2.1
  have H := qm6_1 V.1
  have hcl := qc_le
  have hrg : qrg 54 (4 * j) := Or.inl ⟨Or.inl rfl, by omega⟩
  generalize S j = T at *
  generalize hp : qselg w T = p at k
  have hp0 : ∀ y, T y = true → p y = false := fun y hy => by
    rw [← hp]; unfold qselg
    split
    · exact qgap_t.mpr hy
    · split
      · unfold qstf; rw [hy]; simp
      · unfold qspc qstf; rw [hy]; simp
  refine ⟨fun q1 => ⟨by omega, ?_⟩, fun q1 => q_qe k (by rw [qpick_no (by omega) (Or.inl (by omega))])⟩
  rw [q_4j]
  have key : ∀ m, m ≤ 256 → 1 ≤ m → (i < 0 ∨ (qc p m : Int) ≤ i) → G 26 [some (qr 12 0), none, some (qi (w : Int)), some (qi i), some (qi ((4 * j : Nat) : Int)), some (qi (qc p m : Nat)), some (qi (m : Int))] [] h := by
    refine q_up (fun m hm ih hm1 hi => b_X12_ofGaps_26 hG ⟨fun q => ?_, fun q => m_isOf hL hrg R H ?_⟩)
    · have e4 : ∀ x, m ≤ x → x < 400 → p x = false := fun x x1 _ => hp0 x (H x (by omega))
      refine ⟨fun q2 => q_qe k ?_, fun q2 => q_qe k ?_⟩
      · rw [qpick_no q2 (by rw [qc_none (m := m) (by omega) e4]; exact hi)]
      · rw [q2, qpick_all, qc_none (m := m) (by omega) e4]
    · rw [qin_nat]
      have ih := ih (by omega) (by omega)
      have hc := hcl p m
      have skip : p m = false → (-2147483648 ≤ (m : Int) + 1 ∧ (m : Int) + 1 ≤ 2147483647) ∧ G 26 [some (qr 12 0), none, some (qi (w : Int)), some (qi i), some (qi ((4 * j : Nat) : Int)), some (qi (qc p m : Nat)), some (qi ((m : Int) + 1))] [] h := fun e => by
        rw [qc_f e] at ih
        exact ⟨by omega, ih hi⟩
      have take : p m = true → G 90 [some (qr 12 0), none, some (qi (w : Int)), some (qi i), some (qi ((4 * j : Nat) : Int)), some (qi (qc p m : Nat)), some (qi (m : Int))] [] h := fun e => by
        rw [qc_t e] at ih
        exact b_X12_ofGaps_90 hG ⟨fun q2 => ⟨by omega, by omega, ih (by omega)⟩, fun q2 => q_qe k (by rw [qpick_at e (show m < 400 by omega) q2])⟩
      refine ⟨fun q2 => skip (hp0 m (qb_n0.mp q2)), fun q2 => ?_⟩
      have hT := qb_0.mp q2
      refine ⟨fun q3 => ⟨fun _ => take (by rw [← hp]; unfold qselg; rw [if_pos (by omega)]; exact qgap_f.mpr hT), fun q4 => by omega⟩, fun q3 => m_isStiff hL ⟨by omega, by omega⟩ R V.1 (by omega) ?_⟩
      rw [qin_nat]
      refine ⟨fun q4 => skip ?_, fun q4 => ⟨fun q5 => take ?_, fun q5 => ⟨by omega, m_isOf hL hrg R H ?_⟩⟩⟩
      · rw [← hp]; unfold qselg; rw [if_neg (by omega)]
        split
        · exact qb_0.mp q4
        · unfold qspc; rw [qb_0.mp q4]; rfl
      · rw [← hp]; unfold qselg; rw [if_neg (by omega), if_pos (by omega)]; exact qb_n0.mp q4
      · rw [show (2 : Int) * (m : Int) = ((2 * m : Nat) : Int) by omega, qin_nat]
        have e2 : p m = T (2 * m) := by
          rw [← hp]; unfold qselg; rw [if_neg (by omega), if_neg (by omega)]; unfold qspc; rw [qb_n0.mp q4]; rfl
        exact ⟨fun q6 => take (by rw [e2]; exact qb_n0.mp q6), fun q6 => skip (by rw [e2]; exact qb_0.mp q6)⟩
  have h0 : qc p 1 = 0 := by rw [qc_f (hp0 0 V.1.1)]; rfl
  have := key 1 (by omega) (by omega) (by omega)
  rw [h0] at this
  exact this
theorem m_gap {i : Int} (hL : qhL g) (M : qmd h n S) (k : Q (qon n S s (-1) (fun S => qpick (qgap S) 400 i)) h) : q_tr l g (d + 5) n_X12_gap [qr 12 0, qi s, qi i] h Q :=
  i_X12_gap hL (fun G hG _ _ => b_X12_gap_0 hG (m_ofGaps (w := 0) hL M (by omega) k))
theorem m_stiff {i : Int} (hL : qhL g) (M : qmd h n S) (k : Q (qon n S s (-1) (fun S => qpick (qstf S) 400 i)) h) : q_tr l g (d + 5) n_X12_stiff [qr 12 0, qi s, qi i] h Q :=
  i_X12_stiff hL (fun G hG _ _ => b_X12_stiff_0 hG (m_ofGaps (w := 1) hL M (by omega) k))
theorem m_special {i : Int} (hL : qhL g) (M : qmd h n S) (k : Q (qon n S s (-1) (fun S => qpick (qspc S) 400 i)) h) : q_tr l g (d + 5) n_X12_special [qr 12 0, qi s, qi i] h Q :=
  i_X12_special hL (fun G hG _ _ => b_X12_special_0 hG (m_ofGaps (w := 2) hL M (by omega) k))
theorem m_generator {i : Int} (hL : qhL g) (M : qmd h n S) (k : ∀ h', qmf [1023, 56] h h' → Q (qon n S s (-1) (fun S => qpick (qgen S) 400 i)) h') : q_tr l g (d + 4) n_X12_generator [qr 12 0, qi s, qi i] h Q := by
  refine i_X12_generator hL (fun G hG hw _ => b_X12_generator_0 hG (m_isSet hL M (hw (qi s) (by simp)) (q_no (fun e => q_qe (k h (qmf_refl _ _)) (by rw [qon_out e])) (fun j e hj => ?_))))
  subst e
  obtain ⟨V, R⟩ := M.2.2 j hj
  have h6 := M.2.1
  refine ⟨by omega, ?_⟩
  rw [q_4j]
  refine m_gens hL ⟨Or.inl rfl, by omega⟩ R V.1 (fun h1 f1 g1 => ?_)
  have k := k h1 f1
  rw [qon_in hj] at k
  have hc : qgc (S j) ≤ 24 := V.2
  rw [g1.1]
  refine ⟨fun q => ⟨by omega, m_in hL (q_dc (fun e => q_qe k ?_) (fun e => ⟨by omega, q_qe k ?_⟩))⟩, fun q => q_qe k ?_⟩
  · rw [qpick_no q]
    unfold qgc at e
    omega
  · obtain ⟨x, x1, x2, x3⟩ := qc_kth (p := qgen (S j)) (n := 400) (k := i.toNat) (by unfold qgc at e; omega)
    rw [qpick_at x2 x1 (i := i) (by omega), ← g1.2 x x1 x2, x3, show ((i.toNat : Nat) : Int) = i by omega]
  · rw [q, qpick_all]; rfl
theorem m_aperyOf {w r : Nat} (hL : qhL g) (ha : a ≤ 24) (R : qmr h 54 a T) (V : QV1 T) (hw : 1 ≤ w ∧ w ≤ 400) (hr : r ≤ 400) (k : Q (qap T w 200 r) h) : q_tr l g (d + 2) n_X12_aperyOf [qr 12 0, qi a, qi w, qi r] h Q := by
  refine i_X12_aperyOf hL (fun G hG _ _ => b_X12_aperyOf_0 hG ?_)
  have key : ∀ m, m ≤ 200 → ∀ x, (qap T w (200 - m) x = qap T w 200 r ∧ r + m ≤ x ∧ x ≤ 400 + m * 400) → G 3 [some (qr 12 0), some (qi a), some (qi (w : Int)), none, some (qi (x : Nat))] [] h := by
    refine q_up (fun m hm ih x hx => b_X12_aperyOf_3 hG (m_isOf hL (Or.inl ⟨Or.inl rfl, ha⟩) R (qm6_1 V) ?_))
    rw [qin_nat]
    refine ⟨fun q2 => q_qe k (by rw [← hx.1, qap_s (qb_n0.mp q2)]), fun q2 => ?_⟩
    have hm2 : m < 200 := by
      rcases Nat.lt_or_ge m 200 with a1 | a1
      · exact a1
      · have := qb_0.mp q2
        rw [V.2.2 x (by omega)] at this; cases this
    refine ⟨by omega, ih hm2 (x + w) ⟨?_, by omega, by omega⟩⟩
    rw [← hx.1, show 200 - m = (200 - (m + 1)) + 1 by omega, qap_n (qb_0.mp q2)]
  exact key 0 (by omega) r ⟨rfl, by omega, by omega⟩
theorem qap_bd {w : Nat} : ∀ f r, qap T w f r ≤ r + f * w
  | 0, r => by unfold qap; omega
  | f + 1, r => by
    unfold qap
    have := qap_bd (w := w) f (r + w)
    rw [Nat.succ_mul]
    split <;> omega
theorem m_apery {w r : Int} (hL : qhL g) (M : qmd h n S) (k : Q (qon n S s (-1) (fun S => if 1 ≤ w ∧ w ≤ 200 ∧ qin S w = true ∧ 0 ≤ r ∧ r < w then (qap S w.toNat 200 r.toNat : Nat) else -1)) h) : q_tr l g (d + 3) n_X12_apery [qr 12 0, qi s, qi w, qi r] h Q := by
  refine i_X12_apery hL (fun G hG hw _ => b_X12_apery_0 hG (m_isSet hL M (hw (qi s) (by simp)) (q_on (fun e => q_qe k (by rw [qon_out e])) (fun j e hj => ?_))))
  subst e
  rw [qon_in hj] at k
  obtain ⟨V, R⟩ := M.2.2 j hj
  have h6 := M.2.1
  refine m_in hL (q_dc (fun e => q_qe k (by rw [if_neg (by omega)])) (fun e => ⟨by omega, ?_⟩))
  rw [q_4j]
  refine m_isOf hL (Or.inl ⟨Or.inl rfl, by omega⟩) R (qm6_1 V.1) ⟨fun q => q_qe k (by rw [if_neg]; rintro ⟨-, -, q2, -⟩; rw [q2] at q; cases q), fun q => ⟨by omega, m_in hL (q_cd (fun e2 => q_qe k (by rw [if_neg (by omega)])) (fun e2 => ⟨by omega, ?_⟩))⟩⟩
  rw [if_pos ⟨e.1, e.2, qb_n0.mp q, by omega⟩] at k
  obtain ⟨w, rfl⟩ := Int.eq_ofNat_of_zero_le (show 0 ≤ w by omega)
  obtain ⟨r, rfl⟩ := Int.eq_ofNat_of_zero_le (show 0 ≤ r by omega)
  exact m_aperyOf hL (by omega) R V.1 (by omega) (by omega) k
theorem m_leastOf (hL : qhL g) (ha : a ≤ 24) (R : qmr h 54 a T) (V : QV1 T) (k : Q (qms T : Nat) h) : q_tr l g (d + 2) n_X12_leastOf [qr 12 0, qi a] h Q := by
  refine i_X12_leastOf hL (fun G hG _ _ => b_X12_leastOf_0 hG ?_)
  obtain ⟨w1, w2, w3, w4, w5⟩ := qms_ok V
  have key : ∀ m, m ≤ qms T → 1 ≤ m → G 2 [some (qr 12 0), some (qi a), some (qi (m : Int))] [] h := by
    refine q_up (fun m hm ih hm1 => b_X12_leastOf_2 hG (m_isOf hL (Or.inl ⟨Or.inl rfl, ha⟩) R (qm6_1 V) ?_))
    rw [qin_nat]
    refine ⟨fun q => ?_, fun q => ⟨by omega, ih ?_ (by omega)⟩⟩
    · have : m = qms T := by
        rcases Nat.lt_or_ge m (qms T) with a1 | a1
        · rw [w4 m (by omega) a1] at q; exact absurd rfl q
        · omega
      rw [this]; exact k
    · rcases Nat.lt_or_ge m (qms T) with a1 | a1
      · exact a1
      · rw [show m = qms T by omega, w3] at q; exact absurd q (by decide)
  exact key 1 (by omega) (by omega)
theorem m_kunz {r : Int} (hL : qhL g) (M : qmd h n S) (k : Q (qon n S s (-1) (fun S => if 1 ≤ r ∧ r < qms S then (qap S (qms S) 200 r.toNat / qms S : Nat) else -1)) h) : q_tr l g (d + 3) n_X12_kunz [qr 12 0, qi s, qi r] h Q := by
  refine i_X12_kunz hL (fun G hG hw _ => b_X12_kunz_0 hG (m_isSet hL M (hw (qi s) (by simp)) (q_on (fun e => q_qe k (by rw [qon_out e])) (fun j e hj => ?_))))
  subst e
  rw [qon_in hj] at k
  obtain ⟨V, R⟩ := M.2.2 j hj
  have h6 := M.2.1
  obtain ⟨w1, w2, w3, w4, w5⟩ := qms_ok V.1
  rw [q_4j]
  refine ⟨by omega, m_leastOf hL (by omega) R V.1 ⟨by omega, m_in hL (q_cd (fun e => q_qe k (by rw [if_neg (by omega)])) (fun e => ⟨by omega, m_leastOf hL (by omega) R V.1 ⟨by omega, ?_⟩⟩))⟩⟩
  rw [if_pos (by omega)] at k
  obtain ⟨r, rfl⟩ := Int.eq_ofNat_of_zero_le (show 0 ≤ r by omega)
  exact m_aperyOf hL (by omega) R V.1 (by omega) (by omega) ⟨by omega, q_qe k (by rw [Int.toNat_natCast]; omega)⟩
theorem m_weight (hL : qhL g) (ha : a ≤ 24) (R : qmr h 54 a T) (V : QV1 T) (k : Q (qwt T) h) : q_tr l g (d + 2) n_X12_weightOf [qr 12 0, qi a] h Q := by
  refine i_X12_weightOf hL (fun G hG _ _ => b_X12_weightOf_0 hG ?_)
  have H := qm6_1 V
  have hcl := qc_le (qgap T)
  have key : ∀ m, m ≤ 256 → 1 ≤ m → G 7 [some (qr 12 0), some (qi a), some (qi (qsm (qgap T) (qwf T) m)), some (qi (qc (qgap T) m : Nat)), some (qi (m : Int))] [] h := by
    refine q_up (fun m hm ih hm1 => b_X12_weightOf_7 hG ⟨fun q => q_qe k ?_, fun q => m_isOf hL (Or.inl ⟨Or.inl rfl, ha⟩) R H ?_⟩)
    · exact (qsm_none (by omega) (fun x x1 _ => qgap_t.mpr (H x (by omega)))).symm
    · rw [qin_nat]
      have ih := ih (by omega) (by omega)
      have h1 := hcl m
      refine ⟨fun q2 => ?_, fun q2 => ⟨by omega, ?_⟩⟩
      · have hg := qgap_f.mpr (qb_0.mp q2)
        have h2 := qwf_bd V hg (by omega)
        have h3 := qsm_bd (p := qgap T) (f := qwf T) (a := 0) (b := 400) (n := m) (fun x hx hp => qwf_bd V hp (by omega)) (by omega) (by omega)
        rw [qsm_t hg, qc_t hg] at ih
        unfold qwf at ih h2
        exact ⟨by omega, by omega, by omega, by omega, ih⟩
      · have hg := qgap_t.mpr (qb_n0.mp q2)
        rw [qsm_f hg, qc_f hg] at ih
        exact ih
  have g0 := qgap_t.mpr V.1
  have h0 : qc (qgap T) 1 = 0 := by rw [qc_f g0]; rfl
  have h1 : qsm (qgap T) (qwf T) 1 = 0 := by rw [qsm_f g0]; rfl
  have := key 1 (by omega) (by omega)
  rw [h0, h1] at this
  exact this
end QM3
