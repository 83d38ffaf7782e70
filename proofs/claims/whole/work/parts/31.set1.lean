/-! StepSet: what its reading methods answer -/
/-- the object i holds S -/
def qat (h : QM) (i : Int) (S : QZ) : Prop := (∀ x : Nat, x < 400 → h 30 i x = qb (S x)) ∧ h 8 i 5 = qtop S ∧ h 8 i 3 = qgn S ∧ (∀ x : Nat, x < 400 → S x = false → h 31 i (qc (qgap S) x) = x) ∧ h 8 i 4 = qgc S ∧ ∀ x : Nat, x < 400 → qgen S x = true → h 32 i (qc (qgen S) x) = x
theorem qat_fr {h h' : QM} {i : Int} {S : QZ} (a : qat h i S) (e : ∀ r j, (r = 8 ∨ r = 30 ∨ r = 31 ∨ r = 32) → h' r i j = h r i j) : qat h' i S := by
  obtain ⟨a1, a2, a3, a4, a5, a6⟩ := a
  exact ⟨fun x hx => by rw [e _ _ (by simp)]; exact a1 x hx, by rw [e _ _ (by simp)]; exact a2, by rw [e _ _ (by simp)]; exact a3, fun x hx hs => by rw [e _ _ (by simp)]; exact a4 x hx hs, by rw [e _ _ (by simp)]; exact a5, fun x hx hs => by rw [e _ _ (by simp)]; exact a6 x hx hs⟩
section QSet1
variable {l : Launch} {g : QG} {d : Nat} {h : QM} {i : Int} {S : QZ} {Q : Int → QM → Prop}
theorem s_holds {x : Int} (hL : qhL g) (V : QV1 S) (A : qat h i S) (k : Q (qb (qin S x)) h) : q_tr l g (d + 1) n_X8_holds [qr 8 i, qi x] h Q := by
  refine i_X8_holds hL (fun G hG _ _ => b_X8_holds_0 hG ?_)
  have hb := qtop_bd V
  rw [A.2.1]
  refine ⟨fun h1 => ⟨fun _ => ⟨Or.inl rfl, q_qe k ?_⟩, fun h2 => absurd h1 h2⟩, fun h1 => ⟨fun h2 => ⟨fun h3 => by omega, fun h3 => ⟨by omega, ?_⟩⟩, fun h2 => ⟨fun h3 => absurd h3 h1, fun h3 => ⟨Or.inr rfl, q_qe k ?_⟩⟩⟩⟩
  · rw [qin_neg h1]; rfl
  · obtain ⟨n, rfl⟩ := Int.eq_ofNat_of_zero_le (show 0 ≤ x by omega)
    rw [A.1 n (by omega)]
    rw [qin_nat] at k
    refine ⟨fun h4 => ⟨Or.inl rfl, q_qe k ?_⟩, fun h4 => ⟨Or.inr rfl, q_qe k ?_⟩⟩
    · exact h4.symm
    · rw [qb_n0.mp h4]; rfl
  · obtain ⟨n, rfl⟩ := Int.eq_ofNat_of_zero_le (show 0 ≤ x by omega)
    rw [qin_nat, qtop_in V (by omega)]; rfl
theorem s_conductor (hL : qhL g) (V : QV1 S) (A : qat h i S) (k : Q (qtop S + 1) h) : q_tr l g (d + 1) n_X8_conductor [qr 8 i] h Q := by
  refine i_X8_conductor hL (fun G hG _ _ => b_X8_conductor_0 hG ?_)
  have hb := qtop_bd V
  rw [A.2.1]
  exact ⟨by omega, k⟩
theorem s_cbelow (hL : qhL g) (V : QV1 S) (A : qat h i S) (k : Q (qtop S + 1 - qgn S) h) : q_tr l g (d + 2) n_X8_countBelowConductor [qr 8 i] h Q := by
  refine i_X8_countBelowConductor hL (fun G hG _ _ => b_X8_countBelowConductor_0 hG ?_)
  refine s_conductor hL V A ?_
  have hb := qtop_bd V
  have hg := qgn_le V
  rw [A.2.2.1]
  exact ⟨by omega, k⟩
theorem qgc_pos (V : QV1 S) : 0 < qgc S := by
  obtain ⟨m, h1, h2, h3, h4, h5⟩ := qleast V
  have := qc_lt (p := qgen S) (m := m) (n := 400) (by omega) h5
  unfold qgc
  omega
/-- the least above 0 of a SET -/
def qms (S : QZ) : Nat := qlst S 400
theorem qms_ok (V : QV1 S) : 0 < qms S ∧ qms S ≤ 200 ∧ S (qms S) = true ∧ (∀ y, 0 < y → y < qms S → S y = false) ∧ qgen S (qms S) = true := by
  obtain ⟨m, h1, h2, h3, h4, h5⟩ := qleast V
  have : qms S = m := by unfold qms; rw [qlst_of h1 h3 h4, if_pos (by omega)]
  rw [this]
  exact ⟨h1, h2, h3, h4, h5⟩
theorem qgen_first (V : QV1 S) : qc (qgen S) (qms S) = 0 := by
  obtain ⟨h1, h2, h3, h4, h5⟩ := qms_ok V
  rw [qc_none (m := 0) (Nat.zero_le _) (fun x _ hx => ?_)]
  · rfl
  · cases hg : qgen S x with
    | false => rfl
    | true =>
      have := qgen_in hg
      rw [h4 x this.1 hx] at this
      exact absurd this.2 (by decide)
theorem qat_g0 (V : QV1 S) (A : qat h i S) : h 32 i 0 = qms S := by
  obtain ⟨h1, h2, h3, h4, h5⟩ := qms_ok V
  have := A.2.2.2.2.2 (qms S) (by omega) h5
  rw [qgen_first V] at this
  exact this
theorem s_least (hL : qhL g) (V : QV1 S) (A : qat h i S) (k : Q (qms S) h) : q_tr l g (d + 1) n_X8_leastGenerator [qr 8 i] h Q := by
  refine i_X8_leastGenerator hL (fun G hG _ _ => b_X8_leastGenerator_0 hG ?_)
  have := qgc_pos V
  rw [A.2.2.2.2.1, qat_g0 V A]
  exact ⟨fun h1 => by omega, fun h1 => ⟨by omega, k⟩⟩
theorem s_symm {t n : Int} (hL : qhL g) (ht : -1 ≤ t ∧ t < 10000) (hn : 0 ≤ n ∧ n < 10000) (k : Q (qb (decide (2 * n = t + 1))) h) : q_tr l g (d + 1) n_X8_symmetrical [qi t, qi n] h Q := by
  refine i_X8_symmetrical hL (fun G hG _ _ => b_X8_symmetrical_0 hG ?_)
  refine ⟨by omega, by omega, fun h1 => ⟨Or.inl rfl, q_qe k ?_⟩, fun h1 => ⟨Or.inr rfl, q_qe k ?_⟩⟩
  · rw [decide_eq_false h1]; rfl
  · rw [decide_eq_true h1]; rfl
theorem s_nsymm {t n : Int} (hL : qhL g) (ht : -1 ≤ t ∧ t < 10000) (hn : 0 ≤ n ∧ n < 10000) (k : Q (qb (decide (0 < t ∧ t % 2 = 0 ∧ 2 * n = t + 2))) h) : q_tr l g (d + 1) n_X8_nearlySymmetrical [qi t, qi n] h Q := by
  refine i_X8_nearlySymmetrical hL (fun G hG _ _ => b_X8_nearlySymmetrical_0 hG ?_)
  refine ⟨fun h1 => ⟨Or.inl rfl, q_qe k ?_⟩, fun h1 => ⟨by omega, fun h2 => ⟨Or.inl rfl, q_qe k ?_⟩, fun h2 => ⟨by omega, by omega, fun h3 => ⟨Or.inl rfl, q_qe k ?_⟩, fun h3 => ⟨Or.inr rfl, q_qe k ?_⟩⟩⟩⟩
  · rw [decide_eq_false (by omega)]; rfl
  · rw [decide_eq_false (by omega)]; rfl
  · rw [decide_eq_false (by omega)]; rfl
  · rw [decide_eq_true (by omega)]; rfl
/-- LONE, out of TOP and GENUS -/
def qlone (t n : Int) : Bool := decide (2 * n = t + 1 ∨ (0 < t ∧ t % 2 = 0 ∧ 2 * n = t + 2))
theorem s_isLone {t n : Int} (hL : qhL g) (ht : -1 ≤ t ∧ t < 10000) (hn : 0 ≤ n ∧ n < 10000) (k : Q (qb (qlone t n)) h) : q_tr l g (d + 2) n_X8_isLone [qi t, qi n] h Q := by
  refine i_X8_isLone hL (fun G hG _ _ => b_X8_isLone_0 hG ?_)
  refine s_symm hL ht hn ⟨fun h1 => ⟨Or.inr rfl, q_qe k ?_⟩, fun h1 => s_nsymm hL ht hn ⟨fun h2 => ⟨Or.inl rfl, q_qe k ?_⟩, fun h2 => ⟨Or.inr rfl, q_qe k ?_⟩⟩⟩
  · have h2 := of_decide_eq_true (qb_n0.mp h1)
    unfold qlone; rw [decide_eq_true (Or.inl h2)]; rfl
  · have h3 := of_decide_eq_false (qb_0.mp h1)
    have h4 := of_decide_eq_false (qb_0.mp h2)
    unfold qlone; rw [decide_eq_false (by omega)]; rfl
  · have h4 := of_decide_eq_true (qb_n0.mp h2)
    unfold qlone; rw [decide_eq_true (Or.inr h4)]; rfl
theorem s_isGen {x : Int} (hL : qhL g) (V : QV2 S) (A : qat h i S) (k : Q (qb (qin (qgen S) x)) h) : q_tr l g (d + 1) n_X8_isGenerator [qr 8 i, qi x] h Q := by
  refine i_X8_isGenerator hL (fun G hG _ _ => b_X8_isGenerator_0 hG ?_)
  have hc : qgc S ≤ 24 := V.2
  have key : ∀ n, n ≤ qgc S → (∀ y : Nat, y < 400 → qgen S y = true → qc (qgen S) y < n → (y : Int) ≠ x) → G 2 [some (qr 8 i), some (qi x), some (qi (n : Int))] [] h := by
    refine q_up (fun n hn ih hno => b_X8_isGenerator_2 hG ?_)
    rw [A.2.2.2.2.1]
    refine ⟨fun h1 => ⟨Or.inl rfl, q_qe k ?_⟩, fun h1 => ⟨by omega, ?_⟩⟩
    · cases hx : qin (qgen S) x with
      | false => rfl
      | true =>
        rcases Int.lt_or_le x 0 with a | a
        · rw [qin_neg a] at hx; cases hx
        · obtain ⟨y, rfl⟩ := Int.eq_ofNat_of_zero_le a
          rw [qin_nat] at hx
          have h2 := qgen_lt V.1 hx
          have h3 := qc_lt h2 hx
          exact absurd rfl (hno y h2 hx (by unfold qgc at h1; omega))
    · obtain ⟨y, h2, h3, h4⟩ := qc_kth (p := qgen S) (n := 400) (k := n) (by unfold qgc at h1; omega)
      have h5 := A.2.2.2.2.2 y h2 h3
      rw [h4] at h5
      rw [h5]
      refine ⟨fun h6 => ⟨by omega, ih (by omega) (fun z z1 z2 z3 => ?_)⟩, fun h6 => ⟨Or.inr rfl, q_qe k ?_⟩⟩
      · rcases Nat.lt_or_ge (qc (qgen S) z) n with a | a
        · exact hno z z1 z2 a
        · have : z = y := qc_one z2 h3 (by omega)
          rw [this]; exact h6
      · rw [← h6, qin_nat, h3]; rfl
  exact key 0 (Nat.zero_le _) (fun y _ _ q => absurd q (Nat.not_lt_zero _))
theorem s_isStiff {x : Int} (hL : qhL g) (V : QV2 S) (A : qat h i S) (k : Q (qb (qin (qstf S) x)) h) : q_tr l g (d + 2) n_X8_isStiff [qr 8 i, qi x] h Q := by
  refine i_X8_isStiff hL (fun G hG hw _ => b_X8_isStiff_0 hG ?_)
  have hxi : q_i32 x := hw (qi x) (by simp)
  have hc : qgc S ≤ 24 := V.2
  have hno : ∀ y : Nat, x = y → qstf S y = false → qb (qin (qstf S) x) = 0 := fun y e q => by rw [e, qin_nat, q]; rfl
  refine ⟨fun h1 => ⟨Or.inl rfl, q_qe k ?_⟩, fun h1 => s_holds hL V.1 A ⟨fun h2 => ?_, fun h2 => ⟨Or.inl rfl, q_qe k ?_⟩⟩⟩
  · rcases Int.lt_or_le x 0 with a | a
    · rw [qin_neg a]; rfl
    · have : x = (0 : Nat) := by omega
      exact (hno 0 this (by unfold qstf; rfl)).symm
  · obtain ⟨y, rfl⟩ := Int.eq_ofNat_of_zero_le (show 0 ≤ x by omega)
    have hSy : S y = false := by rw [qin_nat] at h2; exact qb_0.mp h2
    have hy : y < 200 := by
      rcases Nat.lt_or_ge y 200 with a | a
      · exact a
      · rw [V.1.2.2 y a] at hSy; cases hSy
    have key : ∀ n, n ≤ qgc S → (∀ z : Nat, z < 400 → qgen S z = true → qc (qgen S) z < n → S (y + z) = true) → G 17 [some (qr 8 i), some (qi (y : Int)), some (qi (n : Int))] [] h := by
      refine q_up (fun n hn ih hal => b_X8_isStiff_17 hG ?_)
      rw [A.2.2.2.2.1]
      refine ⟨fun h3 => ⟨Or.inr rfl, q_qe k ?_⟩, fun h3 => ⟨by omega, ?_⟩⟩
      · rw [qin_nat, (qstf_iff V.1).mpr ⟨by omega, hSy, fun z hz => hal z (qgen_lt V.1 hz) hz ?_⟩]; rfl
        have := qc_lt (qgen_lt V.1 hz) hz
        unfold qgc at h3
        omega
      · obtain ⟨z, z1, z2, z3⟩ := qc_kth (p := qgen S) (n := 400) (k := n) (by unfold qgc at h3; omega)
        have h5 := A.2.2.2.2.2 z z1 z2
        rw [z3] at h5
        rw [h5]
        refine ⟨by omega, s_holds hL V.1 A ⟨fun h6 => ⟨by omega, ih (by omega) (fun w w1 w2 w3 => ?_)⟩, fun h6 => ⟨Or.inl rfl, q_qe k ?_⟩⟩⟩
        · rcases Nat.lt_or_ge (qc (qgen S) w) n with a | a
          · exact hal w w1 w2 a
          · have : w = z := qc_one w2 z2 (by omega)
            subst this
            have := qb_n0.mp h6
            rwa [← Int.natCast_add, qin_nat] at this
        · refine (hno y rfl ?_).symm
          cases hs : qstf S y with
          | false => rfl
          | true =>
            have h7 := ((qstf_iff V.1).mp hs).2.2 z z2
            have h8 := qb_0.mp h6
            rw [← Int.natCast_add, qin_nat, h7] at h8; cases h8
    exact key 0 (Nat.zero_le _) (fun y _ _ q => absurd q (Nat.not_lt_zero _))
  · have h3 := qb_n0.mp h2
    obtain ⟨y, rfl⟩ := Int.eq_ofNat_of_zero_le (show 0 ≤ x by omega)
    rw [qin_nat] at h3
    refine (hno y rfl ?_).symm
    unfold qstf
    rw [h3]
    simp
theorem qstf_200 (V : QV1 S) {y : Nat} (h : qstf S y = true) : y < 200 := by
  have := ((qstf_iff V).mp h).2.1
  rcases Nat.lt_or_ge y 200 with a | a
  · exact a
  · rw [V.2.2 y a] at this; cases this
theorem s_isSpecial {x : Int} (hL : qhL g) (V : QV2 S) (A : qat h i S) (k : Q (qb (qin (qspc S) x)) h) : q_tr l g (d + 3) n_X8_isSpecial [qr 8 i, qi x] h Q := by
  refine i_X8_isSpecial hL (fun G hG hw _ => b_X8_isSpecial_0 hG ?_)
  refine s_isStiff hL V A ⟨fun h1 => ⟨Or.inl rfl, q_qe k ?_⟩, fun h1 => ?_⟩
  · have h2 := qb_0.mp h1
    rcases Int.lt_or_le x 0 with a | a
    · rw [qin_neg a]; rfl
    · obtain ⟨y, rfl⟩ := Int.eq_ofNat_of_zero_le a
      rw [qin_nat] at h2 ⊢
      unfold qspc
      rw [h2]; rfl
  · have h2 := qb_n0.mp h1
    rcases Int.lt_or_le x 0 with a | a
    · rw [qin_neg a] at h2; cases h2
    · obtain ⟨y, rfl⟩ := Int.eq_ofNat_of_zero_le a
      rw [qin_nat] at h2
      have h3 := qstf_200 V.1 h2
      have e : (2 : Int) * (y : Int) = ((2 * y : Nat) : Int) := by omega
      refine ⟨by omega, s_holds hL V.1 A ⟨fun h4 => ⟨Or.inl rfl, q_qe k ?_⟩, fun h4 => ⟨Or.inr rfl, q_qe k ?_⟩⟩⟩
      · have h5 := qb_0.mp h4
        rw [e, qin_nat] at h5
        rw [qin_nat]; unfold qspc; rw [h2, h5]; rfl
      · have h5 := qb_n0.mp h4
        rw [e, qin_nat] at h5
        rw [qin_nat]; unfold qspc; rw [h2, h5]; rfl
end QSet1
