/-! the model: rows of bits in words, what is changed; the reading methods -/
/-- a cell's number: 1000 + j a field of the model, 154 its sets, 54 what lies behind them, else the region -/
def qcd (r : Nat) (j : Int) : Nat := if r = 12 then 1000 + j.toNat else if r = 54 ∧ j < 24 then 154 else r
def qmf (rs : List Nat) (h h' : QM) : Prop := ∀ r i j, rs.contains (qcd r j) = false → h' r i j = h r i j
theorem qmf_refl (rs : List Nat) (h : QM) : qmf rs h h := fun _ _ _ _ => rfl
theorem qmf_trans {rs : List Nat} {h1 h2 h3 : QM} (a : qmf rs h1 h2) (b : qmf rs h2 h3) : qmf rs h1 h3 := fun r i j e => by rw [b r i j e, a r i j e]
theorem qmf_qu {rs : List Nat} {h : QM} {r : Nat} {i j v : Int} (e : rs.contains (qcd r j) = true) : qmf rs h (qu h r i j v) := fun r' i' j' q => qu_ne (fun z => by rw [z.1, z.2.2, e] at q; cases q)
theorem qmf_mono {rs rs' : List Nat} {h h' : QM} (a : qmf rs h h') (e : rs.all (fun r => rs'.contains r) = true) : qmf rs' h h' := fun r i j q => a r i j (by
  cases z : rs.contains (qcd r j) with
  | false => rfl
  | true => rw [qfx_sub e _ z] at q; cases q)
theorem qcd_lo {j : Int} (h : j < 24) : qcd 54 j = 154 := by unfold qcd; rw [if_neg (by omega), if_pos ⟨rfl, h⟩]
theorem qcd_hi {j : Int} (h : 24 ≤ j) : qcd 54 j = 54 := by unfold qcd; rw [if_neg (by omega), if_neg (by omega)]
theorem qcd_r {r : Nat} {j : Int} (h1 : r ≠ 12) (h2 : r ≠ 54) : qcd r j = r := by unfold qcd; rw [if_neg h1, if_neg (fun q => h2 q.1)]
/-- words a .. a + 3 of a row hold the numbers below 256 of a set -/
def qmr (h : QM) (r a : Nat) (S : QZ) : Prop := ∀ x : Nat, x < 256 → qbt (h r 0 ((a + x / 64 : Nat) : Int)) (x % 64) = S x
def qm6 (S : QZ) : Prop := ∀ x, 256 ≤ x → S x = true
theorem qm6_1 {S : QZ} (V : QV1 S) : qm6 S := fun x hx => V.2.2 x (by omega)
theorem qmr_fr {h h' : QM} {r a : Nat} {S : QZ} (R : qmr h r a S) (e : ∀ j : Nat, a ≤ j → j < a + 4 → h' r 0 (j : Int) = h r 0 (j : Int)) : qmr h' r a S := fun x hx => by rw [e _ (by omega) (by omega)]; exact R x hx
/-- no more than four words of a row are changed -/
def qrf (r a : Nat) (h h' : QM) : Prop := ∀ r' i j, ¬ (r' = r ∧ i = 0 ∧ (a : Int) ≤ j ∧ j < a + 4) → h' r' i j = h r' i j
theorem qrf_refl (r a : Nat) (h : QM) : qrf r a h h := fun _ _ _ _ => rfl
theorem qrf_trans {r a : Nat} {h1 h2 h3 : QM} (p : qrf r a h1 h2) (q : qrf r a h2 h3) : qrf r a h1 h3 := fun r i j e => by rw [q r i j e, p r i j e]
theorem qrf_mf {r a : Nat} {h h' : QM} {rs : List Nat} (f : qrf r a h h') (e : ∀ j : Int, (a : Int) ≤ j → j < a + 4 → rs.contains (qcd r j) = true) : qmf rs h h' := fun r' i j q => f r' i j (fun z => by
  rw [z.1, e j z.2.2.1 z.2.2.2] at q; cases q)
theorem q_b64_1 (b : Bool) (k : Nat) : qbt (qb b) k = (b && decide (k = 0)) := by
  cases b with
  | false => exact qbt_0 k
  | true => exact qbt_1 k
theorem q_bit64 {x : Int} {k : Nat} (hk : k < 64) : q_and64 (q_shr64 x k) 1 = qb (qbt x k) := by
  refine qbt_ext64 (q_bv64 _) (by unfold q_i64; rcases qb_01 (qbt x k) with q | q <;> omega) (fun j hj => ?_)
  rw [qbt_and64 hj, qbt_shr64 hk, qbt_1, q_b64_1]
  by_cases e : j = 0
  · subst e; simp
  · rw [decide_eq_false e, Bool.and_false, Bool.and_false]
theorem q_lcb (b : Bool) : q_lcmp (qb b) 1 = 0 ↔ b = true := by cases b <;> decide
theorem q_sh6 (x : Nat) : q_shr (x : Int) 6 = ((x / 64 : Nat) : Int) := by
  unfold q_shr
  show (x : Int) / 64 = _
  omega
theorem q_an6 (x : Nat) : q_and (x : Int) 63 = ((x % 64 : Nat) : Int) := by rw [q_alo63]; omega
theorem qmr_bit {h : QM} {r a x : Nat} {S : QZ} (R : qmr h r a S) (hx : x < 256) : q_lcmp (q_and64 (q_shr64 (h r 0 ((a : Int) + q_shr (x : Int) 6)) (q_and (x : Int) 63)) 1) 1 = 0 ↔ S x = true := by
  rw [q_sh6, q_an6, show (a : Int) + ((x / 64 : Nat) : Int) = ((a + x / 64 : Nat) : Int) by omega, q_bit64 (by omega), R x hx]
  exact q_lcb _
def qrg (r a : Nat) : Prop := ((r = 54 ∨ r = 55) ∧ a ≤ 24) ∨ (r = 65 ∧ a ≤ 4)
theorem qbt_put {w : Int} {s k : Nat} (hs : s < 64) (hk : k < 64) : qbt (q_or64 w (q_shl64 1 (s : Int))) k = (qbt w k || k == s) := by
  rw [qbt_or64 hk, qbt_shl64 hs hk, qbt_1]
  by_cases e : k = s
  · subst e; simp
  · by_cases e2 : s ≤ k
    · rw [decide_eq_false (show ¬ (k - s = 0) by omega)]; simp [e]
    · rw [decide_eq_false e2]; simp [e]
theorem qbt_tak {w : Int} {s k : Nat} (hs : s < 64) (hk : k < 64) : qbt (q_and64 w (q_xor64 (q_shl64 1 (s : Int)) (-1))) k = (qbt w k && !(k == s)) := by
  rw [qbt_and64 hk, qbt_xor64 hk, qbt_shl64 hs hk, qbt_1, qbt_neg1]
  by_cases e : k = s
  · subst e; simp
  · by_cases e2 : s ≤ k
    · rw [decide_eq_false (show ¬ (k - s = 0) by omega)]; simp [e]
    · rw [decide_eq_false e2]; simp [e]
theorem qmr_put {h : QM} {r a x : Nat} {S : QZ} (R : qmr h r a S) (hx : x < 256) : qmr (qu h r 0 ((a : Int) + q_shr (x : Int) 6) (q_or64 (h r 0 ((a : Int) + q_shr (x : Int) 6)) (q_shl64 1 (q_and (x : Int) 63)))) r a (fun y => S y || y == x) := by
  rw [q_sh6, q_an6, show (a : Int) + ((x / 64 : Nat) : Int) = ((a + x / 64 : Nat) : Int) by omega]
  intro y hy
  by_cases e : y / 64 = x / 64
  · rw [e, qu_at, qbt_put (by omega) (by omega), ← e, R y hy]
    congr 1
    by_cases e2 : y = x
    · subst e2; simp
    · rw [beq_eq_false_iff_ne.mpr e2]; exact beq_eq_false_iff_ne.mpr (by omega)
  · have e2 : (y == x) = false := beq_eq_false_iff_ne.mpr (by omega)
    show _ = (S y || y == x)
    rw [qu_ne (by omega), R y hy, e2, Bool.or_false]
theorem qmr_take {h : QM} {r a x : Nat} {S : QZ} (R : qmr h r a S) (hx : x < 256) : qmr (qu h r 0 ((a : Int) + q_shr (x : Int) 6) (q_and64 (h r 0 ((a : Int) + q_shr (x : Int) 6)) (q_xor64 (q_shl64 1 (q_and (x : Int) 63)) (-1)))) r a (fun y => S y && !(y == x)) := by
  rw [q_sh6, q_an6, show (a : Int) + ((x / 64 : Nat) : Int) = ((a + x / 64 : Nat) : Int) by omega]
  intro y hy
  by_cases e : y / 64 = x / 64
  · rw [e, qu_at, qbt_tak (by omega) (by omega), ← e, R y hy]
    congr 2
    by_cases e2 : y = x
    · subst e2; simp
    · rw [beq_eq_false_iff_ne.mpr e2]; exact beq_eq_false_iff_ne.mpr (by omega)
  · have e2 : (y == x) = false := beq_eq_false_iff_ne.mpr (by omega)
    show _ = (S y && !(y == x))
    rw [qu_ne (by omega), R y hy, e2, Bool.not_false, Bool.and_true]
section QM1
variable {l : Launch} {g : QG} {d : Nat} {h : QM} {Q : Int → QM → Prop} {r a : Nat} {S : QZ}
theorem m_in {x y z : Int} (hL : qhL g) (k : Q (qb (decide (y ≤ x ∧ x ≤ z))) h) : q_tr l g (d + 1) n_X12_in [qi x, qi y, qi z] h Q :=
  i_X12_in hL (fun G hG _ _ => b_X12_in_0 hG ⟨fun q => ⟨Or.inl rfl, q_qe k (by rw [decide_eq_false (by omega)]; rfl)⟩, fun q => ⟨fun q2 => ⟨Or.inl rfl, q_qe k (by rw [decide_eq_false (by omega)]; rfl)⟩, fun q2 => ⟨Or.inr rfl, q_qe k (by rw [decide_eq_true (by omega)]; rfl)⟩⟩⟩)
theorem m_isOf {x : Int} (hL : qhL g) (hr : qrg r a) (R : qmr h r a S) (H : qm6 S) (k : Q (qb (qin S x)) h) : q_tr l g (d + 1) n_X12_isOf [qr r 0, qi a, qi x] h Q := by
  rcases hr with ⟨rfl | rfl, ha⟩ | ⟨rfl, ha⟩
  · refine i_X12_isOf_54 hL (fun G hG _ _ => b_X12_isOf_54_0 hG ?_)
    refine ⟨fun q => ⟨Or.inr rfl, q_qe k (by rw [qin_pos (by omega), H _ (by omega)]; rfl)⟩, fun q => ⟨fun q2 => ⟨Or.inl rfl, q_qe k (by rw [qin_neg q2]; rfl)⟩, fun q2 => ?_⟩⟩
    obtain ⟨y, rfl⟩ := Int.eq_ofNat_of_zero_le (show 0 ≤ x by omega)
    have e := q_sh6 y
    have hy : y / 64 < 4 := by omega
    refine ⟨by omega, by omega, fun q3 => ⟨Or.inl rfl, q_qe k ?_⟩, fun q3 => ⟨Or.inr rfl, q_qe k ?_⟩⟩
    · rw [qin_nat]
      cases hs : S y with
      | false => rfl
      | true => exact absurd ((qmr_bit R (by omega)).mpr hs) q3
    · rw [qin_nat, (qmr_bit R (by omega)).mp q3]; rfl
  · refine i_X12_isOf_55 hL (fun G hG _ _ => b_X12_isOf_55_0 hG ?_)
    refine ⟨fun q => ⟨Or.inr rfl, q_qe k (by rw [qin_pos (by omega), H _ (by omega)]; rfl)⟩, fun q => ⟨fun q2 => ⟨Or.inl rfl, q_qe k (by rw [qin_neg q2]; rfl)⟩, fun q2 => ?_⟩⟩
    obtain ⟨y, rfl⟩ := Int.eq_ofNat_of_zero_le (show 0 ≤ x by omega)
    have e := q_sh6 y
    have hy : y / 64 < 4 := by omega
    refine ⟨by omega, by omega, fun q3 => ⟨Or.inl rfl, q_qe k ?_⟩, fun q3 => ⟨Or.inr rfl, q_qe k ?_⟩⟩
    · rw [qin_nat]
      cases hs : S y with
      | false => rfl
      | true => exact absurd ((qmr_bit R (by omega)).mpr hs) q3
    · rw [qin_nat, (qmr_bit R (by omega)).mp q3]; rfl
  · refine i_X12_isOf_65 hL (fun G hG _ _ => b_X12_isOf_65_0 hG ?_)
    refine ⟨fun q => ⟨Or.inr rfl, q_qe k (by rw [qin_pos (by omega), H _ (by omega)]; rfl)⟩, fun q => ⟨fun q2 => ⟨Or.inl rfl, q_qe k (by rw [qin_neg q2]; rfl)⟩, fun q2 => ?_⟩⟩
    obtain ⟨y, rfl⟩ := Int.eq_ofNat_of_zero_le (show 0 ≤ x by omega)
    have e := q_sh6 y
    have hy : y / 64 < 4 := by omega
    refine ⟨by omega, by omega, fun q3 => ⟨Or.inl rfl, q_qe k ?_⟩, fun q3 => ⟨Or.inr rfl, q_qe k ?_⟩⟩
    · rw [qin_nat]
      cases hs : S y with
      | false => rfl
      | true => exact absurd ((qmr_bit R (by omega)).mpr hs) q3
    · rw [qin_nat, (qmr_bit R (by omega)).mp q3]; rfl
theorem m_puts {x : Nat} (hL : qhL g) (hr : qrg r a) (hx : x < 256) (R : qmr h r a S) (k : ∀ h', qrf r a h h' → qmr h' r a (fun y => S y || y == x) → Q 0 h') : q_tr l g (d + 1) n_X12_puts [qr r 0, qi a, qi x] h Q := by
  have e := q_sh6 x
  rcases hr with ⟨rfl | rfl, ha⟩ | ⟨rfl, ha⟩
  · exact i_X12_puts_54 hL (fun G hG _ _ => b_X12_puts_54_0 hG ⟨by omega, by omega, by omega, k _ (fun r' i j q => qu_ne (by omega)) (qmr_put R hx)⟩)
  · exact i_X12_puts_55 hL (fun G hG _ _ => b_X12_puts_55_0 hG ⟨by omega, by omega, by omega, k _ (fun r' i j q => qu_ne (by omega)) (qmr_put R hx)⟩)
  · exact i_X12_puts_65 hL (fun G hG _ _ => b_X12_puts_65_0 hG ⟨by omega, by omega, by omega, k _ (fun r' i j q => qu_ne (by omega)) (qmr_put R hx)⟩)
theorem m_takes {x : Nat} (hL : qhL g) (hr : (r = 54 ∨ r = 55) ∧ a ≤ 24) (hx : x < 256) (R : qmr h r a S) (k : ∀ h', qrf r a h h' → qmr h' r a (fun y => S y && !(y == x)) → Q 0 h') : q_tr l g (d + 1) n_X12_takes [qr r 0, qi a, qi x] h Q := by
  have e := q_sh6 x
  rcases hr with ⟨rfl | rfl, ha⟩
  · exact i_X12_takes_54 hL (fun G hG _ _ => b_X12_takes_54_0 hG ⟨by omega, by omega, by omega, k _ (fun r' i j q => qu_ne (by omega)) (qmr_take R hx)⟩)
  · exact i_X12_takes_55 hL (fun G hG _ _ => b_X12_takes_55_0 hG ⟨by omega, by omega, by omega, k _ (fun r' i j q => qu_ne (by omega)) (qmr_take R hx)⟩)
theorem qtop_is {c : Nat} (hc : c ≤ 400) (h1 : ∀ y, c ≤ y → S y = true) (h2 : c = 0 ∨ S (c - 1) = false) : qtop S + 1 = c := by
  rcases Nat.eq_zero_or_pos c with e | e
  · subst e
    rw [show qtop S = -1 from qmx_none (fun y _ => qgap_t.mpr (h1 y (by omega)))]; rfl
  · rw [show qtop S = ((c - 1 : Nat) : Int) from qmx_of (by omega) (qgap_f.mpr (by rcases h2 with q | q; omega; exact q)) (fun y h3 _ => qgap_t.mpr (h1 y (by omega)))]
    omega
theorem m_cond (hL : qhL g) (hr : qrg r a) (R : qmr h r a S) (H : qm6 S) (k : Q (qtop S + 1) h) : q_tr l g (d + 2) n_X12_conductorOf [qr r 0, qi a] h Q := by
  rcases hr with hr2 | hr2
  · obtain ⟨rfl | rfl, ha⟩ := hr2
    · refine i_X12_conductorOf_54 hL (fun G hG _ _ => b_X12_conductorOf_54_0 hG ?_)
      have key : ∀ c : Nat, c ≤ 256 → (∀ y, c ≤ y → S y = true) → G 4 [some (qr 54 0), some (qi a), some (qi (c : Int))] [] h := by
        intro c
        induction c with
        | zero => exact fun _ hc => b_X12_conductorOf_54_4 hG ⟨fun q => q_qe k (qtop_is (by omega) hc (Or.inl rfl)).symm, fun q => by omega⟩
        | succ c ih =>
          intro h1 hc
          refine b_X12_conductorOf_54_4 hG ⟨fun q => by omega, fun q => ⟨by omega, m_isOf hL (Or.inl ⟨by omega, ha⟩) R H ?_⟩⟩
          rw [show ((c + 1 : Nat) : Int) - 1 = (c : Int) by omega, qin_nat]
          refine ⟨fun q2 => q_qe k (qtop_is (by omega) hc (Or.inr (qb_0.mp q2))).symm, fun q2 => ⟨by omega, ?_⟩⟩
          rw [show ((c + 1 : Nat) : Int) + -1 = (c : Int) by omega]
          refine ih (by omega) (fun y hy => ?_)
          by_cases e : y = c
          · rw [e]; exact qb_n0.mp q2
          · exact hc y (by omega)
      exact key 256 (by omega) H
    · refine i_X12_conductorOf_55 hL (fun G hG _ _ => b_X12_conductorOf_55_0 hG ?_)
      have key : ∀ c : Nat, c ≤ 256 → (∀ y, c ≤ y → S y = true) → G 4 [some (qr 55 0), some (qi a), some (qi (c : Int))] [] h := by
        intro c
        induction c with
        | zero => exact fun _ hc => b_X12_conductorOf_55_4 hG ⟨fun q => q_qe k (qtop_is (by omega) hc (Or.inl rfl)).symm, fun q => by omega⟩
        | succ c ih =>
          intro h1 hc
          refine b_X12_conductorOf_55_4 hG ⟨fun q => by omega, fun q => ⟨by omega, m_isOf hL (Or.inl ⟨by omega, ha⟩) R H ?_⟩⟩
          rw [show ((c + 1 : Nat) : Int) - 1 = (c : Int) by omega, qin_nat]
          refine ⟨fun q2 => q_qe k (qtop_is (by omega) hc (Or.inr (qb_0.mp q2))).symm, fun q2 => ⟨by omega, ?_⟩⟩
          rw [show ((c + 1 : Nat) : Int) + -1 = (c : Int) by omega]
          refine ih (by omega) (fun y hy => ?_)
          by_cases e : y = c
          · rw [e]; exact qb_n0.mp q2
          · exact hc y (by omega)
      exact key 256 (by omega) H
  · obtain ⟨rfl, ha⟩ := hr2
    refine i_X12_conductorOf_65 hL (fun G hG _ _ => b_X12_conductorOf_65_0 hG ?_)
    have key : ∀ c : Nat, c ≤ 256 → (∀ y, c ≤ y → S y = true) → G 4 [some (qr 65 0), some (qi a), some (qi (c : Int))] [] h := by
      intro c
      induction c with
      | zero => exact fun _ hc => b_X12_conductorOf_65_4 hG ⟨fun q => q_qe k (qtop_is (by omega) hc (Or.inl rfl)).symm, fun q => by omega⟩
      | succ c ih =>
        intro h1 hc
        refine b_X12_conductorOf_65_4 hG ⟨fun q => by omega, fun q => ⟨by omega, m_isOf hL (Or.inr ⟨rfl, ha⟩) R H ?_⟩⟩
        rw [show ((c + 1 : Nat) : Int) - 1 = (c : Int) by omega, qin_nat]
        refine ⟨fun q2 => q_qe k (qtop_is (by omega) hc (Or.inr (qb_0.mp q2))).symm, fun q2 => ⟨by omega, ?_⟩⟩
        rw [show ((c + 1 : Nat) : Int) + -1 = (c : Int) by omega]
        refine ih (by omega) (fun y hy => ?_)
        by_cases e : y = c
        · rw [e]; exact qb_n0.mp q2
        · exact hc y (by omega)
    exact key 256 (by omega) H
theorem qgn_256 (H : qm6 S) : qgn S = qc (qgap S) 256 := qc_none (by omega) (fun x h1 _ => qgap_t.mpr (H x h1))
theorem m_genus (hL : qhL g) (hr : (r = 54 ∧ a ≤ 24) ∨ (r = 65 ∧ a ≤ 4)) (R : qmr h r a S) (H : qm6 S) (k : Q (qgn S : Nat) h) : q_tr l g (d + 2) n_X12_genusOf [qr r 0, qi a] h Q := by
  have hcl := qc_le (qgap S)
  rcases hr with ⟨rfl, ha⟩ | ⟨rfl, ha⟩
  · refine i_X12_genusOf_54 hL (fun G hG _ _ => b_X12_genusOf_54_0 hG ?_)
    have key : ∀ m, m ≤ 256 → G 4 [some (qr 54 0), some (qi a), some (qi (qc (qgap S) m : Nat)), some (qi (m : Int))] [] h := by
      refine q_up (fun m hm ih => b_X12_genusOf_54_4 hG ⟨fun q => q_qe k (by rw [qgn_256 H, show m = 256 by omega]), fun q => m_isOf hL (by unfold qrg; omega) R H ?_⟩)
      have ih := ih (by omega)
      have := hcl m
      rw [qin_nat]
      refine ⟨fun q2 => ⟨by omega, ?_⟩, fun q2 => ⟨by omega, by omega, ?_⟩⟩
      · rw [qc_f (qgap_t.mpr (qb_n0.mp q2))] at ih; exact ih
      · rw [qc_t (qgap_f.mpr (qb_0.mp q2))] at ih; exact ih
    exact key 0 (by omega)
  · refine i_X12_genusOf_65 hL (fun G hG _ _ => b_X12_genusOf_65_0 hG ?_)
    have key : ∀ m, m ≤ 256 → G 4 [some (qr 65 0), some (qi a), some (qi (qc (qgap S) m : Nat)), some (qi (m : Int))] [] h := by
      refine q_up (fun m hm ih => b_X12_genusOf_65_4 hG ⟨fun q => q_qe k (by rw [qgn_256 H, show m = 256 by omega]), fun q => m_isOf hL (by unfold qrg; omega) R H ?_⟩)
      have ih := ih (by omega)
      have := hcl m
      rw [qin_nat]
      refine ⟨fun q2 => ⟨by omega, ?_⟩, fun q2 => ⟨by omega, by omega, ?_⟩⟩
      · rw [qc_f (qgap_t.mpr (qb_n0.mp q2))] at ih; exact ih
      · rw [qc_t (qgap_f.mpr (qb_0.mp q2))] at ih; exact ih
    exact key 0 (by omega)
theorem qgen_half {x : Nat} (hx : 0 < x) (hS : S x = true) {y : Nat} (hy : x < 2 * y) (h : ∀ z, 0 < z → z < y → S z = true → S (x - z) = false) : qgen S x = true := by
  refine qgen_iff.mpr ⟨hx, hS, fun z z1 z2 z3 => ?_⟩
  rcases Nat.lt_or_ge z y with a | a
  · exact h z z1 a z3
  · cases e : S (x - z) with
    | false => rfl
    | true =>
      have := h (x - z) (by omega) (by omega) e
      rw [show x - (x - z) = z by omega, z3] at this
      cases this
theorem m_isGen {x : Int} (hL : qhL g) (hr : (r = 54 ∨ r = 55) ∧ a ≤ 24) (R : qmr h r a S) (H : qm6 S) (k : Q (qb (qin (qgen S) x)) h) : q_tr l g (d + 2) n_X12_isGenerator [qr r 0, qi a, qi x] h Q := by
  have hrg : qrg r a := Or.inl hr
  have no : qin (qgen S) x = false → Q 0 h := fun q => q_qe k (by rw [q]; rfl)
  rcases hr with ⟨rfl | rfl, ha⟩
  · refine i_X12_isGenerator_54 hL (fun G hG _ _ => b_X12_isGenerator_54_0 hG ?_)
    refine ⟨fun q => ⟨Or.inl rfl, no ?_⟩, fun q => ⟨fun q2 => ⟨Or.inl rfl, no ?_⟩, fun q2 => m_isOf hL hrg R H ?_⟩⟩
    · rcases Int.lt_or_le x 0 with q2 | q2
      · exact qin_neg q2
      · rw [show x = ((0 : Nat) : Int) by omega, qin_nat]; rfl
    · obtain ⟨y, rfl⟩ := Int.eq_ofNat_of_zero_le (show 0 ≤ x by omega)
      rw [qin_nat]
      cases e : qgen S y with
      | false => rfl
      | true =>
        have := (qgen_iff.mp e).2.2 256 (by omega) (by omega) (H _ (by omega))
        rw [H _ (by omega)] at this
        cases this
    · obtain ⟨y, rfl⟩ := Int.eq_ofNat_of_zero_le (show 0 ≤ x by omega)
      rw [qin_nat] at k no ⊢
      have key : ∀ m, m ≤ 257 → 1 ≤ m → (∀ z, 0 < z → z < m → S z = true → S (y - z) = false) → S y = true → G 25 [some (qr 54 0), some (qi a), some (qi (y : Int)), some (qi (m : Int))] [] h := by
        refine q_up (fun m hm ih h1 hz hS => b_X12_isGenerator_54_25 hG ⟨by omega, fun q3 => ⟨Or.inr rfl, q_qe k (by rw [qgen_half (by omega) hS (y := m) (by omega) hz]; rfl)⟩, fun q3 => m_isOf hL hrg R H ?_⟩)
        rw [qin_nat]
        have nx : (S m = true → S (y - m) = false) → G 25 [some (qr 54 0), some (qi a), some (qi (y : Int)), some (qi ((m : Int) + 1))] [] h := fun q4 => ih (by omega) (by omega) (fun z z1 z2 z3 => by
          by_cases e : z = m
          · subst e; exact q4 z3
          · exact hz z z1 (by omega) z3) hS
        refine ⟨fun q4 => ⟨by omega, nx (fun q5 => by rw [q5] at q4; exact absurd q4 (by decide))⟩, fun q4 => ⟨by omega, m_isOf hL hrg R H ?_⟩⟩
        rw [show (y : Int) - (m : Int) = ((y - m : Nat) : Int) by omega, qin_nat]
        refine ⟨fun q5 => ⟨by omega, nx (fun _ => qb_0.mp q5)⟩, fun q5 => ⟨Or.inl rfl, no ?_⟩⟩
        cases e : qgen S y with
        | false => rfl
        | true =>
          have := (qgen_iff.mp e).2.2 m (by omega) (by omega) (qb_n0.mp q4)
          rw [qb_n0.mp q5] at this; cases this
      refine ⟨fun q3 => key 1 (by omega) (by omega) (fun z z1 z2 => by omega) (qb_n0.mp q3), fun q3 => ⟨Or.inl rfl, no ?_⟩⟩
      cases e : qgen S y with
      | false => rfl
      | true => rw [(qgen_in e).2] at q3; exact absurd q3 (by decide)
  · refine i_X12_isGenerator_55 hL (fun G hG _ _ => b_X12_isGenerator_55_0 hG ?_)
    refine ⟨fun q => ⟨Or.inl rfl, no ?_⟩, fun q => ⟨fun q2 => ⟨Or.inl rfl, no ?_⟩, fun q2 => m_isOf hL hrg R H ?_⟩⟩
    · rcases Int.lt_or_le x 0 with q2 | q2
      · exact qin_neg q2
      · rw [show x = ((0 : Nat) : Int) by omega, qin_nat]; rfl
    · obtain ⟨y, rfl⟩ := Int.eq_ofNat_of_zero_le (show 0 ≤ x by omega)
      rw [qin_nat]
      cases e : qgen S y with
      | false => rfl
      | true =>
        have := (qgen_iff.mp e).2.2 256 (by omega) (by omega) (H _ (by omega))
        rw [H _ (by omega)] at this
        cases this
    · obtain ⟨y, rfl⟩ := Int.eq_ofNat_of_zero_le (show 0 ≤ x by omega)
      rw [qin_nat] at k no ⊢
      have key : ∀ m, m ≤ 257 → 1 ≤ m → (∀ z, 0 < z → z < m → S z = true → S (y - z) = false) → S y = true → G 25 [some (qr 55 0), some (qi a), some (qi (y : Int)), some (qi (m : Int))] [] h := by
        refine q_up (fun m hm ih h1 hz hS => b_X12_isGenerator_55_25 hG ⟨by omega, fun q3 => ⟨Or.inr rfl, q_qe k (by rw [qgen_half (by omega) hS (y := m) (by omega) hz]; rfl)⟩, fun q3 => m_isOf hL hrg R H ?_⟩)
        rw [qin_nat]
        have nx : (S m = true → S (y - m) = false) → G 25 [some (qr 55 0), some (qi a), some (qi (y : Int)), some (qi ((m : Int) + 1))] [] h := fun q4 => ih (by omega) (by omega) (fun z z1 z2 z3 => by
          by_cases e : z = m
          · subst e; exact q4 z3
          · exact hz z z1 (by omega) z3) hS
        refine ⟨fun q4 => ⟨by omega, nx (fun q5 => by rw [q5] at q4; exact absurd q4 (by decide))⟩, fun q4 => ⟨by omega, m_isOf hL hrg R H ?_⟩⟩
        rw [show (y : Int) - (m : Int) = ((y - m : Nat) : Int) by omega, qin_nat]
        refine ⟨fun q5 => ⟨by omega, nx (fun _ => qb_0.mp q5)⟩, fun q5 => ⟨Or.inl rfl, no ?_⟩⟩
        cases e : qgen S y with
        | false => rfl
        | true =>
          have := (qgen_iff.mp e).2.2 m (by omega) (by omega) (qb_n0.mp q4)
          rw [qb_n0.mp q5] at this; cases this
      refine ⟨fun q3 => key 1 (by omega) (by omega) (fun z z1 z2 => by omega) (qb_n0.mp q3), fun q3 => ⟨Or.inl rfl, no ?_⟩⟩
      cases e : qgen S y with
      | false => rfl
      | true => rw [(qgen_in e).2] at q3; exact absurd q3 (by decide)
end QM1
