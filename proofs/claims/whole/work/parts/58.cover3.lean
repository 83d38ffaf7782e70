/-! PIECES: which are LONE, which are chosen -/
theorem qab_gaps {S : QZ} {n x : Nat} (h : qab S n x = false) (hx : x < 400) : ∃ j, j < qgn S ∧ qgp S j = x ∧ qbt n j = false := by
  have hS : S x = false := by
    cases e : S x with
    | false => rfl
    | true => rw [qab_in e] at h; cases h
  obtain ⟨a1, a2⟩ := qgp_of hS hx
  refine ⟨_, a1, a2, ?_⟩
  rw [← qab_gap a1, a2]; exact h
/-- how many gaps are left -/
theorem qab_gn {S : QZ} (hg : qgn S ≤ 8) {n : Nat} (hn : n < 2 ^ qgn S) : qgn (qab S n) + qc (fun k => Nat.testBit n k) 8 = qgn S := by
  have e1 : qc (fun k => Nat.testBit n k) 8 = qc (fun k => qbt n k) (qgn S) := by
    rw [qc_none (p := fun k => Nat.testBit n k) (m := qgn S) (n := 8) hg (fun k h1 _ => by
      rw [← qbt_nat]
      have := Nat.pow_le_pow_right (show 0 < 2 by omega) h1
      exact qbt_small (by omega))]
    exact qc_cong (fun k _ => by rw [qbt_nat])
  have e2 : qgn (qab S n) = qc (fun k => !(qbt n k)) (qgn S) := by
    apply Nat.le_antisymm
    · refine qc_inj (f := fun x => qc (qgap S) x) (fun x hx hp => ?_) (fun x y hx hy hpx hpy e => ?_)
      · obtain ⟨j, j1, j2, j3⟩ := qab_gaps (qgap_f.mp hp) hx
        obtain ⟨b1, b2, b3⟩ := qgp_ok j1
        rw [j2] at b3
        rw [b3]
        exact ⟨j1, by rw [j3]; rfl⟩
      · obtain ⟨j, j1, j2, j3⟩ := qab_gaps (qgap_f.mp hpx) hx
        obtain ⟨j', j1', j2', j3'⟩ := qab_gaps (qgap_f.mp hpy) hy
        have b := (qgp_ok j1).2.2
        have b' := (qgp_ok j1').2.2
        rw [j2] at b
        rw [j2'] at b'
        have : j = j' := by omega
        rw [← j2, ← j2', this]
    · refine qc_inj (f := fun j => qgp S j) (fun j hj hp => ?_) (fun x y hx hy _ _ e => ?_)
      · refine ⟨(qgp_ok hj).2.1, qgap_f.mpr ?_⟩
        rw [qab_gap hj]; simpa using hp
      · have b := (qgp_ok hx).2.2
        have b' := (qgp_ok hy).2.2
        rw [e, b'] at b
        exact b.symm
  have h2 : ∀ m, qc (fun k => qbt n k) m + qc (fun k => !(qbt n k)) m = m := by
    intro m
    induction m with
    | zero => rfl
    | succ m ih => rw [qc_s, qc_s]; cases qbt n m <;> simp <;> omega
  rw [e1, e2]
  have := h2 (qgn S)
  omega
/-- whether the set of a number is LONE -/
def qln (S : QZ) (n : Nat) : Bool := qlone (qtop (qab S n)) (qgn (qab S n))
/-- the first that will do, from one on -/
def qchs (F : Nat → Option (List Nat)) (ln : Nat → Nat) : Nat → Nat → Option (List Nat)
  | 0, _ => none
  | f + 1, j => match F j with
    | some r => some (ln j :: r)
    | none => qchs F ln f (j + 1)
def qch (ln : Nat → Nat) (c : Nat) : Nat → Nat → Int → Option (List Nat)
  | 0, _, cm => if cm = 0 then some [] else none
  | r + 1, fr, cm => qchs (fun j => qch ln c r (j + 1) (q_and cm (ln j))) ln (c - fr) fr
section QCov3
variable {l : Launch} {g : QG} {d : Nat} {h : QM} {i : Int} {S : QZ} {Q : Int → QM → Prop}
theorem s_lonen {n : Nat} (hL : qhL g) (V : QV1 S) (hg : qgn S ≤ 8) (C : qcov h S) (hn : n < 2 ^ qgn S) (k : Q (qb (qln S n)) h) : q_tr l g (d + 3) n_X0_isLoneNumber [qr 0 0, qi n] h Q := by
  refine i_X0_isLoneNumber hL (fun G hG _ _ => b_X0_isLoneNumber_0 hG ?_)
  have h256 := q2g hg
  have hgn := qab_gn hg hn
  have key : ∀ m, m ≤ qgn S → ∀ t : Int, ((t = -1 ∧ ∀ j, j < m → qbt n j = true) ∨ ∃ j, j < m ∧ t = qgp S j ∧ qbt n j = false ∧ ∀ j', j < j' → j' < m → qbt n j' = true) → G 4 [some (qr 0 0), some (qi n), some (qi t), some (qi (m : Int))] [] h := by
    refine q_up (fun m hm ih t ht => b_X0_isLoneNumber_4 hG ?_)
    rw [C.1]
    refine ⟨fun q => s_bc hL (by omega) ⟨by omega, ?_⟩, fun q => ?_⟩
    · have hmg : m = qgn S := by omega
      have et : t = qtop (qab S n) := by
        unfold qtop
        rcases ht with ⟨t1, t2⟩ | ⟨j, j1, j2, j3, j4⟩
        · rw [t1, qmx_none]
          intro y hy
          cases e : qab S n y with
          | true => exact qgap_t.mpr e
          | false =>
            obtain ⟨w, w1, _, w3⟩ := qab_gaps e hy
            rw [t2 w (by omega)] at w3; cases w3
        · rw [j2]
          refine (qmx_of (qgp_ok (by omega)).2.1 (qgap_f.mpr (by rw [qab_gap (by omega)]; exact j3)) (fun y y1 y2 => ?_)).symm
          cases e : qab S n y with
          | true => exact qgap_t.mpr e
          | false =>
            obtain ⟨w, w1, w2, w3⟩ := qab_gaps e y2
            have : j < w := by
              rcases Nat.lt_or_ge j w with c | c
              · exact c
              · exfalso
                by_cases e : w = j
                · rw [e] at w2; omega
                · have := qgp_lt (S := S) (show w < j by omega) (by omega); omega
            rw [j4 w this (by omega)] at w3; cases w3
      have hbd : -1 ≤ qtop (qab S n) ∧ qtop (qab S n) < 400 := qmx_bd _ _
      rw [et, show (qgn S : Int) - ((qc (fun k => Nat.testBit n k) 8 : Nat) : Int) = (qgn (qab S n) : Nat) by omega]
      exact s_isLone hL (by omega) (by omega) ⟨qb_01 _, k⟩
    · have hmg : m < qgn S := by omega
      rw [q_bit (show m < 32 by omega)]
      refine ⟨fun q2 => ⟨by omega, ih hmg t ?_⟩, fun q2 => ⟨by omega, by omega, ih hmg _ (Or.inr ⟨m, by omega, C.2.2 m hmg, qb_0.mp q2, fun j' j1 j2 => by omega⟩)⟩⟩
      have hb := qb_n0.mp q2
      rcases ht with ⟨t1, t2⟩ | ⟨j, j1, j2, j3, j4⟩
      · refine Or.inl ⟨t1, fun j hj => ?_⟩
        by_cases c : j = m
        · rw [c]; exact hb
        · exact t2 j (by omega)
      · refine Or.inr ⟨j, by omega, j2, j3, fun j' a b => ?_⟩
        by_cases c : j' = m
        · rw [c]; exact hb
        · exact j4 j' a (by omega)
  exact key 0 (Nat.zero_le _) (-1) (Or.inl ⟨rfl, fun j hj => absurd hj (Nat.not_lt_zero _)⟩)
theorem s_choose {ln : Nat → Nat} {c sz : Nat} (hL : qhL g) (hc : c ≤ 256) (hs : sz ≤ 8) : ∀ r dp fr : Nat, dp + r = sz → ∀ (cm : Int) (h : QM) (Q : Int → QM → Prop), h 0 0 4 = c → (∀ j : Nat, j < c → h 15 0 j = ln j) →
    (∀ h', qfx [16] h h' → (∀ t : Nat, t < dp → h' 16 0 t = h 16 0 t) → (∀ w, qch ln c r fr cm = some w → ∀ t : Nat, t < r → h' 16 0 ((dp + t : Nat) : Int) = (w.getD t 0 : Nat)) → Q (qb (qch ln c r fr cm).isSome) h') → q_tr l g (d + r + 1) n_X0_choose [qr 0 0, qi dp, qi sz, qi fr, qi cm] h Q := by
  intro r
  induction r with
  | zero =>
    intro dp fr e cm h Q hc4 hr k
    refine i_X0_choose hL (fun G hG _ _ => b_X0_choose_0 hG ⟨fun q => ⟨fun q2 => ⟨Or.inl rfl, q_qe (k h (qfx_refl _ _) (fun _ _ => rfl) (fun w _ t ht => absurd ht (Nat.not_lt_zero _))) ?_⟩, fun q2 => ⟨Or.inr rfl, q_qe (k h (qfx_refl _ _) (fun _ _ => rfl) (fun w _ t ht => absurd ht (Nat.not_lt_zero _))) ?_⟩⟩, fun q => by omega⟩)
    · unfold qch; rw [if_neg q2]; rfl
    · unfold qch; rw [if_pos q2]; rfl
  | succ r ih =>
    intro dp fr e cm h Q hc4 hr k
    refine i_X0_choose hL (fun G hG _ _ => b_X0_choose_0 hG ⟨fun q => by omega, fun q => ⟨fun _ => ?_, fun q2 => by omega⟩⟩)
    have hq : qch ln c (r + 1) fr cm = qchs (fun j => qch ln c r (j + 1) (q_and cm (ln j))) ln (c - fr) fr := rfl
    rw [hq] at k
    generalize hF : (fun j => qch ln c r (j + 1) (q_and cm (ln j))) = F at k
    have hFe : ∀ j, F j = qch ln c r (j + 1) (q_and cm (ln j)) := fun j => by rw [← hF]
    have key : ∀ f j h1, c - j = f → qchs F ln (c - fr) fr = qchs F ln f j → qfx [16] h h1 → (∀ t : Nat, t < dp → h1 16 0 t = h 16 0 t) → G 28 [some (qr 0 0), some (qi dp), some (qi sz), none, some (qi cm), some (qi (j : Int))] [] h1 := by
      intro f
      induction f with
      | zero =>
        intro j h1 hj he f1 a1
        refine b_X0_choose_28 hG ?_
        rw [f1 0 rfl, hc4]
        refine ⟨fun _ => ⟨Or.inl rfl, q_qe (k h1 f1 a1 (fun w hw => ?_)) ?_⟩, fun q2 => by omega⟩
        · rw [he] at hw; cases hw
        · rw [he]; rfl
      | succ f ihf =>
        intro j h1 hj he f1 a1
        have hjc : j < c := by omega
        refine b_X0_choose_28 hG ?_
        rw [f1 0 rfl, hc4]
        refine ⟨fun q2 => by omega, fun _ => ⟨by omega, by omega, by omega, by omega, by omega, ?_⟩⟩
        have e15 : h1 15 0 j = ln j := by rw [f1 15 rfl]; exact hr j hjc
        rw [qu_ne (by omega), e15]
        have f2 := qfx_trans f1 (qfx_qu (rs := [16]) (h := h1) (r := 16) (i := 0) (j := (dp : Int)) (v := (ln j : Nat)) rfl)
        refine ih (dp + 1) (j + 1) (by omega) (q_and cm (ln j)) _ _ (by rw [f2 0 rfl]; exact hc4) (fun w hw => by rw [f2 15 rfl]; exact hr w hw) (fun h3 f3 b1 b2 => ?_)
        rw [← hFe] at b2 ⊢
        have a3 : ∀ t : Nat, t < dp → h3 16 0 t = h 16 0 t := fun t ht => by rw [b1 t (by omega), qu_ne (by omega)]; exact a1 t ht
        have es : qchs F ln (f + 1) j = match F j with
          | some r => some (ln j :: r)
          | none => qchs F ln f (j + 1) := rfl
        rw [es] at he
        cases hFj : F j with
        | none =>
          rw [hFj] at he
          exact ⟨fun _ => ⟨by omega, ihf (j + 1) h3 (by omega) he (qfx_trans f2 f3) a3⟩, fun q2 => absurd rfl q2⟩
        | some w =>
          rw [hFj] at he
          refine ⟨fun q2 => absurd (show (1 : Int) = 0 from q2) (by decide), fun _ => ⟨Or.inr rfl, q_qe (k h3 (qfx_trans f2 f3) a3 (fun w' hw' t ht => ?_)) (by rw [he]; rfl)⟩⟩
          rw [he] at hw'
          cases hw'
          cases t with
          | zero =>
            rw [Nat.add_zero, b1 dp (by omega)]
            exact qu_at
          | succ t =>
            have := b2 w hFj t (by omega)
            rw [show dp + (t + 1) = dp + 1 + t by omega]
            exact this
    exact key (c - fr) fr h rfl rfl (qfx_refl _ _) (fun _ _ => rfl)
end QCov3
