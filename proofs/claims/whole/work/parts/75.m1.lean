/-! the model: CHILDREN, BELOW, MEETING, same -/
def qchp (S : QZ) : Nat → Bool := fun x => qgen S x && decide (qtop S < (x : Nat))
/-- the set with the first a of its gaps alone -/
def qanc (S : QZ) (a : Nat) : QZ := fun x => S x || decide (a ≤ qc (qgap S) x)
theorem qanc_f {S : QZ} {a x : Nat} : qanc S a x = false ↔ S x = false ∧ qc (qgap S) x < a := by
  unfold qanc
  rw [Bool.or_eq_false_iff, decide_eq_false_iff_not, Nat.not_le]
theorem qanc_all {S : QZ} (V : QV1 S) : qanc S (qgn S) = S := by
  funext x
  unfold qanc
  cases h : S x with
  | true => rfl
  | false =>
    have hx : x < 400 := by
      rcases Nat.lt_or_ge x 400 with q | q
      · exact q
      · rw [V.2.2 x (by omega)] at h; cases h
    have := qc_lt hx (qgap_f.mpr h)
    rw [decide_eq_false (by unfold qgn; omega)]; rfl
theorem qanc_6 {S : QZ} (V : QV1 S) (a : Nat) : qm6 (qanc S a) := fun x hx => by unfold qanc; rw [V.2.2 x (by omega)]; rfl
theorem qanc_c {S : QZ} {a : Nat} : ∀ n, qc (qgap (qanc S a)) n = min a (qc (qgap S) n)
  | 0 => by show 0 = min a 0; omega
  | n + 1 => by
    have ih := qanc_c (S := S) (a := a) n
    rw [qc_s, qc_s, ih]
    cases h : qgap (qanc S a) n with
    | true =>
      have := qanc_f.mp (qgap_f.mp h)
      rw [qgap_f.mpr this.1]
      simp
      omega
    | false =>
      cases h2 : qgap S n with
      | false => simp
      | true =>
        have h3 : ¬ qc (qgap S) n < a := fun q => by
          rw [qgap_f.mpr (qanc_f.mpr ⟨qgap_f.mp h2, q⟩)] at h; cases h
        simp
        omega
theorem qanc_gn {S : QZ} {a : Nat} (ha : a ≤ qgn S) : qgn (qanc S a) = a := by
  have := qanc_c (S := S) (a := a) 400
  unfold qgn at ha ⊢
  omega
/-- TOP of it, and what comes of it when that is put in -/
theorem qanc_top {S : QZ} {a : Nat} (ha : a + 1 ≤ qgn S) : ∃ t : Nat, t < 400 ∧ S t = false ∧ qc (qgap S) t = a ∧ qtop (qanc S (a + 1)) = t := by
  obtain ⟨t, t1, t2, t3⟩ := qc_kth (p := qgap S) (n := 400) (k := a) (by unfold qgn at ha; omega)
  refine ⟨t, t1, qgap_f.mp t2, t3, qmx_of t1 (qgap_f.mpr (qanc_f.mpr ⟨qgap_f.mp t2, by omega⟩)) (fun y y1 y2 => ?_)⟩
  cases h : qgap (qanc S (a + 1)) y with
  | false => rfl
  | true =>
    have := (qanc_f.mp (qgap_f.mp h)).2
    have := qc_lt y1 t2
    omega
theorem qanc_put {S : QZ} {a t : Nat} (h1 : S t = false) (h2 : qc (qgap S) t = a) : (fun y => qanc S (a + 1) y || y == t) = qanc S a := by
  funext y
  cases h : qanc S a y with
  | true =>
    by_cases e : y = t
    · subst e; simp
    · rw [beq_eq_false_iff_ne.mpr e, Bool.or_false]
      cases h3 : qanc S (a + 1) y with
      | true => rfl
      | false =>
        obtain ⟨q1, q2⟩ := qanc_f.mp h3
        unfold qanc at h
        rw [q1, Bool.false_or, decide_eq_true_eq] at h
        exact absurd (qc_one (qgap_f.mpr q1) (qgap_f.mpr h1) (by omega)) e
  | false =>
    obtain ⟨q1, q2⟩ := qanc_f.mp h
    rw [qanc_f.mpr ⟨q1, by omega⟩, Bool.false_or]
    refine beq_eq_false_iff_ne.mpr (fun e => ?_)
    rw [e] at q2; omega
theorem qfirst (S T : QZ) : ∃ y, y ≤ 400 ∧ (∀ z, z < y → S z = T z) ∧ (y = 400 ∨ S y ≠ T y) := by
  obtain ⟨y, h1, h2⟩ := pk_least (fun y => y = 400 ∨ (y < 400 ∧ S y ≠ T y)) ⟨400, Or.inl rfl⟩
  refine ⟨y, by rcases h1 with q | q <;> omega, fun z hz => ?_, by rcases h1 with q | q; exact Or.inl q; exact Or.inr q.2⟩
  apply Classical.byContradiction
  intro q
  exact h2 z hz (Or.inr ⟨by rcases h1 with q | q <;> omega, q⟩)
theorem qcg_sym (S T : QZ) : ∃ y, y ≤ 400 ∧ (∀ z, z < y → S z = T z) ∧ (y = 400 ∨ S y ≠ T y) ∧ qcg S T = qc (qgap S) y ∧ qcg S T = qc (qgap T) y := by
  obtain ⟨y, h1, h2, h3⟩ := qfirst S T
  refine ⟨y, h1, h2, h3, qcg_at h1 h2 h3, ?_⟩
  rw [qcg_at h1 h2 h3]
  exact qc_cong (fun x hx => by unfold qgap; rw [h2 x hx])
theorem qanc_eq {S T : QZ} {a b : Nat} (ha : a ≤ qgn S) (hb : b ≤ qgn T) (hac : qcg S T ≤ a) (hbc : qcg S T ≤ b) : (∀ x, x < 400 → qanc S a x = qanc T b x) ↔ (a = qcg S T ∧ b = qcg S T) := by
  obtain ⟨y, h1, h2, h3, h4, h5⟩ := qcg_sym S T
  constructor
  · intro h
    have e1 := qc_cong (p := qgap (qanc S a)) (q := qgap (qanc T b)) (n := 400) (fun x hx => by unfold qgap; rw [h x hx])
    have e2 := qanc_gn ha
    have e3 := qanc_gn hb
    unfold qgn at e2 e3
    have hab : a = b := by omega
    by_cases e : a = qcg S T
    · exact ⟨e, by omega⟩
    · exfalso
      have hy : y < 400 := by
        rcases h3 with q | q
        · unfold qgn at ha; rw [q] at h4; omega
        · rcases Nat.lt_or_ge y 400 with w | w
          · exact w
          · have : y = 400 := by omega
            unfold qgn at ha; rw [this] at h4; omega
      have h3 : S y ≠ T y := by rcases h3 with q | q; omega; exact q
      have h6 := h y hy
      cases c1 : S y with
      | false =>
        rw [qanc_f.mpr ⟨c1, by omega⟩] at h6
        have := (qanc_f.mp h6.symm).1
        rw [c1, this] at h3; exact h3 rfl
      | true =>
        cases c2 : T y with
        | true => rw [c1, c2] at h3; exact h3 rfl
        | false =>
          rw [qanc_f.mpr ⟨c2, by omega⟩] at h6
          rw [(qanc_f.mp h6).1] at c1; cases c1
  · rintro ⟨q1, q2⟩ x hx
    rcases Nat.lt_or_ge x y with q | q
    · unfold qanc
      rw [h2 x q, qc_cong (p := qgap S) (q := qgap T) (n := x) (fun z hz => by unfold qgap; rw [h2 z (by omega)]), q1, q2]
    · unfold qanc
      have m1 := qc_mono (qgap S) q
      have m2 := qc_mono (qgap T) q
      rw [decide_eq_true (show a ≤ qc (qgap S) x by omega), decide_eq_true (show b ≤ qc (qgap T) x by omega), Bool.or_true, Bool.or_true]
theorem q_lc0 {x y : Int} : q_lcmp x y = 0 ↔ x = y := by
  unfold q_lcmp
  split
  · constructor <;> intro q <;> omega
  · split
    · constructor <;> intro q <;> omega
    · constructor <;> intro q <;> omega
section QM8
variable {l : Launch} {g : QG} {d : Nat} {h : QM} {Q : Int → QM → Prop} {n a : Nat} {S : Nat → QZ} {T : QZ} {s : Int}
theorem m_childrenOf {j : Int} (hL : qhL g) (ha : a ≤ 20) (R : qmr h 54 a T) (V : QV2 T) (k : ∀ h', qmf [1023, 56] h h' → Q (qpick (qchp T) 400 j) h') : q_tr l g (d + 4) n_X12_childrenOf [qr 12 0, qi a, qi j] h Q := by
  have htb := qtop_bd V.1
  refine i_X12_childrenOf hL (fun G hG _ _ => b_X12_childrenOf_0 hG (m_cond hL (Or.inl ⟨Or.inl rfl, by omega⟩) R (qm6_1 V.1) ⟨by omega, m_gens hL ⟨Or.inl rfl, by omega⟩ R V.1 (fun h1 f1 g1 => ?_)⟩))
  rw [show qtop T + 1 - 1 = qtop T by omega]
  have hgc : qgc T ≤ 24 := V.2
  have k := k h1 f1
  generalize hp : qchp T = p at k
  have hpe : ∀ y, p y = (qgen T y && decide (qtop T < (y : Nat))) := fun y => by rw [← hp]; rfl
  have mi : j < -1 → Q (-1) h1 := fun q => q_qe k (by rw [qpick_no (by omega) (Or.inl (by omega))])
  refine q_dn (P := fun y => (j < 0 ∨ (qc p y : Int) ≤ j) → G 27 [some (qr 12 0), none, some (qi j), some (qi (qtop T)), some (qi (qc p y : Nat)), some (qi (qc (qgen T) y : Nat))] [] h1) (N := 400) (fun hj => b_X12_childrenOf_27 hG ?_) (fun y hy ih hj => ?_) (by unfold qc; omega)
  · rw [g1.1]
    refine ⟨fun _ => ⟨fun q => q_qe k ?_, fun q => q_qe k ?_⟩, fun q => absurd (Int.le_refl _) q⟩
    · rw [qpick_no q hj]
    · rw [q]; rfl
  · cases hg : qgen T y with
    | false => rw [qc_f (by rw [hpe, hg]; rfl), qc_f hg] at ih; exact ih hj
    | true =>
      have h1 : qc (qgen T) y < qgc T := qc_lt hy hg
      have h2 := qc_le p y
      rw [qc_t hg] at ih
      refine b_X12_childrenOf_27 hG ?_
      rw [g1.1, g1.2 y hy hg]
      refine ⟨fun q => by omega, fun _ => ⟨by omega, fun q => ?_, fun q => ?_⟩⟩
      · have hpy : p y = true := by rw [hpe, hg, decide_eq_true (by omega)]; rfl
        rw [qc_t hpy] at ih
        exact ⟨fun q2 => ⟨by omega, by omega, ih (by omega)⟩, fun q2 => ⟨by omega, q_qe k (by rw [qpick_at hpy hy q2])⟩⟩
      · rw [qc_f (by rw [hpe, hg, decide_eq_false (by omega)]; rfl)] at ih
        exact ⟨by omega, ih hj⟩
theorem m_child {i : Int} (hL : qhL g) (M : qmd h n S) (k : ∀ h', qmf [1023, 56] h h' → Q (qon n S s (-1) (fun S => qpick (fun y => qgen S y && decide (qtop S < y)) 400 i)) h') : q_tr l g (d + 5) n_X12_child [qr 12 0, qi s, qi i] h Q := by
  refine i_X12_child hL (fun G hG hw _ => b_X12_child_0 hG (m_isSet hL M (hw (qi s) (by simp)) (q_on (fun e => q_qe (k h (qmf_refl _ _)) (by rw [qon_out e])) (fun j e hj => ?_))))
  subst e
  obtain ⟨V, R⟩ := M.2.2 j hj
  have h6 := M.2.1
  rw [qon_in hj] at k
  refine ⟨fun q => ⟨by omega, ?_⟩, fun q => q_qe (k h (qmf_refl _ _)) (by rw [qpick_no (by omega) (Or.inl (by omega))])⟩
  rw [q_4j]
  exact m_childrenOf hL (by omega) R V k
theorem m_chWithout {o : Nat} (hL : qhL g) (ha : a ≤ 20) (R : qmr h 54 a T) (V : QV1 T) (ho : qgen T o = true) (ht : qtop T < o) (k : Q (qcw T o : Nat) h) : q_tr l g (d + 3) n_X12_childrenWithout [qr 12 0, qi a, qi o] h Q := by
  obtain ⟨m1, m2, m3, m4, m5⟩ := qms_ok V
  have ho2 := qgen_lt V ho
  have ho3 := qgen_in ho
  have H := qm6_1 V
  have rg : qrg 54 a := Or.inl ⟨Or.inl rfl, by omega⟩
  refine i_X12_childrenWithout hL (fun G hG _ _ => b_X12_childrenWithout_0 hG (m_leastOf hL (by omega) R V ?_))
  generalize hp : (fun x => decide (o < x) && qgen (qdel T o) x) = p
  have hpe : ∀ y, p y = (decide (o < y) && qgen (qdel T o) y) := fun y => by rw [← hp]
  have main : ∀ L : Nat, 0 < L → L ≤ 400 → T L = true → L ≠ o → G 15 [some (qr 12 0), some (qi (a : Int)), some (qi (o : Int)), some (qi (L : Int)), none, none, none, none] [] h := by
    intro L l1 l2 l3 l4
    have hno : ∀ x, o + L < x → qgen (qdel T o) x = false := fun x hx => qcw_no V ho ht l1 l3 l4 hx
    have key : ∀ m, m ≤ L → G 23 [some (qr 12 0), some (qi (a : Int)), some (qi (o : Int)), some (qi (L : Int)), some (qi (qc p (o + 1 + m) : Nat)), some (qi ((o + 1 + m : Nat) : Int)), none, none] [] h := by
      refine q_up (fun m hm ih => b_X12_childrenWithout_23 hG ⟨by omega, fun q => q_qe k ?_, fun q => m_isOf hL rg R H ?_⟩)
      · unfold qcw
        rw [hp, qc_none (m := o + 1 + m) (n := 900) (by omega) (fun x q1 q2 => by rw [hpe, hno x (by omega), Bool.and_false])]
      · have hcl := qc_le p (o + 1 + m)
        have ih := ih (by omega)
        have e := hpe (o + 1 + m)
        rw [decide_eq_true (by omega), Bool.true_and] at e
        rw [show o + 1 + (m + 1) = (o + 1 + m) + 1 by omega] at ih
        generalize hx : o + 1 + m = x at *
        have hTx : T x = true := qtop_in V (by omega)
        rw [qin_nat, hTx]
        have hd : qdel T o x = true := qdel_iff.mpr ⟨hTx, by omega⟩
        have skip : p x = false → (-2147483648 ≤ (x : Int) + 1 ∧ (x : Int) + 1 ≤ 2147483647) ∧ G 23 [some (qr 12 0), some (qi (a : Int)), some (qi (o : Int)), some (qi (L : Int)), some (qi (qc p x : Nat)), some (qi ((x : Int) + 1)), none, none] [] h := fun q2 => by
          rw [qc_f q2] at ih; exact ⟨by omega, ih⟩
        have dead : p x = false → ∀ y : Nat, y ≤ 900 → G 46 [some (qr 12 0), some (qi (a : Int)), some (qi (o : Int)), some (qi (L : Int)), some (qi (qc p x : Nat)), some (qi (x : Int)), some (qi 0), some (qi (y : Int))] [] h := fun q2 y hy => b_X12_childrenWithout_46 hG ⟨by omega, fun _ => ⟨fun _ => skip q2, fun q3 => absurd rfl q3⟩, fun _ => ⟨fun _ => ⟨fun _ => skip q2, fun q3 => absurd rfl q3⟩, fun q3 => absurd rfl q3⟩⟩
        have inner : ∀ y, y ≤ 900 → (∀ z, 0 < z → z < y → qdel T o z = true → qdel T o (x - z) = false) → 1 ≤ y → G 46 [some (qr 12 0), some (qi (a : Int)), some (qi (o : Int)), some (qi (L : Int)), some (qi (qc p x : Nat)), some (qi (x : Int)), some (qi 1), some (qi (y : Int))] [] h := by
          refine q_up (fun y hy ihy hz hy1 => b_X12_childrenWithout_46 hG ⟨by omega, fun q2 => ⟨fun q3 => absurd q3 (by decide), fun _ => ?_⟩, fun q2 => ⟨fun q3 => absurd q3 (by decide), fun _ => ?_⟩⟩)
          · have hg := qgen_half (S := qdel T o) (by omega) hd (y := y) (by omega) hz
            rw [qc_t (by rw [e]; exact hg)] at ih
            exact ⟨by omega, by omega, ih⟩
          · have nx : (qdel T o y = true → qdel T o (x - y) = false) → G 107 [some (qr 12 0), some (qi (a : Int)), some (qi (o : Int)), some (qi (L : Int)), some (qi (qc p x : Nat)), some (qi (x : Int)), some (qi 1), some (qi (y : Int))] [] h := fun q3 => b_X12_childrenWithout_107 hG ⟨by omega, ihy (by omega) (fun z z1 z2 z3 => by
              by_cases c : z = y
              · rw [c] at z3 ⊢; exact q3 z3
              · exact hz z z1 (by omega) z3) (by omega)⟩
            refine ⟨fun q3 => nx (fun q4 => absurd (show y = o by omega) (qdel_iff.mp q4).2), fun q3 => ⟨by omega, fun q4 => nx (fun _ => qdel_f.mpr (Or.inr (by omega))), fun q4 => m_isOf hL rg R H ?_⟩⟩
            rw [qin_nat]
            refine ⟨fun q5 => nx (fun q6 => by rw [(qdel_iff.mp q6).1] at q5; exact absurd q5 (by decide)), fun q5 => ⟨by omega, m_isOf hL rg R H ?_⟩⟩
            rw [show (x : Int) - (y : Int) = ((x - y : Nat) : Int) by omega, qin_nat]
            refine ⟨fun q6 => nx (fun _ => qdel_f.mpr (Or.inl (qb_0.mp q6))), fun q6 => b_X12_childrenWithout_107 hG ⟨by omega, dead ?_ (y + 1) (by omega)⟩⟩
            rw [e]
            cases c : qgen (qdel T o) x with
            | false => rfl
            | true =>
              have := (qgen_iff.mp c).2.2 y (by omega) (by omega) (qdel_iff.mpr ⟨qb_n0.mp q5, by omega⟩)
              rw [qdel_iff.mpr ⟨qb_n0.mp q6, by omega⟩] at this; cases this
        exact inner 1 (by omega) (fun z z1 z2 => by omega) (by omega)
    have h0 : qc p (o + 1) = 0 := by
      rw [qc_none (m := 0) (by omega) (fun x _ hx => by rw [hpe, decide_eq_false (by omega)]; rfl)]; rfl
    have := key 0 (by omega)
    rw [Nat.add_zero, h0] at this
    exact b_X12_childrenWithout_15 hG ⟨by omega, this⟩
  exact ⟨fun q => main (qms T) m1 (by omega) m3 (by omega), fun q => ⟨by omega, main (o + 1) (by omega) (by omega) (qtop_in V (by omega)) (by omega)⟩⟩
theorem m_below2 {y : Int} (hL : qhL g) (M : qmd h n S) (k : ∀ h', qmf [1023, 56] h h' → Q (qon n S s (-1) (fun S => if y = 0 then 1 else if y = 1 then qpick (fun z => qgen S z && decide (qtop S < z)) 400 (-1) else if y = 2 then qg2 S else -1)) h') : q_tr l g (d + 5) n_X12_below [qr 12 0, qi s, qi y] h Q := by
  refine i_X12_below hL (fun G hG hw _ => b_X12_below_0 hG (m_isSet hL M (hw (qi s) (by simp)) (q_on (fun e => q_qe (k h (qmf_refl _ _)) (by rw [qon_out e])) (fun j e hj => ?_))))
  subst e
  obtain ⟨V, R⟩ := M.2.2 j hj
  have h6 := M.2.1
  rw [qon_in hj] at k
  have k0 := k h (qmf_refl _ _)
  refine m_in hL (q_cd (fun e => q_qe k0 (by rw [if_neg (by omega), if_neg (by omega), if_neg (by omega)])) (fun e => ⟨fun q => ⟨by omega, ?_⟩, fun q => q_qe k0 (by rw [if_pos q])⟩))
  rw [q_4j]
  refine m_childrenOf hL (by omega) R V (fun h1 f1 => ⟨fun q2 => ?_, fun q2 => q_qe (k h1 f1) (by rw [if_neg q, if_pos q2]; rfl)⟩)
  rw [if_neg q, if_neg q2, if_pos (by omega)] at k
  rw [qpick_all]
  clear k0
  generalize S j = T at *
  have hgl := fun x (hx : qgen T x = true) => qgen_lt V.1 hx
  unfold qg2 at k
  have hpq : (fun x => qgen T x && decide (qtop T < (x : Nat))) = qchp T := rfl
  rw [hpq] at k
  have hcw : ∀ x, qcw T x ≤ 900 := fun x => qc_le _ _
  refine q_dn (P := fun y => ∀ h2, qmf [1023, 56] h1 h2 → G 47 [some (qr 12 0), some (qi (j : Int)), none, some (qi (qc (qchp T) 400 : Nat)), some (qi (qsm (qchp T) (fun x => (qcw T x : Nat)) y)), some (qi (qc (qchp T) y : Nat))] [] h2) (N := 400) (fun h2 f2 => b_X12_below_47 hG ⟨fun _ => k h2 (qmf_trans f1 f2), fun q3 => absurd (Int.le_refl _) q3⟩) (fun y hy ih h2 f2 => ?_) h1 (qmf_refl _ _)
  cases hp : qchp T y with
  | false => rw [qsm_f hp, qc_f hp] at ih; exact ih h2 f2
  | true =>
    have c1 := qc_lt (p := qchp T) hy hp
    have c2 := qc_le (qchp T) 400
    have h3 := qsm_bd (p := qchp T) (f := fun x => (qcw T x : Int)) (a := 0) (b := 900) (n := y) (fun x hx hp => by have := hcw x; omega) (by omega) (by omega)
    have h4 := hcw y
    have hq : qgen T y = true ∧ qtop T < (y : Nat) := by
      unfold qchp at hp
      rw [Bool.and_eq_true, decide_eq_true_eq] at hp
      exact hp
    refine b_X12_below_47 hG ⟨fun q3 => by omega, fun _ => ⟨by omega, by omega, ?_⟩⟩
    rw [q_4j]
    refine m_childrenOf hL (by omega) (qmr_f (qmr_f R (by omega) f1 rfl) (by omega) f2 rfl) V (fun h5 f5 => ?_)
    rw [qpick_at hp hy (i := ((qc (qchp T) y : Nat) : Int)) rfl]
    refine m_chWithout hL (by omega) (qmr_f (qmr_f (qmr_f R (by omega) f1 rfl) (by omega) f2 rfl) (by omega) f5 rfl) V.1 hq.1 hq.2 ?_
    have ih := ih h5 (qmf_trans f2 f5)
    rw [qsm_t hp, qc_t hp] at ih
    exact ⟨by omega, by omega, ih⟩
theorem m_areAlike {A B : QZ} (hL : qhL g) (R : qmr h 65 0 A) (R2 : qmr h 65 4 B) (HA : qm6 A) (HB : qm6 B) (k : Q (qb (qag A B 400)) h) : q_tr l g (d + 1) n_X12_areAlike [qr 65 0] h Q := by
  refine i_X12_areAlike_65 hL (fun G hG _ hm => b_X12_areAlike_65_0 hG ?_)
  have hi := fun j => (hm.1 65 0 j).1
  have wd : ∀ c : Nat, c < 4 → (h 65 0 (c : Int) = h 65 0 ((4 + c : Nat) : Int) ↔ ∀ x, x / 64 = c → x < 256 → A x = B x) := fun c hc => by
    constructor
    · intro e x hx hx2
      rw [← R x hx2, ← R2 x hx2, hx, show 0 + c = c by omega, e]
    · intro e
      refine qbt_ext64 (hi _) (hi _) (fun j hj => ?_)
      have a1 := R (64 * c + j) (by omega)
      have a2 := R2 (64 * c + j) (by omega)
      rw [show 0 + (64 * c + j) / 64 = c by omega, show (64 * c + j) % 64 = j by omega] at a1
      rw [show 4 + (64 * c + j) / 64 = 4 + c by omega, show (64 * c + j) % 64 = j by omega] at a2
      rw [a1, a2]
      exact e _ (by omega) (by omega)
  have w0 := wd 0 (by omega)
  have w1 := wd 1 (by omega)
  have w2 := wd 2 (by omega)
  have w3 := wd 3 (by omega)
  have c0 : h 65 0 ((0 : Nat) : Int) = h 65 0 0 := rfl
  have c1 : h 65 0 ((1 : Nat) : Int) = h 65 0 1 := rfl
  have c2 : h 65 0 ((2 : Nat) : Int) = h 65 0 2 := rfl
  have c3 : h 65 0 ((3 : Nat) : Int) = h 65 0 3 := rfl
  have c4 : h 65 0 ((4 + 0 : Nat) : Int) = h 65 0 4 := rfl
  have c5 : h 65 0 ((4 + 1 : Nat) : Int) = h 65 0 5 := rfl
  have c6 : h 65 0 ((4 + 2 : Nat) : Int) = h 65 0 6 := rfl
  have c7 : h 65 0 ((4 + 3 : Nat) : Int) = h 65 0 7 := rfl
  rw [c0, c4] at w0
  rw [c1, c5] at w1
  rw [c2, c6] at w2
  rw [c3, c7] at w3
  rw [q_lc0, q_lc0, q_lc0, q_lc0]
  have no : ∀ c : Nat, (¬ ∀ x, x / 64 = c → x < 256 → A x = B x) → Q 0 h := fun c hc => by
    refine q_qe k ?_
    have : qag A B 400 = false := by
      cases e : qag A B 400 with
      | false => rfl
      | true => exact absurd (fun x _ hx => qag_iff.mp e x (by omega)) hc
    rw [this]; rfl
  refine ⟨by omega, by omega, fun q => ⟨Or.inl rfl, no 0 (fun z => q (w0.mpr z))⟩, fun q0 => ⟨by omega, by omega, fun q => ⟨Or.inl rfl, no 1 (fun z => q (w1.mpr z))⟩, fun q1 => ⟨by omega, by omega, fun q => ⟨Or.inl rfl, no 2 (fun z => q (w2.mpr z))⟩, fun q2 => ⟨by omega, by omega, fun q => ⟨Or.inl rfl, no 3 (fun z => q (w3.mpr z))⟩, fun q3 => ⟨Or.inr rfl, q_qe k ?_⟩⟩⟩⟩⟩
  have : qag A B 400 = true := qag_iff.mpr (fun x hx => by
    rcases Nat.lt_or_ge x 256 with c | c
    · rcases (show x / 64 = 0 ∨ x / 64 = 1 ∨ x / 64 = 2 ∨ x / 64 = 3 by omega) with e | e | e | e
      · exact w0.mp q0 x e c
      · exact w1.mp q1 x e c
      · exact w2.mp q2 x e c
      · exact w3.mp q3 x e c
    · rw [HA x c, HB x c])
  rw [this]; rfl
theorem m_meeting {b w : Int} (hL : qhL g) (M : qmd h n S) (k : ∀ h', qmf [65] h h' → Q (qon2 n S s b (fun S T => if w = 0 then (qcg S T : Int) else if w = 1 then (qgn S : Int) - qcg S T else if w = 2 then (qgn T : Int) - qcg S T else -1)) h') : q_tr l g (d + 3) n_X12_meeting [qr 12 0, qi s, qi b, qi w] h Q := by
  have k0 := k h (qmf_refl _ _)
  unfold qon2 at k k0
  refine i_X12_meeting hL (fun G hG hw _ => b_X12_meeting_0 hG (m_isSet hL M (hw (qi s) (by simp)) (q_on (fun e => q_qe k0 (by rw [if_neg (by omega)])) (fun i e hi => m_isSet hL M (hw (qi b) (by simp)) (q_on (fun e2 => q_qe k0 (by rw [if_neg (by omega)])) (fun j e2 hj => m_in hL (q_cd (fun e3 => q_qe k0 ?_) (fun e3 => ?_))))))))
  · split
    · show (-1 : Int) = (if w = 0 then _ else _)
      rw [if_neg (show ¬ w = 0 by omega), if_neg (show ¬ w = 1 by omega), if_neg (show ¬ w = 2 by omega)]
    · rfl
  subst e
  subst e2
  rw [if_pos (by omega), Int.toNat_natCast, Int.toNat_natCast] at k
  clear k0
  dsimp only at k
  have h6 := M.2.1
  obtain ⟨V, R⟩ := M.2.2 i hi
  obtain ⟨W, R2⟩ := M.2.2 j hj
  generalize S i = A at *
  generalize S j = B at *
  obtain ⟨y, y1, y2, y3, y4, y5⟩ := qcg_sym A B
  have ca : qcg A B ≤ qgn A := by rw [y4]; exact qc_mono _ y1
  have cb : qcg A B ≤ qgn B := by rw [y5]; exact qc_mono _ y1
  have ga := qgn_le V.1
  have gb := qgn_le W.1
  have HA := qanc_6 V.1
  have HB := qanc_6 W.1
  have loop : ∀ f u v : Nat, u + v < f → qcg A B ≤ u → qcg A B ≤ v → u ≤ qgn A → v ≤ qgn B → ∀ h1, (qmf [65] h h1 ∧ qmr h1 65 0 (qanc A u) ∧ qmr h1 65 4 (qanc B v)) → G 86 [some (qr 12 0), none, none, some (qi w), some (qi ((qgn A : Int) - u)), some (qi ((qgn B : Int) - v)), none, none] [] h1 := by
    intro f
    induction f with
    | zero => intro u v hf; exact absurd hf (Nat.not_lt_zero _)
    | succ f ih =>
      intro u v hf u1 v1 u2 v2 h1 hI
      obtain ⟨f1, RA, RB⟩ := hI
      have rgA : qrg 65 0 := Or.inr ⟨rfl, by omega⟩
      have rgB : qrg 65 4 := Or.inr ⟨rfl, by omega⟩
      have heq := qanc_eq u2 v2 u1 v1
      refine b_X12_meeting_86 hG (m_areAlike hL RA RB (HA u) (HB v) ⟨fun q => ?_, fun q => ?_⟩)
      · obtain ⟨eu, ev⟩ := heq.mp (qag_iff.mp (qb_n0.mp q))
        have k1 := k h1 f1
        refine ⟨fun q2 => ⟨fun q3 => q_qe k1 ?_, fun q3 => q_qe k1 ?_⟩, fun q2 => m_genus (a := 0) hL (Or.inr ⟨rfl, by omega⟩) RA (HA u) (q_qe k1 ?_)⟩
        · rw [if_neg q2, if_neg q3, if_pos (by omega), ev]
        · rw [if_neg q2, if_pos q3, eu]
        · rw [if_pos q2, qanc_gn u2, eu]
      · have hne : ¬ (u = qcg A B ∧ v = qcg A B) := fun z => by rw [qag_iff.mpr (heq.mpr z)] at q; cases q
        refine m_genus (a := 0) hL (Or.inr ⟨rfl, by omega⟩) RA (HA u) (m_genus (a := 4) hL (Or.inr ⟨rfl, by omega⟩) RB (HB v) ?_)
        rw [qanc_gn u2, qanc_gn v2]
        refine ⟨fun q2 => ⟨fun q3 => by omega, fun q3 => ?_⟩, fun q2 => ?_⟩
        · obtain ⟨v0, ev⟩ : ∃ v0, v = v0 + 1 := ⟨v - 1, by omega⟩
          subst ev
          obtain ⟨t, t1, t2, t3, t4⟩ := qanc_top v2
          have t5 : t < 256 := by
            rcases Nat.lt_or_ge t 256 with c | c
            · exact c
            · rw [W.1.2.2 t (by omega)] at t2; cases t2
          refine m_cond (a := 4) hL rgB RB (HB _) ⟨by omega, ?_⟩
          rw [t4, show (t : Int) + 1 - 1 = (t : Int) by omega]
          refine m_puts (a := 4) hL rgB t5 RB (fun h2 f2 RB2 => ⟨by omega, ?_⟩)
          rw [qanc_put t2 t3] at RB2
          have := ih u v0 (by omega) u1 (by omega) u2 (by omega) h2 ⟨qmf_trans f1 (qrf_mf f2 (fun _ _ _ => rfl)), qmr_fr RA (fun c _ _ => f2 65 0 c (by omega)), RB2⟩
          rw [show (qgn B : Int) - ((v0 + 1 : Nat) : Int) + 1 = (qgn B : Int) - (v0 : Nat) by omega]
          exact this
        · obtain ⟨u0, eu⟩ : ∃ u0, u = u0 + 1 := ⟨u - 1, by omega⟩
          subst eu
          obtain ⟨t, t1, t2, t3, t4⟩ := qanc_top u2
          have t5 : t < 256 := by
            rcases Nat.lt_or_ge t 256 with c | c
            · exact c
            · rw [V.1.2.2 t (by omega)] at t2; cases t2
          refine m_cond (a := 0) hL rgA RA (HA _) ⟨by omega, ?_⟩
          rw [t4, show (t : Int) + 1 - 1 = (t : Int) by omega]
          refine m_puts (a := 0) hL rgA t5 RA (fun h2 f2 RA2 => ⟨by omega, ?_⟩)
          rw [qanc_put t2 t3] at RA2
          have f3 : qmf [65] h h2 := qmf_trans f1 (qrf_mf f2 (fun _ _ _ => rfl))
          have RB3 := qmr_fr RB (h' := h2) (fun c _ _ => f2 65 0 c (by omega))
          rw [show (qgn A : Int) - ((u0 + 1 : Nat) : Int) + 1 = (qgn A : Int) - (u0 : Nat) by omega]
          refine ⟨fun q3 => ih u0 v (by omega) (by omega) v1 (by omega) v2 h2 ⟨f3, RA2, RB3⟩, fun q3 => ?_⟩
          obtain ⟨v0, ev⟩ : ∃ v0, v = v0 + 1 := ⟨v - 1, by omega⟩
          subst ev
          obtain ⟨t', t1', t2', t3', t4'⟩ := qanc_top v2
          have t5' : t' < 256 := by
            rcases Nat.lt_or_ge t' 256 with c | c
            · exact c
            · rw [W.1.2.2 t' (by omega)] at t2'; cases t2'
          refine m_cond (a := 4) hL rgB RB3 (HB _) ⟨by omega, ?_⟩
          rw [t4', show (t' : Int) + 1 - 1 = (t' : Int) by omega]
          refine m_puts (a := 4) hL rgB t5' RB3 (fun h4 f4 RB4 => ⟨by omega, ?_⟩)
          rw [qanc_put t2' t3'] at RB4
          rw [show (qgn B : Int) - ((v0 + 1 : Nat) : Int) + 1 = (qgn B : Int) - (v0 : Nat) by omega]
          exact ih u0 v0 (by omega) (by omega) (by omega) (by omega) (by omega) h4 ⟨qmf_trans f3 (qrf_mf f4 (fun _ _ _ => rfl)), qmr_fr RA2 (fun c _ _ => f4 65 0 c (by omega)), RB4⟩
  have copy : ∀ m, m ≤ 4 → ∀ h1, (qmf [65] h h1 ∧ ∀ c : Nat, c < m → h1 65 0 (c : Int) = h 54 0 ((4 * i + c : Nat) : Int) ∧ h1 65 0 ((4 + c : Nat) : Int) = h 54 0 ((4 * j + c : Nat) : Int)) → G 30 [some (qr 12 0), some (qi (i : Int)), some (qi (j : Int)), some (qi w), some (qi (m : Int)), none, none, none] [] h1 := by
    refine q_up (fun m hm ih h1 hI => b_X12_meeting_30 hG ⟨fun q => ?_, fun q => ?_⟩)
    · have e4 : m = 4 := by omega
      have := loop (qgn A + qgn B + 1) (qgn A) (qgn B) (by omega) ca cb (Nat.le_refl _) (Nat.le_refl _) h1 ⟨hI.1, fun x hx => ?_, fun x hx => ?_⟩
      · rw [Int.sub_self, Int.sub_self] at this; exact this
      · rw [qanc_all V.1, show 0 + x / 64 = x / 64 by omega, (hI.2 (x / 64) (by omega)).1]; exact R x hx
      · rw [qanc_all W.1, (hI.2 (x / 64) (by omega)).2]; exact R2 x hx
    · obtain ⟨f1, C⟩ := hI
      refine ⟨by omega, by omega, by omega, by omega, by omega, by omega, by omega, by omega, by omega, by omega, ih (by omega) _ ⟨qmf_trans f1 (qmf_trans (qmf_qu rfl) (qmf_qu rfl)), fun c hc => ?_⟩⟩
      have p1 : h1 54 0 (4 * (i : Int) + (m : Int)) = h 54 0 ((4 * i + m : Nat) : Int) := by
        rw [show 4 * (i : Int) + (m : Int) = ((4 * i + m : Nat) : Int) by omega]
        exact f1 54 0 _ (by rw [qcd_lo (by omega)]; rfl)
      have p2 : h1 54 0 (4 * (j : Int) + (m : Int)) = h 54 0 ((4 * j + m : Nat) : Int) := by
        rw [show 4 * (j : Int) + (m : Int) = ((4 * j + m : Nat) : Int) by omega]
        exact f1 54 0 _ (by rw [qcd_lo (by omega)]; rfl)
      by_cases ec : c = m
      · subst ec
        constructor
        · rw [qu_ne (by omega), qu_at, p1]
        · rw [show ((4 + c : Nat) : Int) = 4 + (c : Int) by omega, qu_at, qu_ne (by omega), p2]
      · constructor
        · rw [qu_ne (by omega), qu_ne (by omega)]; exact (C c (by omega)).1
        · rw [qu_ne (by omega), qu_ne (by omega)]; exact (C c (by omega)).2
  exact copy 0 (by omega) h ⟨qmf_refl _ _, fun c hc => absurd hc (Nat.not_lt_zero _)⟩
theorem m_same {b : Int} (hL : qhL g) (M : qmd h n S) (k : Q (qon2 n S s b (fun S T => if qsub T S then (if qsub S T then 1 else 2) else if qsub S T then 3 else 0)) h) : q_tr l g (d + 3) n_X12_same [qr 12 0, qi s, qi b] h Q := by
  unfold qon2 at k
  refine i_X12_same hL (fun G hG hw _ => b_X12_same_0 hG (m_isSet hL M (hw (qi s) (by simp)) (q_on (fun e => q_qe k (by rw [if_neg (by omega)])) (fun i e hi => m_isSet hL M (hw (qi b) (by simp)) (q_no (fun e2 => q_qe k (by rw [if_neg (by omega)])) (fun j e2 hj => ?_))))))
  subst e
  subst e2
  rw [if_pos (by omega), Int.toNat_natCast, Int.toNat_natCast] at k
  dsimp only at k
  have h6 := M.2.1
  obtain ⟨V, R⟩ := M.2.2 i hi
  obtain ⟨W, R2⟩ := M.2.2 j hj
  generalize S i = A at *
  generalize S j = B at *
  have HA := qm6_1 V.1
  have HB := qm6_1 W.1
  have es : ∀ X Y : QZ, qm6 Y → (!(qex (fun x => X x && !Y x) 256)) = qsub X Y := fun X Y HY => by
    unfold qsub
    cases e : qex (fun x => X x && !Y x) 256 with
    | true =>
      obtain ⟨z, z1, z2⟩ := qex_iff.mp e
      rw [qex_iff.mpr ⟨z, by omega, z2⟩]
    | false =>
      rw [qex_f.mpr (fun z hz => ?_)]
      rcases Nat.lt_or_ge z 256 with c | c
      · exact qex_f.mp e z c
      · rw [HY z c]; simp
  have key : ∀ m, m ≤ 256 → G 26 [some (qr 12 0), some (qi (i : Int)), some (qi (j : Int)), some (qi (qb (qex (fun x => A x && !B x) m))), some (qi (qb (qex (fun x => B x && !A x) m))), some (qi (m : Int)), none, none] [] h := by
    refine q_up (fun m hm ih => b_X12_same_26 hG ⟨fun q => ?_, fun q => ⟨by omega, ?_⟩⟩)
    · rw [show m = 256 by omega]
      rw [← es A B HB, ← es B A HA] at k
      cases e1 : qex (fun x => A x && !B x) 256 <;> cases e2 : qex (fun x => B x && !A x) 256 <;> rw [e1, e2] at k
      · exact ⟨fun _ => ⟨fun _ => k, fun q => absurd rfl q⟩, fun q => absurd rfl q⟩
      · exact ⟨fun _ => ⟨fun q => absurd (show (1 : Int) = 0 from q) (by decide), fun _ => k⟩, fun q => absurd rfl q⟩
      · exact ⟨fun q => absurd (show (1 : Int) = 0 from q) (by decide), fun _ => ⟨fun _ => k, fun q => absurd rfl q⟩⟩
      · exact ⟨fun q => absurd (show (1 : Int) = 0 from q) (by decide), fun _ => ⟨fun q => absurd (show (1 : Int) = 0 from q) (by decide), fun _ => k⟩⟩
    · rw [q_4j]
      refine m_isOf hL (Or.inl ⟨Or.inl rfl, by omega⟩) R HA ⟨by omega, ?_⟩
      rw [q_4j]
      refine m_isOf hL (Or.inl ⟨Or.inl rfl, by omega⟩) R2 HB ?_
      rw [qin_nat, qin_nat]
      have ih := ih (by omega)
      have e1 : qex (fun x => A x && !B x) (m + 1) = (qex (fun x => A x && !B x) m || (A m && !B m)) := rfl
      have e2 : qex (fun x => B x && !A x) (m + 1) = (qex (fun x => B x && !A x) m || (B m && !A m)) := rfl
      rw [e1, e2] at ih
      cases c1 : A m <;> cases c2 : B m <;> rw [c1, c2] at ih <;> simp only [Bool.false_and, Bool.true_and, Bool.not_false, Bool.not_true, Bool.or_false, Bool.or_true, Bool.and_false] at ih
      · exact ⟨fun _ => b_X12_same_74 hG ⟨fun _ => ⟨by omega, ih⟩, fun q => absurd rfl q⟩, fun q => absurd rfl q⟩
      · exact ⟨fun _ => b_X12_same_74 hG ⟨fun q => absurd q (by decide), fun _ => ⟨fun q => absurd rfl q, fun _ => ⟨by omega, ih⟩⟩⟩, fun q => absurd rfl q⟩
      · exact ⟨fun q => absurd q (by decide), fun _ => ⟨fun q => absurd rfl q, fun _ => b_X12_same_74 hG ⟨fun _ => ⟨by omega, ih⟩, fun q => absurd rfl q⟩⟩⟩
      · exact ⟨fun q => absurd q (by decide), fun _ => ⟨fun _ => b_X12_same_74 hG ⟨fun q => absurd q (by decide), fun _ => ⟨fun _ => ⟨by omega, ih⟩, fun q => absurd q (by decide)⟩⟩, fun q => absurd q (by decide)⟩⟩
  exact key 0 (by omega)
end QM8
