/-! GREEDY and BLUNDER -/
/-- the greatest GENERATOR that is not above y; 0: there is none -/
def qgg (S : QZ) (y : Nat) : Nat := (qmx (qgen S) (y + 1)).toNat
theorem qgg_ok {S : QZ} {y : Nat} (h : qgg S y ≠ 0) : qgen S (qgg S y) = true ∧ qgg S y ≤ y := by
  unfold qgg at h ⊢
  have h1 := qmx_bd (qgen S) (y + 1)
  exact ⟨qmx_yes (by omega), by omega⟩
def qgr (S : QZ) : Nat → Nat → Nat × Nat
  | 0, y => (0, y)
  | f + 1, y => if qgg S y = 0 then (0, y) else ((qgr S f (y - qgg S y)).1 + 1, (qgr S f (y - qgg S y)).2)
theorem qgr_s (S : QZ) (f y : Nat) : qgr S (f + 1) y = if qgg S y = 0 then (0, y) else ((qgr S f (y - qgg S y)).1 + 1, (qgr S f (y - qgg S y)).2) := rfl
theorem qgr_1 (S : QZ) : ∀ f y, y ≤ f → qgr S (f + 1) y = qgr S f y
  | 0, y, h => by
    have : y = 0 := by omega
    subst this
    rw [qgr_s]
    by_cases e : qgg S 0 = 0
    · rw [if_pos e]; rfl
    · have := qgg_ok e; omega
  | f + 1, y, h => by
    rw [qgr_s S (f + 1) y, qgr_s S f y]
    by_cases e : qgg S y = 0
    · rw [if_pos e, if_pos e]
    · rw [if_neg e, if_neg e, qgr_1 S f _ (by omega)]
theorem qgr_eq {S : QZ} {f y : Nat} (h : y ≤ f) : qgr S f y = qgr S y y := by
  obtain ⟨k, rfl⟩ : ∃ k, f = y + k := ⟨f - y, by omega⟩
  clear h
  induction k with
  | zero => rfl
  | succ k ih => rw [← Nat.add_assoc, qgr_1 S _ _ (by omega), ih]
/-- GREEDY: how many it takes, what is left -/
def qgrab (S : QZ) (y : Nat) : Nat × Nat := qgr S y y
theorem qgrab_0 {S : QZ} {y : Nat} (h : qgg S y = 0) : qgrab S y = (0, y) := by
  unfold qgrab
  rw [← qgr_eq (Nat.le_succ y), Nat.succ_eq_add_one, qgr_s, if_pos h]
theorem qgrab_s {S : QZ} {y : Nat} (h : qgg S y ≠ 0) : qgrab S y = ((qgrab S (y - qgg S y)).1 + 1, (qgrab S (y - qgg S y)).2) := by
  unfold qgrab
  rw [← qgr_eq (Nat.le_succ y), Nat.succ_eq_add_one, qgr_s, if_neg h, qgr_eq (show y - qgg S y ≤ y by omega)]
theorem qgrab_bd {S : QZ} : ∀ b y, y < b → (qgrab S y).1 ≤ y ∧ (qgrab S y).2 ≤ y
  | 0, y, h => absurd h (Nat.not_lt_zero _)
  | b + 1, y, h => by
    by_cases e : qgg S y = 0
    · rw [qgrab_0 e]; dsimp only; omega
    · have h1 := qgg_ok e
      have ih := qgrab_bd (S := S) b (y - qgg S y) (by omega)
      rw [qgrab_s e]; dsimp only; omega
/-- the least LENGTH, -1: there is none -/
def qfw (S : QZ) (y : Nat) : Int := qnth (fun n => qL S n y) (y + 1) 0
theorem qnth0 {p : Nat → Bool} : ∀ n, (qnth p n 0 = -1 ∧ ∀ z, z < n → p z = false) ∨ (∃ m : Nat, qnth p n 0 = m ∧ m < n ∧ p m = true ∧ ∀ z, z < m → p z = false)
  | 0 => Or.inl ⟨rfl, fun z h => absurd h (Nat.not_lt_zero _)⟩
  | n + 1 => by
    by_cases h : ∃ z, z < n + 1 ∧ p z = true
    · right
      obtain ⟨m, h1, h2⟩ := pk_least (fun z => p z = true) (Exists.elim h (fun z hz => ⟨z, hz.2⟩))
      obtain ⟨z, z1, z2⟩ := h
      have hmz : m ≤ z := by
        rcases Nat.lt_or_ge z m with q | q
        · exact absurd z2 (h2 z q)
        · exact q
      have hno : ∀ z, z < m → p z = false := fun z hz => by
        cases e : p z with
        | false => rfl
        | true => exact absurd e (h2 z hz)
      refine ⟨m, ?_, by omega, h1, hno⟩
      have := qnth_at h1 (show m < n + 1 by omega)
      have e : qc p m = 0 := by rw [qc_none (m := 0) (Nat.zero_le _) (fun x _ hx => hno x hx)]; rfl
      rw [e] at this
      exact this
    · left
      have hno : ∀ z, z < n + 1 → p z = false := fun z hz => by
        cases e : p z with
        | false => rfl
        | true => exact absurd ⟨z, hz, e⟩ h
      refine ⟨?_, hno⟩
      refine qnth_no (Or.inr ?_)
      rw [qc_none (m := 0) (Nat.zero_le _) (fun x _ hx => hno x hx)]
      exact Int.le_refl _
/-- what it is to be the least LENGTH -/
theorem qfw_ok {S : QZ} (V : QV1 S) (y : Nat) : (qfw S y = -1 ∧ ∀ n, qL S n y = false) ∨ (∃ m : Nat, qfw S y = m ∧ m ≤ y ∧ qL S m y = true ∧ ∀ n, n < m → qL S n y = false) := by
  rcases qnth0 (p := fun n => qL S n y) (y + 1) with ⟨h1, h2⟩ | ⟨m, h1, h2, h3, h4⟩
  · left
    refine ⟨h1, fun n => ?_⟩
    rcases Nat.lt_or_ge n (y + 1) with q | q
    · exact h2 n q
    · cases e : qL S n y with
      | false => rfl
      | true =>
        have a := qL_lt V e
        have b := Nat.div_le_self y (qms S)
        omega
  · right
    exact ⟨m, h1, by omega, h3, h4⟩
theorem qfw_one {S : QZ} (V : QV1 S) {y : Nat} {r : Int} (h : (r = -1 ∧ ∀ n, qL S n y = false) ∨ (∃ m : Nat, r = m ∧ qL S m y = true ∧ ∀ n, n < m → qL S n y = false)) : r = qfw S y := by
  rcases qfw_ok V y with ⟨a1, a2⟩ | ⟨m, a1, a2, a3, a4⟩
  · rcases h with ⟨b1, b2⟩ | ⟨n, b1, b2, b3⟩
    · rw [a1, b1]
    · rw [a2 n] at b2; cases b2
  · rcases h with ⟨b1, b2⟩ | ⟨n, b1, b2, b3⟩
    · rw [b2 m] at a3; cases a3
    · rw [a1, b1]
      rcases Nat.lt_trichotomy m n with q | q | q
      · rw [b3 m q] at a3; cases a3
      · rw [q]
      · rw [a4 n q] at b2; cases b2
/-- the least over the GENERATORS below z -/
def qfm (S : QZ) (y : Nat) : Nat → Int
  | 0 => -1
  | z + 1 => if qgen S z = true ∧ qfw S (y - z) ≠ -1 ∧ (qfm S y z = -1 ∨ qfw S (y - z) + 1 < qfm S y z) then qfw S (y - z) + 1 else qfm S y z
theorem qfm_ok {S : QZ} (V : QV1 S) {y : Nat} : ∀ z, z ≤ y + 1 → (qfm S y z = -1 ∧ ∀ w, w < z → qgen S w = true → ∀ n, qL S n (y - w) = false) ∨
    (∃ m : Nat, qfm S y z = m + 1 ∧ m ≤ y ∧ (∃ w, w < z ∧ qgen S w = true ∧ qL S m (y - w) = true) ∧ ∀ w, w < z → qgen S w = true → ∀ n, n < m → qL S n (y - w) = false)
  | 0, _ => Or.inl ⟨rfl, fun w h => absurd h (Nat.not_lt_zero _)⟩
  | z + 1, hz => by
    have ih := qfm_ok V (y := y) z (by omega)
    unfold qfm
    cases hg : qgen S z with
    | false =>
      rw [if_neg (by simp)]
      rcases ih with ⟨a1, a2⟩ | ⟨m, a1, a2, ⟨w, w1, w2, w3⟩, a4⟩
      · refine Or.inl ⟨a1, fun w h1 h2 => ?_⟩
        by_cases e : w = z
        · rw [e, hg] at h2; cases h2
        · exact a2 w (by omega) h2
      · refine Or.inr ⟨m, a1, a2, ⟨w, by omega, w2, w3⟩, fun w h1 h2 => ?_⟩
        by_cases e : w = z
        · rw [e, hg] at h2; cases h2
        · exact a4 w (by omega) h2
    | true =>
      rcases qfw_ok V (y - z) with ⟨b1, b2⟩ | ⟨k, b1, b2, b3, b4⟩
      · rw [if_neg (fun q => q.2.1 b1)]
        rcases ih with ⟨a1, a2⟩ | ⟨m, a1, a2, ⟨w, w1, w2, w3⟩, a4⟩
        · refine Or.inl ⟨a1, fun w h1 h2 => ?_⟩
          by_cases e : w = z
          · rw [e]; exact b2
          · exact a2 w (by omega) h2
        · refine Or.inr ⟨m, a1, a2, ⟨w, by omega, w2, w3⟩, fun w h1 h2 n hn => ?_⟩
          by_cases e : w = z
          · rw [e]; exact b2 n
          · exact a4 w (by omega) h2 n hn
      · rw [b1]
        rcases ih with ⟨a1, a2⟩ | ⟨m, a1, a2, ⟨w, w1, w2, w3⟩, a4⟩
        · rw [if_pos ⟨rfl, by omega, Or.inl a1⟩]
          refine Or.inr ⟨k, rfl, by omega, ⟨z, by omega, hg, b3⟩, fun w h1 h2 n hn => ?_⟩
          by_cases e : w = z
          · rw [e]; exact b4 n hn
          · exact a2 w (by omega) h2 n
        · by_cases c : (k : Int) + 1 < qfm S y z
          · rw [if_pos ⟨rfl, by omega, Or.inr c⟩]
            refine Or.inr ⟨k, rfl, by omega, ⟨z, by omega, hg, b3⟩, fun w h1 h2 n hn => ?_⟩
            by_cases e : w = z
            · rw [e]; exact b4 n hn
            · exact a4 w (by omega) h2 n (by omega)
          · rw [if_neg (fun q => by omega)]
            refine Or.inr ⟨m, a1, a2, ⟨w, by omega, w2, w3⟩, fun w h1 h2 n hn => ?_⟩
            by_cases e : w = z
            · rw [e]; exact b4 n (by omega)
            · exact a4 w (by omega) h2 n hn
theorem qfm_fw {S : QZ} (V : QV1 S) {y : Nat} (hy : 0 < y) : qfm S y (y + 1) = qfw S y := by
  have hL : ∀ n, qL S n y = true → ∃ n', n = n' + 1 ∧ ∃ w, w < y + 1 ∧ qgen S w = true ∧ qL S n' (y - w) = true := by
    intro n hn
    cases n with
    | zero => have := qL_0.mp hn; omega
    | succ n =>
      obtain ⟨z, z1, z2, z3⟩ := qL_s.mp hn
      exact ⟨n, rfl, z, by omega, z2, z3⟩
  refine qfw_one V ?_
  rcases qfm_ok V (y := y) (y + 1) (Nat.le_refl _) with ⟨a1, a2⟩ | ⟨m, a1, a2, ⟨w, w1, w2, w3⟩, a4⟩
  · refine Or.inl ⟨a1, fun n => ?_⟩
    cases e : qL S n y with
    | false => rfl
    | true =>
      obtain ⟨n', h1, w, h2, h3, h4⟩ := hL n e
      rw [a2 w h2 h3] at h4; cases h4
  · refine Or.inr ⟨m + 1, by omega, qL_s.mpr ⟨w, by omega, w2, w3⟩, fun n hn => ?_⟩
    cases e : qL S n y with
    | false => rfl
    | true =>
      obtain ⟨n', h1, w, h2, h3, h4⟩ := hL n e
      rw [a4 w h2 h3 n' (by omega)] at h4; cases h4
/-- it blunders at y -/
def qbp (S : QZ) (y : Nat) : Bool := S y && (!((qgrab S y).2 == 0) || decide (qfw S y < ((qgrab S y).1 : Nat)))
def qblun (S : QZ) : Int := if qnth (qbp S) 151 0 = -1 then -2 else qnth (qbp S) 151 0
theorem qfw_in {S : QZ} (V : QV1 S) {y : Nat} : qfw S y = -1 ↔ S y = false := by
  rcases qfw_ok V y with ⟨a1, a2⟩ | ⟨m, a1, a2, a3, a4⟩
  · constructor
    · intro _
      cases e : S y with
      | false => rfl
      | true =>
        obtain ⟨n, hn⟩ := qL_ex V (y + 1) y (by omega) e
        rw [a2 n] at hn; cases hn
    · intro _; exact a1
  · constructor
    · intro q; omega
    · intro q; rw [qL_in V _ _ a3] at q; cases q
section QWalks4
variable {l : Launch} {g : QG} {d : Nat} {h : QM} {i : Int} {S : QZ} {Q : Int → QM → Prop}
theorem s_within {y : Nat} (hL : qhL g) (V : QV2 S) (A : qat h i S) (hy : y ≤ 150) (k : Q (qgg S y : Nat) h) : q_tr l g (d + 1) n_X10_greatestWithin [qr 8 i, qi y] h Q := by
  refine i_X10_greatestWithin hL (fun G hG _ _ => b_X10_greatestWithin_0 hG ?_)
  have hc : qgc S ≤ 24 := V.2
  have key : ∀ z, z ≤ y + 1 → G 4 [some (qr 8 i), some (qi y), some (qi ((qmx (qgen S) z).toNat : Nat)), some (qi (qc (qgen S) z : Nat))] [] h := by
    refine q_up (fun z hz ih => ?_)
    by_cases hzm : z = y + 1
    · subst hzm
      refine b_X10_greatestWithin_4 hG ?_
      rw [A.2.2.2.2.1]
      refine ⟨fun _ => k, fun q => ⟨by omega, fun _ => k, fun q2 => ?_⟩⟩
      exfalso
      obtain ⟨w, w1, w2, w3⟩ := qc_kth (p := qgen S) (n := 400) (k := qc (qgen S) (y + 1)) (by unfold qgc at q; omega)
      have e := A.2.2.2.2.2 w w1 w2
      rw [w3] at e
      rw [e] at q2
      have := qc_lt (show w < y + 1 by omega) w2
      omega
    · have ih := ih (by omega)
      have e : qmx (qgen S) (z + 1) = if qgen S z then (z : Int) else qmx (qgen S) z := rfl
      cases hg : qgen S z with
      | false =>
        rw [hg] at e
        rw [e, qc_f hg] at ih
        exact ih
      | true =>
        rw [hg] at e
        rw [e, qc_t hg] at ih
        have h1c : qc (qgen S) z < qgc S := qc_lt (by omega) hg
        refine b_X10_greatestWithin_4 hG ?_
        rw [A.2.2.2.2.1, A.2.2.2.2.2 z (by omega) hg]
        exact ⟨fun q => by omega, fun _ => ⟨by omega, fun q => by omega, fun _ => ⟨by omega, by omega, ih⟩⟩⟩
  exact key 0 (by omega)
theorem s_graball {x : Nat} (hL : qhL g) (V : QV2 S) (A : qat h i S) (hx : x ≤ 150)
    (k : ∀ h', qfx [41, 42] h h' → (∀ y : Nat, y ≤ x → h' 41 0 y = ((qgrab S y).1 : Nat) ∧ h' 42 0 y = ((qgrab S y).2 : Nat)) → Q 0 h') : q_tr l g (d + 2) n_X10_grabAll [qr 10 0, qr 8 i, qi x] h Q := by
  refine i_X10_grabAll hL (fun G hG _ _ => b_X10_grabAll_0 hG ?_)
  have key : ∀ m, m ≤ x + 1 → ∀ h1, (qfx [41, 42] h h1 ∧ ∀ y : Nat, y < m → h1 41 0 y = ((qgrab S y).1 : Nat) ∧ h1 42 0 y = ((qgrab S y).2 : Nat)) → G 2 [some (qr 10 0), some (qr 8 i), some (qi x), some (qi (m : Int)), none] [] h1 := by
    refine q_up (fun m hm ih h1 hI => b_X10_grabAll_2 hG ?_)
    obtain ⟨f, a1⟩ := hI
    have nxt : ∀ u v : Int, u = ((qgrab S m).1 : Nat) → v = ((qgrab S m).2 : Nat) → m < x + 1 → G 2 [some (qr 10 0), some (qr 8 i), some (qi x), some (qi ((m : Int) + 1)), none] [] (qu (qu h1 41 0 m u) 42 0 m v) := fun u v hu hv hm2 => by
      refine ih hm2 _ ⟨qfx_trans f (qfx_trans (qfx_qu rfl) (qfx_qu rfl)), fun y hy => ?_⟩
      by_cases e : y = m
      · rw [e, qu_at, qu_ne (by omega), qu_at]; exact ⟨hu, hv⟩
      · rw [qu_ne (by omega), qu_ne (by omega), qu_ne (by omega), qu_ne (by omega)]; exact a1 y (by omega)
    refine ⟨fun q => k h1 f (fun y hy => a1 y (by omega)), fun q => s_within hL V (qat_fx A f rfl) (by omega) ?_⟩
    by_cases e : qgg S m = 0
    · rw [e]
      have eg := qgrab_0 e
      exact ⟨fun q2 => by omega, fun _ => ⟨by omega, fun q2 => by omega, fun _ => ⟨by omega, by omega, nxt 0 m (by rw [eg]; rfl) (by rw [eg]) (by omega)⟩⟩⟩
    · obtain ⟨g1, g2⟩ := qgg_ok e
      have eg := qgrab_s e
      have b1 := a1 (m - qgg S m) (by omega)
      have b2 := qgrab_bd (S := S) (m - qgg S m + 1) (m - qgg S m) (by omega)
      rw [show (m : Int) - (qgg S m : Int) = ((m - qgg S m : Nat) : Int) by omega, b1.1, qu_ne (by omega), b1.2]
      exact ⟨fun _ => ⟨by omega, by omega, by omega, by omega, fun _ => ⟨by omega, by omega, by omega, by omega, nxt _ _ (by rw [eg]; rfl) (by rw [eg]) (by omega)⟩, fun q2 => by omega⟩, fun q2 => by omega⟩
  exact key 0 (by omega) h ⟨qfx_refl _ _, fun y hy => absurd hy (Nat.not_lt_zero _)⟩
theorem s_grab {x : Nat} {what : Int} (hL : qhL g) (V : QV2 S) (A : qat h i S) (hx : x ≤ 150)
    (k : ∀ h', qfx [41, 42] h h' → Q (if what = 0 then qb ((qgrab S x).2 == 0) else if what = 1 then ((qgrab S x).1 : Nat) else ((qgrab S x).2 : Nat)) h') : q_tr l g (d + 3) n_X10_grab [qr 10 0, qr 8 i, qi x, qi what] h Q := by
  refine i_X10_grab hL (fun G hG _ _ => b_X10_grab_0 hG ?_)
  refine s_graball hL V A hx (fun h1 f a1 => ?_)
  obtain ⟨b1, b2⟩ := a1 x (Nat.le_refl _)
  rw [b1, b2]
  refine ⟨fun q => ⟨fun q2 => ⟨by omega, q_qe (k h1 f) ?_⟩, fun q2 => ⟨by omega, q_qe (k h1 f) ?_⟩⟩, fun q => ⟨by omega, fun q2 => q_qe (k h1 f) ?_, fun q2 => q_qe (k h1 f) ?_⟩⟩
  · rw [if_neg q, if_neg q2]
  · rw [if_neg q, if_pos q2]
  · rw [if_pos q, show ((qgrab S x).2 == 0) = false by simp; omega]; rfl
  · rw [if_pos q, show ((qgrab S x).2 == 0) = true by simp; omega]; rfl
theorem s_fewest {y : Nat} (hL : qhL g) (V : QV2 S) (A : qat h i S) (hy : 0 < y ∧ y ≤ 150) (T : ∀ z : Nat, z < y → h 40 0 z = qfw S z) (k : Q (qfw S y) h) : q_tr l g (d + 1) n_X10_fewestFor [qr 10 0, qr 8 i, qi y] h Q := by
  refine i_X10_fewestFor hL (fun G hG _ _ => b_X10_fewestFor_0 hG ?_)
  have hc : qgc S ≤ 24 := V.2
  rw [← qfm_fw V.1 hy.1] at k
  have key : ∀ z, z ≤ y + 1 → G 5 [some (qr 10 0), some (qr 8 i), some (qi y), some (qi (qfm S y z)), some (qi (qc (qgen S) z : Nat)), none] [] h := by
    refine q_up (fun z hz ih => ?_)
    by_cases hzm : z = y + 1
    · subst hzm
      refine b_X10_fewestFor_5 hG ?_
      rw [A.2.2.2.2.1]
      refine ⟨fun _ => k, fun q => ⟨by omega, fun _ => k, fun q2 => ?_⟩⟩
      exfalso
      obtain ⟨w, w1, w2, w3⟩ := qc_kth (p := qgen S) (n := 400) (k := qc (qgen S) (y + 1)) (by unfold qgc at q; omega)
      have e := A.2.2.2.2.2 w w1 w2
      rw [w3] at e
      rw [e] at q2
      have := qc_lt (show w < y + 1 by omega) w2
      omega
    · have ih := ih (by omega)
      have e : qfm S y (z + 1) = if qgen S z = true ∧ qfw S (y - z) ≠ -1 ∧ (qfm S y z = -1 ∨ qfw S (y - z) + 1 < qfm S y z) then qfw S (y - z) + 1 else qfm S y z := rfl
      cases hg : qgen S z with
      | false =>
        rw [if_neg (by rw [hg]; simp)] at e
        rw [e, qc_f hg] at ih
        exact ih
      | true =>
        rw [qc_t hg] at ih
        have h1c : qc (qgen S) z < qgc S := qc_lt (by omega) hg
        have h0 := (qgen_in hg).1
        have hb : -1 ≤ qfw S (y - z) ∧ qfw S (y - z) ≤ 150 := by
          rcases qfw_ok V.1 (y - z) with ⟨a1, _⟩ | ⟨m, a1, a2, _⟩ <;> omega
        refine b_X10_fewestFor_5 hG ?_
        rw [A.2.2.2.2.1, A.2.2.2.2.2 z (by omega) hg, show (y : Int) - (z : Int) = ((y - z : Nat) : Int) by omega, T (y - z) (by omega)]
        refine ⟨fun q => by omega, fun _ => ⟨by omega, fun q => by omega, fun _ => ⟨by omega, by omega, by omega, fun q => ⟨by omega, ?_⟩, fun q => ⟨fun q2 => ⟨by omega, by omega, ?_⟩, fun q2 => ⟨by omega, fun q3 => ⟨by omega, ?_⟩, fun q3 => ⟨by omega, by omega, ?_⟩⟩⟩⟩⟩⟩
        · rw [if_neg (fun w => w.2.1 q)] at e
          rw [e] at ih; exact ih
        · rw [if_pos ⟨hg, q, Or.inl q2⟩] at e
          rw [e] at ih; exact ih
        · rw [if_neg (fun w => by omega)] at e
          rw [e] at ih; exact ih
        · rw [if_pos ⟨hg, q, Or.inr (by omega)⟩] at e
          rw [e] at ih; exact ih
  exact key 0 (by omega)
theorem s_blunder (hL : qhL g) (V : QV2 S) (A : qat h i S) (k : ∀ h', qfx [40, 41, 42] h h' → Q (qblun S) h') : q_tr l g (d + 3) n_X10_firstBlunder [qr 10 0, qr 8 i] h Q := by
  refine i_X10_firstBlunder hL (fun G hG _ _ => b_X10_firstBlunder_0 hG ?_)
  refine s_graball (x := 150) hL V A (by omega) (fun h1 f a1 => ⟨by omega, ?_⟩)
  have hfound : ∀ y, y < 151 → qbp S y = true → (∀ z, z < y → qbp S z = false) → (y : Int) = qblun S := by
    intro y hy hp hno
    have e : qc (qbp S) y = 0 := by rw [qc_none (m := 0) (Nat.zero_le _) (fun x _ hx => hno x hx)]; rfl
    have := qnth_at hp hy
    rw [e] at this
    unfold qblun
    rw [show ((0 : Nat) : Int) = 0 from rfl] at this
    rw [this, if_neg (by omega)]
  have key : ∀ m, m ≤ 150 → ∀ h2, (qfx [40, 41, 42] h h2 ∧ (∀ y : Nat, y ≤ 150 → h2 41 0 y = ((qgrab S y).1 : Nat) ∧ h2 42 0 y = ((qgrab S y).2 : Nat)) ∧ (∀ y : Nat, y < m + 1 → h2 40 0 y = qfw S y) ∧ ∀ y, y < m + 1 → qbp S y = false) → G 17 [some (qr 10 0), some (qr 8 i), some (qi ((m + 1 : Nat) : Int))] [] h2 := by
    refine q_up (fun m hm ih h2 hI => b_X10_firstBlunder_17 hG ?_)
    obtain ⟨f2, b1, b2, b3⟩ := hI
    refine ⟨fun q => q_qe (k h2 f2) ?_, fun q => s_fewest hL V (qat_fx A f2 rfl) (by omega) (fun z hz => b2 z hz) ⟨by omega, by omega, ?_⟩⟩
    · rcases qnth0 (p := qbp S) 151 with ⟨c1, _⟩ | ⟨y, c1, c2, c3, _⟩
      · unfold qblun; rw [c1, if_pos rfl]
      · rw [b3 y (by omega)] at c3; cases c3
    · rw [qu_at]
      have f3 := qfx_trans f2 (qfx_qu (rs := [40, 41, 42]) (h := h2) (r := 40) (i := 0) (j := ((m + 1 : Nat) : Int)) (v := qfw S (m + 1)) rfl)
      obtain ⟨g1, g2⟩ := b1 (m + 1) (by omega)
      rw [qu_ne (show ¬ (42 = 40 ∧ _) by omega), qu_ne (show ¬ (41 = 40 ∧ _) by omega), g1, g2]
      have nxt : qbp S (m + 1) = false → (-2147483648 ≤ ((m + 1 : Nat) : Int) + 1 ∧ ((m + 1 : Nat) : Int) + 1 ≤ 2147483647) ∧ G 17 [some (qr 10 0), some (qr 8 i), some (qi (((m + 1 : Nat) : Int) + 1))] [] (qu h2 40 0 ((m + 1 : Nat) : Int) (qfw S (m + 1))) := fun hn => by
        refine ⟨by omega, ih (by omega) _ ⟨f3, fun y hy => ?_, fun y hy => ?_, fun y hy => ?_⟩⟩
        · rw [qu_ne (by omega), qu_ne (by omega)]; exact b1 y hy
        · by_cases e : y = m + 1
          · rw [e, qu_at]
          · rw [qu_ne (by omega)]; exact b2 y (by omega)
        · by_cases e : y = m + 1
          · rw [e]; exact hn
          · exact b3 y (by omega)
      have hin := qfw_in V.1 (y := m + 1)
      refine ⟨fun q2 => nxt ?_, fun q2 => ⟨by omega, fun q3 => q_qe (k _ f3) (hfound (m + 1) (by omega) ?_ b3), fun q3 => ⟨by omega, by omega, fun q4 => nxt ?_, fun q4 => q_qe (k _ f3) (hfound (m + 1) (by omega) ?_ b3)⟩⟩⟩
      · unfold qbp; rw [hin.mp q2]; rfl
      · have hs : S (m + 1) = true := by
          cases e : S (m + 1) with
          | false => exact absurd (hin.mpr e) q2
          | true => rfl
        unfold qbp
        rw [hs, show ((qgrab S (m + 1)).2 == 0) = false by simp; omega]; rfl
      · unfold qbp
        rw [show ((qgrab S (m + 1)).2 == 0) = true by simp; omega, decide_eq_false (by omega)]; simp
      · have hs : S (m + 1) = true := by
          cases e : S (m + 1) with
          | false => exact absurd (hin.mpr e) q2
          | true => rfl
        unfold qbp
        rw [hs, decide_eq_true (by omega)]; simp
  have := key 0 (by omega) (qu h1 40 0 0 0) ⟨qfx_trans (qfx_mono f (qfx_sub rfl)) (qfx_qu rfl), fun y hy => ?_, fun y hy => ?_, fun y hy => ?_⟩
  · exact this
  · rw [qu_ne (by omega), qu_ne (by omega)]; exact a1 y hy
  · have : y = 0 := by omega
    subst this
    refine qfw_one V.1 (Or.inr ⟨0, ?_, qL_0.mpr rfl, fun n hn => absurd hn (Nat.not_lt_zero _)⟩)
    exact qu_at
  · have : y = 0 := by omega
    subst this
    have e : qgg S 0 = 0 := by
      by_cases e : qgg S 0 = 0
      · exact e
      · have := qgg_ok e; omega
    have e2 : (0 : Int) = qfw S 0 := qfw_one V.1 (Or.inr ⟨0, rfl, qL_0.mpr rfl, fun n hn => absurd hn (Nat.not_lt_zero _)⟩)
    unfold qbp
    rw [qgrab_0 e, ← e2]; simp
end QWalks4
