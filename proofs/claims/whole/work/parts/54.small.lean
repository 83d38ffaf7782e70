/-! the LIST as the program keeps it -/
def qclp (p : Nat → Bool) : Bool := !(qex (fun a => qex (fun b => p a && p b && !(p (a + b))) 16) 16)
theorem qclp_v (v : Nat) : qclp (qsv v) = qcv v := rfl
/-- so many times a step more -/
def qgrw (p : Nat → Bool) (s r : Nat) : Nat → Bool := fun k => qex (fun j => decide (j * s ≤ k) && p (k - j * s)) (r + 1)
theorem qgrw_iff {p : Nat → Bool} {s r k : Nat} : qgrw p s r k = true ↔ ∃ j, j ≤ r ∧ j * s ≤ k ∧ p (k - j * s) = true := by
  unfold qgrw
  rw [qex_iff]
  simp only [Bool.and_eq_true, decide_eq_true_eq]
  exact ⟨fun ⟨j, a, b, c⟩ => ⟨j, by omega, b, c⟩, fun ⟨j, a, b, c⟩ => ⟨j, by omega, b, c⟩⟩
/-- the number of a set -/
def qvm (S : QZ) : Nat → Nat
  | 0 => 0
  | m + 1 => 2 * qvm S m + (if S (m + 1) then 0 else 1)
theorem qvm_lt (S : QZ) : ∀ m, qvm S m < 2 ^ m
  | 0 => Nat.one_pos
  | m + 1 => by
    have := qvm_lt S m
    show 2 * qvm S m + (if S (m + 1) then 0 else 1) < 2 ^ (m + 1)
    rw [Nat.pow_succ]
    split <;> omega
theorem qvm_bit (S : QZ) : ∀ m x, 1 ≤ x → x ≤ m → qbt (qvm S m : Int) (m - x) = !S x
  | 0, x, h1, h2 => by omega
  | m + 1, x, h1, h2 => by
    have e : ((qvm S (m + 1) : Nat) : Int) = (qvm S m : Int) * 2 ^ 1 + (if S (m + 1) then 0 else 1) := by
      show ((2 * qvm S m + (if S (m + 1) then 0 else 1) : Nat) : Int) = _
      split <;> omega
    have hb : 0 ≤ (if S (m + 1) then (0 : Int) else 1) ∧ (if S (m + 1) then (0 : Int) else 1) < 2 ^ 1 := by split <;> omega
    rw [e, qbt_lo _ hb.1 hb.2]
    by_cases c : x = m + 1
    · subst c
      rw [if_pos (by omega), Nat.sub_self]
      cases S (m + 1) <;> decide
    · rw [if_neg (by omega), show m + 1 - x - 1 = m - x by omega]
      exact qvm_bit S m x h1 (by omega)
theorem qvm_set {S : QZ} (h0 : S 0 = true) (h16 : ∀ x, 16 ≤ x → S x = true) : qsv (qvm S 15) = S := by
  funext x
  rcases Nat.lt_or_ge x 16 with c | c
  · rw [qsv_lo c]
    by_cases e : x = 0
    · subst e
      rw [h0]
      have := qvm_lt S 15
      rw [show 15 - 0 = 15 by omega, qbt_small this]; rfl
    · rw [qvm_bit S 15 x (by omega) (by omega), Bool.not_not]
  · rw [qsv_hi c, h16 x c]
theorem qvm_pl {S : QZ} (V : QV1 S) (h16 : ∀ x, 16 ≤ x → S x = true) : qpl (qgn S) (qvm S 15) = true := by
  have e := qvm_set V.1 h16
  have h1 : qcv (qvm S 15) = true := qcv_iff.mpr (by rw [e]; exact V.2.1)
  have h2 : qbv (qvm S 15) = qgn S := by
    unfold qbv qgn
    rw [e]
    exact (qc_none (by omega) (fun x hx _ => qgap_t.mpr (h16 x hx))).symm
  unfold qpl
  rw [h1, h2]; simp
/-- a SET with few gaps has none from 16 on -/
theorem qfew {S : QZ} (V : QV1 S) (h : qgn S ≤ 8) : ∀ x, 16 ≤ x → S x = true := fun x hx => qtop_in V (by have := qtop_half V; omega)
def qls (h : QM) (g V : Nat) : Prop := h 7 0 2 = g ∧ h 7 0 1 = qc (qpl g) V ∧ ∀ v, v < V → qpl g v = true → qbs (h 29 0 (qc (qpl g) v)) (qsv v)
theorem qls_ext {h : QM} {g V V' : Nat} (a : qls h g V) (hV : V ≤ V') (hn : ∀ w, V ≤ w → w < V' → qpl g w = false) : qls h g V' := by
  refine ⟨a.1, by rw [a.2.1, qc_none hV hn], fun v hv hp => a.2.2 v ?_ hp⟩
  rcases Nat.lt_or_ge v V with c | c
  · exact c
  · rw [hn v c hv] at hp; cases hp
/-- what is kept of the LIST -/
def qlk (h : QM) : Prop := h 7 0 2 = -1 ∨ ∃ g, g ≤ 8 ∧ qls h g 32768
theorem qlk_fx {h h' : QM} {rs : List Nat} (a : qlk h) (f : qfx rs h h') (e : (rs.contains 7 || rs.contains 29) = false) : qlk h' := by
  simp only [Bool.or_eq_false_iff] at e
  rcases a with a | ⟨g, hg, a1, a2, a3⟩
  · exact Or.inl (by rw [f 7 e.1]; exact a)
  · exact Or.inr ⟨g, hg, by rw [f 7 e.1]; exact a1, by rw [f 7 e.1]; exact a2, fun v hv hp => by rw [f 29 e.2]; exact a3 v hv hp⟩
section QSml
variable {l : Launch} {g : QG} {d : Nat} {h : QM} {i : Int} {S : QZ} {Q : Int → QM → Prop} {m : Int} {p : Nat → Bool}
theorem s_maskOf (hL : qhL g) (V : QV1 S) (A : qat h i S) (h16 : ∀ x, 16 ≤ x → S x = true) (k : ∀ z, qbs z S → Q z h) : q_tr l g (d + 1) n_X7_maskOf [qr 8 i] h Q := by
  refine i_X7_maskOf hL (fun G hG _ _ => b_X7_maskOf_0 hG ?_)
  have hgn := qgn_le V
  have key := q_dn (P := fun y => ∀ z, qbs z (fun k => !(decide (k < y) && qgap S k)) → G 4 [some (qr 8 i), some (qi z), some (qi (qc (qgap S) y : Nat))] [] h) (N := 400) (fun z hz => b_X7_maskOf_4 hG ?_) (fun y hy ih z hz => ?_)
  · exact key (-1) (qbs_cong (p := fun _ => true) ⟨by unfold q_i32; omega, fun k _ => qbt_neg1 k⟩ (fun k _ => by simp))
  · rw [A.2.2.1]
    refine ⟨fun _ => k z (qbs_cong hz (fun x hx => ?_)), fun q => absurd (Int.le_refl _) q⟩
    rw [decide_eq_true (show x < 400 by omega), Bool.true_and]
    unfold qgap
    rw [Bool.not_not]
  · cases hg : qgap S y with
    | false =>
      rw [qc_f hg] at ih
      refine ih z (qbs_cong hz (fun x _ => ?_))
      by_cases c : x = y
      · subst c; rw [hg]; simp
      · rw [show decide (x < y) = decide (x < y + 1) from decide_eq_decide.mpr (by omega)]
    | true =>
      have h1 := qgn_lt hy hg
      have hy16 : y < 16 := by
        rcases Nat.lt_or_ge y 16 with c | c
        · exact c
        · rw [qgap_t.mpr (h16 y c)] at hg; cases hg
      rw [qc_t hg] at ih
      refine b_X7_maskOf_4 hG ?_
      rw [A.2.2.1, A.2.2.2.1 y hy (qgap_f.mp hg)]
      refine ⟨fun q => by omega, fun _ => ⟨by omega, by omega, ih _ (qbs_cong (qbs_and hz (qbs_not (qbs_one (by omega)))) (fun x _ => ?_))⟩⟩
      by_cases c : x = y
      · subst c; rw [hg]; simp
      · rw [show decide (x < y) = decide (x < y + 1) from decide_eq_decide.mpr (by omega)]
        have hxy : (x == y) = false := by simp [c]
        rw [hxy]; simp
theorem s_contains {x : Nat} (hL : qhL g) (hm : qbs m p) (hx : x < 32) (k : Q (qb (p x)) h) : q_tr l g (d + 1) n_X7_contains [qi m, qi x] h Q := by
  refine i_X7_contains hL (fun G hG _ _ => b_X7_contains_0 hG ?_)
  rw [qbs_bit hm hx]
  exact ⟨fun q => ⟨Or.inl rfl, q_qe k q.symm⟩, fun q => ⟨Or.inr rfl, q_qe k (by rw [qb_n0.mp q]; rfl)⟩⟩
theorem s_sum2 {x : Nat} (hL : qhL g) (hm : qbs m p) (hx : x < 32) (k : Q (qb (qs2 p x)) h) : q_tr l g (d + 2) n_X7_isSumOfTwo [qi m, qi x] h Q := by
  refine i_X7_isSumOfTwo hL (fun G hG _ _ => b_X7_isSumOfTwo_0 hG ?_)
  have key : ∀ a, a ≤ 32 → (∀ y, 0 < y → y < a + 1 → y < x → p y = true → p (x - y) = false) → G 2 [some (qi m), some (qi x), some (qi ((a + 1 : Nat) : Int))] [] h := by
    refine q_up (fun a ha ih hno => b_X7_isSumOfTwo_2 hG ⟨by omega, fun q => ⟨Or.inl rfl, q_qe k ?_⟩, fun q => ?_⟩)
    · cases e : qs2 p x with
      | false => rfl
      | true =>
        obtain ⟨y, y1, y2, y3, y4⟩ := qs2_iff.mp e
        rcases Nat.lt_or_ge y (a + 1) with c | c
        · rw [hno y y1 c y2 y3] at y4; cases y4
        · have := hno (x - y) (by omega) (by omega) (by omega) y4
          rw [show x - (x - y) = y by omega, y3] at this; cases this
    · have nxt : (p (a + 1) = true → p (x - (a + 1)) = false) → (-2147483648 ≤ ((a + 1 : Nat) : Int) + 1 ∧ ((a + 1 : Nat) : Int) + 1 ≤ 2147483647) ∧ G 2 [some (qi m), some (qi x), some (qi (((a + 1 : Nat) : Int) + 1))] [] h := fun q2 => by
        refine ⟨by omega, ih (by omega) (fun y y1 y2 y3 y4 => ?_)⟩
        by_cases c : y = a + 1
        · subst c; exact q2 y4
        · exact hno y y1 (by omega) y3 y4
      refine s_contains hL hm (by omega) ⟨fun q2 => nxt (fun q3 => by rw [q3] at q2; exact absurd q2 (by decide)), fun q2 => ⟨by omega, ?_⟩⟩
      rw [show (x : Int) - ((a + 1 : Nat) : Int) = ((x - (a + 1) : Nat) : Int) by omega]
      refine s_contains hL hm (by omega) ⟨fun q3 => nxt (fun _ => qb_0.mp q3), fun q3 => ⟨Or.inr rfl, q_qe k ?_⟩⟩
      rw [qs2_iff.mpr ⟨a + 1, by omega, by
        rcases Nat.lt_or_ge (a + 1) x with c | c
        · exact c
        · omega, qb_n0.mp q2, qb_n0.mp q3⟩]; rfl
  exact key 0 (by omega) (fun y y1 y2 => by omega)
theorem s_hasSums (hL : qhL g) (hm : qbs m p) (h0 : p 0 = true) (h16 : ∀ x, 16 ≤ x → p x = true) (k : Q (qb (qclp p)) h) : q_tr l g (d + 2) n_X7_hasAllSums [qi m] h Q := by
  refine i_X7_hasAllSums hL (fun G hG _ _ => b_X7_hasAllSums_0 hG ?_)
  have hq : qclp p = true ↔ ∀ a b, a < 16 → b < 16 → p a = true → p b = true → p (a + b) = true := by
    unfold qclp
    rw [Bool.not_eq_true', qex_f]
    constructor
    · intro h a b ha hb pa pb
      have := qex_f.mp (h a ha) b hb
      rw [pa, pb] at this
      simpa using this
    · intro h a ha
      refine qex_f.mpr (fun b hb => ?_)
      cases pa : p a with
      | false => rfl
      | true =>
        cases pb : p b with
        | false => rfl
        | true => rw [h a b ha hb pa pb]; rfl
  have key : ∀ a, a ≤ 15 → (∀ y, y < a + 1 → p y = true → ∀ b, b < 16 → p b = true → p (y + b) = true) → G 2 [some (qi m), some (qi ((a + 1 : Nat) : Int))] [] h := by
    refine q_up (fun a ha ih hal => b_X7_hasAllSums_2 hG ⟨fun q => ⟨Or.inr rfl, q_qe k ?_⟩, fun q => ?_⟩)
    · rw [hq.mpr (fun y b hy hb py pb => hal y (by omega) py b hb pb)]; rfl
    · have nxt : (p (a + 1) = true → ∀ b, b < 16 → p b = true → p (a + 1 + b) = true) → (-2147483648 ≤ ((a + 1 : Nat) : Int) + 1 ∧ ((a + 1 : Nat) : Int) + 1 ≤ 2147483647) ∧ G 2 [some (qi m), some (qi (((a + 1 : Nat) : Int) + 1))] [] h := fun q2 => by
        refine ⟨by omega, ih (by omega) (fun y hy py => ?_)⟩
        by_cases c : y = a + 1
        · subst c; exact q2 py
        · exact hal y (by omega) py
      refine s_contains hL hm (by omega) ⟨fun q2 => nxt (fun q3 => by rw [q3] at q2; exact absurd q2 (by decide)), fun q2 => ?_⟩
      have hz : qbs (q_and (q_shl m ((a + 1 : Nat) : Int)) (q_xor m (-1))) (fun k => (decide (a + 1 ≤ k) && p (k - (a + 1))) && !p k) := by
        refine qbs_cong (qbs_and (p := fun k => decide (a + 1 ≤ k) && p (k - (a + 1))) ⟨q_shl_i _ _, fun k hk => ?_⟩ (qbs_not hm)) (fun _ _ => rfl)
        rw [qbt_shl (by omega) hk]
        dsimp only
        by_cases c : a + 1 ≤ k
        · rw [hm.2 _ (by omega)]
        · rw [decide_eq_false c]; rfl
      refine ⟨fun q3 => nxt (fun _ b hb pb => ?_), fun q3 => ⟨Or.inl rfl, q_qe k ?_⟩⟩
      · have := (qbs_z hz).mp q3 (a + 1 + b) (by omega)
        rw [decide_eq_true (by omega), Bool.true_and, show a + 1 + b - (a + 1) = b by omega, pb, Bool.true_and] at this
        simpa using this
      · cases e : qclp p with
        | false => rfl
        | true =>
          exfalso
          refine q3 ((qbs_z hz).mpr (fun x hx => ?_))
          by_cases c : a + 1 ≤ x
          · cases pb : p (x - (a + 1)) with
            | false => rw [Bool.and_false]; rfl
            | true =>
              rcases Nat.lt_or_ge (x - (a + 1)) 16 with w | w
              · have := hq.mp e (a + 1) (x - (a + 1)) (by omega) w (qb_n0.mp q2) pb
                rw [show a + 1 + (x - (a + 1)) = x by omega] at this
                rw [this, Bool.not_true, Bool.and_false]
              · rw [h16 x (by omega), Bool.not_true, Bool.and_false]
          · rw [decide_eq_false c]; rfl
  exact key 0 (by omega) (fun y hy _ b _ pb => by rw [show y = 0 by omega, Nat.zero_add]; exact pb)
theorem s_stepAt {j : Int} (hL : qhL g) (hm : qbs m p) (k : Q (qpick (qgen p) 32 j) h) : q_tr l g (d + 3) n_X7_stepAt [qi m, qi j] h Q := by
  refine i_X7_stepAt hL (fun G hG _ _ => b_X7_stepAt_0 hG ?_)
  have key : ∀ a, a ≤ 31 → (j < 0 ∨ (qc (qgen p) (a + 1) : Int) ≤ j) → G 4 [some (qi m), some (qi j), some (qi (qc (qgen p) (a + 1) : Nat)), some (qi ((a + 1 : Nat) : Int))] [] h := by
    refine q_up (fun a ha ih hj => b_X7_stepAt_4 hG ⟨fun q => ⟨fun q2 => q_qe k ?_, fun q2 => q_qe k ?_⟩, fun q => ?_⟩)
    · have e : a + 1 = 32 := by omega
      rw [e] at hj
      rw [qpick_no q2 hj]
    · have e : a + 1 = 32 := by omega
      rw [q2, e]; rfl
    · have hcl := qc_le (qgen p) (a + 1)
      have skip : qgen p (a + 1) = false → (-2147483648 ≤ ((a + 1 : Nat) : Int) + 1 ∧ ((a + 1 : Nat) : Int) + 1 ≤ 2147483647) ∧ G 4 [some (qi m), some (qi j), some (qi (qc (qgen p) (a + 1) : Nat)), some (qi (((a + 1 : Nat) : Int) + 1))] [] h := fun e => by
        have := ih (by omega)
        rw [qc_f e] at this
        exact ⟨by omega, this hj⟩
      refine s_contains hL hm (by omega) ⟨fun q2 => skip (by rw [qgen_2, qb_0.mp q2, Bool.and_false]; rfl), fun q2 => s_sum2 hL hm (by omega) ⟨fun q3 => skip (by rw [qgen_2, qb_n0.mp q3]; simp), fun q3 => ?_⟩⟩
      have hg : qgen p (a + 1) = true := by rw [qgen_2, qb_n0.mp q2, qb_0.mp q3]; simp
      have := ih (by omega)
      rw [qc_t hg] at this
      exact ⟨fun q4 => ⟨by omega, by omega, this (by omega)⟩, fun q4 => q_qe k (by rw [qpick_at hg (by omega) q4])⟩
  have e0 : qc (qgen p) (0 + 1) = 0 := by
    rw [qc_f (by rw [qgen_2]; rfl)]; rfl
  have := key 0 (by omega)
  rw [e0] at this
  exact this (by omega)
theorem s_grown {s : Nat} (hL : qhL g) (hm : qbs m p) (hs : s < 32) (k : ∀ z, qbs z (qgrw p s 16) → Q z h) : q_tr l g (d + 1) n_X7_grown [qi m, qi s] h Q := by
  refine i_X7_grown hL (fun G hG _ _ => b_X7_grown_0 hG ?_)
  have key : ∀ r, r ≤ 16 → ∀ z, qbs z (qgrw p s r) → G 4 [none, some (qi s), some (qi z), some (qi (r : Int))] [] h := by
    refine q_up (fun r hr ih z hz => b_X7_grown_4 hG ⟨fun q => k z (by rw [show 16 = r by omega]; exact hz), fun q => ⟨by omega, ih (by omega) _ ⟨q_or_i _ _, fun x hx => ?_⟩⟩⟩)
    rw [qbt_or hx, qbt_shl hs hx, hz.2 x hx, Bool.eq_iff_iff, Bool.or_eq_true, Bool.and_eq_true, decide_eq_true_eq, qgrw_iff, qgrw_iff]
    constructor
    · rintro (⟨j, j1, j2, j3⟩ | ⟨c, e⟩)
      · exact ⟨j, by omega, j2, j3⟩
      · rw [hz.2 _ (by omega), qgrw_iff] at e
        obtain ⟨j, j1, j2, j3⟩ := e
        refine ⟨j + 1, by omega, by rw [Nat.add_mul]; omega, ?_⟩
        rw [Nat.add_mul, Nat.one_mul, show x - (j * s + s) = x - s - j * s by omega]
        exact j3
    · rintro ⟨j, j1, j2, j3⟩
      cases j with
      | zero => exact Or.inl ⟨0, by omega, j2, j3⟩
      | succ j =>
        rw [Nat.add_mul, Nat.one_mul] at j2 j3
        right
        refine ⟨by omega, ?_⟩
        rw [hz.2 _ (by omega), qgrw_iff]
        exact ⟨j, by omega, by omega, by rw [show x - s - j * s = x - (j * s + s) by omega]; exact j3⟩
  refine key 0 (by omega) m (qbs_cong hm (fun x _ => ?_))
  rw [Bool.eq_iff_iff, qgrw_iff]
  constructor
  · intro e; exact ⟨0, Nat.le_refl _, by omega, by rw [Nat.zero_mul, Nat.sub_zero]; exact e⟩
  · rintro ⟨j, j1, j2, j3⟩
    rw [show j = 0 by omega, Nat.zero_mul, Nat.sub_zero] at j3; exact j3
/-- one more is noted -/
theorem s_lnote {gg V : Nat} (hL : qhL g) (hg : gg ≤ 8) (A : qls h gg V) (hV : V < 32768) (hp : qpl gg V = true) (hm : qbs m (qsv V)) (k : ∀ h', qfx [7, 29] h h' → qls h' gg (V + 1) → Q 0 h') : q_tr l g (d + 1) n_X7_note [qr 7 0, qi m] h Q := by
  refine i_X7_note hL (fun G hG _ _ => b_X7_note_0 hG ?_)
  obtain ⟨a1, a2, a3⟩ := A
  have h1 := qc_lt hV hp
  have h2 := (qlist_67 hg).2
  have e1 : (qu h 29 0 (h 7 0 1) m) 7 0 1 = qc (qpl gg) V := by rw [qu_ne (by omega)]; exact a2
  rw [e1, a2]
  refine ⟨fun q => by omega, fun _ => ⟨by omega, by omega, k _ (qfx_trans (qfx_qu rfl) (qfx_qu rfl)) ⟨?_, ?_, fun v hv hpv => ?_⟩⟩⟩
  · rw [qu_ne (by omega), qu_ne (by omega)]; exact a1
  · rw [qu_at, qc_t hp]; rfl
  · rw [qu_ne (by omega)]
    by_cases c : v = V
    · subst c; rw [qu_at]; exact hm
    · have := qc_lt (show v < V by omega) hpv
      rw [qu_ne (by omega)]
      exact a3 v (by omega) hpv
theorem s_decide {gg : Nat} (hL : qhL g) (hg : gg ≤ 8) : ∀ f n v0 left : Nat, n + f = 16 → 0 < n → v0 + 2 ^ (16 - n) ≤ 32768 → v0 % 2 ^ (16 - n) = 0 → qcv v0 = true → qbv v0 + left = gg → ∀ (m : Int) (h : QM) (Q : Int → QM → Prop), qbs m (fun x => decide (x < n) && qsv v0 x) → qls h gg v0 → (∀ h', qfx [7, 29] h h' → qls h' gg (v0 + 2 ^ (16 - n)) → Q 0 h') → q_tr l g (d + f + 3) n_X7_decide [qr 7 0, qi n, qi m, qi left] h Q := by
  intro f
  induction f with
  | zero =>
    intro n v0 left hf hn0 hv h0 hc hb m h Q hm A k
    have hn : n = 16 := by omega
    have hp : 0 < 2 ^ (16 - n) := Nat.two_pow_pos _
    refine i_X7_decide hL (fun G hG _ _ => b_X7_decide_0 hG ⟨fun q => ?_, fun q => ?_⟩)
    · rw [A.1]
      exact ⟨by omega, fun q2 => k h (qfx_refl _ _) (qls_ext A (by omega) (fun w w1 w2 => by
        have := qpl_no (w := w - v0) (n := n) (g := gg) (by omega) h0 (by omega) (by omega) (Or.inr hn)
        rwa [show v0 + (w - v0) = w by omega] at this)), fun q2 => ⟨fun q3 => by omega, fun _ => k h (qfx_refl _ _) (qls_ext A (by omega) (fun w w1 w2 => by
        have := qpl_no (w := w - v0) (n := n) (g := gg) (by omega) h0 (by omega) (by omega) (Or.inr hn)
        rwa [show v0 + (w - v0) = w by omega] at this))⟩⟩
    · have hl : left = 0 := by omega
      have h00 := qpl_0 (w := 0) (g := gg) (by omega) (by omega) h0 hp hc (by omega)
      rw [Nat.add_zero] at h00
      refine s_lnote hL hg A (by omega) (by rw [h00]; rfl) (qbs_cong (qbs_or hm ⟨q_shl_i _ _, fun x hx => rfl⟩) (fun x hx => ?_)) (fun h1 f1 a1 => k h1 f1 (qls_ext a1 (by omega) (fun w w1 w2 => ?_)))
      · rw [qbt_shl (by omega) hx, qbt_neg1]
        by_cases c : x < n
        · rw [decide_eq_true c, decide_eq_false (by omega)]; simp
        · rw [decide_eq_false c, decide_eq_true (by omega), qsv_in (n := n) (by omega) h0 (by omega)]; rfl
      · have := qpl_0 (w := w - v0) (g := gg) (by omega) (by omega) h0 (by omega) hc (by omega)
        rw [show v0 + (w - v0) = w by omega, decide_eq_false (by omega)] at this
        exact this
  | succ f ih =>
    intro n v0 left hf hn0 hv h0 hc hb m h Q hm A k
    have hn16 : n < 16 := by omega
    have hp : 0 < 2 ^ (16 - n) := Nat.two_pow_pos _
    have hp1 : 0 < 2 ^ (16 - (n + 1)) := Nat.two_pow_pos _
    refine i_X7_decide hL (fun G hG _ _ => b_X7_decide_0 hG ⟨fun q => ?_, fun q => ?_⟩)
    · rw [A.1]
      refine ⟨by omega, fun q2 => k h (qfx_refl _ _) (qls_ext A (by omega) (fun w w1 w2 => by
        have := qpl_no (w := w - v0) (n := n) (g := gg) (by omega) h0 (by omega) (by omega) (Or.inl (by omega))
        rwa [show v0 + (w - v0) = w by omega] at this)), fun q2 => ⟨fun _ => ⟨by omega, ?_⟩, fun q3 => by omega⟩⟩
      have hm1 := q2m hn16 h0
      have e1 : qbs (q_or m (q_shl 1 n)) (fun x => decide (x < n + 1) && qsv v0 x) := qbs_cong (qbs_set hm (by omega)) (fun x _ => by
        by_cases c : x = n
        · subst c; rw [qsv_in (by omega) h0 (Nat.le_refl _)]; simp
        · rw [show decide (x < n) = decide (x < n + 1) from decide_eq_decide.mpr (by omega), show (x == n) = false by simp [c], Bool.or_false])
      refine ih (n + 1) v0 left (by omega) (by omega) (by rw [q2s hn16] at hv; omega) hm1 hc hb _ h _ e1 A (fun h1 f1 a1 => ?_)
      refine s_sum2 hL hm (by omega) ?_
      have es : qs2 (fun x => decide (x < n) && qsv v0 x) n = qs2 (qsv v0) n := by
        unfold qs2
        refine qex_cong (fun y hy => ?_)
        rcases Nat.eq_zero_or_pos y with c | c
        · subst c; rfl
        · dsimp only
          rw [decide_eq_true hy, decide_eq_true (show n - y < n by omega)]; simp
      rw [es]
      refine ⟨fun q3 => k h1 f1 (qls_ext a1 (by rw [q2s hn16]; omega) (fun w w1 w2 => ?_)), fun q3 => ⟨by omega, by omega, ?_⟩⟩
      · have := qpl_sum (w := w - (v0 + 2 ^ (16 - (n + 1)))) (g := gg) hn16 h0 (by rw [q2s hn16] at w2; omega) (qb_n0.mp q3)
        rwa [show v0 + 2 ^ (16 - (n + 1)) + (w - (v0 + 2 ^ (16 - (n + 1)))) = w by omega] at this
      · obtain ⟨c1, c2⟩ := qcv_out hn16 hn0 h0 hc (qb_0.mp q3)
        have e2 : qbs m (fun x => decide (x < n + 1) && qsv (v0 + 2 ^ (16 - (n + 1))) x) := qbs_cong hm (fun x _ => by
          rw [qsv_out hn16 h0]
          by_cases c : x = n
          · subst c; simp
          · rw [show decide (x < n) = decide (x < n + 1) from decide_eq_decide.mpr (by omega), show (x == n) = false by simp [c]]; simp)
        have := ih (n + 1) (v0 + 2 ^ (16 - (n + 1))) (left - 1) (by omega) (by omega) (by rw [q2s hn16] at hv; omega) (by rw [Nat.add_mod, hm1, Nat.mod_self, Nat.add_zero, Nat.zero_mod]) c1 (by omega) m h1 (fun _ h3 => Q 0 h3) e2 a1 (fun h2 f2 a2 => k h2 (qfx_trans f1 f2) (by rw [q2s hn16, Nat.two_mul, ← Nat.add_assoc]; exact a2))
        rw [show ((left - 1 : Nat) : Int) = (left : Int) - 1 by omega] at this
        exact this
    · have hl : left = 0 := by omega
      have h00 := qpl_0 (w := 0) (g := gg) (by omega) (by omega) h0 hp hc (by omega)
      rw [Nat.add_zero] at h00
      refine s_lnote hL hg A (by omega) (by rw [h00]; rfl) (qbs_cong (qbs_or hm ⟨q_shl_i _ _, fun x hx => rfl⟩) (fun x hx => ?_)) (fun h1 f1 a1 => k h1 f1 (qls_ext a1 (by omega) (fun w w1 w2 => ?_)))
      · rw [qbt_shl (by omega) hx, qbt_neg1]
        by_cases c : x < n
        · rw [decide_eq_true c, decide_eq_false (by omega)]; simp
        · rw [decide_eq_false c, decide_eq_true (by omega), qsv_in (n := n) (by omega) h0 (by omega)]; rfl
      · have := qpl_0 (w := w - v0) (g := gg) (by omega) (by omega) h0 (by omega) hc (by omega)
        rw [show v0 + (w - v0) = w by omega, decide_eq_false (by omega)] at this
        exact this
theorem s_slearn {gg : Nat} (hL : qhL g) (hg : gg ≤ 8) (K : qlk h) (k : ∀ h', qfx [7, 29] h h' → qls h' gg 32768 → Q 0 h') : q_tr l g (d + 19) n_X7_learn [qr 7 0, qi gg] h Q := by
  refine i_X7_learn hL (fun G hG _ _ => b_X7_learn_0 hG ⟨fun q => ?_, fun q => ?_⟩)
  · rcases K with K | ⟨g', hg', K⟩
    · omega
    · have : g' = gg := by have := K.1; omega
      subst this
      exact k h (qfx_refl _ _) K
  · have := s_decide (l := l) (g := g) (d := d) hL hg 15 1 0 gg (by omega) (by omega) (by decide) (by decide) qcv_0 (by rw [qbv_0]; omega) 1 (qu (qu h 7 0 2 gg) 7 0 1 0) (fun _ h1 => Q 0 h1) (qbs_cong (p := fun x => x == 0) ⟨by unfold q_i32; omega, fun x _ => by rw [qbt_1]; rw [Bool.eq_iff_iff]; simp⟩ (fun x _ => by
      by_cases c : x = 0
      · subst c; rw [qsv_in (n := 0) (by omega) (by decide) (Nat.le_refl _)]; rfl
      · rw [decide_eq_false (by omega)]; simp [c])) ⟨by rw [qu_ne (by omega), qu_at], by rw [qu_at]; rfl, fun v hv => absurd hv (Nat.not_lt_zero _)⟩ (fun h1 f1 a1 => k h1 (qfx_trans (qfx_trans (qfx_qu rfl) (qfx_qu rfl)) f1) a1)
    exact this
theorem s_sizeOf {gg : Nat} (hL : qhL g) (hg : gg ≤ 8) (K : qlk h) (k : ∀ h', qfx [7, 29] h h' → qlk h' → Q (qc (qpl gg) 32768 : Nat) h') : q_tr l g (d + 20) n_X7_sizeOf [qr 7 0, qi gg] h Q := by
  refine i_X7_sizeOf hL (fun G hG _ _ => b_X7_sizeOf_0 hG ?_)
  exact s_slearn hL hg K (fun h1 f a => q_qe (k h1 f (Or.inr ⟨gg, hg, a⟩)) a.2.1)
theorem s_maskAt {gg v : Nat} (hL : qhL g) (hg : gg ≤ 8) (K : qlk h) (hv : v < 32768) (hp : qpl gg v = true) (k : ∀ z h', qbs z (qsv v) → qfx [7, 29] h h' → qlk h' → Q z h') : q_tr l g (d + 20) n_X7_maskAt [qr 7 0, qi gg, qi (qc (qpl gg) v : Nat)] h Q := by
  refine i_X7_maskAt hL (fun G hG _ _ => b_X7_maskAt_0 hG ?_)
  refine s_slearn hL hg K (fun h1 f a => ?_)
  have h2 := qc_lt hv hp
  have h3 := (qlist_67 hg).2
  rw [a.2.1]
  exact ⟨fun q => by omega, fun _ => ⟨fun q => by omega, fun _ => ⟨by omega, k _ h1 (a.2.2 v hv hp) f (Or.inr ⟨gg, hg, a⟩)⟩⟩⟩
theorem s_indexOf (hL : qhL g) (V : QV1 S) (A : qat h i S) (hg : qgn S ≤ 8) (K : qlk h) (k : ∀ h', qfx [7, 29] h h' → qlk h' → Q (qc (qpl (qgn S)) (qvm S 15) : Nat) h') : q_tr l g (d + 20) n_X7_indexOf [qr 7 0, qr 8 i] h Q := by
  refine i_X7_indexOf hL (fun G hG _ _ => b_X7_indexOf_0 hG ?_)
  have h16 := qfew V hg
  have hpl := qvm_pl V h16
  have hvS := qvm_set V.1 h16
  have hvl := qvm_lt S 15
  rw [show 2 ^ 15 = 32768 by decide] at hvl
  rw [A.2.2.1]
  refine s_slearn hL hg K (fun h1 f a => s_maskOf hL V (qat_fx A f rfl) h16 (fun z hz => ?_))
  have h67 := (qlist_67 hg).2
  have hcl := qc_lt hvl hpl
  have key : ∀ n, n ≤ qc (qpl (qgn S)) (qvm S 15) → G 15 [some (qr 7 0), none, some (qi z), some (qi (n : Int))] [] h1 := by
    refine q_up (fun n hn ih => b_X7_indexOf_15 hG ?_)
    rw [a.2.1]
    refine ⟨fun q => by omega, fun _ => ⟨by omega, fun q => ⟨by omega, ih ?_⟩, fun q => q_qe (k h1 f (Or.inr ⟨_, hg, a⟩)) ?_⟩⟩
    · rcases Nat.lt_or_ge n (qc (qpl (qgn S)) (qvm S 15)) with c | c
      · exact c
      · exfalso
        have e : n = qc (qpl (qgn S)) (qvm S 15) := by omega
        have := a.2.2 _ hvl hpl
        rw [hvS] at this
        exact q (by rw [e]; exact qbs_eq this hz)
    · obtain ⟨v, v1, v2, v3⟩ := qc_kth (p := qpl (qgn S)) (n := 32768) (k := n) (by omega)
      have e := a.2.2 v v1 v2
      rw [v3, q] at e
      have : v = qvm S 15 := qsv_inj (by omega) (by omega) (fun x hx => by rw [hvS, ← e.2 x (by omega), hz.2 x (by omega)])
      rw [← v3, this]
  exact key 0 (Nat.zero_le _)
end QSml
