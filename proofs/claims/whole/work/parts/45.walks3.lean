/-! WAYS: LENGTHS -/
/-- y is the sum of so many GENERATORS -/
def qL (S : QZ) : Nat → Nat → Bool
  | 0, y => y == 0
  | n + 1, y => qex (fun z => qgen S z && qL S n (y - z)) (y + 1)
theorem qL_0 {S : QZ} {y : Nat} : qL S 0 y = true ↔ y = 0 := by unfold qL; simp
theorem qL_s {S : QZ} {n y : Nat} : qL S (n + 1) y = true ↔ ∃ z, z ≤ y ∧ qgen S z = true ∧ qL S n (y - z) = true := by
  show qex (fun z => qgen S z && qL S n (y - z)) (y + 1) = true ↔ _
  rw [qex_iff]
  constructor
  · rintro ⟨z, h1, h2⟩
    rw [Bool.and_eq_true] at h2
    exact ⟨z, by omega, h2.1, h2.2⟩
  · rintro ⟨z, h1, h2, h3⟩
    exact ⟨z, by omega, by rw [h2, h3]; rfl⟩
theorem qms_le {S : QZ} (V : QV1 S) {z : Nat} (h : qgen S z = true) : qms S ≤ z := by
  obtain ⟨m1, m2, m3, m4, m5⟩ := qms_ok V
  have := qgen_in h
  rcases Nat.lt_or_ge z (qms S) with q | q
  · rw [m4 z this.1 q] at this; exact absurd this.2 (by decide)
  · exact q
theorem qL_le {S : QZ} (V : QV1 S) : ∀ n y, qL S n y = true → n * qms S ≤ y
  | 0, y, _ => by rw [Nat.zero_mul]; exact Nat.zero_le _
  | n + 1, y, h => by
    obtain ⟨z, h1, h2, h3⟩ := qL_s.mp h
    have h4 := qms_le V h2
    have h5 := qL_le V n _ h3
    rw [Nat.add_mul, Nat.one_mul]
    omega
theorem qL_lt {S : QZ} (V : QV1 S) {n y : Nat} (h : qL S n y = true) : n ≤ y / qms S := by
  have := (qms_ok V).1
  exact (Nat.le_div_iff_mul_le this).mpr (qL_le V n y h)
theorem qL_in {S : QZ} (V : QV1 S) : ∀ n y, qL S n y = true → S y = true
  | 0, y, h => by rw [qL_0.mp h]; exact V.1
  | n + 1, y, h => by
    obtain ⟨z, h1, h2, h3⟩ := qL_s.mp h
    have := V.2.1 _ _ (qL_in V n _ h3) (qgen_in h2).2
    rwa [Nat.sub_add_cancel h1] at this
theorem qL_ex {S : QZ} (V : QV1 S) : ∀ b y, y < b → S y = true → ∃ n, qL S n y = true
  | 0, y, h, _ => absurd h (Nat.not_lt_zero _)
  | b + 1, y, h, hy => by
    rcases Nat.eq_zero_or_pos y with q | q
    · exact ⟨0, qL_0.mpr q⟩
    · obtain ⟨z, z1, z2, z3⟩ := qgen_dec V (y + 1) y (by omega) q hy
      have := (qgen_in z1).1
      obtain ⟨n, hn⟩ := qL_ex V b (y - z) (by omega) z3
      exact ⟨n + 1, qL_s.mpr ⟨z, z2, z1, hn⟩⟩
/-- the greatest distance of two neighbours -/
def qstp (p : Nat → Bool) : Nat → Int
  | 0 => 0
  | n + 1 => if p n then (if qc p n = 0 then 0 else max (qstp p n) ((n : Int) - qmx p n)) else qstp p n
theorem qstp_ext {p : Nat → Bool} {m : Nat} : ∀ {n : Nat}, m ≤ n → (∀ x, m ≤ x → x < n → p x = false) → qstp p n = qstp p m
  | 0, h, _ => by have : m = 0 := by omega
                  subst this; rfl
  | n + 1, h, hp => by
    rcases Nat.lt_or_ge n m with a | a
    · have : m = n + 1 := by omega
      subst this; rfl
    · show (if p n then (if qc p n = 0 then 0 else max (qstp p n) ((n : Int) - qmx p n)) else qstp p n) = _
      rw [hp n a (by omega), qstp_ext a (fun x h1 h2 => hp x h1 (by omega))]; rfl
theorem qmx_ext {p : Nat → Bool} {m : Nat} : ∀ {n : Nat}, m ≤ n → (∀ x, m ≤ x → x < n → p x = false) → qmx p n = qmx p m
  | 0, h, _ => by have : m = 0 := by omega
                  subst this; rfl
  | n + 1, h, hp => by
    rcases Nat.lt_or_ge n m with a | a
    · have : m = n + 1 := by omega
      subst this; rfl
    · show (if p n then (n : Int) else qmx p n) = _
      rw [hp n a (by omega), qmx_ext a (fun x h1 h2 => hp x h1 (by omega))]; rfl
theorem qstp_bd {p : Nat → Bool} : ∀ n : Nat, 0 ≤ qstp p n ∧ qstp p n ≤ n + 1
  | 0 => by unfold qstp; omega
  | n + 1 => by
    have h1 := qstp_bd (p := p) n
    have h2 := qmx_bd p n
    show 0 ≤ (if p n then (if qc p n = 0 then 0 else max (qstp p n) ((n : Int) - qmx p n)) else qstp p n) ∧ (if p n then (if qc p n = 0 then 0 else max (qstp p n) ((n : Int) - qmx p n)) else qstp p n) ≤ ((n + 1 : Nat) : Int) + 1
    split
    · split <;> omega
    · omega
def qlq (p : Nat → Bool) (what : Int) : Int := if qc p 151 = 0 then -2 else if what = 0 then qnth p 151 0 else if what = 1 then qmx p 151 else if what = 2 then qc p 151 else qstp p 151
/-- the two rows of what is reached lie apart -/
def qrch (h : QM) : Prop := (h 10 0 7 = 0 ∧ h 10 0 8 = 1) ∨ (h 10 0 7 = 1 ∧ h 10 0 8 = 0)
section QWalks3
variable {l : Launch} {g : QG} {d : Nat} {h : QM} {i : Int} {S : QZ} {Q : Int → QM → Prop}
theorem s_taken {x : Nat} {j : Int} {w : Nat} (hL : qhL g) (V : QV2 S) (A : qat h i S) (hx : x ≤ 150) (hw : w < qgc S)
    (k : ∀ h', qfx [34, 36] h h' → Q (if 0 ≤ j ∧ j < (qWk (qgk S) (qgc S) 0 x : Nat) then (qway (qgk S) (qgc S) x j.toNat w : Nat) else -1) h') : q_tr l g (d + 3) n_X10_taken [qr 10 0, qr 8 i, qi x, qi j, qi w] h Q := by
  refine i_X10_taken hL (fun G hG _ _ => b_X10_taken_0 hG ?_)
  have hc : qgc S ≤ 24 := V.2
  refine ⟨fun q => q_qe (k h (qfx_refl _ _)) (by rw [if_neg (by omega)]), fun q => s_number hL V A hx (fun h1 f T => ⟨fun q2 => ?_, fun q2 => q_qe (k h1 (qfx_mono f (qfx_sub rfl))) (by rw [if_neg (by omega)])⟩)⟩
  obtain ⟨j, rfl⟩ := Int.eq_ofNat_of_zero_le (show 0 ≤ j by omega)
  refine s_goAlong hL V (qat_fx A f rfl) hx (by omega) T (fun h2 f2 b => ⟨by omega, q_qe (k h2 (qfx_trans (qfx_mono f (qfx_sub rfl)) (qfx_mono f2 (qfx_sub rfl)))) ?_⟩)
  rw [b w hw, if_pos (by omega)]; rfl
theorem s_start (hL : qhL g) (R : qrch h) (k : ∀ h', qfx [43] h h' → (∀ y : Nat, y ≤ 150 → h' 43 (h 10 0 7) y = qb (qL S 0 y)) → Q 0 h') : q_tr l g (d + 1) n_X10_startReach [qr 10 0] h Q := by
  refine i_X10_startReach hL (fun G hG _ _ => b_X10_startReach_0 hG ?_)
  have key : ∀ m, m ≤ 151 → ∀ h1, (qfx [43] h h1 ∧ ∀ y : Nat, y < m → h1 43 (h 10 0 7) y = qb (qL S 0 y)) → G 2 [some (qr 10 0), some (qi (m : Int))] [] h1 := by
    refine q_up (fun m hm ih h1 hI => b_X10_startReach_2 hG ?_)
    rw [hI.1 10 rfl]
    have nxt : ∀ v : Bool, v = qL S 0 m → m < 151 → G 2 [some (qr 10 0), some (qi ((m : Int) + 1))] [] (qu h1 43 (h 10 0 7) m (qb v)) := fun v hv hm2 => by
      refine ih hm2 _ ⟨qfx_trans hI.1 (qfx_qu rfl), fun y hy => ?_⟩
      by_cases e : y = m
      · rw [e, qu_at, hv]
      · rw [qu_ne (by omega)]; exact hI.2 y (by omega)
    refine ⟨fun q => k h1 hI.1 (fun y hy => hI.2 y (by omega)), fun q => ⟨by unfold qrch at R; omega, fun q2 => ⟨⟨by omega, Or.inl rfl⟩, by omega, nxt false ?_ (by omega)⟩, fun q2 => ⟨⟨by omega, Or.inr rfl⟩, by omega, nxt true ?_ (by omega)⟩⟩⟩
    · cases e : qL S 0 m with
      | false => rfl
      | true => have := qL_0.mp e; omega
    · exact (qL_0.mpr (by omega)).symm
  exact key 0 (by omega) h ⟨qfx_refl _ _, fun y hy => absurd hy (Nat.not_lt_zero _)⟩
theorem qrch_sw (R : qrch h) {h1 : QM} (e7 : h1 10 0 7 = h 10 0 8) (e8 : h1 10 0 8 = h 10 0 7) : qrch h1 := by
  unfold qrch at R ⊢
  omega
theorem s_more {x n : Nat} (hL : qhL g) (V : QV2 S) (A : qat h i S) (hx : x ≤ 150) (R : qrch h) (T : ∀ y : Nat, y ≤ x → h 43 (h 10 0 7) y = qb (qL S n y))
    (k : ∀ h', qfx [10, 43] h h' → qrch h' → (∀ y : Nat, y ≤ x → h' 43 (h' 10 0 7) y = qb (qL S (n + 1) y)) → Q 0 h') : q_tr l g (d + 1) n_X10_reachOneMore [qr 10 0, qr 8 i, qi x] h Q := by
  refine i_X10_reachOneMore hL (fun G hG _ _ => b_X10_reachOneMore_0 hG ?_)
  have hc : qgc S ≤ 24 := V.2
  have hRR : h 10 0 7 ≠ h 10 0 8 ∧ 0 ≤ h 10 0 7 ∧ 0 ≤ h 10 0 8 := by unfold qrch at R; omega
  generalize h7 : h 10 0 7 = r7 at *
  generalize h8 : h 10 0 8 = r8 at *
  have key : ∀ m, m ≤ x + 1 → ∀ h1, (qfx [43] h h1 ∧ (∀ y : Nat, y ≤ x → h1 43 r7 y = qb (qL S n y)) ∧ ∀ y : Nat, y < m → h1 43 r8 y = qb (qL S (n + 1) y)) → G 2 [some (qr 10 0), some (qr 8 i), some (qi x), some (qi (m : Int)), none, none] [] h1 := by
    refine q_up (fun m hm ih h1 hI => b_X10_reachOneMore_2 hG ?_)
    obtain ⟨f, a1, a2⟩ := hI
    have e7 : h1 10 0 7 = r7 := by rw [f 10 rfl]; exact h7
    have e8 : h1 10 0 8 = r8 := by rw [f 10 rfl]; exact h8
    have A1 := qat_fx A f rfl
    rw [e7, e8]
    refine ⟨fun q => ⟨by omega, by omega, ?_⟩, fun q => ?_⟩
    · have f7 : (qu (qu h1 10 0 7 r8) 10 0 8 r7) 10 0 7 = r8 := by rw [qu_ne (by omega), qu_at]
      refine k _ (qfx_trans (qfx_mono f (qfx_sub rfl)) (qfx_trans (qfx_qu rfl) (qfx_qu rfl))) (qrch_sw R (by rw [f7]; exact h8.symm) (by rw [qu_at]; exact h7.symm)) (fun y hy => ?_)
      rw [f7, qu_ne (by omega), qu_ne (by omega)]
      exact a2 y (by omega)
    · -- it is known of m
      have fin : ∀ v : Bool, v = qL S (n + 1) m → 0 ≤ h1 10 0 8 ∧ ((0 ≤ (m : Int) ∧ (m : Int) < 151) ∧ (qb v = 0 ∨ qb v = 1)) ∧ (-2147483648 ≤ (m : Int) + 1 ∧ (m : Int) + 1 ≤ 2147483647) ∧ G 2 [some (qr 10 0), some (qr 8 i), some (qi x), some (qi ((m : Int) + 1)), none, none] [] (qu h1 43 (h1 10 0 8) m (qb v)) := fun v hv => by
        rw [e8]
        refine ⟨by omega, ⟨by omega, qb_01 _⟩, by omega, ih (by omega) _ ⟨qfx_trans f (qfx_qu rfl), fun y hy => ?_, fun y hy => ?_⟩⟩
        · rw [qu_ne (by omega)]; exact a1 y hy
        · by_cases e : y = m
          · rw [e, qu_at, hv]
          · rw [qu_ne (by omega)]; exact a2 y (by omega)
      have inner : ∀ z, z ≤ m + 1 → (∀ w, w < z → qgen S w = true → qL S n (m - w) = false) → G 13 [some (qr 10 0), some (qr 8 i), some (qi x), some (qi (m : Int)), some (qi 0), some (qi (qc (qgen S) z : Nat))] [] h1 := by
        refine q_up (fun z hz ihz hno => ?_)
        have hcz := qc_le (qgen S) z
        by_cases hzm : z = m + 1
        · -- all are tried
          have hv : false = qL S (n + 1) m := by
            cases e : qL S (n + 1) m with
            | false => rfl
            | true =>
              obtain ⟨w, w1, w2, w3⟩ := qL_s.mp e
              rw [hno w (by omega) w2] at w3; cases w3
          refine b_X10_reachOneMore_13 hG ?_
          rw [A1.2.2.2.2.1]
          refine ⟨fun _ => fin false hv, fun q2 => ⟨by omega, fun _ => fin false hv, fun q3 => ?_⟩⟩
          exfalso
          obtain ⟨w, w1, w2, w3⟩ := qc_kth (p := qgen S) (n := 400) (k := qc (qgen S) z) (by unfold qgc at q2; omega)
          have e := A1.2.2.2.2.2 w w1 w2
          rw [w3] at e
          rw [e] at q3
          have := qc_lt (show w < z by omega) w2
          omega
        · cases hg : qgen S z with
          | false =>
            have := ihz (by omega) (fun w w1 w2 => by
              by_cases e : w = z
              · rw [e, hg] at w2; cases w2
              · exact hno w (by omega) w2)
            rw [qc_f hg] at this
            exact this
          | true =>
            have h1c : qc (qgen S) z < qgc S := qc_lt (by omega) hg
            refine b_X10_reachOneMore_13 hG ?_
            rw [A1.2.2.2.2.1, A1.2.2.2.2.2 z (by omega) hg]
            refine ⟨fun q2 => by omega, fun _ => ⟨by omega, fun q2 => by omega, fun _ => ⟨fun q3 => absurd rfl q3, fun _ => ?_⟩⟩⟩
            rw [e7, show (m : Int) - (z : Int) = ((m - z : Nat) : Int) by omega, a1 _ (by omega)]
            refine ⟨by omega, by omega, by omega, by omega, by omega, ?_⟩
            cases hl : qL S n (m - z) with
            | false =>
              have := ihz (by omega) (fun w w1 w2 => by
                by_cases e : w = z
                · rw [e]; exact hl
                · exact hno w (by omega) w2)
              rw [qc_t hg] at this
              exact this
            | true =>
              have hv : true = qL S (n + 1) m := (qL_s.mpr ⟨z, by omega, hg, hl⟩).symm
              refine b_X10_reachOneMore_13 hG ?_
              rw [A1.2.2.2.2.1]
              refine ⟨fun _ => fin true hv, fun q2 => ⟨by omega, fun _ => fin true hv, fun _ => ⟨fun _ => fin true hv, fun q3 => absurd q3 (by decide)⟩⟩⟩
      exact inner 0 (by omega) (fun w hw => absurd hw (Nat.not_lt_zero _))
  exact key 0 (by omega) h ⟨qfx_refl _ _, T, fun y hy => absurd hy (Nat.not_lt_zero _)⟩
theorem s_measure {x : Nat} {what : Int} (hL : qhL g) (V : QV2 S) (A : qat h i S) (hx : x ≤ 150) (R : qrch h) (hw : 0 ≤ what ∧ what ≤ 3)
    (k : ∀ h', qfx [10, 43] h h' → qrch h' → Q (qlq (fun n => qL S n x) what) h') : q_tr l g (d + 2) n_X10_measure [qr 10 0, qr 8 i, qi x, qi what] h Q := by
  refine i_X10_measure hL (fun G hG _ _ => b_X10_measure_0 hG ?_)
  have hms := (qms_ok V.1).1
  have hno : ∀ n, x / qms S + 1 ≤ n → qL S n x = false := fun n hn => by
    cases e : qL S n x with
    | false => rfl
    | true => have := qL_lt V.1 e; omega
  have hdx : x / qms S ≤ 150 := Nat.le_trans (Nat.div_le_self _ _) hx
  generalize hp : (fun n => qL S n x) = p at *
  have hpe : ∀ n, p n = qL S n x := fun n => by rw [← hp]
  have hend : ∀ n, x / qms S + 1 ≤ n → n ≤ 151 → qc p 151 = qc p n ∧ qnth p 151 0 = qnth p n 0 ∧ qmx p 151 = qmx p n ∧ qstp p 151 = qstp p n := fun n h1 h2 => by
    have hf : ∀ z, n ≤ z → z < 151 → p z = false := fun z z1 _ => by rw [hpe]; exact hno z (by omega)
    exact ⟨qc_none h2 hf, qnth_ext h2 hf, qmx_ext h2 hf, qstp_ext h2 hf⟩
  have key : ∀ n, n ≤ x / qms S + 1 → ∀ h1, (qfx [10, 43] h h1 ∧ qrch h1 ∧ ∀ y : Nat, y ≤ x → h1 43 (h1 10 0 7) y = qb (qL S n y)) → G 29 [some (qr 10 0), some (qr 8 i), some (qi x), some (qi what), some (qi (qnth p n 0)), some (qi (qmx p n)), some (qi (qc p n : Nat)), some (qi (qstp p n)), some (qi (x / qms S : Nat)), some (qi (n : Int))] [] h1 := by
    refine q_up (fun n hn ih h1 hI => b_X10_measure_29 hG ?_)
    obtain ⟨f, R1, a1⟩ := hI
    have A1 := qat_fx A f rfl
    have hcn := qc_le p n
    have hmx := qmx_bd p n
    refine ⟨fun q => ?_, fun q => ⟨by unfold qrch at R1; omega, by omega, ?_⟩⟩
    · obtain ⟨e1, e2, e3, e4⟩ := hend n (by omega) (by omega)
      have kk := k h1 f R1
      unfold qlq at kk
      rw [e1, e2, e3, e4] at kk
      refine ⟨fun q2 => ?_, fun q2 => q_qe kk (by rw [if_pos (by omega)])⟩
      rw [if_neg (by omega)] at kk
      refine ⟨fun q3 => q_qe kk ?_, fun q3 => q_qe kk ?_, fun q3 => q_qe kk ?_, fun q3 => q_qe kk ?_, trivial⟩
      · rw [if_neg (by omega), if_neg (by omega), if_neg (by omega)]
      · rw [if_pos q3]
      · rw [if_neg (by omega), if_pos q3]
      · rw [if_neg (by omega), if_neg (by omega), if_pos q3]
    · rw [a1 x (Nat.le_refl _), ← hpe n]
      have go : ∀ L La M St : Int, L = qnth p (n + 1) 0 → La = qmx p (n + 1) → M = (qc p (n + 1) : Nat) → St = qstp p (n + 1) → q_tr l g (d + 1) n_X10_reachOneMore [qr 10 0, qr 8 i, qi x] h1 (fun _ h2 => (-2147483648 ≤ (n : Int) + 1 ∧ (n : Int) + 1 ≤ 2147483647) ∧ G 29 [some (qr 10 0), some (qr 8 i), some (qi x), some (qi what), some (qi L), some (qi La), some (qi M), some (qi St), some (qi (x / qms S : Nat)), some (qi ((n : Int) + 1))] [] h2) := fun L La M St e1 e2 e3 e4 => by
        refine s_more hL V A1 hx R1 a1 (fun h2 f2 R2 a2 => ⟨by omega, ?_⟩)
        rw [e1, e2, e3, e4]
        exact ih (by omega) h2 ⟨qfx_trans f f2, R2, a2⟩
      cases hpn : p n with
      | false =>
        refine ⟨fun _ => go _ _ _ _ ?_ ?_ ?_ ?_, fun q2 => absurd rfl q2⟩
        · show _ = (if p n = true ∧ (qc p n : Int) = 0 then (n : Int) else qnth p n 0); rw [if_neg (by rw [hpn]; simp)]
        · show _ = (if p n then (n : Int) else qmx p n); rw [hpn]; rfl
        · rw [qc_f hpn]
        · show _ = (if p n then (if qc p n = 0 then 0 else max (qstp p n) ((n : Int) - qmx p n)) else qstp p n); rw [hpn]; rfl
      | true =>
        have eL : ∀ b : Int, b = (if qc p n = 0 then (n : Int) else qnth p n 0) → b = qnth p (n + 1) 0 := fun b hb => by
          rw [hb]
          show _ = (if p n = true ∧ (qc p n : Int) = 0 then (n : Int) else qnth p n 0)
          by_cases e : qc p n = 0
          · rw [if_pos e, if_pos ⟨hpn, by omega⟩]
          · rw [if_neg e, if_neg (fun z => e (by omega))]
        have eLa : (n : Int) = qmx p (n + 1) := by show _ = (if p n then (n : Int) else qmx p n); rw [hpn]; rfl
        have eM : (qc p n : Int) + 1 = (qc p (n + 1) : Nat) := by rw [qc_t hpn]; rfl
        have eS : ∀ b : Int, b = (if qc p n = 0 then 0 else max (qstp p n) ((n : Int) - qmx p n)) → b = qstp p (n + 1) := fun b hb => by
          rw [hb]
          show _ = (if p n then (if qc p n = 0 then 0 else max (qstp p n) ((n : Int) - qmx p n)) else qstp p n)
          rw [hpn]; rfl
        refine ⟨fun q2 => absurd q2 (by decide), fun _ => ⟨fun q2 => ⟨fun _ => ⟨by omega, by omega, go _ _ _ _ (eL _ ?_) eLa eM (eS _ ?_)⟩, fun q3 => absurd q3 q2⟩, fun q2 => ⟨fun q3 => absurd q2 q3, fun _ => ⟨by omega, go _ _ _ _ (eL _ ?_) eLa eM (eS _ ?_)⟩⟩⟩⟩
        · rw [if_neg (by omega)]
        · rw [if_neg (by omega)]
        · rw [if_pos (by omega)]
        · rw [if_pos (by omega)]
  refine s_start (S := S) hL R (fun h1 f a1 => s_least hL V.1 (qat_fx A f rfl) (s_times hL hms ?_))
  have e7 : h1 10 0 7 = h 10 0 7 := f 10 rfl _ _
  refine key 0 (Nat.zero_le _) h1 ⟨qfx_mono f (qfx_sub rfl), ?_, fun y hy => by rw [e7]; exact a1 y (by omega)⟩
  unfold qrch at R ⊢
  rw [e7, f 10 rfl]; exact R
end QWalks3
