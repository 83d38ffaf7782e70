/-! the model: LENGTHS, GREEDY, BLUNDER -/
def qlb (h : QM) (x n : Nat) : Bool := qbt (h 61 0 ((3 * x + n / 64 : Nat) : Int)) (n % 64)
/-- some generator of the first k, and n less 1 for what is left -/
def qpL (S : QZ) (x k : Nat) : Nat → Bool
  | 0 => x == 0
  | n + 1 => qex (fun kk => decide (qgk S kk ≤ x) && qL S n (x - qgk S kk)) k
theorem qpL_s (S : QZ) (x k n : Nat) : qpL S x (k + 1) n = (qpL S x k n || (decide (1 ≤ n) && decide (qgk S k ≤ x) && qL S (n - 1) (x - qgk S k))) := by
  cases n with
  | zero => show (x == 0) = ((x == 0) || (decide (1 ≤ 0) && _ && _)); rw [decide_eq_false (by omega), Bool.false_and, Bool.false_and, Bool.or_false]
  | succ n => show (qex _ k || _) = _; rw [decide_eq_true (show 1 ≤ n + 1 by omega), Bool.true_and]; rfl
theorem qpL_end {S : QZ} (V : QV1 S) {x k : Nat} (hx : x ≤ 150) (hk : ∀ kk, k ≤ kk → kk < qgc S → x < qgk S kk) (hk2 : k ≤ qgc S) (n : Nat) : qpL S x k n = qL S n x := by
  cases n with
  | zero => rfl
  | succ n =>
    cases e : qL S (n + 1) x with
    | true =>
      obtain ⟨z, z1, z2, z3⟩ := qL_s.mp e
      obtain ⟨i1, i2⟩ := qgk_of z2 (by omega)
      refine qex_iff.mpr ⟨qc (qgen S) z, ?_, ?_⟩
      · rcases Nat.lt_or_ge (qc (qgen S) z) k with q | q
        · exact q
        · have := hk _ q i1; omega
      · rw [i2, decide_eq_true z1, z3]; rfl
    | false =>
      refine qex_f.mpr (fun kk h1 => ?_)
      cases c : (decide (qgk S kk ≤ x) && qL S n (x - qgk S kk)) with
      | false => rfl
      | true =>
        rw [Bool.and_eq_true, decide_eq_true_eq] at c
        rw [qL_s.mpr ⟨_, c.1, (qgk_ok (by omega)).1, c.2⟩] at e
        cases e
theorem qbt_u63 {x : Int} {j : Nat} (hj : j < 64) : qbt (q_ushr64 x 63) j = (decide (j = 0) && qbt x 63) := by
  unfold q_ushr64
  rw [qbt_w64 hj, show ((63 : Int) % 64).toNat = 63 from rfl, qbt_shift]
  by_cases e : j = 0
  · subst e
    rw [decide_eq_true rfl, Bool.true_and]
    exact qbt_mod x (w := 64) (by omega)
  · rw [decide_eq_false e, Bool.false_and]
    have h1 := Int.emod_nonneg x (show (18446744073709551616 : Int) ≠ 0 by omega)
    have h2 := Int.emod_lt_of_pos x (show (0 : Int) < 18446744073709551616 by omega)
    obtain ⟨w, hw⟩ := Int.eq_ofNat_of_zero_le h1
    rw [hw] at h2 ⊢
    refine qbt_small (Nat.lt_of_lt_of_le (show w < 2 ^ 64 by omega) (Nat.pow_le_pow_right (by omega) (by omega)))
theorem qbt_up {o a b : Int} {j : Nat} (hj : j < 64) : qbt (q_or64 o (q_or64 (q_shl64 a 1) (q_ushr64 b 63))) j = (qbt o j || if j = 0 then qbt b 63 else qbt a (j - 1)) := by
  have e := qbt_shl64 (x := a) (s := 1) (k := j) (by omega) hj
  rw [show ((1 : Nat) : Int) = 1 from rfl] at e
  rw [qbt_or64 hj, qbt_or64 hj, e, qbt_u63 hj]
  by_cases c : j = 0
  · subst c; simp
  · rw [if_neg c, decide_eq_true (by omega), decide_eq_false c]; simp
theorem qbt_up0 {o a : Int} {j : Nat} (hj : j < 64) : qbt (q_or64 o (q_shl64 a 1)) j = (qbt o j || (decide (1 ≤ j) && qbt a (j - 1))) := by
  have e := qbt_shl64 (x := a) (s := 1) (k := j) (by omega) hj
  rw [show ((1 : Nat) : Int) = 1 from rfl] at e
  rw [qbt_or64 hj, e]
theorem qgrab_div {S : QZ} {g : Nat} (hg : qgen S g = true) : ∀ b y, y < b → (∀ z, qgen S z = true → z ≤ y → z ≤ g) → qgrab S y = ((qgrab S (y % g)).1 + y / g, (qgrab S (y % g)).2)
  | 0, y, h, _ => absurd h (Nat.not_lt_zero _)
  | b + 1, y, h, hm => by
    have g1 := (qgen_in hg).1
    rcases Nat.lt_or_ge y g with q | q
    · rw [Nat.mod_eq_of_lt q, Nat.div_eq_of_lt q]; rfl
    · have eg : qgg S y = g := by
        unfold qgg
        rw [qmx_of (x := g) (by omega) hg (fun z z1 z2 => by
          cases c : qgen S z with
          | false => rfl
          | true => have := hm z c (by omega); omega)]
        rfl
      rw [qgrab_s (by omega), eg, qgrab_div hg b (y - g) (by omega) (fun z z1 z2 => hm z z1 (by omega))]
      have e1 : (y - g) % g = y % g := (Nat.mod_eq_sub_mod q).symm
      have e2 : y / g = (y - g) / g + 1 := Nat.div_eq_sub_div g1 q
      rw [e1, e2]
      rfl
theorem qnth_first {p : Nat → Bool} {n m : Nat} (hm : m < n) (h1 : p m = true) (h0 : ∀ z, z < m → p z = false) : qnth p n 0 = m := by
  have e : qc p m = 0 := qc_none (m := 0) (by omega) (fun z _ z2 => h0 z z2)
  have := qnth_at h1 hm
  rw [e] at this
  exact this
theorem qc_z {p : Nat → Bool} {n : Nat} (h : qc p n = 0) : ∀ z, z < n → p z = false := fun z hz => by
  cases c : p z with
  | false => rfl
  | true => have := qc_lt hz c; omega
section QM5
variable {l : Launch} {g : QG} {d : Nat} {h : QM} {Q : Int → QM → Prop} {n a : Nat} {S : Nat → QZ} {T : QZ} {s : Int}
theorem m_laysLengths (hL : qhL g) (ha : a ≤ 20) (R : qmr h 54 a T) (V : QV2 T) (k : ∀ h', qmf [1023, 56, 61] h h' → qmg h' T → (∀ x, x ≤ 150 → ∀ n, n < 192 → qlb h' x n = qL T n x) → Q 0 h') : q_tr l g (d + 4) n_X12_laysLengths [qr 12 0, qi a] h Q := by
  refine i_X12_laysLengths hL (fun G hG _ _ => b_X12_laysLengths_0 hG (m_gens hL ⟨Or.inl rfl, by omega⟩ R V.1 (fun h0 f0 g0 => ?_)))
  have hc : qgc T ≤ 24 := V.2
  have hpos := qgk_pos (S := T)
  have hbig := qgk_bd (S := T)
  have hgc := fun h1 (f : qmf [61] h0 h1) => (qmg_f g0 f rfl).1
  have hgk := fun h1 (f : qmf [61] h0 h1) kk (hk : kk < qgc T) => qmg_k (qmg_f g0 f rfl) hk
  have key : ∀ m, m ≤ 151 → ∀ h1, (qmf [61] h0 h1 ∧ ∀ x, x < m → ∀ n, n < 192 → qlb h1 x n = qL T n x) → G 12 [some (qr 12 0), none, some (qi (m : Int)), none, none] [] h1 := by
    refine q_up (fun m hm ih h1 hI => b_X12_laysLengths_12 hG ⟨fun q => k h1 (qmf_trans (qmf_mono f0 rfl) (qmf_mono hI.1 rfl)) (qmg_f g0 hI.1 rfl) (fun x hx => hI.2 x (by omega)), fun q => ?_⟩)
    have inner : ∀ kk, kk ≤ qgc T → ∀ h2, (qmf [61] h0 h2 ∧ (∀ x, x < m → ∀ n, n < 192 → qlb h2 x n = qL T n x) ∧ ∀ n, n < 192 → qlb h2 m n = qpL T m kk n) → G 60 [some (qr 12 0), none, some (qi (m : Int)), some (qi (kk : Int)), none] [] h2 := by
      refine q_up (fun kk hkk ihk h2 hI2 => b_X12_laysLengths_60 hG ?_)
      obtain ⟨f2, a1, a2⟩ := hI2
      have stop : (∀ k2, kk ≤ k2 → k2 < qgc T → m < qgk T k2) → (-2147483648 ≤ (m : Int) + 1 ∧ (m : Int) + 1 ≤ 2147483647) ∧ G 12 [some (qr 12 0), none, some (qi ((m : Int) + 1)), none, none] [] h2 := fun hst => ⟨by omega, ih (by omega) h2 ⟨f2, fun x hx n hn => by
        by_cases e : x = m
        · rw [e, a2 n hn]; exact qpL_end V.1 (by omega) hst hkk n
        · exact a1 x (by omega) n hn⟩⟩
      rw [hgc h2 f2]
      refine ⟨fun q2 => stop (fun k2 h3 h4 => by omega), fun q2 => ⟨by omega, ?_⟩⟩
      rw [hgk h2 f2 kk (by omega)]
      have g1 := hpos kk (by omega)
      have g2 := hbig kk (by omega)
      refine ⟨fun q3 => stop (fun k2 h3 h4 => by
        rcases Nat.lt_or_ge kk k2 with c | c
        · have := qgk_lt c h4; omega
        · rw [show k2 = kk by omega]; omega), fun q3 => ⟨by omega, by omega, by omega, ?_⟩⟩
      have hgm : qgk T kk ≤ m := by omega
      rw [show (3 : Int) * ((m : Int) - (qgk T kk : Int)) = ((3 * (m - qgk T kk) : Nat) : Int) by omega]
      generalize hw : m - qgk T kk = w
      refine b_X12_laysLengths_90 hG ⟨by omega, by omega, by omega, by omega, by omega, by omega, by omega, by omega, b_X12_laysLengths_127 hG ?_⟩
      generalize hW2 : q_or64 (h2 61 0 (3 * (m : Int) + 2)) (q_or64 (q_shl64 (h2 61 0 (((3 * w : Nat) : Int) + 2)) 1) (q_ushr64 (h2 61 0 (((3 * w : Nat) : Int) + 1)) 63)) = W2
      refine ⟨by omega, by omega, by omega, by omega, by omega, by omega, by omega, b_X12_laysLengths_162 hG ?_⟩
      rw [show (qu h2 61 0 (3 * (m : Int) + 2) W2) 61 0 (3 * (m : Int) + 1) = h2 61 0 (3 * (m : Int) + 1) from qu_ne (by omega), show (qu h2 61 0 (3 * (m : Int) + 2) W2) 61 0 (((3 * w : Nat) : Int) + 1) = h2 61 0 (((3 * w : Nat) : Int) + 1) from qu_ne (by omega), show (qu h2 61 0 (3 * (m : Int) + 2) W2) 61 0 ((3 * w : Nat) : Int) = h2 61 0 ((3 * w : Nat) : Int) from qu_ne (by omega)]
      generalize hW1 : q_or64 (h2 61 0 (3 * (m : Int) + 1)) (q_or64 (q_shl64 (h2 61 0 (((3 * w : Nat) : Int) + 1)) 1) (q_ushr64 (h2 61 0 ((3 * w : Nat) : Int)) 63)) = W1
      rw [show (qu (qu h2 61 0 (3 * (m : Int) + 2) W2) 61 0 (3 * (m : Int) + 1) W1) 61 0 (3 * (m : Int)) = h2 61 0 (3 * (m : Int)) from by rw [qu_ne (by omega), qu_ne (by omega)], show (qu (qu h2 61 0 (3 * (m : Int) + 2) W2) 61 0 (3 * (m : Int) + 1) W1) 61 0 ((3 * w : Nat) : Int) = h2 61 0 ((3 * w : Nat) : Int) from by rw [qu_ne (by omega), qu_ne (by omega)]]
      generalize hW0 : q_or64 (h2 61 0 (3 * (m : Int))) (q_shl64 (h2 61 0 ((3 * w : Nat) : Int)) 1) = W0
      refine ⟨by omega, by omega, by omega, by omega, by omega, ihk (by omega) _ ⟨qmf_trans f2 (qmf_trans (qmf_qu rfl) (qmf_trans (qmf_qu rfl) (qmf_qu rfl))), fun x hx n hn => ?_, fun n hn => ?_⟩⟩
      · unfold qlb
        rw [qu_ne (by omega), qu_ne (by omega), qu_ne (by omega)]
        exact a1 x hx n hn
      · have b1 : ∀ n, n < 192 → qbt (h2 61 0 ((3 * w + n / 64 : Nat) : Int)) (n % 64) = qL T n w := fun n hn => a1 w (by omega) n hn
        have b2 : qbt (h2 61 0 ((3 * m + n / 64 : Nat) : Int)) (n % 64) = qpL T m kk n := a2 n hn
        rw [qpL_s, ← b2, decide_eq_true hgm, Bool.and_true, hw]
        unfold qlb
        rcases (show n / 64 = 0 ∨ n / 64 = 1 ∨ n / 64 = 2 by omega) with e | e | e
        · rw [e, show ((3 * m + 0 : Nat) : Int) = 3 * (m : Int) by omega, qu_at, ← hW0, qbt_up0 (by omega)]
          congr 1
          by_cases e1 : 1 ≤ n
          · have := b1 (n - 1) (by omega)
            rw [show 3 * w + (n - 1) / 64 = 3 * w by omega, show (n - 1) % 64 = n % 64 - 1 by omega] at this
            rw [this, decide_eq_true e1, decide_eq_true (by omega)]
          · rw [decide_eq_false e1, decide_eq_false (by omega)]; rfl
        · rw [e, show ((3 * m + 1 : Nat) : Int) = 3 * (m : Int) + 1 by omega, qu_ne (by omega), qu_at, ← hW1, qbt_up (by omega)]
          congr 1
          rw [decide_eq_true (show 1 ≤ n by omega), Bool.true_and]
          have := b1 (n - 1) (by omega)
          by_cases e1 : n % 64 = 0
          · rw [if_pos e1, ← this, show 3 * w + (n - 1) / 64 = 3 * w by omega, show (n - 1) % 64 = 63 by omega]
          · rw [if_neg e1, ← this, show ((3 * w + (n - 1) / 64 : Nat) : Int) = ((3 * w : Nat) : Int) + 1 by omega, show (n - 1) % 64 = n % 64 - 1 by omega]
        · rw [e, show ((3 * m + 2 : Nat) : Int) = 3 * (m : Int) + 2 by omega, qu_ne (by omega), qu_ne (by omega), qu_at, ← hW2, qbt_up (by omega)]
          congr 1
          rw [decide_eq_true (show 1 ≤ n by omega), Bool.true_and]
          have := b1 (n - 1) (by omega)
          by_cases e1 : n % 64 = 0
          · rw [if_pos e1, ← this, show ((3 * w + (n - 1) / 64 : Nat) : Int) = ((3 * w : Nat) : Int) + 1 by omega, show (n - 1) % 64 = 63 by omega]
          · rw [if_neg e1, ← this, show ((3 * w + (n - 1) / 64 : Nat) : Int) = ((3 * w : Nat) : Int) + 2 by omega, show (n - 1) % 64 = n % 64 - 1 by omega]
    have st : ∀ v : Int, (∀ j, qbt v j = (decide (m = 0) && decide (j = 0))) → G 60 [some (qr 12 0), none, some (qi (m : Int)), some (qi 0), none] [] (qu (qu (qu h1 61 0 (3 * (m : Int)) v) 61 0 (3 * (m : Int) + 1) 0) 61 0 (3 * (m : Int) + 2) 0) := fun v hv => inner 0 (Nat.zero_le _) _ ⟨qmf_trans hI.1 (qmf_trans (qmf_qu rfl) (qmf_trans (qmf_qu rfl) (qmf_qu rfl))), fun x hx n hn => by
      unfold qlb
      rw [qu_ne (by omega), qu_ne (by omega), qu_ne (by omega)]
      exact hI.2 x hx n hn, fun n hn => by
      unfold qlb
      have e0 : qpL T m 0 n = (decide (m = 0) && decide (n = 0)) := by
        cases n with
        | zero => show (m == 0) = _; rw [decide_eq_true rfl, Bool.and_true]; rfl
        | succ n => show false = _; rw [decide_eq_false (show ¬ (n + 1 = 0) by omega), Bool.and_false]
      rw [e0]
      rcases (show n / 64 = 0 ∨ n / 64 = 1 ∨ n / 64 = 2 by omega) with e | e | e
      · rw [e, show ((3 * m + 0 : Nat) : Int) = 3 * (m : Int) by omega, qu_ne (by omega), qu_ne (by omega), qu_at, hv, show n % 64 = n by omega]
      · rw [e, show ((3 * m + 1 : Nat) : Int) = 3 * (m : Int) + 1 by omega, qu_ne (by omega), qu_at, qbt_0, decide_eq_false (show ¬ n = 0 by omega), Bool.and_false]
      · rw [e, show ((3 * m + 2 : Nat) : Int) = 3 * (m : Int) + 2 by omega, qu_at, qbt_0, decide_eq_false (show ¬ n = 0 by omega), Bool.and_false]⟩
    refine ⟨by omega, fun q2 => ⟨by omega, by omega, by omega, by omega, by omega, by omega, by omega, st 0 (fun j => ?_)⟩, fun q2 => ⟨by omega, by omega, by omega, by omega, by omega, by omega, by omega, st 1 (fun j => ?_)⟩⟩
    · rw [qbt_0, decide_eq_false (by omega), Bool.false_and]
    · rw [qbt_1, decide_eq_true (show m = 0 by omega), Bool.true_and]
  exact key 0 (by omega) h0 ⟨qmf_refl _ _, fun x hx => absurd hx (Nat.not_lt_zero _)⟩
theorem m_isLength {x m : Nat} (hL : qhL g) (hx : x ≤ 150) (hm : m < 192) (k : Q (qb (qlb h x m)) h) : q_tr l g (d + 1) n_X12_isLength [qr 12 0, qi x, qi m] h Q := by
  refine i_X12_isLength hL (fun G hG _ _ => b_X12_isLength_0 hG ?_)
  have e := q_sh6 m
  rw [q_sh6, q_an6, show (3 : Int) * (x : Int) + ((m / 64 : Nat) : Int) = ((3 * x + m / 64 : Nat) : Int) by omega, q_bit64 (by omega)]
  refine ⟨by omega, by omega, by omega, fun q => ⟨Or.inl rfl, q_qe k ?_⟩, fun q => ⟨Or.inr rfl, q_qe k ?_⟩⟩
  · rw [q_lcb] at q
    have : qlb h x m = false := by cases c : qlb h x m with
      | false => rfl
      | true => exact absurd c q
    rw [this]; rfl
  · rw [q_lcb] at q
    have : qlb h x m = true := q
    rw [this]; rfl
theorem m_leastLength {x m : Nat} (hL : qhL g) (V : QV1 T) (hx : x ≤ 150) (B : ∀ n, n < 192 → qlb h x n = qL T n x) (hm : qL T m x = true) (h0 : ∀ z, z < m → qL T z x = false) (k : Q m h) : q_tr l g (d + 2) n_X12_leastLength [qr 12 0, qi x] h Q := by
  refine i_X12_leastLength hL (fun G hG _ _ => b_X12_leastLength_0 hG ?_)
  have hms := (qms_ok V).1
  have hmx : m ≤ 150 := by
    have := qL_lt V hm
    have := Nat.div_le_self x (qms T)
    omega
  have key : ∀ y, y ≤ m → G 2 [some (qr 12 0), some (qi x), some (qi (y : Int))] [] h := by
    refine q_up (fun y hy ih => b_X12_leastLength_2 hG (m_isLength hL hx (by omega) ?_))
    rw [B y (by omega)]
    refine ⟨fun q => ?_, fun q => ⟨by omega, ih ?_⟩⟩
    · have : y = m := by
        rcases Nat.lt_or_ge y m with c | c
        · rw [h0 y c] at q; exact absurd rfl q
        · omega
      rw [this]; exact k
    · rcases Nat.lt_or_ge y m with c | c
      · exact c
      · rw [show y = m by omega, hm] at q; exact absurd q (by decide)
  exact key 0 (by omega)
theorem qL_least (V : QV1 T) {x : Nat} (hx : x ≤ 150) (hS : T x = true) : ∃ m, m ≤ 150 ∧ qL T m x = true ∧ ∀ z, z < m → qL T z x = false := by
  obtain ⟨n, hn⟩ := qL_ex V (x + 1) x (by omega) hS
  obtain ⟨m, h1, h2⟩ := pk_least (fun m => qL T m x = true) ⟨n, hn⟩
  refine ⟨m, ?_, h1, fun z hz => ?_⟩
  · have := qL_lt V h1
    have := Nat.div_le_self x (qms T)
    omega
  · cases c : qL T z x with
    | false => rfl
    | true => exact absurd c (h2 z hz)
theorem m_length {y w : Int} (hL : qhL g) (M : qmd h n S) (k : ∀ h', qmf [1023, 56, 61] h h' → Q (qon n S s (-1) (fun S => if 0 ≤ y ∧ y ≤ 150 ∧ 0 ≤ w ∧ w ≤ 3 then qlq (fun m => qL S m y.toNat) w else -1)) h') : q_tr l g (d + 5) n_X12_length [qr 12 0, qi s, qi y, qi w] h Q := by
  refine i_X12_length hL (fun G hG hw _ => b_X12_length_0 hG (m_isSet hL M (hw (qi s) (by simp)) (q_on (fun e => q_qe (k h (qmf_refl _ _)) (by rw [qon_out e])) (fun j e hj => ?_))))
  subst e
  obtain ⟨V, R⟩ := M.2.2 j hj
  have h6 := M.2.1
  rw [qon_in hj] at k
  have k0 := k h (qmf_refl _ _)
  refine m_in hL (q_dc (fun e => q_qe k0 (by rw [if_neg (by omega)])) (fun e => m_in hL (q_cd (fun e2 => q_qe k0 (by rw [if_neg (by omega)])) (fun e2 => ⟨by omega, ?_⟩))))
  rw [if_pos (by omega)] at k k0
  rw [q_4j]
  obtain ⟨y, rfl⟩ := Int.eq_ofNat_of_zero_le e.1
  rw [Int.toNat_natCast] at k k0
  generalize S j = T at *
  refine m_isOf hL (Or.inl ⟨Or.inl rfl, by omega⟩) R (qm6_1 V.1) ?_
  rw [qin_nat]
  refine ⟨fun q => ⟨by omega, m_laysLengths hL (by omega) R V (fun h1 f1 g1 B => ?_)⟩, fun q => q_qe k0 ?_⟩
  · obtain ⟨m, m1, m2, m3⟩ := qL_least V.1 (by omega) (qb_n0.mp q)
    have k1 := k h1 f1
    clear k k0
    generalize hp : (fun n => qL T n y) = p at *
    have hpe : ∀ n, qL T n y = p n := fun n => by rw [← hp]
    have key : ∀ x, x ≤ 151 → G 66 [some (qr 12 0), none, some (qi (y : Int)), some (qi w), some (qi (qc p x : Nat)), some (qi (qmx p x)), some (qi (qstp p x)), some (qi (x : Int))] [] h1 := by
      refine q_up (fun x hx ih => b_X12_length_66 hG ⟨fun q2 => ?_, fun q2 => m_isLength hL (by omega) (by omega) ?_⟩)
      · have hpos : 0 < qc p 151 := by have := qc_lt (p := p) (show m < 151 by omega) (by rw [← hpe]; exact m2); omega
        have ex : x = 151 := by omega
        subst ex
        unfold qlq at k1
        rw [if_neg (by omega)] at k1
        refine ⟨fun q3 => ⟨fun q4 => ⟨fun q5 => q_qe k1 ?_, fun q5 => q_qe k1 ?_⟩, fun q4 => q_qe k1 ?_⟩, fun q3 => m_leastLength hL V.1 (by omega) (B y (by omega)) m2 m3 (q_qe k1 ?_)⟩
        · rw [if_neg q3, if_neg q4, if_neg q5]
        · rw [if_neg q3, if_neg q4, if_pos q5]
        · rw [if_neg q3, if_pos q4]
        · rw [if_pos q3, qnth_first (p := p) (m := m) (by omega) (by rw [← hpe]; exact m2) (fun z hz => by rw [← hpe]; exact m3 z hz)]
      · rw [B y (by omega) x (by omega), hpe]
        have ih := ih (by omega)
        have hcl := qc_le p x
        have hmb := qmx_bd p x
        have hsb := qstp_bd (p := p) x
        refine ⟨fun q3 => ?_, fun q3 => ⟨by omega, ?_⟩⟩
        · have hpx := qb_n0.mp q3
          have e2 : qmx p (x + 1) = (x : Int) := by show (if p x then (x : Int) else qmx p x) = _; rw [hpx]; rfl
          have e3 : qstp p (x + 1) = if qc p x = 0 then 0 else max (qstp p x) ((x : Int) - qmx p x) := by show (if p x then (if qc p x = 0 then 0 else max (qstp p x) ((x : Int) - qmx p x)) else qstp p x) = _; rw [hpx]; rfl
          rw [qc_t hpx, e2, e3] at ih
          refine ⟨fun q4 => ?_, fun q4 => ⟨by omega, fun q5 => ?_, fun q5 => ?_⟩⟩
          · have e4 : qc p x = 0 := by omega
            have e5 : qstp p x = 0 := by rw [qstp_ext (m := 0) (by omega) (fun z _ z2 => qc_z e4 z z2)]; rfl
            rw [if_pos e4] at ih
            rw [e5]
            exact ⟨by omega, by omega, ih⟩
          · rw [if_neg (by omega), Int.max_eq_left (by omega)] at ih
            exact ⟨by omega, by omega, ih⟩
          · rw [if_neg (by omega), Int.max_eq_right (by omega)] at ih
            exact ⟨by omega, by omega, by omega, ih⟩
        · have hpx := qb_0.mp q3
          have e2 : qmx p (x + 1) = qmx p x := by show (if p x then (x : Int) else qmx p x) = _; rw [hpx]; rfl
          have e3 : qstp p (x + 1) = qstp p x := by show (if p x then (if qc p x = 0 then 0 else max (qstp p x) ((x : Int) - qmx p x)) else qstp p x) = _; rw [hpx]; rfl
          rw [qc_f hpx, e2, e3] at ih
          exact ih
    exact key 0 (by omega)
  · unfold qlq
    rw [if_pos]
    refine qc_none (m := 0) (by omega) (fun z _ _ => ?_)
    cases c : qL T z y with
    | false => rfl
    | true => rw [qL_in V.1 _ _ c] at q; exact absurd q (by decide)
theorem m_takesOff {x : Nat} (hL : qhL g) (V : QV2 T) (g0 : qmg h T) (hx : x ≤ 150) (k : ∀ h', qmf [1034] h h' → h' 12 0 34 = ((qgrab T x).2 : Nat) → Q ((qgrab T x).1 : Nat) h') : q_tr l g (d + 1) n_X12_takesOff [qr 12 0, qi x] h Q := by
  refine i_X12_takesOff hL (fun G hG _ _ => b_X12_takesOff_0 hG ?_)
  have hc : qgc T ≤ 24 := V.2
  rw [qu_ne (by omega), g0.1]
  have key : ∀ m, m ≤ qgc T → ∀ w cnt : Nat, (w ≤ 150 ∧ cnt ≤ 150 * (qgc T - m) ∧ (∀ z, qgen T z = true → z ≤ w → ∃ i, i < m ∧ qgk T i = z) ∧ (qgrab T x).1 = cnt + (qgrab T w).1 ∧ (qgrab T x).2 = (qgrab T w).2) → ∀ h1, (qmf [1034] h h1 ∧ h1 12 0 34 = (w : Nat)) → G 14 [some (qr 12 0), none, some (qi (cnt : Int)), some (qi ((m : Int) - 1))] [] h1 := by
    intro m
    induction m with
    | zero =>
      intro _ w cnt hI h1 hI1
      refine b_X12_takesOff_14 hG ⟨fun _ => ?_, fun q => by omega⟩
      obtain ⟨-, -, i1, i2, i3⟩ := hI
      have e0 : qgg T w = 0 := by
        by_cases c : qgg T w = 0
        · exact c
        · obtain ⟨c1, c2⟩ := qgg_ok c
          obtain ⟨i, hi, -⟩ := i1 _ c1 c2
          exact absurd hi (Nat.not_lt_zero _)
      rw [qgrab_0 e0] at i2 i3
      have := k h1 hI1.1 (by rw [hI1.2, i3])
      rw [i2] at this
      exact this
    | succ m ih =>
      intro hm w cnt hI h1 hI1
      obtain ⟨i0, ic, i1, i2, i3⟩ := hI
      obtain ⟨f1, e1⟩ := hI1
      obtain ⟨u1, u2, u3⟩ := qgk_ok (S := T) (k := m) (by omega)
      have up := (qgen_in u1).1
      refine b_X12_takesOff_14 hG ⟨fun q => by omega, fun _ => ?_⟩
      rw [show ((m + 1 : Nat) : Int) - 1 = (m : Int) by omega, qmg_k (qmg_f g0 f1 rfl) (by omega), e1]
      have hd := Nat.div_le_self w (qgk T m)
      have hml := Nat.mod_lt w up
      have hmle := Nat.mod_le w (qgk T m)
      rw [show (w : Int) / (qgk T m : Int) = ((w / qgk T m : Nat) : Int) from rfl, show (w : Int) % (qgk T m : Int) = ((w % qgk T m : Nat) : Int) from rfl]
      have hdv := qgrab_div u1 (w + 1) w (by omega) (fun z z1 z2 => by
        obtain ⟨i, hi, hz⟩ := i1 z z1 z2
        rcases Nat.lt_or_ge i m with c | c
        · have := qgk_lt (S := T) c (by omega); omega
        · rw [show i = m by omega] at hz; omega)
      have := ih (by omega) (w % qgk T m) (cnt + w / qgk T m) ⟨by omega, by
        have : 150 * (qgc T - m) = 150 * (qgc T - (m + 1)) + 150 := by omega
        omega, fun z z1 z2 => by
        obtain ⟨i, hi, hz⟩ := i1 z z1 (by omega)
        refine ⟨i, ?_, hz⟩
        rcases Nat.lt_or_ge i m with c | c
        · exact c
        · rw [show i = m by omega] at hz; omega, by rw [i2, hdv]; dsimp only; omega, by rw [i3, hdv]⟩ (qu h1 12 0 34 ((w % qgk T m : Nat) : Int)) ⟨qmf_trans f1 (qmf_qu rfl), qu_at⟩
      have cb : cnt + w / qgk T m ≤ 4000 := by omega
      generalize w / qgk T m = dv at *
      generalize w % qgk T m = md at *
      refine ⟨by omega, by omega, by omega, by omega, by omega, by omega, ?_⟩
      rw [show (m : Int) + -1 = (m : Int) - 1 by omega]
      exact this
  refine ⟨by omega, key (qgc T) (Nat.le_refl _) x 0 ⟨hx, by omega, fun z z1 z2 => ⟨_, qgk_of z1 (by omega)⟩, by omega, rfl⟩ _ ⟨qmf_qu rfl, qu_at⟩⟩
theorem m_greedy {y w : Int} (hL : qhL g) (M : qmd h n S) (k : ∀ h', qmf [1023, 56, 1034] h h' → Q (qon n S s (-1) (fun S => if 0 ≤ y ∧ y ≤ 150 ∧ 0 ≤ w ∧ w ≤ 2 then (if w = 0 then qb ((qgrab S y.toNat).2 == 0) else if w = 1 then ((qgrab S y.toNat).1 : Nat) else ((qgrab S y.toNat).2 : Nat)) else -1)) h') : q_tr l g (d + 5) n_X12_greedy [qr 12 0, qi s, qi y, qi w] h Q := by
  refine i_X12_greedy hL (fun G hG hw _ => b_X12_greedy_0 hG (m_isSet hL M (hw (qi s) (by simp)) (q_on (fun e => q_qe (k h (qmf_refl _ _)) (by rw [qon_out e])) (fun j e hj => ?_))))
  subst e
  obtain ⟨V, R⟩ := M.2.2 j hj
  have h6 := M.2.1
  rw [qon_in hj] at k
  have k0 := k h (qmf_refl _ _)
  refine m_in hL (q_dc (fun e => q_qe k0 (by rw [if_neg (by omega)])) (fun e => m_in hL (q_cd (fun e2 => q_qe k0 (by rw [if_neg (by omega)])) (fun e2 => ⟨by omega, ?_⟩))))
  rw [if_pos (by omega)] at k
  clear k0
  rw [q_4j]
  obtain ⟨y, rfl⟩ := Int.eq_ofNat_of_zero_le e.1
  rw [Int.toNat_natCast] at k
  refine m_gens hL ⟨Or.inl rfl, by omega⟩ R V.1 (fun h1 f1 g1 => m_takesOff hL V g1 (by omega) (fun h2 f2 e3 => ?_))
  have k2 := k h2 (qmf_trans (qmf_mono f1 rfl) (qmf_mono f2 rfl))
  rw [e3]
  refine ⟨fun q => ⟨fun q2 => q_qe k2 (by rw [if_neg q, if_neg q2]), fun q2 => q_qe k2 (by rw [if_neg q, if_pos q2])⟩, fun q => ⟨fun q2 => q_qe k2 ?_, fun q2 => q_qe k2 ?_⟩⟩
  · rw [if_pos q, beq_eq_false_iff_ne.mpr (show (qgrab (S j) y).2 ≠ 0 by omega)]; rfl
  · rw [if_pos q, show (qgrab (S j) y).2 = 0 by omega]; rfl
theorem m_blunder (hL : qhL g) (M : qmd h n S) (k : ∀ h', qmf [1023, 56, 61, 1034] h h' → Q (qon n S s (-1) (fun S => qblun S)) h') : q_tr l g (d + 5) n_X12_blunder [qr 12 0, qi s] h Q := by
  refine i_X12_blunder hL (fun G hG hw _ => b_X12_blunder_0 hG (m_isSet hL M (hw (qi s) (by simp)) (q_no (fun e => q_qe (k h (qmf_refl _ _)) (by rw [qon_out e])) (fun j e hj => ?_))))
  subst e
  obtain ⟨V, R⟩ := M.2.2 j hj
  have h6 := M.2.1
  rw [qon_in hj] at k
  rw [q_4j]
  refine ⟨by omega, m_laysLengths hL (by omega) R V (fun h1 f1 g1 B => ?_)⟩
  have key : ∀ m, m ≤ 151 → (∀ z, z < m → qbp (S j) z = false) → ∀ h2, qmf [1034] h1 h2 → G 19 [some (qr 12 0), some (qi (j : Int)), some (qi (m : Int)), none] [] h2 := by
    refine q_up (fun m hm ih hz h2 f2 => b_X12_blunder_19 hG ⟨fun q => ?_, fun q => ⟨by omega, ?_⟩⟩)
    · refine q_qe (k h2 (qmf_trans (qmf_mono f1 rfl) (qmf_mono f2 rfl))) ?_
      unfold qblun
      rw [if_pos (qnth_no (Or.inr (by rw [qc_none (m := 0) (by omega) (fun z _ z2 => hz z (by omega))]; exact Int.le_refl _)))]
    · rw [q_4j]
      have skip : qbp (S j) m = false → ∀ h3, qmf [1034] h1 h3 → G 19 [some (qr 12 0), some (qi (j : Int)), some (qi ((m : Int) + 1)), none] [] h3 := fun e h3 f3 => ih (by omega) (fun z z1 => by
        by_cases c : z = m
        · rw [c]; exact e
        · exact hz z (by omega)) h3 f3
      have found : qbp (S j) m = true → ∀ h3, qmf [1034] h1 h3 → Q m h3 := fun e h3 f3 => by
        refine q_qe (k h3 (qmf_trans (qmf_mono f1 rfl) (qmf_mono f3 rfl))) ?_
        unfold qblun
        have := qnth_first (p := qbp (S j)) (n := 151) (m := m) (by omega) e hz
        rw [this, if_neg (by omega)]
      refine m_isOf hL (Or.inl ⟨Or.inl rfl, by omega⟩) (qmr_f (qmr_f R (by omega) f1 rfl) (by omega) f2 rfl) (qm6_1 V.1) ?_
      rw [qin_nat]
      refine ⟨fun q2 => ?_, fun q2 => ⟨by omega, skip (by unfold qbp; rw [qb_0.mp q2]; rfl) h2 f2⟩⟩
      have hS := qb_n0.mp q2
      refine m_takesOff hL V (qmg_f g1 f2 rfl) (by omega) (fun h3 f3 e3 => ?_)
      have f4 := qmf_trans f2 f3
      rw [e3]
      refine ⟨fun q3 => found ?_ h3 f4, fun q3 => ?_⟩
      · unfold qbp
        rw [hS, beq_eq_false_iff_ne.mpr (show (qgrab (S j) m).2 ≠ 0 by omega)]; rfl
      · obtain ⟨u, u1, u2, u3⟩ := qL_least V.1 (x := m) (by omega) hS
        have eb : qbp (S j) m = decide (u < (qgrab (S j) m).1) := by
          unfold qbp
          rw [hS, show (qgrab (S j) m).2 = 0 by omega, ← qfw_one V.1 (r := (u : Int)) (Or.inr ⟨u, rfl, u2, u3⟩)]
          by_cases c : u < (qgrab (S j) m).1
          · rw [decide_eq_true c, decide_eq_true (show (u : Int) < ((qgrab (S j) m).1 : Nat) by omega)]; rfl
          · rw [decide_eq_false c, decide_eq_false (show ¬ (u : Int) < ((qgrab (S j) m).1 : Nat) by omega)]; rfl
        refine m_leastLength hL V.1 (by omega) (fun n hn => by
          unfold qlb
          rw [f4 61 0 _ rfl]
          exact B m (by omega) n hn) u2 u3 ⟨fun q4 => ⟨by omega, skip (by rw [eb]; exact decide_eq_false (by omega)) h3 f4⟩, fun q4 => found (by rw [eb]; exact decide_eq_true (by omega)) h3 f4⟩
  exact key 0 (by omega) (fun z hz => absurd hz (Nat.not_lt_zero _)) h1 (qmf_refl _ _)
end QM5
