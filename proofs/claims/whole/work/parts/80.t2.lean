/-! the program's reader: one token -/
def qpk (k : Nat) : Int := if k = 0 then 0 else if k = 1 then 1 else if k = 2 then 3 else if k = 3 then 5 else if k = 4 then 4 else 2
def qtp (h : QM) (tb : Nat → Int) (n p : Nat) : Prop := h 6 0 3 = qTn tb n p ∧ h 6 0 6 = qTs tb n p ∧ h 6 0 5 = qpk (qTk tb n p) ∧ ((qTk tb n p = 1 ∨ 19 < qTk tb n p) → h 6 0 9 = q_w64 (qvU (qTf tb n p) (qTl tb n p) : Nat)) ∧ (19 < qTk tb n p → h 6 0 7 = (qTk tb n p : Int) - 19) ∧ (qTk tb n p = 2 → h 6 0 8 = qvD (qTf tb n p) (qTd tb n p))
def qf6 (h h' : QM) : Prop := ∀ (r : Nat) (i j : Int), ¬ (r = 6 ∧ i = 0 ∧ (j = 3 ∨ j = 5 ∨ j = 6 ∨ j = 7 ∨ j = 8 ∨ j = 9)) → h' r i j = h r i j
theorem qf6_refl (h : QM) : qf6 h h := fun _ _ _ _ => rfl
theorem qf6_trans {h1 h2 h3 : QM} (a : qf6 h1 h2) (b : qf6 h2 h3) : qf6 h1 h3 := fun r i j e => by rw [b r i j e, a r i j e]
theorem qf6_qu {h : QM} {j v : Int} (e : j = 3 ∨ j = 5 ∨ j = 6 ∨ j = 7 ∨ j = 8 ∨ j = 9) : qf6 h (qu h 6 0 j v) := fun r i j' q => qu_ne (fun z => q ⟨z.1, z.2.1, by rw [z.2.2]; exact e⟩)
theorem qf6_fx {h h' : QM} (f : qf6 h h') : qfx [6] h h' := fun r e i j => f r i j (fun z => by rw [z.1] at e; cases e)
theorem qtape_fx {h h' : QM} {rs : List Nat} {n : Nat} {tb : Nat → Int} (T : qtape h n tb) (f : qfx rs h h') (e : (rs.contains 9 || rs.contains 33) = false) : qtape h' n tb := by
  rw [Bool.or_eq_false_iff] at e
  exact ⟨by rw [f 9 e.1]; exact T.1, T.2.1, fun i hi => by rw [f 33 e.2]; exact T.2.2 i hi⟩
theorem qTs_is {tb : Nat → Int} {n p s : Nat} (hp : p ≤ s) (hs : s ≤ n) (h1 : ∀ i, p ≤ i → i < s → qbl (qby tb n i) = true) (h2 : qbl (qby tb n s) = false) : qTs tb n p = s := by
  obtain ⟨a1, a2, a3⟩ := qTs_ok tb (show p ≤ n by omega)
  obtain ⟨b1, b2, b3, b4⟩ := qen_ok (P := fun i => qbl (qby tb n i)) (n := n) (fun i hi => qbl_o (by rw [qby_out hi]; decide)) (n - p) p (Nat.le_refl _)
  rcases Nat.lt_trichotomy (qTs tb n p) s with c | c | c
  · rw [h1 _ a1 c] at a3; cases a3
  · exact c
  · have := b3 s hp c
    rw [h2] at this; cases this
/-- one letter more -/
theorem q_more8 {u : Nat} {c : Int} (hu : u < 72057594037927936) (hc : 0 ≤ c ∧ c < 256) : q_or64 (q_shl64 (q_w64 (u : Int)) 8) c = q_w64 ((u : Int) * 256 + c) := by
  obtain ⟨w, rfl⟩ := Int.eq_ofNat_of_zero_le hc.1
  rw [q_w64_id (z := (u : Int)) (by unfold q_i64; omega)]
  refine qbt_ext64 (q_bv64 _) (q_w64_i _) (fun k hk => ?_)
  have e := qbt_shl64 (x := (u : Int)) (s := 8) (k := k) (by omega) hk
  rw [show ((8 : Nat) : Int) = 8 from rfl] at e
  rw [qbt_or64 hk, e, qbt_w64 hk]
  have e2 := qbt_lo (u : Int) (b := (w : Int)) (t := 8) (k := k) (by omega) (by show (w : Int) < 256; omega)
  rw [show (2 : Int) ^ 8 = 256 from rfl] at e2
  rw [e2]
  by_cases c2 : k < 8
  · rw [if_pos c2, decide_eq_false (by omega), Bool.false_and, Bool.false_or]
  · rw [if_neg c2, decide_eq_true (by omega), Bool.true_and, qbt_small (k := k) (Nat.lt_of_lt_of_le (show w < 2 ^ 8 by omega) (Nat.pow_le_pow_right (by omega) (by omega))), Bool.or_false]
theorem qw_1 : q_WORDS.getD 1 0 = 28518 ∧ q_WORDS.getD 2 0 = 7566701 ∧ q_WORDS.getD 3 0 = 1835361652 ∧ q_WORDS.getD 4 0 = 6386278 ∧ q_WORDS.getD 5 0 = 1885434484 ∧ q_WORDS.getD 6 0 = 6382692 ∧ q_WORDS.getD 7 0 = 1685221232 := by decide
theorem qwd_is {u j : Nat} (h1 : 1 ≤ j) (h7 : j ≤ 7) : qwd u = j ↔ (u : Int) = q_WORDS.getD j 0 := by
  obtain ⟨w1, w2, w3, w4, w5, w6, w7⟩ := qw_1
  have hj : j = 1 ∨ j = 2 ∨ j = 3 ∨ j = 4 ∨ j = 5 ∨ j = 6 ∨ j = 7 := by omega
  unfold qwd
  rcases hj with rfl | rfl | rfl | rfl | rfl | rfl | rfl
  · rw [w1]; clear w1 w2 w3 w4 w5 w6 w7; repeat' split
    all_goals omega
  · rw [w2]; clear w1 w2 w3 w4 w5 w6 w7; repeat' split
    all_goals omega
  · rw [w3]; clear w1 w2 w3 w4 w5 w6 w7; repeat' split
    all_goals omega
  · rw [w4]; clear w1 w2 w3 w4 w5 w6 w7; repeat' split
    all_goals omega
  · rw [w5]; clear w1 w2 w3 w4 w5 w6 w7; repeat' split
    all_goals omega
  · rw [w6]; clear w1 w2 w3 w4 w5 w6 w7; repeat' split
    all_goals omega
  · rw [w7]; clear w1 w2 w3 w4 w5 w6 w7; repeat' split
    all_goals omega
theorem qwd_w64 {u j : Nat} (h1 : 1 ≤ j) (h7 : j ≤ 7) (hu : u < 18446744073709551616) : q_WORDS.getD j 0 = q_w64 (u : Int) ↔ (u : Int) = q_WORDS.getD j 0 := by
  obtain ⟨w1, w2, w3, w4, w5, w6, w7⟩ := qw_1
  have hj : j = 1 ∨ j = 2 ∨ j = 3 ∨ j = 4 ∨ j = 5 ∨ j = 6 ∨ j = 7 := by omega
  have hb : 0 ≤ q_WORDS.getD j 0 ∧ q_WORDS.getD j 0 < 2000000000 := by
    rcases hj with rfl | rfl | rfl | rfl | rfl | rfl | rfl <;> omega
  clear w1 w2 w3 w4 w5 w6 w7 hj
  generalize q_WORDS.getD j 0 = W at *
  unfold q_w64
  omega
section QT2
variable {l : Launch} {g : QG} {d : Nat} {h : QM} {Q : Int → QM → Prop} {n : Nat} {tb : Nat → Int}
theorem s_isBlank {c : Int} (hL : qhL g) (k : Q (qb (qbl c)) h) : q_tr l g (d + 1) n_X6_isBlank [qi c] h Q := by
  unfold qbl at k
  refine i_X6_isBlank hL (fun G hG _ _ => b_X6_isBlank_0 hG ⟨fun q => ⟨Or.inr rfl, q_qe k ?_⟩, fun q => ⟨fun q2 => ⟨Or.inr rfl, q_qe k ?_⟩, fun q2 => ⟨fun q3 => ⟨Or.inr rfl, q_qe k ?_⟩, fun q3 => ⟨fun q4 => ⟨Or.inl rfl, q_qe k ?_⟩, fun q4 => ⟨Or.inr rfl, q_qe k ?_⟩⟩⟩⟩⟩)
  · rw [decide_eq_true (by omega)]; rfl
  · rw [decide_eq_true (by omega)]; rfl
  · rw [decide_eq_true (by omega)]; rfl
  · rw [decide_eq_false (by omega)]; rfl
  · rw [decide_eq_true (by omega)]; rfl
theorem s_isLetter {c : Int} (hL : qhL g) (k : Q (qb (qle c)) h) : q_tr l g (d + 1) n_X6_isLetter [qi c] h Q := by
  unfold qle at k
  exact i_X6_isLetter hL (fun G hG _ _ => b_X6_isLetter_0 hG ⟨fun q => ⟨Or.inl rfl, q_qe k (by rw [decide_eq_false (by omega)]; rfl)⟩, fun q => ⟨fun q2 => ⟨Or.inl rfl, q_qe k (by rw [decide_eq_false (by omega)]; rfl)⟩, fun q2 => ⟨Or.inr rfl, q_qe k (by rw [decide_eq_true (by omega)]; rfl)⟩⟩⟩)
theorem s_isDigit {c : Int} (hL : qhL g) (k : Q (qb (qdi c)) h) : q_tr l g (d + 1) n_X6_isDigit [qi c] h Q := by
  unfold qdi at k
  exact i_X6_isDigit hL (fun G hG _ _ => b_X6_isDigit_0 hG ⟨fun q => ⟨Or.inl rfl, q_qe k (by rw [decide_eq_false (by omega)]; rfl)⟩, fun q => ⟨fun q2 => ⟨Or.inl rfl, q_qe k (by rw [decide_eq_false (by omega)]; rfl)⟩, fun q2 => ⟨Or.inr rfl, q_qe k (by rw [decide_eq_true (by omega)]; rfl)⟩⟩⟩)
theorem s_tsQ {t : Int} (hL : qhL g) (T : qtape h n tb) (ht : t = 0) (k : Q n h) : q_tr l g (d + 1) n_X9_size [qr 9 t] h Q := by
  subst ht
  exact s_tsize hL T k
theorem s_byQ {i : Nat} {a t : Int} (hL : qhL g) (T : qtape h n tb) (ht : t = 0) (ha : a = i) (k : Q (qby tb n i) h) : q_tr l g (d + 1) n_X9_byteAt [qr 9 t, qi a] h Q := by
  subst ht
  rw [ha]
  refine s_byte hL T (q_qe k ?_)
  unfold qby
  rfl
theorem s_wordOf {x : Int} (hL : qhL g) (k : ∀ z : Nat, z ≤ 7 → (∀ u : Nat, u < 18446744073709551616 → x = q_w64 (u : Int) → z = qwd u) → Q z h) : q_tr l g (d + 1) n_X6_wordOf [ql x] h Q := by
  refine i_X6_wordOf hL (fun G hG _ _ => b_X6_wordOf_0 hG ?_)
  have key : ∀ m, m ≤ 8 → 1 ≤ m → (∀ j, 1 ≤ j → j < m → q_WORDS.getD j 0 ≠ x) → G 2 [some (ql x), none, some (qi (m : Int))] [] h := by
    refine q_up (fun m hm ih hm1 hI => b_X6_wordOf_2 hG ⟨fun q => k 0 (by omega) (fun u hu e => ?_), fun q => ⟨by omega, ?_⟩⟩)
    · have h7 := qwd_7 u
      rcases Nat.eq_zero_or_pos (qwd u) with c | c
      · exact c.symm
      · have e1 := (qwd_is c h7).mp rfl
        have := hI (qwd u) c (by omega)
        rw [e, ← (qwd_w64 c h7 hu).mpr e1] at this
        exact absurd rfl this
    · have esc : q_sc (q_S g) 100 (m : Int) = q_WORDS.getD m 0 := rfl
      rw [esc, q_lc0]
      refine ⟨fun q2 => ⟨by omega, ih (by omega) (by omega) (fun j j1 j2 => ?_)⟩, fun q2 => k m (by omega) (fun u hu e => ?_)⟩
      · by_cases c : j = m
        · rw [c]; exact q2
        · exact hI j j1 (by omega)
      · exact ((qwd_is hm1 (by omega)).mpr ((qwd_w64 hm1 (by omega) hu).mp (by rw [q2, e]))).symm
  exact key 1 (by omega) (by omega) (fun j j1 j2 => by omega)
theorem s_takeLetters {p : Nat} (hL : qhL g) (T : qtape h n tb) (hp : p ≤ n) (h2 : h 6 0 2 = 0) (h3 : h 6 0 3 = qTs tb n p) (h6 : h 6 0 6 = qTs tb n p) (hn : ¬ n ≤ qTs tb n p) (hl : qle (qby tb n (qTs tb n p)) = true) (k : ∀ h', qf6 h h' → qtp h' tb n p → Q 0 h') : q_tr l g (d + 2) n_X6_takeLetters [qr 6 0] h Q := by
  refine i_X6_takeLetters hL (fun G hG _ _ => b_X6_takeLetters_0 hG ?_)
  have hn2 := T.2.1
  obtain ⟨l1, l2, l3⟩ := qTl_ok tb hp
  generalize hs : qTs tb n p = s at *
  have key : ∀ m, m ≤ qTl tb n p → ∀ h1, (qf6 h h1 ∧ h1 6 0 3 = ((s + m : Nat) : Int) ∧ h1 6 0 6 = (s : Int) ∧ (m ≤ 8 → h1 6 0 9 = q_w64 (qvU (qTf tb n p) m : Nat))) → G 5 [some (qr 6 0)] [] h1 := by
    refine q_up (fun m hm ih h1 hI => b_X6_takeLetters_5 hG ?_)
    obtain ⟨f, c3, c6, c9⟩ := hI
    have T1 := qtape_fx T (qf6_fx f) rfl
    have e2 : h1 6 0 2 = 0 := by rw [f 6 0 2 (by omega)]; exact h2
    have ef : qTf tb n p m = qby tb n (s + m) := by unfold qTf; rw [hs]
    -- the end of them
    have fin : m = qTl tb n p → q_tr l g (d + 1) n_X6_wordOf [ql (h1 6 0 9)] h1 (fun z2 h2 => (-2147483648 ≤ ((qu h2 6 0 7 z2) 6 0 3) - ((qu h2 6 0 7 z2) 6 0 6) ∧ ((qu h2 6 0 7 z2) 6 0 3) - ((qu h2 6 0 7 z2) 6 0 6) ≤ 2147483647) ∧ ((((qu h2 6 0 7 z2) 6 0 3) - ((qu h2 6 0 7 z2) 6 0 6) ≤ 8 → ((¬ ((qu h2 6 0 7 z2) 6 0 7) = 0 → Q 0 (qu (qu h2 6 0 7 z2) 6 0 5 2)) ∧ ((qu h2 6 0 7 z2) 6 0 7 = 0 → Q 0 (qu (qu h2 6 0 7 z2) 6 0 5 1)))) ∧ (¬ ((qu h2 6 0 7 z2) 6 0 3) - ((qu h2 6 0 7 z2) 6 0 6) ≤ 8 → Q 0 (qu (qu h2 6 0 7 z2) 6 0 5 5)))) := fun em => by
      refine s_wordOf hL (fun z hz hzu => ?_)
      have a3 : (qu h1 6 0 7 z) 6 0 3 = ((s + m : Nat) : Int) := by rw [qu_ne (by omega)]; exact c3
      have a6 : (qu h1 6 0 7 z) 6 0 6 = (s : Int) := by rw [qu_ne (by omega)]; exact c6
      rw [a3, a6, qu_at]
      have eN : qTn tb n p = s + m := by unfold qTn; rw [hs, if_neg hn, hl, if_pos rfl, em]
      have eK : qTk tb n p = if 8 < qTl tb n p then 3 else if qwd (qvU (qTf tb n p) (qTl tb n p)) = 0 then 1 else 19 + qwd (qvU (qTf tb n p) (qTl tb n p)) := by unfold qTk; rw [hs, if_neg hn, hl, if_pos rfl]
      have st : ∀ kd : Int, kd = qpk (qTk tb n p) → Q 0 (qu (qu h1 6 0 7 z) 6 0 5 kd) := fun kd hk => by
        refine k _ (qf6_trans f (qf6_trans (qf6_qu (by omega)) (qf6_qu (by omega)))) ⟨?_, ?_, ?_, fun q => ?_, fun q => ?_, fun q => ?_⟩
        · rw [qu_ne (by omega), a3, eN]
        · rw [qu_ne (by omega), a6, hs]
        · rw [qu_at]; exact hk
        · have := qK_len q
          rw [qu_ne (by omega), qu_ne (by omega), c9 (by omega), em]
        · have h8 := qK_len (Or.inr q)
          rw [qu_ne (by omega), qu_at]
          have e9 := c9 (by omega)
          have hb := qvU_bd (k := m) (fun i hi => l2 i (by omega))
          have hb2 : (256 : Nat) ^ m ≤ 256 ^ 8 := Nat.pow_le_pow_right (by omega) (by omega)
          have := hzu _ (by omega) e9
          rw [em] at this
          rw [eK, if_neg (by omega)] at q ⊢
          revert q
          split
          · omega
          · intro _; omega
        · rw [eK] at q
          exfalso
          revert q
          split
          · omega
          · split
            · omega
            · intro q
              omega
      refine ⟨by omega, fun q => ?_, fun q => st 5 (by rw [eK, if_pos (by omega)]; rfl)⟩
      have e9 := c9 (by omega)
      have hb := qvU_bd (k := m) (fun i hi => l2 i (by omega))
      have hb2 : (256 : Nat) ^ m ≤ 256 ^ 8 := Nat.pow_le_pow_right (by omega) (by omega)
      have ez := hzu _ (by omega) e9
      rw [em] at ez
      refine ⟨fun q2 => st 2 ?_, fun q2 => st 1 ?_⟩
      · rw [eK, if_neg (by omega), if_neg (by omega)]
        unfold qpk
        rw [if_neg (by omega), if_neg (by omega), if_neg (by omega), if_neg (by omega), if_neg (by omega)]
      · rw [eK, if_neg (by omega), if_pos (by omega)]; rfl
    refine ⟨by omega, s_tsQ hL T1 e2 ⟨fun q => fin (by omega), fun q => ⟨by omega, s_byQ hL T1 e2 c3 (s_isLetter hL ⟨fun q2 => fin ?_, fun q2 => ⟨by omega, s_byQ hL T1 e2 c3 ?_⟩⟩)⟩⟩⟩
    · rcases Nat.lt_or_ge m (qTl tb n p) with c | c
      · have := l2 m c
        rw [ef] at this
        have e : qle (qby tb n (s + m)) = true := decide_eq_true this
        rw [e] at q2; cases q2
      · omega
    · have hlt : m < qTl tb n p := by
        rcases Nat.lt_or_ge m (qTl tb n p) with c | c
        · exact c
        · rw [show m = qTl tb n p by omega] at q2
          rw [l3] at q2; exact absurd rfl q2
      have hc := l2 m hlt
      rw [ef] at hc
      rw [qu_ne (by omega), c3]
      refine ⟨by omega, ih hlt _ ⟨qf6_trans f (qf6_trans (qf6_qu (by omega)) (qf6_qu (by omega))), ?_, ?_, fun q3 => ?_⟩⟩
      · rw [qu_at]; omega
      · rw [qu_ne (by omega), qu_ne (by omega)]; exact c6
      · rw [qu_ne (by omega), qu_at, c9 (by omega)]
        have hb := qvU_bd (k := m) (fun i hi => l2 i (by omega))
        have hb2 : (256 : Nat) ^ m ≤ 256 ^ 7 := Nat.pow_le_pow_right (by omega) (by omega)
        rw [q_more8 (by omega) (by omega)]
        congr 1
        show _ = ((qvU (qTf tb n p) m * 256 + (qTf tb n p m).toNat : Nat) : Int)
        rw [ef]
        omega
  refine key 0 (Nat.zero_le _) _ ⟨qf6_qu (by omega), ?_, ?_, fun _ => ?_⟩
  · rw [qu_ne (by omega)]; exact h3
  · rw [qu_ne (by omega)]; exact h6
  · rw [qu_at]; exact (q_w64_id (z := 0) (by unfold q_i64; omega)).symm
theorem s_takeDigits {p : Nat} (hL : qhL g) (T : qtape h n tb) (hp : p ≤ n) (h2 : h 6 0 2 = 0) (h3 : h 6 0 3 = qTs tb n p) (h6 : h 6 0 6 = qTs tb n p) (hn : ¬ n ≤ qTs tb n p) (hl : qle (qby tb n (qTs tb n p)) = false) (hd : qdi (qby tb n (qTs tb n p)) = true) (k : ∀ h', qf6 h h' → qtp h' tb n p → Q 0 h') : q_tr l g (d + 2) n_X6_takeDigits [qr 6 0] h Q := by
  refine i_X6_takeDigits hL (fun G hG _ _ => b_X6_takeDigits_0 hG ?_)
  have hn2 := T.2.1
  obtain ⟨l1, l2, l3⟩ := qTd_ok tb hp
  generalize hs : qTs tb n p = s at *
  have key : ∀ m, m ≤ qTd tb n p → ∀ h1, (qf6 h h1 ∧ h1 6 0 3 = ((s + m : Nat) : Int) ∧ h1 6 0 6 = (s : Int) ∧ (m ≤ 4 → h1 6 0 8 = qvD (qTf tb n p) m)) → G 5 [some (qr 6 0)] [] h1 := by
    refine q_up (fun m hm ih h1 hI => b_X6_takeDigits_5 hG ?_)
    obtain ⟨f, c3, c6, c8⟩ := hI
    have T1 := qtape_fx T (qf6_fx f) rfl
    have e2 : h1 6 0 2 = 0 := by rw [f 6 0 2 (by omega)]; exact h2
    have ef : qTf tb n p m = qby tb n (s + m) := by unfold qTf; rw [hs]
    have fin : m = qTd tb n p → ((q_w32 ((h1 6 0 3) - (h1 6 0 6)) ≤ 4 → Q 0 (qu h1 6 0 5 3)) ∧ (¬ q_w32 ((h1 6 0 3) - (h1 6 0 6)) ≤ 4 → Q 0 (qu h1 6 0 5 5))) := fun em => by
      rw [c3, c6, q_w32_id (by unfold q_i32; omega)]
      have eN : qTn tb n p = s + m := by unfold qTn; rw [hs, if_neg hn, hl, if_neg Bool.false_ne_true, hd, if_pos rfl, em]
      have eK : qTk tb n p = if 4 < qTd tb n p then 3 else 2 := by unfold qTk; rw [hs, if_neg hn, hl, if_neg Bool.false_ne_true, hd, if_pos rfl]
      have st : ∀ kd : Int, kd = qpk (qTk tb n p) → Q 0 (qu h1 6 0 5 kd) := fun kd hk => by
        refine k _ (qf6_trans f (qf6_qu (by omega))) ⟨?_, ?_, ?_, fun q => ?_, fun q => ?_, fun q => ?_⟩
        · rw [qu_ne (by omega), c3, eN]
        · rw [qu_ne (by omega), c6, hs]
        · rw [qu_at]; exact hk
        · exfalso; rw [eK] at q; revert q; split <;> omega
        · exfalso; rw [eK] at q; revert q; split <;> omega
        · rw [qu_ne (by omega), c8 (by rw [eK] at q; revert q; split <;> omega), em]
      exact ⟨fun q => st 3 (by rw [eK, if_neg (by omega)]; rfl), fun q => st 5 (by rw [eK, if_pos (by omega)]; rfl)⟩
    refine ⟨by omega, s_tsQ hL T1 e2 ⟨fun q => fin (by omega), fun q => ⟨by omega, s_byQ hL T1 e2 c3 (s_isDigit hL ⟨fun q2 => fin ?_, fun q2 => ⟨by omega, s_byQ hL T1 e2 c3 ?_⟩⟩)⟩⟩⟩
    · rcases Nat.lt_or_ge m (qTd tb n p) with c | c
      · have := l2 m c
        rw [ef] at this
        have e : qdi (qby tb n (s + m)) = true := decide_eq_true this
        rw [e] at q2; cases q2
      · omega
    · have hlt : m < qTd tb n p := by
        rcases Nat.lt_or_ge m (qTd tb n p) with c | c
        · exact c
        · rw [show m = qTd tb n p by omega] at q2
          rw [l3] at q2; exact absurd rfl q2
      have hc := l2 m hlt
      rw [ef] at hc
      rw [qu_ne (by omega), c3, q_w32_id (z := ((s + m : Nat) : Int) + 1) (by unfold q_i32; omega)]
      refine ih hlt _ ⟨qf6_trans f (qf6_trans (qf6_qu (by omega)) (qf6_qu (by omega))), ?_, ?_, fun q3 => ?_⟩
      · rw [qu_at]; omega
      · rw [qu_ne (by omega), qu_ne (by omega)]; exact c6
      · rw [qu_ne (by omega), qu_at, c8 (by omega)]
        have hb := qvD_bd (k := m) (fun i hi => l2 i (by omega))
        have hb2 : (10 : Int) ^ m ≤ 1000 := by
          have : m = 0 ∨ m = 1 ∨ m = 2 ∨ m = 3 := by omega
          rcases this with e | e | e | e <;> rw [e] <;> decide
        rw [q_w32_id (z := qvD (qTf tb n p) m * 10) (by unfold q_i32; omega), q_w32_id (z := qvD (qTf tb n p) m * 10 + qby tb n (s + m)) (by unfold q_i32; omega), q_w32_id (by unfold q_i32; omega)]
        show _ = 10 * qvD (qTf tb n p) m + qTf tb n p m - 48
        rw [ef]
        omega
  refine key 0 (Nat.zero_le _) _ ⟨qf6_qu (by omega), ?_, ?_, fun _ => ?_⟩
  · rw [qu_ne (by omega)]; exact h3
  · rw [qu_ne (by omega)]; exact h6
  · rw [qu_at]; rfl
theorem s_next {p : Nat} (hL : qhL g) (T : qtape h n tb) (hp : p ≤ n) (h2 : h 6 0 2 = 0) (h3 : h 6 0 3 = p) (k : ∀ h', qf6 h h' → qtp h' tb n p → Q 0 h') : q_tr l g (d + 3) n_X6_nextToken [qr 6 0] h Q := by
  refine i_X6_nextToken hL (fun G hG _ _ => ?_)
  have hn2 := T.2.1
  have key : ∀ s, s ≤ n → p ≤ s → (∀ i, p ≤ i → i < s → qbl (qby tb n i) = true) → ∀ h1, (qf6 h h1 ∧ h1 6 0 3 = (s : Int)) → G 0 [some (qr 6 0), none] [] h1 := by
    refine q_up (fun s hs ih hps hI h1 hI1 => b_X6_nextToken_0 hG ?_)
    obtain ⟨f, c3⟩ := hI1
    have T1 := qtape_fx T (qf6_fx f) rfl
    have e2 : h1 6 0 2 = 0 := by rw [f 6 0 2 (by omega)]; exact h2
    -- here it starts
    have start : qbl (qby tb n s) = false → 0 ≤ (qu h1 6 0 6 (h1 6 0 3)) 6 0 2 ∧ q_tr l g (d + 2) n_X9_byteAt [qr 9 ((qu h1 6 0 6 (h1 6 0 3)) 6 0 2), qi ((qu h1 6 0 6 (h1 6 0 3)) 6 0 3)] (qu h1 6 0 6 (h1 6 0 3)) (fun z2 h2 => ((¬ z2 = (-1) → q_tr l g (d + 2) n_X6_isLetter [qi z2] h2 (fun z3 h3 => ((z3 = 0 → q_tr l g (d + 2) n_X6_isDigit [qi z2] h3 (fun z4 h4 => ((z4 = 0 → ((¬ z2 = 59 → (-2147483648 ≤ ((qu h4 6 0 5 5) 6 0 3) + 1 ∧ ((qu h4 6 0 5 5) 6 0 3) + 1 ≤ 2147483647) ∧ Q 0 (qu (qu h4 6 0 5 5) 6 0 3 (((qu h4 6 0 5 5) 6 0 3) + 1))) ∧ (z2 = 59 → (-2147483648 ≤ ((qu h4 6 0 5 4) 6 0 3) + 1 ∧ ((qu h4 6 0 5 4) 6 0 3) + 1 ≤ 2147483647) ∧ Q 0 (qu (qu h4 6 0 5 4) 6 0 3 (((qu h4 6 0 5 4) 6 0 3) + 1))))) ∧ (¬ z4 = 0 → q_tr l g (d + 2) n_X6_takeDigits [qr 6 0] h4 (fun _ h5 => Q 0 h5))))) ∧ (¬ z3 = 0 → q_tr l g (d + 2) n_X6_takeLetters [qr 6 0] h3 (fun _ h6 => Q 0 h6))))) ∧ (z2 = -1 → Q 0 (qu h2 6 0 5 0)))) := fun hnb => by
      have es := qTs_is hps hs hI hnb
      have fq : qf6 h (qu h1 6 0 6 (h1 6 0 3)) := qf6_trans f (qf6_qu (by omega))
      have T2 := qtape_fx T (qf6_fx fq) rfl
      have d2 : (qu h1 6 0 6 (h1 6 0 3)) 6 0 2 = 0 := by rw [qu_ne (by omega)]; exact e2
      have d3 : (qu h1 6 0 6 (h1 6 0 3)) 6 0 3 = (s : Int) := by rw [qu_ne (by omega)]; exact c3
      have d6 : (qu h1 6 0 6 (h1 6 0 3)) 6 0 6 = (s : Int) := by rw [qu_at]; exact c3
      refine ⟨by omega, s_byQ hL T2 d2 d3 ⟨fun q => s_isLetter hL ⟨fun q2 => s_isDigit hL ⟨fun q3 => ?_, fun q3 => ?_⟩, fun q2 => ?_⟩, fun q => ?_⟩⟩
      · have hsn : ¬ n ≤ s := fun z => q (qby_out z)
        have one : ∀ kd : Int, kd = (if qby tb n s = 59 then 4 else 5) → Q 0 (qu (qu (qu h1 6 0 6 (h1 6 0 3)) 6 0 5 kd) 6 0 3 (((qu (qu h1 6 0 6 (h1 6 0 3)) 6 0 5 kd) 6 0 3) + 1)) := fun kd hk => by
          have eN : qTn tb n p = s + 1 := by unfold qTn; rw [es, if_neg hsn, qb_0.mp q2, if_neg Bool.false_ne_true, qb_0.mp q3, if_neg Bool.false_ne_true]
          have eK : qTk tb n p = if qby tb n s = 59 then 4 else 3 := by unfold qTk; rw [es, if_neg hsn, qb_0.mp q2, if_neg Bool.false_ne_true, qb_0.mp q3, if_neg Bool.false_ne_true]
          have nk : ¬ (qTk tb n p = 1 ∨ 19 < qTk tb n p) ∧ qTk tb n p ≠ 2 := by rw [eK]; split <;> omega
          refine k _ (qf6_trans fq (qf6_trans (qf6_qu (by omega)) (qf6_qu (by omega)))) ⟨?_, ?_, ?_, fun q => absurd q nk.1, fun q => absurd (Or.inr q) nk.1, fun q => absurd q nk.2⟩
          · rw [qu_at, qu_ne (by omega), d3, eN]; omega
          · rw [qu_ne (by omega), qu_ne (by omega), d6, es]
          · rw [qu_ne (by omega), qu_at, hk, eK]
            split <;> rfl
        have d3' : ∀ kd, (qu (qu h1 6 0 6 (h1 6 0 3)) 6 0 5 kd) 6 0 3 = (s : Int) := fun kd => by rw [qu_ne (by omega)]; exact d3
        refine ⟨fun q4 => ⟨by rw [d3']; omega, one 5 (by rw [if_neg q4])⟩, fun q4 => ⟨by rw [d3']; omega, one 4 (by rw [if_pos q4])⟩⟩
      · have hsn : ¬ n ≤ s := fun z => q (qby_out z)
        exact s_takeDigits hL T2 hp d2 (by rw [es]; exact d3) (by rw [es]; exact d6) (by rw [es]; exact hsn) (by rw [es]; exact qb_0.mp q2) (by rw [es]; exact qb_n0.mp q3) (fun h5 f5 P5 => k h5 (qf6_trans fq f5) P5)
      · have hsn : ¬ n ≤ s := fun z => q (qby_out z)
        exact s_takeLetters hL T2 hp d2 (by rw [es]; exact d3) (by rw [es]; exact d6) (by rw [es]; exact hsn) (by rw [es]; exact qb_n0.mp q2) (fun h5 f5 P5 => k h5 (qf6_trans fq f5) P5)
      · have hsn : n ≤ s := by
          rcases Nat.lt_or_ge s n with c | c
          · have := qby_in (tb := tb) c; omega
          · exact c
        have eN : qTn tb n p = s := by unfold qTn; rw [es, if_pos hsn]
        have eK : qTk tb n p = 0 := by unfold qTk; rw [es, if_pos hsn]
        refine k _ (qf6_trans fq (qf6_qu (by omega))) ⟨?_, ?_, ?_, fun q => by omega, fun q => by omega, fun q => by omega⟩
        · rw [qu_ne (by omega), d3, eN]
        · rw [qu_ne (by omega), d6, es]
        · rw [qu_at, eK]; rfl
    refine ⟨by omega, s_tsQ hL T1 e2 ⟨fun q => start (qbl_o (by rw [qby_out (by omega)]; decide)), fun q => ⟨by omega, s_byQ hL T1 e2 c3 (s_isBlank hL ⟨fun q2 => start (qb_0.mp q2), fun q2 => ?_⟩)⟩⟩⟩
    rw [c3]
    refine ⟨by omega, ih (by omega) (by omega) (fun i i1 i2 => ?_) _ ⟨qf6_trans f (qf6_qu (by omega)), qu_at⟩⟩
    by_cases c : i = s
    · rw [c]; exact qb_n0.mp q2
    · exact hI i i1 (by omega)
  exact key p hp (Nat.le_refl _) (fun i i1 i2 => by omega) h ⟨qf6_refl _, h3⟩
end QT2
