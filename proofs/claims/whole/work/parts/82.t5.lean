/-! the model's text: its tokens -/
def qby0 (tb : Nat → Int) (n i : Nat) : Int := if i < n then tb i % 256 else 0
theorem qby0_in {tb : Nat → Int} {n i : Nat} (h : i < n) : qby0 tb n i = qby tb n i := by unfold qby0 qby; rw [if_pos h, if_pos h]
theorem qle_0 (tb : Nat → Int) (n i : Nat) : qle (qby0 tb n i) = qle (qby tb n i) := by
  by_cases h : i < n
  · rw [qby0_in h]
  · unfold qby0 qby; rw [if_neg h, if_neg h]; rfl
theorem qdi_0 (tb : Nat → Int) (n i : Nat) : qdi (qby0 tb n i) = qdi (qby tb n i) := by
  by_cases h : i < n
  · rw [qby0_in h]
  · unfold qby0 qby; rw [if_neg h, if_neg h]; rfl
def qtxt (h : QM) (n : Nat) (tb : Nat → Int) : Prop := h 12 0 4 = n ∧ n ≤ 2000 ∧ ∀ i : Nat, i < n → h 47 0 i = tb i
theorem qtxt_f {h h' : QM} {rs : List Nat} {n : Nat} {tb : Nat → Int} (T : qtxt h n tb) (f : qmf rs h h') (e : (rs.contains 1004 || rs.contains 47) = false) : qtxt h' n tb := by
  rw [Bool.or_eq_false_iff] at e
  exact ⟨by rw [f 12 0 4 e.1]; exact T.1, T.2.1, fun i hi => by rw [f 47 0 i (by rw [qcd_r (by omega) (by omega)]; exact e.2)]; exact T.2.2 i hi⟩
def qkeys (h : QM) : Prop := h 52 0 0 = 411 ∧ h 52 0 1 = 14431 ∧ h 52 0 2 = 259679 ∧ h 52 0 3 = 1221 ∧ h 52 0 4 = 316163 ∧ h 52 0 5 = 841 ∧ h 52 0 6 = 92275
theorem qkey_is {h : QM} (k : qkeys h) {x u : Nat} (hx : x < 7) : h 52 0 x = u ↔ qwd7 u = x + 1 := by
  obtain ⟨k0, k1, k2, k3, k4, k5, k6⟩ := k
  have hj : x = 0 ∨ x = 1 ∨ x = 2 ∨ x = 3 ∨ x = 4 ∨ x = 5 ∨ x = 6 := by omega
  unfold qwd7
  rcases hj with rfl | rfl | rfl | rfl | rfl | rfl | rfl
  · rw [show ((0 : Nat) : Int) = 0 from rfl, k0]; clear k0 k1 k2 k3 k4 k5 k6; repeat' split
    all_goals omega
  · rw [show ((1 : Nat) : Int) = 1 from rfl, k1]; clear k0 k1 k2 k3 k4 k5 k6; repeat' split
    all_goals omega
  · rw [show ((2 : Nat) : Int) = 2 from rfl, k2]; clear k0 k1 k2 k3 k4 k5 k6; repeat' split
    all_goals omega
  · rw [show ((3 : Nat) : Int) = 3 from rfl, k3]; clear k0 k1 k2 k3 k4 k5 k6; repeat' split
    all_goals omega
  · rw [show ((4 : Nat) : Int) = 4 from rfl, k4]; clear k0 k1 k2 k3 k4 k5 k6; repeat' split
    all_goals omega
  · rw [show ((5 : Nat) : Int) = 5 from rfl, k5]; clear k0 k1 k2 k3 k4 k5 k6; repeat' split
    all_goals omega
  · rw [show ((6 : Nat) : Int) = 6 from rfl, k6]; clear k0 k1 k2 k3 k4 k5 k6; repeat' split
    all_goals omega
theorem qwd7_7 (u : Nat) : qwd7 u ≤ 7 := by
  unfold qwd7
  repeat' split
  all_goals omega
/-- the first m tokens stand -/
def qcut (h : QM) (tb : Nat → Int) (n m : Nat) : Prop := ∀ t : Nat, t < m → h 48 0 t = qK tb n t ∧ h 49 0 t = qPl tb n t ∧ (qK tb n t = 2 → h 50 0 t = qVa tb n t) ∧ (qK tb n t = 1 → h 51 0 t = (qN7 tb n t : Nat))
/-- all that are asked for stand -/
def qcuts (h : QM) (tb : Nat → Int) (n : Nat) : Prop := ∃ m, qcut h tb n m ∧ (m = 401 ∨ ∃ t, t < m ∧ qK tb n t = 0)
theorem qcuts_at {h : QM} {tb : Nat → Int} {n t : Nat} (a : qcuts h tb n) (h4 : t ≤ 400) (h0 : ∀ i, i < t → qK tb n i ≠ 0) : h 48 0 t = qK tb n t ∧ h 49 0 t = qPl tb n t ∧ (qK tb n t = 2 → h 50 0 t = qVa tb n t) ∧ (qK tb n t = 1 → h 51 0 t = (qN7 tb n t : Nat)) := by
  obtain ⟨m, a, b⟩ := a
  refine a t ?_
  rcases b with b | ⟨s, b1, b2⟩
  · omega
  · rcases Nat.lt_or_ge t m with c | c
    · exact c
    · exact absurd b2 (h0 s (by omega))
theorem q_jump {P : Nat → Prop} {N : Nat} (step : ∀ p, p ≤ N → (∀ p', p < p' → p' ≤ N → P p') → P p) : ∀ p, p ≤ N → P p := by
  have key : ∀ f p, N - p ≤ f → p ≤ N → P p := by
    intro f
    induction f with
    | zero => intro p h1 h2; exact step p h2 (fun p' h3 h4 => by omega)
    | succ f ih => intro p h1 h2; exact step p h2 (fun p' h3 h4 => ih p' (by omega) h4)
  exact fun p hp => key (N - p) p (Nat.le_refl _) hp
theorem q_v8 {f : Nat → Int} {c : Nat} (h : qlets f c) (h8 : c ≤ 8) : (qv7 f c : Int) < 282429536481 := by
  have a := qv7_bd h
  have b : (27 : Nat) ^ c ≤ 27 ^ 8 := Nat.pow_le_pow_right (by omega) h8
  omega
theorem q_d4 {f : Nat → Int} {c : Nat} (h : qdigs f c) (h4 : c ≤ 4) : 0 ≤ qvD f c ∧ qvD f c < 10000 := by
  have a := qvD_bd h
  have b : (10 : Int) ^ c ≤ 10 ^ 4 := by
    have : (10 : Nat) ^ c ≤ 10 ^ 4 := Nat.pow_le_pow_right (by omega) h4
    exact_mod_cast this
  omega
section MT5
variable {l : Launch} {g : QG} {d : Nat} {h : QM} {Q : Int → QM → Prop} {n : Nat} {tb : Nat → Int}
theorem m_byteAt {i : Nat} {a : Int} (hL : qhL g) (T : qtxt h n tb) (ha : a = i) (k : Q (qby0 tb n i) h) : q_tr l g (d + 1) n_X12_byteAt [qr 12 0, qi a] h Q := by
  subst ha
  refine i_X12_byteAt hL (fun G hG _ _ => b_X12_byteAt_0 hG ?_)
  rw [T.1]
  have := T.2.1
  unfold qby0 at k
  refine ⟨fun q => ?_, fun q => ⟨by omega, ?_⟩⟩
  · rw [if_neg (by omega)] at k; exact k
  · rw [if_pos (by omega)] at k
    rw [T.2.2 i (by omega), q_and255]; exact k
theorem m_isLetter {c : Int} (hL : qhL g) (k : Q (qb (qle c)) h) : q_tr l g (d + 1) n_X12_isLetter [qi c] h Q := by
  unfold qle at k
  exact i_X12_isLetter hL (fun G hG _ _ => b_X12_isLetter_0 hG ⟨fun q => ⟨Or.inl rfl, q_qe k (by rw [decide_eq_false (by omega)]; rfl)⟩, fun q => ⟨fun q2 => ⟨Or.inl rfl, q_qe k (by rw [decide_eq_false (by omega)]; rfl)⟩, fun q2 => ⟨Or.inr rfl, q_qe k (by rw [decide_eq_true (by omega)]; rfl)⟩⟩⟩)
theorem m_isDigit {c : Int} (hL : qhL g) (k : Q (qb (qdi c)) h) : q_tr l g (d + 1) n_X12_isDigit [qi c] h Q := by
  unfold qdi at k
  exact i_X12_isDigit hL (fun G hG _ _ => b_X12_isDigit_0 hG ⟨fun q => ⟨Or.inl rfl, q_qe k (by rw [decide_eq_false (by omega)]; rfl)⟩, fun q => ⟨fun q2 => ⟨Or.inl rfl, q_qe k (by rw [decide_eq_false (by omega)]; rfl)⟩, fun q2 => ⟨Or.inr rfl, q_qe k (by rw [decide_eq_true (by omega)]; rfl)⟩⟩⟩)
theorem m_appends {x c y : Int} (hL : qhL g) (hx : 0 ≤ x ∧ x < 282429536481) (hc : 97 ≤ c ∧ c ≤ 122) (e : y = 27 * x + (c - 96)) (k : Q y h) : q_tr l g (d + 1) n_X12_appends [ql x, qi c] h Q := by
  refine i_X12_appends hL (fun G hG _ _ => b_X12_appends_0 hG ⟨fun q => ⟨by omega, by omega, by omega, by omega, ?_⟩, fun q => by omega⟩)
  rw [show (27 * x) + ((c - 97) + 1) = y by omega]; exact k
theorem m_token {m : Nat} {x1 x2 x3 x4 : Int} (hL : qhL g) (hm : h 12 0 10 = m) (hm4 : m < 403) (k : ∀ h', qmf [1010, 48, 49, 50, 51] h h' → (∀ (r : Nat) (i : Int), r ≠ 12 → i ≠ m → h' r 0 i = h r 0 i) → h' 12 0 10 = (m + 1 : Nat) → h' 48 0 m = x1 → h' 49 0 m = x2 → h' 50 0 m = x3 → h' 51 0 m = x4 → Q 0 h') : q_tr l g (d + 1) n_X12_token [qr 12 0, qi x1, qi x2, qi x3, ql x4] h Q := by
  refine i_X12_token hL (fun G hG _ _ => b_X12_token_0 hG ?_)
  have e1 : (qu h 48 0 (m : Int) x1) 12 0 10 = m := by rw [qu_ne (by omega)]; exact hm
  have e2 : (qu (qu h 48 0 (m : Int) x1) 49 0 (m : Int) x2) 12 0 10 = m := by rw [qu_ne (by omega)]; exact e1
  have e3 : (qu (qu (qu h 48 0 (m : Int) x1) 49 0 (m : Int) x2) 50 0 (m : Int) x3) 12 0 10 = m := by rw [qu_ne (by omega)]; exact e2
  have e4 : (qu (qu (qu (qu h 48 0 (m : Int) x1) 49 0 (m : Int) x2) 50 0 (m : Int) x3) 51 0 (m : Int) x4) 12 0 10 = m := by rw [qu_ne (by omega)]; exact e3
  rw [hm, e1, e2, e3, e4]
  refine ⟨by omega, by omega, by omega, by omega, by omega, k _ (qmf_trans (qmf_trans (qmf_qu rfl) (qmf_qu rfl)) (qmf_trans (qmf_trans (qmf_qu rfl) (qmf_qu rfl)) (qmf_qu rfl))) (fun r i hr hi => ?_) ?_ ?_ ?_ ?_ ?_⟩
  · rw [qu_ne (fun z => hr z.1), qu_ne (fun z => hi z.2.2), qu_ne (fun z => hi z.2.2), qu_ne (fun z => hi z.2.2), qu_ne (fun z => hi z.2.2)]
  · rw [qu_at]; omega
  · rw [qu_ne (by omega), qu_ne (by omega), qu_ne (by omega), qu_ne (by omega), qu_at]
  · rw [qu_ne (by omega), qu_ne (by omega), qu_ne (by omega), qu_at]
  · rw [qu_ne (by omega), qu_ne (by omega), qu_at]
  · rw [qu_ne (by omega), qu_at]
theorem m_cutsText (hL : qhL g) (T : qtxt h n tb) (K : qkeys h) (k : ∀ h', qmf [1010, 48, 49, 50, 51] h h' → qcuts h' tb n → Q 0 h') : q_tr l g (d + 3) n_X12_cutsText [qr 12 0] h Q := by
  have hn2 := T.2.1
  refine i_X12_cutsText hL (fun G hG _ _ => b_X12_cutsText_0 hG ?_)
  have key : ∀ p, p ≤ n → ∀ (m : Nat) (h1 : QM), (m ≤ 401 ∧ qmf [1010, 48, 49, 50, 51] h h1 ∧ h1 12 0 10 = m ∧ qcut h1 tb n m ∧ qTp tb n m ≤ p ∧ ∀ i, qTp tb n m ≤ i → i < p → qbl (qby tb n i) = true) → G 7 [some (qr 12 0), some (qi (p : Int)), none, none, none, none, none, none] [] h1 := by
    refine q_jump (fun p hp ih m h1 hI => b_X12_cutsText_7 hG ?_)
    obtain ⟨m4, F, cm, tk, p1, bl⟩ := hI
    have T1 := qtxt_f T F rfl
    have K1 : qkeys h1 := by
      unfold qkeys
      rw [F 52 0 0 rfl, F 52 0 1 rfl, F 52 0 2 rfl, F 52 0 3 rfl, F 52 0 4 rfl, F 52 0 5 rfl, F 52 0 6 rfl]; exact K
    rw [cm]
    refine ⟨fun q => k h1 F ⟨m, tk, Or.inl (by omega)⟩, fun q => m_byteAt hL T1 rfl ?_⟩
    have hm4 : m ≤ 400 := by omega
    rw [T1.1]
    -- the tokens with one more
    have more : ∀ h2 : QM, (∀ (r : Nat) (i : Int), r ≠ 12 → i ≠ m → h2 r 0 i = h1 r 0 i) → h2 48 0 m = qK tb n m → h2 49 0 m = qPl tb n m → (qK tb n m = 2 → h2 50 0 m = qVa tb n m) → (qK tb n m = 1 → h2 51 0 m = (qN7 tb n m : Nat)) → qcut h2 tb n (m + 1) := fun h2 f a1 a2 a3 a4 t ht => by
      by_cases c : t = m
      · rw [c]; exact ⟨a1, a2, a3, a4⟩
      · have := tk t (by omega)
        rw [f 48 t (by omega) (by omega), f 49 t (by omega) (by omega), f 50 t (by omega) (by omega), f 51 t (by omega) (by omega)]
        exact this
    refine ⟨fun q2 => ?_, fun q2 => ?_⟩
    · have hpn : p < n := by omega
      rw [qby0_in hpn]
      have blank : qbl (qby tb n p) = true → (-2147483648 ≤ (p : Int) + 1 ∧ (p : Int) + 1 ≤ 2147483647) ∧ G 7 [some (qr 12 0), some (qi ((p : Int) + 1)), none, none, none, none, none, none] [] h1 := fun hb => ⟨by omega, ih (p + 1) (by omega) (by omega) m h1 ⟨m4, F, cm, tk, by omega, fun i i1 i2 => by
        by_cases c : i = p
        · rw [c]; exact hb
        · exact bl i i1 (by omega)⟩⟩
      refine ⟨fun q3 => blank (decide_eq_true (by omega)), fun q3 => ⟨fun q4 => blank (decide_eq_true (by omega)), fun q4 => ⟨fun q5 => blank (decide_eq_true (by omega)), fun q5 => ⟨fun q6 => m_isLetter hL ?_, fun q6 => blank (decide_eq_true (by omega))⟩⟩⟩⟩
      have nb : qbl (qby tb n p) = false := decide_eq_false (by omega)
      have hs : qTs tb n (qTp tb n m) = p := qTs_is p1 hp bl nb
      have hpl : qPl tb n m = p := hs
      have next : ∀ (dd : Nat) (a b c e pp : Int), a = qK tb n m → b = p → (qK tb n m = 2 → c = qVa tb n m) → (qK tb n m = 1 → e = (qN7 tb n m : Nat)) → qK tb n m ≠ 0 → pp = (qTp tb n (m + 1) : Nat) → q_tr l g (dd + 1) n_X12_token [qr 12 0, qi a, qi b, qi c, ql e] h1 (fun _ h2 => (-2147483648 ≤ pp ∧ pp ≤ 2147483647) ∧ G 7 [some (qr 12 0), some (qi pp), none, none, none, none, none, none] [] h2) := fun dd a b c e pp ea eb ec ee e0 ep => by
        refine m_token hL cm (by omega) (fun h2 f2 o2 c10 c48 c49 c50 c51 => ?_)
        have hle := qTp_le tb n (m + 1)
        have hgt := (qTn_ok tb (qTp_le tb n m)).2.2.1 e0
        rw [hs] at hgt
        subst ep
        refine ⟨by omega, ih _ hgt hle (m + 1) h2 ⟨by omega, qmf_trans F f2, c10, more h2 o2 (by rw [c48, ea]) (by rw [c49, eb, hpl]) (fun z => by rw [c50, ec z]) (fun z => by rw [c51, ee z]), Nat.le_refl _, fun i i1 i2 => ?_⟩⟩
        have : qTp tb n (m + 1) ≤ i := i1
        have : i < qTp tb n (m + 1) := i2
        omega
      have hpm := qTp_le tb n m
      refine ⟨fun q7 => m_isDigit hL ⟨fun q8 => ?_, fun q8 => ?_⟩, fun q7 => ?_⟩
      · -- a sign, or none
        have c2 : qle (qby tb n p) = false := qb_0.mp q7
        have c3 : qdi (qby tb n p) = false := qb_0.mp q8
        have eK : qK tb n m = if qby tb n p = 59 then 4 else 3 := by
          unfold qK qTk
          rw [hs, if_neg (by omega), c2, if_neg Bool.false_ne_true, c3, if_neg Bool.false_ne_true]
        have eN : qTp tb n (m + 1) = p + 1 := by
          show qTn tb n (qTp tb n m) = _
          unfold qTn
          rw [hs, if_neg (by omega), c2, if_neg Bool.false_ne_true, c3, if_neg Bool.false_ne_true]
        refine ⟨by omega, m_byteAt hL T1 (i := p + 1) (by omega) ?_⟩
        refine i_X12_sign hL (fun G2 hG2 _ _ => b_X12_sign_0 hG2 ⟨fun q9 => ?_, fun q9 => ?_⟩)
        · rw [if_neg q9] at eK
          exact next _ _ _ _ _ _ (by rw [eK]; rfl) rfl (fun z => by omega) (fun z => by omega) (by omega) (by rw [eN]; omega)
        · rw [if_pos q9] at eK
          exact next _ _ _ _ _ _ (by rw [eK]; rfl) rfl (fun z => by omega) (fun z => by omega) (by omega) (by rw [eN]; omega)
      · -- digits
        have c2 : qle (qby tb n p) = false := qb_0.mp q7
        have c3 : qdi (qby tb n p) = true := qb_n0.mp q8
        obtain ⟨l1, l2, l3⟩ := qTd_ok tb hpm
        rw [hs] at l1 l3
        have eK : qK tb n m = if 4 < qTd tb n (qTp tb n m) then 3 else 2 := by
          unfold qK qTk
          rw [hs, if_neg (by omega), c2, if_neg Bool.false_ne_true, c3, if_pos rfl]
        have eN : qTp tb n (m + 1) = p + qTd tb n (qTp tb n m) := by
          show qTn tb n (qTp tb n m) = _
          unfold qTn
          rw [hs, if_neg (by omega), c2, if_neg Bool.false_ne_true, c3, if_pos rfl]
        have eV : qVa tb n m = qvD (qTf tb n (qTp tb n m)) (qTd tb n (qTp tb n m)) := rfl
        have ef : ∀ i, qTf tb n (qTp tb n m) i = qby tb n (p + i) := fun i => by unfold qTf; rw [hs]
        generalize qTd tb n (qTp tb n m) = L at *
        generalize qTf tb n (qTp tb n m) = f at *
        have digs : ∀ c, c ≤ L → G 208 [some (qr 12 0), some (qi (p : Int)), none, some (qi (c : Int)), some (qi (qvD f (min c 4))), none, none, none] [] h1 := by
          refine q_up (fun c hc ih2 => b_X12_cutsText_208 hG ⟨by omega, m_byteAt hL T1 (i := p + c) (by omega) (m_isDigit hL ?_)⟩)
          rw [qdi_0]
          refine ⟨fun z => ?_, fun z => ?_⟩
          · have ec : c = L := by
              rcases Nat.lt_or_ge c L with y | y
              · have := l2 c y
                rw [ef] at this
                have e : qdi (qby tb n (p + c)) = true := decide_eq_true this
                rw [e] at z; cases z
              · omega
            subst ec
            refine ⟨fun z2 => ?_, fun z2 => ?_⟩
            · rw [if_neg (by omega)] at eK
              exact next _ _ _ _ _ _ (by rw [eK]; rfl) rfl (fun _ => by rw [eV, Nat.min_eq_left (by omega)]) (fun z => by omega) (by omega) (by rw [eN]; omega)
            · rw [if_pos (by omega)] at eK
              exact next _ _ _ _ _ _ (by rw [eK]; rfl) rfl (fun z => by omega) (fun z => by omega) (by omega) (by rw [eN]; omega)
          · have hlt : c < L := by
              rcases Nat.lt_or_ge c L with y | y
              · exact y
              · rw [show c = L by omega, l3] at z; exact absurd rfl z
            have hd := l2 c hlt
            rw [ef] at hd
            refine ⟨fun z2 => b_X12_cutsText_244 hG ⟨by omega, ?_⟩, fun z2 => ?_⟩
            · have := ih2 hlt
              rw [Nat.min_eq_right (show 4 ≤ c + 1 by omega)] at this
              rw [Nat.min_eq_right (show 4 ≤ c by omega)]; exact this
            · have hv := q_d4 (f := f) (c := c) (fun i hi => l2 i (by omega)) (by omega)
              rw [Nat.min_eq_left (show c ≤ 4 by omega)]
              refine ⟨by omega, by omega, m_byteAt hL T1 (i := p + c) (by omega) ?_⟩
              rw [qby0_in (by omega)]
              refine ⟨by omega, by omega, b_X12_cutsText_244 hG ⟨by omega, ?_⟩⟩
              have := ih2 hlt
              rw [Nat.min_eq_left (show c + 1 ≤ 4 by omega)] at this
              have e : ((10 * qvD f c) + qby tb n (p + c)) - 48 = qvD f (c + 1) := by
                show _ = 10 * qvD f c + f c - 48
                rw [ef]
              rw [e]; exact this
        exact digs 0 (Nat.zero_le _)
      · -- letters
        have c2 : qle (qby tb n p) = true := qb_n0.mp q7
        obtain ⟨l1, l2, l3⟩ := qTl_ok tb hpm
        rw [hs] at l1 l3
        have eK : qK tb n m = if 8 < qTl tb n (qTp tb n m) then 3 else if qwd (qvU (qTf tb n (qTp tb n m)) (qTl tb n (qTp tb n m))) = 0 then 1 else 19 + qwd (qvU (qTf tb n (qTp tb n m)) (qTl tb n (qTp tb n m))) := by
          unfold qK qTk
          rw [hs, if_neg (by omega), c2, if_pos rfl]
        rw [qwd_eq l2] at eK
        have eN : qTp tb n (m + 1) = p + qTl tb n (qTp tb n m) := by
          show qTn tb n (qTp tb n m) = _
          unfold qTn
          rw [hs, if_neg (by omega), c2, if_pos rfl]
        have eV : qN7 tb n m = qv7 (qTf tb n (qTp tb n m)) (qTl tb n (qTp tb n m)) := rfl
        have ef : ∀ i, qTf tb n (qTp tb n m) i = qby tb n (p + i) := fun i => by unfold qTf; rw [hs]
        generalize qTl tb n (qTp tb n m) = L at *
        generalize qTf tb n (qTp tb n m) = f at *
        -- is it a word
        have keys : ∀ u : Nat, u = qv7 f L → L ≤ 8 → ∀ j, j ≤ 7 → ∀ kd : Int, kd = (if 1 ≤ qwd7 u ∧ qwd7 u ≤ j then 19 + (qwd7 u : Int) else 1) → G 146 [some (qr 12 0), some (qi (p : Int)), none, some (qi (L : Int)), some (ql (u : Int)), none, some (qi kd), some (qi (j : Int))] [] h1 := fun u hu h8 => by
          have h7 := qwd7_7 u
          refine q_up (fun j hj ih2 kd hk => b_X12_cutsText_146 hG ⟨fun z => ?_, fun z => ⟨by omega, ?_⟩⟩)
          · rw [if_neg (by omega), ← hu] at eK
            refine next _ _ _ _ _ _ ?_ rfl (fun y => ?_) (fun y => by rw [hu, eV]) ?_ (by rw [eN]; omega)
            · rw [hk, eK]
              by_cases c : qwd7 u = 0
              · rw [if_pos c, if_neg (by omega)]; rfl
              · rw [if_neg c, if_pos (by omega)]; omega
            · exfalso
              revert y
              rw [eK]
              split <;> omega
            · rw [eK]
              split <;> omega
          · rw [q_lc0, qkey_is K1 (by omega)]
            refine ⟨fun z2 => b_X12_cutsText_173 hG ⟨by omega, ih2 (by omega) _ ?_⟩, fun z2 => ⟨by omega, b_X12_cutsText_173 hG ⟨by omega, ih2 (by omega) _ ?_⟩⟩⟩
            · rw [hk]
              by_cases c : 1 ≤ qwd7 u ∧ qwd7 u ≤ j
              · rw [if_pos c, if_pos (by omega)]
              · rw [if_neg c, if_neg (by omega)]
            · rw [if_pos (by omega)]; omega
        have lets : ∀ c, c ≤ L → G 85 [some (qr 12 0), some (qi (p : Int)), none, some (qi (c : Int)), some (ql ((qv7 f (min c 8) : Nat) : Int)), none, none, none] [] h1 := by
          refine q_up (fun c hc ih2 => b_X12_cutsText_85 hG ⟨by omega, m_byteAt hL T1 (i := p + c) (by omega) (m_isLetter hL ?_)⟩)
          rw [qle_0]
          refine ⟨fun z => ?_, fun z => ?_⟩
          · have ec : c = L := by
              rcases Nat.lt_or_ge c L with y | y
              · have := l2 c y
                rw [ef] at this
                have e : qle (qby tb n (p + c)) = true := decide_eq_true this
                rw [e] at z; cases z
              · omega
            subst ec
            refine ⟨fun z2 => ⟨fun z3 => by omega, fun z3 => ?_⟩, fun z2 => ⟨fun z3 => ?_, fun z3 => by omega⟩⟩
            · rw [Nat.min_eq_left (show c ≤ 8 by omega)]
              exact keys _ rfl (by omega) 0 (by omega) 1 (by rw [if_neg (by omega)])
            · rw [if_pos (by omega)] at eK
              exact next _ _ _ _ _ _ (by rw [eK]; rfl) rfl (fun z => by omega) (fun z => by omega) (by omega) (by rw [eN]; omega)
          · have hlt : c < L := by
              rcases Nat.lt_or_ge c L with y | y
              · exact y
              · rw [show c = L by omega, l3] at z; exact absurd rfl z
            have hd := l2 c hlt
            rw [ef] at hd
            refine ⟨fun z2 => ⟨by omega, ?_⟩, fun z2 => ?_⟩
            · have := ih2 hlt
              rw [Nat.min_eq_right (show 8 ≤ c + 1 by omega)] at this
              rw [Nat.min_eq_right (show 8 ≤ c by omega)]; exact this
            · have hv := q_v8 (f := f) (c := c) (fun i hi => l2 i (by omega)) (by omega)
              rw [Nat.min_eq_left (show c ≤ 8 by omega)]
              refine ⟨by omega, m_byteAt hL T1 (i := p + c) (by omega) ?_⟩
              rw [qby0_in (by omega)]
              refine m_appends hL ⟨by omega, hv⟩ hd (y := ((qv7 f (c + 1) : Nat) : Int)) ?_ ⟨by omega, ?_⟩
              · show ((27 * qv7 f c + (f c - 96).toNat : Nat) : Int) = _
                rw [ef]; omega
              · have := ih2 hlt
                rw [Nat.min_eq_left (show c + 1 ≤ 8 by omega)] at this
                exact this
        exact lets 0 (Nat.zero_le _)
    · -- the end
      have epn : p = n := by omega
      subst epn
      have hs : qTs tb p (qTp tb p m) = p := qTs_is p1 hp bl (qbl_o (by rw [qby_out (Nat.le_refl _)]; decide))
      have eK : qK tb p m = 0 := by unfold qK qTk; rw [hs, if_pos (Nat.le_refl _)]
      refine m_token hL cm (by omega) (fun h2 f2 o2 c10 c48 c49 c50 c51 => k h2 (qmf_trans F f2) ⟨m + 1, more h2 o2 ?_ ?_ (fun z => by omega) (fun z => by omega), Or.inr ⟨m, by omega, eK⟩⟩)
      · rw [c48, eK]; rfl
      · rw [c49]; unfold qPl; rw [hs]
  exact key 0 (Nat.zero_le _) 0 _ ⟨by omega, qmf_qu rfl, by rw [qu_at]; rfl, fun t ht => absurd ht (Nat.not_lt_zero _), Nat.zero_le _, fun i i1 i2 => by omega⟩
end MT5
