/-! the model's lines -/
def qmust (K : Nat → Nat) (x : Nat) (s : Nat × Nat) : Nat × Nat := if s.1 = 0 then (if K s.2 = x then (0, s.2 + 1) else (1, s.2)) else s
theorem qmust_n {K : Nat → Nat} {x f t : Nat} (h : f ≠ 0) : qmust K x (f, t) = (f, t) := by unfold qmust; rw [if_neg h]
theorem qmust_1 {K : Nat → Nat} {x t : Nat} (h : K t = x) : qmust K x (0, t) = (0, t + 1) := by unfold qmust; rw [if_pos rfl, if_pos h]
theorem qmust_0 {K : Nat → Nat} {x t : Nat} (h : K t ≠ x) : qmust K x (0, t) = (1, t) := by unfold qmust; rw [if_pos rfl, if_neg h]
theorem qrn_t {P : Nat → Bool} {f p : Nat} (h : P p = true) : qrn P (f + 1) p = qrn P f (p + 1) := by unfold qrn; rw [h, if_pos rfl]; cases f <;> rfl
theorem qrn_f {P : Nat → Bool} {f p : Nat} (h : P p = false) : qrn P (f + 1) p = p := by unfold qrn; rw [h, if_neg Bool.false_ne_true]
theorem qmust_b (K : Nat → Nat) (x t : Nat) : qmust K x (1, t) = (1, t) := rfl
theorem qrk_t {K : Nat → Nat} {a x f p : Nat} (h : K (a + p) = x) : qrn (fun i => K (a + i) == x) (f + 1) p = qrn (fun i => K (a + i) == x) f (p + 1) := qrn_t (P := fun i => K (a + i) == x) (beq_iff_eq.mpr h)
theorem qrk_f {K : Nat → Nat} {a x f p : Nat} (h : K (a + p) ≠ x) : qrn (fun i => K (a + i) == x) (f + 1) p = p := qrn_f (P := fun i => K (a + i) == x) (beq_eq_false_iff_ne.mpr h)
theorem qrk_0 {K : Nat → Nat} {a x p : Nat} : qrn (fun i => K (a + i) == x) 0 p = p := rfl
/-- a word of so many names, and INTS at least and at most -/
theorem qline_u {K : Nat → Nat} {t D mi mx : Nat} (h : 20 < K t) (d : qdue (K t - 20) = D) (e1 : qimin (K t - 20) = mi) (e2 : qimax (K t - 20) = mx) : qline K t = if qrn (fun i => K (t + 1 + i) == 1) D 0 < D then (1, t + 1 + qrn (fun i => K (t + 1 + i) == 1) D 0) else if qrn (fun i => K (t + 1 + D + i) == 2) mx 0 < mi ∨ K (t + 1 + D + qrn (fun i => K (t + 1 + D + i) == 2) mx 0) ≠ 4 then (1, t + 1 + D + qrn (fun i => K (t + 1 + D + i) == 2) mx 0) else (0, t + 1 + D + qrn (fun i => K (t + 1 + D + i) == 2) mx 0 + 1) := by
  unfold qline qni qna qu0
  rw [if_neg (by omega), d, e1, e2]
  by_cases c : qrn (fun i => K (t + 1 + i) == 1) D 0 < D
  · rw [if_pos c, if_pos c]
  · rw [if_neg c, if_neg c, if_neg (by omega)]
theorem qline_3 {K : Nat → Nat} {t : Nat} (h : K t = 21 ∨ K t = 22) : qline K t = qmust K 4 (qmust K 1 (qmust K 1 (qmust K 1 (0, t + 1)))) := by
  rw [qline_u (D := 3) (mi := 0) (mx := 0) (by omega) (by unfold qdue; rw [if_neg (by omega), if_pos (by omega)]) (by unfold qimin; rw [if_neg (by omega)]) (by unfold qimax; rw [if_neg (by omega), if_neg (by omega)])]
  by_cases c0 : K (t + 1) = 1
  · rw [qmust_1 c0, qrk_t (p := 0) c0]
    by_cases c1 : K (t + 1 + 1) = 1
    · rw [qmust_1 c1, qrk_t (p := 1) c1]
      by_cases c2 : K (t + 1 + 1 + 1) = 1
      · rw [qmust_1 c2, qrk_t (p := 2) c2]
        rw [qrk_0, if_neg (Nat.lt_irrefl _)]
        rw [qrk_0]
        by_cases ce : K (t + 1 + 1 + 1 + 1) = 4
        · rw [qmust_1 ce, if_neg (fun z => z.elim (fun z => absurd z (by decide)) (fun z => z ce))]
        · rw [qmust_0 ce, if_pos (Or.inr ce)]
      · rw [qmust_0 c2, qrk_f (p := 2) c2, if_pos (by decide)]; rfl
    · rw [qmust_0 c1, qrk_f (p := 1) c1, if_pos (by decide)]; rfl
  · rw [qmust_0 c0, qrk_f (p := 0) c0, if_pos (by decide)]; rfl
theorem qline_a {K : Nat → Nat} {t : Nat} (h : K t = 23) : qline K t = qmust K 4 (qmust K 1 (qmust K 1 (0, t + 1))) := by
  rw [qline_u (D := 2) (mi := 0) (mx := 0) (by omega) (by unfold qdue; rw [if_neg (by omega), if_neg (by omega)]) (by unfold qimin; rw [if_neg (by omega)]) (by unfold qimax; rw [if_neg (by omega), if_neg (by omega)])]
  by_cases c0 : K (t + 1) = 1
  · rw [qmust_1 c0, qrk_t (p := 0) c0]
    by_cases c1 : K (t + 1 + 1) = 1
    · rw [qmust_1 c1, qrk_t (p := 1) c1]
      rw [qrk_0, if_neg (Nat.lt_irrefl _)]
      rw [qrk_0]
      by_cases ce : K (t + 1 + 1 + 1) = 4
      · rw [qmust_1 ce, if_neg (fun z => z.elim (fun z => absurd z (by decide)) (fun z => z ce))]
      · rw [qmust_0 ce, if_pos (Or.inr ce)]
    · rw [qmust_0 c1, qrk_f (p := 1) c1, if_pos (by decide)]; rfl
  · rw [qmust_0 c0, qrk_f (p := 0) c0, if_pos (by decide)]; rfl
theorem qline_p {K : Nat → Nat} {t : Nat} (h : 24 ≤ K t) : qline K t = qmust K 4 (qmust K 2 (qmust K 1 (qmust K 1 (0, t + 1)))) := by
  rw [qline_u (D := 2) (mi := 1) (mx := 1) (by omega) (by unfold qdue; rw [if_neg (by omega), if_neg (by omega)]) (by unfold qimin; rw [if_pos (by omega)]) (by unfold qimax; rw [if_neg (by omega), if_pos (by omega)])]
  by_cases c0 : K (t + 1) = 1
  · rw [qmust_1 c0, qrk_t (p := 0) c0]
    by_cases c1 : K (t + 1 + 1) = 1
    · rw [qmust_1 c1, qrk_t (p := 1) c1]
      rw [qrk_0, if_neg (Nat.lt_irrefl _)]
      by_cases ci : K (t + 1 + 1 + 1) = 2
      · rw [qmust_1 ci, qrk_t (p := 0) ci, qrk_0]
        by_cases ce : K (t + 1 + 1 + 1 + 1) = 4
        · rw [qmust_1 ce, if_neg (fun z => z.elim (fun z => absurd z (by decide)) (fun z => z ce))]
        · rw [qmust_0 ce, if_pos (Or.inr ce)]
      · rw [qmust_0 ci, qrk_f (p := 0) ci, if_pos (Or.inl (by decide))]; rfl
    · rw [qmust_0 c1, qrk_f (p := 1) c1, if_pos (by decide)]; rfl
  · rw [qmust_0 c0, qrk_f (p := 0) c0, if_pos (by decide)]; rfl
/-- the model's reader stands there: a token, or a fault there -/
def qps (h : QM) (tb : Nat → Int) (n : Nat) (s : Nat × Nat) : Prop := h 12 0 12 = s.1 ∧ (s.1 = 0 → h 12 0 11 = s.2 ∧ ∀ i, i < s.2 → qK tb n i ≠ 0) ∧ (s.1 ≠ 0 → h 12 0 13 = qPl tb n s.2)
theorem qcuts_f {h h' : QM} {rs : List Nat} {n : Nat} {tb : Nat → Int} (C : qcuts h tb n) (f : qmf rs h h') (e : (rs.contains 48 || rs.contains 49 || rs.contains 50 || rs.contains 51) = false) : qcuts h' tb n := by
  rw [Bool.or_eq_false_iff, Bool.or_eq_false_iff, Bool.or_eq_false_iff] at e
  obtain ⟨m, a, b⟩ := C
  refine ⟨m, fun t ht => ?_, b⟩
  rw [f 48 0 t e.1.1.1, f 49 0 t e.1.1.2, f 50 0 t e.1.2, f 51 0 t e.2]
  exact a t ht
section MT6
variable {l : Launch} {g : QG} {d : Nat} {h : QM} {Q : Int → QM → Prop} {n : Nat} {tb : Nat → Int}
theorem m_isT0 {x : Int} (hL : qhL g) (hf : h 12 0 12 ≠ 0) (k : Q 0 h) : q_tr l g (d + 1) n_X12_is [qr 12 0, qi x] h Q :=
  i_X12_is hL (fun G hG _ _ => b_X12_is_0 hG ⟨fun _ => ⟨Or.inl rfl, k⟩, fun q => absurd q hf⟩)
theorem m_isT {x : Int} {t : Nat} (hL : qhL g) (C : qcuts h tb n) (S : qps h tb n (0, t)) (ht : t ≤ 400) (k0 : (qK tb n t : Int) ≠ x → Q 0 h) (k1 : (qK tb n t : Int) = x → Q 1 h) : q_tr l g (d + 1) n_X12_is [qr 12 0, qi x] h Q := by
  obtain ⟨s1, s2, -⟩ := S
  obtain ⟨s2, s3⟩ := s2 rfl
  have a := qcuts_at C ht s3
  refine i_X12_is hL (fun G hG _ _ => b_X12_is_0 hG ?_)
  have s1 : h 12 0 12 = 0 := s1
  have s2 : h 12 0 11 = t := s2
  rw [s1, s2, a.1]
  exact ⟨fun q => absurd rfl q, fun _ => ⟨by omega, fun q => ⟨Or.inl rfl, k0 q⟩, fun q => ⟨Or.inr rfl, k1 q⟩⟩⟩
theorem m_fail0 {x : Int} (hL : qhL g) (hf : 0 < h 12 0 12) (k : Q 0 h) : q_tr l g (d + 1) n_X12_fail [qr 12 0, qi x] h Q :=
  i_X12_fail hL (fun G hG _ _ => b_X12_fail_0 hG ⟨fun q => by omega, fun _ => k⟩)
theorem m_fail {f t : Nat} {x : Int} (hL : qhL g) (C : qcuts h tb n) (S : qps h tb n (0, t)) (ht : t ≤ 400) (hx : x = f) (hf : f ≠ 0) (k : ∀ h', qmf [1012, 1013] h h' → qps h' tb n (f, t) → Q 0 h') : q_tr l g (d + 1) n_X12_fail [qr 12 0, qi x] h Q := by
  obtain ⟨s1, s2, -⟩ := S
  obtain ⟨s2, s3⟩ := s2 rfl
  have a := qcuts_at C ht s3
  refine i_X12_fail hL (fun G hG _ _ => b_X12_fail_0 hG ?_)
  have s1 : h 12 0 12 = 0 := s1
  have s2 : h 12 0 11 = t := s2
  have e1 : (qu h 12 0 12 x) 12 0 11 = t := by rw [qu_ne (by omega)]; exact s2
  have e2 : (qu h 12 0 12 x) 49 0 t = qPl tb n t := by rw [qu_ne (by omega)]; exact a.2.1
  rw [s1, e1, e2]
  refine ⟨fun _ => ⟨by omega, k _ (qmf_trans (qmf_qu rfl) (qmf_qu rfl)) ⟨?_, fun q => absurd q hf, fun _ => ?_⟩⟩, fun q => by omega⟩
  · rw [qu_ne (by omega), qu_at]; exact hx
  · rw [qu_at]
theorem m_passes {t : Nat} (hL : qhL g) (S : qps h tb n (0, t)) (ht : t < 400) (h0 : qK tb n t ≠ 0) (k : ∀ h', qmf [1011] h h' → qps h' tb n (0, t + 1) → Q 0 h') : q_tr l g (d + 2) n_X12_passes [qr 12 0] h Q := by
  obtain ⟨s1, s2, -⟩ := S
  obtain ⟨s2, s3⟩ := s2 rfl
  refine i_X12_passes hL (fun G hG _ _ => b_X12_passes_0 hG ?_)
  have s2 : h 12 0 11 = t := s2
  rw [s2]
  refine ⟨fun _ => ⟨by omega, k _ (qmf_qu rfl) ⟨?_, fun _ => ⟨?_, fun i hi => ?_⟩, fun q => absurd rfl q⟩⟩, fun q => by omega⟩
  · rw [qu_ne (by omega)]; exact s1
  · rw [qu_at]; rfl
  · by_cases c : i = t
    · rw [c]; exact h0
    · exact s3 i (by have : i < t + 1 := hi; omega)
theorem m_must {x : Nat} {s : Nat × Nat} {y : Int} (hL : qhL g) (C : qcuts h tb n) (S : qps h tb n s) (hx : x ≠ 0) (hy : y = x) (hs : s.2 < 400) (k : ∀ h', qmf [1011, 1012, 1013] h h' → qps h' tb n (qmust (qK tb n) x s) → Q 0 h') : q_tr l g (d + 3) n_X12_must [qr 12 0, qi y] h Q := by
  subst hy
  obtain ⟨f, t⟩ := s
  refine i_X12_must hL (fun G hG _ _ => b_X12_must_0 hG ?_)
  have hs : t < 400 := hs
  by_cases hf : f = 0
  · subst hf
    refine m_isT hL C S (by omega) (fun q => ⟨fun _ => ?_, fun q2 => absurd rfl q2⟩) (fun q => ⟨fun q2 => absurd q2 (by decide), fun _ => ?_⟩)
    · refine m_fail (f := 1) hL C S (by omega) rfl (by omega) (fun h' f' S' => k h' (qmf_mono f' rfl) ?_)
      rw [qmust_0 (by omega)]; exact S'
    · refine m_passes hL S hs (by omega) (fun h' f' S' => k h' (qmf_mono f' rfl) ?_)
      rw [qmust_1 (by omega)]; exact S'
  · have s1 : h 12 0 12 = f := S.1
    refine m_isT0 hL (by omega) ⟨fun _ => m_fail0 hL (by omega) (k h (qmf_refl _ _) ?_), fun q => absurd rfl q⟩
    rw [qmust_n hf]; exact S
theorem qmust_le {K : Nat → Nat} {x : Nat} {s : Nat × Nat} {N : Nat} (h : s.2 ≤ N) : (qmust K x s).2 ≤ N + 1 := by
  unfold qmust
  split
  · split
    · show s.2 + 1 ≤ _; omega
    · show s.2 ≤ _; omega
  · omega
theorem m_line {t c : Nat} (hL : qhL g) (C : qcuts h tb n) (S : qps h tb n (0, t)) (ht : t ≤ 300) (hc : h 12 0 18 = c) (hc6 : c ≤ 6) (k : ∀ h', qmf [1011, 1012, 1013, 1018] h h' → (c = 6 → qps h' tb n (if 20 ≤ qK tb n t then 2 else 1, t)) → (c < 6 → qps h' tb n (qline (qK tb n) t) ∧ ((qline (qK tb n) t).1 = 0 → h' 12 0 18 = (c + 1 : Nat))) → Q 0 h') : q_tr l g (d + 4) n_X12_line [qr 12 0] h Q := by
  have s2 : h 12 0 11 = t := (S.2.1 rfl).1
  have hK := qK_le tb n t
  have a := qcuts_at C (show t ≤ 400 by omega) (S.2.1 rfl).2
  refine i_X12_line hL (fun G hG _ _ => b_X12_line_0 hG ?_)
  rw [s2, a.1]
  have one : qK tb n t < 20 → G 22 [some (qr 12 0), none, none] [] h := fun q => b_X12_line_22 hG (m_fail (f := 1) hL C S (by omega) rfl (by omega) (fun h' f' S' => k h' (qmf_mono f' rfl) (fun _ => by rw [if_neg (by omega)]; exact S') (fun _ => by
    have e : qline (qK tb n) t = (1, t) := by unfold qline; rw [if_pos q]
    rw [e]; exact ⟨S', fun q => absurd (show (1 : Nat) = 0 from q) (by decide)⟩)))
  refine ⟨by omega, fun q => one (by omega), fun q => ⟨fun q2 => ⟨fun q3 => ?_, fun q3 => ?_⟩, fun q2 => one (by omega)⟩⟩
  · -- a line begins
    rw [hc] at q3 ⊢
    have S0 : qps (qu h 12 0 18 ((c : Int) + 1)) tb n (0, t) := by
      obtain ⟨x1, x2, x3⟩ := S
      refine ⟨?_, fun z => ?_, fun z => absurd rfl z⟩
      · rw [qu_ne (by omega)]; exact x1
      · rw [qu_ne (by omega)]; exact x2 z
    have hc18 : (qu h 12 0 18 ((c : Int) + 1)) 12 0 18 = (c + 1 : Nat) := by rw [qu_at]; rfl
    have F0 : qmf [1011, 1012, 1013, 1018] h (qu h 12 0 18 ((c : Int) + 1)) := qmf_qu rfl
    have C0 : qcuts (qu h 12 0 18 ((c : Int) + 1)) tb n := qcuts_f C F0 rfl
    generalize qu h 12 0 18 ((c : Int) + 1) = h0 at *
    refine ⟨by omega, m_passes hL S0 (by omega) (by omega) (fun h1 f1 S1 => ?_)⟩
    have F1 := qmf_mono f1 (rs' := [1011, 1012, 1013]) rfl
    -- the end
    have fin : ∀ h2, qmf [1011, 1012, 1013] h0 h2 → qps h2 tb n (qline (qK tb n) t) → Q 0 h2 := fun h2 f2 S2 => k h2 (qmf_trans F0 (qmf_mono f2 rfl)) (fun z => by omega) (fun _ => ⟨S2, fun _ => by rw [f2 12 0 18 rfl]; exact hc18⟩)
    have tail : ∀ (h2 : QM) (s : Nat × Nat), qmf [1011, 1012, 1013] h0 h2 → qps h2 tb n s → s.2 < 390 → (qK tb n t < 24 → qline (qK tb n) t = qmust (qK tb n) 4 s) → (¬ qK tb n t < 24 → qline (qK tb n) t = qmust (qK tb n) 4 (qmust (qK tb n) 2 s)) → (((qK tb n t : Int) < 24 → q_tr l g (d + 3) n_X12_must [qr 12 0, qi 4] h2 (fun _ h5 => Q 0 h5)) ∧ (¬ (qK tb n t : Int) < 24 → q_tr l g (d + 3) n_X12_must [qr 12 0, qi 2] h2 (fun _ h6 => q_tr l g (d + 3) n_X12_must [qr 12 0, qi 4] h6 (fun _ h7 => Q 0 h7)))) := fun h2 s f2 S2 hs e1 e2 => ⟨fun z => m_must (x := 4) hL (qcuts_f C0 f2 rfl) S2 (by omega) rfl (by omega) (fun h3 f3 S3 => fin h3 (qmf_trans f2 f3) (by rw [e1 (by omega)]; exact S3)), fun z => m_must (x := 2) hL (qcuts_f C0 f2 rfl) S2 (by omega) rfl (by omega) (fun h3 f3 S3 => m_must (x := 4) hL (qcuts_f C0 (qmf_trans f2 f3) rfl) S3 (by omega) rfl (by have := qmust_le (K := qK tb n) (x := 2) (Nat.le_of_lt hs); omega) (fun h4 f4 S4 => fin h4 (qmf_trans f2 (qmf_trans f3 f4)) (by rw [e2 (by omega)]; exact S4)))⟩
    refine m_must (x := 1) hL (qcuts_f C0 F1 rfl) S1 (by omega) rfl (by show t + 1 < 400; omega) (fun h2 f2 S2 => ?_)
    have F2 := qmf_trans F1 f2
    have l2 : (qmust (qK tb n) 1 (0, t + 1)).2 ≤ t + 2 := qmust_le (Nat.le_refl _)
    refine ⟨fun q4 => m_must (x := 1) hL (qcuts_f C0 F2 rfl) S2 (by omega) rfl (by omega) (fun h3 f3 S3 => ?_), fun q4 => ?_⟩
    · have F3 := qmf_trans F2 f3
      have l3 : (qmust (qK tb n) 1 (qmust (qK tb n) 1 (0, t + 1))).2 ≤ t + 3 := qmust_le l2
      refine ⟨fun q5 => m_must (x := 1) hL (qcuts_f C0 F3 rfl) S3 (by omega) rfl (by omega) (fun h4 f4 S4 => ?_), fun q5 => ⟨fun q6 => ?_, fun q6 => m_must (x := 1) hL (qcuts_f C0 F3 rfl) S3 (by omega) rfl (by omega) (fun h4 f4 S4 => ?_)⟩⟩
      · have l4 : (qmust (qK tb n) 1 (qmust (qK tb n) 1 (qmust (qK tb n) 1 (0, t + 1)))).2 ≤ t + 4 := qmust_le l3
        exact tail h4 _ (qmf_trans F3 f4) S4 (by omega) (fun _ => qline_3 (by omega)) (fun z => by omega)
      · exact tail h3 _ F3 S3 (by omega) (fun z => qline_a (by omega)) (fun z => qline_p (by omega))
      · have l4 : (qmust (qK tb n) 1 (qmust (qK tb n) 1 (qmust (qK tb n) 1 (0, t + 1)))).2 ≤ t + 4 := qmust_le l3
        exact tail h4 _ (qmf_trans F3 f4) S4 (by omega) (fun _ => qline_3 (by omega)) (fun z => by omega)
    · -- of
      have q4 : qK tb n t = 20 := by omega
      refine m_must (x := 2) hL (qcuts_f C0 F2 rfl) S2 (by omega) rfl (by omega) (fun h3 f3 S3 => ?_)
      have F3 := qmf_trans F2 f3
      have e20 : qK tb n t - 20 = 0 := by omega
      have eU : qu0 (qK tb n) t = t + 1 + 1 := by unfold qu0; rw [e20]; rfl
      have bad : ∀ (x2 : Int) (h4 : QM) (s : Nat × Nat), qmf [1011, 1012, 1013] h0 h4 → qps h4 tb n s → s.1 ≠ 0 → s.2 < 400 → qline (qK tb n) t = s → G 75 [some (qr 12 0), none, some (qi x2)] [] h4 := fun x2 h4 s f4 S4 e1 e2 e3 => b_X12_line_75 hG (m_isT0 hL (by rw [S4.1]; omega) ⟨fun _ => m_must (x := 4) hL (qcuts_f C0 f4 rfl) S4 (by omega) rfl e2 (fun h5 f5 S5 => fin h5 (qmf_trans f4 f5) (by rw [e3]; obtain ⟨sf, st⟩ := s; rw [qmust_n e1] at S5; exact S5)), fun z => absurd rfl z⟩)
      obtain ⟨b1, b2, b3⟩ := qni_ok (qK tb n) t
      rw [e20] at b1 b3
      have eln : qline (qK tb n) t = if qna (qK tb n) t < 1 then (1, t + 1 + qna (qK tb n) t) else if qK tb n (qu0 (qK tb n) t + qni (qK tb n) t) = 2 then (2, qu0 (qK tb n) t + qni (qK tb n) t) else if qni (qK tb n) t < 1 ∨ qK tb n (qu0 (qK tb n) t + qni (qK tb n) t) ≠ 4 then (1, qu0 (qK tb n) t + qni (qK tb n) t) else (0, qu0 (qK tb n) t + qni (qK tb n) t + 1) := by
        unfold qline
        rw [if_neg (by omega), e20]
        show (if _ then _ else if 0 = 0 ∧ _ then _ else _) = _
        simp only [true_and]
        rfl
      obtain ⟨a1, a2, a3⟩ := qna_ok (qK tb n) t
      rw [e20] at a1 a3
      have a1 : qna (qK tb n) t ≤ 1 := a1
      have a3 : qna (qK tb n) t < 1 → qK tb n (t + 1 + qna (qK tb n) t) ≠ 1 := a3
      have b1 : qni (qK tb n) t ≤ 10 := b1
      have b3 : qni (qK tb n) t < 10 → qK tb n (qu0 (qK tb n) t + qni (qK tb n) t) ≠ 2 := b3
      generalize qna (qK tb n) t = A at *
      generalize qni (qK tb n) t = B at *
      generalize qu0 (qK tb n) t = U at *
      subst eU
      by_cases c1 : qK tb n (t + 1) = 1
      · have eA : A = 1 := by
          rcases Nat.lt_or_ge A 1 with z | z
          · exact absurd (by rw [show t + 1 + A = t + 1 by omega]; exact c1) (a3 z)
          · omega
        rw [if_neg (by omega)] at eln
        rw [qmust_1 c1] at S3
        by_cases c2 : qK tb n (t + 1 + 1) = 2
        · rw [qmust_1 c2] at S3
          have hB : 1 ≤ B := by
            rcases Nat.lt_or_ge B 1 with z | z
            · exact absurd (by rw [show t + 1 + 1 + B = t + 1 + 1 by omega]; exact c2) (b3 (by omega))
            · exact z
          have loop : ∀ c, c ≤ B → 1 ≤ c → ∀ h4, (qmf [1011, 1012, 1013] h0 h4 ∧ qps h4 tb n (0, t + 1 + 1 + c)) → G 75 [some (qr 12 0), none, some (qi (c : Int))] [] h4 := by
            refine q_up (fun c hcB ih hc1 h4 hI => b_X12_line_75 hG ?_)
            obtain ⟨f4, S4⟩ := hI
            have C4 := qcuts_f C0 f4 rfl
            refine m_isT hL C4 S4 (by omega) (fun z => ⟨fun _ => ?_, fun z2 => absurd rfl z2⟩) (fun z => ⟨fun z2 => absurd z2 (by decide), fun _ => ⟨fun z3 => ?_, fun z3 => ?_⟩⟩)
            · have ec : c = B := by
                rcases Nat.lt_or_ge c B with y | y
                · have := b2 c y
                  omega
                · omega
              subst ec
              rw [if_neg (by omega)] at eln
              refine m_must (x := 4) hL C4 S4 (by omega) rfl (by show t + 1 + 1 + c < 400; omega) (fun h5 f5 S5 => fin h5 (qmf_trans f4 f5) ?_)
              by_cases c4 : qK tb n (t + 1 + 1 + c) = 4
              · rw [if_neg (fun y => y.elim (fun y => by omega) (fun y => y c4))] at eln
                rw [qmust_1 c4] at S5
                rw [eln]; exact S5
              · rw [if_pos (Or.inr c4)] at eln
                rw [qmust_0 c4] at S5
                rw [eln]; exact S5
            · have hlt : c < B := by
                rcases Nat.lt_or_ge c B with y | y
                · exact y
                · have : c = B := by omega
                  subst this
                  exact absurd (by omega) (b3 (by omega))
              refine m_passes hL S4 (by omega) (by omega) (fun h5 f5 S5 => ⟨by omega, ih hlt (by omega) h5 ⟨qmf_trans f4 (qmf_mono f5 rfl), S5⟩⟩)
            · have e10 : c = 10 := by omega
              have eB : B = 10 := by omega
              subst e10
              subst eB
              rw [if_pos (by omega)] at eln
              refine m_fail (f := 2) hL C4 S4 (by omega) rfl (by omega) (fun h5 f5 S5 => ⟨by omega, bad _ h5 _ (qmf_trans f4 (qmf_mono f5 rfl)) S5 (by show (2 : Nat) ≠ 0; omega) (by show t + 1 + 1 + 10 < 400; omega) eln⟩)
          exact loop 1 hB (Nat.le_refl _) h3 ⟨F3, S3⟩
        · rw [qmust_0 c2] at S3
          have hB : B = 0 := by
            rcases Nat.eq_zero_or_pos B with z | z
            · exact z
            · exact absurd (b2 0 z) c2
          subst hB
          rw [if_neg (by rw [Nat.add_zero]; exact c2), if_pos (Or.inl (by omega)), Nat.add_zero] at eln
          exact bad _ h3 _ F3 S3 (by show (1 : Nat) ≠ 0; omega) (by show t + 1 + 1 < 400; omega) eln
      · have eA : A = 0 := by
          rcases Nat.eq_zero_or_pos A with z | z
          · exact z
          · exact absurd (a2 0 z) c1
        subst eA
        rw [if_pos (by omega), Nat.add_zero] at eln
        rw [qmust_0 c1, qmust_n (by decide)] at S3
        exact bad _ h3 _ F3 S3 (by show (1 : Nat) ≠ 0; omega) (by show t + 1 < 400; omega) eln
  · -- one line too many
    rw [hc] at q3
    refine m_fail (f := 2) hL C S (by omega) rfl (by omega) (fun h' f' S' => k h' (qmf_mono f' rfl) (fun _ => by rw [if_pos (by omega)]; exact S') (fun z => by omega))
end MT6
