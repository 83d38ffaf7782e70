/-! a text's lines; the program's reader of them -/
theorem qrn_ok {P : Nat → Bool} : ∀ f p, p ≤ qrn P f p ∧ qrn P f p ≤ p + f ∧ (∀ i, p ≤ i → i < qrn P f p → P i = true) ∧ (qrn P f p < p + f → P (qrn P f p) = false)
  | 0, p => ⟨Nat.le_refl _, Nat.le_refl _, fun i h1 h2 => by have h2 : i < p := h2; omega, fun q => by have q : p < p + 0 := q; omega⟩
  | f + 1, p => by
    unfold qrn
    cases hp : P p with
    | false => rw [if_neg Bool.false_ne_true]; exact ⟨Nat.le_refl _, by omega, fun i h1 h2 => by omega, fun _ => hp⟩
    | true =>
      rw [if_pos rfl]
      obtain ⟨i1, i2, i3, i4⟩ := qrn_ok (P := P) f (p + 1)
      exact ⟨by omega, by omega, fun i h1 h2 => by
        by_cases e : i = p
        · rw [e]; exact hp
        · exact i3 i (by omega) h2, fun q => i4 (by omega)⟩
/-- of a word (0 of, 1 sum, 2 meet, 3 arf, 4 part, 5 add, 6 drop): names due, INTS at least and at most -/
def qdue (w : Nat) : Nat := if w = 0 then 1 else if w ≤ 2 then 3 else 2
def qimin (w : Nat) : Nat := if w = 0 ∨ 4 ≤ w then 1 else 0
def qimax (w : Nat) : Nat := if w = 0 then 10 else if 4 ≤ w then 1 else 0
/-- names, INTS that stand there -/
def qna (K : Nat → Nat) (t : Nat) : Nat := qrn (fun i => K (t + 1 + i) == 1) (qdue (K t - 20)) 0
def qu0 (K : Nat → Nat) (t : Nat) : Nat := t + 1 + qdue (K t - 20)
def qni (K : Nat → Nat) (t : Nat) : Nat := qrn (fun i => K (qu0 K t + i) == 2) (qimax (K t - 20)) 0
/-- a line from the t-th token on: its fault, and where that is, or where the next one starts -/
def qline (K : Nat → Nat) (t : Nat) : Nat × Nat := if K t < 20 then (1, t) else if qna K t < qdue (K t - 20) then (1, t + 1 + qna K t) else if K t - 20 = 0 ∧ K (qu0 K t + qni K t) = 2 then (2, qu0 K t + qni K t) else if qni K t < qimin (K t - 20) ∨ K (qu0 K t + qni K t) ≠ 4 then (1, qu0 K t + qni K t) else (0, qu0 K t + qni K t + 1)
def qst (K : Nat → Nat) : Nat → Nat
  | 0 => 0
  | i + 1 => (qline K (qst K i)).2
/-- all lines: fault, where it is, how many lines ahead of it -/
def qpar (K : Nat → Nat) : Nat → Nat → Nat × Nat × Nat
  | 0, i => (0, 0, i)
  | f + 1, i => if K (qst K i) = 0 then (0, qst K i, i) else if i = 6 then (if 20 ≤ K (qst K i) then (2, qst K i, i) else (1, qst K i, i)) else if (qline K (qst K i)).1 ≠ 0 then ((qline K (qst K i)).1, (qline K (qst K i)).2, i) else qpar K f (i + 1)
theorem qna_ok (K : Nat → Nat) (t : Nat) : qna K t ≤ qdue (K t - 20) ∧ (∀ i, i < qna K t → K (t + 1 + i) = 1) ∧ (qna K t < qdue (K t - 20) → K (t + 1 + qna K t) ≠ 1) := by
  obtain ⟨h1, h2, h3, h4⟩ := qrn_ok (P := fun i => K (t + 1 + i) == 1) (qdue (K t - 20)) 0
  refine ⟨by unfold qna; omega, fun i hi => beq_iff_eq.mp (h3 i (Nat.zero_le _) hi), fun q => ?_⟩
  have := h4 (by unfold qna at q; omega)
  exact beq_eq_false_iff_ne.mp this
theorem qni_ok (K : Nat → Nat) (t : Nat) : qni K t ≤ qimax (K t - 20) ∧ (∀ i, i < qni K t → K (qu0 K t + i) = 2) ∧ (qni K t < qimax (K t - 20) → K (qu0 K t + qni K t) ≠ 2) := by
  obtain ⟨h1, h2, h3, h4⟩ := qrn_ok (P := fun i => K (qu0 K t + i) == 2) (qimax (K t - 20)) 0
  refine ⟨by unfold qni; omega, fun i hi => beq_iff_eq.mp (h3 i (Nat.zero_le _) hi), fun q => ?_⟩
  have := h4 (by unfold qni at q; omega)
  exact beq_eq_false_iff_ne.mp this
theorem qdue_bd (w : Nat) : 1 ≤ qdue w ∧ qdue w ≤ 3 := by unfold qdue; split; omega; split <;> omega
theorem qimax_bd (w : Nat) : qimax w ≤ 10 := by unfold qimax; split; omega; split <;> omega
theorem qline_0 {K : Nat → Nat} {t : Nat} (h : (qline K t).1 = 0) : 20 ≤ K t ∧ qna K t = qdue (K t - 20) ∧ K (qu0 K t + qni K t) = 4 ∧ qimin (K t - 20) ≤ qni K t ∧ (qline K t).2 = qu0 K t + qni K t + 1 := by
  have ha := (qna_ok K t).1
  unfold qline at h ⊢
  by_cases c1 : K t < 20
  · rw [if_pos c1] at h; exact absurd (show 1 = 0 from h) (by decide)
  · rw [if_neg c1] at h ⊢
    by_cases c2 : qna K t < qdue (K t - 20)
    · rw [if_pos c2] at h; exact absurd (show 1 = 0 from h) (by decide)
    · rw [if_neg c2] at h ⊢
      by_cases c3 : K t - 20 = 0 ∧ K (qu0 K t + qni K t) = 2
      · rw [if_pos c3] at h; exact absurd (show 2 = 0 from h) (by decide)
      · rw [if_neg c3] at h ⊢
        by_cases c4 : qni K t < qimin (K t - 20) ∨ K (qu0 K t + qni K t) ≠ 4
        · rw [if_pos c4] at h; exact absurd (show 1 = 0 from h) (by decide)
        · rw [if_neg c4]
          exact ⟨by omega, by omega, by omega, by omega, rfl⟩
/-- the line i of the reader is that from the t-th token on -/
def qlp (h : QM) (tb : Nat → Int) (n i t : Nat) : Prop := h 4 i 4 = (qK tb n t : Int) - 19 ∧ h 4 i 5 = qdue (qK tb n t - 20) ∧ h 4 i 6 = qni (qK tb n) t ∧ h 4 i 7 = qPl tb n (qu0 (qK tb n) t + qni (qK tb n) t) ∧ (∀ j : Nat, j < qdue (qK tb n t - 20) → h 23 i j = q_w64 (qNU tb n (t + 1 + j) : Nat) ∧ h 24 i j = qPl tb n (t + 1 + j)) ∧ ∀ j : Nat, j < qni (qK tb n) t → h 25 i j = qVa tb n (qu0 (qK tb n) t + j) ∧ h 26 i j = qPl tb n (qu0 (qK tb n) t + j)
/-- no more than the reader's token and one of its lines is changed -/
def qf4 (i : Nat) (h h' : QM) : Prop := ∀ (r : Nat) (j c : Int), ¬ ((r = 6 ∧ j = 0 ∧ (c = 3 ∨ c = 5 ∨ c = 6 ∨ c = 7 ∨ c = 8 ∨ c = 9)) ∨ ((r = 4 ∨ r = 23 ∨ r = 24 ∨ r = 25 ∨ r = 26) ∧ j = i)) → h' r j c = h r j c
theorem qf4_refl (i : Nat) (h : QM) : qf4 i h h := fun _ _ _ _ => rfl
theorem qf4_trans {i : Nat} {h1 h2 h3 : QM} (a : qf4 i h1 h2) (b : qf4 i h2 h3) : qf4 i h1 h3 := fun r j c e => by rw [b r j c e, a r j c e]
theorem qf4_6 {i : Nat} {h h' : QM} (a : qf6 h h') : qf4 i h h' := fun r j c e => a r j c (fun q => e (Or.inl q))
theorem qf4_fx {i : Nat} {h h' : QM} (f : qf4 i h h') : qfx [4, 6, 23, 24, 25, 26] h h' := fun r e j c => f r j c (fun z => by
  rcases z with z | ⟨z, -⟩
  · rw [z.1] at e; cases e
  · rcases z with z | z | z | z | z <;> subst z <;> cases e)
theorem qf4_qu {i r : Nat} {h : QM} {c v : Int} (e : r = 4 ∨ r = 23 ∨ r = 24 ∨ r = 25 ∨ r = 26) : qf4 i h (qu h r i c v) := fun r' j' c' q => qu_ne (fun z => q (Or.inr ⟨by rw [z.1]; exact e, z.2.1⟩))
theorem qlp_o {h h' : QM} {tb : Nat → Int} {n i i' t : Nat} (p : qlp h tb n i t) (f : qf4 i' h h') (e : i ≠ i') : qlp h' tb n i t := by
  obtain ⟨p1, p2, p3, p4, p5, p6⟩ := p
  have q : ∀ (r : Nat) (c : Int), r ≠ 6 → h' r i c = h r i c := fun r c hr => f r i c (by omega)
  exact ⟨by rw [q _ _ (by omega)]; exact p1, by rw [q _ _ (by omega)]; exact p2, by rw [q _ _ (by omega)]; exact p3, by rw [q _ _ (by omega)]; exact p4, fun j hj => by rw [q _ _ (by omega), q _ _ (by omega)]; exact p5 j hj, fun j hj => by rw [q _ _ (by omega), q _ _ (by omega)]; exact p6 j hj⟩
theorem qtp_4 {h h' : QM} {tb : Nat → Int} {n p : Nat} (a : qtp h tb n p) (e : ∀ c, h' 6 0 c = h 6 0 c) : qtp h' tb n p := by
  unfold qtp at a ⊢
  simp only [e]
  exact a
section QT3
variable {l : Launch} {g : QG} {d : Nat} {h : QM} {Q : Int → QM → Prop} {n : Nat} {tb : Nat → Int}
theorem s_nextI {t : Nat} (hL : qhL g) (T : qtape h n tb) (h2 : h 6 0 2 = 0) (C : qtp h tb n (qTp tb n t)) (k : ∀ h', qf6 h h' → qtp h' tb n (qTp tb n (t + 1)) → Q 0 h') : q_tr l g (d + 3) n_X6_nextToken [qr 6 0] h Q :=
  s_next hL T (qTp_le tb n (t + 1)) h2 C.1 k
theorem s_begin {i : Nat} {w : Int} (hL : qhL g) (k : ∀ h', qf4 i h h' → (∀ c, h' 6 0 c = h 6 0 c) → h' 4 i 4 = w → h' 4 i 5 = 0 → h' 4 i 6 = 0 → Q 0 h') : q_tr l g (d + 1) n_X4_begin [qr 4 i, qi w] h Q := by
  refine i_X4_begin hL (fun G hG _ _ => b_X4_begin_0 hG (k _ (qf4_trans (qf4_trans (qf4_qu (Or.inl rfl)) (qf4_qu (Or.inl rfl))) (qf4_trans (qf4_qu (Or.inl rfl)) (qf4_qu (Or.inl rfl)))) (fun c => ?_) ?_ ?_ ?_))
  · rw [qu_ne (by omega), qu_ne (by omega), qu_ne (by omega), qu_ne (by omega)]
  · rw [qu_ne (by omega), qu_ne (by omega), qu_ne (by omega), qu_at]
  · rw [qu_ne (by omega), qu_ne (by omega), qu_at]
  · rw [qu_ne (by omega), qu_at]
theorem s_putName {i c : Nat} {x p : Int} (hL : qhL g) (hc : h 4 i 5 = c) (hc3 : c < 3) (k : ∀ h', qf4 i h h' → (∀ c, h' 6 0 c = h 6 0 c) → (∀ cc, cc ≠ 5 → h' 4 i cc = h 4 i cc) → h' 4 i 5 = c + 1 → (∀ j, j ≠ (c : Int) → h' 23 i j = h 23 i j ∧ h' 24 i j = h 24 i j) → h' 23 i c = x → h' 24 i c = p → Q 0 h') : q_tr l g (d + 1) n_X4_putName [qr 4 i, ql x, qi p] h Q := by
  refine i_X4_putName hL (fun G hG _ _ => b_X4_putName_0 hG ⟨fun q => by omega, fun _ => ?_⟩)
  have e1 : (qu h 23 i (h 4 i 5) x) 4 i 5 = c := by rw [qu_ne (by omega)]; exact hc
  rw [e1, hc]
  have e2 : (qu (qu h 23 i (c : Int) x) 24 i (c : Int) p) 4 i 5 = c := by rw [qu_ne (by omega), qu_ne (by omega)]; exact hc
  rw [e2]
  refine ⟨by omega, by omega, by omega, k _ (qf4_trans (qf4_qu (by omega)) (qf4_trans (qf4_qu (by omega)) (qf4_qu (by omega)))) (fun cc => ?_) (fun cc hcc => ?_) ?_ (fun j hj => ⟨?_, ?_⟩) ?_ ?_⟩
  · rw [qu_ne (by omega), qu_ne (by omega), qu_ne (by omega)]
  · rw [qu_ne (by omega), qu_ne (by omega), qu_ne (by omega)]
  · rw [qu_at]
  · rw [qu_ne (by omega), qu_ne (by omega), qu_ne (by omega)]
  · rw [qu_ne (by omega), qu_ne (by omega), qu_ne (by omega)]
  · rw [qu_ne (by omega), qu_ne (by omega), qu_at]
  · rw [qu_ne (by omega), qu_at]
theorem s_putInt {i c : Nat} {x p : Int} (hL : qhL g) (hc : h 4 i 6 = c) (hc3 : c < 10) (k : ∀ h', qf4 i h h' → (∀ c, h' 6 0 c = h 6 0 c) → (∀ cc, cc ≠ 6 → h' 4 i cc = h 4 i cc) → h' 4 i 6 = c + 1 → (∀ j, h' 23 i j = h 23 i j ∧ h' 24 i j = h 24 i j) → (∀ j, j ≠ (c : Int) → h' 25 i j = h 25 i j ∧ h' 26 i j = h 26 i j) → h' 25 i c = x → h' 26 i c = p → Q 0 h') : q_tr l g (d + 1) n_X4_putInt [qr 4 i, qi x, qi p] h Q := by
  refine i_X4_putInt hL (fun G hG _ _ => b_X4_putInt_0 hG ⟨fun q => by omega, fun _ => ?_⟩)
  have e1 : (qu h 25 i (h 4 i 6) x) 4 i 6 = c := by rw [qu_ne (by omega)]; exact hc
  rw [e1, hc]
  have e2 : (qu (qu h 25 i (c : Int) x) 26 i (c : Int) p) 4 i 6 = c := by rw [qu_ne (by omega), qu_ne (by omega)]; exact hc
  rw [e2]
  refine ⟨by omega, by omega, by omega, k _ (qf4_trans (qf4_qu (by omega)) (qf4_trans (qf4_qu (by omega)) (qf4_qu (by omega)))) (fun cc => ?_) (fun cc hcc => ?_) ?_ (fun j => ⟨?_, ?_⟩) (fun j hj => ⟨?_, ?_⟩) ?_ ?_⟩
  · rw [qu_ne (by omega), qu_ne (by omega), qu_ne (by omega)]
  · rw [qu_ne (by omega), qu_ne (by omega), qu_ne (by omega)]
  · rw [qu_at]
  · rw [qu_ne (by omega), qu_ne (by omega), qu_ne (by omega)]
  · rw [qu_ne (by omega), qu_ne (by omega), qu_ne (by omega)]
  · rw [qu_ne (by omega), qu_ne (by omega), qu_ne (by omega)]
  · rw [qu_ne (by omega), qu_ne (by omega), qu_ne (by omega)]
  · rw [qu_ne (by omega), qu_ne (by omega), qu_at]
  · rw [qu_ne (by omega), qu_at]
theorem qpk_2 {k : Nat} (h : k ≤ 4 ∨ (20 ≤ k ∧ k ≤ 26)) : (qpk k = 2 ↔ 20 ≤ k) ∧ (qpk k = 1 ↔ k = 1) ∧ (qpk k = 3 ↔ k = 2) ∧ (qpk k = 4 ↔ k = 4) ∧ (qpk k = 0 ↔ k = 0) := by
  unfold qpk
  repeat' split
  all_goals refine ⟨?_, ?_, ?_, ?_, ?_⟩ <;> constructor <;> intro q <;> omega
theorem q_due7 {w : Nat} (h : w ≤ 6) : q_sc (q_S g) 101 ((w : Int) + 1) = qdue w ∧ q_sc (q_S g) 102 ((w : Int) + 1) = qimin w ∧ q_sc (q_S g) 103 ((w : Int) + 1) = qimax w := by
  have : w = 0 ∨ w = 1 ∨ w = 2 ∨ w = 3 ∨ w = 4 ∨ w = 5 ∨ w = 6 := by omega
  rcases this with rfl | rfl | rfl | rfl | rfl | rfl | rfl <;> exact ⟨rfl, rfl, rfl⟩
theorem s_parseLine {i t : Nat} (hL : qhL g) (hi : i < 6) (T : qtape h n tb) (h2 : h 6 0 2 = 0) (C : qtp h tb n (qTp tb n t)) (k : ∀ h', qf4 i h h' → qtp h' tb n (qTp tb n (qline (qK tb n) t).2) ∨ (qline (qK tb n) t).1 ≠ 0 ∧ h' 6 0 6 = qPl tb n (qline (qK tb n) t).2 → ((qline (qK tb n) t).1 = 0 → qlp h' tb n i t) → Q ((qline (qK tb n) t).1 : Nat) h') : q_tr l g (d + 4) n_X6_parseLine [qr 6 0, qr 4 i] h Q := by
  have hK := qK_le tb n
  have hpk := fun t => qpk_2 (hK t)
  have kd := fun h1 t (c : qtp h1 tb n (qTp tb n t)) => (show h1 6 0 5 = qpk (qK tb n t) from c.2.2.1)
  have pl := fun h1 t (c : qtp h1 tb n (qTp tb n t)) => (show h1 6 0 6 = qPl tb n t from c.2.1)
  -- a fault at a token
  have bad : ∀ (h1 : QM) (t' : Nat), qf4 i h h1 → qtp h1 tb n (qTp tb n t') → ∀ f : Nat, f ≠ 0 → qline (qK tb n) t = (f, t') → Q (f : Int) h1 := fun h1 t' f1 C1 f hf e => by
    have := k h1 f1
    rw [e] at this
    exact this (Or.inl C1) (fun q => absurd q hf)
  refine i_X6_parseLine hL (fun G hG _ _ => b_X6_parseLine_0 hG ?_)
  rw [kd h t C]
  refine ⟨fun q => ?_, fun q => bad h t (qf4_refl _ _) C 1 (by decide) ?_⟩
  · have hw := (hpk t).1.mp q
    have hKt := hK t
    obtain ⟨w, ew⟩ : ∃ w, qK tb n t = w + 20 := ⟨qK tb n t - 20, by omega⟩
    have c7 : h 6 0 7 = (w : Int) + 1 := by
      have := C.2.2.2.2.1 (show 19 < qK tb n t by omega)
      rw [this]
      have : (qTk tb n (qTp tb n t) : Int) = (qK tb n t : Int) := rfl
      omega
    obtain ⟨sc1, sc2, sc3⟩ := q_due7 (g := g) (w := w) (by omega)
    obtain ⟨a1, a2, a3⟩ := qna_ok (qK tb n) t
    obtain ⟨b1, b2, b3⟩ := qni_ok (qK tb n) t
    have ew2 : qK tb n t - 20 = w := by omega
    rw [ew2] at a1 a3 b1 b3
    have hdb := qdue_bd w
    have hmb := qimax_bd w
    have eline : qline (qK tb n) t = if qna (qK tb n) t < qdue w then (1, t + 1 + qna (qK tb n) t) else if w = 0 ∧ qK tb n (qu0 (qK tb n) t + qni (qK tb n) t) = 2 then (2, qu0 (qK tb n) t + qni (qK tb n) t) else if qni (qK tb n) t < qimin w ∨ qK tb n (qu0 (qK tb n) t + qni (qK tb n) t) ≠ 4 then (1, qu0 (qK tb n) t + qni (qK tb n) t) else (0, qu0 (qK tb n) t + qni (qK tb n) t + 1) := by
      unfold qline
      rw [if_neg (by omega), ew2]
    have eu : qu0 (qK tb n) t = t + 1 + qdue w := by unfold qu0; rw [ew2]
    generalize hA : qna (qK tb n) t = A at *
    generalize hB : qni (qK tb n) t = B at *
    generalize hU : qu0 (qK tb n) t = U at *
    rw [c7]
    -- the INTS
    have ints : qdue w ≤ A → ∀ b, b ≤ B → ∀ h1, (qf4 i h h1 ∧ qtp h1 tb n (qTp tb n (U + b)) ∧ h1 4 i 4 = (w : Int) + 1 ∧ h1 4 i 5 = qdue w ∧ h1 4 i 6 = (b : Nat) ∧ (∀ j : Nat, j < qdue w → h1 23 i j = q_w64 (qNU tb n (t + 1 + j) : Nat) ∧ h1 24 i j = qPl tb n (t + 1 + j)) ∧ ∀ j : Nat, j < b → h1 25 i j = qVa tb n (U + j) ∧ h1 26 i j = qPl tb n (U + j)) → G 69 [some (qr 6 0), some (qr 4 i), some (qi ((w : Int) + 1)), some (qi (b : Int))] [] h1 := by
      intro hAA
      refine q_up (fun b hb ih h1 hI => b_X6_parseLine_69 hG ?_)
      obtain ⟨f1, C1, c4, c5, c6, cn, ci⟩ := hI
      have T1 := qtape_fx T (qf4_fx f1) rfl
      have e2 : h1 6 0 2 = 0 := by rw [f1 6 0 2 (by omega)]; exact h2
      rw [sc2, sc3, kd h1 _ C1]
      have hp := hpk (U + b)
      -- the end of the line
      have fin : b = B → (((¬ ((w : Int) + 1 = 1) → (0 ≤ (w : Int) + 1 ∧ (w : Int) + 1 < 8) ∧ (((b : Int) < (qimin w : Nat) → Q 1 h1) ∧ (¬ (b : Int) < (qimin w : Nat) → ((qpk (qK tb n (U + b)) = 4 → q_tr l g (d + 3) n_X6_nextToken [qr 6 0] (qu h1 4 i 7 (h1 6 0 6)) (fun _ h1 => Q 0 h1)) ∧ (¬ qpk (qK tb n (U + b)) = 4 → Q 1 h1))))) ∧ ((w : Int) + 1 = 1 → ((¬ qpk (qK tb n (U + b)) = 3 → (0 ≤ (w : Int) + 1 ∧ (w : Int) + 1 < 8) ∧ (((b : Int) < (qimin w : Nat) → Q 1 h1) ∧ (¬ (b : Int) < (qimin w : Nat) → ((qpk (qK tb n (U + b)) = 4 → q_tr l g (d + 3) n_X6_nextToken [qr 6 0] (qu h1 4 i 7 (h1 6 0 6)) (fun _ h2 => Q 0 h2)) ∧ (¬ qpk (qK tb n (U + b)) = 4 → Q 1 h1))))) ∧ (qpk (qK tb n (U + b)) = 3 → Q 2 h1))))) := fun eb => by
        rw [if_neg (by omega)] at eline
        have E : (w = 0 → qK tb n (U + b) ≠ 2) → (0 ≤ (w : Int) + 1 ∧ (w : Int) + 1 < 8) ∧ (((b : Int) < (qimin w : Nat) → Q 1 h1) ∧ (¬ (b : Int) < (qimin w : Nat) → ((qpk (qK tb n (U + b)) = 4 → q_tr l g (d + 3) n_X6_nextToken [qr 6 0] (qu h1 4 i 7 (h1 6 0 6)) (fun _ h1 => Q 0 h1)) ∧ (¬ qpk (qK tb n (U + b)) = 4 → Q 1 h1)))) := fun hno => by
          rw [if_neg (fun z => hno z.1 (by rw [eb]; exact z.2))] at eline
          refine ⟨by omega, fun q2 => bad h1 (U + b) f1 C1 1 (by decide) ?_, fun q2 => ⟨fun q3 => ?_, fun q3 => bad h1 (U + b) f1 C1 1 (by decide) ?_⟩⟩
          · rw [eline, if_pos (Or.inl (by omega)), eb]
          · have C2 : qtp (qu h1 4 i 7 (h1 6 0 6)) tb n (qTp tb n (U + b)) := qtp_4 C1 (fun c => qu_ne (by omega))
            have T2 := qtape_fx T1 (qfx_qu (rs := [4]) (h := h1) (r := 4) (i := (i : Int)) (j := 7) (v := h1 6 0 6) rfl) rfl
            refine s_nextI hL T2 (by rw [qu_ne (by omega)]; exact e2) C2 (fun h3 f3 C3 => ?_)
            have hk4 := hp.2.2.2.1.mp q3
            rw [if_neg (fun z => z.elim (fun z => by omega) (fun z => z (by rw [← eb]; exact hk4)))] at eline
            have kk := k h3 (qf4_trans f1 (qf4_trans (qf4_qu (by omega)) (qf4_6 f3)))
            rw [eline] at kk
            rw [eb] at C3
            refine kk (Or.inl C3) (fun _ => ?_)
            have g3 : ∀ (r : Nat) (c : Int), r ≠ 6 → ¬ (r = 4 ∧ c = 7) → h3 r i c = h1 r i c := fun r c hr hc => by rw [f3 r i c (by omega), qu_ne (by omega)]
            unfold qlp
            rw [ew2, hB, hU]
            refine ⟨?_, ?_, ?_, ?_, fun j hj => ?_, fun j hj => ?_⟩
            · rw [g3 4 4 (by omega) (by omega), c4]; omega
            · rw [g3 4 5 (by omega) (by omega), c5]
            · rw [g3 4 6 (by omega) (by omega), c6, eb]
            · rw [f3 4 i 7 (by omega), qu_at, pl h1 _ C1, eb]
            · rw [g3 23 j (by omega) (by omega), g3 24 j (by omega) (by omega)]; exact cn j hj
            · rw [g3 25 j (by omega) (by omega), g3 26 j (by omega) (by omega)]; exact ci j (by omega)
          · rw [eline, if_pos (Or.inr (fun z => q3 (hp.2.2.2.1.mpr (by rw [eb]; exact z)))), eb]
        refine ⟨fun q2 => E (fun z => by omega), fun q2 => ⟨fun q3 => E (fun _ z => q3 (hp.2.2.1.mpr z)), fun q3 => bad h1 (U + b) f1 C1 2 (by decide) ?_⟩⟩
        rw [eline, if_pos ⟨by omega, by rw [← eb]; exact hp.2.2.1.mp q3⟩, eb]
      refine ⟨by omega, fun q2 => fin (by omega), fun q2 => ⟨fun q3 => fin ?_, fun q3 => ?_⟩⟩
      · rcases Nat.lt_or_ge b B with c | c
        · exact absurd (hp.2.2.1.mpr (b2 b c)) q3
        · omega
      · have hk2 := hp.2.2.1.mp q3
        have hbB : b < B := by
          rcases Nat.lt_or_ge b B with c | c
          · exact c
          · have : b = B := by omega
            rw [this] at hk2
            exact absurd hk2 (b3 (by omega))
        have cv : h1 6 0 8 = qVa tb n (U + b) := C1.2.2.2.2.2 hk2
        refine s_putInt hL c6 (by omega) (fun h3 f3 g6 g4 g5 gn gi gv gp => ?_)
        have C3 : qtp h3 tb n (qTp tb n (U + b)) := qtp_4 C1 g6
        refine s_nextI hL (qtape_fx T1 (qf4_fx f3) rfl) (by rw [g6]; exact e2) C3 (fun h4 f4 C4 => ⟨by omega, ih hbB h4 ⟨qf4_trans f1 (qf4_trans f3 (qf4_6 f4)), C4, ?_, ?_, ?_, fun j hj => ?_, fun j hj => ?_⟩⟩)
        · rw [f4 4 i 4 (by omega), g4 4 (by omega)]; exact c4
        · rw [f4 4 i 5 (by omega), g4 5 (by omega)]; exact c5
        · rw [f4 4 i 6 (by omega), g5]; omega
        · rw [f4 23 i j (by omega), f4 24 i j (by omega), (gn j).1, (gn j).2]; exact cn j hj
        · rw [f4 25 i j (by omega), f4 26 i j (by omega)]
          by_cases c : j = b
          · rw [c, gv, gp, cv, pl h1 _ C1]; exact ⟨rfl, rfl⟩
          · rw [(gi j (by omega)).1, (gi j (by omega)).2]; exact ci j (by omega)
    -- the names
    have names : ∀ a, a ≤ A → ∀ h1, (qf4 i h h1 ∧ qtp h1 tb n (qTp tb n (t + 1 + a)) ∧ h1 4 i 4 = (w : Int) + 1 ∧ h1 4 i 5 = (a : Nat) ∧ h1 4 i 6 = 0 ∧ (∀ j : Nat, j < a → h1 23 i j = q_w64 (qNU tb n (t + 1 + j) : Nat) ∧ h1 24 i j = qPl tb n (t + 1 + j))) → G 26 [some (qr 6 0), some (qr 4 i), some (qi ((w : Int) + 1)), some (qi (a : Int))] [] h1 := by
      refine q_up (fun a ha ih h1 hI => b_X6_parseLine_26 hG ?_)
      obtain ⟨f1, C1, c4, c5, c6, cn⟩ := hI
      have T1 := qtape_fx T (qf4_fx f1) rfl
      have e2 : h1 6 0 2 = 0 := by rw [f1 6 0 2 (by omega)]; exact h2
      rw [sc1, kd h1 _ C1]
      have hp := hpk (t + 1 + a)
      refine ⟨by omega, fun q2 => ?_, fun q2 => ⟨fun q3 => ?_, fun q3 => bad h1 (t + 1 + a) f1 C1 1 (by decide) ?_⟩⟩
      · have ea : a = qdue w := by omega
        refine ints (by omega) 0 (Nat.zero_le _) h1 ⟨f1, ?_, c4, by rw [c5, ea], c6, fun j hj => cn j (by omega), fun j hj => absurd hj (Nat.not_lt_zero _)⟩
        rw [eu, Nat.add_zero, ← ea]; exact C1
      · have hk1 := hp.2.1.mp q3
        have haA : a < A := by
          rcases Nat.lt_or_ge a A with c | c
          · exact c
          · have : a = A := by omega
            rw [this] at hk1
            exact absurd hk1 (a3 (by omega))
        have cv : h1 6 0 9 = q_w64 (qNU tb n (t + 1 + a) : Nat) := C1.2.2.2.1 (Or.inl hk1)
        refine s_putName hL c5 (by omega) (fun h3 f3 g6 g4 g5 gn gv gp => ?_)
        have C3 : qtp h3 tb n (qTp tb n (t + 1 + a)) := qtp_4 C1 g6
        refine s_nextI hL (qtape_fx T1 (qf4_fx f3) rfl) (by rw [g6]; exact e2) C3 (fun h4 f4 C4 => ⟨by omega, ih haA h4 ⟨qf4_trans f1 (qf4_trans f3 (qf4_6 f4)), C4, ?_, ?_, ?_, fun j hj => ?_⟩⟩)
        · rw [f4 4 i 4 (by omega), g4 4 (by omega)]; exact c4
        · rw [f4 4 i 5 (by omega), g5]; omega
        · rw [f4 4 i 6 (by omega), g4 6 (by omega)]; exact c6
        · rw [f4 23 i j (by omega), f4 24 i j (by omega)]
          by_cases c : j = a
          · rw [c, gv, gp, cv, pl h1 _ C1]; exact ⟨rfl, rfl⟩
          · rw [(gn j (by omega)).1, (gn j (by omega)).2]; exact cn j (by omega)
      · have haA : a = A := by
          rcases Nat.lt_or_ge a A with c | c
          · exact absurd (hp.2.1.mpr (a2 a c)) q3
          · omega
        rw [eline, if_pos (by omega), haA]
    refine s_begin hL (fun h3 f3 g6 g4 g5 gi => ?_)
    refine s_nextI hL (qtape_fx T (qf4_fx f3) rfl) (by rw [g6]; exact h2) (qtp_4 C g6) (fun h4 f4 C4 => names 0 (Nat.zero_le _) h4 ⟨qf4_trans f3 (qf4_6 f4), C4, ?_, ?_, ?_, fun j hj => absurd hj (Nat.not_lt_zero _)⟩)
    · rw [f4 4 i 4 (by omega)]; exact g4
    · rw [f4 4 i 5 (by omega)]; exact g5
    · rw [f4 4 i 6 (by omega)]; exact gi
  · have : ¬ 20 ≤ qK tb n t := fun z => q ((hpk t).1.mpr z)
    unfold qline
    rw [if_pos (by omega)]
end QT3
