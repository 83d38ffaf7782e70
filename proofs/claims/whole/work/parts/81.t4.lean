/-! the program's reader: all lines -/
section QT4
variable {l : Launch} {g : QG} {d : Nat} {h : QM} {Q : Int → QM → Prop} {n : Nat} {tb : Nat → Int}
theorem qlp_fx {h h' : QM} {tb : Nat → Int} {n i t : Nat} (p : qlp h tb n i t) (e : ∀ (r : Nat) (c : Int), r = 4 ∨ r = 23 ∨ r = 24 ∨ r = 25 ∨ r = 26 → h' r i c = h r i c) : qlp h' tb n i t := by
  obtain ⟨p1, p2, p3, p4, p5, p6⟩ := p
  exact ⟨by rw [e _ _ (by omega)]; exact p1, by rw [e _ _ (by omega)]; exact p2, by rw [e _ _ (by omega)]; exact p3, by rw [e _ _ (by omega)]; exact p4, fun j hj => by rw [e _ _ (by omega), e _ _ (by omega)]; exact p5 j hj, fun j hj => by rw [e _ _ (by omega), e _ _ (by omega)]; exact p6 j hj⟩
theorem qpar_s (K : Nat → Nat) {i : Nat} (hi : i ≤ 6) : qpar K (7 - i) i = if K (qst K i) = 0 then (0, qst K i, i) else if i = 6 then (if 20 ≤ K (qst K i) then (2, qst K i, i) else (1, qst K i, i)) else if (qline K (qst K i)).1 ≠ 0 then ((qline K (qst K i)).1, (qline K (qst K i)).2, i) else qpar K (7 - (i + 1)) (i + 1) := by
  rw [show 7 - i = (7 - (i + 1)) + 1 by omega]; rfl
theorem s_parseLines (hL : qhL g) (T : qtape h n tb) (h2 : h 6 0 2 = 0) (h1 : h 6 0 1 = 0) (C : qtp h tb n 0) (k : ∀ h', qfx [4, 6, 23, 24, 25, 26] h h' → h' 6 0 4 = h 6 0 4 → ((qpar (qK tb n) 7 0).1 ≠ 0 → h' 6 0 6 = qPl tb n (qpar (qK tb n) 7 0).2.1) → ((qpar (qK tb n) 7 0).1 = 0 → h' 6 0 1 = (qpar (qK tb n) 7 0).2.2 ∧ (qpar (qK tb n) 7 0).2.2 ≤ 6 ∧ ∀ i, i < (qpar (qK tb n) 7 0).2.2 → qlp h' tb n i (qst (qK tb n) i)) → Q ((qpar (qK tb n) 7 0).1 : Nat) h') : q_tr l g (d + 5) n_X6_parseLines [qr 6 0] h Q := by
  have hK := qK_le tb n
  refine i_X6_parseLines hL (fun G hG _ _ => b_X6_parseLines_0 hG ?_)
  have key : ∀ i, i ≤ 6 → ∀ h1, (qfx [4, 6, 23, 24, 25, 26] h h1 ∧ h1 6 0 4 = h 6 0 4 ∧ h1 6 0 2 = 0 ∧ h1 6 0 1 = (i : Nat) ∧ qtp h1 tb n (qTp tb n (qst (qK tb n) i)) ∧ (∀ j, j < i → qlp h1 tb n j (qst (qK tb n) j)) ∧ qpar (qK tb n) 7 0 = qpar (qK tb n) (7 - i) i) → G 2 [some (qr 6 0), some (qi (i : Int)), none] [] h1 := by
    refine q_up (fun i hi ih h1 hI => b_X6_parseLines_2 hG ?_)
    obtain ⟨F, c4, c2, c1, C1, ln, eP⟩ := hI
    have T1 := qtape_fx T F rfl
    rw [qpar_s _ hi] at eP
    have kd : h1 6 0 5 = qpk (qK tb n (qst (qK tb n) i)) := C1.2.2.1
    have hp := qpk_2 (hK (qst (qK tb n) i))
    have c6 : h1 6 0 6 = qPl tb n (qst (qK tb n) i) := C1.2.1
    have done : ∀ (h3 : QM) (f t : Nat), qfx [4, 6, 23, 24, 25, 26] h h3 → h3 6 0 4 = h 6 0 4 → h3 6 0 1 = (i : Nat) → qpar (qK tb n) 7 0 = (f, t, i) → (∀ j, j < i → qlp h3 tb n j (qst (qK tb n) j)) → (f ≠ 0 → h3 6 0 6 = qPl tb n t) → Q (f : Int) h3 := fun h3 f t F3 e4 e1 eq ln3 h6 => by
      have := k h3 F3 e4
      rw [eq] at this
      exact this h6 (fun _ => ⟨e1, hi, ln3⟩)
    rw [kd]
    refine ⟨fun q => ⟨fun q2 => ⟨fun q3 => ?_, fun q3 => ?_⟩, fun q2 => ?_⟩, fun q => ⟨fun q2 => ?_, fun q2 => ?_⟩⟩
    · rw [if_neg (fun z => q2 (hp.2.2.2.2.mpr z)), if_pos (by omega), if_neg (fun z => q3 (hp.1.mpr z))] at eP
      exact done h1 1 _ F c4 c1 eP ln (fun _ => c6)
    · rw [if_neg (fun z => q2 (hp.2.2.2.2.mpr z)), if_pos (by omega), if_pos (hp.1.mp q3)] at eP
      exact done h1 2 _ F c4 c1 eP ln (fun _ => c6)
    · rw [if_pos (hp.2.2.2.2.mp q2)] at eP
      exact done h1 0 _ F c4 c1 eP ln (fun _ => c6)
    · rw [if_neg (fun z => q2 (hp.2.2.2.2.mpr z)), if_neg (by omega)] at eP
      refine ⟨by omega, s_parseLine hL (by omega) T1 c2 C1 (fun h3 f3 g3 g4 => ?_)⟩
      have F3 := qfx_trans F (qf4_fx f3)
      have ln3 : ∀ j, j < i → qlp h3 tb n j (qst (qK tb n) j) := fun j hj => qlp_o (ln j hj) f3 (by omega)
      have e34 : h3 6 0 4 = h 6 0 4 := by rw [f3 6 0 4 (by omega)]; exact c4
      have e31 : h3 6 0 1 = (i : Nat) := by rw [f3 6 0 1 (by omega)]; exact c1
      refine ⟨fun z => ?_, fun z => ?_⟩
      · have z : (qline (qK tb n) (qst (qK tb n) i)).1 = 0 := by omega
        rw [if_neg (fun y => y z)] at eP
        have C3 := g3.elim (fun a => a) (fun a => absurd z a.1)
        have L3 := g4 z
        rw [e31]
        refine ⟨by omega, by omega, ih (by omega) _ ⟨qfx_trans F3 (qfx_qu rfl), ?_, ?_, ?_, ?_, fun j hj => ?_, eP⟩⟩
        · rw [qu_ne (by omega)]; exact e34
        · rw [qu_ne (by omega), f3 6 0 2 (by omega)]; exact c2
        · rw [qu_at]; omega
        · obtain ⟨d1, d2, d3, d4, d5, d6⟩ := C3
          unfold qtp
          rw [qu_ne (by omega), qu_ne (by omega), qu_ne (by omega), qu_ne (by omega), qu_ne (by omega), qu_ne (by omega)]
          exact ⟨d1, d2, d3, d4, d5, d6⟩
        · refine qlp_fx ?_ (fun r c hr => qu_ne (by omega))
          by_cases e : j = i
          · rw [e]; exact L3
          · exact ln3 j (by omega)
      · have z : (qline (qK tb n) (qst (qK tb n) i)).1 ≠ 0 := by omega
        rw [if_pos z] at eP
        refine done h3 _ _ F3 e34 e31 eP ln3 (fun _ => ?_)
        rcases g3 with a | a
        · exact a.2.1
        · exact a.2
    · rw [if_pos (hp.2.2.2.2.mp q2)] at eP
      exact done h1 0 _ F c4 c1 eP ln (fun _ => c6)
  exact key 0 (by omega) h ⟨qfx_refl _ _, rfl, h2, h1, C, fun j hj => absurd hj (Nat.not_lt_zero _), rfl⟩
theorem s_parse (hL : qhL g) (T : qtape h n tb) (k : ∀ h', qfx [4, 6, 23, 24, 25, 26] h h' → ((qpar (qK tb n) 7 0).1 ≠ 0 → h' 6 0 4 = qPl tb n (qpar (qK tb n) 7 0).2.1) → ((qpar (qK tb n) 7 0).1 = 0 → h' 6 0 4 = -1 ∧ h' 6 0 1 = (qpar (qK tb n) 7 0).2.2 ∧ (qpar (qK tb n) 7 0).2.2 ≤ 6 ∧ ∀ i, i < (qpar (qK tb n) 7 0).2.2 → qlp h' tb n i (qst (qK tb n) i)) → Q ((qpar (qK tb n) 7 0).1 : Nat) h') : q_tr l g (d + 6) n_X6_parse [qr 6 0, qr 9 0] h Q := by
  refine i_X6_parse hL (fun G hG _ _ => b_X6_parse_0 hG ?_)
  have F0 : qfx [4, 6, 23, 24, 25, 26] h (qu (qu (qu (qu h 6 0 2 0) 6 0 3 0) 6 0 1 0) 6 0 4 (-1)) := qfx_trans (qfx_trans (qfx_qu rfl) (qfx_qu rfl)) (qfx_trans (qfx_qu rfl) (qfx_qu rfl))
  refine s_next hL (qtape_fx T F0 rfl) (Nat.zero_le _) (by rw [qu_ne (by omega), qu_ne (by omega), qu_ne (by omega), qu_at]) (p := 0) (by rw [qu_ne (by omega), qu_ne (by omega), qu_at]; rfl) (fun h1 f1 C1 => ?_)
  have F1 := qfx_trans F0 (qfx_mono (qf6_fx f1) (qfx_sub (rs' := [4, 6, 23, 24, 25, 26]) rfl))
  refine s_parseLines hL (qtape_fx T F1 rfl) ?_ ?_ C1 (fun h2 f2 g4 g6 gl => ?_)
  · rw [f1 6 0 2 (by omega), qu_ne (by omega), qu_ne (by omega), qu_ne (by omega), qu_at]
  · rw [f1 6 0 1 (by omega), qu_ne (by omega), qu_at]
  · have F2 := qfx_trans F1 f2
    refine ⟨fun z => ?_, fun z => ?_⟩
    · have z : (qpar (qK tb n) 7 0).1 = 0 := by omega
      refine k h2 F2 (fun a => absurd z a) (fun _ => ⟨?_, gl z⟩)
      rw [g4, f1 6 0 4 (by omega), qu_at]
    · have z : (qpar (qK tb n) 7 0).1 ≠ 0 := by omega
      refine k _ (qfx_trans F2 (qfx_qu rfl)) (fun _ => ?_) (fun a => absurd a z)
      rw [qu_at]; exact g6 z
end QT4
