/-! the model reads its tape -/
def qrsA : List Nat := [1002, 1004, 1010, 1011, 1012, 1013, 1014, 1015, 1016, 1018, 1023, 47, 48, 49, 50, 51, 53, 55, 56]
def qrsB : List Nat := [1002, 1004, 1010, 1011, 1012, 1013, 1014, 1015, 1016, 1018, 1023, 47, 48, 49, 50, 51, 53, 55, 56, 154, 1017, 1026, 59]
theorem qps_f {h h' : QM} {tb : Nat → Int} {n : Nat} {s : Nat × Nat} {rs : List Nat} (S : qps h tb n s) (f : qmf rs h h') (e : (rs.contains 1011 || rs.contains 1012 || rs.contains 1013) = false) : qps h' tb n s := by
  rw [Bool.or_eq_false_iff, Bool.or_eq_false_iff] at e
  unfold qps
  rw [f 12 0 12 e.1.2, f 12 0 11 e.1.1, f 12 0 13 e.2]; exact S
section MM6
variable {l : Launch} {g : QG} {d : Nat} {h : QM} {Q : Int → QM → Prop} {n : Nat} {tb : Nat → Int}
theorem m_place (hL : qhL g) (k : Q (h 12 0 16) h) : q_tr l g (d + 1) n_X12_place [qr 12 0] h Q := i_X12_place hL (fun G hG _ _ => b_X12_place_0 hG k)
/-- the lines, one after another -/
theorem m_lines {G : QK} (hL : qhL g) (hG : q_clo (q_S g) (q_tr l g (d + 5)) Q 12 k_X12_read 1 false G) (C : qcuts h tb n) (h11 : h 12 0 11 = 0) (h12 : h 12 0 12 = 0) (h18 : h 12 0 18 = 0) (k : ∀ h', qmf [1011, 1012, 1013, 1018] h h' → h' 12 0 12 = (qpar (qK tb n) 7 0).1 → ((qpar (qK tb n) 7 0).1 ≠ 0 → h' 12 0 13 = qPl tb n (qpar (qK tb n) 7 0).2.1) → ((qpar (qK tb n) 7 0).1 = 0 → h' 12 0 18 = (qpar (qK tb n) 7 0).2.2) → G 87 [some (qr 12 0), none] [] h') : G 65 [some (qr 12 0), none] [] h := by
  -- with a fault
  have bad : ∀ h1, qmf [1011, 1012, 1013, 1018] h h1 → ∀ s : Nat × Nat, s.1 ≠ 0 → qps h1 tb n s → (qpar (qK tb n) 7 0).1 = s.1 → (qpar (qK tb n) 7 0).2.1 = s.2 → G 65 [some (qr 12 0), none] [] h1 := fun h1 f1 s hs S e1 e2 => by
    have e12 := S.1
    exact b_X12_read_65 hG ⟨fun _ => k h1 f1 (by rw [e1]; exact e12) (fun _ => by rw [e2]; exact S.2.2 hs) (fun z => absurd (by rw [← e1]; exact z) hs), fun q => by omega⟩
  have key : ∀ i, i ≤ 6 → ∀ h1, (qmf [1011, 1012, 1013, 1018] h h1 ∧ qps h1 tb n (0, qst (qK tb n) i) ∧ h1 12 0 18 = (i : Nat) ∧ qst (qK tb n) i ≤ 15 * i ∧ qpar (qK tb n) 7 0 = qpar (qK tb n) (7 - i) i) → G 65 [some (qr 12 0), none] [] h1 := by
    refine q_up (fun i hi ih h1 hI => b_X12_read_65 hG ?_)
    obtain ⟨f1, S, e18, hst, eP⟩ := hI
    have C1 := qcuts_f C f1 rfl
    have e12 : h1 12 0 12 = 0 := S.1
    rw [e12]
    rw [qpar_s _ hi] at eP
    refine ⟨fun q => absurd rfl q, fun _ => m_isT hL C1 S (by omega) (fun q => ⟨fun z => absurd rfl z, fun _ => ?_⟩) (fun q => ⟨fun _ => ?_, fun z => absurd z (by decide)⟩)⟩
    · have q : qK tb n (qst (qK tb n) i) ≠ 0 := by omega
      rw [if_neg q] at eP
      refine m_line hL C1 S (by omega) e18 hi (fun h2 f2 g6 g5 => ?_)
      have F2 := qmf_trans f1 f2
      by_cases c : i = 6
      · rw [if_pos c] at eP
        have S6 := g6 c
        by_cases c2 : 20 ≤ qK tb n (qst (qK tb n) i)
        · rw [if_pos c2] at eP S6
          exact bad h2 F2 _ (by show (2 : Nat) ≠ 0; omega) S6 (by rw [eP]) (by rw [eP])
        · rw [if_neg c2] at eP S6
          exact bad h2 F2 _ (by show (1 : Nat) ≠ 0; omega) S6 (by rw [eP]) (by rw [eP])
      · rw [if_neg c] at eP
        obtain ⟨S5, g18⟩ := g5 (by omega)
        by_cases c2 : (qline (qK tb n) (qst (qK tb n) i)).1 ≠ 0
        · rw [if_pos c2] at eP
          exact bad h2 F2 _ c2 S5 (by rw [eP]) (by rw [eP])
        · rw [if_neg c2] at eP
          have c3 : (qline (qK tb n) (qst (qK tb n) i)).1 = 0 := Classical.not_not.mp c2
          have := (qline_nz c3).2.1
          have est : qst (qK tb n) (i + 1) = (qline (qK tb n) (qst (qK tb n) i)).2 := rfl
          refine ih (by omega) h2 ⟨F2, ?_, g18 c3, by omega, eP⟩
          rw [est, ← c3]; exact S5
    · have q : qK tb n (qst (qK tb n) i) = 0 := by omega
      rw [if_pos q] at eP
      exact k h1 f1 (by rw [eP]; exact e12) (fun z => by rw [eP] at z; exact absurd rfl z) (fun _ => by rw [eP]; exact e18)
  refine key 0 (by omega) h ⟨qmf_refl _ _, ⟨h12, fun _ => ⟨h11, fun i hi => absurd hi (Nat.not_lt_zero _)⟩, fun z => absurd rfl z⟩, h18, Nat.le_refl _, rfl⟩
theorem m_read (hL : qhL g) (T : qmt h n tb) (K : qkeys h)
    (k0 : (qrd tb n).1 ≠ 0 → ∀ h', qmf qrsA h h' → qmt h' 0 tb → h' 12 0 16 = qPl tb n (qrd tb n).2.1 → Q ((qrd tb n).1 : Nat) h')
    (k1 : (qrd tb n).1 = 0 → ∀ h', qmf qrsB h h' → qmt h' 0 tb → h' 12 0 16 = -1 → qmd h' (qrd tb n).2.2.1 (qrd tb n).2.2.2 → h' 12 0 26 = 0 → (∀ i : Nat, i < 3 → h' 59 0 i = 0) → Q 0 h') : q_tr l g (d + 6) n_X12_read [qr 12 0] h Q := by
  refine i_X12_read hL (fun G hG _ _ => b_X12_read_0 hG ?_)
  obtain ⟨T1, T2, T3⟩ := T
  have key : ∀ x, x ≤ n → ∀ h1, (qmf [1004, 47] h h1 ∧ h1 12 0 4 = n ∧ ∀ i : Nat, i < x → h1 47 0 i = tb i) → G 10 [some (qr 12 0), some (qi (x : Int))] [] h1 := by
    refine q_up (fun x hx ih h1 hI => b_X12_read_10 hG ?_)
    obtain ⟨f1, e4, e47⟩ := hI
    rw [e4]
    refine ⟨fun q => ?_, fun q => ?_⟩
    · have ex : x = n := by omega
      subst ex
      have f2 : qmf qrsA h1 (qu h1 12 0 2 0) := qmf_qu rfl
      have X2 : qtxt (qu h1 12 0 2 0) x tb := ⟨by rw [qu_ne (by omega)]; exact e4, T2, fun i hi => by rw [qu_ne (by omega)]; exact e47 i hi⟩
      have K2 : qkeys (qu h1 12 0 2 0) := by
        unfold qkeys
        rw [qu_ne (by omega), qu_ne (by omega), qu_ne (by omega), qu_ne (by omega), qu_ne (by omega), qu_ne (by omega), qu_ne (by omega), f1 52 0 0 rfl, f1 52 0 1 rfl, f1 52 0 2 rfl, f1 52 0 3 rfl, f1 52 0 4 rfl, f1 52 0 5 rfl, f1 52 0 6 rfl]
        exact K
      have e2 : (qu h1 12 0 2 0) 12 0 2 = 0 := qu_at
      have F2 := qmf_trans (qmf_mono f1 (rs' := qrsA) rfl) f2
      generalize qu h1 12 0 2 0 = h2 at *
      refine m_cutsText (d := d + 2) hL X2 K2 (fun h3 f3 C3 => ?_)
      have F4 : qmf [1011, 1012, 1014, 1018] h3 (qu (qu (qu (qu h3 12 0 11 0) 12 0 12 0) 12 0 14 0) 12 0 18 0) := qmf_trans (qmf_trans (qmf_qu rfl) (qmf_qu rfl)) (qmf_trans (qmf_qu rfl) (qmf_qu rfl))
      have z11 : (qu (qu (qu (qu h3 12 0 11 0) 12 0 12 0) 12 0 14 0) 12 0 18 0) 12 0 11 = 0 := by rw [qu_ne (by omega), qu_ne (by omega), qu_ne (by omega), qu_at]
      have z12 : (qu (qu (qu (qu h3 12 0 11 0) 12 0 12 0) 12 0 14 0) 12 0 18 0) 12 0 12 = 0 := by rw [qu_ne (by omega), qu_ne (by omega), qu_at]
      have z14 : (qu (qu (qu (qu h3 12 0 11 0) 12 0 12 0) 12 0 14 0) 12 0 18 0) 12 0 14 = 0 := by rw [qu_ne (by omega), qu_at]
      have z18 : (qu (qu (qu (qu h3 12 0 11 0) 12 0 12 0) 12 0 14 0) 12 0 18 0) 12 0 18 = 0 := qu_at
      have C4 := qcuts_f C3 F4 rfl
      have F5 := qmf_trans F2 (qmf_trans (qmf_mono f3 (rs' := qrsA) rfl) (qmf_mono F4 (rs' := qrsA) rfl))
      have e24 : (qu (qu (qu (qu h3 12 0 11 0) 12 0 12 0) 12 0 14 0) 12 0 18 0) 12 0 2 = 0 := by rw [F4 12 0 2 rfl, f3 12 0 2 rfl]; exact e2
      generalize qu (qu (qu (qu h3 12 0 11 0) 12 0 12 0) 12 0 14 0) 12 0 18 0 = h4 at *
      refine m_lines hL hG C4 z11 z12 z18 (fun h5 f5 p1 p2 p3 => ?_)
      have F6 := qmf_trans F5 (qmf_mono f5 (rs' := qrsA) rfl)
      have e25 : h5 12 0 2 = 0 := by rw [f5 12 0 2 rfl]; exact e24
      have e14 : h5 12 0 14 = 0 := by rw [f5 12 0 14 rfl]; exact z14
      have C5 := qcuts_f C4 f5 rfl
      unfold qrd at k0 k1
      refine b_X12_read_87 hG ⟨fun q2 => ?_, fun q2 => ?_⟩
      · have z : (qpar (qK tb x) 7 0).1 ≠ 0 := by omega
        rw [if_pos z] at k0
        have F7 : qmf qrsA h (qu h5 12 0 16 (h5 12 0 13)) := qmf_trans F6 (qmf_qu rfl)
        refine b_X12_read_98 hG ⟨fun q3 => by omega, fun _ => ⟨fun q3 => ?_, fun _ => ?_⟩⟩
        · rw [qu_ne (by omega)] at q3; omega
        · rw [qu_ne (by omega), p1]
          exact k0 z _ F7 ⟨by rw [qu_ne (by omega)]; exact e25, by omega, fun i hi => absurd hi (Nat.not_lt_zero _)⟩ (by rw [qu_at]; exact p2 z)
      · have z : (qpar (qK tb x) 7 0).1 = 0 := by omega
        rw [if_neg (fun y => y z)] at k0 k1
        obtain ⟨m6, okl⟩ := qpar_ok (K := qK tb x) 7 0 rfl (by decide) z
        have okl : ∀ j, j < (qpar (qK tb x) 7 0).2.2 → (qline (qK tb x) (qst (qK tb x) j)).1 = 0 := fun j hj => okl j (Nat.zero_le _) hj
        have p3 := p3 z
        generalize (qpar (qK tb x) 7 0).2.2 = m at *
        refine m_means hL C5 m6 okl p3 q2 e14 (fun h6 f6 g0 g1 => ?_)
        have F7 := qmf_trans F6 (qmf_mono f6 (rs' := qrsA) rfl)
        have e26 : h6 12 0 2 = 0 := by rw [f6 12 0 2 rfl]; exact e25
        have e12 : h6 12 0 12 = 0 := by rw [f6 12 0 12 rfl]; exact q2
        have e18 : h6 12 0 18 = m := by rw [f6 12 0 18 rfl]; exact p3
        generalize hq : qmeans (qK tb x) (qNU tb x) (qVa tb x) m = R at *
        refine b_X12_read_98 hG ⟨fun _ => ⟨fun q3 => ?_, fun q3 => ?_⟩, fun q3 => by omega⟩
        · have r0 : R.1 = 0 := by
            rcases Nat.eq_zero_or_pos R.1 with c | c
            · exact c
            · have := (g1 (by omega)).1; omega
          obtain ⟨w14, HV⟩ := g0 r0
          rw [qu_ne (by omega), qu_ne (by omega), qu_ne (by omega), e12, w14, e18]
          refine ⟨fun _ => ⟨fun _ => ?_, fun y => absurd (Int.le_refl _) y⟩, fun y => absurd (Int.le_refl _) y⟩
          have F8 : qmf qrsB h (qu (qu h6 12 0 16 (-1)) 12 0 17 (m : Int)) := qmf_trans (qmf_mono F7 rfl) (qmf_trans (qmf_qu rfl) (qmf_qu rfl))
          have a16 : (qu (qu h6 12 0 16 (-1)) 12 0 17 (m : Int)) 12 0 16 = -1 := by rw [qu_ne (by omega), qu_at]
          have a17 : (qu (qu h6 12 0 16 (-1)) 12 0 17 (m : Int)) 12 0 17 = m := qu_at
          have a2 : (qu (qu h6 12 0 16 (-1)) 12 0 17 (m : Int)) 12 0 2 = 0 := by rw [qu_ne (by omega), qu_ne (by omega)]; exact e26
          have a55 : ∀ j, j < m → QV2 (R.2.2 j) ∧ qmr (qu (qu h6 12 0 16 (-1)) 12 0 17 (m : Int)) 55 (4 * j) (R.2.2 j) := fun j hj => ⟨(HV j hj).1, qmr_fr (HV j hj).2 (fun u _ _ => by rw [qu_ne (by omega), qu_ne (by omega)])⟩
          generalize qu (qu h6 12 0 16 (-1)) 12 0 17 (m : Int) = h7 at *
          -- the sets are taken over
          have cp : ∀ u, u ≤ 24 → ∀ h8, (qmf [154] h7 h8 ∧ ∀ v : Nat, v < u → h8 54 0 v = h7 55 0 v) → G 165 [some (qr 12 0), some (qi (u : Int))] [] h8 := by
            refine q_up (fun u hu ihu h8 hI => b_X12_read_165 hG ⟨fun q4 => ?_, fun q4 => ⟨by omega, by omega, by omega, ihu (by omega) _ ⟨qmf_trans hI.1 (qmf_qu (by rw [qcd_lo (by omega)]; rfl)), fun v hv => ?_⟩⟩⟩)
            · obtain ⟨f8, c8⟩ := hI
              have F9 : qmf qrsB h (qu h8 12 0 26 0) := qmf_trans F8 (qmf_trans (qmf_mono f8 rfl) (qmf_qu rfl))
              have b16 : (qu h8 12 0 26 0) 12 0 16 = -1 := by rw [qu_ne (by omega), f8 12 0 16 rfl]; exact a16
              have b17 : (qu h8 12 0 26 0) 12 0 17 = m := by rw [qu_ne (by omega), f8 12 0 17 rfl]; exact a17
              have b2 : (qu h8 12 0 26 0) 12 0 2 = 0 := by rw [qu_ne (by omega), f8 12 0 2 rfl]; exact a2
              have b26 : (qu h8 12 0 26 0) 12 0 26 = 0 := qu_at
              have b54 : ∀ j, j < m → QV2 (R.2.2 j) ∧ qmr (qu h8 12 0 26 0) 54 (4 * j) (R.2.2 j) := fun j hj => by
                refine ⟨(a55 j hj).1, fun y hy => ?_⟩
                rw [qu_ne (by omega), c8 (4 * j + y / 64) (by omega)]
                exact (a55 j hj).2 y hy
              generalize qu h8 12 0 26 0 = h9 at *
              have hd : ∀ v, v ≤ 3 → ∀ h10, (qmf [59] h9 h10 ∧ ∀ i : Nat, i < v → h10 59 0 i = 0) → G 196 [some (qr 12 0), some (qi (v : Int))] [] h10 := by
                refine q_up (fun v hv ihv h10 hI => b_X12_read_196 hG ⟨fun q5 => ?_, fun q5 => ⟨⟨by omega, Or.inl rfl⟩, by omega, ihv (by omega) _ ⟨qmf_trans hI.1 (qmf_qu rfl), fun i hi => ?_⟩⟩⟩)
                · obtain ⟨f10, c10⟩ := hI
                  refine k1 r0 h10 (qmf_trans F9 (qmf_mono f10 rfl)) ⟨by rw [f10 12 0 2 rfl]; exact b2, by omega, fun i hi => absurd hi (Nat.not_lt_zero _)⟩ (by rw [f10 12 0 16 rfl]; exact b16) ⟨by rw [f10 12 0 17 rfl]; exact b17, m6, fun j hj => ⟨(b54 j hj).1, qmr_f (b54 j hj).2 (show 4 * j ≤ 20 by have : j < m := hj; omega) f10 rfl⟩⟩ (by rw [f10 12 0 26 rfl]; exact b26) (fun i hi => c10 i (by omega))
                · by_cases c : i = v
                  · rw [c, qu_at]
                  · rw [qu_ne (by omega)]; exact hI.2 i (by omega)
              exact hd 0 (Nat.zero_le _) h9 ⟨qmf_refl _ _, fun i hi => absurd hi (Nat.not_lt_zero _)⟩
            · by_cases c : v = u
              · rw [c, qu_at]
                exact hI.1 55 0 u rfl
              · rw [qu_ne (by omega)]; exact hI.2 v (by omega)
          exact cp 0 (Nat.zero_le _) h7 ⟨qmf_refl _ _, fun v hv => absurd hv (Nat.not_lt_zero _)⟩
        · have r0 : R.1 ≠ 0 := fun c => by
            have := (g0 c).1; omega
          have o := g1 r0
          have F8 : qmf qrsA h (qu h6 12 0 16 (h6 12 0 15)) := qmf_trans F7 (qmf_qu rfl)
          have n12 : (qu h6 12 0 16 (h6 12 0 15)) 12 0 12 = 0 := by rw [qu_ne (by omega)]; exact e12
          have n14 : (qu h6 12 0 16 (h6 12 0 15)) 12 0 14 = (R.1 : Nat) := by rw [qu_ne (by omega)]; exact o.1
          rw [n12, n14]
          exact ⟨fun _ => ⟨fun q4 => by omega, fun _ => k0 r0 _ F8 ⟨by rw [qu_ne (by omega)]; exact e26, by omega, fun i hi => absurd hi (Nat.not_lt_zero _)⟩ (by rw [qu_at]; exact o.2)⟩, fun q4 => absurd (Int.le_refl _) q4⟩
    · have hxn : x < n := by omega
      have t3 := T3 x hxn
      have e46 : h1 46 0 (x : Int) = tb x := by rw [f1 46 0 x rfl]; exact t3.1
      rw [e46]
      refine ⟨by omega, ⟨by omega, t3.2⟩, by omega, ih hxn _ ⟨qmf_trans f1 (qmf_qu rfl), by rw [qu_ne (by omega)]; exact e4, fun i hi => ?_⟩⟩
      by_cases c : i = x
      · rw [c, qu_at]
      · rw [qu_ne (by omega)]; exact e47 i (by omega)
  rw [T1]
  exact key 0 (Nat.zero_le _) _ ⟨qmf_qu rfl, qu_at, fun i hi => absurd hi (Nat.not_lt_zero _)⟩
end MM6
