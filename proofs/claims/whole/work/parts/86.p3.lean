/-! the program's maker: one line, all lines -/
def qfc (s : Int) (h h' : QM) : Prop := ∀ r k j, r ≠ 27 → r ≠ 5 → (k ≠ s ∨ (r ≠ 8 ∧ r ≠ 30 ∧ r ≠ 31 ∧ r ≠ 32)) → h' r k j = h r k j
theorem qfc_k {x : Int} {i : Nat} {h h' : QM} (f : qfc (6 * x + i) h h') (hi : i < 6) : qfk x h h' := fun r k j e => f r k j (by omega) (by omega) (by omega)
theorem qhall_c {x : Int} {i m : Nat} {h h' : QM} {H : Nat → QZ} (A : qhall h x m H) (f : qfc (6 * x + i) h h') (hm : m ≤ i) : qhall h' x m H :=
  ⟨by rw [f 2 x 1 (by omega) (by omega) (by omega)]; exact A.1, A.2.1, fun j hj => ⟨(A.2.2 j hj).1, qat_fr (A.2.2 j hj).2 (fun r c hr => f r _ c (by omega) (by omega) (by omega))⟩⟩
theorem qmeans_s (K N : Nat → Nat) (V : Nat → Int) (i : Nat) : qmeans K N V (i + 1) = if (qmeans K N V i).1 ≠ 0 then qmeans K N V i else if (qmean1 K N V (qmeans K N V i).2.2 i).1 ≠ 0 then ((qmean1 K N V (qmeans K N V i).2.2 i).1, (qmean1 K N V (qmeans K N V i).2.2 i).2.1, (qmeans K N V i).2.2) else (0, 0, qup (qmeans K N V i).2.2 i (qmean1 K N V (qmeans K N V i).2.2 i).2.2) := rfl
theorem qmeans_stay {K N : Nat → Nat} {V : Nat → Int} {i : Nat} (h : (qmeans K N V i).1 ≠ 0) : ∀ m, i ≤ m → qmeans K N V m = qmeans K N V i
  | 0, hm => by rw [show i = 0 by omega]
  | m + 1, hm => by
    by_cases e : i = m + 1
    · rw [e]
    · have := qmeans_stay h m (by omega)
      rw [qmeans_s, this, if_pos h]
section QP3
variable {l : Launch} {g : QG} {d : Nat} {h : QM} {Q : Int → QM → Prop} {n : Nat} {tb : Nat → Int} {x : Int} {H : Nat → QZ}
theorem s_makeOne {i : Nat} (hL : qhL g) (hi : i < 6) (hx : 0 ≤ x) (ok : ∀ j, j ≤ i → (qline (qK tb n) (qst (qK tb n) j)).1 = 0) (L : ∀ j, j ≤ i → qlp h tb n j (qst (qK tb n) j)) (A : qhall h x i H)
    (k : ∀ h', qfc (6 * x + i) h h' → ((qmean1 (qK tb n) (qNU tb n) (qVa tb n) H i).1 ≠ 0 → h' 5 0 1 = qPl tb n (qmean1 (qK tb n) (qNU tb n) (qVa tb n) H i).2.1) → ((qmean1 (qK tb n) (qNU tb n) (qVa tb n) H i).1 = 0 → h' 5 0 1 = h 5 0 1 ∧ QV2 (qmean1 (qK tb n) (qNU tb n) (qVa tb n) H i).2.2 ∧ qat h' (6 * x + i) (qmean1 (qK tb n) (qNU tb n) (qVa tb n) H i).2.2) → Q ((qmean1 (qK tb n) (qNU tb n) (qVa tb n) H i).1 : Nat) h') : q_tr l g (d + 6) n_X5_makeOne [qr 5 0, qr 28 0, qi (i : Int), qr 2 x] h Q := by
  have hK := qK_le tb n (qst (qK tb n) i)
  obtain ⟨n1, n2, n3, n4, n5, n6, n7, n8, n9, n10⟩ := qline_nz (ok i (Nat.le_refl _))
  obtain ⟨p1, p2, p3, p4, p5, p6⟩ := L i (Nat.le_refl _)
  have K1 : ∀ j, j < i → qK tb n (qst (qK tb n) j + 1) = 1 := fun j hj => (qline_nz (ok j (by omega))).2.2.2.2.1 0 (by have := qdue_bd (qK tb n (qst (qK tb n) j) - 20); omega)
  have hd := qdue_bd (qK tb n (qst (qK tb n) i) - 20)
  have hmx := qimax_bd (qK tb n (qst (qK tb n) i) - 20)
  obtain ⟨w, ew⟩ : ∃ w, qK tb n (qst (qK tb n) i) - 20 = w := ⟨_, rfl⟩
  have hw6 : w ≤ 6 := by omega
  have ek : (qK tb n (qst (qK tb n) i) : Int) - 19 = (w : Int) + 1 := by omega
  rw [ek] at p1
  have bad : ∀ (f tok : Nat) (pl : Int), f ≠ 0 → qmean1 (qK tb n) (qNU tb n) (qVa tb n) H i = (f, tok, fun _ => true) → pl = qPl tb n tok → ∀ h1, qfc (6 * x + i) h h1 → Q (f : Int) (qu h1 5 0 1 pl) := fun f tok pl hf e ep h1 f1 => by
    have := k (qu h1 5 0 1 pl) (fun r c j e1 e2 e3 => by rw [qu_ne (by omega)]; exact f1 r c j e1 e2 e3)
    rw [e] at this
    exact this (fun _ => by rw [qu_at]; exact ep) (fun z => absurd z hf)
  unfold qmean1 at k bad
  rw [ew] at k bad n5 n8 n9 hd hmx p2 p5
  generalize qst (qK tb n) i = t at *
  generalize qu0 (qK tb n) t = U at *
  generalize qni (qK tb n) t = B at *
  have own : ∀ j, j < qdue w → ∀ Q' : Int → QM → Prop, (qown (qNU tb n) (qK tb n) i (t + 1 + j) = i → Q' (-1) h) → (qown (qNU tb n) (qK tb n) i (t + 1 + j) < i → Q' (qown (qNU tb n) (qK tb n) i (t + 1 + j) : Nat) h) → ∀ dd, q_tr l g (dd + 1) n_X5_ownerOf [ql (h 23 i (j : Int)), qr 28 0, qi (i : Int)] h Q' := fun j hj Q' k0 k1 dd =>
    s_ownerOf hL hi (fun j' hj' => L j' (by omega)) K1 (n5 j hj) (p5 j hj).1 k0 k1
  -- the INTS and what is built
  have ints : ∀ (x5 x6 : Option (Nat × Int)), ¬ qown (qNU tb n) (qK tb n) i (t + 1) < i → ¬ (2 ≤ qdue w ∧ qown (qNU tb n) (qK tb n) i (t + 2) = i) → ¬ (3 ≤ qdue w ∧ qown (qNU tb n) (qK tb n) i (t + 3) = i) →
      (∀ (v : Int) (Q' : Int → QM → Prop), Q' (qb (qright w (H (qown (qNU tb n) (qK tb n) i (t + 2))) v)) h → q_tr l g (d + 5) n_X5_isRight [qi ((w : Int) + 1), qi v, .inr (.inr x5)] h Q') →
      ((∀ j, j < B → qright w (H (qown (qNU tb n) (qK tb n) i (t + 2))) (qVa tb n (U + j)) = true) → QV0 (qres w (H (qown (qNU tb n) (qK tb n) i (t + 2))) (H (qown (qNU tb n) (qK tb n) i (t + 3))) (fun j => qVa tb n (U + j)) B) ∧ ∀ Q' : Int → QM → Prop, (∀ h', qfb (6 * x + i) h h' → (qacc (qres w (H (qown (qNU tb n) (qK tb n) i (t + 2))) (H (qown (qNU tb n) (qK tb n) i (t + 3))) (fun j => qVa tb n (U + j)) B) = true → qat h' (6 * x + i) (qres w (H (qown (qNU tb n) (qK tb n) i (t + 2))) (H (qown (qNU tb n) (qK tb n) i (t + 3))) (fun j => qVa tb n (U + j)) B)) → Q' (qb (qacc (qres w (H (qown (qNU tb n) (qK tb n) i (t + 2))) (H (qown (qNU tb n) (qK tb n) i (t + 3))) (fun j => qVa tb n (U + j)) B))) h') → q_tr l g (d + 5) n_X5_build [qr 5 0, qr 4 i, qr 8 (6 * x + i), .inr (.inr x5), .inr (.inr x6)] h Q') →
      ∀ G : QK, q_clo (q_S g) (q_tr l g (d + 5)) Q 5 k_X5_makeOne 1 false G → G 149 [some (qr 5 0), none, some (qi (i : Int)), some (qr 2 x), some (qr 4 i), some (.inr (.inr x5)), some (.inr (.inr x6)), some (qi ((0 : Nat) : Int))] [] h := by
    intro x5 x6 t1 t2 t3 isR bld G hG
    rw [if_neg t1, if_neg t2, if_neg t3] at k bad
    generalize H (qown (qNU tb n) (qK tb n) i (t + 2)) = C at *
    generalize H (qown (qNU tb n) (qK tb n) i (t + 3)) = D at *
    have key : ∀ j, j ≤ B → (∀ j', j' < j → qright w C (qVa tb n (U + j')) = true) → G 149 [some (qr 5 0), none, some (qi (i : Int)), some (qr 2 x), some (qr 4 i), some (.inr (.inr x5)), some (.inr (.inr x6)), some (qi (j : Int))] [] h := by
      refine q_up (fun j hj ih hI => b_X5_makeOne_149 hG ?_)
      rw [p3, p1]
      refine ⟨fun q => ⟨by omega, ?_⟩, fun q => ⟨by omega, ?_⟩⟩
      · have all : ∀ j, j < B → qright w C (qVa tb n (U + j)) = true := fun j' hj' => hI j' (by omega)
        obtain ⟨Z, bld⟩ := bld all
        refine bld _ (fun h1 f1 r1 => ?_)
        have f1c : qfc (6 * x + i) h h1 := fun r c j e1 e2 e3 => f1 r c j e1 e3
        rw [qgoods_all all, if_neg (Nat.lt_irrefl _)] at k bad
        cases ea : qacc (qres w C D (fun j => qVa tb n (U + j)) B) with
        | false =>
          rw [if_pos ea] at bad
          refine ⟨fun _ => s_faultAt hL (bad 6 (U + B) _ (by decide) rfl ?_ h1 f1c), fun z => absurd rfl z⟩
          rw [f1 4 i 7 (by omega) (by omega)]; exact p4
        | true =>
          rw [if_neg (by rw [ea]; decide)] at k
          refine ⟨fun z => absurd z (by decide), fun _ => k h1 f1c (fun z => absurd rfl z) (fun _ => ⟨f1 5 0 1 (by omega) (by omega), (qacc_iff Z).mp ea, r1 ea⟩)⟩
      · have hjB : j < B := by omega
        have e6 := p6 j hjB
        rw [e6.1]
        refine isR _ _ ⟨fun q2 => ⟨by omega, ih hjB (fun j' hj' => ?_)⟩, fun q2 => ⟨by omega, s_faultAt hL ?_⟩⟩
        · by_cases c : j' = j
          · rw [c]; exact qb_n0.mp q2
          · exact hI j' (by omega)
        · rw [qgoods_is (w := w) (A := C) (a := fun j => qVa tb n (U + j)) hjB hI (qb_0.mp q2), if_pos hjB] at bad
          exact bad 5 (U + j) _ (by decide) rfl e6.2 h (fun _ _ _ _ _ _ => rfl)
    exact key 0 (Nat.zero_le _) (fun j' hj' => absurd hj' (Nat.not_lt_zero _))
  refine i_X5_makeOne hL (fun G hG _ _ => b_X5_makeOne_0 hG ⟨by omega, by omega, ?_⟩)
  have ne : ∀ j : Nat, j < i → 6 * x + (j : Int) ≠ 6 * x + i := fun j hj => by omega
  refine own 0 (by omega) _ (fun o0 => ⟨fun _ => ?_, fun z => absurd rfl z⟩) (fun o0 => ⟨fun z => by omega, fun _ => ⟨by omega, s_faultAt hL ?_⟩⟩) _
  · have t1 : ¬ qown (qNU tb n) (qK tb n) i (t + 1) < i := by
      rw [Nat.add_zero] at o0; omega
    refine b_X5_makeOne_37 hG ?_
    rw [p2]
    refine ⟨fun q => ⟨fun q2 => by omega, fun _ => ⟨fun q2 => by omega, fun _ => ?_⟩⟩, fun q => ⟨by omega, ?_⟩⟩
    · -- of
      have hw0 : w = 0 := by
        rcases Nat.eq_zero_or_pos w with z | z
        · exact z
        · exfalso
          unfold qdue at q
          rw [if_neg (by omega)] at q
          revert q
          split <;> omega
      refine ints none none t1 (fun z => by omega) (fun z => by omega) (fun v Q' kk => ?_) (fun all => ⟨?_, fun Q' kk => ?_⟩) G hG
      · subst hw0
        exact s_right0 hL _ kk
      · exact qres_v0 hw6 (fun z => by omega) (fun z => by omega) all n8
      · subst hw0
        exact s_build0 hL p1 p3 (by omega) (fun j hj => (p6 j hj).1) all kk
    · refine own 1 (by omega) _ (fun o1 => ⟨fun z => absurd rfl z, fun _ => ⟨by omega, s_faultAt hL ?_⟩⟩) (fun o1 => ⟨fun _ => ⟨by omega, ?_⟩, fun z => by omega⟩) _
      · rw [if_neg t1, if_pos ⟨by omega, o1⟩] at bad
        exact bad 4 (t + 2) _ (by decide) rfl (p5 1 (by omega)).2 h (fun _ _ _ _ _ _ => rfl)
      · have t2 : ¬ (2 ≤ qdue w ∧ qown (qNU tb n) (qK tb n) i (t + 2) = i) := fun z => by
          have e : t + 1 + 1 = t + 2 := rfl
          rw [e] at o1; omega
        have A1 := A.2.2 _ o1
        rw [show (1 : Int) + 1 = 2 from rfl]
        refine b_X5_makeOne_37 hG ?_
        rw [p2]
        refine ⟨fun q => ⟨fun q2 => ⟨by omega, ?_⟩, fun q2 => by omega⟩, fun q => ⟨by omega, ?_⟩⟩
        · -- two names
          have hd2 : qdue w = 2 := by omega
          have hw3 : 3 ≤ w := by
            rcases Nat.lt_or_ge w 3 with z | z
            · exfalso
              unfold qdue at hd2
              revert hd2
              split
              · omega
              · split <;> omega
            · exact z
          refine own 1 (by omega) _ (fun z => by omega) (fun _ => s_at hL A (fun j ej hj => ⟨fun z => by omega, fun _ => ?_⟩) (fun z => by omega)) _
          rw [p2]
          refine ⟨fun z => by omega, fun _ => ?_⟩
          rw [show j = qown (qNU tb n) (qK tb n) i (t + 1 + 1) by omega]
          refine ints (some (8, _)) none t1 t2 (fun z => by omega) (fun v Q' kk => s_right1 (d := d + 1) hL (by omega) hw6 A1.1 A1.2 kk) (fun all => ⟨?_, fun Q' kk => ?_⟩) G hG
          · exact qres_v0 hw6 (fun _ => A1.1.1) (fun z => by omega) all n8
          · exact s_build1 hL p1 hw3 hw6 A1.1 A1.2 (ne _ o1) n8 (fun j hj => (p6 j hj).1) all kk
        · have hd3 : qdue w = 3 := by omega
          have hw12 : w = 1 ∨ w = 2 := by
            unfold qdue at hd3
            revert hd3
            split
            · omega
            · split
              · intro _; omega
              · omega
          refine own 2 (by omega) _ (fun o2 => ⟨fun z => absurd rfl z, fun _ => ⟨by omega, s_faultAt hL ?_⟩⟩) (fun o2 => ⟨fun _ => ⟨by omega, ?_⟩, fun z => by omega⟩) _
          · rw [if_neg t1, if_neg t2, if_pos ⟨by omega, o2⟩] at bad
            exact bad 4 (t + 3) _ (by decide) rfl (p5 2 (by omega)).2 h (fun _ _ _ _ _ _ => rfl)
          · have t3 : ¬ (3 ≤ qdue w ∧ qown (qNU tb n) (qK tb n) i (t + 3) = i) := fun z => by
              have e : t + 1 + 2 = t + 3 := rfl
              rw [e] at o2; omega
            have A2 := A.2.2 _ o2
            rw [show (2 : Int) + 1 = 3 from rfl]
            refine b_X5_makeOne_37 hG ?_
            rw [p2]
            refine ⟨fun q => ⟨fun q2 => ⟨by omega, ?_⟩, fun q2 => by omega⟩, fun q => by omega⟩
            refine own 1 (by omega) _ (fun z => by omega) (fun _ => s_at hL A (fun j ej hj => ⟨fun z => by omega, fun _ => ?_⟩) (fun z => by omega)) _
            rw [p2]
            refine ⟨fun _ => ⟨by omega, ?_⟩, fun z => by omega⟩
            rw [show j = qown (qNU tb n) (qK tb n) i (t + 1 + 1) by omega]
            refine own 2 (by omega) _ (fun z => by omega) (fun _ => s_at hL A (fun j2 ej2 hj2 => ⟨fun z => by omega, fun _ => ?_⟩) (fun z => by omega)) _
            rw [show j2 = qown (qNU tb n) (qK tb n) i (t + 1 + 2) by omega]
            refine ints (some (8, _)) (some (8, _)) t1 t2 t3 (fun v Q' kk => s_right1 (d := d + 1) hL (by omega) hw6 A1.1 A1.2 kk) (fun all => ⟨?_, fun Q' kk => ?_⟩) G hG
            · exact qres_v0 hw6 (fun _ => A1.1.1) (fun _ => A2.1.1) all n8
            · exact s_build2 (d := d + 1) hL p1 hw12 A1.1 A1.2 (ne _ o1) A2.1 A2.2 (ne _ o2) kk
  · rw [Nat.add_zero] at o0
    rw [if_pos o0] at bad
    exact bad 3 (t + 1) _ (by decide) rfl (p5 0 (by omega)).2 h (fun _ _ _ _ _ _ => rfl)
theorem s_make {m : Nat} (hL : qhL g) (hm : m ≤ 6) (hx : 0 ≤ x) (ok : ∀ j, j < m → (qline (qK tb n) (qst (qK tb n) j)).1 = 0) (L : ∀ j, j < m → qlp h tb n j (qst (qK tb n) j)) (h1 : h 6 0 1 = m)
    (k : ∀ h', qfk x h h' → ((qmeans (qK tb n) (qNU tb n) (qVa tb n) m).1 ≠ 0 → h' 5 0 1 = qPl tb n (qmeans (qK tb n) (qNU tb n) (qVa tb n) m).2.1) → ((qmeans (qK tb n) (qNU tb n) (qVa tb n) m).1 = 0 → h' 5 0 1 = -1 ∧ qhall h' x m (qmeans (qK tb n) (qNU tb n) (qVa tb n) m).2.2) → Q ((qmeans (qK tb n) (qNU tb n) (qVa tb n) m).1 : Nat) h') : q_tr l g (d + 7) n_X5_make [qr 5 0, qr 6 0, qr 2 x] h Q := by
  refine i_X5_make hL (fun G hG _ _ => b_X5_make_0 hG ?_)
  have key : ∀ i, i ≤ m → ∀ h2, (qfk x h h2 ∧ (qmeans (qK tb n) (qNU tb n) (qVa tb n) i).1 = 0 ∧ h2 5 0 1 = -1 ∧ qhall h2 x i (qmeans (qK tb n) (qNU tb n) (qVa tb n) i).2.2) → G 12 [some (qr 5 0), some (qr 6 0), some (qr 2 x), some (qi (i : Int)), none] [] h2 := by
    refine q_up (fun i hi ih h2 hI => b_X5_make_12 hG ?_)
    obtain ⟨f2, e0, e51, A⟩ := hI
    rw [f2 6 0 1 (by omega), h1]
    refine ⟨fun q => ?_, fun q => ⟨fun q2 => by omega, fun _ => ?_⟩⟩
    · have : i = m := by omega
      subst this
      have kk := k h2 f2 (fun z => absurd e0 z) (fun _ => ⟨e51, A⟩)
      rw [e0] at kk; exact kk
    · have him : i < m := by omega
      refine s_makeOne hL (by omega) hx (fun j hj => ok j (by omega)) (fun j hj => qlp_k (L j (by omega)) f2) A (fun h3 f3 g1 g2 => ?_)
      have eS := qmeans_s (qK tb n) (qNU tb n) (qVa tb n) i
      rw [if_neg (fun z => z e0)] at eS
      have F3 := qfk_trans f2 (qfc_k f3 (by omega))
      have A3 := qhall_c A f3 (Nat.le_refl _)
      generalize qmean1 (qK tb n) (qNU tb n) (qVa tb n) (qmeans (qK tb n) (qNU tb n) (qVa tb n) i).2.2 i = R at *
      refine ⟨fun z => ?_, fun z => ?_⟩
      · have z : R.1 = 0 := by omega
        obtain ⟨y1, y2, y3⟩ := g2 z
        rw [if_neg (fun y => y z)] at eS
        rw [A3.1]
        have F4 : qfk x h3 (qu h3 2 x 1 ((i : Int) + 1)) := fun r c j e => qu_ne (by omega)
        refine ⟨by omega, by omega, ih him _ ⟨qfk_trans F3 F4, by rw [eS], ?_, ?_⟩⟩
        · rw [qu_ne (by omega), y1]; exact e51
        · rw [eS]
          refine ⟨by rw [qu_at]; omega, by omega, fun j hj => ?_⟩
          show QV2 (qup _ i R.2.2 j) ∧ qat _ _ (qup _ i R.2.2 j)
          by_cases c : j = i
          · rw [c, qup_at]
            exact ⟨y2, qat_fr y3 (fun r c hr => qu_ne (by omega))⟩
          · rw [qup_ne c]
            have := A3.2.2 j (by omega)
            exact ⟨this.1, qat_fr this.2 (fun r c hr => qu_ne (by omega))⟩
      · have z : R.1 ≠ 0 := by omega
        rw [if_pos z] at eS
        have e2 := qmeans_stay (K := qK tb n) (N := qNU tb n) (V := qVa tb n) (i := i + 1) (by rw [eS]; exact z) m (by omega)
        have kk := k h3 F3
        rw [e2, eS] at kk
        exact kk (fun _ => g1 z) (fun y => absurd y z)
  refine key 0 (Nat.zero_le _) _ ⟨fun r c j e => by rw [qu_ne (by omega), qu_ne (by omega)], rfl, ?_, ?_, by omega, fun j hj => absurd hj (Nat.not_lt_zero _)⟩
  · rw [qu_ne (by omega), qu_at]
  · rw [qu_at]; rfl
end QP3
