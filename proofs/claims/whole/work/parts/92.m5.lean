/-! the model: what all lines make -/
theorem qst_mono {K : Nat → Nat} {m : Nat} (h : ∀ j, j < m → (qline K (qst K j)).1 = 0) : ∀ j, j ≤ m → ∀ i, i ≤ j → qst K i ≤ qst K j
  | 0, _, i, hi => by rw [show i = 0 by omega]; exact Nat.le_refl _
  | j + 1, hj, i, hi => by
    by_cases e : i = j + 1
    · rw [e]; exact Nat.le_refl _
    · have ih := qst_mono h j (by omega) i (by omega)
      have := (qline_nz (h j (by omega))).2.2.1
      have e2 : qst K (j + 1) = (qline K (qst K j)).2 := rfl
      omega
theorem qwo_f {h h' : QM} {tb : Nat → Int} {n f t : Nat} {rs : List Nat} (a : qwo h tb n f t) (F : qmf rs h h') (e : (rs.contains 1014 || rs.contains 1015) = false) : qwo h' tb n f t := by
  rw [Bool.or_eq_false_iff] at e
  exact ⟨by rw [F 12 0 14 e.1]; exact a.1, by rw [F 12 0 15 e.2]; exact a.2⟩
theorem qmq_mf {a : Nat} {h h' : QM} (f : qmq a h h') : qmf [1014, 1015, 1023, 53, 55, 56] h h' := fun r i j q => f r i j (fun z => by
  obtain ⟨z1, z2⟩ := z
  subst z1
  rcases z2 with z2 | z2 <;> subst z2 <;> exact absurd q (by decide)) (fun z => by
  obtain ⟨z1, z2⟩ := z
  subst z1
  rw [qcd_r (by omega) (by omega)] at q
  exact absurd q (by decide))
section MM5
variable {l : Launch} {g : QG} {d : Nat} {h : QM} {Q : Int → QM → Prop} {n : Nat} {tb : Nat → Int}
theorem m_means {m : Nat} (hL : qhL g) (C : qcuts h tb n) (hm : m ≤ 6) (ok : ∀ j, j < m → (qline (qK tb n) (qst (qK tb n) j)).1 = 0) (h18 : h 12 0 18 = m) (h0 : h 12 0 12 = 0) (h1 : h 12 0 14 = 0)
    (k : ∀ h', qmf [1014, 1015, 1023, 53, 55, 56] h h' → ((qmeans (qK tb n) (qNU tb n) (qVa tb n) m).1 = 0 → h' 12 0 14 = 0 ∧ ∀ j, j < m → QV2 ((qmeans (qK tb n) (qNU tb n) (qVa tb n) m).2.2 j) ∧ qmr h' 55 (4 * j) ((qmeans (qK tb n) (qNU tb n) (qVa tb n) m).2.2 j)) → ((qmeans (qK tb n) (qNU tb n) (qVa tb n) m).1 ≠ 0 → qwo h' tb n (qmeans (qK tb n) (qNU tb n) (qVa tb n) m).1 (qmeans (qK tb n) (qNU tb n) (qVa tb n) m).2.1) → Q 0 h') : q_tr l g (d + 5) n_X12_means [qr 12 0] h Q := by
  refine i_X12_means hL (fun G hG _ _ => b_X12_means_0 hG ?_)
  have hst := qst_ok ok
  have hmono := qst_mono ok m (Nat.le_refl _)
  have hM := (hst m (Nat.le_refl _)).1
  have C0 : qcut h tb n (qst (qK tb n) m) := fun t ht => qcuts_at C (by omega) (fun i hi => (hst m (Nat.le_refl _)).2 i (by omega))
  have C1 : ∀ h1, qmf [1014, 1015, 1023, 53, 55, 56] h h1 → qcut h1 tb n (qst (qK tb n) m) := fun h1 f t ht => by
    rw [f 48 0 t rfl, f 49 0 t rfl, f 50 0 t rfl, f 51 0 t rfl]; exact C0 t ht
  generalize hMM : qst (qK tb n) m = M at *
  have key : ∀ i, i ≤ m → ∀ h2, qmf [1014, 1015, 1023, 53, 55, 56] h h2 → ((qmeans (qK tb n) (qNU tb n) (qVa tb n) i).1 = 0 → h2 12 0 14 = 0 ∧ (∀ j : Nat, j < i → h2 53 0 j = (qN7 tb n (qst (qK tb n) j + 1) : Nat)) ∧ ∀ j, j < i → QV2 ((qmeans (qK tb n) (qNU tb n) (qVa tb n) i).2.2 j) ∧ qmr h2 55 (4 * j) ((qmeans (qK tb n) (qNU tb n) (qVa tb n) i).2.2 j)) → ((qmeans (qK tb n) (qNU tb n) (qVa tb n) i).1 ≠ 0 → qwo h2 tb n (qmeans (qK tb n) (qNU tb n) (qVa tb n) i).1 (qmeans (qK tb n) (qNU tb n) (qVa tb n) i).2.1) → G 4 [some (qr 12 0), some (qi ((qst (qK tb n) i : Nat) : Int)), some (qi (i : Int)), none] [] h2 := by
    refine q_up (fun i hi ih h2 f2 g0 g1 => b_X12_means_4 hG ?_)
    rw [f2 12 0 18 rfl, h18]
    by_cases e0 : (qmeans (qK tb n) (qNU tb n) (qVa tb n) i).1 = 0
    · obtain ⟨w0, nm, HV⟩ := g0 e0
      rw [w0]
      refine ⟨fun q => ?_, fun q => ⟨fun q2 => absurd rfl q2, fun _ => ?_⟩⟩
      · have : i = m := by omega
        subst this
        exact k h2 f2 (fun _ => ⟨w0, HV⟩) g1
      · have him : i < m := by omega
        have hK := qK_le tb n (qst (qK tb n) i)
        obtain ⟨n1, n2, n3, n4, n5, n6, n7, n8, n9, n10⟩ := qline_nz (ok i him)
        have est : qst (qK tb n) (i + 1) = (qline (qK tb n) (qst (qK tb n) i)).2 := rfl
        have hle := hmono (i + 1) (by omega)
        obtain ⟨w, ew⟩ : ∃ w, qK tb n (qst (qK tb n) i) = w + 20 := ⟨qK tb n (qst (qK tb n) i) - 20, by omega⟩
        have ew2 : qK tb n (qst (qK tb n) i) - 20 = w := by omega
        have eS := qmeans_s (qK tb n) (qNU tb n) (qVa tb n) i
        rw [if_neg (fun z => z e0)] at eS
        have eU0 : qu0 (qK tb n) (qst (qK tb n) i) = qst (qK tb n) i + 1 + qdue w := by unfold qu0; rw [ew2]
        have ih := ih him
        generalize hH : (qmeans (qK tb n) (qNU tb n) (qVa tb n) i).2.2 = H at *
        have e1 : qmean1 (qK tb n) (qNU tb n) (qVa tb n) H i = if qown (qNU tb n) (qK tb n) i (qst (qK tb n) i + 1) < i then (3, qst (qK tb n) i + 1, fun _ => true)
          else if 2 ≤ qdue w ∧ qown (qNU tb n) (qK tb n) i (qst (qK tb n) i + 2) = i then (4, qst (qK tb n) i + 2, fun _ => true)
          else if 3 ≤ qdue w ∧ qown (qNU tb n) (qK tb n) i (qst (qK tb n) i + 3) = i then (4, qst (qK tb n) i + 3, fun _ => true)
          else if qgoods w (H (qown (qNU tb n) (qK tb n) i (qst (qK tb n) i + 2))) (fun j => qVa tb n (qu0 (qK tb n) (qst (qK tb n) i) + j)) (qni (qK tb n) (qst (qK tb n) i)) < qni (qK tb n) (qst (qK tb n) i) then (5, qu0 (qK tb n) (qst (qK tb n) i) + qgoods w (H (qown (qNU tb n) (qK tb n) i (qst (qK tb n) i + 2))) (fun j => qVa tb n (qu0 (qK tb n) (qst (qK tb n) i) + j)) (qni (qK tb n) (qst (qK tb n) i)), fun _ => true)
          else if qacc (qres w (H (qown (qNU tb n) (qK tb n) i (qst (qK tb n) i + 2))) (H (qown (qNU tb n) (qK tb n) i (qst (qK tb n) i + 3))) (fun j => qVa tb n (qu0 (qK tb n) (qst (qK tb n) i) + j)) (qni (qK tb n) (qst (qK tb n) i))) = false then (6, qu0 (qK tb n) (qst (qK tb n) i) + qni (qK tb n) (qst (qK tb n) i), fun _ => true)
          else (0, 0, qres w (H (qown (qNU tb n) (qK tb n) i (qst (qK tb n) i + 2))) (H (qown (qNU tb n) (qK tb n) i (qst (qK tb n) i + 3))) (fun j => qVa tb n (qu0 (qK tb n) (qst (qK tb n) i) + j)) (qni (qK tb n) (qst (qK tb n) i))) := by
          unfold qmean1
          rw [ew2]
        rw [n1] at est n2 n3 n10
        rw [ew2] at n5 n8 n9
        generalize hR : qmean1 (qK tb n) (qNU tb n) (qVa tb n) H i = R1 at *
        generalize hB : qni (qK tb n) (qst (qK tb n) i) = B at *
        generalize hU : qu0 (qK tb n) (qst (qK tb n) i) = U at *
        generalize ht : qst (qK tb n) i = t at *
        have hd := qdue_bd w
        have hmx := qimax_bd w
        have K1 : qK tb n (t + 1) = 1 := n5 0 (by omega)
        have n4ne : ∀ s, t ≤ s → s < U + B → qK tb n s ≠ 4 := fun s s1 s2 => by
          by_cases c1 : s = t
          · rw [c1]; omega
          · by_cases c2 : s < U
            · have := n5 (s - (t + 1)) (by omega)
              rw [show t + 1 + (s - (t + 1)) = s by omega] at this; omega
            · have := n6 (s - U) (by omega)
              rw [show U + (s - U) = s by omega] at this; omega
        have e51 : h2 51 0 ((t : Int) + 1) = (qN7 tb n (t + 1) : Nat) := (C1 h2 f2 (t + 1) (by omega)).2.2.2 K1
        rw [e51]
        have F3 : qmf [1014, 1015, 1023, 53, 55, 56] h2 (qu h2 53 0 (i : Int) ((qN7 tb n (t + 1) : Nat) : Int)) := qmf_qu rfl
        have w03 : (qu h2 53 0 (i : Int) ((qN7 tb n (t + 1) : Nat) : Int)) 12 0 14 = 0 := by rw [qu_ne (by omega)]; exact w0
        have nm3 : ∀ j : Nat, j < i + 1 → (qu h2 53 0 (i : Int) ((qN7 tb n (t + 1) : Nat) : Int)) 53 0 j = (qN7 tb n (qst (qK tb n) j + 1) : Nat) := fun j hj => by
          by_cases c : j = i
          · rw [c, qu_at, ht]
          · rw [qu_ne (by omega)]; exact nm j (by omega)
        have HV3 : ∀ j, j < i → QV2 (H j) ∧ qmr (qu h2 53 0 (i : Int) ((qN7 tb n (t + 1) : Nat) : Int)) 55 (4 * j) (H j) := fun j hj => ⟨(HV j hj).1, qmr_fr (HV j hj).2 (fun z _ _ => qu_ne (by omega))⟩
        refine ⟨by omega, by omega, by omega, ?_⟩
        generalize qu h2 53 0 (i : Int) ((qN7 tb n (t + 1) : Nat) : Int) = h3 at *
        have F3 := qmf_trans f2 F3
        -- from the end of the line on, with a fault
        have bad : ∀ (f tok : Nat) (S : QZ), R1 = (f, tok, S) → f ≠ 0 → ∀ h4, qmf [1014, 1015, 1023, 53, 55, 56] h h4 → qwo h4 tb n f tok → (-2147483648 ≤ ((U + B : Nat) : Int) + 1 ∧ ((U + B : Nat) : Int) + 1 ≤ 2147483647) ∧ (-2147483648 ≤ (i : Int) + 1 ∧ (i : Int) + 1 ≤ 2147483647) ∧ G 4 [some (qr 12 0), some (qi (((U + B : Nat) : Int) + 1)), some (qi ((i : Int) + 1)), none] [] h4 := fun f tok S eR hf h4 f4 o => by
          refine ⟨by omega, by omega, ?_⟩
          rw [eR, if_pos hf] at eS
          rw [eS] at ih
          rw [show ((U + B : Nat) : Int) + 1 = ((qst (qK tb n) (i + 1) : Nat) : Int) by rw [est]; omega]
          exact ih h4 f4 (fun z => absurd z hf) (fun _ => o)
        -- the walk to the end of the line
        have walk : ∀ h4, qmf [1014, 1015, 1023, 53, 55, 56] h h4 → G 83 [some (qr 12 0), some (qi ((U + B : Nat) : Int)), some (qi (i : Int)), none] [] h4 → G 83 [some (qr 12 0), some (qi (t : Int)), some (qi (i : Int)), none] [] h4 := fun h4 f4 ge => by
          have up : ∀ s, s ≤ U + B → t ≤ s → G 83 [some (qr 12 0), some (qi (s : Int)), some (qi (i : Int)), none] [] h4 := by
            refine q_up (fun s hs ihs hts => ?_)
            by_cases c : s = U + B
            · rw [c]; exact ge
            · have := n4ne s hts (by omega)
              refine b_X12_means_83 hG ?_
              rw [(C1 h4 f4 s (by omega)).1]
              exact ⟨by omega, fun q => by omega, fun _ => ⟨by omega, ihs (by omega) (by omega)⟩⟩
          exact up t (by omega) (Nat.le_refl _)
        have badend : ∀ (f tok : Nat) (S : QZ), R1 = (f, tok, S) → f ≠ 0 → ∀ h4, qmf [1014, 1015, 1023, 53, 55, 56] h h4 → qwo h4 tb n f tok → G 83 [some (qr 12 0), some (qi (t : Int)), some (qi (i : Int)), none] [] h4 := fun f tok S eR hf h4 f4 o => walk h4 f4 (b_X12_means_83 hG (by
          rw [(C1 h4 f4 (U + B) (by omega)).1, n7, o.1]
          exact ⟨by omega, fun _ => ⟨fun _ => bad f tok S eR hf h4 f4 o, fun q => by omega⟩, fun q => absurd rfl q⟩))
        -- is the name new
        have news : ∀ j, j ≤ i → ∀ h4, qmf [1014, 1015, 1023, 53, 55, 56] h h4 → (∀ z : Nat, z < 6 → h4 53 0 z = h3 53 0 z) → ((∀ j', j' < j → qNU tb n (qst (qK tb n) j' + 1) ≠ qNU tb n (t + 1)) ∧ h4 = h3 ∨ (∃ j', j' < j ∧ qNU tb n (qst (qK tb n) j' + 1) = qNU tb n (t + 1)) ∧ qwo h4 tb n 3 (t + 1)) → G 35 [some (qr 12 0), some (qi (t : Int)), some (qi (i : Int)), some (qi (j : Int))] [] h4 := by
          refine q_up (fun j hj ihj h4 f4 e53 hI => b_X12_means_35 hG ⟨fun q => ?_, fun q => ?_⟩)
          · have ej : j = i := by omega
            subst ej
            rcases hI with ⟨y1, y2⟩ | ⟨⟨j', y1, y2⟩, y3⟩
            · subst y2
              rw [w03]
              refine ⟨fun q2 => absurd rfl q2, fun _ => ?_⟩
              have own1 := qown_no (N := qNU tb n) (K := qK tb n) (t := t + 1) y1
              rw [if_neg (by omega)] at e1
              refine m_meansOne (w := w) (U := U) (B := B) hL (C1 h4 f4) (by omega) (by omega) ht ew (by omega) eU0 (by omega) n5 n6 n7 n8 n9 (by rw [f4 12 0 12 rfl]; exact h0) w03 (fun z hz => nm3 z (by omega)) HV3 (fun h5 f5 o => ?_)
              have F5 := qmf_trans f4 (qmq_mf f5)
              unfold qout at o
              by_cases t2 : 2 ≤ qdue w ∧ qown (qNU tb n) (qK tb n) j (t + 2) = j
              · rw [if_pos t2] at o e1
                exact badend 4 _ _ e1 (by decide) h5 F5 o
              · rw [if_neg t2] at o e1
                by_cases t3 : 3 ≤ qdue w ∧ qown (qNU tb n) (qK tb n) j (t + 3) = j
                · rw [if_pos t3] at o e1
                  exact badend 4 _ _ e1 (by decide) h5 F5 o
                · rw [if_neg t3] at o e1
                  have oa := (qown_ok (qNU tb n) (qK tb n) j (t + 2)).1
                  have ob := (qown_ok (qNU tb n) (qK tb n) j (t + 3)).1
                  have HA : 1 ≤ w → QV2 (H (qown (qNU tb n) (qK tb n) j (t + 2))) := fun hw => (HV _ (by
                    have : 2 ≤ qdue w := by
                      unfold qdue
                      rw [if_neg (by omega)]
                      split <;> omega
                    omega)).1
                  have HB : w = 1 ∨ w = 2 → QV2 (H (qown (qNU tb n) (qK tb n) j (t + 3))) := fun hw => (HV _ (by
                    have : 3 ≤ qdue w := by
                      unfold qdue
                      rw [if_neg (by omega), if_pos (by omega)]; omega
                    omega)).1
                  unfold qout2 at o
                  generalize H (qown (qNU tb n) (qK tb n) j (t + 2)) = A at *
                  generalize H (qown (qNU tb n) (qK tb n) j (t + 3)) = A2 at *
                  by_cases t5 : qgoods w A (fun j => qVa tb n (U + j)) B < B
                  · rw [if_pos t5] at o e1
                    exact badend 5 _ _ e1 (by decide) h5 F5 o
                  · rw [if_neg t5] at o e1
                    obtain ⟨all, o⟩ := o
                    have Z := qres_v0 (w := w) (A := A) (B := A2) (a := fun j => qVa tb n (U + j)) (b := B) (by omega) (fun z => (HA z).1) (fun z => (HB z).1) all n8
                    generalize qres w A A2 (fun j => qVa tb n (U + j)) B = R at *
                    rcases o with ⟨o1, o2, o3⟩ | ⟨o1, o2⟩
                    · refine walk h5 F5 (b_X12_means_83 hG ?_)
                      rw [(C1 h5 F5 (U + B) (by omega)).1, n7, o1, q_4j]
                      have e12 : h5 12 0 12 = 0 := by rw [F5 12 0 12 rfl]; exact h0
                      refine ⟨by omega, fun _ => ⟨fun q2 => absurd rfl q2, fun _ => ⟨by omega, ?_⟩⟩, fun q2 => absurd rfl q2⟩
                      refine m_cond hL (Or.inl ⟨Or.inr rfl, by omega⟩) (qmr_cong o3 (fun x hx => (qw56_lo hx).symm)) (qw56_m6 R) ⟨fun q2 => ?_, fun q2 => ⟨by omega, ?_⟩⟩
                      · rw [if_pos (qw56_2 Z q2)] at e1
                        refine m_wrong0 (t := U + B) hL (C1 h5 F5) (by omega) (by omega) rfl e12 o1 (fun h6 f6 w1 w2 => bad 6 _ _ e1 (by decide) h6 (qmf_trans F5 (fun r i j e => f6 r i j (fun z => ?_))) ⟨w1, w2⟩)
                        obtain ⟨z1, z2⟩ := z
                        subst z1
                        rcases z2 with z2 | z2 <;> subst z2 <;> exact absurd e (by decide)
                      · obtain ⟨V, -⟩ := qw56_1 o2 q2 Z.1 Z.2.1
                        refine m_gens hL ⟨Or.inr rfl, by omega⟩ o3 V (fun h6 f6 _ => ⟨fun q3 => ?_, fun q3 => ?_⟩)
                        · have V2 : QV2 R := ⟨V, by unfold qgc at q3; omega⟩
                          rw [if_neg (by rw [(qacc_iff Z).mpr V2]; decide)] at e1
                          rw [e1, if_neg (fun z => z rfl)] at eS
                          rw [eS] at ih
                          have F6 := qmf_trans F5 (qmf_mono f6 (rs' := [1014, 1015, 1023, 53, 55, 56]) rfl)
                          refine ⟨by omega, by omega, ?_⟩
                          rw [show ((U + B : Nat) : Int) + 1 = ((qst (qK tb n) (j + 1) : Nat) : Int) by rw [est]; omega]
                          refine ih h6 F6 (fun _ => ⟨by rw [f6 12 0 14 rfl]; exact o1, fun z hz => ?_, fun z hz => ?_⟩) (fun z => absurd rfl z)
                          · rw [f6 53 0 z rfl, f5 53 0 z (by omega) (by omega)]; exact nm3 z hz
                          · show QV2 (qup H j R z) ∧ qmr h6 55 (4 * z) (qup H j R z)
                            by_cases c : z = j
                            · rw [c, qup_at]
                              exact ⟨V2, qmr_fr o3 (fun u _ _ => f6 55 0 u (by rw [qcd_r (by omega) (by omega)]; rfl))⟩
                            · rw [qup_ne c]
                              have := HV3 z (by omega)
                              exact ⟨this.1, qmr_fr (qmr_w this.2 f5 (by omega)) (fun u _ _ => f6 55 0 u (by rw [qcd_r (by omega) (by omega)]; rfl))⟩
                        · have na : qacc R = false := by
                            cases c : qacc R with
                            | false => rfl
                            | true =>
                              have := ((qacc_iff Z).mp c).2
                              unfold qgc at q3
                              omega
                          rw [if_pos na] at e1
                          have F6 := qmf_trans F5 (qmf_mono f6 (rs' := [1014, 1015, 1023, 53, 55, 56]) rfl)
                          refine m_wrong0 (t := U + B) hL (C1 h6 F6) (by omega) (by omega) rfl (by rw [f6 12 0 12 rfl]; exact e12) (by rw [f6 12 0 14 rfl]; exact o1) (fun h7 f7 w1 w2 => bad 6 _ _ e1 (by decide) h7 (qmf_trans F6 (fun r i j e => f7 r i j (fun z => ?_))) ⟨w1, w2⟩)
                          obtain ⟨z1, z2⟩ := z
                          subst z1
                          rcases z2 with z2 | z2 <;> subst z2 <;> exact absurd e (by decide)
                    · rw [if_pos o2] at e1
                      exact badend 6 _ _ e1 (by decide) h5 F5 o1
            · rw [y3.1]
              refine ⟨fun _ => ?_, fun q2 => by omega⟩
              have : qown (qNU tb n) (qK tb n) j (t + 1) < j := by
                have oo := qown_ok (qNU tb n) (qK tb n) j (t + 1)
                rcases Nat.lt_or_ge (qown (qNU tb n) (qK tb n) j (t + 1)) j with c | c
                · exact c
                · exact absurd y2 (oo.2.1 j' (by omega))
              rw [if_pos this] at e1
              exact badend 3 _ _ e1 (by decide) h4 f4 y3
          · have hji : j < i := by omega
            rw [e53 j (by omega), e53 i (by omega), nm3 j (by omega), nm3 i (by omega), ht, q_lc0]
            have e : ((qN7 tb n (qst (qK tb n) j + 1) : Nat) : Int) = (qN7 tb n (t + 1) : Nat) ↔ qNU tb n (qst (qK tb n) j + 1) = qNU tb n (t + 1) := by
              rw [qN_same]; omega
            rw [e]
            refine ⟨by omega, by omega, fun q2 => b_X12_means_64 hG ⟨by omega, ihj hji h4 f4 e53 ?_⟩, fun q2 => ⟨by omega, ?_⟩⟩
            · rcases hI with ⟨y1, y2⟩ | ⟨⟨j', y1, y2⟩, y3⟩
              · refine Or.inl ⟨fun j' hj' => ?_, y2⟩
                by_cases c : j' = j
                · rw [c]; exact q2
                · exact y1 j' (by omega)
              · exact Or.inr ⟨⟨j', by omega, y2⟩, y3⟩
            · have e12 : h4 12 0 12 = 0 := by rw [f4 12 0 12 rfl]; exact h0
              rcases hI with ⟨y1, y2⟩ | ⟨⟨j', y1, y2⟩, y3⟩
              · subst y2
                refine m_wrong0 (t := t + 1) hL (C1 h4 f4) (by omega) (by omega) rfl e12 w03 (fun h5 f5 w1 w2 => b_X12_means_64 hG ⟨by omega, ihj hji h5 (qmf_trans f4 (fun r i j e => f5 r i j (fun z => ?_))) (fun z hz => f5 53 0 z (by omega)) (Or.inr ⟨⟨j, by omega, q2⟩, w1, w2⟩)⟩)
                obtain ⟨z1, z2⟩ := z
                subst z1
                rcases z2 with z2 | z2 <;> subst z2 <;> exact absurd e (by decide)
              · exact m_wrong1 (t := t + 1) hL (C1 h4 f4) (by omega) (by omega) rfl e12 (by rw [y3.1]; omega) y3.2 (Or.inr ⟨rfl, by rw [y3.1]; omega⟩) (b_X12_means_64 hG ⟨by omega, ihj hji h4 f4 e53 (Or.inr ⟨⟨j', by omega, y2⟩, y3⟩)⟩)
        exact news 0 (Nat.zero_le _) h3 F3 (fun _ _ => rfl) (Or.inl ⟨fun j' hj' => absurd hj' (Nat.not_lt_zero _), rfl⟩)
    · have o := g1 e0
      have e2 := qmeans_stay (K := qK tb n) (N := qNU tb n) (V := qVa tb n) e0 m hi
      have fin : Q 0 h2 := k h2 f2 (fun z => by rw [e2] at z; exact absurd z e0) (fun _ => by rw [e2]; exact o)
      exact ⟨fun _ => fin, fun _ => ⟨fun _ => fin, fun q => by rw [o.1] at q; omega⟩⟩
  exact key 0 (Nat.zero_le _) h (qmf_refl _ _) (fun _ => ⟨h1, fun j hj => absurd hj (Nat.not_lt_zero _), fun j hj => absurd hj (Nat.not_lt_zero _)⟩) (fun z => absurd rfl z)
end MM5
