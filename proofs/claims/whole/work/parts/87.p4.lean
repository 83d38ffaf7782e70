/-! the program reads its tape -/
/-- fault, its token, how many sets, the sets -/
def qrd (tb : Nat → Int) (n : Nat) : Nat × Nat × Nat × (Nat → QZ) := if (qpar (qK tb n) 7 0).1 ≠ 0 then ((qpar (qK tb n) 7 0).1, (qpar (qK tb n) 7 0).2.1, 0, fun _ _ => true) else ((qmeans (qK tb n) (qNU tb n) (qVa tb n) (qpar (qK tb n) 7 0).2.2).1, (qmeans (qK tb n) (qNU tb n) (qVa tb n) (qpar (qK tb n) 7 0).2.2).2.1, (qpar (qK tb n) 7 0).2.2, (qmeans (qK tb n) (qNU tb n) (qVa tb n) (qpar (qK tb n) 7 0).2.2).2.2)
/-- what reading may change: the hall y's own and these -/
def qfr (y : Int) (h h' : QM) : Prop := ∀ r k j, ¬ (r = 1 ∨ r = 4 ∨ r = 5 ∨ r = 6 ∨ r = 9 ∨ r = 11 ∨ (23 ≤ r ∧ r ≤ 27) ∨ r = 45 ∨ (r = 2 ∧ k = y) ∨ ((r = 8 ∨ r = 30 ∨ r = 31 ∨ r = 32) ∧ 6 * y ≤ k ∧ k < 6 * y + 6)) → h' r k j = h r k j
/-- the same without deeds and slots -/
def qfr0 (y : Int) (h h' : QM) : Prop := ∀ r k j, ¬ (r = 4 ∨ r = 5 ∨ r = 6 ∨ r = 9 ∨ (r = 11 ∧ j = 12) ∨ (23 ≤ r ∧ r ≤ 27) ∨ (r = 2 ∧ k = y) ∨ ((r = 8 ∨ r = 30 ∨ r = 31 ∨ r = 32) ∧ 6 * y ≤ k ∧ k < 6 * y + 6)) → h' r k j = h r k j
theorem qfr0_trans {y : Int} {h1 h2 h3 : QM} (a : qfr0 y h1 h2) (b : qfr0 y h2 h3) : qfr0 y h1 h3 := fun r k j e => by rw [b r k j e, a r k j e]
theorem qfr0_r {y : Int} {h h' : QM} (f : qfr0 y h h') : qfr y h h' := fun r k j e => f r k j (by omega)
theorem qfr0_k {y : Int} {h h' : QM} (f : qfk y h h') : qfr0 y h h' := fun r k j e => f r k j (by omega)
theorem qfr0_x {y : Int} {h h' : QM} {rs : List Nat} (f : qfx rs h h') (e : rs.all (fun r => decide (r = 4 ∨ r = 5 ∨ r = 6 ∨ r = 9 ∨ (23 ≤ r ∧ r ≤ 27))) = true) : qfr0 y h h' := fun r k j q => f r (by
  cases z : rs.contains r with
  | false => rfl
  | true =>
    have := of_decide_eq_true (List.all_eq_true.mp e r (List.contains_iff_mem.mp z))
    omega) k j
theorem qfr_trans {y : Int} {h1 h2 h3 : QM} (a : qfr y h1 h2) (b : qfr y h2 h3) : qfr y h1 h3 := fun r k j e => by rw [b r k j e, a r k j e]
theorem qhall_r {y z : Int} {h h' : QM} {n : Nat} {S : Nat → QZ} (f : qfr y h h') (e : z ≠ y) (a : qhall h z n S) : qhall h' z n S := qhall_fr a (f _ _ _ (by omega)) (fun r i j q h1 h2 => f r i j (by omega))
theorem qdeeds_r {h h' : QM} {dn : Nat} {dl : Nat → Nat × Nat} (D : qdeeds h dn dl) (e : ∀ (r : Nat) (i j : Int), r = 1 ∨ r = 18 ∨ r = 19 → h' r i j = h r i j) : qdeeds h' dn dl := by
  obtain ⟨a1, a2, a3, a4, a5⟩ := D
  refine ⟨by rw [e _ _ _ (by omega)]; exact a1, a2, by rw [e _ _ _ (by omega)]; exact a3, by rw [e _ _ _ (by omega)]; exact a4, fun i hi => ?_⟩
  rw [e 1 _ _ (by omega), e 18 _ _ (by omega), e 19 _ _ (by omega)]; exact a5 i hi
section QP4
variable {l : Launch} {g : QG} {d : Nat} {h : QM} {Q : Int → QM → Prop} {n dn : Nat} {tb : Nat → Int} {x y : Int} {dl : Nat → Nat × Nat}
theorem t_place (hL : qhL g) (k : Q (h 11 0 12) h) : q_tr l g (d + 1) n_X11_place [qr 11 0] h Q := i_X11_place hL (fun G hG _ _ => b_X11_place_0 hG k)
theorem t_read (hL : qhL g) (T : qtape h n tb) (hx : h 11 0 10 = x) (hy : h 11 0 11 = y) (hx0 : 0 ≤ x) (hy0 : 0 ≤ y) (hxy : x ≠ y) (D : qdeeds h dn dl)
    (k : ∀ h', qfr y h h' → qtape h' 0 tb → ((qrd tb n).1 ≠ 0 → h' 11 0 10 = x ∧ h' 11 0 11 = y ∧ h' 11 0 12 = qPl tb n (qrd tb n).2.1 ∧ qdeeds h' dn dl ∧ (∀ i : Nat, i < 3 → h' 45 0 i = h 45 0 i)) → ((qrd tb n).1 = 0 → h' 11 0 10 = y ∧ h' 11 0 11 = x ∧ h' 11 0 12 = -1 ∧ qdeeds h' 0 dl ∧ (∀ i : Nat, i < 3 → h' 45 0 i = 0) ∧ qhall h' y (qrd tb n).2.2.1 (qrd tb n).2.2.2) → Q ((qrd tb n).1 : Nat) h') : q_tr l g (d + 8) n_X11_read [qr 11 0] h Q := by
  refine i_X11_read hL (fun G hG _ _ => b_X11_read_0 hG ?_)
  refine s_parse (d := d + 1) hL T (fun h1 f1 g1 g2 => ?_)
  refine i_X6_faultPlace hL (fun G2 hG2 _ _ => b_X6_faultPlace_0 hG2 ?_)
  have F1 : qfr0 y h h1 := qfr0_x f1 rfl
  have F2 : qfr0 y h (qu h1 11 0 12 (h1 6 0 4)) := qfr0_trans F1 (fun r k j e => qu_ne (by omega))
  have T2 : qtape (qu h1 11 0 12 (h1 6 0 4)) n tb := qtape_fx (qtape_fx T f1 rfl) (qfx_qu (rs := [11]) rfl) rfl
  have e12 : (qu h1 11 0 12 (h1 6 0 4)) 11 0 12 = h1 6 0 4 := qu_at
  have K2 : ∀ (r : Nat) (j c : Int), r ≠ 11 → (qu h1 11 0 12 (h1 6 0 4)) r j c = h1 r j c := fun r j c hr => qu_ne (by omega)
  generalize qu h1 11 0 12 (h1 6 0 4) = h2 at *
  refine s_shorten (m := 0) hL T2 (Nat.zero_le _) (fun h3 f3 T3 => ?_)
  have F3 : qfr0 y h h3 := qfr0_trans F2 (qfr0_x f3 rfl)
  have e3 : h3 11 0 12 = h1 6 0 4 := by rw [f3 11 rfl]; exact e12
  have ee : ∀ (h4 : QM), qfr0 y h h4 → h4 11 0 10 = x ∧ h4 11 0 11 = y ∧ qdeeds h4 dn dl ∧ (∀ i : Nat, i < 3 → h4 45 0 i = h 45 0 i) := fun h4 F4 => ⟨by rw [F4 11 0 10 (by omega)]; exact hx, by rw [F4 11 0 11 (by omega)]; exact hy, qdeeds_r D (fun r i j hr => F4 r i j (by omega)), fun i hi => F4 45 0 i (by omega)⟩
  unfold qrd at k
  refine ⟨fun z => ⟨fun _ => ?_, fun z2 => absurd z2 z⟩, fun z => ?_⟩
  · have z : (qpar (qK tb n) 7 0).1 ≠ 0 := by omega
    rw [if_pos z] at k
    obtain ⟨e4, e5, e6, e7⟩ := ee h3 F3
    exact k h3 (qfr0_r F3) T3 (fun _ => ⟨e4, e5, by rw [e3]; exact g1 z, e6, e7⟩) (fun y => absurd y z)
  · have z : (qpar (qK tb n) 7 0).1 = 0 := by omega
    rw [if_neg (fun y => y z)] at k
    obtain ⟨y1, y2, y3, y4⟩ := g2 z
    obtain ⟨p1, p2⟩ := qpar_ok (K := qK tb n) 7 0 rfl (by decide) z
    obtain ⟨e4, e5, e6, e7⟩ := ee h3 F3
    rw [e5]
    have K3 : ∀ (r : Nat) (j c : Int), r ≠ 9 → r ≠ 11 → h3 r j c = h1 r j c := fun r j c hr hr2 => by rw [f3 r (by simp; omega)]; exact K2 r j c hr2
    refine ⟨hy0, s_make (d := d) (n := n) (tb := tb) hL p1 hy0 (fun j hj => p2 j (Nat.zero_le _) hj) (fun j hj => qlp_fx (y4 j hj) (fun r c hr => K3 r j c (by omega) (by omega))) (by rw [K3 6 0 1 (by omega) (by omega)]; exact y2) (fun h5 f5 m1 m2 => ?_)⟩
    refine i_X5_faultPlace hL (fun G3 hG3 _ _ => b_X5_faultPlace_0 hG3 ?_)
    have F5 : qfr0 y h (qu h5 11 0 12 (h5 5 0 1)) := qfr0_trans F3 (qfr0_trans (qfr0_k f5) (fun r k j e => qu_ne (by omega)))
    have T5 : qtape (qu h5 11 0 12 (h5 5 0 1)) 0 tb := ⟨by rw [qu_ne (by omega), f5 9 0 1 (by omega)]; exact T3.1, by omega, fun i hi => absurd hi (Nat.not_lt_zero _)⟩
    obtain ⟨e4, e5, e6, e7⟩ := ee _ F5
    have K5 : ∀ (r : Nat) (j c : Int), r ≠ 11 → (qu h5 11 0 12 (h5 5 0 1)) r j c = h5 r j c := fun r j c hr => qu_ne (by omega)
    have e12 : (qu h5 11 0 12 (h5 5 0 1)) 11 0 12 = h5 5 0 1 := qu_at
    generalize qu h5 11 0 12 (h5 5 0 1) = h6 at *
    refine ⟨fun w => ?_, fun w => ?_⟩
    · have w : (qmeans (qK tb n) (qNU tb n) (qVa tb n) (qpar (qK tb n) 7 0).2.2).1 ≠ 0 := by omega
      exact k h6 (qfr0_r F5) T5 (fun _ => ⟨e4, e5, by rw [e12]; exact m1 w, e6, e7⟩) (fun y => absurd y w)
    · have w : (qmeans (qK tb n) (qNU tb n) (qVa tb n) (qpar (qK tb n) 7 0).2.2).1 = 0 := by omega
      obtain ⟨w1, w2⟩ := m2 w
      refine t_take hL e4 e5 hx0 hy0 (fun h7 f7 a1 a2 a3 a4 a5 => k h7 (qfr_trans (qfr0_r F5) (fun r k j e => f7 r (by simp; omega) k j)) (qtape_fx T5 f7 rfl) (fun y => absurd w y) (fun _ => ⟨a1, a2, by rw [a3, e12]; exact w1, a4, a5, ?_⟩))
      have w3 : qhall h6 y (qpar (qK tb n) 7 0).2.2 (qmeans (qK tb n) (qNU tb n) (qVa tb n) (qpar (qK tb n) 7 0).2.2).2.2 := qhall_fr w2 (K5 _ _ _ (by omega)) (fun r i j q _ _ => K5 r i j (by omega))
      exact qhall_fr w3 (f7 2 rfl _ _) (fun r i j q _ _ => f7 r (by simp; omega) i j)
end QP4
