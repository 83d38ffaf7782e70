/-! the class itself: the LIST, what is counted -/
def qlistq (gg i k : Int) : Int := if 0 ≤ gg ∧ gg ≤ 8 then (if i = -1 then (qc (qpl gg.toNat) 32768 : Nat) else if qnth (qpl gg.toNat) 32768 i = -1 then -1 else qpick (qgen (qsv (qnth (qpl gg.toNat) 32768 i).toNat)) 32 k) else -1
section QTop7
variable {l : Launch} {g : QG} {d : Nat} {h : QM} {Q : Int → QM → Prop} {n : Nat} {S : Nat → QZ} {x : Int}
theorem t_list {gg i kk : Int} (hL : qhL g) (K : qlk h) (k : ∀ h', qfx [7, 29] h h' → qlk h' → Q (qlistq gg i kk) h') : q_tr l g (d + 21) n_X11_list [qr 11 0, qi gg, qi i, qi kk] h Q := by
  refine i_X11_list hL (fun G hG _ _ => b_X11_list_0 hG ?_)
  unfold qlistq at k
  have k0 := k h (qfx_refl _ _) K
  refine ⟨fun q => q_qe k0 (by rw [if_neg (by omega)]), fun q => ⟨fun q2 => ?_, fun q2 => q_qe k0 (by rw [if_neg (by omega)])⟩⟩
  obtain ⟨m, rfl⟩ := Int.eq_ofNat_of_zero_le (show 0 ≤ gg by omega)
  clear k0
  simp only [if_pos (show 0 ≤ (m : Int) ∧ (m : Int) ≤ 8 by omega), Int.toNat_natCast] at k
  refine s_sizeOf hL (by omega) K (fun h1 f K1 => ⟨fun q3 => ?_, fun q3 => q_qe (k h1 f K1) (by rw [if_pos q3])⟩)
  simp only [if_neg q3] at k
  have k1 := k h1 f K1
  refine ⟨fun q4 => q_qe k1 (by rw [if_pos (qnth_no (Or.inl q4))]), fun q4 => ⟨fun q5 => ?_, fun q5 => q_qe k1 (by rw [if_pos (qnth_no (Or.inr (by omega)))])⟩⟩
  obtain ⟨w, rfl⟩ := Int.eq_ofNat_of_zero_le (show 0 ≤ i by omega)
  obtain ⟨v, v1, v2, v3⟩ := qc_kth (p := qpl m) (n := 32768) (k := w) (by omega)
  have e := qnth_at v2 v1
  rw [v3] at e
  rw [← v3]
  refine s_maskAt hL (by omega) K1 v1 v2 (fun z h2 hz f2 K2 => s_stepAt hL hz (q_qe (k h2 (qfx_trans f f2) K2) ?_))
  rw [e, if_neg (by omega), Int.toNat_natCast]
theorem t_slots {b : Nat → Bool} (hL : qhL g) (B : ∀ i : Nat, i < 3 → h 45 0 i = qb (b i)) (k : Q (qc b 3 : Nat) h) : q_tr l g (d + 2) n_X11_slotsHeld [qr 11 0] h Q := by
  refine i_X11_slotsHeld hL (fun G hG _ _ => b_X11_slotsHeld_0 hG ?_)
  have key : ∀ m, m ≤ 3 → G 4 [some (qr 11 0), some (qi (qc b m : Nat)), some (qi (m : Int))] [] h := by
    refine q_up (fun m hm ih => b_X11_slotsHeld_4 hG ⟨fun q => q_qe k (by rw [show m = 3 by omega]), fun q => ⟨by omega, ?_⟩⟩)
    have hcl := qc_le b m
    rw [B m (by omega)]
    refine s_asBit hL ?_
    have ih := ih (by omega)
    rw [qc_s] at ih
    cases hb : b m with
    | false => rw [hb] at ih; exact ⟨by show -2147483648 ≤ (qc b m : Int) + 0 ∧ (qc b m : Int) + 0 ≤ 2147483647; omega, by omega, ih⟩
    | true => rw [hb] at ih; exact ⟨by show -2147483648 ≤ (qc b m : Int) + 1 ∧ (qc b m : Int) + 1 ≤ 2147483647; omega, by omega, ih⟩
  exact key 0 (by omega)
end QTop7
