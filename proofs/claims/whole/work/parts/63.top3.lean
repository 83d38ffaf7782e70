/-! the class itself: rests, ways, lengths, ties, greedy -/
section QTop3
variable {l : Launch} {g : QG} {d : Nat} {h : QM} {Q : Int → QM → Prop} {n : Nat} {S : Nat → QZ} {x set : Int}
theorem t_apery {m r : Int} (hL : qhL g) (hx : h 11 0 10 = x) (hx0 : 0 ≤ x) (H : qhall h x n S) (k : Q (qon n S set (-1) (fun S => if 1 ≤ m ∧ m ≤ 200 ∧ qin S m = true ∧ 0 ≤ r ∧ r < m then (qap S m.toNat 200 r.toNat : Nat) else -1)) h) : q_tr l g (d + 3) n_X11_apery [qr 11 0, qi set, qi m, qi r] h Q := by
  refine i_X11_apery hL (fun G hG _ _ => b_X11_apery_0 hG ?_)
  rw [hx]
  refine ⟨hx0, s_at hL H (fun j e hj => ?_) (fun e => ⟨fun _ => q_qe k (by rw [qon_out e]), fun q => absurd (show (-1 : Int) < 0 by omega) q⟩)⟩
  subst e
  rw [qon_in hj] at k
  obtain ⟨V, A⟩ := H.2.2 j hj
  refine ⟨fun q => by omega, fun _ => ⟨fun q => q_qe k (by rw [if_neg (by omega)]), fun q => ⟨fun q2 => q_qe k (by rw [if_neg (by omega)]), fun q2 => s_holds hL V.1 A ⟨fun q3 => q_qe k ?_, fun q3 => ⟨fun q4 => q_qe k (by rw [if_neg (by omega)]), fun q4 => ⟨fun q5 => ?_, fun q5 => q_qe k (by rw [if_neg (by omega)])⟩⟩⟩⟩⟩⟩
  · rw [if_neg (fun z => by rw [z.2.2.1] at q3; exact absurd (show (1 : Int) = 0 from q3) (by decide))]
  · obtain ⟨m, rfl⟩ := Int.eq_ofNat_of_zero_le (show 0 ≤ m by omega)
    obtain ⟨r, rfl⟩ := Int.eq_ofNat_of_zero_le (show 0 ≤ r by omega)
    rw [if_pos ⟨by omega, by omega, qb_n0.mp q3, by omega, q5⟩, Int.toNat_natCast, Int.toNat_natCast] at k
    exact s_rest hL V.1 A (by omega) (by omega) k
theorem t_kunz {r : Int} (hL : qhL g) (hx : h 11 0 10 = x) (hx0 : 0 ≤ x) (H : qhall h x n S) (k : Q (qon n S set (-1) (fun S => if 1 ≤ r ∧ r < qms S then (qap S (qms S) 200 r.toNat / qms S : Nat) else -1)) h) : q_tr l g (d + 3) n_X11_kunz [qr 11 0, qi set, qi r] h Q := by
  refine i_X11_kunz hL (fun G hG _ _ => b_X11_kunz_0 hG ?_)
  rw [hx]
  refine ⟨hx0, s_at hL H (fun j e hj => ?_) (fun e => ⟨fun _ => q_qe k (by rw [qon_out e]), fun q => absurd (show (-1 : Int) < 0 by omega) q⟩)⟩
  subst e
  rw [qon_in hj] at k
  obtain ⟨V, A⟩ := H.2.2 j hj
  obtain ⟨m1, m2, -, -, -⟩ := qms_ok V.1
  refine ⟨fun q => by omega, fun _ => ⟨fun q => q_qe k (by rw [if_neg (by omega)]), fun q => s_least hL V.1 A ⟨fun q2 => ?_, fun q2 => q_qe k (by rw [if_neg (by omega)])⟩⟩⟩
  obtain ⟨r, rfl⟩ := Int.eq_ofNat_of_zero_le (show 0 ≤ r by omega)
  rw [if_pos (by omega), Int.toNat_natCast] at k
  exact s_least hL V.1 A (s_rest hL V.1 A (by omega) (by omega) (s_least hL V.1 A ⟨by omega, q_qe k (by rw [Int.natCast_ediv])⟩))
theorem t_way {y i w : Int} (hL : qhL g) (hx : h 11 0 10 = x) (hx0 : 0 ≤ x) (H : qhall h x n S) (k : ∀ h', qfx [34, 36] h h' → Q (qon n S set (-1) (fun S => if 0 ≤ y ∧ y ≤ 150 ∧ 0 ≤ w ∧ w < qgc S then (if 0 ≤ i ∧ i < (qWk (qgk S) (qgc S) 0 y.toNat : Nat) then (qway (qgk S) (qgc S) y.toNat i.toNat w.toNat : Nat) else -1) else -1)) h') : q_tr l g (d + 4) n_X11_way [qr 11 0, qi set, qi y, qi i, qi w] h Q := by
  refine i_X11_way hL (fun G hG _ _ => b_X11_way_0 hG ?_)
  rw [hx]
  refine ⟨hx0, s_at hL H (fun j e hj => ?_) (fun e => ⟨fun _ => q_qe (k h (qfx_refl _ _)) (by rw [qon_out e]), fun q => absurd (show (-1 : Int) < 0 by omega) q⟩)⟩
  subst e
  simp only [qon_in hj] at k
  obtain ⟨V, A⟩ := H.2.2 j hj
  have k0 := k h (qfx_refl _ _)
  refine ⟨fun q => by omega, fun _ => s_isSum hL ⟨fun q => q_qe k0 ?_, fun q => ?_⟩⟩
  · have := of_decide_eq_false (qb_0.mp q)
    rw [if_neg (by omega)]
  · have q := of_decide_eq_true (qb_n0.mp q)
    rw [A.2.2.2.2.1]
    refine ⟨fun q2 => q_qe k0 (by rw [if_neg (by omega)]), fun q2 => ⟨fun q3 => ?_, fun q3 => q_qe k0 (by rw [if_neg (by omega)])⟩⟩
    obtain ⟨m, rfl⟩ := Int.eq_ofNat_of_zero_le q.1
    obtain ⟨w, rfl⟩ := Int.eq_ofNat_of_zero_le (show 0 ≤ w by omega)
    refine s_taken hL V A (by omega) (by omega) (fun h1 f => q_qe (k h1 f) ?_)
    exact (if_pos (by omega)).symm
theorem t_length {y w : Int} (hL : qhL g) (hx : h 11 0 10 = x) (hx0 : 0 ≤ x) (H : qhall h x n S) (R : qrch h) (k : ∀ h', qfx [10, 43] h h' → qrch h' → Q (qon n S set (-1) (fun S => if 0 ≤ y ∧ y ≤ 150 ∧ 0 ≤ w ∧ w ≤ 3 then qlq (fun m => qL S m y.toNat) w else -1)) h') : q_tr l g (d + 4) n_X11_length [qr 11 0, qi set, qi y, qi w] h Q := by
  refine i_X11_length hL (fun G hG _ _ => b_X11_length_0 hG ?_)
  rw [hx]
  refine ⟨hx0, s_at hL H (fun j e hj => ?_) (fun e => ⟨fun _ => q_qe (k h (qfx_refl _ _) R) (by rw [qon_out e]), fun q => absurd (show (-1 : Int) < 0 by omega) q⟩)⟩
  subst e
  simp only [qon_in hj] at k
  obtain ⟨V, A⟩ := H.2.2 j hj
  have k0 := k h (qfx_refl _ _) R
  refine ⟨fun q => by omega, fun _ => s_isSum hL ⟨fun q => q_qe k0 ?_, fun q => ?_⟩⟩
  · have := of_decide_eq_false (qb_0.mp q)
    rw [if_neg (by omega)]
  · have q := of_decide_eq_true (qb_n0.mp q)
    refine ⟨fun q2 => q_qe k0 (by rw [if_neg (by omega)]), fun q2 => ⟨fun q3 => ?_, fun q3 => q_qe k0 (by rw [if_neg (by omega)])⟩⟩
    obtain ⟨m, rfl⟩ := Int.eq_ofNat_of_zero_le q.1
    refine s_measure hL V A (by omega) R (by omega) (fun h1 f R1 => q_qe (k h1 f R1) ?_)
    exact (if_pos (by omega)).symm
theorem t_tie {i : Int} (hL : qhL g) (hx : h 11 0 10 = x) (hx0 : 0 ≤ x) (H : qhall h x n S) (K : qkn h) (k : ∀ h', qfx [3, 21, 22] h h' → qkn h' → Q (qon n S set (-1) (fun S => qpick (qtie S) 1100 i)) h') : q_tr l g (d + 7) n_X11_tie [qr 11 0, qi set, qi i] h Q := by
  refine i_X11_tie hL (fun G hG _ _ => b_X11_tie_0 hG ?_)
  rw [hx]
  refine ⟨hx0, s_at hL H (fun j e hj => ?_) (fun e => ⟨fun _ => q_qe (k h (qfx_refl _ _) K) (by rw [qon_out e]), fun q => absurd (show (-1 : Int) < 0 by omega) q⟩)⟩
  subst e
  simp only [qon_in hj] at k
  obtain ⟨V, A⟩ := H.2.2 j hj
  exact ⟨fun q => by omega, fun _ => s_tieAt hL V A K k⟩
theorem t_greedy {y w : Int} (hL : qhL g) (hx : h 11 0 10 = x) (hx0 : 0 ≤ x) (H : qhall h x n S) (k : ∀ h', qfx [41, 42] h h' → Q (qon n S set (-1) (fun S => if 0 ≤ y ∧ y ≤ 150 ∧ 0 ≤ w ∧ w ≤ 2 then (if w = 0 then qb ((qgrab S y.toNat).2 == 0) else if w = 1 then ((qgrab S y.toNat).1 : Nat) else ((qgrab S y.toNat).2 : Nat)) else -1)) h') : q_tr l g (d + 4) n_X11_greedy [qr 11 0, qi set, qi y, qi w] h Q := by
  refine i_X11_greedy hL (fun G hG _ _ => b_X11_greedy_0 hG ?_)
  rw [hx]
  refine ⟨hx0, s_at hL H (fun j e hj => ?_) (fun e => ⟨fun _ => q_qe (k h (qfx_refl _ _)) (by rw [qon_out e]), fun q => absurd (show (-1 : Int) < 0 by omega) q⟩)⟩
  subst e
  simp only [qon_in hj] at k
  obtain ⟨V, A⟩ := H.2.2 j hj
  have k0 := k h (qfx_refl _ _)
  refine ⟨fun q => by omega, fun _ => s_isSum hL ⟨fun q => q_qe k0 ?_, fun q => ?_⟩⟩
  · have := of_decide_eq_false (qb_0.mp q)
    rw [if_neg (by omega)]
  · have q := of_decide_eq_true (qb_n0.mp q)
    refine ⟨fun q2 => q_qe k0 (by rw [if_neg (by omega)]), fun q2 => ⟨fun q3 => ?_, fun q3 => q_qe k0 (by rw [if_neg (by omega)])⟩⟩
    obtain ⟨m, rfl⟩ := Int.eq_ofNat_of_zero_le q.1
    refine s_grab hL V A (by omega) (fun h1 f => q_qe (k h1 f) ?_)
    exact (if_pos (by omega)).symm
end QTop3
