/-! the class itself: what is asked of one set, more -/
section QTop2
variable {l : Launch} {g : QG} {d : Nat} {h : QM} {Q : Int → QM → Prop} {n : Nat} {S : Nat → QZ} {x set : Int}
theorem t_parts {y : Int} (hL : qhL g) (hx : h 11 0 10 = x) (hx0 : 0 ≤ x) (H : qhall h x n S) (k : Q (qon n S set (-1) (fun S => if 0 ≤ y ∧ y ≤ 900 then (qprt S y.toNat : Nat) else -1)) h) : q_tr l g (d + 5) n_X11_parts [qr 11 0, qi set, qi y] h Q := by
  refine i_X11_parts hL (fun G hG _ _ => b_X11_parts_0 hG ?_)
  rw [hx]
  refine ⟨hx0, s_at hL H (fun j e hj => ?_) (fun e => ⟨fun _ => q_qe k (by rw [qon_out e]), fun q => absurd (show (-1 : Int) < 0 by omega) q⟩)⟩
  subst e
  rw [qon_in hj] at k
  obtain ⟨V, A⟩ := H.2.2 j hj
  refine ⟨fun q => by omega, fun _ => ⟨fun q => q_qe k (by rw [if_neg (by omega)]), fun q => ⟨fun q2 => ?_, fun q2 => q_qe k (by rw [if_neg (by omega)])⟩⟩⟩
  obtain ⟨m, rfl⟩ := Int.eq_ofNat_of_zero_le (show 0 ≤ y by omega)
  rw [if_pos (by omega), Int.toNat_natCast] at k
  exact s_parts hL V A (by omega) k
theorem t_blunder (hL : qhL g) (hx : h 11 0 10 = x) (hx0 : 0 ≤ x) (H : qhall h x n S) (k : ∀ h', qfx [40, 41, 42] h h' → Q (qon n S set (-1) (fun S => qblun S)) h') : q_tr l g (d + 4) n_X11_blunder [qr 11 0, qi set] h Q := by
  refine i_X11_blunder hL (fun G hG _ _ => b_X11_blunder_0 hG ?_)
  rw [hx]
  refine ⟨hx0, s_at hL H (fun j e hj => ?_) (fun e => ⟨fun _ => q_qe (k h (qfx_refl _ _) ) (by rw [qon_out e]), fun q => absurd (show (-1 : Int) < 0 by omega) q⟩)⟩
  subst e
  simp only [qon_in hj] at k
  obtain ⟨V, A⟩ := H.2.2 j hj
  exact ⟨fun q => by omega, fun _ => s_blunder hL V A k⟩
theorem t_ways {y : Int} (hL : qhL g) (hx : h 11 0 10 = x) (hx0 : 0 ≤ x) (H : qhall h x n S) (k : ∀ h', qfx [34] h h' → Q (qon n S set (-1) (fun S => if 0 ≤ y ∧ y ≤ 150 then (qWk (qgk S) (qgc S) 0 y.toNat : Nat) else -1)) h') : q_tr l g (d + 3) n_X11_ways [qr 11 0, qi set, qi y] h Q := by
  refine i_X11_ways hL (fun G hG _ _ => b_X11_ways_0 hG ?_)
  rw [hx]
  refine ⟨hx0, s_at hL H (fun j e hj => ?_) (fun e => ⟨fun _ => q_qe (k h (qfx_refl _ _) ) (by rw [qon_out e]), fun q => absurd (show (-1 : Int) < 0 by omega) q⟩)⟩
  subst e
  simp only [qon_in hj] at k
  obtain ⟨V, A⟩ := H.2.2 j hj
  refine ⟨fun q => by omega, fun _ => s_isSum hL ⟨fun q => ?_, fun q => q_qe (k h (qfx_refl _ _)) (by rw [if_neg (of_decide_eq_false (qb_0.mp q))])⟩⟩
  have q := of_decide_eq_true (qb_n0.mp q)
  obtain ⟨m, rfl⟩ := Int.eq_ofNat_of_zero_le q.1
  simp only [if_pos q, Int.toNat_natCast] at k
  exact s_number hL V A (by omega) (fun h1 f _ => k h1 f)
theorem t_chain {y : Int} (hL : qhL g) (hx : h 11 0 10 = x) (hx0 : 0 ≤ x) (H : qhall h x n S) (k : ∀ h', qfx [34, 36, 37, 39] h h' → Q (qon n S set (-1) (fun S => if 0 ≤ y ∧ y ≤ 150 then qchain (qgk S) (qgc S) y.toNat else -1)) h') : q_tr l g (d + 4) n_X11_chain [qr 11 0, qi set, qi y] h Q := by
  refine i_X11_chain hL (fun G hG _ _ => b_X11_chain_0 hG ?_)
  rw [hx]
  refine ⟨hx0, s_at hL H (fun j e hj => ?_) (fun e => ⟨fun _ => q_qe (k h (qfx_refl _ _) ) (by rw [qon_out e]), fun q => absurd (show (-1 : Int) < 0 by omega) q⟩)⟩
  subst e
  simp only [qon_in hj] at k
  obtain ⟨V, A⟩ := H.2.2 j hj
  refine ⟨fun q => by omega, fun _ => s_isSum hL ⟨fun q => ?_, fun q => q_qe (k h (qfx_refl _ _)) (by rw [if_neg (of_decide_eq_false (qb_0.mp q))])⟩⟩
  have q := of_decide_eq_true (qb_n0.mp q)
  obtain ⟨m, rfl⟩ := Int.eq_ofNat_of_zero_le q.1
  simp only [if_pos q, Int.toNat_natCast] at k
  exact s_chain hL V A (by omega) k
theorem t_below {y : Int} (hL : qhL g) (hx : h 11 0 10 = x) (hx0 : 0 ≤ x) (H : qhall h x n S) (k : Q (qon n S set (-1) (fun S => if y = 0 then 1 else if y = 1 then qpick (fun z => qgen S z && decide (qtop S < z)) 400 (-1) else if y = 2 then qg2 S else -1)) h) : q_tr l g (d + 5) n_X11_below [qr 11 0, qi set, qi y] h Q := by
  refine i_X11_below hL (fun G hG _ _ => b_X11_below_0 hG ?_)
  rw [hx]
  refine ⟨hx0, s_at hL H (fun j e hj => ?_) (fun e => ⟨fun _ => q_qe k (by rw [qon_out e]), fun q => absurd (show (-1 : Int) < 0 by omega) q⟩)⟩
  subst e
  rw [qon_in hj] at k
  obtain ⟨V, A⟩ := H.2.2 j hj
  refine ⟨fun q => by omega, fun _ => ⟨fun q => q_qe k ?_, fun q => q_qe k ?_, fun q => s_childAt hL V A ?_, fun q => s_grand hL V A ?_, trivial⟩⟩
  · rw [if_neg (by omega), if_neg (by omega), if_neg (by omega)]
  · rw [if_pos q]
  · rw [if_neg (by omega), if_pos q] at k; exact k
  · rw [if_neg (by omega), if_neg (by omega), if_pos q] at k; exact k
end QTop2
