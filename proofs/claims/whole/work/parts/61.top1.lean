/-! the class itself: what is asked of one set -/
/-- of a set that there is, else z -/
def qon (n : Nat) (S : Nat → QZ) (set z : Int) (f : QZ → Int) : Int := if 0 ≤ set ∧ set < n then f (S set.toNat) else z
theorem qon_in {n : Nat} {S : Nat → QZ} {z : Int} {f : QZ → Int} {j : Nat} (h : j < n) : qon n S j z f = f (S j) := by unfold qon; rw [if_pos (by omega)]; rfl
theorem qon_out {n : Nat} {S : Nat → QZ} {set z : Int} {f : QZ → Int} (h : set < 0 ∨ (n : Int) ≤ set) : qon n S set z f = z := by unfold qon; rw [if_neg (by omega)]
section QTop1
variable {l : Launch} {g : QG} {d : Nat} {h : QM} {Q : Int → QM → Prop} {n : Nat} {S : Nat → QZ} {x set : Int}
theorem s_asBit {b : Bool} (hL : qhL g) (k : Q (qb b) h) : q_tr l g (d + 1) n_X11_asBit [qi (qb b)] h Q := by
  refine i_X11_asBit hL (fun G hG _ _ => b_X11_asBit_0 hG ⟨fun q => q_qe k q.symm, fun q => q_qe k (by rw [qb_n0.mp q]; rfl)⟩)
theorem s_isSum {y : Int} (hL : qhL g) (k : Q (qb (decide (0 ≤ y ∧ y ≤ 150))) h) : q_tr l g (d + 1) n_X11_isSum [qi y] h Q := by
  refine i_X11_isSum hL (fun G hG _ _ => b_X11_isSum_0 hG ⟨fun q => ⟨Or.inl rfl, q_qe k (by rw [decide_eq_false (by omega)]; rfl)⟩, fun q => ⟨fun q2 => ⟨Or.inl rfl, q_qe k (by rw [decide_eq_false (by omega)]; rfl)⟩, fun q2 => ⟨Or.inr rfl, q_qe k (by rw [decide_eq_true (by omega)]; rfl)⟩⟩⟩)
theorem t_has {y : Int} (hL : qhL g) (hx : h 11 0 10 = x) (hx0 : 0 ≤ x) (H : qhall h x n S) (k : Q (qon n S set (-1) (fun S => if 0 ≤ y ∧ y ≤ 9999 then qb (qin S y) else -1)) h) : q_tr l g (d + 2) n_X11_has [qr 11 0, qi set, qi y] h Q := by
  refine i_X11_has hL (fun G hG _ _ => b_X11_has_0 hG ?_)
  rw [hx]
  refine ⟨hx0, s_at hL H (fun j e hj => ?_) (fun e => ⟨fun _ => q_qe k (by rw [qon_out e]), fun q => absurd (show (-1 : Int) < 0 by omega) q⟩)⟩
  subst e
  rw [qon_in hj] at k
  obtain ⟨V, A⟩ := H.2.2 j hj
  refine ⟨fun q => by omega, fun _ => ⟨fun q => q_qe k (by rw [if_neg (by omega)]), fun q => ⟨fun q2 => s_holds hL V.1 A (s_asBit hL ?_), fun q2 => q_qe k (by rw [if_neg (by omega)])⟩⟩⟩
  rw [if_pos (by omega)] at k
  exact k
theorem t_gap {i : Int} (hL : qhL g) (hx : h 11 0 10 = x) (hx0 : 0 ≤ x) (H : qhall h x n S) (k : Q (qon n S set (-1) (fun S => qpick (qgap S) 400 i)) h) : q_tr l g (d + 2) n_X11_gap [qr 11 0, qi set, qi i] h Q := by
  refine i_X11_gap hL (fun G hG _ _ => b_X11_gap_0 hG ?_)
  rw [hx]
  refine ⟨hx0, s_at hL H (fun j e hj => ?_) (fun e => ⟨fun _ => q_qe k (by rw [qon_out e]), fun q => absurd (show (-1 : Int) < 0 by omega) q⟩)⟩
  subst e
  rw [qon_in hj] at k
  obtain ⟨V, A⟩ := H.2.2 j hj
  refine ⟨fun q => by omega, fun _ => ?_⟩
  rw [A.2.2.1]
  exact s_pick_31 hL (qgn_le V.1) (fun y hy hp => A.2.2.2.1 y hy (qgap_f.mp hp)) k
theorem t_generator {i : Int} (hL : qhL g) (hx : h 11 0 10 = x) (hx0 : 0 ≤ x) (H : qhall h x n S) (k : Q (qon n S set (-1) (fun S => qpick (qgen S) 400 i)) h) : q_tr l g (d + 2) n_X11_generator [qr 11 0, qi set, qi i] h Q := by
  refine i_X11_generator hL (fun G hG _ _ => b_X11_generator_0 hG ?_)
  rw [hx]
  refine ⟨hx0, s_at hL H (fun j e hj => ?_) (fun e => ⟨fun _ => q_qe k (by rw [qon_out e]), fun q => absurd (show (-1 : Int) < 0 by omega) q⟩)⟩
  subst e
  rw [qon_in hj] at k
  obtain ⟨V, A⟩ := H.2.2 j hj
  refine ⟨fun q => by omega, fun _ => ?_⟩
  rw [A.2.2.2.2.1]
  exact s_pick_32 hL V.2 (fun y hy hp => A.2.2.2.2.2 y hy hp) k
theorem t_stiff {i : Int} (hL : qhL g) (hx : h 11 0 10 = x) (hx0 : 0 ≤ x) (H : qhall h x n S) (k : Q (qon n S set (-1) (fun S => qpick (qstf S) 400 i)) h) : q_tr l g (d + 4) n_X11_stiff [qr 11 0, qi set, qi i] h Q := by
  refine i_X11_stiff hL (fun G hG _ _ => b_X11_stiff_0 hG ?_)
  rw [hx]
  refine ⟨hx0, s_at hL H (fun j e hj => ?_) (fun e => ⟨fun _ => q_qe k (by rw [qon_out e]), fun q => absurd (show (-1 : Int) < 0 by omega) q⟩)⟩
  subst e
  rw [qon_in hj] at k
  obtain ⟨V, A⟩ := H.2.2 j hj
  exact ⟨fun q => by omega, fun _ => s_stiffAt (b := false) hL V A k⟩
theorem t_special {i : Int} (hL : qhL g) (hx : h 11 0 10 = x) (hx0 : 0 ≤ x) (H : qhall h x n S) (k : Q (qon n S set (-1) (fun S => qpick (qspc S) 400 i)) h) : q_tr l g (d + 4) n_X11_special [qr 11 0, qi set, qi i] h Q := by
  refine i_X11_special hL (fun G hG _ _ => b_X11_special_0 hG ?_)
  rw [hx]
  refine ⟨hx0, s_at hL H (fun j e hj => ?_) (fun e => ⟨fun _ => q_qe k (by rw [qon_out e]), fun q => absurd (show (-1 : Int) < 0 by omega) q⟩)⟩
  subst e
  rw [qon_in hj] at k
  obtain ⟨V, A⟩ := H.2.2 j hj
  exact ⟨fun q => by omega, fun _ => s_stiffAt (b := true) hL V A k⟩
theorem t_child {i : Int} (hL : qhL g) (hx : h 11 0 10 = x) (hx0 : 0 ≤ x) (H : qhall h x n S) (k : Q (qon n S set (-1) (fun S => qpick (fun y => qgen S y && decide (qtop S < y)) 400 i)) h) : q_tr l g (d + 4) n_X11_child [qr 11 0, qi set, qi i] h Q := by
  refine i_X11_child hL (fun G hG _ _ => b_X11_child_0 hG ?_)
  rw [hx]
  refine ⟨hx0, s_at hL H (fun j e hj => ?_) (fun e => ⟨fun _ => q_qe k (by rw [qon_out e]), fun q => absurd (show (-1 : Int) < 0 by omega) q⟩)⟩
  subst e
  rw [qon_in hj] at k
  obtain ⟨V, A⟩ := H.2.2 j hj
  exact ⟨fun q => by omega, fun _ => s_childAt hL V A k⟩
end QTop1
