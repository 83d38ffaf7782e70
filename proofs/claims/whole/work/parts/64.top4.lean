/-! the class itself: sets with few gaps -/
section QTop4
variable {l : Launch} {g : QG} {d : Nat} {h : QM} {Q : Int → QM → Prop} {n : Nat} {S : Nat → QZ} {x set : Int}
theorem t_above (hL : qhL g) (hx : h 11 0 10 = x) (hx0 : 0 ≤ x) (H : qhall h x n S) (k : ∀ h', qfx [0, 13, 17] h h' → Q (qon n S set (-1) (fun S => if qgn S ≤ 8 then (qabn S : Int) else -2)) h') : q_tr l g (d + 5) n_X11_above [qr 11 0, qi set] h Q := by
  refine i_X11_above hL (fun G hG _ _ => b_X11_above_0 hG ?_)
  rw [hx]
  refine ⟨hx0, s_at hL H (fun j e hj => ?_) (fun e => ⟨fun _ => q_qe (k h (qfx_refl _ _)) (by rw [qon_out e]), fun q => absurd (show (-1 : Int) < 0 by omega) q⟩)⟩
  subst e
  simp only [qon_in hj] at k
  obtain ⟨V, A⟩ := H.2.2 j hj
  refine ⟨fun q => by omega, fun _ => ?_⟩
  rw [A.2.2.1]
  refine ⟨fun q => ?_, fun q => q_qe (k h (qfx_refl _ _)) (by rw [if_neg (by omega)])⟩
  simp only [if_pos (show qgn (S j) ≤ 8 by omega)] at k
  exact s_csize hL V A (by omega) k
theorem t_piece {i : Int} (hL : qhL g) (hx : h 11 0 10 = x) (hx0 : 0 ≤ x) (H : qhall h x n S) (k : ∀ h', qfx [0, 13, 15, 16, 17] h h' → Q (qon n S set (-1) (fun S => if qgn S ≤ 8 then qlpick (qpcs S 8 1) i else -2)) h') : q_tr l g (d + 11) n_X11_piece [qr 11 0, qi set, qi i] h Q := by
  refine i_X11_piece hL (fun G hG _ _ => b_X11_piece_0 hG ?_)
  rw [hx]
  refine ⟨hx0, s_at hL H (fun j e hj => ?_) (fun e => ⟨fun _ => q_qe (k h (qfx_refl _ _)) (by rw [qon_out e]), fun q => absurd (show (-1 : Int) < 0 by omega) q⟩)⟩
  subst e
  simp only [qon_in hj] at k
  obtain ⟨V, A⟩ := H.2.2 j hj
  refine ⟨fun q => by omega, fun _ => ?_⟩
  rw [A.2.2.1]
  refine ⟨fun q => ?_, fun q => q_qe (k h (qfx_refl _ _)) (by rw [if_neg (by omega)])⟩
  simp only [if_pos (show qgn (S j) ≤ 8 by omega)] at k
  exact s_piece hL V A (by omega) k
theorem t_good {i : Int} (hL : qhL g) (hx : h 11 0 10 = x) (hx0 : 0 ≤ x) (H : qhall h x n S) (k : ∀ h', qfx [0, 13, 14, 17] h h' → Q (qon n S set (-1) (fun S => if qgn S ≤ 8 then qgood S i else -2)) h') : q_tr l g (d + 6) n_X11_good [qr 11 0, qi set, qi i] h Q := by
  refine i_X11_good hL (fun G hG _ _ => b_X11_good_0 hG ?_)
  rw [hx]
  refine ⟨hx0, s_at hL H (fun j e hj => ?_) (fun e => ⟨fun _ => q_qe (k h (qfx_refl _ _)) (by rw [qon_out e]), fun q => absurd (show (-1 : Int) < 0 by omega) q⟩)⟩
  subst e
  simp only [qon_in hj] at k
  obtain ⟨V, A⟩ := H.2.2 j hj
  refine ⟨fun q => by omega, fun _ => ?_⟩
  rw [A.2.2.1]
  refine ⟨fun q => ?_, fun q => q_qe (k h (qfx_refl _ _)) (by rw [if_neg (by omega)])⟩
  simp only [if_pos (show qgn (S j) ≤ 8 by omega)] at k
  exact s_wgap hL V A (by omega) k
theorem t_listed (hL : qhL g) (hx : h 11 0 10 = x) (hx0 : 0 ≤ x) (H : qhall h x n S) (K : qlk h) (k : ∀ h', qfx [7, 29] h h' → qlk h' → Q (qon n S set (-1) (fun S => if qgn S ≤ 8 then (qc (qpl (qgn S)) (qvm S 15) : Int) else -2)) h') : q_tr l g (d + 21) n_X11_listed [qr 11 0, qi set] h Q := by
  refine i_X11_listed hL (fun G hG _ _ => b_X11_listed_0 hG ?_)
  rw [hx]
  refine ⟨hx0, s_at hL H (fun j e hj => ?_) (fun e => ⟨fun _ => q_qe (k h (qfx_refl _ _) K) (by rw [qon_out e]), fun q => absurd (show (-1 : Int) < 0 by omega) q⟩)⟩
  subst e
  simp only [qon_in hj] at k
  obtain ⟨V, A⟩ := H.2.2 j hj
  refine ⟨fun q => by omega, fun _ => ?_⟩
  rw [A.2.2.1]
  refine ⟨fun q => ?_, fun q => q_qe (k h (qfx_refl _ _) K) (by rw [if_neg (by omega)])⟩
  simp only [if_pos (show qgn (S j) ≤ 8 by omega)] at k
  exact s_indexOf hL V.1 A (by omega) K k
end QTop4
