/-! the class itself: what is told about one set -/
def qabout (S : QZ) (w : Int) : Int := if w = 0 then qtop S else if w = 1 then qtop S + 1 else if w = 2 then qb (decide (2 * (qgn S : Int) = qtop S + 1)) else if w = 3 then qb (decide (0 < qtop S ∧ qtop S % 2 = 0 ∧ 2 * (qgn S : Int) = qtop S + 2)) else if w = 4 then (qgc S : Int) * (qtop S + 1 - qgn S) - (qtop S + 1) else if w = 5 then qtop S + 1 - qgn S else if w = 7 then qwt S else -2147483648
section QTop6
variable {l : Launch} {g : QG} {d : Nat} {h : QM} {Q : Int → QM → Prop} {n : Nat} {S : Nat → QZ} {x set : Int}
theorem t_about {w : Int} (hL : qhL g) (hx : h 11 0 10 = x) (hx0 : 0 ≤ x) (H : qhall h x n S) (K : qkn h) (k6 : w = 6 → ∀ h', qfx [3, 21, 22] h h' → qkn h' → Q (qon n S set (-2147483648) (fun S => qrul S)) h') (k : w ≠ 6 → Q (qon n S set (-2147483648) (fun S => qabout S w)) h) : q_tr l g (d + 7) n_X11_about [qr 11 0, qi set, qi w] h Q := by
  refine i_X11_about hL (fun G hG _ _ => b_X11_about_0 hG ?_)
  rw [hx]
  refine ⟨hx0, s_at hL H (fun j e hj => ?_) (fun e => ⟨fun _ => ?_, fun q => absurd (show (-1 : Int) < 0 by omega) q⟩)⟩
  · subst e
    rw [qon_in hj] at k
    obtain ⟨V, A⟩ := H.2.2 j hj
    have hb := qtop_bd V.1
    have hg := qgn_le V.1
    have hc : qgc (S j) ≤ 24 := V.2
    rw [A.2.1, A.2.2.1, A.2.2.2.2.1]
    unfold qabout at k
    have p1 : (0 : Int) ≤ qtop (S j) + 1 - qgn (S j) ∨ True := Or.inr trivial
    refine ⟨fun q => by omega, fun _ => ⟨fun q => q_qe (k (by omega)) ?_, fun q => q_qe (k (by omega)) ?_, fun q => s_conductor hL V.1 A (q_qe (k (by omega)) ?_), fun q => s_symm hL (by omega) (by omega) (s_asBit hL (q_qe (k (by omega)) ?_)), fun q => s_nsymm hL (by omega) (by omega) (s_asBit hL (q_qe (k (by omega)) ?_)), fun q => s_cbelow hL V.1 A ?_, fun q => s_cbelow hL V.1 A (q_qe (k (by omega)) ?_), fun q => s_rules hL V A K (fun h1 f K1 => q_qe (k6 q h1 f K1) (by rw [qon_in hj])), fun q => s_weight hL V.1 A (q_qe (k (by omega)) ?_), trivial⟩⟩
    · rw [if_neg (by omega), if_neg (by omega), if_neg (by omega), if_neg (by omega), if_neg (by omega), if_neg (by omega), if_neg (by omega)]
    · rw [if_pos q]
    · rw [if_neg (by omega), if_pos q]
    · rw [if_neg (by omega), if_neg (by omega), if_pos q]
    · rw [if_neg (by omega), if_neg (by omega), if_neg (by omega), if_pos q]
    · have hm : -5000 ≤ (qgc (S j) : Int) * (qtop (S j) + 1 - qgn (S j)) ∧ (qgc (S j) : Int) * (qtop (S j) + 1 - qgn (S j)) ≤ 5000 := by
        generalize hz : qtop (S j) + 1 - qgn (S j) = z
        have z1 : -200 ≤ z ∧ z ≤ 200 := by omega
        generalize qgc (S j) = c at *
        have u1 : (c : Int) * z ≤ c * 200 := Int.mul_le_mul_of_nonneg_left z1.2 (by omega)
        have u2 : (c : Int) * (-200) ≤ c * z := Int.mul_le_mul_of_nonneg_left z1.1 (by omega)
        omega
      refine ⟨by omega, s_conductor hL V.1 A ⟨by omega, q_qe (k (by omega)) ?_⟩⟩
      rw [if_neg (by omega), if_neg (by omega), if_neg (by omega), if_neg (by omega), if_pos q]
    · rw [if_neg (by omega), if_neg (by omega), if_neg (by omega), if_neg (by omega), if_neg (by omega), if_pos q]
    · rw [if_neg (by omega), if_neg (by omega), if_neg (by omega), if_neg (by omega), if_neg (by omega), if_neg (by omega), if_pos q]
  · by_cases c : w = 6
    · exact q_qe (k6 c h (qfx_refl _ _) K) (by rw [qon_out e])
    · exact q_qe (k c) (by rw [qon_out e])
end QTop6
