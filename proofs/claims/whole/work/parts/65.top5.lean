/-! the class itself: two sets -/
/-- of two sets that there are, else -1 -/
def qon2 (n : Nat) (S : Nat → QZ) (a b : Int) (f : QZ → QZ → Int) : Int := if (0 ≤ a ∧ a < n) ∧ 0 ≤ b ∧ b < n then f (S a.toNat) (S b.toNat) else -1
section QTop5
variable {l : Launch} {g : QG} {d : Nat} {h : QM} {Q : Int → QM → Prop} {n : Nat} {S : Nat → QZ} {x a b : Int}
theorem t_meeting {w : Int} (hL : qhL g) (hx : h 11 0 10 = x) (hx0 : 0 ≤ x) (H : qhall h x n S) (k : Q (qon2 n S a b (fun S T => if w = 0 then (qcg S T : Int) else if w = 1 then (qgn S : Int) - qcg S T else if w = 2 then (qgn T : Int) - qcg S T else -1)) h) : q_tr l g (d + 2) n_X11_meeting [qr 11 0, qi a, qi b, qi w] h Q := by
  refine i_X11_meeting hL (fun G hG _ _ => b_X11_meeting_0 hG ?_)
  subst hx
  unfold qon2 at k
  refine ⟨hx0, s_at hL H (fun i ei hi => ⟨fun q => by omega, fun _ => ⟨hx0, s_at hL H (fun j ej hj => ?_) (fun e => ⟨fun _ => q_qe k (by rw [if_neg (by omega)]), fun q => absurd (show (-1 : Int) < 0 by omega) q⟩)⟩⟩) (fun e => ⟨fun _ => ⟨hx0, s_at hL H (fun j ej hj => ⟨fun q => by omega, fun _ => q_qe k (by rw [if_neg (by omega)])⟩) (fun e2 => ⟨fun _ => q_qe k (by rw [if_neg (by omega)]), fun q => absurd (show (-1 : Int) < 0 by omega) q⟩)⟩, fun q => absurd (show (-1 : Int) < 0 by omega) q⟩)⟩
  subst ei
  subst ej
  rw [if_pos (by omega), Int.toNat_natCast, Int.toNat_natCast] at k
  dsimp only at k
  obtain ⟨V, A⟩ := H.2.2 i hi
  obtain ⟨W, B⟩ := H.2.2 j hj
  refine ⟨fun q => by omega, fun _ => s_common hL V.1 A W.1 B ?_⟩
  have h1 := qgn_le V.1
  have h2 := qgn_le W.1
  have h3 : qcg (S i) (S j) ≤ 400 := qc_le _ _
  rw [A.2.2.1, B.2.2.1]
  refine ⟨fun q => q_qe k ?_, fun q => q_qe k ?_, fun q => ⟨by omega, q_qe k ?_⟩, fun q => ⟨by omega, q_qe k ?_⟩, trivial⟩
  · rw [if_neg (by omega), if_neg (by omega), if_neg (by omega)]
  · rw [if_pos q]
  · rw [if_neg (by omega), if_pos q]
  · rw [if_neg (by omega), if_neg (by omega), if_pos q]
theorem t_same (hL : qhL g) (hx : h 11 0 10 = x) (hx0 : 0 ≤ x) (H : qhall h x n S) (k : Q (qon2 n S a b (fun S T => if qsub T S then (if qsub S T then 1 else 2) else if qsub S T then 3 else 0)) h) : q_tr l g (d + 3) n_X11_same [qr 11 0, qi a, qi b] h Q := by
  refine i_X11_same hL (fun G hG _ _ => b_X11_same_0 hG ?_)
  subst hx
  unfold qon2 at k
  refine ⟨hx0, s_at hL H (fun i ei hi => ⟨fun q => by omega, fun _ => ⟨hx0, s_at hL H (fun j ej hj => ?_) (fun e => ⟨fun _ => q_qe k (by rw [if_neg (by omega)]), fun q => absurd (show (-1 : Int) < 0 by omega) q⟩)⟩⟩) (fun e => ⟨fun _ => ⟨hx0, s_at hL H (fun j ej hj => ⟨fun q => by omega, fun _ => q_qe k (by rw [if_neg (by omega)])⟩) (fun e2 => ⟨fun _ => q_qe k (by rw [if_neg (by omega)]), fun q => absurd (show (-1 : Int) < 0 by omega) q⟩)⟩, fun q => absurd (show (-1 : Int) < 0 by omega) q⟩)⟩
  subst ei
  subst ej
  rw [if_pos (by omega), Int.toNat_natCast, Int.toNat_natCast] at k
  dsimp only at k
  obtain ⟨V, A⟩ := H.2.2 i hi
  obtain ⟨W, B⟩ := H.2.2 j hj
  refine ⟨fun q => by omega, fun _ => s_hasAll hL V.1 A W.1 B (s_hasAll hL W.1 B V.1 A ?_)⟩
  cases e1 : qsub (S j) (S i) <;> cases e2 : qsub (S i) (S j) <;> rw [e1, e2] at k
  · exact ⟨fun _ => ⟨fun _ => ⟨fun _ => k, fun q => absurd rfl q⟩, fun q => absurd rfl q⟩, fun q => absurd rfl q⟩
  · exact ⟨fun _ => ⟨fun _ => ⟨fun q => absurd (show (1 : Int) = 0 from q) (by decide), fun _ => k⟩, fun q => absurd rfl q⟩, fun q => absurd rfl q⟩
  · exact ⟨fun q => absurd (show (1 : Int) = 0 from q) (by decide), fun _ => ⟨fun _ => ⟨fun q => absurd (show (1 : Int) = 0 from q) (by decide), fun _ => k⟩, fun q => absurd rfl q⟩⟩
  · exact ⟨fun q => absurd (show (1 : Int) = 0 from q) (by decide), fun _ => ⟨fun q => absurd (show (1 : Int) = 0 from q) (by decide), fun _ => k⟩⟩
end QTop5
