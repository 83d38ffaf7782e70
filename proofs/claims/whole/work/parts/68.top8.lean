/-! the class itself: what is counted -/
def qcnt (n : Nat) (S : Nat → QZ) (tn dn sn : Nat) (w : Int) : Int := if w = 0 then n else if w = 1 then qsum (fun j => (qgn (S j) : Nat)) n else if w = 2 then tn else if w = 3 then dn else if w = 4 then sn else if w = 5 then qbits (fun j => qlone (qtop (S j)) (qgn (S j))) n else if w = 6 then qmax (fun j => qtop (S j)) n else if w = 7 then qlack S n else -1
section QTop8
variable {l : Launch} {g : QG} {d : Nat} {h : QM} {Q : Int → QM → Prop} {n tn dn : Nat} {S : Nat → QZ} {x : Int}
theorem t_count {w : Int} {tb : Nat → Int} {dl : Nat → Nat × Nat} {b : Nat → Bool} (hL : qhL g) (hx : h 11 0 10 = x) (hx0 : 0 ≤ x) (H : qhall h x n S) (T : qtape h tn tb) (D : qdeeds h dn dl) (B : ∀ i : Nat, i < 3 → h 45 0 i = qb (b i)) (k : Q (qcnt n S tn dn (qc b 3) w) h) : q_tr l g (d + 4) n_X11_count [qr 11 0, qi w] h Q := by
  refine i_X11_count hL (fun G hG _ _ => b_X11_count_0 hG ?_)
  rw [hx]
  unfold qcnt at k
  refine ⟨fun q => q_qe k ?_, fun q => ⟨hx0, q_qe k ?_⟩, fun q => ⟨hx0, s_each hL H (q_qe k ?_)⟩, fun q => s_tsize hL T (q_qe k ?_), fun q => s_dsize hL D (q_qe k ?_), fun q => t_slots hL B (q_qe k ?_), fun q => ⟨hx0, s_lbits hL H (q_qe k ?_)⟩, fun q => ⟨hx0, s_gtop hL H (q_qe k ?_)⟩, fun q => ⟨hx0, s_lack hL H (q_qe k ?_)⟩, trivial⟩
  · rw [if_neg (by omega), if_neg (by omega), if_neg (by omega), if_neg (by omega), if_neg (by omega), if_neg (by omega), if_neg (by omega), if_neg (by omega)]
  · rw [if_pos q]; exact H.1
  · rw [if_neg (by omega), if_pos q]
  · rw [if_neg (by omega), if_neg (by omega), if_pos q]
  · rw [if_neg (by omega), if_neg (by omega), if_neg (by omega), if_pos q]
  · rw [if_neg (by omega), if_neg (by omega), if_neg (by omega), if_neg (by omega), if_pos q]
  · rw [if_neg (by omega), if_neg (by omega), if_neg (by omega), if_neg (by omega), if_neg (by omega), if_pos q]
  · rw [if_neg (by omega), if_neg (by omega), if_neg (by omega), if_neg (by omega), if_neg (by omega), if_neg (by omega), if_pos q]
  · rw [if_neg (by omega), if_neg (by omega), if_neg (by omega), if_neg (by omega), if_neg (by omega), if_neg (by omega), if_neg (by omega), if_pos q]
end QTop8
