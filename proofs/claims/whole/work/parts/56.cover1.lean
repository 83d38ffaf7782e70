/-! those ABOVE a set with few gaps, by numbers: bit j is on where the j-th gap is put in -/
def qgp (S : QZ) (j : Nat) : Nat := (qnth (qgap S) 400 j).toNat
theorem qgp_ok {S : QZ} {k : Nat} (h : k < qgn S) : S (qgp S k) = false ∧ qgp S k < 400 ∧ qc (qgap S) (qgp S k) = k := by
  obtain ⟨x, h1, h2, h3⟩ := qc_kth (p := qgap S) (n := 400) h
  have e : qgp S k = x := by unfold qgp; rw [← h3, qnth_at h2 h1]; rfl
  rw [e]
  exact ⟨qgap_f.mp h2, h1, h3⟩
theorem qgp_of {S : QZ} {x : Nat} (h : S x = false) (hx : x < 400) : qc (qgap S) x < qgn S ∧ qgp S (qc (qgap S) x) = x := by
  have hg := qgap_f.mpr h
  have h1 : qc (qgap S) x < qgn S := qc_lt hx hg
  obtain ⟨a1, a2, a3⟩ := qgp_ok h1
  exact ⟨h1, qc_one (qgap_f.mpr a1) hg a3⟩
theorem qgp_lt {S : QZ} {k k' : Nat} (h : k < k') (h' : k' < qgn S) : qgp S k < qgp S k' := by
  obtain ⟨a1, a2, a3⟩ := qgp_ok (S := S) (k := k) (by omega)
  obtain ⟨b1, b2, b3⟩ := qgp_ok h'
  rcases Nat.lt_or_ge (qgp S k) (qgp S k') with q | q
  · exact q
  · have := qc_mono (qgap S) q; omega
theorem qgp_16 {S : QZ} (V : QV1 S) (hg : qgn S ≤ 8) {k : Nat} (h : k < qgn S) : qgp S k < 16 := by
  obtain ⟨a1, a2, a3⟩ := qgp_ok h
  rcases Nat.lt_or_ge (qgp S k) 16 with c | c
  · exact c
  · rw [qfew V hg _ c] at a1; cases a1
/-- with some of its gaps -/
def qab (S : QZ) (n : Nat) : QZ := fun x => S x || qex (fun j => (qgp S j == x) && qbt n j) (qgn S)
theorem qab_iff {S : QZ} {n x : Nat} : qab S n x = true ↔ S x = true ∨ ∃ j, j < qgn S ∧ qgp S j = x ∧ qbt n j = true := by
  unfold qab
  rw [Bool.or_eq_true, qex_iff]
  simp only [Bool.and_eq_true, beq_iff_eq]
theorem qab_gap {S : QZ} {n j : Nat} (hj : j < qgn S) : qab S n (qgp S j) = qbt n j := by
  obtain ⟨a1, a2, a3⟩ := qgp_ok hj
  rw [Bool.eq_iff_iff, qab_iff]
  constructor
  · rintro (q | ⟨j', j1, j2, j3⟩)
    · rw [a1] at q; cases q
    · have : j' = j := by
        have b := (qgp_ok j1).2.2
        rw [j2, a3] at b
        exact b.symm
      rw [← this]; exact j3
  · intro q; exact Or.inr ⟨j, hj, rfl, q⟩
theorem qab_in {S : QZ} {n x : Nat} (h : S x = true) : qab S n x = true := qab_iff.mpr (Or.inl h)
/-- what the object keeps of a set -/
def qcov (h : QM) (S : QZ) : Prop := h 0 0 5 = qgn S ∧ qbs (h 0 0 6) S ∧ ∀ j : Nat, j < qgn S → h 17 0 j = qgp S j
def qcov2 (h : QM) (S : QZ) : Prop := qcov h S ∧ ∀ n : Nat, n < 2 ^ qgn S → h 13 0 n = qb (qclp (qab S n))
theorem qcov_fx {h h' : QM} {S : QZ} {rs : List Nat} (a : qcov h S) (f : qfx rs h h') (e : (rs.contains 0 || rs.contains 17) = false) : qcov h' S := by
  simp only [Bool.or_eq_false_iff] at e
  exact ⟨by rw [f 0 e.1]; exact a.1, by rw [f 0 e.1]; exact a.2.1, fun j hj => by rw [f 17 e.2]; exact a.2.2 j hj⟩
theorem q2g {g : Nat} (h : g ≤ 8) : 2 ^ g ≤ 256 := by
  have := Nat.pow_le_pow_right (show 0 < 2 by omega) h
  have e : 2 ^ 8 = 256 := by decide
  omega
theorem q_shl1 {g : Nat} (h : g ≤ 8) : q_shl 1 g = ((2 ^ g : Nat) : Int) := by
  have : ∀ g, g < 9 → q_shl 1 (g : Nat) = ((2 ^ g : Nat) : Int) := by decide +kernel
  exact this g (by omega)
section QCov
variable {l : Launch} {g : QG} {d : Nat} {h : QM} {i : Int} {S : QZ} {Q : Int → QM → Prop}
theorem s_spread {n : Nat} (hL : qhL g) (V : QV1 S) (hg : qgn S ≤ 8) (C : qcov h S) (k : ∀ z, qbs z (qab S n) → Q z h) : q_tr l g (d + 1) n_X0_spread [qr 0 0, qi n] h Q := by
  refine i_X0_spread hL (fun G hG _ _ => b_X0_spread_0 hG ?_)
  have key : ∀ m, m ≤ qgn S → ∀ z, qbs z (fun x => S x || qex (fun j => (qgp S j == x) && qbt n j) m) → G 7 [some (qr 0 0), some (qi n), some (qi z), some (qi (m : Int))] [] h := by
    refine q_up (fun m hm ih z hz => b_X0_spread_7 hG ?_)
    rw [C.1]
    refine ⟨fun q => k z (qbs_cong hz (fun x _ => by rw [show m = qgn S by omega]; rfl)), fun q => ?_⟩
    have hmg : m < qgn S := by omega
    rw [q_bit (show m < 32 by omega), C.2.2 m hmg]
    have h16 := qgp_16 V hg hmg
    refine ⟨fun q2 => ⟨by omega, ih hmg z (qbs_cong hz (fun x _ => ?_))⟩, fun q2 => ⟨by omega, by omega, ih hmg _ (qbs_cong (qbs_set hz (show qgp S m < 32 by omega)) (fun x _ => ?_))⟩⟩
    · show _ = (S x || (qex _ m || ((qgp S m == x) && qbt n m)))
      rw [qb_0.mp q2, Bool.and_false, Bool.or_false]
    · show _ = (S x || (qex _ m || ((qgp S m == x) && qbt n m)))
      rw [qb_n0.mp q2, Bool.and_true, Bool.or_assoc]
      congr 2
      rw [Bool.eq_iff_iff, beq_iff_eq, beq_iff_eq]
      exact ⟨fun e => e.symm, fun e => e.symm⟩
  exact key 0 (Nat.zero_le _) _ (qbs_cong C.2.1 (fun x _ => by show _ = (S x || false); rw [Bool.or_false]))
theorem s_numberOf {m : Int} {p : Nat → Bool} (hL : qhL g) (V : QV1 S) (hg : qgn S ≤ 8) (C : qcov h S) (hm : qbs m p) (k : ∀ z, qbs z (fun j => decide (j < qgn S) && p (qgp S j)) → Q z h) : q_tr l g (d + 2) n_X0_numberOf [qr 0 0, qi m] h Q := by
  refine i_X0_numberOf hL (fun G hG _ _ => b_X0_numberOf_0 hG ?_)
  have key : ∀ w, w ≤ qgn S → ∀ z, qbs z (fun j => decide (j < w) && p (qgp S j)) → G 4 [some (qr 0 0), some (qi m), some (qi z), some (qi (w : Int))] [] h := by
    refine q_up (fun w hw ih z hz => b_X0_numberOf_4 hG ?_)
    rw [C.1]
    refine ⟨fun q => k z (qbs_cong hz (fun x _ => by rw [show w = qgn S by omega])), fun q => ?_⟩
    have hwg : w < qgn S := by omega
    rw [C.2.2 w hwg]
    have h16 := qgp_16 V hg hwg
    refine ⟨by omega, s_contains hL hm (by omega) ⟨fun q2 => ⟨by omega, ih hwg z (qbs_cong hz (fun x _ => ?_))⟩, fun q2 => ⟨by omega, ih hwg _ (qbs_cong (qbs_set hz (show w < 32 by omega)) (fun x _ => ?_))⟩⟩⟩
    · by_cases c : x = w
      · subst c; rw [qb_0.mp q2, Bool.and_false, Bool.and_false]
      · rw [show decide (x < w) = decide (x < w + 1) from decide_eq_decide.mpr (by omega)]
    · by_cases c : x = w
      · subst c; rw [qb_n0.mp q2]; simp
      · rw [show decide (x < w) = decide (x < w + 1) from decide_eq_decide.mpr (by omega), show (x == w) = false by simp [c], Bool.or_false]
  exact key 0 (Nat.zero_le _) 0 (qbs_cong qbs_0 (fun x _ => by simp))
theorem s_open (hL : qhL g) (V : QV2 S) (A : qat h i S) (hg : qgn S ≤ 8) (k : ∀ h', qfx [0, 13, 17] h h' → qcov2 h' S → Q ((2 ^ qgn S : Nat) : Int) h') : q_tr l g (d + 3) n_X0_open [qr 0 0, qr 8 i] h Q := by
  refine i_X0_open hL (fun G hG _ _ => b_X0_open_0 hG ?_)
  have h256 := q2g hg
  rw [A.2.2.1, show min (qgn S : Int) 8 = qgn S by omega, qu_at]
  generalize hh : q_cpy (qu h 0 0 5 (qgn S : Int)) 31 i 0 17 0 0 (qgn S : Int) = h0
  have f0 : qfx [0, 13, 17] h h0 := by
    rw [← hh]
    refine qfx_trans (h2 := qu h 0 0 5 (qgn S : Int)) (qfx_qu rfl) (fun r e a b => ?_)
    unfold q_cpy
    rw [if_neg (fun z => by rw [z.1] at e; cases e)]
  have a5 : h0 0 0 5 = qgn S := by
    rw [← hh]
    unfold q_cpy
    rw [if_neg (by omega), qu_at]
  have a17 : ∀ j : Nat, j < qgn S → h0 17 0 j = qgp S j := fun j hj => by
    rw [← hh]
    unfold q_cpy
    rw [if_pos (by omega), show (0 : Int) + ((j : Int) - 0) = j by omega, qu_ne (by omega)]
    obtain ⟨b1, b2, b3⟩ := qgp_ok hj
    have := A.2.2.2.1 _ b2 b1
    rwa [b3] at this
  refine ⟨by omega, s_maskOf hL V.1 (qat_fx A f0 rfl) (qfew V.1 hg) (fun z hz => ?_)⟩
  rw [qu_ne (by omega), a5, q_shl1 hg]
  have key : ∀ n, n ≤ 2 ^ qgn S → ∀ h1, (qfx [0, 13, 17] h h1 ∧ qcov h1 S ∧ ∀ w : Nat, w < n → h1 13 0 w = qb (qclp (qab S w))) → G 47 [some (qr 0 0), none, some (qi ((2 ^ qgn S : Nat) : Int)), some (qi (n : Int))] [] h1 := by
    refine q_up (fun n hn ih h1 hI => b_X0_open_47 hG ?_)
    obtain ⟨f1, C, a1⟩ := hI
    refine ⟨fun q => k h1 f1 ⟨C, fun w hw => a1 w (by omega)⟩, fun q => s_spread hL V.1 hg C (fun z hz => s_hasSums hL hz (qab_in V.1.1) (fun x hx => qab_in (qfew V.1 hg x hx)) ⟨⟨by omega, qb_01 _⟩, by omega, ih (by omega) _ ⟨qfx_trans f1 (qfx_qu rfl), qcov_fx C (qfx_qu (rs := [13]) rfl) rfl, fun w hw => ?_⟩⟩)⟩
    by_cases c : w = n
    · rw [c, qu_at]
    · rw [qu_ne (by omega)]; exact a1 w (by omega)
  refine key 0 (Nat.zero_le _) _ ⟨qfx_trans f0 (qfx_qu rfl), ⟨by rw [qu_ne (by omega)]; exact a5, by rw [qu_at]; exact hz, fun j hj => by rw [qu_ne (by omega)]; exact a17 j hj⟩, fun w hw => absurd hw (Nat.not_lt_zero _)⟩
/-- how many are ABOVE -/
def qabn (S : QZ) : Nat := qc (fun n => qclp (qab S n)) (2 ^ qgn S)
theorem s_csize (hL : qhL g) (V : QV2 S) (A : qat h i S) (hg : qgn S ≤ 8) (k : ∀ h', qfx [0, 13, 17] h h' → Q (qabn S : Nat) h') : q_tr l g (d + 4) n_X0_size [qr 0 0, qr 8 i] h Q := by
  refine i_X0_size hL (fun G hG _ _ => b_X0_size_0 hG ?_)
  have h256 := q2g hg
  refine s_open hL V A hg (fun h1 f C => ?_)
  have key : ∀ n, n ≤ 2 ^ qgn S → G 11 [some (qr 0 0), none, some (qi ((2 ^ qgn S : Nat) : Int)), some (qi (qc (fun n => qclp (qab S n)) n : Nat)), some (qi (n : Int))] [] h1 := by
    refine q_up (fun n hn ih => b_X0_size_11 hG ?_)
    refine ⟨fun q => q_qe (k h1 f) (by rw [show n = 2 ^ qgn S by omega]; rfl), fun q => ⟨by omega, ?_⟩⟩
    have ih := ih (by omega)
    have hcl := qc_le (fun n => qclp (qab S n)) n
    rw [C.2 n (by omega)]
    refine ⟨fun q2 => ⟨by omega, by omega, ?_⟩, fun q2 => ⟨by omega, by omega, ?_⟩⟩
    · rw [qc_f (p := fun n => qclp (qab S n)) (qb_0.mp q2)] at ih
      rw [Int.add_zero]; exact ih
    · rw [qc_t (p := fun n => qclp (qab S n)) (qb_n0.mp q2)] at ih
      exact ih
  exact key 0 (Nat.zero_le _)
end QCov
