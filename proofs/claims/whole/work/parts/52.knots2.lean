/-! TIES and RULES; picks out of rows -/
noncomputable def qtie (S : QZ) : Nat → Bool := fun x => decide (1 < qprt S x)
noncomputable def qrul (S : QZ) : Int := qsm (qtie S) (fun x => ((qprt S x : Nat) : Int) - 1) 1100
/-- beyond it every BEGINNING is NEXT to the least GENERATOR -/
theorem qtie_far {S : QZ} (V : QV2 S) {x : Nat} (hx : qtop S + qms S + qgk S (qgc S - 1) < x) : qtie S x = false := by
  have hc0 := qgc_pos V.1
  have hfirst : qgk S 0 = qms S := by
    obtain ⟨m1, m2, m3, m4, m5⟩ := qms_ok V.1
    have := (qgk_of m5 (by omega)).2
    rwa [qgen_first V.1] at this
  unfold qtie
  refine decide_eq_false ?_
  have hle : ∀ k, k < qgc S → qgk S k ≤ qgk S (qgc S - 1) := fun k hk => by
    by_cases e : k = qgc S - 1
    · rw [e]; exact Nat.le_refl _
    · exact Nat.le_of_lt (qgk_lt (S := S) (show k < qgc S - 1 by omega) (by omega))
  have htb := qtop_bd V.1
  have hedge : ∀ k, k < qgc S → qeg S x 0 k = true := fun k hk => by
    unfold qeg
    have h1 := hle k hk
    rw [decide_eq_true hc0, decide_eq_true hk, Bool.true_and, Bool.true_and, hfirst]
    obtain ⟨z, hz⟩ := Int.eq_ofNat_of_zero_le (show 0 ≤ (x : Int) - qms S - qgk S k by omega)
    rw [hz, qin_nat]
    exact qtop_in V.1 (by omega)
  have : qprt S x ≤ qc (fun k => k == 0) (qgc S) := by
    unfold qprt qprts
    refine qc_inj (f := fun a => a) (fun a ha hp => ⟨ha, ?_⟩) (fun _ _ _ _ _ _ e => e)
    have h1 := qdc_t.mp hp
    by_cases e : a = 0
    · simp [e]
    · exact absurd (qco_step (qco_refl 0) hc0 (hedge a ha)) (h1.2 0 (by omega) (qeg_vx V.1 (hedge a ha)).1)
  have e1 : ∀ n, qc (fun k => k == 0) n ≤ 1 := by
    intro n
    induction n with
    | zero => exact Nat.zero_le _
    | succ n ih =>
      by_cases e : n = 0
      · subst e; exact Nat.le_refl _
      · rw [qc_f (by simp [e])]; exact ih
  have := e1 (qgc S)
  omega
theorem qfar_bd {S : QZ} (V : QV2 S) : qtop S + qms S + qgk S (qgc S - 1) ≤ 799 ∧ qgk S (qgc S - 1) < 400 := by
  have hc0 := qgc_pos V.1
  have h1 := qtop_bd V.1
  obtain ⟨m1, m2, m3, m4, m5⟩ := qms_ok V.1
  have h2 := (qgk_ok (S := S) (k := qgc S - 1) (by omega))
  omega
/-- a set is known by its GENERATORS -/
theorem qset_eq {S T : QZ} (V : QV1 S) (W : QV1 T) (e : qgc S = qgc T) (h : ∀ k, k < qgc S → qgk S k = qgk T k) : S = T := by
  funext x
  rw [Bool.eq_iff_iff, ← qmk_set V (x + 1) x (by omega), ← qmk_set W (x + 1) x (by omega), ← e]
  have key : ∀ b y, y < b → (qmk (qgc S) (qgk S) y = true ↔ qmk (qgc S) (qgk T) y = true) := by
    intro b
    induction b with
    | zero => intro y hy; exact absurd hy (Nat.not_lt_zero _)
    | succ b ih =>
      intro y hy
      rw [qmk_iff qgk_pos, qmk_iff (fun k hk => by rw [← h k hk]; exact qgk_pos k hk)]
      refine or_congr Iff.rfl ⟨?_, ?_⟩
      · rintro ⟨k, k1, k2, k3⟩
        have := qgk_pos k k1
        refine ⟨k, k1, by rw [← h k k1]; exact k2, ?_⟩
        rw [← h k k1]
        exact (ih _ (by omega)).mp k3
      · rintro ⟨k, k1, k2, k3⟩
        have := qgk_pos k k1
        rw [← h k k1] at k2 k3
        exact ⟨k, k1, k2, (ih _ (by omega)).mpr k3⟩
  exact key (x + 1) x (by omega)
/-- the TIES that are kept -/
def qkn1 (h : QM) (S : QZ) : Prop := h 3 0 2 = qgc S ∧ (∀ k : Nat, k < qgc S → h 22 0 k = qgk S k) ∧ h 3 0 3 = qc (qtie S) 1100 ∧ (∀ x : Nat, x < 1100 → qtie S x = true → h 21 0 (qc (qtie S) x) = x) ∧ h 3 0 4 = qrul S
def qkn (h : QM) : Prop := h 3 0 2 = 0 ∨ ∃ S, QV2 S ∧ qkn1 h S
theorem qkn_fx {h h' : QM} {rs : List Nat} (a : qkn h) (f : qfx rs h h') (e : (rs.contains 3 || rs.contains 21 || rs.contains 22) = false) : qkn h' := by
  simp only [Bool.or_eq_false_iff] at e
  rcases a with a | ⟨S, V, a1, a2, a3, a4, a5⟩
  · exact Or.inl (by rw [f 3 e.1.1]; exact a)
  · exact Or.inr ⟨S, V, by rw [f 3 e.1.1]; exact a1, fun k hk => by rw [f 22 e.2]; exact a2 k hk, by rw [f 3 e.1.1]; exact a3, fun x hx ht => by rw [f 21 e.1.2]; exact a4 x hx ht, by rw [f 3 e.1.1]; exact a5⟩
section QKnots2
variable {l : Launch} {g : QG} {d : Nat} {h : QM} {i : Int} {S : QZ} {Q : Int → QM → Prop}
theorem s_known (hL : qhL g) (V : QV2 S) (A : qat h i S) (K : qkn h) (k1 : qkn1 h S → Q 1 h) (k0 : Q 0 h) : q_tr l g (d + 1) n_X3_isKnown [qr 3 0, qr 8 i] h Q := by
  refine i_X3_isKnown hL (fun G hG _ _ => b_X3_isKnown_0 hG ?_)
  have hc : qgc S ≤ 24 := V.2
  have hc0 := qgc_pos V.1
  rw [A.2.2.2.2.1]
  refine ⟨fun q => ?_, fun _ => ⟨Or.inl rfl, k0⟩⟩
  rcases K with K | ⟨T, W, K⟩
  · omega
  · have hcc : qgc S = qgc T := by have := K.1; omega
    have key : ∀ m, m ≤ qgc S → (∀ k, k < m → qgk S k = qgk T k) → G 15 [some (qr 3 0), some (qr 8 i), some (qi (m : Int))] [] h := by
      refine q_up (fun m hm ih hal => b_X3_isKnown_15 hG ?_)
      rw [q]
      refine ⟨fun q2 => ⟨Or.inr rfl, k1 ?_⟩, fun q2 => ⟨by omega, by omega, ?_⟩⟩
      · have : S = T := qset_eq V.1 W.1 hcc (fun k hk => hal k (by omega))
        rw [this]; exact K
      · rw [K.2.1 m (by omega), qat_gk A (by omega)]
        refine ⟨fun q3 => ⟨by omega, ih (by omega) (fun k hk => ?_)⟩, fun _ => ⟨Or.inl rfl, k0⟩⟩
        by_cases e : k = m
        · rw [e]; omega
        · exact hal k (by omega)
    exact key 0 (Nat.zero_le _) (fun k hk => absurd hk (Nat.not_lt_zero _))
theorem s_far (hL : qhL g) (V : QV2 S) (A : qat h i S) (k : Q (qtop S + qms S + qgk S (qgc S - 1)) h) : q_tr l g (d + 2) n_X3_farthestTie [qr 8 i] h Q := by
  refine i_X3_farthestTie hL (fun G hG _ _ => b_X3_farthestTie_0 hG ?_)
  have hc : qgc S ≤ 24 := V.2
  have hc0 := qgc_pos V.1
  obtain ⟨b1, b2⟩ := qfar_bd V
  have htb := qtop_bd V.1
  have hm := (qms_ok V.1).2.1
  rw [A.2.2.2.2.1]
  refine ⟨fun _ => s_least hL V.1 A ?_, fun q => by omega⟩
  rw [A.2.2.2.2.1, A.2.1, show (qgc S : Int) - 1 = ((qgc S - 1 : Nat) : Int) by omega, qat_gk A (by omega)]
  exact ⟨by omega, by omega, by omega, by omega, k⟩
theorem s_learn (hL : qhL g) (V : QV2 S) (A : qat h i S) (K : qkn h) (k : ∀ h', qfx [3, 21, 22] h h' → qkn1 h' S → Q 0 h') : q_tr l g (d + 5) n_X3_learn [qr 3 0, qr 8 i] h Q := by
  refine i_X3_learn hL (fun G hG _ _ => b_X3_learn_0 hG ?_)
  have hc : qgc S ≤ 24 := V.2
  obtain ⟨b1, b2⟩ := qfar_bd V
  have hgc := A.2.2.2.2.1
  refine s_known hL V A K (fun K1 => ⟨fun q => absurd q (by decide), fun _ => k h (qfx_refl _ _) K1⟩) ⟨fun _ => ⟨by omega, ?_⟩, fun q => absurd rfl q⟩
  have ec : (q_cpy h 32 i 0 22 0 0 (h 8 i 4)) 8 i 4 = qgc S := by unfold q_cpy; rw [if_neg (by omega)]; exact hgc
  rw [ec, hgc]
  generalize hh : (qu (qu (qu (q_cpy h 32 i 0 22 0 0 (qgc S : Int)) 3 0 2 (qgc S : Int)) 3 0 3 0) 3 0 4 0) = h0
  have f0 : qfx [3, 21, 22] h h0 := by
    rw [← hh]
    refine qfx_trans (qfx_trans (qfx_trans (fun r e a b => ?_) (qfx_qu rfl)) (qfx_qu rfl)) (qfx_qu rfl)
    unfold q_cpy
    rw [if_neg (fun z => by rw [z.1] at e; cases e)]
  have a2 : h0 3 0 2 = qgc S := by rw [← hh, qu_ne (by omega), qu_ne (by omega), qu_at]
  have a3 : h0 3 0 3 = 0 := by rw [← hh, qu_ne (by omega), qu_at]
  have a4 : h0 3 0 4 = 0 := by rw [← hh, qu_at]
  have a22 : ∀ kk : Nat, kk < qgc S → h0 22 0 kk = qgk S kk := fun kk hk => by
    rw [← hh, qu_ne (by omega), qu_ne (by omega), qu_ne (by omega)]
    unfold q_cpy
    rw [if_pos (by omega), show (0 : Int) + ((kk : Int) - 0) = kk by omega]
    exact qat_gk A hk
  refine s_far hL V (qat_fx A f0 rfl) ?_
  rw [show min (qtop S + qms S + qgk S (qgc S - 1)) 900 = qtop S + qms S + qgk S (qgc S - 1) by omega]
  generalize hF : qtop S + qms S + qgk S (qgc S - 1) = F at *
  have hfar : ∀ x : Nat, F < x → qtie S x = false := fun x hx => qtie_far V (by rw [hF]; exact hx)
  have h00 : qtie S 0 = false := by
    unfold qtie
    refine decide_eq_false ?_
    have : qprt S 0 = 0 := by
      unfold qprt qprts
      rw [qc_none (m := 0) (n := qgc S) (Nat.zero_le _) (fun a _ ha => ?_)]
      · rfl
      · cases e : qfp (qgc S) (qvx S 0) (qeg S 0) a with
        | false => rfl
        | true =>
          have h1 := (qdc_t.mp e).1
          unfold qvx at h1
          have h2 := qgk_pos a ha
          rw [qin_neg (by omega), Bool.and_false] at h1; cases h1
    omega
  have hval : ∀ x, qtie S x = true → 0 ≤ ((qprt S x : Nat) : Int) - 1 ∧ ((qprt S x : Nat) : Int) - 1 ≤ 24 := fun x hx => by
    have h1 := of_decide_eq_true hx
    have h2 := qprt_le S x
    omega
  have key : ∀ n, n ≤ 899 → ∀ h1, (qfx [3, 21, 22] h h1 ∧ h1 3 0 2 = qgc S ∧ (∀ kk : Nat, kk < qgc S → h1 22 0 kk = qgk S kk) ∧ h1 3 0 3 = qc (qtie S) (n + 1) ∧ (∀ x : Nat, x < n + 1 → qtie S x = true → h1 21 0 (qc (qtie S) x) = x) ∧ h1 3 0 4 = qsm (qtie S) (fun x => ((qprt S x : Nat) : Int) - 1) (n + 1)) → G 57 [some (qr 3 0), some (qr 8 i), some (qi F), some (qi ((n + 1 : Nat) : Int)), none] [] h1 := by
    refine q_up (fun n hn ih h1 hI => b_X3_learn_57 hG ?_)
    obtain ⟨f1, c2, c22, c3, c21, c4⟩ := hI
    refine ⟨fun q => k h1 f1 ⟨c2, c22, ?_, fun x hx ht => c21 x ?_ ht, ?_⟩, fun q => s_parts hL V (qat_fx A f1 rfl) (by omega) ?_⟩
    · rw [c3, qc_none (m := n + 1) (n := 1100) (by omega) (fun x x1 _ => hfar x (by omega))]
    · rcases Nat.lt_or_ge x (n + 1) with w | w
      · exact w
      · rw [hfar x (by omega)] at ht; cases ht
    · rw [c4]
      unfold qrul
      rw [qsm_none (m := n + 1) (n := 1100) (by omega) (fun x x1 _ => hfar x (by omega))]
    · have hcl := qc_le (qtie S) (n + 1)
      refine ⟨fun q2 => ⟨by omega, ?_⟩, fun q2 => ?_⟩
      · have hf : qtie S (n + 1) = false := decide_eq_false (by omega)
        refine ih (by omega) h1 ⟨f1, c2, c22, by rw [c3, qc_f hf], fun x hx ht => c21 x ?_ ht, by rw [c4, qsm_f hf]⟩
        rcases Nat.lt_or_ge x (n + 1) with w | w
        · exact w
        · rw [show x = n + 1 by omega, hf] at ht; cases ht
      · have ht : qtie S (n + 1) = true := decide_eq_true (by omega)
        have hb := qsm_bd (p := qtie S) (f := fun x => ((qprt S x : Nat) : Int) - 1) (a := 0) (b := 24) (n := n + 1) (fun x _ hp => hval x hp) (by omega) (by omega)
        have hv := hval _ ht
        have e1 : (qu h1 21 0 (h1 3 0 3) ((n + 1 : Nat) : Int)) 3 0 3 = h1 3 0 3 := qu_ne (by omega)
        rw [e1]
        have e2 : (qu (qu h1 21 0 (h1 3 0 3) ((n + 1 : Nat) : Int)) 3 0 3 (h1 3 0 3 + 1)) 3 0 4 = h1 3 0 4 := by rw [qu_ne (by omega), qu_ne (by omega)]
        rw [e2]
        rw [c3, c4]
        refine ⟨by omega, by omega, by omega, by omega, by omega, ih (by omega) _ ⟨qfx_trans f1 (qfx_trans (qfx_trans (qfx_qu rfl) (qfx_qu rfl)) (qfx_qu rfl)), ?_, fun kk hk => ?_, ?_, fun x hx htx => ?_, ?_⟩⟩
        · rw [qu_ne (by omega), qu_ne (by omega), qu_ne (by omega)]; exact c2
        · rw [qu_ne (by omega), qu_ne (by omega), qu_ne (by omega)]; exact c22 kk hk
        · rw [qu_ne (by omega), qu_at, qc_t ht]; rfl
        · rw [qu_ne (by omega), qu_ne (by omega)]
          by_cases w : x = n + 1
          · rw [w, qu_at]
          · have := qc_lt (show x < n + 1 by omega) htx
            rw [qu_ne (by omega)]
            exact c21 x (by omega) htx
        · rw [qu_at, qsm_t ht]
  have e1 : qc (qtie S) (0 + 1) = 0 := by rw [qc_f h00]; rfl
  have e2 : qsm (qtie S) (fun x => ((qprt S x : Nat) : Int) - 1) (0 + 1) = 0 := by rw [qsm_f h00]; rfl
  refine key 0 (by omega) h0 ⟨f0, a2, a22, by rw [a3, e1]; rfl, fun x hx ht => ?_, by rw [a4, e2]⟩
  rw [show x = 0 by omega, h00] at ht; cases ht
/-- how many there are in a row, or the i-th of them -/
theorem s_pick_31 {p : Nat → Bool} {N : Nat} {j : Int} (hL : qhL g) (hN : qc p N ≤ 200) (R : ∀ x : Nat, x < N → p x = true → h 31 i (qc p x) = x) (k : Q (qpick p N j) h) : q_tr l g (d + 1) n_X11_pick [qr 31 i, qi (qc p N : Nat), qi j] h Q := by
  refine i_X11_pick_31 hL (fun G hG _ _ => b_X11_pick_31_0 hG ?_)
  refine ⟨fun q => ⟨fun q2 => q_qe k (by rw [qpick_no q (Or.inl q2)]), fun q2 => ⟨fun q3 => q_qe k (by rw [qpick_no q (Or.inr q3)]), fun q3 => ⟨fun q4 => by omega, fun q4 => ⟨by omega, q_qe k ?_⟩⟩⟩⟩, fun q => q_qe k (by rw [q]; rfl)⟩
  obtain ⟨n, rfl⟩ := Int.eq_ofNat_of_zero_le (show 0 ≤ j by omega)
  obtain ⟨x, x1, x2, x3⟩ := qc_kth (p := p) (n := N) (k := n) (by omega)
  have e := R x x1 x2
  rw [x3] at e
  rw [e, qpick_at x2 x1 (by omega)]
/-- how many there are in a row, or the i-th of them -/
theorem s_pick_32 {p : Nat → Bool} {N : Nat} {j : Int} (hL : qhL g) (hN : qc p N ≤ 24) (R : ∀ x : Nat, x < N → p x = true → h 32 i (qc p x) = x) (k : Q (qpick p N j) h) : q_tr l g (d + 1) n_X11_pick [qr 32 i, qi (qc p N : Nat), qi j] h Q := by
  refine i_X11_pick_32 hL (fun G hG _ _ => b_X11_pick_32_0 hG ?_)
  refine ⟨fun q => ⟨fun q2 => q_qe k (by rw [qpick_no q (Or.inl q2)]), fun q2 => ⟨fun q3 => q_qe k (by rw [qpick_no q (Or.inr q3)]), fun q3 => ⟨fun q4 => by omega, fun q4 => ⟨by omega, q_qe k ?_⟩⟩⟩⟩, fun q => q_qe k (by rw [q]; rfl)⟩
  obtain ⟨n, rfl⟩ := Int.eq_ofNat_of_zero_le (show 0 ≤ j by omega)
  obtain ⟨x, x1, x2, x3⟩ := qc_kth (p := p) (n := N) (k := n) (by omega)
  have e := R x x1 x2
  rw [x3] at e
  rw [e, qpick_at x2 x1 (by omega)]
/-- how many there are in a row, or the i-th of them -/
theorem s_pick_21 {p : Nat → Bool} {N : Nat} {j : Int} (hL : qhL g) (hN : qc p N ≤ 901) (R : ∀ x : Nat, x < N → p x = true → h 21 0 (qc p x) = x) (k : Q (qpick p N j) h) : q_tr l g (d + 1) n_X11_pick [qr 21 0, qi (qc p N : Nat), qi j] h Q := by
  refine i_X11_pick_21 hL (fun G hG _ _ => b_X11_pick_21_0 hG ?_)
  refine ⟨fun q => ⟨fun q2 => q_qe k (by rw [qpick_no q (Or.inl q2)]), fun q2 => ⟨fun q3 => q_qe k (by rw [qpick_no q (Or.inr q3)]), fun q3 => ⟨fun q4 => by omega, fun q4 => ⟨by omega, q_qe k ?_⟩⟩⟩⟩, fun q => q_qe k (by rw [q]; rfl)⟩
  obtain ⟨n, rfl⟩ := Int.eq_ofNat_of_zero_le (show 0 ≤ j by omega)
  obtain ⟨x, x1, x2, x3⟩ := qc_kth (p := p) (n := N) (k := n) (by omega)
  have e := R x x1 x2
  rw [x3] at e
  rw [e, qpick_at x2 x1 (by omega)]
theorem s_rules (hL : qhL g) (V : QV2 S) (A : qat h i S) (K : qkn h) (k : ∀ h', qfx [3, 21, 22] h h' → qkn h' → Q (qrul S) h') : q_tr l g (d + 6) n_X3_rulesOf [qr 3 0, qr 8 i] h Q := by
  refine i_X3_rulesOf hL (fun G hG _ _ => b_X3_rulesOf_0 hG ?_)
  refine s_learn hL V A K (fun h1 f K1 => q_qe (k h1 f (Or.inr ⟨S, V, K1⟩)) K1.2.2.2.2)
theorem s_tieAt {j : Int} (hL : qhL g) (V : QV2 S) (A : qat h i S) (K : qkn h) (k : ∀ h', qfx [3, 21, 22] h h' → qkn h' → Q (qpick (qtie S) 1100 j) h') : q_tr l g (d + 6) n_X3_tieAt [qr 3 0, qr 8 i, qi j] h Q := by
  refine i_X3_tieAt hL (fun G hG _ _ => b_X3_tieAt_0 hG ?_)
  refine s_learn hL V A K (fun h1 f K1 => ?_)
  obtain ⟨b1, b2⟩ := qfar_bd V
  rw [K1.2.2.1]
  refine s_pick_21 hL ?_ K1.2.2.2.1 (k h1 f (Or.inr ⟨S, V, K1⟩))
  have hc : qc (qtie S) 1100 = qc (qtie S) 800 := qc_none (by omega) (fun x x1 _ => qtie_far V (by omega))
  have := qc_le (qtie S) 800
  omega
end QKnots2
