/-! the law: what changes something; the loop -/
theorem qPs_tape {h h' : QM} {rs : List Nat} {n dn tn tn' : Nat} {S : Nat → QZ} {dl : Nat → Nat × Nat} {b : Nat → Bool} {K : Nat → Nat → QZ} {tb tb' : Nat → Int} {fp x y : Int} (P : qPs h n dn tn S dl b K tb fp x y) (f : qfx rs h h') (e : rs.all (fun r => decide (r = 9 ∨ r = 33)) = true) (T : qtape h' tn' tb') : qPs h' n dn tn' S dl b K tb' fp x y := by
  have g : ∀ r, r ≠ 9 → r ≠ 33 → ∀ i j, h' r i j = h r i j := fun r h1 h2 => f r (by
    cases z : rs.contains r with
    | false => rfl
    | true =>
      have := of_decide_eq_true (List.all_eq_true.mp e r (List.contains_iff_mem.mp z))
      omega)
  obtain ⟨p1, p2, p3, p4, p5, p6, p7, p8, p9⟩ := P
  have hh : ∀ z m T, qhall h z m T → qhall h' z m T := fun z m T a => qhall_fr a (g 2 (by omega) (by omega) _ _) (fun r i j q _ _ => g r (by omega) (by omega) i j)
  exact ⟨by rw [g 11 (by omega) (by omega)]; exact p1, by rw [g 11 (by omega) (by omega)]; exact p2, p3, hh _ _ _ p4, qdeeds_r p5 (fun r i j q => g r (by omega) (by omega) i j), T, fun i hi => by rw [g 45 (by omega) (by omega)]; exact p7 i hi, fun i hi hb => hh _ _ _ (p8 i hi hb), by rw [g 11 (by omega) (by omega)]; exact p9⟩
theorem qMs_tape {h h' : QM} {rs : List Nat} {n dn tn tn' : Nat} {H : Nat → Nat → QZ} {b : Nat → Bool} {K : Nat → Nat → QZ} {tb tb' : Nat → Int} {fp : Int} (M : qMs h n dn tn H b K tb fp) (f : qmf rs h h') (T : qmt h' tn' tb') (e1 : (rs.contains 1017 || rs.contains 154) = false) (e2 : (rs.contains 1026 || rs.contains 1025 || rs.contains 57) = false) (e3 : (rs.contains 58 || rs.contains 59) = false) (e5 : rs.contains 1016 = false) (e6 : rs.contains 52 = false) : qMs h' n dn tn' H b K tb' fp := by
  obtain ⟨m1, m2, m3, m4, m5, m6⟩ := M
  exact ⟨qmd_f m1 f e1, qmu_f m2 f e2, qmh_f m3 f e3, T, by rw [f 12 0 16 e5]; exact m5, qkeys_f m6 f e6⟩
theorem qPs_h {h h' : QM} {rs : List Nat} {n dn tn n' dn' : Nat} {S S' : Nat → QZ} {dl dl' : Nat → Nat × Nat} {b : Nat → Bool} {K K' : Nat → Nat → QZ} {tb : Nat → Int} {fp x y : Int} (P : qPs h n dn tn S dl b K tb fp x y) (f : qfx rs h h') (e : (rs.contains 9 || rs.contains 33) = false) (e2 : rs.contains 11 = false) (e3 : rs.contains 45 = false) (HK : ∀ i : Nat, i < 3 → b i = true → qhall h' i n' (K' i)) (Hh : qhall h' x n' S') (D : qdeeds h' dn' dl') : qPs h' n' dn' tn S' dl' b K' tb fp x y := by
  obtain ⟨p1, p2, p3, p4, p5, p6, p7, p8, p9⟩ := P
  exact ⟨by rw [f 11 e2]; exact p1, by rw [f 11 e2]; exact p2, p3, Hh, D, qtape_fx p6 f e, fun i hi => by rw [f 45 e3]; exact p7 i hi, HK, by rw [f 11 e2]; exact p9⟩
theorem qup_same {S : Nat → QZ} {j u : Nat} : qup (qup S j (qflip (S j) u)) j (qflip (qup S j (qflip (S j) u) j) u) = S := by
  funext i
  by_cases e : i = j
  · rw [e, qup_at, qup_at, qflip_2]
  · rw [qup_ne e, qup_ne e]
theorem qHs_push {n dn j u : Nat} {H : Nat → Nat → QZ} {dl : Nat → Nat × Nat} {b : Nat → Bool} {K : Nat → Nat → QZ} (A : qHs n dn H dl b K) (hj : j < n) (hu : 1 ≤ u ∧ u < 400) (V : QV2 (qflip (H 0 j) u)) : qHs n (min (dn + 1) 40) (qpsh (qup (H 0) j (qflip (H 0 j) u)) H) (fun i => if i = 0 then (j, u) else dl (i - 1)) b K := by
  obtain ⟨a1, a2, a3⟩ := A
  refine ⟨fun i hi j' hj' => ?_, fun i hi => ?_, a3⟩
  · cases i with
    | zero =>
      rw [qpsh_0]
      by_cases e : j' = j
      · rw [e, qup_at]; exact V
      · rw [qup_ne e]; exact a1 0 (by omega) j' hj'
    | succ i => rw [qpsh_s]; exact a1 i (by omega) j' hj'
  · cases i with
    | zero =>
      refine ⟨hj, hu.1, hu.2, ?_⟩
      show qpsh _ H (0 + 1) = qup (qpsh _ H 0) j (qflip (qpsh _ H 0 j) u)
      rw [qpsh_s, qpsh_0]
      exact qup_same.symm
    | succ i =>
      have h2 := a2 i (by omega)
      show (dl (i + 1 - 1)).1 < n ∧ 1 ≤ (dl (i + 1 - 1)).2 ∧ (dl (i + 1 - 1)).2 < 400 ∧ qpsh _ H (i + 1 + 1) = qup (qpsh _ H (i + 1)) (dl (i + 1 - 1)).1 (qflip (qpsh _ H (i + 1) (dl (i + 1 - 1)).1) (dl (i + 1 - 1)).2)
      rw [qpsh_s, qpsh_s, Nat.add_sub_cancel]
      exact h2
theorem qfr_fx {y : Int} {h h' : QM} (f : qfr y h h') : qfx [1, 2, 4, 5, 6, 8, 9, 11, 23, 24, 25, 26, 27, 30, 31, 32, 45] h h' := fun r e i j => f r i j (fun z => by
  have : r = 1 ∨ r = 2 ∨ r = 4 ∨ r = 5 ∨ r = 6 ∨ r = 8 ∨ r = 9 ∨ r = 11 ∨ r = 23 ∨ r = 24 ∨ r = 25 ∨ r = 26 ∨ r = 27 ∨ r = 30 ∨ r = 31 ∨ r = 32 ∨ r = 45 := by omega
  rcases this with q | q | q | q | q | q | q | q | q | q | q | q | q | q | q | q | q <;> subst q <;> cases e)
section QL3
variable {l : Launch} {g : QG} {d : Nat} {h : QM} {Q : Int → QM → Prop} {i : Int} {G : QK}
theorem l_feed (hL : qhL g) (hG : q_clo (q_S g) (q_tr l g (d + 30)) Q 13 k_L_law 100 false G) (h0 : 0 ≤ i) (h6 : i + 6 ≤ (q_S g).1) (hS : (q_S g).1 ≤ 100000) (A : qSt h) (nx : ∀ h2, qSt h2 → G 1313 [some (qr 104 0), some (qr 11 0), some (qr 12 0), some (qi i)] [] h2) : G 188 [some (qr 104 0), some (qr 11 0), some (qr 12 0), some (qi i)] [] h := by
  obtain ⟨n, dn, tn, H, dl, b, K, tb, fp, x, y, P, C, M, lm, HS⟩ := A
  refine b_L_law_188 hG ⟨by omega, by omega, by omega, by omega, by omega, by omega, by omega, by omega, by omega, by omega, t_feed hL P.2.2.2.2.2.1 (fun e => ?_) (fun e h1 f1 T1 => ?_)⟩
  · exact ⟨by omega, by omega, by omega, by omega, by omega, by omega, by omega, by omega, by omega, by omega, m_feed hL M.2.2.2.1 (fun _ => ⟨fun _ => nx h ⟨n, dn, tn, H, dl, b, K, tb, fp, x, y, P, C, M, lm, HS⟩, fun q => absurd rfl q⟩) (fun e2 => absurd e (by omega))⟩
  · have M1 := qMs_no M (qfx_no f1 rfl)
    have lm1 := qlm_no lm (qfx_no f1 rfl)
    exact ⟨by omega, by omega, by omega, by omega, by omega, by omega, by omega, by omega, by omega, by omega, m_feed hL M1.2.2.2.1 (fun e2 => absurd e (by omega)) (fun _ h2 f2 T2 => ⟨fun _ => nx h2 ⟨n, dn, tn + 20, H, dl, b, K, _, fp, x, y, qPs_x (qPs_tape P f1 rfl T1) (qmf_q f2) rfl, qPc_x (qPc_x C f1 rfl) (qmf_q f2) rfl, qMs_tape M1 f2 T2 rfl rfl rfl rfl rfl, qlm_f lm1 f2 rfl, HS⟩, fun q => absurd rfl q⟩)⟩
theorem l_back (hL : qhL g) (hG : q_clo (q_S g) (q_tr l g (d + 30)) Q 13 k_L_law 100 false G) (h0 : 0 ≤ i) (h6 : i + 6 ≤ (q_S g).1) (hS : (q_S g).1 ≤ 100000) (A : qSt h) (nx : ∀ h2, qSt h2 → G 1313 [some (qr 104 0), some (qr 11 0), some (qr 12 0), some (qi i)] [] h2) : G 251 [some (qr 104 0), some (qr 11 0), some (qr 12 0), some (qi i)] [] h := by
  obtain ⟨n, dn, tn, H, dl, b, K, tb, fp, x, y, P, C, M, lm, HS⟩ := A
  refine b_L_law_251 hG ⟨by omega, by omega, t_back hL P.2.2.2.2.2.1 (fun e => ?_) (fun e e2 h1 f1 T1 => ?_)⟩
  · exact ⟨by omega, by omega, m_back hL M.2.2.2.1 (fun _ => ⟨fun _ => nx h ⟨n, dn, tn, H, dl, b, K, tb, fp, x, y, P, C, M, lm, HS⟩, fun q => absurd rfl q⟩) (fun e2 e3 => absurd e (by omega))⟩
  · have M1 := qMs_no M (qfx_no f1 rfl)
    have lm1 := qlm_no lm (qfx_no f1 rfl)
    exact ⟨by omega, by omega, m_back hL M1.2.2.2.1 (fun e3 => by omega) (fun _ _ h2 f2 T2 => ⟨fun _ => nx h2 ⟨n, dn, _, H, dl, b, K, tb, fp, x, y, qPs_x (qPs_tape P f1 rfl T1) (qmf_q f2) rfl, qPc_x (qPc_x C f1 rfl) (qmf_q f2) rfl, qMs_tape M1 f2 T2 rfl rfl rfl rfl rfl, qlm_f lm1 f2 rfl, HS⟩, fun q => absurd rfl q⟩)⟩
theorem l_hand {mm : Bool} {u v : Int} (hL : qhL g) (A : qSt h) (nx : ∀ h2, qSt h2 → Q 1 h2) : q_tr l g (d + 5) (if mm then n_X11_add else n_X11_drop) [qr 11 0, qi u, qi v] h (fun z1 h1 => q_tr l g (d + 5) (if mm then n_X12_add else n_X12_drop) [qr 12 0, qi u, qi v] h1 (fun z2 h2 => z1 = z2 ∧ Q 1 h2)) := by
  obtain ⟨n, dn, tn, H, dl, b, K, tb, fp, x, y, P, C, M, lm, HS⟩ := A
  have hx3 : 3 ≤ x := by have := P.2.2.1; omega
  refine t_hand hL P.1 (by omega) P.2.2.2.1 P.2.2.2.2.1 (fun h1 a1 dn1 => ?_)
  obtain ⟨f1, oth, r1⟩ := dn1
  have M1 := qMs_no M (qfx_no f1 rfl)
  have lm1 := qlm_no lm (qfx_no f1 rfl)
  have C1 := qPc_x C f1 rfl
  have HK1 : ∀ z : Nat, z < 3 → b z = true → qhall h1 z n (K z) := fun z hz hb => oth z n (K z) (by omega) (P.2.2.2.2.2.2.2.1 z hz hb)
  refine m_hand hL M1.1 M1.2.1 (fun h2 f2 r2 => ⟨rfl, nx h2 ?_⟩)
  have lm2 := qlm_f lm1 f2 rfl
  have C2 := qPc_x C1 (qmf_q f2) rfl
  have mh := qmh_f M1.2.2.1 f2 rfl
  have mt := qmt_f2 M1.2.2.2.1 f2 rfl
  have m16 : h2 12 0 16 = fp := by rw [f2 12 0 16 rfl]; exact M1.2.2.2.2.1
  have mk := qkeys_f M1.2.2.2.2.2 f2 rfl
  by_cases ok : qok (if mm then qspc else qgen) n (H 0) u v = true
  · rw [if_pos ok] at r1 r2
    obtain ⟨b1, b2, b3, b4, b5, b6⟩ := a1 ok
    have hj : u.toNat < n := by omega
    have V := (HS.1 0 (Nat.zero_le _) u.toNat hj).1
    have hv : 1 ≤ v.toNat ∧ v.toNat < 400 := by
      rw [qin_pos b3] at b5
      cases mm with
      | true =>
        have := qspc_v0 V b5
        exact ⟨this.2.1, by omega⟩
      | false =>
        have := qgen_v0 V b5
        exact ⟨this.2.1, by omega⟩
    have P1 := qPs_h P f1 rfl rfl rfl HK1 r1.1 r1.2
    exact ⟨n, min (dn + 1) 40, tn, qpsh (qup (H 0) u.toNat (qflip (H 0 u.toNat) v.toNat)) H, _, b, K, tb, fp, x, y, qPs_x P1 (qmf_q f2) rfl, C2, ⟨r2.1, r2.2, mh, mt, m16, mk⟩, lm2, qHs_push HS hj hv b6⟩
  · rw [if_neg ok] at r1 r2
    have P1 := qPs_h P f1 rfl rfl rfl HK1 r1.1 r1.2
    exact ⟨n, dn, tn, H, dl, b, K, tb, fp, x, y, qPs_x P1 (qmf_q f2) rfl, C2, ⟨r2.1, r2.2, mh, mt, m16, mk⟩, lm2, HS⟩
theorem l_add (hL : qhL g) (hG : q_clo (q_S g) (q_tr l g (d + 30)) Q 13 k_L_law 100 false G) (h0 : 0 ≤ i) (h6 : i + 6 ≤ (q_S g).1) (hS : (q_S g).1 ≤ 100000) (A : qSt h) (nx : ∀ h2, qSt h2 → G 1313 [some (qr 104 0), some (qr 11 0), some (qr 12 0), some (qi i)] [] h2) : G 300 [some (qr 104 0), some (qr 11 0), some (qr 12 0), some (qi i)] [] h := by
  refine b_L_law_300 hG ⟨by omega, by omega, by omega, by omega, q_tr_m l g _ _ _ _ _ _ (fun z1 h1 a => ?_) (l_hand (mm := true) (d := d + 25) (Q := fun _ h2 => G 1313 [some (qr 104 0), some (qr 11 0), some (qr 12 0), some (qi i)] [] h2) hL A nx)⟩
  exact ⟨by omega, by omega, by omega, by omega, q_tr_m l g _ _ _ _ _ _ (fun z2 h2 a2 => ⟨fun _ => a2.2, fun q => absurd a2.1 q⟩) a⟩
theorem l_drop (hL : qhL g) (hG : q_clo (q_S g) (q_tr l g (d + 30)) Q 13 k_L_law 100 false G) (h0 : 0 ≤ i) (h6 : i + 6 ≤ (q_S g).1) (hS : (q_S g).1 ≤ 100000) (A : qSt h) (nx : ∀ h2, qSt h2 → G 1313 [some (qr 104 0), some (qr 11 0), some (qr 12 0), some (qi i)] [] h2) : G 333 [some (qr 104 0), some (qr 11 0), some (qr 12 0), some (qi i)] [] h := by
  refine b_L_law_333 hG ⟨by omega, by omega, by omega, by omega, q_tr_m l g _ _ _ _ _ _ (fun z1 h1 a => ?_) (l_hand (mm := false) (d := d + 25) (Q := fun _ h2 => G 1313 [some (qr 104 0), some (qr 11 0), some (qr 12 0), some (qi i)] [] h2) hL A nx)⟩
  exact ⟨by omega, by omega, by omega, by omega, q_tr_m l g _ _ _ _ _ _ (fun z2 h2 a2 => ⟨fun _ => a2.2, fun q => absurd a2.1 q⟩) a⟩
theorem l_undo (hL : qhL g) (hG : q_clo (q_S g) (q_tr l g (d + 30)) Q 13 k_L_law 100 false G) (A : qSt h) (nx : ∀ h2, qSt h2 → G 1313 [some (qr 104 0), some (qr 11 0), some (qr 12 0), some (qi i)] [] h2) : G 366 [some (qr 104 0), some (qr 11 0), some (qr 12 0), some (qi i)] [] h := by
  obtain ⟨n, dn, tn, H, dl, b, K, tb, fp, x, y, P, C, M, lm, HS⟩ := A
  have hx3 : 3 ≤ x := by have := P.2.2.1; omega
  refine b_L_law_366 hG (t_undo hL P.1 (by omega) P.2.2.2.1 P.2.2.2.2.1 (fun hd => ?_) (fun e => ?_) (fun e h1 f1 oth r1 D1 => ?_))
  · obtain ⟨c1, c2, c3, c4⟩ := HS.2.1 0 hd
    refine ⟨c1, c2, c3, ?_⟩
    have := HS.1 1 (by omega) _ c1
    rw [show H 1 = _ from c4, qup_at] at this
    exact this
  · exact m_undo hL M.1 M.2.1 HS.1 (fun _ => ⟨fun _ => nx h ⟨n, dn, tn, H, dl, b, K, tb, fp, x, y, P, C, M, lm, HS⟩, fun q => absurd rfl q⟩) (fun e2 => by omega)
  · have M1 := qMs_no M (qfx_no f1 rfl)
    have lm1 := qlm_no lm (qfx_no f1 rfl)
    have C1 := qPc_x C f1 rfl
    have HK1 : ∀ z : Nat, z < 3 → b z = true → qhall h1 z n (K z) := fun z hz hb => oth z n (K z) (by omega) (P.2.2.2.2.2.2.2.1 z hz hb)
    obtain ⟨c1, c2, c3, c4⟩ := HS.2.1 0 e
    rw [← show H 1 = _ from c4] at r1
    have P1 := qPs_h P f1 rfl rfl rfl HK1 r1 D1
    refine m_undo hL M1.1 M1.2.1 HS.1 (fun e2 => by omega) (fun _ h2 f2 r2 u2 => ⟨fun _ => nx h2 ⟨n, dn - 1, tn, fun z => H (z + 1), fun z => dl (z + 1), b, K, tb, fp, x, y, qPs_x P1 (qmf_q f2) rfl, qPc_x C1 (qmf_q f2) rfl, ⟨r2, u2, qmh_f M1.2.2.1 f2 rfl, qmt_f2 M1.2.2.2.1 f2 rfl, by rw [f2 12 0 16 rfl]; exact M1.2.2.2.2.1, qkeys_f M1.2.2.2.2.2 f2 rfl⟩, qlm_f lm1 f2 rfl, ⟨fun z hz => HS.1 (z + 1) (by omega), fun z hz => HS.2.1 (z + 1) (by omega), HS.2.2⟩⟩, fun q => absurd rfl q⟩)
theorem l_hold (hL : qhL g) (hG : q_clo (q_S g) (q_tr l g (d + 30)) Q 13 k_L_law 100 false G) (h0 : 0 ≤ i) (h6 : i + 6 ≤ (q_S g).1) (hS : (q_S g).1 ≤ 100000) (A : qSt h) (nx : ∀ h2, qSt h2 → G 1313 [some (qr 104 0), some (qr 11 0), some (qr 12 0), some (qi i)] [] h2) : G 1244 [some (qr 104 0), some (qr 11 0), some (qr 12 0), some (qi i)] [] h := by
  obtain ⟨n, dn, tn, H, dl, b, K, tb, fp, x, y, P, C, M, lm, HS⟩ := A
  have hx3 : 3 ≤ x := by have := P.2.2.1; omega
  refine b_L_law_1244 hG ⟨by omega, by omega, t_hold hL P.1 hx3 P.2.2.2.1 (fun e => ?_) (fun e1 e2 h1 f1 oth r1 e45 => ?_)⟩
  · exact ⟨by omega, by omega, m_hold hL M.1 M.2.2.1 (fun _ => ⟨fun _ => nx h ⟨n, dn, tn, H, dl, b, K, tb, fp, x, y, P, C, M, lm, HS⟩, fun q => absurd rfl q⟩) (fun e3 e4 => absurd ⟨e3, e4⟩ e)⟩
  · have M1 := qMs_no M (qfx_no f1 rfl)
    have lm1 := qlm_no lm (qfx_no f1 rfl)
    have C1 := qPc_x C f1 rfl
    generalize hv : q_sc (q_S g) 104 (i + 1) = v at *
    obtain ⟨u, rfl⟩ := Int.eq_ofNat_of_zero_le e1
    obtain ⟨p1, p2, p3, p4, p5, p6, p7, p8, p9⟩ := P
    have P1 : qPs h1 n dn tn (H 0) dl (qupg b u true) (qupg K u (H 0)) tb fp x y := by
      refine ⟨by rw [f1 11 rfl]; exact p1, by rw [f1 11 rfl]; exact p2, p3, oth _ _ _ (by omega) p4, qdeeds_fx p5 f1 rfl, qtape_fx p6 f1 rfl, fun z hz => ?_, fun z hz hb => ?_, by rw [f1 11 rfl]; exact p9⟩
      · rw [e45]
        by_cases c : z = u
        · rw [c, if_pos rfl, qupg_at]; rfl
        · rw [if_neg (by omega), qupg_ne c]; exact p7 z hz
      · by_cases c : z = u
        · rw [c, qupg_at]; exact r1
        · rw [qupg_ne c] at hb ⊢
          exact oth _ _ _ (by omega) (p8 z hz hb)
    refine ⟨by omega, by omega, m_hold hL M1.1 M1.2.2.1 (fun e3 => absurd ⟨e1, e2⟩ e3) (fun _ _ h2 f2 mh => ⟨fun _ => nx h2 ⟨n, dn, tn, H, dl, qupg b u true, qupg K u (H 0), tb, fp, x, y, qPs_x P1 (qmf_q f2) rfl, qPc_x C1 (qmf_q f2) rfl, ⟨qmd_f M1.1 f2 rfl, qmu_f M1.2.1 f2 rfl, mh, qmt_f2 M1.2.2.2.1 f2 rfl, by rw [f2 12 0 16 rfl]; exact M1.2.2.2.2.1, qkeys_f M1.2.2.2.2.2 f2 rfl⟩, qlm_f lm1 f2 rfl, ⟨HS.1, HS.2.1, fun z hz hb => ?_⟩⟩, fun q => absurd rfl q⟩)⟩
    by_cases c : z = u
    · rw [c, qupg_at]; exact HS.1 0 (Nat.zero_le _)
    · rw [qupg_ne c] at hb ⊢; exact HS.2.2 z hz hb
theorem l_restore (hL : qhL g) (hG : q_clo (q_S g) (q_tr l g (d + 30)) Q 13 k_L_law 100 false G) (h0 : 0 ≤ i) (h6 : i + 6 ≤ (q_S g).1) (hS : (q_S g).1 ≤ 100000) (A : qSt h) (nx : ∀ h2, qSt h2 → G 1313 [some (qr 104 0), some (qr 11 0), some (qr 12 0), some (qi i)] [] h2) : G 1267 [some (qr 104 0), some (qr 11 0), some (qr 12 0), some (qi i)] [] h := by
  obtain ⟨n, dn, tn, H, dl, b, K, tb, fp, x, y, P, C, M, lm, HS⟩ := A
  have hx3 : 3 ≤ x := by have := P.2.2.1; omega
  refine b_L_law_1267 hG ⟨by omega, by omega, t_restore (dl := dl) hL P.1 hx3 P.2.2.2.2.2.2.1 P.2.2.2.2.2.2.2.1 (fun e => ?_) (fun e1 e2 e3 h1 f1 oth r1 D1 => ?_)⟩
  · exact ⟨by omega, by omega, m_restore hL M.1 M.2.1 M.2.2.1 HS.2.2 (fun _ => ⟨fun _ => nx h ⟨n, dn, tn, H, dl, b, K, tb, fp, x, y, P, C, M, lm, HS⟩, fun q => absurd rfl q⟩) (fun e3 e4 e5 => absurd ⟨e3, e4, e5⟩ e)⟩
  · have M1 := qMs_no M (qfx_no f1 rfl)
    have lm1 := qlm_no lm (qfx_no f1 rfl)
    have C1 := qPc_x C f1 rfl
    generalize hv : q_sc (q_S g) 104 (i + 1) = v at *
    have HK1 : ∀ z : Nat, z < 3 → b z = true → qhall h1 z n (K z) := fun z hz hb => oth z n (K z) (by omega) (P.2.2.2.2.2.2.2.1 z hz hb)
    have P1 := qPs_h P f1 rfl rfl rfl HK1 r1 D1
    refine ⟨by omega, by omega, m_restore hL M1.1 M1.2.1 M1.2.2.1 HS.2.2 (fun e => absurd ⟨e1, e2, e3⟩ e) (fun _ _ _ h2 f2 r2 u2 => ⟨fun _ => nx h2 ⟨n, 0, tn, qpsh (K v.toNat) H, dl, b, K, tb, fp, x, y, qPs_x P1 (qmf_q f2) rfl, qPc_x C1 (qmf_q f2) rfl, ⟨r2, u2 _, qmh_f M1.2.2.1 f2 rfl, qmt_f2 M1.2.2.2.1 f2 rfl, by rw [f2 12 0 16 rfl]; exact M1.2.2.2.2.1, qkeys_f M1.2.2.2.2.2 f2 rfl⟩, qlm_f lm1 f2 rfl, ⟨fun z hz j hj => ?_, fun z hz => absurd hz (Nat.not_lt_zero _), HS.2.2⟩⟩, fun q => absurd rfl q⟩)⟩
    rw [show z = 0 by omega, qpsh_0]
    exact HS.2.2 v.toNat (by omega) e3 j hj
theorem l_read (hL : qhL g) (hG : q_clo (q_S g) (q_tr l g (d + 30)) Q 13 k_L_law 100 false G) (A : qSt h) (nx : ∀ h2, qSt h2 → G 1313 [some (qr 104 0), some (qr 11 0), some (qr 12 0), some (qi i)] [] h2) : G 274 [some (qr 104 0), some (qr 11 0), some (qr 12 0), some (qi i)] [] h := by
  obtain ⟨n, dn, tn, H, dl, b, K, tb, fp, x, y, P, C, M, lm, HS⟩ := A
  obtain ⟨p1, p2, p3, p4, p5, p6, p7, p8, p9⟩ := P
  refine b_L_law_274 hG (t_read (d := d + 22) hL p6 p1 p2 (by omega) (by omega) (by omega) p5 (fun h1 f1 T1 r0 r1 => ?_))
  have F1 := qfr_fx f1
  have M1 := qMs_no M (qfx_no F1 rfl)
  have lm1 := qlm_no lm (qfx_no F1 rfl)
  have C1 := qPc_x C F1 rfl
  refine m_read hL M1.2.2.2.1 M1.2.2.2.2.2 (fun e h2 f2 T2 e16 => ⟨fun _ => nx h2 ?_, fun q => absurd rfl q⟩) (fun e h2 f2 T2 e16 md e26 e59 => ⟨fun _ => nx h2 ?_, fun q => absurd (by rw [e]; rfl) q⟩)
  · obtain ⟨a1, a2, a3, a4, a5⟩ := r0 e
    have P1 : qPs h1 n dn 0 (H 0) dl b K tb (qPl tb tn (qrd tb tn).2.1 : Nat) x y := ⟨a1, a2, p3, qhall_r f1 (by omega) p4, a4, T1, fun z hz => by rw [a5 z hz]; exact p7 z hz, fun z hz hb => qhall_r f1 (by omega) (p8 z hz hb), a3⟩
    exact ⟨n, dn, 0, H, dl, b, K, tb, _, x, y, qPs_x P1 (qmf_q f2) rfl, qPc_x C1 (qmf_q f2) rfl, ⟨qmd_f M1.1 f2 rfl, qmu_f M1.2.1 f2 rfl, qmh_f M1.2.2.1 f2 rfl, T2, e16, qkeys_f M1.2.2.2.2.2 f2 rfl⟩, qlm_f lm1 f2 rfl, HS⟩
  · obtain ⟨a1, a2, a3, a4, a5, a6⟩ := r1 e
    have P1 : qPs h1 (qrd tb tn).2.2.1 0 0 (qrd tb tn).2.2.2 dl (fun _ => false) K tb (-1) y x := ⟨a1, a2, by omega, a6, a4, T1, fun z hz => by rw [a5 z hz]; rfl, fun z hz hb => (by cases hb), a3⟩
    obtain ⟨u1, u2, ue, u3, u4, u5⟩ := M1.2.1
    exact ⟨(qrd tb tn).2.2.1, 0, 0, qpsh (qrd tb tn).2.2.2 H, dl, fun _ => false, K, tb, -1, y, x, qPs_x P1 (qmf_q f2) rfl, qPc_x C1 (qmf_q f2) rfl, ⟨md, ⟨e26, by omega, ue, u3, by rw [f2 12 0 25 rfl]; exact u4, fun z hz => absurd hz (Nat.not_lt_zero _)⟩, fun z hz => ⟨by rw [e59 z hz]; rfl, fun hb => (by cases hb)⟩, T2, e16, qkeys_f M1.2.2.2.2.2 f2 rfl⟩, qlm_f lm1 f2 rfl, ⟨fun z hz j hj => by rw [show z = 0 by omega, qpsh_0]; exact (md.2.2 j hj).1, fun z hz => absurd hz (Nat.not_lt_zero _), fun z hz hb => (by cases hb)⟩⟩
/-- round after round -/
theorem l_loop (hL : qhL g) (hG : q_clo (q_S g) (q_tr l g (d + 30)) Q 13 k_L_law 100 false G) (k : ∀ h, Q 1 h) (A : qSt h) : G 18 [some (qr 104 0), some (qr 11 0), some (qr 12 0), some (qi 0)] [] h := by
  have hS : (q_S g).1 ≤ 100000 := hL
  obtain ⟨N, hN⟩ : ∃ N : Nat, (q_S g).1 = N := ⟨_, rfl⟩
  have key : ∀ r, r ≤ N → ∀ h, qSt h → G 18 [some (qr 104 0), some (qr 11 0), some (qr 12 0), some (qi ((6 * r : Nat) : Int))] [] h := by
    refine q_up (fun r hr ih h A => b_L_law_18 hG ⟨by omega, fun q => ⟨Or.inr rfl, k h⟩, fun q => ⟨by omega, ?_⟩⟩)
    have h0 : (0 : Int) ≤ ((6 * r : Nat) : Int) := by omega
    have h6 : ((6 * r : Nat) : Int) + 6 ≤ (q_S g).1 := by omega
    have nx : ∀ h2, qSt h2 → G 1313 [some (qr 104 0), some (qr 11 0), some (qr 12 0), some (qi ((6 * r : Nat) : Int))] [] h2 := fun h2 A2 => b_L_law_1313 hG ⟨by omega, by
      rw [show ((6 * r : Nat) : Int) + 6 = ((6 * (r + 1) : Nat) : Int) by omega]
      exact ih (by omega) h2 A2⟩
    exact ⟨fun _ => nx h A, fun _ => l_feed hL hG h0 h6 hS A nx, fun _ => l_back hL hG h0 h6 hS A nx, fun _ => l_read hL hG A nx, fun _ => l_place hL hG h0 h6 hS A nx, fun _ => l_add hL hG h0 h6 hS A nx, fun _ => l_drop hL hG h0 h6 hS A nx, fun _ => l_undo hL hG A nx, fun _ => l_has hL hG h0 h6 hS A nx, fun _ => l_gap hL hG h0 h6 hS A nx, fun _ => l_generator hL hG h0 h6 hS A nx, fun _ => l_apery hL hG h0 h6 hS A nx, fun _ => l_stiff hL hG h0 h6 hS A nx, fun _ => l_special hL hG h0 h6 hS A nx, fun _ => l_about hL hG h0 h6 hS A nx, fun _ => l_ways hL hG h0 h6 hS A nx, fun _ => l_way hL hG h0 h6 hS A nx, fun _ => l_length hL hG h0 h6 hS A nx, fun _ => l_parts hL hG h0 h6 hS A nx, fun _ => l_tie hL hG h0 h6 hS A nx, fun _ => l_chain hL hG h0 h6 hS A nx, fun _ => l_greedy hL hG h0 h6 hS A nx, fun _ => l_blunder hL hG h0 h6 hS A nx, fun _ => l_kunz hL hG h0 h6 hS A nx, fun _ => l_child hL hG h0 h6 hS A nx, fun _ => l_below hL hG h0 h6 hS A nx, fun _ => l_meeting hL hG h0 h6 hS A nx, fun _ => l_list hL hG h0 h6 hS A nx, fun _ => l_listed hL hG h0 h6 hS A nx, fun _ => l_above hL hG h0 h6 hS A nx, fun _ => l_piece hL hG h0 h6 hS A nx, fun _ => l_good hL hG h0 h6 hS A nx, fun _ => l_same hL hG h0 h6 hS A nx, fun _ => l_hold hL hG h0 h6 hS A nx, fun _ => l_restore hL hG h0 h6 hS A nx, fun _ => l_count hL hG h0 h6 hS A nx, trivial⟩
  exact key 0 (Nat.zero_le _) h A
end QL3
