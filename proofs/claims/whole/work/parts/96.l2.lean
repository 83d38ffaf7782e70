/-! the law: the questions -/
section QL2
variable {l : Launch} {g : QG} {d : Nat} {h : QM} {Q : Int → QM → Prop} {i : Int}
theorem l_has {G : QK} (hL : qhL g) (hG : q_clo (q_S g) (q_tr l g (d + 30)) Q 13 k_L_law 100 false G) (h0 : 0 ≤ i) (h6 : i + 6 ≤ (q_S g).1) (hS : (q_S g).1 ≤ 100000) (A : qSt h) (nx : ∀ h2, qSt h2 → G 1313 [some (qr 104 0), some (qr 11 0), some (qr 12 0), some (qi i)] [] h2) : G 379 [some (qr 104 0), some (qr 11 0), some (qr 12 0), some (qi i)] [] h := by
  obtain ⟨n, dn, tn, H, dl, b, K, tb, fp, x, y, P, C, M, lm, HS⟩ := A
  have hx0 : 0 ≤ x := by have := P.2.2.1; omega
  refine b_L_law_379 hG ⟨by omega, by omega, by omega, by omega, t_has hL P.1 hx0 P.2.2.2.1 ?_⟩
  have P2 : qPs h n dn tn (H 0) dl b K tb fp x y := P
  have C2 : qPc h := C
  have M2 : qMs h n dn tn H b K tb fp := M
  have lm2 : qlm h := lm
  exact ⟨by omega, by omega, by omega, by omega, m_has hL M2.1 (⟨fun _ => nx h ⟨n, dn, tn, H, dl, b, K, tb, fp, x, y, P2, C2, M2, lm2, HS⟩, fun q => absurd rfl q⟩)⟩
theorem l_gap {G : QK} (hL : qhL g) (hG : q_clo (q_S g) (q_tr l g (d + 30)) Q 13 k_L_law 100 false G) (h0 : 0 ≤ i) (h6 : i + 6 ≤ (q_S g).1) (hS : (q_S g).1 ≤ 100000) (A : qSt h) (nx : ∀ h2, qSt h2 → G 1313 [some (qr 104 0), some (qr 11 0), some (qr 12 0), some (qi i)] [] h2) : G 412 [some (qr 104 0), some (qr 11 0), some (qr 12 0), some (qi i)] [] h := by
  obtain ⟨n, dn, tn, H, dl, b, K, tb, fp, x, y, P, C, M, lm, HS⟩ := A
  have hx0 : 0 ≤ x := by have := P.2.2.1; omega
  refine b_L_law_412 hG ⟨by omega, by omega, by omega, by omega, t_gap hL P.1 hx0 P.2.2.2.1 ?_⟩
  have P2 : qPs h n dn tn (H 0) dl b K tb fp x y := P
  have C2 : qPc h := C
  have M2 : qMs h n dn tn H b K tb fp := M
  have lm2 : qlm h := lm
  exact ⟨by omega, by omega, by omega, by omega, m_gap hL M2.1 (⟨fun _ => nx h ⟨n, dn, tn, H, dl, b, K, tb, fp, x, y, P2, C2, M2, lm2, HS⟩, fun q => absurd rfl q⟩)⟩
theorem l_generator {G : QK} (hL : qhL g) (hG : q_clo (q_S g) (q_tr l g (d + 30)) Q 13 k_L_law 100 false G) (h0 : 0 ≤ i) (h6 : i + 6 ≤ (q_S g).1) (hS : (q_S g).1 ≤ 100000) (A : qSt h) (nx : ∀ h2, qSt h2 → G 1313 [some (qr 104 0), some (qr 11 0), some (qr 12 0), some (qi i)] [] h2) : G 445 [some (qr 104 0), some (qr 11 0), some (qr 12 0), some (qi i)] [] h := by
  obtain ⟨n, dn, tn, H, dl, b, K, tb, fp, x, y, P, C, M, lm, HS⟩ := A
  have hx0 : 0 ≤ x := by have := P.2.2.1; omega
  refine b_L_law_445 hG ⟨by omega, by omega, by omega, by omega, t_generator hL P.1 hx0 P.2.2.2.1 ?_⟩
  have P2 : qPs h n dn tn (H 0) dl b K tb fp x y := P
  have C2 : qPc h := C
  have M2 : qMs h n dn tn H b K tb fp := M
  have lm2 : qlm h := lm
  exact ⟨by omega, by omega, by omega, by omega, m_generator hL M2.1 (fun h2 f2 => ⟨fun _ => nx h2 ⟨n, dn, tn, H, dl, b, K, tb, fp, x, y, (qPs_x P2 (qmf_q f2) rfl), (qPc_x C2 (qmf_q f2) rfl), (qMs_f M2 f2 rfl rfl rfl rfl rfl rfl), (qlm_f lm2 f2 rfl), HS⟩, fun q => absurd rfl q⟩)⟩
theorem l_apery {G : QK} (hL : qhL g) (hG : q_clo (q_S g) (q_tr l g (d + 30)) Q 13 k_L_law 100 false G) (h0 : 0 ≤ i) (h6 : i + 6 ≤ (q_S g).1) (hS : (q_S g).1 ≤ 100000) (A : qSt h) (nx : ∀ h2, qSt h2 → G 1313 [some (qr 104 0), some (qr 11 0), some (qr 12 0), some (qi i)] [] h2) : G 478 [some (qr 104 0), some (qr 11 0), some (qr 12 0), some (qi i)] [] h := by
  obtain ⟨n, dn, tn, H, dl, b, K, tb, fp, x, y, P, C, M, lm, HS⟩ := A
  have hx0 : 0 ≤ x := by have := P.2.2.1; omega
  refine b_L_law_478 hG ⟨by omega, by omega, by omega, by omega, by omega, by omega, t_apery hL P.1 hx0 P.2.2.2.1 ?_⟩
  have P2 : qPs h n dn tn (H 0) dl b K tb fp x y := P
  have C2 : qPc h := C
  have M2 : qMs h n dn tn H b K tb fp := M
  have lm2 : qlm h := lm
  exact ⟨by omega, by omega, by omega, by omega, by omega, by omega, m_apery hL M2.1 (⟨fun _ => nx h ⟨n, dn, tn, H, dl, b, K, tb, fp, x, y, P2, C2, M2, lm2, HS⟩, fun q => absurd rfl q⟩)⟩
theorem l_stiff {G : QK} (hL : qhL g) (hG : q_clo (q_S g) (q_tr l g (d + 30)) Q 13 k_L_law 100 false G) (h0 : 0 ≤ i) (h6 : i + 6 ≤ (q_S g).1) (hS : (q_S g).1 ≤ 100000) (A : qSt h) (nx : ∀ h2, qSt h2 → G 1313 [some (qr 104 0), some (qr 11 0), some (qr 12 0), some (qi i)] [] h2) : G 521 [some (qr 104 0), some (qr 11 0), some (qr 12 0), some (qi i)] [] h := by
  obtain ⟨n, dn, tn, H, dl, b, K, tb, fp, x, y, P, C, M, lm, HS⟩ := A
  have hx0 : 0 ≤ x := by have := P.2.2.1; omega
  refine b_L_law_521 hG ⟨by omega, by omega, by omega, by omega, t_stiff hL P.1 hx0 P.2.2.2.1 ?_⟩
  have P2 : qPs h n dn tn (H 0) dl b K tb fp x y := P
  have C2 : qPc h := C
  have M2 : qMs h n dn tn H b K tb fp := M
  have lm2 : qlm h := lm
  exact ⟨by omega, by omega, by omega, by omega, m_stiff hL M2.1 (⟨fun _ => nx h ⟨n, dn, tn, H, dl, b, K, tb, fp, x, y, P2, C2, M2, lm2, HS⟩, fun q => absurd rfl q⟩)⟩
theorem l_special {G : QK} (hL : qhL g) (hG : q_clo (q_S g) (q_tr l g (d + 30)) Q 13 k_L_law 100 false G) (h0 : 0 ≤ i) (h6 : i + 6 ≤ (q_S g).1) (hS : (q_S g).1 ≤ 100000) (A : qSt h) (nx : ∀ h2, qSt h2 → G 1313 [some (qr 104 0), some (qr 11 0), some (qr 12 0), some (qi i)] [] h2) : G 554 [some (qr 104 0), some (qr 11 0), some (qr 12 0), some (qi i)] [] h := by
  obtain ⟨n, dn, tn, H, dl, b, K, tb, fp, x, y, P, C, M, lm, HS⟩ := A
  have hx0 : 0 ≤ x := by have := P.2.2.1; omega
  refine b_L_law_554 hG ⟨by omega, by omega, by omega, by omega, t_special hL P.1 hx0 P.2.2.2.1 ?_⟩
  have P2 : qPs h n dn tn (H 0) dl b K tb fp x y := P
  have C2 : qPc h := C
  have M2 : qMs h n dn tn H b K tb fp := M
  have lm2 : qlm h := lm
  exact ⟨by omega, by omega, by omega, by omega, m_special hL M2.1 (⟨fun _ => nx h ⟨n, dn, tn, H, dl, b, K, tb, fp, x, y, P2, C2, M2, lm2, HS⟩, fun q => absurd rfl q⟩)⟩
theorem l_ways {G : QK} (hL : qhL g) (hG : q_clo (q_S g) (q_tr l g (d + 30)) Q 13 k_L_law 100 false G) (h0 : 0 ≤ i) (h6 : i + 6 ≤ (q_S g).1) (hS : (q_S g).1 ≤ 100000) (A : qSt h) (nx : ∀ h2, qSt h2 → G 1313 [some (qr 104 0), some (qr 11 0), some (qr 12 0), some (qi i)] [] h2) : G 620 [some (qr 104 0), some (qr 11 0), some (qr 12 0), some (qi i)] [] h := by
  obtain ⟨n, dn, tn, H, dl, b, K, tb, fp, x, y, P, C, M, lm, HS⟩ := A
  have hx0 : 0 ≤ x := by have := P.2.2.1; omega
  refine b_L_law_620 hG ⟨by omega, by omega, by omega, by omega, t_ways hL P.1 hx0 P.2.2.2.1 (fun h1 f1 => ?_)⟩
  have P2 : qPs h1 n dn tn (H 0) dl b K tb fp x y := (qPs_x P f1 rfl)
  have C2 : qPc h1 := (qPc_x C f1 rfl)
  have M2 : qMs h1 n dn tn H b K tb fp := (qMs_no M (qfx_no f1 rfl))
  have lm2 : qlm h1 := (qlm_no lm (qfx_no f1 rfl))
  exact ⟨by omega, by omega, by omega, by omega, m_ways hL M2.1 (fun h2 f2 => ⟨fun _ => nx h2 ⟨n, dn, tn, H, dl, b, K, tb, fp, x, y, (qPs_x P2 (qmf_q f2) rfl), (qPc_x C2 (qmf_q f2) rfl), (qMs_f M2 f2 rfl rfl rfl rfl rfl rfl), (qlm_f lm2 f2 rfl), HS⟩, fun q => absurd rfl q⟩)⟩
theorem l_way {G : QK} (hL : qhL g) (hG : q_clo (q_S g) (q_tr l g (d + 30)) Q 13 k_L_law 100 false G) (h0 : 0 ≤ i) (h6 : i + 6 ≤ (q_S g).1) (hS : (q_S g).1 ≤ 100000) (A : qSt h) (nx : ∀ h2, qSt h2 → G 1313 [some (qr 104 0), some (qr 11 0), some (qr 12 0), some (qi i)] [] h2) : G 653 [some (qr 104 0), some (qr 11 0), some (qr 12 0), some (qi i)] [] h := by
  obtain ⟨n, dn, tn, H, dl, b, K, tb, fp, x, y, P, C, M, lm, HS⟩ := A
  have hx0 : 0 ≤ x := by have := P.2.2.1; omega
  refine b_L_law_653 hG ⟨by omega, by omega, by omega, by omega, by omega, by omega, by omega, by omega, t_way hL P.1 hx0 P.2.2.2.1 (fun h1 f1 => ?_)⟩
  have P2 : qPs h1 n dn tn (H 0) dl b K tb fp x y := (qPs_x P f1 rfl)
  have C2 : qPc h1 := (qPc_x C f1 rfl)
  have M2 : qMs h1 n dn tn H b K tb fp := (qMs_no M (qfx_no f1 rfl))
  have lm2 : qlm h1 := (qlm_no lm (qfx_no f1 rfl))
  exact ⟨by omega, by omega, by omega, by omega, by omega, by omega, by omega, by omega, m_way hL M2.1 (fun h2 f2 => ⟨fun _ => nx h2 ⟨n, dn, tn, H, dl, b, K, tb, fp, x, y, (qPs_x P2 (qmf_q f2) rfl), (qPc_x C2 (qmf_q f2) rfl), (qMs_f M2 f2 rfl rfl rfl rfl rfl rfl), (qlm_f lm2 f2 rfl), HS⟩, fun q => absurd rfl q⟩)⟩
theorem l_length {G : QK} (hL : qhL g) (hG : q_clo (q_S g) (q_tr l g (d + 30)) Q 13 k_L_law 100 false G) (h0 : 0 ≤ i) (h6 : i + 6 ≤ (q_S g).1) (hS : (q_S g).1 ≤ 100000) (A : qSt h) (nx : ∀ h2, qSt h2 → G 1313 [some (qr 104 0), some (qr 11 0), some (qr 12 0), some (qi i)] [] h2) : G 706 [some (qr 104 0), some (qr 11 0), some (qr 12 0), some (qi i)] [] h := by
  obtain ⟨n, dn, tn, H, dl, b, K, tb, fp, x, y, P, C, M, lm, HS⟩ := A
  have hx0 : 0 ≤ x := by have := P.2.2.1; omega
  refine b_L_law_706 hG ⟨by omega, by omega, by omega, by omega, by omega, by omega, t_length hL P.1 hx0 P.2.2.2.1 C.1 (fun h1 f1 c1 => ?_)⟩
  have P2 : qPs h1 n dn tn (H 0) dl b K tb fp x y := (qPs_x P f1 rfl)
  have C2 : qPc h1 := ⟨c1, qkn_fx C.2.1 f1 rfl, qlk_fx C.2.2 f1 rfl⟩
  have M2 : qMs h1 n dn tn H b K tb fp := (qMs_no M (qfx_no f1 rfl))
  have lm2 : qlm h1 := (qlm_no lm (qfx_no f1 rfl))
  exact ⟨by omega, by omega, by omega, by omega, by omega, by omega, m_length hL M2.1 (fun h2 f2 => ⟨fun _ => nx h2 ⟨n, dn, tn, H, dl, b, K, tb, fp, x, y, (qPs_x P2 (qmf_q f2) rfl), (qPc_x C2 (qmf_q f2) rfl), (qMs_f M2 f2 rfl rfl rfl rfl rfl rfl), (qlm_f lm2 f2 rfl), HS⟩, fun q => absurd rfl q⟩)⟩
theorem l_parts {G : QK} (hL : qhL g) (hG : q_clo (q_S g) (q_tr l g (d + 30)) Q 13 k_L_law 100 false G) (h0 : 0 ≤ i) (h6 : i + 6 ≤ (q_S g).1) (hS : (q_S g).1 ≤ 100000) (A : qSt h) (nx : ∀ h2, qSt h2 → G 1313 [some (qr 104 0), some (qr 11 0), some (qr 12 0), some (qi i)] [] h2) : G 749 [some (qr 104 0), some (qr 11 0), some (qr 12 0), some (qi i)] [] h := by
  obtain ⟨n, dn, tn, H, dl, b, K, tb, fp, x, y, P, C, M, lm, HS⟩ := A
  have hx0 : 0 ≤ x := by have := P.2.2.1; omega
  refine b_L_law_749 hG ⟨by omega, by omega, by omega, by omega, t_parts hL P.1 hx0 P.2.2.2.1 ?_⟩
  have P2 : qPs h n dn tn (H 0) dl b K tb fp x y := P
  have C2 : qPc h := C
  have M2 : qMs h n dn tn H b K tb fp := M
  have lm2 : qlm h := lm
  exact ⟨by omega, by omega, by omega, by omega, m_parts hL M2.1 (fun h2 f2 => ⟨fun _ => nx h2 ⟨n, dn, tn, H, dl, b, K, tb, fp, x, y, (qPs_x P2 (qmf_q f2) rfl), (qPc_x C2 (qmf_q f2) rfl), (qMs_f M2 f2 rfl rfl rfl rfl rfl rfl), (qlm_f lm2 f2 rfl), HS⟩, fun q => absurd rfl q⟩)⟩
theorem l_tie {G : QK} (hL : qhL g) (hG : q_clo (q_S g) (q_tr l g (d + 30)) Q 13 k_L_law 100 false G) (h0 : 0 ≤ i) (h6 : i + 6 ≤ (q_S g).1) (hS : (q_S g).1 ≤ 100000) (A : qSt h) (nx : ∀ h2, qSt h2 → G 1313 [some (qr 104 0), some (qr 11 0), some (qr 12 0), some (qi i)] [] h2) : G 782 [some (qr 104 0), some (qr 11 0), some (qr 12 0), some (qi i)] [] h := by
  obtain ⟨n, dn, tn, H, dl, b, K, tb, fp, x, y, P, C, M, lm, HS⟩ := A
  have hx0 : 0 ≤ x := by have := P.2.2.1; omega
  refine b_L_law_782 hG ⟨by omega, by omega, by omega, by omega, t_tie hL P.1 hx0 P.2.2.2.1 C.2.1 (fun h1 f1 c1 => ?_)⟩
  have P2 : qPs h1 n dn tn (H 0) dl b K tb fp x y := (qPs_x P f1 rfl)
  have C2 : qPc h1 := ⟨qrch_x C.1 f1 rfl, c1, qlk_fx C.2.2 f1 rfl⟩
  have M2 : qMs h1 n dn tn H b K tb fp := (qMs_no M (qfx_no f1 rfl))
  have lm2 : qlm h1 := (qlm_no lm (qfx_no f1 rfl))
  exact ⟨by omega, by omega, by omega, by omega, m_tie hL M2.1 (fun h2 f2 => ⟨fun _ => nx h2 ⟨n, dn, tn, H, dl, b, K, tb, fp, x, y, (qPs_x P2 (qmf_q f2) rfl), (qPc_x C2 (qmf_q f2) rfl), (qMs_f M2 f2 rfl rfl rfl rfl rfl rfl), (qlm_f lm2 f2 rfl), HS⟩, fun q => absurd rfl q⟩)⟩
theorem l_chain {G : QK} (hL : qhL g) (hG : q_clo (q_S g) (q_tr l g (d + 30)) Q 13 k_L_law 100 false G) (h0 : 0 ≤ i) (h6 : i + 6 ≤ (q_S g).1) (hS : (q_S g).1 ≤ 100000) (A : qSt h) (nx : ∀ h2, qSt h2 → G 1313 [some (qr 104 0), some (qr 11 0), some (qr 12 0), some (qi i)] [] h2) : G 815 [some (qr 104 0), some (qr 11 0), some (qr 12 0), some (qi i)] [] h := by
  obtain ⟨n, dn, tn, H, dl, b, K, tb, fp, x, y, P, C, M, lm, HS⟩ := A
  have hx0 : 0 ≤ x := by have := P.2.2.1; omega
  refine b_L_law_815 hG ⟨by omega, by omega, by omega, by omega, t_chain hL P.1 hx0 P.2.2.2.1 (fun h1 f1 => ?_)⟩
  have P2 : qPs h1 n dn tn (H 0) dl b K tb fp x y := (qPs_x P f1 rfl)
  have C2 : qPc h1 := (qPc_x C f1 rfl)
  have M2 : qMs h1 n dn tn H b K tb fp := (qMs_no M (qfx_no f1 rfl))
  have lm2 : qlm h1 := (qlm_no lm (qfx_no f1 rfl))
  exact ⟨by omega, by omega, by omega, by omega, m_chain hL M2.1 (fun h2 f2 => ⟨fun _ => nx h2 ⟨n, dn, tn, H, dl, b, K, tb, fp, x, y, (qPs_x P2 (qmf_q f2) rfl), (qPc_x C2 (qmf_q f2) rfl), (qMs_f M2 f2 rfl rfl rfl rfl rfl rfl), (qlm_f lm2 f2 rfl), HS⟩, fun q => absurd rfl q⟩)⟩
theorem l_greedy {G : QK} (hL : qhL g) (hG : q_clo (q_S g) (q_tr l g (d + 30)) Q 13 k_L_law 100 false G) (h0 : 0 ≤ i) (h6 : i + 6 ≤ (q_S g).1) (hS : (q_S g).1 ≤ 100000) (A : qSt h) (nx : ∀ h2, qSt h2 → G 1313 [some (qr 104 0), some (qr 11 0), some (qr 12 0), some (qi i)] [] h2) : G 848 [some (qr 104 0), some (qr 11 0), some (qr 12 0), some (qi i)] [] h := by
  obtain ⟨n, dn, tn, H, dl, b, K, tb, fp, x, y, P, C, M, lm, HS⟩ := A
  have hx0 : 0 ≤ x := by have := P.2.2.1; omega
  refine b_L_law_848 hG ⟨by omega, by omega, by omega, by omega, by omega, by omega, t_greedy hL P.1 hx0 P.2.2.2.1 (fun h1 f1 => ?_)⟩
  have P2 : qPs h1 n dn tn (H 0) dl b K tb fp x y := (qPs_x P f1 rfl)
  have C2 : qPc h1 := (qPc_x C f1 rfl)
  have M2 : qMs h1 n dn tn H b K tb fp := (qMs_no M (qfx_no f1 rfl))
  have lm2 : qlm h1 := (qlm_no lm (qfx_no f1 rfl))
  exact ⟨by omega, by omega, by omega, by omega, by omega, by omega, m_greedy hL M2.1 (fun h2 f2 => ⟨fun _ => nx h2 ⟨n, dn, tn, H, dl, b, K, tb, fp, x, y, (qPs_x P2 (qmf_q f2) rfl), (qPc_x C2 (qmf_q f2) rfl), (qMs_f M2 f2 rfl rfl rfl rfl rfl rfl), (qlm_f lm2 f2 rfl), HS⟩, fun q => absurd rfl q⟩)⟩
theorem l_blunder {G : QK} (hL : qhL g) (hG : q_clo (q_S g) (q_tr l g (d + 30)) Q 13 k_L_law 100 false G) (h0 : 0 ≤ i) (h6 : i + 6 ≤ (q_S g).1) (hS : (q_S g).1 ≤ 100000) (A : qSt h) (nx : ∀ h2, qSt h2 → G 1313 [some (qr 104 0), some (qr 11 0), some (qr 12 0), some (qi i)] [] h2) : G 891 [some (qr 104 0), some (qr 11 0), some (qr 12 0), some (qi i)] [] h := by
  obtain ⟨n, dn, tn, H, dl, b, K, tb, fp, x, y, P, C, M, lm, HS⟩ := A
  have hx0 : 0 ≤ x := by have := P.2.2.1; omega
  refine b_L_law_891 hG ⟨by omega, by omega, t_blunder hL P.1 hx0 P.2.2.2.1 (fun h1 f1 => ?_)⟩
  have P2 : qPs h1 n dn tn (H 0) dl b K tb fp x y := (qPs_x P f1 rfl)
  have C2 : qPc h1 := (qPc_x C f1 rfl)
  have M2 : qMs h1 n dn tn H b K tb fp := (qMs_no M (qfx_no f1 rfl))
  have lm2 : qlm h1 := (qlm_no lm (qfx_no f1 rfl))
  exact ⟨by omega, by omega, m_blunder hL M2.1 (fun h2 f2 => ⟨fun _ => nx h2 ⟨n, dn, tn, H, dl, b, K, tb, fp, x, y, (qPs_x P2 (qmf_q f2) rfl), (qPc_x C2 (qmf_q f2) rfl), (qMs_f M2 f2 rfl rfl rfl rfl rfl rfl), (qlm_f lm2 f2 rfl), HS⟩, fun q => absurd rfl q⟩)⟩
theorem l_kunz {G : QK} (hL : qhL g) (hG : q_clo (q_S g) (q_tr l g (d + 30)) Q 13 k_L_law 100 false G) (h0 : 0 ≤ i) (h6 : i + 6 ≤ (q_S g).1) (hS : (q_S g).1 ≤ 100000) (A : qSt h) (nx : ∀ h2, qSt h2 → G 1313 [some (qr 104 0), some (qr 11 0), some (qr 12 0), some (qi i)] [] h2) : G 914 [some (qr 104 0), some (qr 11 0), some (qr 12 0), some (qi i)] [] h := by
  obtain ⟨n, dn, tn, H, dl, b, K, tb, fp, x, y, P, C, M, lm, HS⟩ := A
  have hx0 : 0 ≤ x := by have := P.2.2.1; omega
  refine b_L_law_914 hG ⟨by omega, by omega, by omega, by omega, t_kunz hL P.1 hx0 P.2.2.2.1 ?_⟩
  have P2 : qPs h n dn tn (H 0) dl b K tb fp x y := P
  have C2 : qPc h := C
  have M2 : qMs h n dn tn H b K tb fp := M
  have lm2 : qlm h := lm
  exact ⟨by omega, by omega, by omega, by omega, m_kunz hL M2.1 (⟨fun _ => nx h ⟨n, dn, tn, H, dl, b, K, tb, fp, x, y, P2, C2, M2, lm2, HS⟩, fun q => absurd rfl q⟩)⟩
theorem l_child {G : QK} (hL : qhL g) (hG : q_clo (q_S g) (q_tr l g (d + 30)) Q 13 k_L_law 100 false G) (h0 : 0 ≤ i) (h6 : i + 6 ≤ (q_S g).1) (hS : (q_S g).1 ≤ 100000) (A : qSt h) (nx : ∀ h2, qSt h2 → G 1313 [some (qr 104 0), some (qr 11 0), some (qr 12 0), some (qi i)] [] h2) : G 947 [some (qr 104 0), some (qr 11 0), some (qr 12 0), some (qi i)] [] h := by
  obtain ⟨n, dn, tn, H, dl, b, K, tb, fp, x, y, P, C, M, lm, HS⟩ := A
  have hx0 : 0 ≤ x := by have := P.2.2.1; omega
  refine b_L_law_947 hG ⟨by omega, by omega, by omega, by omega, t_child hL P.1 hx0 P.2.2.2.1 ?_⟩
  have P2 : qPs h n dn tn (H 0) dl b K tb fp x y := P
  have C2 : qPc h := C
  have M2 : qMs h n dn tn H b K tb fp := M
  have lm2 : qlm h := lm
  exact ⟨by omega, by omega, by omega, by omega, m_child hL M2.1 (fun h2 f2 => ⟨fun _ => nx h2 ⟨n, dn, tn, H, dl, b, K, tb, fp, x, y, (qPs_x P2 (qmf_q f2) rfl), (qPc_x C2 (qmf_q f2) rfl), (qMs_f M2 f2 rfl rfl rfl rfl rfl rfl), (qlm_f lm2 f2 rfl), HS⟩, fun q => absurd rfl q⟩)⟩
theorem l_below {G : QK} (hL : qhL g) (hG : q_clo (q_S g) (q_tr l g (d + 30)) Q 13 k_L_law 100 false G) (h0 : 0 ≤ i) (h6 : i + 6 ≤ (q_S g).1) (hS : (q_S g).1 ≤ 100000) (A : qSt h) (nx : ∀ h2, qSt h2 → G 1313 [some (qr 104 0), some (qr 11 0), some (qr 12 0), some (qi i)] [] h2) : G 980 [some (qr 104 0), some (qr 11 0), some (qr 12 0), some (qi i)] [] h := by
  obtain ⟨n, dn, tn, H, dl, b, K, tb, fp, x, y, P, C, M, lm, HS⟩ := A
  have hx0 : 0 ≤ x := by have := P.2.2.1; omega
  refine b_L_law_980 hG ⟨by omega, by omega, by omega, by omega, t_below hL P.1 hx0 P.2.2.2.1 ?_⟩
  have P2 : qPs h n dn tn (H 0) dl b K tb fp x y := P
  have C2 : qPc h := C
  have M2 : qMs h n dn tn H b K tb fp := M
  have lm2 : qlm h := lm
  exact ⟨by omega, by omega, by omega, by omega, m_below2 hL M2.1 (fun h2 f2 => ⟨fun _ => nx h2 ⟨n, dn, tn, H, dl, b, K, tb, fp, x, y, (qPs_x P2 (qmf_q f2) rfl), (qPc_x C2 (qmf_q f2) rfl), (qMs_f M2 f2 rfl rfl rfl rfl rfl rfl), (qlm_f lm2 f2 rfl), HS⟩, fun q => absurd rfl q⟩)⟩
theorem l_meeting {G : QK} (hL : qhL g) (hG : q_clo (q_S g) (q_tr l g (d + 30)) Q 13 k_L_law 100 false G) (h0 : 0 ≤ i) (h6 : i + 6 ≤ (q_S g).1) (hS : (q_S g).1 ≤ 100000) (A : qSt h) (nx : ∀ h2, qSt h2 → G 1313 [some (qr 104 0), some (qr 11 0), some (qr 12 0), some (qi i)] [] h2) : G 1013 [some (qr 104 0), some (qr 11 0), some (qr 12 0), some (qi i)] [] h := by
  obtain ⟨n, dn, tn, H, dl, b, K, tb, fp, x, y, P, C, M, lm, HS⟩ := A
  have hx0 : 0 ≤ x := by have := P.2.2.1; omega
  refine b_L_law_1013 hG ⟨by omega, by omega, by omega, by omega, by omega, by omega, t_meeting hL P.1 hx0 P.2.2.2.1 ?_⟩
  have P2 : qPs h n dn tn (H 0) dl b K tb fp x y := P
  have C2 : qPc h := C
  have M2 : qMs h n dn tn H b K tb fp := M
  have lm2 : qlm h := lm
  exact ⟨by omega, by omega, by omega, by omega, by omega, by omega, m_meeting hL M2.1 (fun h2 f2 => ⟨fun _ => nx h2 ⟨n, dn, tn, H, dl, b, K, tb, fp, x, y, (qPs_x P2 (qmf_q f2) rfl), (qPc_x C2 (qmf_q f2) rfl), (qMs_f M2 f2 rfl rfl rfl rfl rfl rfl), (qlm_f lm2 f2 rfl), HS⟩, fun q => absurd rfl q⟩)⟩
theorem l_list {G : QK} (hL : qhL g) (hG : q_clo (q_S g) (q_tr l g (d + 30)) Q 13 k_L_law 100 false G) (h0 : 0 ≤ i) (h6 : i + 6 ≤ (q_S g).1) (hS : (q_S g).1 ≤ 100000) (A : qSt h) (nx : ∀ h2, qSt h2 → G 1313 [some (qr 104 0), some (qr 11 0), some (qr 12 0), some (qi i)] [] h2) : G 1056 [some (qr 104 0), some (qr 11 0), some (qr 12 0), some (qi i)] [] h := by
  obtain ⟨n, dn, tn, H, dl, b, K, tb, fp, x, y, P, C, M, lm, HS⟩ := A
  have hx0 : 0 ≤ x := by have := P.2.2.1; omega
  refine b_L_law_1056 hG ⟨by omega, by omega, by omega, by omega, by omega, by omega, t_list hL C.2.2 (fun h1 f1 c1 => ?_)⟩
  have P2 : qPs h1 n dn tn (H 0) dl b K tb fp x y := (qPs_x P f1 rfl)
  have C2 : qPc h1 := ⟨qrch_x C.1 f1 rfl, qkn_fx C.2.1 f1 rfl, c1⟩
  have M2 : qMs h1 n dn tn H b K tb fp := (qMs_no M (qfx_no f1 rfl))
  have lm2 : qlm h1 := (qlm_no lm (qfx_no f1 rfl))
  exact ⟨by omega, by omega, by omega, by omega, by omega, by omega, m_list hL lm2 (fun h2 f2 c2 => ⟨fun _ => nx h2 ⟨n, dn, tn, H, dl, b, K, tb, fp, x, y, (qPs_x P2 (qmf_q f2) rfl), (qPc_x C2 (qmf_q f2) rfl), (qMs_f M2 f2 rfl rfl rfl rfl rfl rfl), c2, HS⟩, fun q => absurd rfl q⟩)⟩
theorem l_listed {G : QK} (hL : qhL g) (hG : q_clo (q_S g) (q_tr l g (d + 30)) Q 13 k_L_law 100 false G) (h0 : 0 ≤ i) (h6 : i + 6 ≤ (q_S g).1) (hS : (q_S g).1 ≤ 100000) (A : qSt h) (nx : ∀ h2, qSt h2 → G 1313 [some (qr 104 0), some (qr 11 0), some (qr 12 0), some (qi i)] [] h2) : G 1099 [some (qr 104 0), some (qr 11 0), some (qr 12 0), some (qi i)] [] h := by
  obtain ⟨n, dn, tn, H, dl, b, K, tb, fp, x, y, P, C, M, lm, HS⟩ := A
  have hx0 : 0 ≤ x := by have := P.2.2.1; omega
  refine b_L_law_1099 hG ⟨by omega, by omega, t_listed hL P.1 hx0 P.2.2.2.1 C.2.2 (fun h1 f1 c1 => ?_)⟩
  have P2 : qPs h1 n dn tn (H 0) dl b K tb fp x y := (qPs_x P f1 rfl)
  have C2 : qPc h1 := ⟨qrch_x C.1 f1 rfl, qkn_fx C.2.1 f1 rfl, c1⟩
  have M2 : qMs h1 n dn tn H b K tb fp := (qMs_no M (qfx_no f1 rfl))
  have lm2 : qlm h1 := (qlm_no lm (qfx_no f1 rfl))
  exact ⟨by omega, by omega, m_listed hL M2.1 lm2 (fun h2 f2 c2 => ⟨fun _ => nx h2 ⟨n, dn, tn, H, dl, b, K, tb, fp, x, y, (qPs_x P2 (qmf_q f2) rfl), (qPc_x C2 (qmf_q f2) rfl), (qMs_f M2 f2 rfl rfl rfl rfl rfl rfl), c2, HS⟩, fun q => absurd rfl q⟩)⟩
theorem l_above {G : QK} (hL : qhL g) (hG : q_clo (q_S g) (q_tr l g (d + 30)) Q 13 k_L_law 100 false G) (h0 : 0 ≤ i) (h6 : i + 6 ≤ (q_S g).1) (hS : (q_S g).1 ≤ 100000) (A : qSt h) (nx : ∀ h2, qSt h2 → G 1313 [some (qr 104 0), some (qr 11 0), some (qr 12 0), some (qi i)] [] h2) : G 1122 [some (qr 104 0), some (qr 11 0), some (qr 12 0), some (qi i)] [] h := by
  obtain ⟨n, dn, tn, H, dl, b, K, tb, fp, x, y, P, C, M, lm, HS⟩ := A
  have hx0 : 0 ≤ x := by have := P.2.2.1; omega
  refine b_L_law_1122 hG ⟨by omega, by omega, t_above hL P.1 hx0 P.2.2.2.1 (fun h1 f1 => ?_)⟩
  have P2 : qPs h1 n dn tn (H 0) dl b K tb fp x y := (qPs_x P f1 rfl)
  have C2 : qPc h1 := (qPc_x C f1 rfl)
  have M2 : qMs h1 n dn tn H b K tb fp := (qMs_no M (qfx_no f1 rfl))
  have lm2 : qlm h1 := (qlm_no lm (qfx_no f1 rfl))
  exact ⟨by omega, by omega, m_above hL M2.1 (fun h2 f2 => ⟨fun _ => nx h2 ⟨n, dn, tn, H, dl, b, K, tb, fp, x, y, (qPs_x P2 (qmf_q f2) rfl), (qPc_x C2 (qmf_q f2) rfl), (qMs_f M2 f2 rfl rfl rfl rfl rfl rfl), (qlm_f lm2 f2 rfl), HS⟩, fun q => absurd rfl q⟩)⟩
theorem l_piece {G : QK} (hL : qhL g) (hG : q_clo (q_S g) (q_tr l g (d + 30)) Q 13 k_L_law 100 false G) (h0 : 0 ≤ i) (h6 : i + 6 ≤ (q_S g).1) (hS : (q_S g).1 ≤ 100000) (A : qSt h) (nx : ∀ h2, qSt h2 → G 1313 [some (qr 104 0), some (qr 11 0), some (qr 12 0), some (qi i)] [] h2) : G 1145 [some (qr 104 0), some (qr 11 0), some (qr 12 0), some (qi i)] [] h := by
  obtain ⟨n, dn, tn, H, dl, b, K, tb, fp, x, y, P, C, M, lm, HS⟩ := A
  have hx0 : 0 ≤ x := by have := P.2.2.1; omega
  refine b_L_law_1145 hG ⟨by omega, by omega, by omega, by omega, t_piece hL P.1 hx0 P.2.2.2.1 (fun h1 f1 => ?_)⟩
  have P2 : qPs h1 n dn tn (H 0) dl b K tb fp x y := (qPs_x P f1 rfl)
  have C2 : qPc h1 := (qPc_x C f1 rfl)
  have M2 : qMs h1 n dn tn H b K tb fp := (qMs_no M (qfx_no f1 rfl))
  have lm2 : qlm h1 := (qlm_no lm (qfx_no f1 rfl))
  exact ⟨by omega, by omega, by omega, by omega, m_piece hL M2.1 (fun h2 f2 => ⟨fun _ => nx h2 ⟨n, dn, tn, H, dl, b, K, tb, fp, x, y, (qPs_x P2 (qmf_q f2) rfl), (qPc_x C2 (qmf_q f2) rfl), (qMs_f M2 f2 rfl rfl rfl rfl rfl rfl), (qlm_f lm2 f2 rfl), HS⟩, fun q => absurd rfl q⟩)⟩
theorem l_good {G : QK} (hL : qhL g) (hG : q_clo (q_S g) (q_tr l g (d + 30)) Q 13 k_L_law 100 false G) (h0 : 0 ≤ i) (h6 : i + 6 ≤ (q_S g).1) (hS : (q_S g).1 ≤ 100000) (A : qSt h) (nx : ∀ h2, qSt h2 → G 1313 [some (qr 104 0), some (qr 11 0), some (qr 12 0), some (qi i)] [] h2) : G 1178 [some (qr 104 0), some (qr 11 0), some (qr 12 0), some (qi i)] [] h := by
  obtain ⟨n, dn, tn, H, dl, b, K, tb, fp, x, y, P, C, M, lm, HS⟩ := A
  have hx0 : 0 ≤ x := by have := P.2.2.1; omega
  refine b_L_law_1178 hG ⟨by omega, by omega, by omega, by omega, t_good hL P.1 hx0 P.2.2.2.1 (fun h1 f1 => ?_)⟩
  have P2 : qPs h1 n dn tn (H 0) dl b K tb fp x y := (qPs_x P f1 rfl)
  have C2 : qPc h1 := (qPc_x C f1 rfl)
  have M2 : qMs h1 n dn tn H b K tb fp := (qMs_no M (qfx_no f1 rfl))
  have lm2 : qlm h1 := (qlm_no lm (qfx_no f1 rfl))
  exact ⟨by omega, by omega, by omega, by omega, m_good hL M2.1 (fun h2 f2 => ⟨fun _ => nx h2 ⟨n, dn, tn, H, dl, b, K, tb, fp, x, y, (qPs_x P2 (qmf_q f2) rfl), (qPc_x C2 (qmf_q f2) rfl), (qMs_f M2 f2 rfl rfl rfl rfl rfl rfl), (qlm_f lm2 f2 rfl), HS⟩, fun q => absurd rfl q⟩)⟩
theorem l_same {G : QK} (hL : qhL g) (hG : q_clo (q_S g) (q_tr l g (d + 30)) Q 13 k_L_law 100 false G) (h0 : 0 ≤ i) (h6 : i + 6 ≤ (q_S g).1) (hS : (q_S g).1 ≤ 100000) (A : qSt h) (nx : ∀ h2, qSt h2 → G 1313 [some (qr 104 0), some (qr 11 0), some (qr 12 0), some (qi i)] [] h2) : G 1211 [some (qr 104 0), some (qr 11 0), some (qr 12 0), some (qi i)] [] h := by
  obtain ⟨n, dn, tn, H, dl, b, K, tb, fp, x, y, P, C, M, lm, HS⟩ := A
  have hx0 : 0 ≤ x := by have := P.2.2.1; omega
  refine b_L_law_1211 hG ⟨by omega, by omega, by omega, by omega, t_same hL P.1 hx0 P.2.2.2.1 ?_⟩
  have P2 : qPs h n dn tn (H 0) dl b K tb fp x y := P
  have C2 : qPc h := C
  have M2 : qMs h n dn tn H b K tb fp := M
  have lm2 : qlm h := lm
  exact ⟨by omega, by omega, by omega, by omega, m_same hL M2.1 (⟨fun _ => nx h ⟨n, dn, tn, H, dl, b, K, tb, fp, x, y, P2, C2, M2, lm2, HS⟩, fun q => absurd rfl q⟩)⟩
theorem l_about {G : QK} (hL : qhL g) (hG : q_clo (q_S g) (q_tr l g (d + 30)) Q 13 k_L_law 100 false G) (h0 : 0 ≤ i) (h6 : i + 6 ≤ (q_S g).1) (hS : (q_S g).1 ≤ 100000) (A : qSt h) (nx : ∀ h2, qSt h2 → G 1313 [some (qr 104 0), some (qr 11 0), some (qr 12 0), some (qi i)] [] h2) : G 587 [some (qr 104 0), some (qr 11 0), some (qr 12 0), some (qi i)] [] h := by
  obtain ⟨n, dn, tn, H, dl, b, K, tb, fp, x, y, P, C, M, lm, HS⟩ := A
  have hx0 : 0 ≤ x := by have := P.2.2.1; omega
  have fin : ∀ h1, qPs h1 n dn tn (H 0) dl b K tb fp x y → qPc h1 → qMs h1 n dn tn H b K tb fp → qlm h1 → ∀ h2 rs, qmf rs h1 h2 → rs = [1023, 56, 63] ∨ rs = [1023, 56] → qSt h2 := fun h1 P2 C2 M2 lm2 h2 rs f2 e => by
    rcases e with e | e <;> subst e
    · exact ⟨n, dn, tn, H, dl, b, K, tb, fp, x, y, qPs_x P2 (qmf_q f2) rfl, qPc_x C2 (qmf_q f2) rfl, qMs_f M2 f2 rfl rfl rfl rfl rfl rfl, qlm_f lm2 f2 rfl, HS⟩
    · exact ⟨n, dn, tn, H, dl, b, K, tb, fp, x, y, qPs_x P2 (qmf_q f2) rfl, qPc_x C2 (qmf_q f2) rfl, qMs_f M2 f2 rfl rfl rfl rfl rfl rfl, qlm_f lm2 f2 rfl, HS⟩
  refine b_L_law_587 hG ⟨by omega, by omega, by omega, by omega, t_about hL P.1 hx0 P.2.2.2.1 C.2.1 (fun e6 h1 f1 c1 => ?_) (fun e6 => ?_)⟩
  · have P2 := qPs_x P f1 rfl
    have C2 : qPc h1 := ⟨qrch_x C.1 f1 rfl, c1, qlk_fx C.2.2 f1 rfl⟩
    have M2 := qMs_no M (qfx_no f1 rfl)
    have lm2 := qlm_no lm (qfx_no f1 rfl)
    exact ⟨by omega, by omega, by omega, by omega, m_about hL M2.1 (fun _ h2 f2 => ⟨fun _ => nx h2 (fin h1 P2 C2 M2 lm2 h2 _ f2 (Or.inl rfl)), fun q => absurd rfl q⟩) (fun e => absurd e6 e)⟩
  · exact ⟨by omega, by omega, by omega, by omega, m_about hL M.1 (fun e => absurd e e6) (fun _ h2 f2 => ⟨fun _ => nx h2 (fin h P C M lm h2 _ f2 (Or.inr rfl)), fun q => absurd rfl q⟩)⟩
theorem l_count {G : QK} (hL : qhL g) (hG : q_clo (q_S g) (q_tr l g (d + 30)) Q 13 k_L_law 100 false G) (h0 : 0 ≤ i) (h6 : i + 6 ≤ (q_S g).1) (hS : (q_S g).1 ≤ 100000) (A : qSt h) (nx : ∀ h2, qSt h2 → G 1313 [some (qr 104 0), some (qr 11 0), some (qr 12 0), some (qi i)] [] h2) : G 1290 [some (qr 104 0), some (qr 11 0), some (qr 12 0), some (qi i)] [] h := by
  obtain ⟨n, dn, tn, H, dl, b, K, tb, fp, x, y, P, C, M, lm, HS⟩ := A
  have hx0 : 0 ≤ x := by have := P.2.2.1; omega
  refine b_L_law_1290 hG ⟨by omega, by omega, t_count hL P.1 hx0 P.2.2.2.1 P.2.2.2.2.2.1 P.2.2.2.2.1 P.2.2.2.2.2.2.1 ⟨by omega, by omega, m_count hL M.1 M.2.2.2.1.1 M.2.1.1 (fun j hj => (M.2.2.1 j hj).1) ?_⟩⟩
  exact ⟨fun _ => nx h ⟨n, dn, tn, H, dl, b, K, tb, fp, x, y, P, C, M, lm, HS⟩, fun q => absurd rfl q⟩
theorem l_place {G : QK} (hL : qhL g) (hG : q_clo (q_S g) (q_tr l g (d + 30)) Q 13 k_L_law 100 false G) (h0 : 0 ≤ i) (h6 : i + 6 ≤ (q_S g).1) (hS : (q_S g).1 ≤ 100000) (A : qSt h) (nx : ∀ h2, qSt h2 → G 1313 [some (qr 104 0), some (qr 11 0), some (qr 12 0), some (qi i)] [] h2) : G 287 [some (qr 104 0), some (qr 11 0), some (qr 12 0), some (qi i)] [] h := by
  obtain ⟨n, dn, tn, H, dl, b, K, tb, fp, x, y, P, C, M, lm, HS⟩ := A
  refine b_L_law_287 hG (t_place hL (m_place hL ?_))
  rw [P.2.2.2.2.2.2.2.2, M.2.2.2.2.1]
  exact ⟨fun _ => nx h ⟨n, dn, tn, H, dl, b, K, tb, fp, x, y, P, C, M, lm, HS⟩, fun q => absurd rfl q⟩
end QL2
