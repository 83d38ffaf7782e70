/-! the model: CHAIN -/
section QM7
variable {l : Launch} {g : QG} {d : Nat} {h : QM} {Q : Int → QM → Prop} {n a : Nat} {S : Nat → QZ} {T : QZ} {s : Int}
theorem m_apart {u v : Nat} {A B : Nat → Nat} (hL : qhL g) (V : QV2 T) (g0 : qmg h T) (hu : u < 60) (hv : v < 60) (ha : ∀ k, k < qgc T → A k ≤ 150) (hb : ∀ k, k < qgc T → B k ≤ 150) (Ra : ∀ k : Nat, k < qgc T → h 62 0 ((24 * u + k : Nat) : Int) = A k) (Rb : ∀ k : Nat, k < qgc T → h 62 0 ((24 * v + k : Nat) : Int) = B k) (k : Q (qap1 (qgc T) A B) h) : q_tr l g (d + 1) n_X12_apart [qr 12 0, qi u, qi v] h Q := by
  refine i_X12_apart hL (fun G hG _ _ => b_X12_apart_0 hG ?_)
  have hc : qgc T ≤ 24 := V.2
  have key : ∀ m, m ≤ qgc T → G 8 [some (qr 12 0), some (qi u), some (qi v), some (qi (qsum (fun k => max 0 ((A k : Int) - B k)) m)), some (qi (qsum (fun k => max 0 ((B k : Int) - A k)) m)), some (qi (m : Int)), none] [] h := by
    refine q_up (fun m hm ih => b_X12_apart_8 hG ?_)
    have h1 := qsum_max (a := A) (b := B) (c := m) (fun k hk => ha k (by omega))
    have h2 := qsum_max (a := B) (b := A) (c := m) (fun k hk => hb k (by omega))
    rw [g0.1]
    refine ⟨fun q => ?_, fun q => ?_⟩
    · rw [show m = qgc T by omega]
      unfold qap1 at k
      exact ⟨fun q2 => q_qe k (by rw [Int.max_eq_right q2]), fun q2 => q_qe k (by rw [Int.max_eq_left (by omega)])⟩
    · have h3 := ha m (by omega)
      have h4 := hb m (by omega)
      rw [show (24 : Int) * (u : Int) + (m : Int) = ((24 * u + m : Nat) : Int) by omega, show (24 : Int) * (v : Int) + (m : Int) = ((24 * v + m : Nat) : Int) by omega, Ra m (by omega), Rb m (by omega)]
      have ih := ih (by omega)
      have e1 : qsum (fun k => max 0 ((A k : Int) - B k)) (m + 1) = qsum (fun k => max 0 ((A k : Int) - B k)) m + max 0 ((A m : Int) - B m) := rfl
      have e2 : qsum (fun k => max 0 ((B k : Int) - A k)) (m + 1) = qsum (fun k => max 0 ((B k : Int) - A k)) m + max 0 ((B m : Int) - A m) := rfl
      rw [e1, e2] at ih
      refine ⟨by omega, by omega, by omega, by omega, by omega, by omega, by omega, fun q2 => ?_, fun q2 => ?_⟩
      · rw [Int.max_eq_left (show (A m : Int) - B m ≤ 0 by omega), Int.max_eq_right (show 0 ≤ (B m : Int) - A m by omega), Int.add_zero] at ih
        rw [show qsum (fun k => max 0 ((B k : Int) - A k)) m - ((A m : Int) - B m) = qsum (fun k => max 0 ((B k : Int) - A k)) m + ((B m : Int) - A m) by omega]
        exact ⟨by omega, by omega, ih⟩
      · rw [Int.max_eq_right (show 0 ≤ (A m : Int) - B m by omega), Int.max_eq_left (show (B m : Int) - A m ≤ 0 by omega), Int.add_zero] at ih
        exact ⟨by omega, by omega, ih⟩
  exact key 0 (Nat.zero_le _)
theorem m_chain {y : Int} (hL : qhL g) (M : qmd h n S) (k : ∀ h', qmf [1023, 56, 60, 62, 64] h h' → Q (qon n S s (-1) (fun S => if 0 ≤ y ∧ y ≤ 150 then qchain (qgk S) (qgc S) y.toNat else -1)) h') : q_tr l g (d + 5) n_X12_chain [qr 12 0, qi s, qi y] h Q := by
  refine i_X12_chain hL (fun G hG hw _ => b_X12_chain_0 hG (m_isSet hL M (hw (qi s) (by simp)) (q_on (fun e => q_qe (k h (qmf_refl _ _)) (by rw [qon_out e])) (fun j e hj => ?_))))
  subst e
  obtain ⟨V, R⟩ := M.2.2 j hj
  have h6 := M.2.1
  rw [qon_in hj] at k
  refine m_in hL (q_cd (fun e => q_qe (k h (qmf_refl _ _)) (by rw [if_neg e])) (fun e => ⟨by omega, ?_⟩))
  rw [if_pos e] at k
  obtain ⟨x, rfl⟩ := Int.eq_ofNat_of_zero_le e.1
  rw [q_4j]
  rw [Int.toNat_natCast] at k
  have hx : x ≤ 150 := by omega
  clear e
  generalize S j = T at *
  have hc : qgc T ≤ 24 := V.2
  have hpos := qgk_pos (S := T)
  refine m_laysWays hL (by omega) R V (fun h1 f1 g1 w1 => ?_)
  have e0 := w1 0 (Nat.zero_le _) x (by omega)
  rw [show ((151 * 0 + x : Nat) : Int) = (x : Int) by omega] at e0
  rw [e0]
  unfold qchain at k
  have hwy : ∀ j, j < qWk (qgk T) (qgc T) 0 x → ∀ k, k < qgc T → qway (qgk T) (qgc T) x j k ≤ 150 := fun j hj k hk => by have := qway_le hpos hj hk; omega
  have hjw : ∀ i, i < qWk (qgk T) (qgc T) 0 x → i < qWk (qgk T) (qgc T) 0 x := fun i hi => hi
  generalize hM : qWk (qgk T) (qgc T) 0 x = m at *
  refine ⟨by omega, m_in hL (q_cd (fun e => q_qe (k h1 (qmf_mono f1 rfl)) (by rw [if_neg (by omega)])) (fun e => ?_))⟩
  rw [if_pos (by omega)] at k
  generalize hdd : qdw (qgk T) (qgc T) x = dd at *
  have hdd2 : ∀ a b, dd a b = qap1 (qgc T) (qway (qgk T) (qgc T) x a) (qway (qgk T) (qgc T) x b) := fun a b => by rw [← hdd]; rfl
  have hdb : ∀ a b, a < m → b < m → 0 ≤ dd a b ∧ dd a b ≤ 3600 := fun a b ha hb => by rw [hdd2]; exact qap1_bd hc (hwy a ha) (hwy b hb)
  have hpm := qpre_many (d := dd) (m := m) (fun a b ha hb => (hdb a b ha hb).1)
  have kk : ∀ h2, qmf [60, 62, 64] h1 h2 → Q (qpm dd m (m - 1)) h2 := fun h2 f2 => k h2 (qmf_trans (qmf_mono f1 rfl) (qmf_mono f2 rfl))
  clear k
  -- what stands: the ways, and how near those are that are not joined
  have ap : ∀ h2 : QM, qmf [60, 62, 64] h1 h2 → (∀ j : Nat, j < m → ∀ k : Nat, k < qgc T → h2 62 0 ((24 * j + k : Nat) : Int) = (qway (qgk T) (qgc T) x j k : Nat)) → ∀ u v : Nat, u < m → v < m → ∀ Q' : Int → QM → Prop, Q' (dd u v) h2 → q_tr l g (d + 4) n_X12_apart [qr 12 0, qi u, qi v] h2 Q' := fun h2 f2 W u v hu hv Q' kq => by
    rw [hdd2] at kq
    exact m_apart hL V (qmg_f g1 f2 rfl) (by omega) (by omega) (hwy u hu) (hwy v hv) (W u hu) (W v hv) kq
  have join : ∀ r, r ≤ m - 1 → ∀ h2, (qmf [60, 62, 64] h1 h2 ∧ (∀ j : Nat, j < m → ∀ k : Nat, k < qgc T → h2 62 0 ((24 * j + k : Nat) : Int) = (qway (qgk T) (qgc T) x j k : Nat)) ∧ ∀ j : Nat, j < m → h2 64 0 j = qpv dd m r j) → G 116 [some (qr 12 0), none, none, some (qi (m : Nat)), some (qi (qpm dd m r)), some (qi ((r + 1 : Nat) : Int)), none, none] [] h2 := by
    refine q_up (fun r hr ih h2 hI => b_X12_chain_116 hG ⟨fun q => q_qe (kk h2 hI.1) (by rw [show m - 1 = r by omega]), fun q => ?_⟩)
    obtain ⟨f2, W, N⟩ := hI
    obtain ⟨p1, p2, p3, p4⟩ := hpm r (by omega)
    have best : ∀ w, w ≤ m → G 128 [some (qr 12 0), none, none, some (qi (m : Nat)), some (qi (qpm dd m r)), some (qi ((r + 1 : Nat) : Int)), some (qi (qarg (qpv dd m r) w)), some (qi (w : Int))] [] h2 := by
      refine q_up (fun w hw ihw => b_X12_chain_128 hG ⟨fun q2 => ?_, fun q2 => ⟨by omega, ?_⟩⟩)
      · have ew : w = m := by omega
        rw [ew]
        rcases qarg_ok (v := qpv dd m r) m with ⟨b1, b2⟩ | ⟨b1, b2, b3⟩
        · exfalso
          have : 0 < qc (fun i => decide (0 ≤ qpv dd m r i)) m := by omega
          obtain ⟨z, z1, z2, _⟩ := qc_kth this
          have := b2 z z1
          have := of_decide_eq_true z2
          omega
        · obtain ⟨b, eb⟩ := Int.eq_ofNat_of_zero_le b1
          rw [eb] at b2 b3 ⊢
          rw [Int.toNat_natCast] at b3
          have eN := N b (by omega)
          rw [eN]
          have pre : (qpre dd m (r + 1)).1 = qpv dd m r ∧ (qpre dd m (r + 1)).2 = b := by rw [qpre_s, eb]; exact ⟨rfl, rfl⟩
          have eV : ∀ z, qpv dd m (r + 1) z = if z = b ∨ qpv dd m r z = -1 then -1 else min (qpv dd m r z) (dd b z) := fun z => by
            show qpn dd (qpre dd m (r + 1)).1 (qpre dd m (r + 1)).2 z = _
            rw [pre.1, pre.2]; rfl
          have eM : qpm dd m (r + 1) = max (qpm dd m r) (qpv dd m r b) := by
            show max (qpm dd m r) (qpv dd m r (qarg (qpv dd m r) m).toNat) = _
            rw [eb, Int.toNat_natCast]
          have hv2 := (hpm (r + 1) (by omega)).2.1
          rw [pre.1] at hv2
          have upd : ∀ w, w ≤ m → ∀ h3, (qmf [60, 62, 64] h1 h3 ∧ (∀ j : Nat, j < m → ∀ k : Nat, k < qgc T → h3 62 0 ((24 * j + k : Nat) : Int) = (qway (qgk T) (qgc T) x j k : Nat)) ∧ ∀ j : Nat, j < m → h3 64 0 j = if j < w then qpv dd m (r + 1) j else if j = b then -1 else qpv dd m r j) → G 208 [some (qr 12 0), none, none, some (qi (m : Nat)), some (qi (qpm dd m (r + 1))), some (qi ((r + 1 : Nat) : Int)), some (qi (b : Int)), some (qi (w : Int))] [] h3 := by
            refine q_up (fun w hw ihu h3 hI3 => b_X12_chain_208 hG ⟨fun q3 => ⟨by omega, ?_⟩, fun q3 => ⟨by omega, ?_⟩⟩)
            · exact ih (by omega) h3 ⟨hI3.1, hI3.2.1, fun z hz => by rw [hI3.2.2 z hz, if_pos (by omega)]⟩
            · obtain ⟨f3, W3, N3⟩ := hI3
              have hdw := hdb b w (by omega) (by omega)
              refine ap h3 f3 W3 b w (by omega) (by omega) _ ?_
              have e3 := N3 w (by omega)
              rw [if_neg (Nat.lt_irrefl w)] at e3
              have ev := eV w
              have hvw := hv2 w (by omega)
              rw [e3]
              have nx : ∀ h4 : QM, qmf [60, 62, 64] h1 h4 → (∀ j : Nat, j < m → ∀ k : Nat, k < qgc T → h4 62 0 ((24 * j + k : Nat) : Int) = (qway (qgk T) (qgc T) x j k : Nat)) → (∀ j : Nat, j < m → j ≠ w → h4 64 0 j = h3 64 0 j) → h4 64 0 w = qpv dd m (r + 1) w → w < m → G 208 [some (qr 12 0), none, none, some (qi (m : Nat)), some (qi (qpm dd m (r + 1))), some (qi ((r + 1 : Nat) : Int)), some (qi (b : Int)), some (qi ((w : Int) + 1))] [] h4 := fun h4 f4 W4 o4 e4 hwm => ihu hwm h4 ⟨f4, W4, fun z hz => by
                by_cases c : z = w
                · rw [c, if_pos (by omega)]; exact e4
                · rw [o4 z hz c, N3 z hz]
                  by_cases c2 : z < w
                  · rw [if_pos c2, if_pos (by omega)]
                  · rw [if_neg c2, if_neg (show ¬ z < w + 1 by omega)]⟩
              refine ⟨fun q4 => ⟨by omega, nx h3 f3 W3 (fun _ _ _ => rfl) ?_ (by omega)⟩, fun q4 => ap h3 f3 W3 b w (by omega) (by omega) _ ⟨by omega, by omega, nx _ (qmf_trans f3 (qmf_qu rfl)) (fun z hz y hy => by rw [qu_ne (by omega)]; exact W3 z hz y hy) (fun z hz hne => qu_ne (by omega)) ?_ (by omega)⟩⟩
              · rw [e3, ev]
                by_cases c : w = b
                · rw [if_pos c, if_pos (Or.inl c)]
                · rw [if_neg c] at q4 ⊢
                  by_cases c2 : qpv dd m r w = -1
                  · rw [if_pos (Or.inr c2), c2]
                  · rw [if_neg (by omega), Int.min_eq_left q4]
              · rw [qu_at, ev]
                by_cases c : w = b
                · rw [if_pos c] at q4; omega
                · rw [if_neg c] at q4
                  rw [if_neg (by omega), Int.min_eq_right (by omega)]
          have st : G 208 [some (qr 12 0), none, none, some (qi (m : Nat)), some (qi (qpm dd m (r + 1))), some (qi ((r + 1 : Nat) : Int)), some (qi (b : Int)), some (qi 0)] [] (qu h2 64 0 (b : Int) (-1)) := upd 0 (Nat.zero_le _) _ ⟨qmf_trans f2 (qmf_qu rfl), fun z hz y hy => by rw [qu_ne (by omega)]; exact W z hz y hy, fun z hz => by
            rw [if_neg (Nat.not_lt_zero _)]
            by_cases c : z = b
            · rw [c, if_pos rfl, qu_at]
            · rw [if_neg c, qu_ne (by omega)]; exact N z hz⟩
          rw [eM] at st
          refine ⟨by omega, fun q4 => ⟨by omega, ?_⟩, fun q4 => ⟨by omega, by omega, ?_⟩⟩
          · rw [Int.max_eq_left q4] at st; exact st
          · rw [Int.max_eq_right (by omega)] at st; exact st
      · have ihw := ihw (by omega)
        rw [qarg_s] at ihw
        rw [N w (by omega)]
        rcases qarg_ok (v := qpv dd m r) w with ⟨b1, b2⟩ | ⟨b1, b2, b3⟩
        · refine ⟨fun q3 => ⟨by omega, ?_⟩, fun q3 => ⟨fun q4 => ⟨by omega, ?_⟩, fun q4 => by omega⟩⟩
          · rw [if_neg (by omega)] at ihw; exact ihw
          · rw [if_pos ⟨by omega, Or.inl b1⟩] at ihw; exact ihw
        · obtain ⟨b, eb⟩ := Int.eq_ofNat_of_zero_le b1
          rw [eb] at ihw b2 ⊢
          rw [Int.toNat_natCast] at ihw
          rw [N b (by omega)]
          refine ⟨fun q3 => ⟨by omega, ?_⟩, fun q3 => ⟨fun q4 => by omega, fun q4 => ⟨by omega, by omega, fun q5 => ⟨by omega, ?_⟩, fun q5 => ⟨by omega, ?_⟩⟩⟩⟩
          · rw [if_neg (by omega)] at ihw; exact ihw
          · rw [if_neg (by omega)] at ihw; exact ihw
          · rw [if_pos ⟨by omega, Or.inr (by omega)⟩] at ihw; exact ihw
    exact best 0 (Nat.zero_le _)
  have near : ∀ w, w ≤ m → ∀ h2, (qmf [60, 62, 64] h1 h2 ∧ (∀ j : Nat, j < m → ∀ k : Nat, k < qgc T → h2 62 0 ((24 * j + k : Nat) : Int) = (qway (qgk T) (qgc T) x j k : Nat)) ∧ ∀ j : Nat, j < w → h2 64 0 j = qpv dd m 0 j) → G 75 [some (qr 12 0), none, none, some (qi (m : Nat)), some (qi (w : Int)), none, none, none] [] h2 := by
    refine q_up (fun w hw ihw h2 hI => b_X12_chain_75 hG ⟨fun q => ?_, fun q => ?_⟩)
    · have := join 0 (Nat.zero_le _) h2 ⟨hI.1, hI.2.1, fun z hz => hI.2.2 z (by omega)⟩
      exact this
    · obtain ⟨f2, W, N⟩ := hI
      have eV : ∀ z, qpv dd m 0 z = if z = 0 ∨ (2147483647 : Int) = -1 then -1 else min 2147483647 (dd 0 z) := fun z => rfl
      have nx : ∀ v : Int, v = qpv dd m 0 w → w < m → G 75 [some (qr 12 0), none, none, some (qi (m : Nat)), some (qi ((w : Int) + 1)), none, none, none] [] (qu h2 64 0 w v) := fun v hv hwm => ihw hwm _ ⟨qmf_trans f2 (qmf_qu rfl), fun z hz y hy => by rw [qu_ne (by omega)]; exact W z hz y hy, fun z hz => by
        by_cases c : z = w
        · rw [c, qu_at, hv]
        · rw [qu_ne (by omega)]; exact N z (by omega)⟩
      refine ⟨fun q2 => ?_, fun q2 => ⟨by omega, by omega, nx _ (by rw [eV, if_pos (Or.inl (by omega))]) (by omega)⟩⟩
      have hdw := hdb 0 w (by omega) (by omega)
      refine ap h2 f2 W 0 w (by omega) (by omega) _ ⟨by omega, by omega, nx _ ?_ (by omega)⟩
      rw [eV, if_neg (by omega), Int.min_eq_right (by omega)]
  have lay : ∀ w, w ≤ m → ∀ h2, (qmf [60, 62, 64] h1 h2 ∧ h2 60 = h1 60 ∧ (∀ j : Nat, j < w → ∀ k : Nat, k < qgc T → h2 62 0 ((24 * j + k : Nat) : Int) = (qway (qgk T) (qgc T) x j k : Nat))) → G 51 [some (qr 12 0), none, some (qi (x : Int)), some (qi (m : Nat)), some (qi (w : Int)), none, none, none] [] h2 := by
    refine q_up (fun w hw ihw h2 hI => b_X12_chain_51 hG ⟨fun q => near 0 (Nat.zero_le _) h2 ⟨hI.1, fun z hz => hI.2.2 z (by omega), fun z hz => absurd hz (Nat.not_lt_zero _)⟩, fun q => ?_⟩)
    obtain ⟨f2, e2, W⟩ := hI
    refine m_findsWay hL V (qmg_f g1 f2 rfl) (fun a b c d2 => by rw [e2]; exact w1 a b c d2) hx (by omega) (by rw [hM]; omega) (fun h3 f3 a3 => ⟨by omega, ihw (by omega) h3 ⟨qmf_trans f2 (fun r i c hq => f3 r i c (fun z => by rw [z.1] at hq; cases hq)), ?_, fun z hz y hy => ?_⟩⟩)
    · rw [← e2]
      funext i c
      exact f3 60 i c (by omega)
    · by_cases c : z = w
      · rw [c]; exact a3 y hy
      · rw [f3 62 0 _ (by omega)]; exact W z (by omega) y hy
  exact lay 0 (Nat.zero_le _) h1 ⟨qmf_refl _ _, rfl, fun z hz => absurd hz (Nat.not_lt_zero _)⟩
end QM7
