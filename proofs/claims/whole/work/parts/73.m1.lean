/-! the model: WAYS -/
def qmw (h : QM) (S : QZ) : Prop := ∀ kk : Nat, kk ≤ qgc S → ∀ y : Nat, y ≤ 150 → h 60 0 ((151 * kk + y : Nat) : Int) = (qWk (qgk S) (qgc S) kk y : Nat)
theorem qmw_f {rs : List Nat} {h h' : QM} {S : QZ} (a : qmw h S) (f : qmf rs h h') (e : rs.contains 60 = false) : qmw h' S := fun kk hk y hy => by rw [f 60 0 _ e]; exact a kk hk y hy
/-- of the rows of ways one alone is changed -/
def qwrf (t : Nat) (h h' : QM) : Prop := ∀ (r : Nat) (i c : Int), ¬ (r = 62 ∧ ((24 * t : Nat) : Int) ≤ c ∧ c < ((24 * t + 24 : Nat) : Int)) → h' r i c = h r i c
section QM4
variable {l : Launch} {g : QG} {d : Nat} {h : QM} {Q : Int → QM → Prop} {n a : Nat} {S : Nat → QZ} {T : QZ} {s : Int}
theorem m_laysWays (hL : qhL g) (ha : a ≤ 20) (R : qmr h 54 a T) (V : QV2 T) (k : ∀ h', qmf [1023, 56, 60] h h' → qmg h' T → qmw h' T → Q 0 h') : q_tr l g (d + 4) n_X12_laysWays [qr 12 0, qi a] h Q := by
  refine i_X12_laysWays hL (fun G hG _ _ => b_X12_laysWays_0 hG (m_gens hL ⟨Or.inl rfl, by omega⟩ R V.1 (fun h0 f0 g0 => ?_)))
  have hc : qgc T ≤ 24 := V.2
  have hbd := fun kk y (hy : y ≤ 150) => qW_bd V (k := kk) (y := y) hy
  have hpos := qgk_pos (S := T)
  have hgc := fun h1 (f : qmf [60] h0 h1) => (qmg_f g0 f rfl).1
  have hgk := fun h1 (f : qmf [60] h0 h1) kk (hk : kk < qgc T) => qmg_k (qmg_f g0 f rfl) hk
  have fin : ∀ h1, qmf [60] h0 h1 → qmw h1 T → Q 0 h1 := fun h1 f w => k h1 (qmf_trans (qmf_mono f0 rfl) (qmf_mono f rfl)) (qmg_f g0 f rfl) w
  unfold qmw at fin
  generalize hW : qWk (qgk T) (qgc T) = W at *
  generalize hcc : qgc T = c at *
  have tab : ∀ j, j ≤ c → ∀ h1, (qmf [60] h0 h1 ∧ ∀ kk : Nat, c - j ≤ kk → kk ≤ c → ∀ y : Nat, y ≤ 150 → h1 60 0 ((151 * kk + y : Nat) : Int) = W kk y) → G 56 [some (qr 12 0), none, some (qi ((c : Int) - 1 - (j : Int))), none] [] h1 := by
    refine q_up (fun j hj ih h1 hI => b_X12_laysWays_56 hG ⟨fun q => fin h1 hI.1 (fun kk hk y hy => hI.2 kk (by omega) hk y hy), fun q => ?_⟩)
    obtain ⟨f, a1⟩ := hI
    have hj2 : j < c := by omega
    rw [show (c : Int) - 1 - (j : Int) = ((c - 1 - j : Nat) : Int) by omega]
    generalize hk0 : c - 1 - j = k0
    have hg1 := hpos k0 (by omega)
    have row : ∀ m, m ≤ 151 → ∀ h2, (qmf [60] h0 h2 ∧ (∀ kk : Nat, c - j ≤ kk → kk ≤ c → ∀ y : Nat, y ≤ 150 → h2 60 0 ((151 * kk + y : Nat) : Int) = W kk y) ∧ ∀ y : Nat, y < m → h2 60 0 ((151 * k0 + y : Nat) : Int) = W k0 y) → G 62 [some (qr 12 0), none, some (qi (k0 : Int)), some (qi (m : Int))] [] h2 := by
      refine q_up (fun m hm ihm h2 hI2 => b_X12_laysWays_62 hG ⟨fun q2 => ?_, fun q2 => ?_⟩)
      · obtain ⟨f2, b1, b2⟩ := hI2
        have := ih hj2 h2 ⟨f2, fun kk k1 k2 y hy => ?_⟩
        · rw [show (k0 : Int) + -1 = (c : Int) - 1 - ((j + 1 : Nat) : Int) by omega]; exact ⟨by omega, this⟩
        · by_cases e : kk = k0
          · rw [e]; exact b2 y (by omega)
          · exact b1 kk (by omega) k2 y hy
      · obtain ⟨f2, b1, b2⟩ := hI2
        have e1 := b1 (k0 + 1) (by omega) (by omega) m (by omega)
        rw [show (151 * ((k0 : Int) + 1)) + (m : Int) = ((151 * (k0 + 1) + m : Nat) : Int) by omega, e1, hgk h2 f2 k0 (by omega)]
        have w1 := hbd (k0 + 1) m (by omega)
        have w2 := hbd k0 m (by omega)
        have es := qWk_s (gk := qgk T) (c := c) (k := k0) (by omega) hg1 m
        rw [hW] at es
        have nxt : ∀ v : Int, v = W k0 m → G 62 [some (qr 12 0), none, some (qi (k0 : Int)), some (qi ((m : Int) + 1))] [] (qu h2 60 0 ((151 * (k0 : Int)) + (m : Int)) v) := fun v hv => by
          refine ihm (by omega) _ ⟨qmf_trans f2 (qmf_qu rfl), fun kk k1 k2 y hy => ?_, fun y hy => ?_⟩
          · rw [qu_ne (by omega)]; exact b1 kk k1 k2 y hy
          · by_cases e : y = m
            · rw [e, show (151 * (k0 : Int)) + (m : Int) = ((151 * k0 + m : Nat) : Int) by omega, qu_at, hv]
            · rw [qu_ne (by omega)]; exact b2 y (by omega)
        have hgl := qgk_bd (S := T) k0 (by omega)
        refine ⟨by omega, by omega, by omega, by omega, by omega, by omega, by omega, fun q3 => ⟨by omega, by omega, by omega, nxt _ ?_⟩, fun q3 => ?_⟩
        · rw [es, if_neg (by omega)]; rfl
        · have w3 := hbd k0 (m - qgk T k0) (by omega)
          rw [show ((151 * (k0 : Int)) + (m : Int)) - (qgk T k0 : Int) = ((151 * k0 + (m - qgk T k0) : Nat) : Int) by omega, b2 _ (by omega)]
          rw [if_pos (by omega)] at es
          refine ⟨by omega, by omega, by omega, by omega, by omega, by omega, by omega, by omega, nxt _ ?_⟩
          rw [es]; rfl
    exact row 0 (by omega) h1 ⟨f, a1, fun y hy => absurd hy (Nat.not_lt_zero _)⟩
  have base : ∀ m, m ≤ 151 → ∀ h1, (qmf [60] h0 h1 ∧ ∀ y : Nat, y < m → h1 60 0 ((151 * c + y : Nat) : Int) = W c y) → G 12 [some (qr 12 0), none, some (qi (m : Int)), none] [] h1 := by
    refine q_up (fun m hm ih h1 hI => b_X12_laysWays_12 hG ?_)
    have hWc : ∀ y, W c y = if y = 0 then 1 else 0 := fun y => by rw [← hW]; exact qWk_c _ _ _
    rw [hgc h1 hI.1]
    have nxt : ∀ v : Int, v = W c m → m < 151 → G 12 [some (qr 12 0), none, some (qi ((m : Int) + 1)), none] [] (qu h1 60 0 ((151 * (c : Int)) + (m : Int)) v) := fun v hv hm2 => by
      refine ih hm2 _ ⟨qmf_trans hI.1 (qmf_qu rfl), fun y hy => ?_⟩
      by_cases e : y = m
      · rw [e, show (151 * (c : Int)) + (m : Int) = ((151 * c + m : Nat) : Int) by omega, qu_at, hv]
      · rw [qu_ne (by omega)]; exact hI.2 y (by omega)
    refine ⟨fun q => ⟨by omega, ?_⟩, fun q => ⟨by omega, by omega, fun q2 => ⟨by omega, by omega, nxt 0 ?_ (by omega)⟩, fun q2 => ⟨by omega, by omega, nxt 1 ?_ (by omega)⟩⟩⟩
    · have := tab 0 (Nat.zero_le _) h1 ⟨hI.1, fun kk k1 k2 y hy => ?_⟩
      · rw [show (c : Int) - 1 = (c : Int) - 1 - ((0 : Nat) : Int) by omega]; exact this
      · rw [show kk = c by omega]; exact hI.2 y (by omega)
    · rw [hWc, if_neg (by omega)]; rfl
    · rw [hWc, if_pos (by omega)]; rfl
  exact base 0 (by omega) h0 ⟨qmf_refl _ _, fun y hy => absurd hy (Nat.not_lt_zero _)⟩
theorem m_ways {y : Int} (hL : qhL g) (M : qmd h n S) (k : ∀ h', qmf [1023, 56, 60] h h' → Q (qon n S s (-1) (fun S => if 0 ≤ y ∧ y ≤ 150 then (qWk (qgk S) (qgc S) 0 y.toNat : Nat) else -1)) h') : q_tr l g (d + 5) n_X12_ways [qr 12 0, qi s, qi y] h Q := by
  refine i_X12_ways hL (fun G hG hw _ => b_X12_ways_0 hG (m_isSet hL M (hw (qi s) (by simp)) (q_on (fun e => q_qe (k h (qmf_refl _ _)) (by rw [qon_out e])) (fun j e hj => ?_))))
  subst e
  obtain ⟨V, R⟩ := M.2.2 j hj
  have h6 := M.2.1
  refine m_in hL (q_cd (fun e => q_qe (k h (qmf_refl _ _)) (by rw [qon_in hj, if_neg e])) (fun e => ⟨by omega, ?_⟩))
  rw [q_4j]
  obtain ⟨y, rfl⟩ := Int.eq_ofNat_of_zero_le e.1
  refine m_laysWays hL (by omega) R V (fun h1 f1 g1 w1 => ⟨by omega, q_qe (k h1 f1) ?_⟩)
  rw [qon_in hj, if_pos e, Int.toNat_natCast]
  have := w1 0 (Nat.zero_le _) y (by omega)
  rw [show ((151 * 0 + y : Nat) : Int) = (y : Int) by omega] at this
  exact this
theorem m_findsWay {x j t : Nat} (hL : qhL g) (V : QV2 T) (g0 : qmg h T) (w0 : qmw h T) (hx : x ≤ 150) (ht : t < 60) (hj : j < qWk (qgk T) (qgc T) 0 x)
    (k : ∀ h', qwrf t h h' → (∀ kk : Nat, kk < qgc T → h' 62 0 ((24 * t + kk : Nat) : Int) = (qway (qgk T) (qgc T) x j kk : Nat)) → Q 0 h') : q_tr l g (d + 1) n_X12_findsWay [qr 12 0, qi x, qi j, qi t] h Q := by
  refine i_X12_findsWay hL (fun G hG _ _ => b_X12_findsWay_0 hG ?_)
  have hc : qgc T ≤ 24 := V.2
  have hbd := fun kk y (hy : y ≤ 150) => qW_bd V (k := kk) (y := y) hy
  have hpos := qgk_pos (S := T)
  have hbig := qgk_bd (S := T)
  have hst := qws_ok hpos hj
  have hF : ∀ kk, kk < qgc T → ∀ y, qWk (qgk T) (qgc T) kk y = qF (qWk (qgk T) (qgc T) (kk + 1)) (qgk T kk) y (y / qgk T kk) := fun kk hk y => qWk_F hk (hpos kk hk) _ _ (q_divs y _ (hpos kk hk)).1 (q_divs y _ (hpos kk hk)).2
  have hgc1 := fun h1 (f : qwrf t h h1) => (show h1 12 0 23 = qgc T by rw [f 12 0 23 (by omega)]; exact g0.1)
  have hgk := fun h1 (f : qwrf t h h1) kk (hk : kk < qgc T) => (show h1 56 0 kk = qgk T kk by rw [f 56 0 kk (by omega)]; exact qmg_k g0 hk)
  unfold qmw at w0
  generalize hcc : qgc T = c at *
  have key : ∀ m, m ≤ c → ∀ h1, (qwrf t h h1 ∧ ∀ kk : Nat, kk < m → h1 62 0 ((24 * t + kk : Nat) : Int) = (qway (qgk T) c x j kk : Nat)) → G 9 [some (qr 12 0), none, none, some (qi (t : Int)), some (qi (qws (qgk T) c x j m).1), some (qi (qws (qgk T) c x j m).2), some (qi (m : Int)), none] [] h1 := by
    refine q_up (fun m hm ih h1 hI => b_X12_findsWay_9 hG ?_)
    obtain ⟨f, a1⟩ := hI
    rw [hgc1 h1 f]
    refine ⟨fun q => k h1 f (fun kk hk => a1 kk (by omega)), fun q => ⟨by omega, ?_⟩⟩
    rw [hgk h1 f m (by omega)]
    obtain ⟨s1, s2⟩ := hst m (by omega)
    have g1 := hpos m (by omega)
    have g2 := hbig m (by omega)
    have ih := ih (by omega)
    rw [qws_s] at ih
    have hF := hF m (by omega)
    have hW : ∀ y : Nat, y ≤ x → h1 60 0 ((151 * (m + 1) + y : Nat) : Int) = (qWk (qgk T) c (m + 1) y : Nat) := fun y hy => by
      rw [f 60 0 _ (by omega)]
      exact w0 (m + 1) (by omega) y (by omega)
    unfold qway at ih a1
    generalize hy : (qws (qgk T) c x j m).1 = y at *
    generalize ha : (qws (qgk T) c x j m).2 = b0 at *
    rw [hF y] at s1
    refine ⟨by omega, ?_⟩
    generalize hT : qtk (qWk (qgk T) c (m + 1)) (qgk T m) y (y / qgk T m) b0 = tt at *
    have inner : ∀ w b, b < 1100000000 → w * qgk T m ≤ y → b < qF (qWk (qgk T) c (m + 1)) (qgk T m) y w → qtk (qWk (qgk T) c (m + 1)) (qgk T m) y w b = tt → G 30 [some (qr 12 0), none, none, some (qi (t : Int)), some (qi y), some (qi b), some (qi (m : Int)), some (qi (w : Nat))] [] h1 := by
      have stop : ∀ w b : Nat, w * qgk T m ≤ y → b < qWk (qgk T) c (m + 1) (y - w * qgk T m) → (w, b) = tt → G 9 [some (qr 12 0), none, none, some (qi (t : Int)), some (qi ((y - w * qgk T m : Nat) : Int)), some (qi b), some (qi ((m : Int) + 1)), none] [] (qu h1 62 0 (24 * (t : Int) + (m : Int)) (w : Int)) := fun w b hn hb ht => by
        have := ih (qu h1 62 0 (24 * (t : Int) + (m : Int)) (w : Int)) ⟨fun r i c hq => by rw [qu_ne (by omega)]; exact f r i c hq, fun kk hk => ?_⟩
        · rw [← ht] at this
          exact this
        · by_cases e : kk = m
          · rw [e, show 24 * (t : Int) + (m : Int) = ((24 * t + m : Nat) : Int) by omega, qu_at, hy, ha, hT, ← ht]
          · rw [qu_ne (by omega)]; exact a1 kk (by omega)
      have pre : ∀ w b : Nat, w * qgk T m ≤ y → b < 1100000000 → ((b : Int) < (qWk (qgk T) c (m + 1) (y - w * qgk T m) : Nat) → (w, b) = tt) → (¬ (b : Int) < (qWk (qgk T) c (m + 1) (y - w * qgk T m) : Nat) → G 30 [some (qr 12 0), none, none, some (qi (t : Int)), some (qi y), some (qi ((b : Int) - (qWk (qgk T) c (m + 1) (y - w * qgk T m) : Nat))), some (qi (m : Int)), some (qi ((w : Int) + -1))] [] h1) → G 30 [some (qr 12 0), none, none, some (qi (t : Int)), some (qi y), some (qi b), some (qi (m : Int)), some (qi (w : Nat))] [] h1 := fun w b hn hbb h1t h2t => by
        have hwb : w ≤ w * qgk T m := Nat.le_mul_of_pos_right _ (by omega)
        have hw := hbd (m + 1) (y - w * qgk T m) (by omega)
        refine b_X12_findsWay_30 hG ?_
        rw [show (qu h1 62 0 (24 * (t : Int) + (m : Int)) (w : Int)) 56 0 (m : Int) = h1 56 0 (m : Int) from qu_ne (by omega), hgk h1 f m (by omega)]
        rw [show ((w : Nat) : Int) * (qgk T m : Int) = ((w * qgk T m : Nat) : Int) by rw [Int.natCast_mul]]
        generalize hP : w * qgk T m = P at *
        rw [show 151 * ((m : Int) + 1) + (y : Int) - (P : Int) = ((151 * (m + 1) + (y - P) : Nat) : Int) by omega, hW _ (by omega)]
        refine ⟨by omega, by omega, by omega, by omega, by omega, by omega, by omega, fun q2 => ⟨by omega, by omega, by omega, by omega, by omega, by omega, by omega, ?_⟩, fun q2 => ⟨by omega, by omega, by omega, by omega, by omega, by omega, by omega, by omega, by omega, h2t q2⟩⟩
        rw [show (y : Int) - (P : Int) = ((y - P : Nat) : Int) by omega]
        rw [← hP] at hn ⊢
        exact stop w b hn (by rw [hP]; omega) (h1t q2)
      intro w
      induction w with
      | zero =>
        intro b hbb hn hb ht
        refine pre _ b hn hbb (fun _ => ht) (fun q2 => ?_)
        have hb : b < qWk (qgk T) c (m + 1) y := hb
        rw [Nat.zero_mul, Nat.sub_zero] at q2
        omega
      | succ w ihn =>
        intro b hbb hn hb ht
        have hb : b < qF (qWk (qgk T) c (m + 1)) (qgk T m) y w + qWk (qgk T) c (m + 1) (y - (w + 1) * qgk T m) := hb
        have hn2 : (w + 1) * qgk T m = w * qgk T m + qgk T m := by rw [Nat.add_mul, Nat.one_mul]
        unfold qtk at ht
        refine pre _ b hn hbb (fun q2 => by rw [if_pos (by omega)] at ht; exact ht) (fun q2 => ?_)
        rw [if_neg (by omega)] at ht
        rw [show ((w + 1 : Nat) : Int) + -1 = (w : Int) by omega, show (b : Int) - ((qWk (qgk T) c (m + 1) (y - (w + 1) * qgk T m) : Nat) : Int) = ((b - qWk (qgk T) c (m + 1) (y - (w + 1) * qgk T m) : Nat) : Int) by omega]
        exact ihn _ (by omega) (by omega) (by omega) ht
    have hwb := hbd m y (by omega)
    rw [hF y] at hwb
    exact inner _ b0 (by omega) (q_divs y _ g1).1 s1 hT
  exact key 0 (Nat.zero_le _) h ⟨fun _ _ _ _ => rfl, fun kk hk => absurd hk (Nat.not_lt_zero _)⟩
theorem m_way {y i w : Int} (hL : qhL g) (M : qmd h n S) (k : ∀ h', qmf [1023, 56, 60, 62] h h' → Q (qon n S s (-1) (fun S => if 0 ≤ y ∧ y ≤ 150 ∧ 0 ≤ w ∧ w < qgc S then (if 0 ≤ i ∧ i < (qWk (qgk S) (qgc S) 0 y.toNat : Nat) then (qway (qgk S) (qgc S) y.toNat i.toNat w.toNat : Nat) else -1) else -1)) h') : q_tr l g (d + 5) n_X12_way [qr 12 0, qi s, qi y, qi i, qi w] h Q := by
  refine i_X12_way hL (fun G hG hw _ => b_X12_way_0 hG (m_isSet hL M (hw (qi s) (by simp)) (q_on (fun e => q_qe (k h (qmf_refl _ _)) (by rw [qon_out e])) (fun j e hj => ?_))))
  subst e
  obtain ⟨V, R⟩ := M.2.2 j hj
  have h6 := M.2.1
  refine m_in hL (q_cd (fun e => q_qe (k h (qmf_refl _ _)) (by rw [qon_in hj, if_neg (by omega)])) (fun e => ⟨by omega, ?_⟩))
  rw [q_4j]
  obtain ⟨y, rfl⟩ := Int.eq_ofNat_of_zero_le e.1
  refine m_laysWays hL (by omega) R V (fun h1 f1 g1 w1 => ?_)
  have e0 := w1 0 (Nat.zero_le _) y (by omega)
  rw [show ((151 * 0 + y : Nat) : Int) = (y : Int) by omega] at e0
  rw [e0]
  have hc : qgc (S j) ≤ 24 := V.2
  have hb := qW_bd V (k := 0) (y := y) (by omega)
  have k1 := k h1 (qmf_mono f1 rfl)
  rw [qon_in hj] at k1
  refine ⟨by omega, by omega, m_in hL (q_dc (fun e2 => q_qe k1 ?_) (fun e2 => ?_))⟩
  · rw [Int.toNat_natCast, if_neg (show ¬ (0 ≤ i ∧ i < ((qWk (qgk (S j)) (qgc (S j)) 0 y : Nat) : Int)) by omega)]
    split <;> rfl
  · rw [g1.1]
    refine ⟨by omega, m_in hL (q_cd (fun e3 => q_qe k1 (by rw [if_neg (by omega)])) (fun e3 => ?_))⟩
    obtain ⟨i, rfl⟩ := Int.eq_ofNat_of_zero_le e2.1
    obtain ⟨w, rfl⟩ := Int.eq_ofNat_of_zero_le e3.1
    refine m_findsWay (t := 0) hL V g1 w1 (by omega) (by omega) (by omega) (fun h2 f2 a2 => ⟨by omega, q_qe (k h2 (qmf_trans (qmf_mono f1 rfl) (fun r i c q => f2 r i c (fun z => by rw [z.1, qcd_r (by omega) (by omega)] at q; cases q)))) ?_⟩)
    rw [qon_in hj, if_pos (by omega), Int.toNat_natCast, if_pos (by omega), Int.toNat_natCast, Int.toNat_natCast]
    have := a2 w (by omega)
    rw [show ((24 * 0 + w : Nat) : Int) = (w : Int) by omega] at this
    exact this
end QM4
