/-! the model: what is done by hand -/
/-- the model's snapshots: of H (i + 1) the one that is i ahead of the last -/
def qmu (h : QM) (n dn : Nat) (H : Nat → Nat → QZ) : Prop := h 12 0 26 = dn ∧ dn ≤ 40 ∧ ∃ e : Nat, e < 40 ∧ h 12 0 25 = e ∧ ∀ i : Nat, i < dn → ∀ j : Nat, j < n → qmr h 57 (24 * ((e + dn - 1 - i) % 40) + 4 * j) (H (i + 1) j)
theorem qmr_o {rs : List Nat} {h h' : QM} {r a : Nat} {S : QZ} (R : qmr h r a S) (h1 : r ≠ 12) (h2 : r ≠ 54) (f : qmf rs h h') (e : rs.contains r = false) : qmr h' r a S := qmr_fr R (fun j _ _ => f r 0 j (by rw [qcd_r h1 h2]; exact e))
theorem qmu_f {rs : List Nat} {h h' : QM} {n dn : Nat} {H : Nat → Nat → QZ} (u : qmu h n dn H) (f : qmf rs h h') (e : (rs.contains 1026 || rs.contains 1025 || rs.contains 57) = false) : qmu h' n dn H := by
  simp only [Bool.or_eq_false_iff] at e
  obtain ⟨u1, u2, ee, u3, u4, u5⟩ := u
  exact ⟨by rw [f 12 0 26 e.1.1]; exact u1, u2, ee, u3, by rw [f 12 0 25 e.1.2]; exact u4, fun i hi j hj => qmr_o (u5 i hi j hj) (by omega) (by omega) f e.2⟩
/-- one more in front -/
def qpsh {α : Type} (a : α) (f : Nat → α) : Nat → α := fun i => if i = 0 then a else f (i - 1)
theorem qpsh_0 {α : Type} {a : α} {f : Nat → α} : qpsh a f 0 = a := rfl
theorem qpsh_s {α : Type} {a : α} {f : Nat → α} {i : Nat} : qpsh a f (i + 1) = f i := by unfold qpsh; rw [if_neg (by omega), Nat.add_sub_cancel]
section QW2
variable {l : Launch} {g : QG} {d : Nat} {h : QM} {Q : Int → QM → Prop} {n dn a : Nat} {S : Nat → QZ} {H : Nat → Nat → QZ} {T : QZ} {set : Int}
theorem m_copies (hL : qhL g) (ha : a ≤ 20) (R : qmr h 54 a T) (k : ∀ h', qmf [54] h h' → qmr h' 54 24 T → Q 0 h') : q_tr l g (d + 1) n_X12_copies [qr 12 0, qi a] h Q := by
  refine i_X12_copies hL (fun G hG _ _ => b_X12_copies_0 hG ?_)
  have key : ∀ m, m ≤ 4 → ∀ h1, (qmf [54] h h1 ∧ ∀ c : Nat, c < m → h1 54 0 ((24 + c : Nat) : Int) = h 54 0 ((a + c : Nat) : Int)) → G 2 [some (qr 12 0), some (qi a), some (qi (m : Int))] [] h1 := by
    refine q_up (fun m hm ih h1 hI => b_X12_copies_2 hG ⟨fun q => k h1 hI.1 (fun x hx => ?_), fun q => ⟨by omega, by omega, by omega, by omega, by omega, ih (by omega) _ ⟨qmf_trans hI.1 (qmf_qu (by rw [qcd_hi (by omega)]; rfl)), fun c hc => ?_⟩⟩⟩)
    · rw [hI.2 (x / 64) (by omega)]; exact R x hx
    · by_cases e : c = m
      · rw [e, show ((24 + m : Nat) : Int) = 24 + (m : Int) by omega, qu_at, show (a : Int) + (m : Int) = ((a + m : Nat) : Int) by omega]
        exact hI.1 54 0 _ (by rw [qcd_lo (by omega)]; rfl)
      · rw [qu_ne (by omega)]; exact hI.2 c (by omega)
  exact key 0 (by omega) h ⟨qmf_refl _ _, fun c hc => absurd hc (Nat.not_lt_zero _)⟩
theorem m_becomes {j : Nat} (hL : qhL g) (M : qmd h n (H 0)) (U : qmu h n dn H) (hj : j < n) (Z : QV0 T) (Z6 : qm6 T) (R : qmr h 54 24 T)
    (k1 : qacc T = true → ∀ h', qmf [1023, 56, 1025, 1026, 57, 154] h h' → qmd h' n (qup (H 0) j T) → qmu h' n (min (dn + 1) 40) (qpsh (qup (H 0) j T) H) → Q 1 h')
    (k0 : qacc T = false → ∀ h', qmf [1023, 56] h h' → Q 0 h') : q_tr l g (d + 4) n_X12_becomes [qr 12 0, qi j] h Q := by
  have h6 := M.2.1
  refine i_X12_becomes hL (fun G hG _ _ => b_X12_becomes_0 hG (m_cond (a := 24) hL (Or.inl ⟨Or.inl rfl, by omega⟩) R Z6 ⟨fun q => ⟨Or.inl rfl, k0 ?_ h (qmf_refl _ _)⟩, fun q => m_gens (a := 24) hL ⟨Or.inl rfl, by omega⟩ R (qv1_of Z (by omega)) (fun h1 f1 g1 => ?_)⟩))
  · unfold qacc; rw [decide_eq_false (by omega)]; rfl
  have V1 := qv1_of Z (by omega)
  refine ⟨fun q2 => ?_, fun q2 => ⟨Or.inl rfl, k0 (by unfold qacc; rw [decide_eq_false (show ¬ qgc T ≤ 24 by omega), Bool.and_false]) h1 f1⟩⟩
  have hacc : qacc T = true := by unfold qacc; rw [decide_eq_true (show qtop T < 200 by omega), decide_eq_true (show qgc T ≤ 24 by omega)]; rfl
  have V2 := (qacc_iff Z).mp hacc
  obtain ⟨u1, u2, e, u3, u4, u5⟩ := qmu_f U f1 rfl
  have M1 := qmd_f M f1 rfl
  have R1 : qmr h1 54 24 T := qmr_fr R (fun c _ _ => f1 54 0 c (by rw [qcd_hi (by omega)]; rfl))
  -- room for one more
  have main : ∀ (h2 : QM) (e2 d2 : Nat), qmf [1025, 1026] h1 h2 → e2 < 40 → d2 ≤ 39 → h2 12 0 25 = e2 → h2 12 0 26 = d2 → d2 + 1 = min (dn + 1) 40 → (∀ i : Nat, i < d2 → ∀ j : Nat, j < n → qmr h2 57 (24 * ((e2 + d2 - 1 - i) % 40) + 4 * j) (H (i + 1) j)) → G 64 [some (qr 12 0), some (qi j), none, none] [] h2 := by
    intro h2 e2 d2 f2 e2l d2l c25 c26 ed R2
    refine b_X12_becomes_64 hG ?_
    rw [c25, c26]
    generalize eA : (e2 + d2) % 40 = A
    rw [show ((e2 : Int) + (d2 : Int)) % 40 = (A : Int) by omega]
    refine ⟨by omega, by omega, by omega, ?_⟩
    have put : ∀ m, m ≤ 4 → ∀ h3, (qmf [1025, 1026, 57, 154] h1 h3 ∧ qmu h3 n (min (dn + 1) 40) (qpsh (qup (H 0) j T) H) ∧ (∀ c : Nat, c < 28 → h3 54 0 (c : Int) = if 4 * j ≤ c ∧ c < 4 * j + m then h1 54 0 ((24 + (c - 4 * j) : Nat) : Int) else h1 54 0 (c : Int))) → G 120 [some (qr 12 0), some (qi j), none, some (qi (m : Int))] [] h3 := by
      refine q_up (fun m hm ih h3 hI => b_X12_becomes_120 hG ⟨fun q3 => ⟨Or.inr rfl, k1 hacc h3 (qmf_trans (qmf_mono f1 rfl) (qmf_mono hI.1 rfl)) ⟨?_, h6, fun i hi => ?_⟩ hI.2.1⟩, fun q3 => ?_⟩)
      · rw [hI.1 12 0 17 rfl]; exact M1.1
      · have e4 : m = 4 := by omega
        by_cases c : i = j
        · rw [c, qup_at]
          refine ⟨V2, fun x hx => ?_⟩
          rw [hI.2.2 _ (by omega), if_pos (by omega), show 24 + (4 * j + x / 64 - 4 * j) = 24 + x / 64 by omega]
          exact R1 x hx
        · rw [qup_ne c]
          refine ⟨(M1.2.2 i hi).1, fun x hx => ?_⟩
          rw [hI.2.2 _ (by omega), if_neg (by omega)]
          exact (M1.2.2 i hi).2 x hx
      · have e24 := hI.2.2 (24 + m) (by omega)
        rw [if_neg (by omega)] at e24
        rw [show (24 : Int) + (m : Int) = ((24 + m : Nat) : Int) by omega, e24]
        refine ⟨by omega, by omega, by omega, by omega, by omega, by omega, ih (by omega) _ ⟨qmf_trans hI.1 (qmf_qu (by rw [qcd_lo (by omega)]; rfl)), qmu_f hI.2.1 (qmf_qu (rs := [154]) (by rw [qcd_lo (by omega)]; rfl)) rfl, fun c hc => ?_⟩⟩
        by_cases ec : c = 4 * j + m
        · rw [ec, show ((4 * j + m : Nat) : Int) = 4 * (j : Int) + (m : Int) by omega, qu_at, if_pos (by omega), show 24 + (4 * j + m - 4 * j) = 24 + m by omega]
        · rw [qu_ne (by omega), hI.2.2 c hc]
          by_cases c1 : 4 * j ≤ c ∧ c < 4 * j + m
          · rw [if_pos c1, if_pos (by omega)]
          · rw [if_neg c1, if_neg (by omega)]
    have snap : ∀ m, m ≤ 24 → ∀ h3, (qmf [57] h2 h3 ∧ (∀ c : Nat, c < m → h3 57 0 ((24 * A + c : Nat) : Int) = h1 54 0 (c : Int)) ∧ (∀ c : Int, ¬ (((24 * A : Nat) : Int) ≤ c ∧ c < ((24 * A + 24 : Nat) : Int)) → h3 57 0 c = h2 57 0 c)) → G 82 [some (qr 12 0), some (qi j), some (qi (24 * (A : Int))), some (qi (m : Int))] [] h3 := by
      refine q_up (fun m hm ih h3 hI => b_X12_becomes_82 hG ⟨fun q3 => ?_, fun q3 => ?_⟩)
      · obtain ⟨f3, i1, i2⟩ := hI
        have c26' : h3 12 0 26 = d2 := by rw [f3 12 0 26 rfl]; exact c26
        have c25' : h3 12 0 25 = e2 := by rw [f3 12 0 25 rfl]; exact c25
        rw [c26']
        have pt : G 120 [some (qr 12 0), some (qi j), none, some (qi ((0 : Nat) : Int))] [] (qu h3 12 0 26 ((d2 : Int) + 1)) := put 0 (Nat.zero_le _) _ ⟨qmf_trans (qmf_mono f2 rfl) (qmf_trans (qmf_mono f3 rfl) (qmf_qu rfl)), ⟨by rw [qu_at]; omega, by omega, e2, e2l, by rw [qu_ne (by omega)]; exact c25', fun i hi w hw => ?_⟩, fun c hc => ?_⟩
        · exact ⟨by omega, pt⟩
        · refine qmr_fr (h := h3) ?_ (fun c _ _ => qu_ne (by omega))
          rw [← ed] at hi ⊢
          rw [qpsh_s]
          by_cases ei : i = 0
          · subst ei
            rw [show e2 + (d2 + 1) - 1 - 0 = e2 + d2 by omega, eA]
            intro x hx
            have := i1 (4 * w + x / 64) (by omega)
            rw [show 24 * A + 4 * w + x / 64 = 24 * A + (4 * w + x / 64) by omega, this]
            exact (M1.2.2 w hw).2 x hx
          · obtain ⟨i, rfl⟩ : ∃ i', i = i' + 1 := ⟨i - 1, by omega⟩
            rw [show e2 + (d2 + 1) - 1 - (i + 1) = e2 + d2 - 1 - i by omega]
            refine qmr_fr (R2 i (by omega) w hw) (fun c c1 c2 => i2 c (fun z => ?_))
            have : (e2 + d2 - 1 - i) % 40 ≠ A := by omega
            omega
        · rw [qu_ne (by omega), if_neg (by omega)]
          have : qmf [1025, 1026, 57] h1 h3 := qmf_trans (qmf_mono f2 rfl) (qmf_mono f3 rfl)
          by_cases c1 : (c : Int) < 24
          · exact this 54 0 c (by rw [qcd_lo c1]; rfl)
          · exact this 54 0 c (by rw [qcd_hi (by omega)]; rfl)
      · obtain ⟨f3, i1, i2⟩ := hI
        refine ⟨by omega, by omega, by omega, by omega, ih (by omega) _ ⟨qmf_trans f3 (qmf_qu rfl), fun c hc => ?_, fun c hc => ?_⟩⟩
        · by_cases ec : c = m
          · rw [ec, show ((24 * A + m : Nat) : Int) = 24 * (A : Int) + (m : Int) by omega, qu_at]
            have : qmf [1025, 1026, 57] h1 h3 := qmf_trans (qmf_mono f2 rfl) (qmf_mono f3 rfl)
            exact this 54 0 m (by rw [qcd_lo (by omega)]; rfl)
          · rw [qu_ne (by omega)]; exact i1 c (by omega)
        · rw [qu_ne (by omega)]; exact i2 c hc
    exact snap 0 (by omega) h2 ⟨qmf_refl _ _, fun c hc => absurd hc (Nat.not_lt_zero _), fun _ _ => rfl⟩
  rw [u1, u4]
  refine ⟨fun q3 => main h1 e dn (qmf_refl _ _) u3 (by omega) u4 u1 (by omega) u5, fun q3 => ?_⟩
  have ed : dn = 40 := by omega
  rw [qu_ne (by omega), u1]
  generalize eE : (e + 1) % 40 = E
  rw [show ((e : Int) + 1) % 40 = (E : Int) by omega]
  refine ⟨by omega, by omega, by omega, main _ E 39 (qmf_trans (qmf_qu rfl) (qmf_qu rfl)) (by omega) (by omega) ?_ ?_ (by omega) (fun i hi w hw => ?_)⟩
  · rw [qu_ne (by omega), qu_at]
  · rw [qu_at]; omega
  · refine qmr_fr (h := h1) ?_ (fun c _ _ => by rw [qu_ne (by omega), qu_ne (by omega)])
    have := u5 i (by omega) w hw
    rw [show (E + 39 - 1 - i) % 40 = (e + dn - 1 - i) % 40 by omega]
    exact this
theorem m_hand {mm : Bool} {y : Int} (hL : qhL g) (M : qmd h n (H 0)) (U : qmu h n dn H)
    (k : ∀ h', qmf [1023, 56, 1025, 1026, 57, 54, 154] h h' → (if qok (if mm then qspc else qgen) n (H 0) set y then qmd h' n (qup (H 0) set.toNat (qflip (H 0 set.toNat) y.toNat)) ∧ qmu h' n (min (dn + 1) 40) (qpsh (qup (H 0) set.toNat (qflip (H 0 set.toNat) y.toNat)) H) else qmd h' n (H 0) ∧ qmu h' n dn H) → Q (qb (qok (if mm then qspc else qgen) n (H 0) set y)) h') :
    q_tr l g (d + 5) (if mm then n_X12_add else n_X12_drop) [qr 12 0, qi set, qi y] h Q := by
  have h6 := M.2.1
  have ko : ∀ h', qmf [1023, 56, 54] h h' → qok (if mm then qspc else qgen) n (H 0) set y = false → Q 0 h' := fun h' f e => by
    have := k h' (qmf_mono f rfl)
    rw [e, if_neg Bool.false_ne_true] at this
    exact this ⟨qmd_f M f rfl, qmu_f U f rfl⟩
  have no1 : (set < 0 ∨ (n : Int) ≤ set) → Q 0 h := fun e => ko h (qmf_refl _ _) (by unfold qok; rw [decide_eq_false (by omega)]; rfl)
  -- the set is at hand: w what is worked on
  have fin : ∀ j u : Nat, set = j → y = u → j < n → qin ((if mm then qspc else qgen) (H 0 j)) (u : Int) = true → QV0 (qflip (H 0 j) u) → u < 256 → ∀ h1, qmf [54] h h1 → qmr h1 54 24 (qflip (H 0 j) u) → q_tr l g (d + 4) n_X12_becomes [qr 12 0, qi set] h1 (fun z h' => (z = 0 ∨ z = 1) ∧ Q z h') := fun j u ej eu hj hq Z hu h1 f1 R1 => by
    subst ej
    subst eu
    have eo : qok (if mm then qspc else qgen) n (H 0) (j : Int) (u : Int) = qacc (qflip (H 0 j) u) := by
      unfold qok
      rw [decide_eq_true (by omega), Int.toNat_natCast, Int.toNat_natCast, hq]; rfl
    rw [eo] at k ko
    simp only [Int.toNat_natCast] at k
    have Z6 : qm6 (qflip (H 0 j) u) := fun x hx => by rw [qflip_ne (by omega)]; exact qm6_1 (M.2.2 j hj).1.1 x hx
    refine m_becomes hL (qmd_f M f1 rfl) (qmu_f U f1 rfl) hj Z Z6 R1 (fun ha h2 f2 M2 U2 => ⟨Or.inr rfl, ?_⟩) (fun ha h2 f2 => ⟨Or.inl rfl, ko h2 (qmf_trans (qmf_mono f1 rfl) (qmf_mono f2 rfl)) ha⟩)
    have := k h2 (qmf_trans (qmf_mono f1 rfl) (qmf_mono f2 rfl))
    rw [ha, if_pos rfl] at this
    exact this ⟨M2, U2⟩
  cases mm with
  | true =>
    refine i_X12_add hL (fun G hG hw _ => b_X12_add_0 hG (m_isSet hL M (hw (qi set) (by simp)) (q_on (fun e => ⟨Or.inl rfl, no1 e⟩) (fun j e hj => ?_))))
    obtain ⟨V, R⟩ := M.2.2 j hj
    rw [e, q_4j]
    refine ⟨by omega, m_isSpecial hL ⟨Or.inl rfl, by omega⟩ R V.1 ⟨fun q => ⟨by omega, m_copies hL (by omega) R (fun h1 f1 R1 => ?_)⟩, fun q => ⟨Or.inl rfl, ko h (qmf_refl _ _) ?_⟩⟩⟩
    · have hq := qb_n0.mp q
      rcases Int.lt_or_le y 0 with c | c
      · rw [qin_neg c] at hq; cases hq
      · obtain ⟨u, eu⟩ := Int.eq_ofNat_of_zero_le c
        rw [eu] at hq ⊢
        have hq2 := hq
        rw [qin_nat] at hq2
        obtain ⟨v1, v2, v3, v4⟩ := qspc_v0 V.1 hq2
        refine m_puts (a := 24) hL (Or.inl ⟨Or.inl rfl, by omega⟩) (by omega) R1 (fun h2 f2 R2 => ?_)
        rw [← qflip_put v1] at R2
        rw [← e]
        exact fin j u e eu hj hq v4 (by omega) h2 (qmf_trans f1 (qrf_mf f2 (fun c c1 _ => by rw [qcd_hi (by omega)]; rfl))) R2
    · unfold qok
      rw [e, Int.toNat_natCast, if_pos rfl, qb_0.mp q, Bool.false_and, Bool.and_false]
  | false =>
    refine i_X12_drop hL (fun G hG hw _ => b_X12_drop_0 hG (m_isSet hL M (hw (qi set) (by simp)) (q_on (fun e => ⟨Or.inl rfl, no1 e⟩) (fun j e hj => ?_))))
    obtain ⟨V, R⟩ := M.2.2 j hj
    rw [e, q_4j]
    refine ⟨fun q => ⟨Or.inl rfl, ko h (qmf_refl _ _) ?_⟩, fun q => ⟨by omega, m_isGen hL ⟨Or.inl rfl, by omega⟩ R (qm6_1 V.1) ⟨fun q2 => ⟨by omega, m_copies hL (by omega) R (fun h1 f1 R1 => ?_)⟩, fun q2 => ⟨Or.inl rfl, ko h (qmf_refl _ _) ?_⟩⟩⟩⟩
    · obtain ⟨u, eu⟩ := Int.eq_ofNat_of_zero_le (show 0 ≤ y by omega)
      unfold qok
      rw [e, eu, Int.toNat_natCast, Int.toNat_natCast, if_neg Bool.false_ne_true, qin_nat]
      cases hq : qgen (H 0 j) u with
      | false => rw [Bool.false_and, Bool.and_false]
      | true =>
        obtain ⟨v1, v2, v3, v4⟩ := qgen_v0 V.1 hq
        rw [qflip_far (by omega) v3 v1, Bool.and_false, Bool.and_false]
    · have hq := qb_n0.mp q2
      rcases Int.lt_or_le y 0 with c | c
      · rw [qin_neg c] at hq; cases hq
      · obtain ⟨u, eu⟩ := Int.eq_ofNat_of_zero_le c
        rw [eu] at hq ⊢
        have hq2 := hq
        rw [qin_nat] at hq2
        obtain ⟨v1, v2, v3, v4⟩ := qgen_v0 V.1 hq2
        refine m_takes (a := 24) hL ⟨Or.inl rfl, by omega⟩ (by omega) R1 (fun h2 f2 R2 => ?_)
        rw [← qflip_take v1] at R2
        rw [← e]
        exact fin j u e eu hj hq v4 (by omega) h2 (qmf_trans f1 (qrf_mf f2 (fun c c1 _ => by rw [qcd_hi (by omega)]; rfl))) R2
    · unfold qok
      rw [e, Int.toNat_natCast, if_neg Bool.false_ne_true, qb_0.mp q2, Bool.false_and, Bool.and_false]
theorem m_undo (hL : qhL g) (M : qmd h n (H 0)) (U : qmu h n dn H) (HV : ∀ i, i ≤ dn → ∀ j, j < n → QV2 (H i j))
    (k0 : dn = 0 → Q 0 h) (k1 : 0 < dn → ∀ h', qmf [1026, 154] h h' → qmd h' n (H 1) → qmu h' n (dn - 1) (fun i => H (i + 1)) → Q 1 h') : q_tr l g (d + 1) n_X12_undo [qr 12 0] h Q := by
  obtain ⟨u1, u2, e, u3, u4, u5⟩ := U
  have h6 := M.2.1
  refine i_X12_undo hL (fun G hG _ _ => b_X12_undo_0 hG ?_)
  rw [u1]
  refine ⟨fun q => ?_, fun q => ⟨Or.inl rfl, k0 (by omega)⟩⟩
  have e25 : (qu h 12 0 26 ((dn : Int) - 1)) 12 0 25 = e := by rw [qu_ne (by omega)]; exact u4
  have e26 : (qu h 12 0 26 ((dn : Int) - 1)) 12 0 26 = (dn : Int) - 1 := qu_at
  rw [e25, e26]
  generalize eA : (e + dn - 1) % 40 = A
  rw [show ((e : Int) + ((dn : Int) - 1)) % 40 = (A : Int) by omega]
  have key : ∀ m, m ≤ 24 → ∀ h1, (qmf [1026, 154] h h1 ∧ h1 12 0 26 = (dn : Int) - 1 ∧ ∀ c : Nat, c < m → h1 54 0 (c : Int) = h 57 0 ((24 * A + c : Nat) : Int)) → G 37 [some (qr 12 0), some (qi (24 * (A : Int))), some (qi (m : Int))] [] h1 := by
    refine q_up (fun m hm ih h1 hI => b_X12_undo_37 hG ⟨fun q2 => ?_, fun q2 => ?_⟩)
    · obtain ⟨f, i1, i2⟩ := hI
      refine ⟨Or.inr rfl, k1 (by omega) h1 f ⟨by rw [f 12 0 17 rfl]; exact M.1, h6, fun j hj => ⟨HV 1 (by omega) j hj, fun x hx => ?_⟩⟩ ⟨by rw [i1]; omega, by omega, e, u3, by rw [f 12 0 25 rfl]; exact u4, fun i hi j hj => ?_⟩⟩
      · have := u5 0 (by omega) j hj x hx
        rw [show e + dn - 1 - 0 = e + dn - 1 by omega, eA] at this
        rw [i2 _ (by omega), show 24 * A + (4 * j + x / 64) = 24 * A + 4 * j + x / 64 by omega]
        exact this
      · have := u5 (i + 1) (by omega) j hj
        rw [show e + (dn - 1) - 1 - i = e + dn - 1 - (i + 1) by omega]
        exact qmr_o this (by omega) (by omega) f rfl
    · obtain ⟨f, i1, i2⟩ := hI
      refine ⟨by omega, by omega, by omega, by omega, ih (by omega) _ ⟨qmf_trans f (qmf_qu (by rw [qcd_lo (by omega)]; rfl)), by rw [qu_ne (by omega)]; exact i1, fun c hc => ?_⟩⟩
      by_cases ec : c = m
      · rw [ec, qu_at, show 24 * (A : Int) + (m : Int) = ((24 * A + m : Nat) : Int) by omega]
        exact f 57 0 _ rfl
      · rw [qu_ne (by omega)]; exact i2 c (by omega)
  refine ⟨by omega, by omega, by omega, by omega, key 0 (by omega) _ ⟨qmf_qu rfl, qu_at, fun c hc => absurd hc (Nat.not_lt_zero _)⟩⟩
def qupg {α : Type} (f : Nat → α) (u : Nat) (a : α) : Nat → α := fun i => if i = u then a else f i
theorem qupg_at {α : Type} {f : Nat → α} {u : Nat} {a : α} : qupg f u a u = a := by unfold qupg; rw [if_pos rfl]
theorem qupg_ne {α : Type} {f : Nat → α} {u i : Nat} {a : α} (h : i ≠ u) : qupg f u a i = f i := by unfold qupg; rw [if_neg h]
/-- what the model's SLOTS hold -/
def qmh (h : QM) (n : Nat) (b : Nat → Bool) (K : Nat → Nat → QZ) : Prop := ∀ i : Nat, i < 3 → h 59 0 i = qb (b i) ∧ (b i = true → ∀ j : Nat, j < n → qmr h 58 (24 * i + 4 * j) (K i j))
theorem qmh_f {rs : List Nat} {h h' : QM} {n : Nat} {b : Nat → Bool} {K : Nat → Nat → QZ} (u : qmh h n b K) (f : qmf rs h h') (e : (rs.contains 58 || rs.contains 59) = false) : qmh h' n b K := fun i hi => by
  rw [Bool.or_eq_false_iff] at e
  obtain ⟨a1, a2⟩ := u i hi
  exact ⟨by rw [f 59 0 _ e.2]; exact a1, fun hb j hj => qmr_o (a2 hb j hj) (by omega) (by omega) f e.1⟩
theorem m_hold {y : Int} {b : Nat → Bool} {K : Nat → Nat → QZ} (hL : qhL g) (M : qmd h n S) (B : qmh h n b K)
    (k0 : ¬ (0 ≤ y ∧ y < 3) → Q 0 h) (k1 : 0 ≤ y → y < 3 → ∀ h', qmf [58, 59] h h' → qmh h' n (qupg b y.toNat true) (qupg K y.toNat S) → Q 1 h') : q_tr l g (d + 2) n_X12_hold [qr 12 0, qi y] h Q := by
  have h6 := M.2.1
  refine i_X12_hold hL (fun G hG _ _ => b_X12_hold_0 hG (m_in hL (q_cd (fun e => ⟨Or.inl rfl, k0 (by omega)⟩) (fun e => ?_))))
  obtain ⟨u, rfl⟩ := Int.eq_ofNat_of_zero_le e.1
  rw [Int.toNat_natCast] at k1
  have key : ∀ m, m ≤ 24 → ∀ h1, (qmf [58] h h1 ∧ (∀ c : Nat, c < m → h1 58 0 ((24 * u + c : Nat) : Int) = h 54 0 (c : Int)) ∧ ∀ c : Int, ¬ (((24 * u : Nat) : Int) ≤ c ∧ c < ((24 * u + 24 : Nat) : Int)) → h1 58 0 c = h 58 0 c) → G 13 [some (qr 12 0), some (qi (u : Int)), some (qi (m : Int))] [] h1 := by
    refine q_up (fun m hm ih h1 hI => b_X12_hold_13 hG ⟨fun q2 => ?_, fun q2 => ?_⟩)
    · obtain ⟨f, i1, i2⟩ := hI
      refine ⟨⟨by omega, Or.inr rfl⟩, Or.inr rfl, k1 (by omega) (by omega) _ (qmf_trans (qmf_mono f rfl) (qmf_qu rfl)) (fun i hi => ?_)⟩
      by_cases ei : i = u
      · subst ei
        refine ⟨by rw [qu_at, qupg_at]; rfl, fun _ j hj => ?_⟩
        rw [qupg_at]
        intro x hx
        rw [qu_ne (by omega), show 24 * i + 4 * j + x / 64 = 24 * i + (4 * j + x / 64) by omega, i1 _ (by omega)]
        exact (M.2.2 j hj).2 x hx
      · obtain ⟨a1, a2⟩ := B i hi
        rw [qupg_ne ei, qupg_ne ei]
        refine ⟨by rw [qu_ne (by omega), f 59 0 _ rfl]; exact a1, fun hb j hj => qmr_fr (a2 hb j hj) (fun c c1 c2 => ?_)⟩
        rw [qu_ne (by omega)]
        exact i2 c (by omega)
    · obtain ⟨f, i1, i2⟩ := hI
      refine ⟨by omega, by omega, by omega, by omega, by omega, ih (by omega) _ ⟨qmf_trans f (qmf_qu rfl), fun c hc => ?_, fun c hc => ?_⟩⟩
      · by_cases ec : c = m
        · rw [ec, show ((24 * u + m : Nat) : Int) = 24 * (u : Int) + (m : Int) by omega, qu_at]
          exact f 54 0 _ (by rw [qcd_lo (by omega)]; rfl)
        · rw [qu_ne (by omega)]; exact i1 c (by omega)
      · rw [qu_ne (by omega)]; exact i2 c hc
  exact key 0 (by omega) h ⟨qmf_refl _ _, fun c hc => absurd hc (Nat.not_lt_zero _), fun _ _ => rfl⟩
theorem m_restore {y : Int} {b : Nat → Bool} {K : Nat → Nat → QZ} (hL : qhL g) (M : qmd h n S) (U : qmu h n dn H) (B : qmh h n b K) (HK : ∀ i : Nat, i < 3 → b i = true → ∀ j, j < n → QV2 (K i j))
    (k0 : ¬ (0 ≤ y ∧ y < 3 ∧ b y.toNat = true) → Q 0 h) (k1 : 0 ≤ y → y < 3 → b y.toNat = true → ∀ h', qmf [1026, 154] h h' → qmd h' n (K y.toNat) → (∀ H', qmu h' n 0 H') → Q 1 h') : q_tr l g (d + 2) n_X12_restore [qr 12 0, qi y] h Q := by
  have h6 := M.2.1
  obtain ⟨u1, u2, e0, u3, u4, u5⟩ := U
  refine i_X12_restore hL (fun G hG _ _ => b_X12_restore_0 hG (m_in hL (q_dc (fun e => ⟨Or.inl rfl, k0 (by omega)⟩) (fun e => ⟨by omega, ?_⟩))))
  obtain ⟨u, rfl⟩ := Int.eq_ofNat_of_zero_le e.1
  rw [Int.toNat_natCast] at k0 k1
  obtain ⟨b1, b2⟩ := B u (by omega)
  rw [b1]
  refine ⟨fun q => ?_, fun q => ⟨Or.inl rfl, k0 (fun z => by rw [z.2.2] at q; cases q)⟩⟩
  have hb := qb_n0.mp q
  have b2 := b2 hb
  have key : ∀ m, m ≤ 24 → ∀ h1, (qmf [154] h h1 ∧ ∀ c : Nat, c < m → h1 54 0 (c : Int) = h 58 0 ((24 * u + c : Nat) : Int)) → G 22 [some (qr 12 0), some (qi (u : Int)), some (qi (m : Int))] [] h1 := by
    refine q_up (fun m hm ih h1 hI => b_X12_restore_22 hG ⟨fun q2 => ?_, fun q2 => ?_⟩)
    · obtain ⟨f, i1⟩ := hI
      refine ⟨Or.inr rfl, k1 (by omega) (by omega) hb _ (qmf_trans (qmf_mono f rfl) (qmf_qu rfl)) ⟨by rw [qu_ne (by omega), f 12 0 17 rfl]; exact M.1, h6, fun j hj => ⟨HK u (by omega) hb j hj, fun x hx => ?_⟩⟩ (fun H' => ⟨qu_at, by omega, e0, u3, by rw [qu_ne (by omega), f 12 0 25 rfl]; exact u4, fun i hi => absurd hi (Nat.not_lt_zero _)⟩)⟩
      rw [qu_ne (by omega), i1 _ (by omega), show 24 * u + (4 * j + x / 64) = 24 * u + 4 * j + x / 64 by omega]
      exact b2 j hj x hx
    · obtain ⟨f, i1⟩ := hI
      refine ⟨by omega, by omega, by omega, by omega, by omega, ih (by omega) _ ⟨qmf_trans f (qmf_qu (by rw [qcd_lo (by omega)]; rfl)), fun c hc => ?_⟩⟩
      by_cases ec : c = m
      · rw [ec, qu_at, show 24 * (u : Int) + (m : Int) = ((24 * u + m : Nat) : Int) by omega]
        exact f 58 0 _ rfl
      · rw [qu_ne (by omega)]; exact i1 c (by omega)
  exact key 0 (by omega) h ⟨qmf_refl _ _, fun c hc => absurd hc (Nat.not_lt_zero _)⟩
/-- the model's tape -/
def qmt (h : QM) (tn : Nat) (tb : Nat → Int) : Prop := h 12 0 2 = tn ∧ tn ≤ 2000 ∧ ∀ i : Nat, i < tn → h 46 0 i = tb i ∧ -128 ≤ tb i ∧ tb i ≤ 127
theorem m_lays {tn : Nat} {tb : Nat → Int} {w : Int} (hL : qhL g) (A : qmt h tn tb) (hn : tn + 4 ≤ 2000) (k : ∀ h', qmf [1002, 46] h h' → qmt h' (tn + 4) (qfour tn tb w) → Q 0 h') : q_tr l g (d + 1) n_X12_lays [qr 12 0, qi w] h Q := by
  refine i_X12_lays hL (fun G hG _ _ => b_X12_lays_0 hG ?_)
  have key : ∀ m, m ≤ 4 → ∀ h1, (qmf [1002, 46] h h1 ∧ qmt h1 (tn + m) (qfour tn tb w)) → G 3 [some (qr 12 0), some (qi w), some (qi (24 - 8 * (m : Int)))] [] h1 := by
    refine q_up (fun m hm ih h1 hI => b_X12_lays_3 hG ?_)
    obtain ⟨f, a1, a2, a3⟩ := hI
    refine ⟨fun q => k h1 f (by rw [show 4 = m by omega]; exact ⟨a1, a2, a3⟩), fun q => ?_⟩
    rw [a1]
    have hw : -128 ≤ q_w8 (q_shr w (24 - 8 * (m : Int))) ∧ q_w8 (q_shr w (24 - 8 * (m : Int))) ≤ 127 := by unfold q_w8; omega
    rw [qu_ne (by omega), a1]
    refine ⟨⟨by omega, hw⟩, by omega, by omega, ?_⟩
    rw [show 24 - 8 * (m : Int) + -8 = 24 - 8 * ((m + 1 : Nat) : Int) by omega]
    refine ih (by omega) _ ⟨qmf_trans f (qmf_trans (qmf_qu rfl) (qmf_qu rfl)), by rw [qu_at]; omega, by omega, fun i hi => ?_⟩
    rw [qu_ne (by omega)]
    by_cases e : i = tn + m
    · have e2 : qfour tn tb w i = q_w8 (q_shr w (24 - 8 * (m : Int))) := by
        unfold qfour
        rw [if_neg (by omega), show ((24 - 8 * (i - tn) : Nat) : Int) = 24 - 8 * (m : Int) by omega]
      rw [e2, show (i : Int) = ((tn + m : Nat) : Int) by omega, qu_at]
      exact ⟨rfl, hw⟩
    · rw [qu_ne (by omega)]; exact a3 i (by omega)
  have := key 0 (by omega) h ⟨qmf_refl _ _, A.1, A.2.1, fun i hi => ?_⟩
  · exact this
  · unfold qfour; rw [if_pos (by omega)]; exact A.2.2 i (by omega)
theorem m_feed {tn : Nat} {tb : Nat → Int} {a b c dd e : Int} (hL : qhL g) (T : qmt h tn tb) (k0 : 1980 < tn → Q (-1) h) (k1 : tn ≤ 1980 → ∀ h', qmf [1002, 46] h h' → qmt h' (tn + 20) (qfive tn tb a b c dd e) → Q ((tn + 20 : Nat) : Int) h') : q_tr l g (d + 2) n_X12_feed [qr 12 0, qi a, qi b, qi c, qi dd, qi e] h Q := by
  have h2k := T.2.1
  refine i_X12_feed hL (fun G hG _ _ => b_X12_feed_0 hG ?_)
  rw [T.1]
  refine ⟨by omega, fun q => ?_, fun q => k0 (by omega)⟩
  refine m_lays hL T (by omega) (fun h1 f1 T1 => m_lays hL T1 (by omega) (fun h2 f2 T2 => m_lays hL T2 (by omega) (fun h3 f3 T3 => m_lays hL T3 (by omega) (fun h4 f4 T4 => m_lays hL T4 (by omega) (fun h5 f5 T5 => ?_)))))
  have := k1 (by omega) h5 (qmf_trans f1 (qmf_trans f2 (qmf_trans f3 (qmf_trans f4 f5)))) T5
  rw [T5.1]; exact this
theorem m_back {tn : Nat} {tb : Nat → Int} {y : Int} (hL : qhL g) (T : qmt h tn tb) (k0 : (y < 0 ∨ (tn : Int) < y) → Q (-1) h) (k1 : 0 ≤ y → y ≤ tn → ∀ h', qmf [1002] h h' → qmt h' (tn - y.toNat) tb → Q ((tn - y.toNat : Nat) : Int) h') : q_tr l g (d + 1) n_X12_back [qr 12 0, qi y] h Q := by
  have h2k := T.2.1
  refine i_X12_back hL (fun G hG _ _ => b_X12_back_0 hG ?_)
  rw [T.1]
  refine ⟨fun q => k0 (Or.inl q), fun q => ⟨fun q2 => ⟨by omega, ?_⟩, fun q2 => k0 (Or.inr (by omega))⟩⟩
  obtain ⟨u, rfl⟩ := Int.eq_ofNat_of_zero_le (show 0 ≤ y by omega)
  rw [Int.toNat_natCast] at k1
  rw [qu_at, show (tn : Int) - (u : Int) = ((tn - u : Nat) : Int) by omega]
  exact k1 (by omega) q2 _ (qmf_qu rfl) ⟨qu_at, by omega, fun i hi => by rw [qu_ne (by omega)]; exact T.2.2 i (by omega)⟩
end QW2
