/-! the model: those ABOVE, PIECES, GOOD GAPS -/
/-- the model's gaps are those of T, its base is at a -/
def qmp (h : QM) (a : Nat) (T : QZ) : Prop := h 12 0 39 = qgn T ∧ h 12 0 40 = a ∧ ∀ j : Nat, j < qgn T → h 67 0 j = qgp T j
theorem qmp_f {rs : List Nat} {h h' : QM} {a : Nat} {T : QZ} (p : qmp h a T) (f : qmf rs h h') (e : (rs.contains 1039 || rs.contains 1040 || rs.contains 67) = false) : qmp h' a T := by
  simp only [Bool.or_eq_false_iff] at e
  exact ⟨by rw [f 12 0 39 e.1.1]; exact p.1, by rw [f 12 0 40 e.1.2]; exact p.2.1, fun j hj => by rw [f 67 0 _ e.2]; exact p.2.2 j hj⟩
/-- closed under what one of the gaps and another one give -/
def qfix (S : QZ) (n : Nat) : Prop := ∀ a b, a < b → b < qgn S → qbt n a = true → qab S n (qgp S b - qgp S a) = true → qbt n b = true
theorem qfix_cl {S : QZ} (V : QV1 S) (hg : qgn S ≤ 8) {n : Nat} (h : qfix S n) : qclp (qab S n) = true := (qab_cl V hg n).mpr (fun a b h1 h2 h3 h4 => by
  cases e : qab S n (qgp S b - qgp S a) with
  | false => rfl
  | true => rw [h a b h1 h2 h3 e] at h4; cases h4)
/-- what has all of one, one gap more, and all sums, and no more -/
theorem qnx_is {S : QZ} (V : QV1 S) (hg : qgn S ≤ 8) {n z k : Nat} (hc : qclp (qab S n) = true) (hk : k < qgn S) (hz : z < 2 ^ qgn S) (h1 : ∀ j, j < qgn S → qbt n j = true → qbt z j = true) (h2 : qbt z k = true) (h3 : qfix S z)
    (h4 : ∀ C : Nat → Prop, (∀ x y, C x → C y → C (x + y)) → (∀ x, S x = true → C x) → (∀ j, j < qgn S → qbt n j = true → C (qgp S j)) → C (qgp S k) → ∀ j, j < qgn S → qbt z j = true → C (qgp S j)) : z = qnx S n k := by
  have Z := qab_v1 V hg (qfix_cl V hg h3)
  have U := qab_v1 V hg hc
  have g0 : 0 < qgp S k := by
    rcases Nat.eq_zero_or_pos (qgp S k) with c | c
    · have := (qgp_ok hk).1
      rw [c, V.1] at this; cases this
    · exact c
  have hsub : ∀ x, qab S n x = true → qab S z x = true := fun x hx => by
    rcases qab_iff.mp hx with q | ⟨j, j1, j2, j3⟩
    · exact qab_in q
    · rw [← j2, qab_gap j1]; exact h1 j j1 j3
  have hkz : qab S z (qgp S k) = true := by rw [qab_gap hk]; exact h2
  have hmul : ∀ j, qab S z (j * qgp S k) = true := fun j => qv_mul Z hkz j
  refine Nat.le_antisymm (qbt_more (qgn S) hz (qnx_lt S n k) (fun j hj q => ?_)) (qbt_more (qgn S) (qnx_lt S n k) hz (fun j hj q => ?_))
  · unfold qnx
    rw [qnb_bit, decide_eq_true hj, Bool.true_and, qgrw_iff]
    obtain ⟨t, t1, t2⟩ := h4 (fun x => ∃ t, t * qgp S k ≤ x ∧ qab S n (x - t * qgp S k) = true) (fun x y ⟨t, a1, a2⟩ ⟨u, b1, b2⟩ => ⟨t + u, by rw [Nat.add_mul]; omega, by
      have := U.2.1 _ _ a2 b2
      rw [show x + y - (t + u) * qgp S k = x - t * qgp S k + (y - u * qgp S k) by rw [Nat.add_mul]; omega]
      exact this⟩) (fun x hx => ⟨0, by omega, by rw [Nat.zero_mul]; exact qab_in hx⟩) (fun i hi hb => ⟨0, by omega, by rw [Nat.zero_mul, Nat.sub_zero, qab_gap hi]; exact hb⟩) ⟨1, by omega, by rw [Nat.one_mul, Nat.sub_self]; exact U.1⟩ j hj q
    have h16 := qgp_16 V hg hj
    refine ⟨t, ?_, t1, t2⟩
    have : t ≤ t * qgp S k := Nat.le_mul_of_pos_right _ g0
    omega
  · unfold qnx at q
    rw [qnb_bit, decide_eq_true hj, Bool.true_and, qgrw_iff] at q
    obtain ⟨t, -, t1, t2⟩ := q
    have := Z.2.1 _ _ (hsub _ t2) (hmul t)
    rw [show qgp S j - t * qgp S k + t * qgp S k = qgp S j by omega, qab_gap hj] at this
    exact this
section QM10
variable {l : Launch} {g : QG} {d : Nat} {h : QM} {Q : Int → QM → Prop} {n a : Nat} {S : Nat → QZ} {T : QZ} {s : Int}
theorem m_laysGaps (hL : qhL g) (ha : a ≤ 20) (R : qmr h 54 a T) (V : QV1 T) (k : ∀ h', qmf [1039, 1040, 67] h h' → qmp h' a T → Q 0 h') : q_tr l g (d + 2) n_X12_laysGaps [qr 12 0, qi a] h Q := by
  refine i_X12_laysGaps hL (fun G hG _ _ => b_X12_laysGaps_0 hG ?_)
  have H := qm6_1 V
  have hcl := qc_le (qgap T)
  have g0 := qgap_t.mpr V.1
  have key : ∀ m, m ≤ 256 → 1 ≤ m → ∀ h1, (qmf [1039, 1040, 67] h h1 ∧ h1 12 0 39 = (qc (qgap T) m : Nat) ∧ h1 12 0 40 = a ∧ ∀ x : Nat, x < m → qgap T x = true → h1 67 0 (qc (qgap T) x) = x) → G 12 [some (qr 12 0), some (qi (a : Int)), some (qi (m : Int))] [] h1 := by
    refine q_up (fun m hm ih hm1 h1 hI => b_X12_laysGaps_12 hG ⟨fun q => ?_, fun q => m_isOf hL (Or.inl ⟨Or.inl rfl, by omega⟩) (qmr_f R ha hI.1 rfl) H ?_⟩)
    · obtain ⟨f, i1, i2, i3⟩ := hI
      refine k h1 f ⟨by rw [i1, qgn_256 H, show m = 256 by omega], i2, fun j hj => ?_⟩
      obtain ⟨j1, j2, j3⟩ := qgp_ok hj
      have hlt : qgp T j < m := by
        rcases Nat.lt_or_ge (qgp T j) 256 with c | c
        · omega
        · rw [H _ c] at j1; cases j1
      have := i3 _ hlt (qgap_f.mpr j1)
      rw [j3] at this; exact this
    · obtain ⟨f, i1, i2, i3⟩ := hI
      rw [qin_nat]
      have hc := hcl m
      refine ⟨fun q2 => ?_, fun q2 => ⟨by omega, ih (by omega) (by omega) h1 ⟨f, by rw [qc_f (qgap_t.mpr (qb_n0.mp q2))]; exact i1, i2, fun x x1 x2 => i3 x (by
        by_cases e : x = m
        · rw [e, qgap_t.mpr (qb_n0.mp q2)] at x2; cases x2
        · omega) x2⟩⟩⟩
      have hg := qgap_f.mpr (qb_0.mp q2)
      have hlt : qc (qgap T) m < 256 := by omega
      rw [i1]
      rw [qu_ne (by omega), i1]
      refine ⟨by omega, by omega, by omega, ih (by omega) (by omega) _ ⟨qmf_trans f (qmf_trans (qmf_qu rfl) (qmf_qu rfl)), ?_, ?_, fun x x1 x2 => ?_⟩⟩
      · rw [qu_at, qc_t hg]; omega
      · rw [qu_ne (by omega), qu_ne (by omega)]; exact i2
      · rw [qu_ne (by omega)]
        by_cases e : x = m
        · subst e; rw [qu_at]
        · rw [qu_ne (by have := qc_lt (p := qgap T) (show x < m by omega) x2; omega)]
          exact i3 x (by omega) x2
  refine key 1 (by omega) (by omega) _ ⟨qmf_trans (qmf_qu rfl) (qmf_qu rfl), ?_, ?_, fun x x1 x2 => ?_⟩
  · rw [qu_at, qc_f g0]; rfl
  · rw [qu_ne (by omega), qu_at]
  · rw [show x = 0 by omega, g0] at x2; cases x2
theorem m_isWith {m : Nat} {x : Int} (hL : qhL g) (ha : a ≤ 20) (R : qmr h 54 a T) (V : QV1 T) (hg : qgn T ≤ 8) (P : qmp h a T) (k : Q (qb (qin (qab T m) x)) h) : q_tr l g (d + 2) n_X12_isWith [qr 12 0, qi m, qi x] h Q := by
  refine i_X12_isWith hL (fun G hG _ _ => b_X12_isWith_0 hG ⟨fun q => ?_, fun q => ⟨Or.inl rfl, q_qe k (by rw [qin_neg (by omega)]; rfl)⟩⟩)
  obtain ⟨y, rfl⟩ := Int.eq_ofNat_of_zero_le q
  rw [qin_nat] at k
  rw [P.2.1]
  refine m_isOf hL (Or.inl ⟨Or.inl rfl, by omega⟩) R (qm6_1 V) ?_
  rw [qin_nat]
  refine ⟨fun q2 => ?_, fun q2 => ⟨Or.inr rfl, q_qe k (by rw [qab_in (qb_n0.mp q2)]; rfl)⟩⟩
  have hT := qb_0.mp q2
  have key : ∀ j, j ≤ qgn T → (∀ i, i < j → qgp T i ≠ y) → G 25 [some (qr 12 0), some (qi m), some (qi (y : Int)), some (qi (j : Int))] [] h := by
    refine q_up (fun j hj ih hI => b_X12_isWith_25 hG ?_)
    rw [P.1]
    refine ⟨fun q3 => ⟨Or.inl rfl, q_qe k ?_⟩, fun q3 => ⟨by omega, ?_⟩⟩
    · have : qab T m y = false := by
        cases e : qab T m y with
        | false => rfl
        | true =>
          rcases qab_iff.mp e with w | ⟨i, i1, i2, i3⟩
          · rw [hT] at w; cases w
          · exact absurd i2 (hI i (by omega))
      rw [this]; rfl
    · rw [P.2.2 j (by omega)]
      refine ⟨fun q4 => ⟨by omega, ih (by omega) (fun i hi => ?_)⟩, fun q4 => ?_⟩
      · by_cases c : i = j
        · rw [c]; omega
        · exact hI i (by omega)
      · rw [q_bit (by omega)]
        have e : qab T m y = qbt m j := by rw [← qab_gap (n := m) (show j < qgn T by omega), show qgp T j = y by omega]
        rw [e] at k
        exact ⟨fun q5 => ⟨Or.inl rfl, q_qe k (by cases c : qbt (m : Int) j with
          | false => rfl
          | true => rw [c] at q5; exact absurd rfl q5)⟩, fun q5 => ⟨Or.inr rfl, q_qe k q5.symm⟩⟩
  exact key 0 (Nat.zero_le _) (fun i hi => absurd hi (Nat.not_lt_zero _))
theorem m_laysAbove (hL : qhL g) (ha : a ≤ 20) (R : qmr h 54 a T) (V : QV1 T) (hg : qgn T ≤ 8) (k : ∀ h', qmf [1039, 1040, 67, 68] h h' → qmp h' a T → (∀ m : Nat, m < 2 ^ qgn T → h' 68 0 m = qb (qclp (qab T m))) → Q 0 h') : q_tr l g (d + 3) n_X12_laysAbove [qr 12 0, qi a] h Q := by
  refine i_X12_laysAbove hL (fun G hG _ _ => b_X12_laysAbove_0 hG (m_laysGaps hL ha R V (fun h1 f1 P1 => ?_)))
  have h256 := q2g hg
  have hP := fun h2 (f : qmf [68] h1 h2) => qmp_f P1 f rfl
  have hR := fun h2 (f : qmf [68] h1 h2) => qmr_f (qmr_f R ha f1 rfl) ha f rfl
  have key : ∀ m, m ≤ 2 ^ qgn T → ∀ h2, (qmf [68] h1 h2 ∧ ∀ w : Nat, w < m → h2 68 0 w = qb (qclp (qab T w))) → G 7 [some (qr 12 0), none, some (qi (m : Int)), none, none] [] h2 := by
    refine q_up (fun m hm ih h2 hI => b_X12_laysAbove_7 hG ?_)
    rw [(hP h2 hI.1).1, q_shl1 hg]
    refine ⟨fun q => k h2 (qmf_trans (qmf_mono f1 rfl) (qmf_mono hI.1 rfl)) (hP h2 hI.1) (fun w hw => hI.2 w (by omega)), fun q => ⟨⟨by omega, Or.inr rfl⟩, ?_⟩⟩
    -- pair by pair: still closed
    have pairs : ∀ b, b ≤ qgn T → ∀ cl : Bool, (cl = true ↔ ∀ x y, x < y → y < qgn T → x < b → qbt m x = true → qbt m y = false → qab T m (qgp T y - qgp T x) = false) → ∀ h3, (qmf [68] h1 h3 ∧ (∀ w : Nat, w < m → h3 68 0 w = qb (qclp (qab T w))) ∧ h3 68 0 m = qb cl) → G 26 [some (qr 12 0), none, some (qi (m : Int)), some (qi (b : Int)), none] [] h3 := by
      refine q_up (fun b hb ihb cl hcl h3 hI3 => b_X12_laysAbove_26 hG ?_)
      obtain ⟨f3, i1, i2⟩ := hI3
      rw [(hP h3 f3).1]
      refine ⟨fun q2 => ⟨by omega, ih (by omega) h3 ⟨f3, fun w hw => ?_⟩⟩, fun q2 => ?_⟩
      · by_cases e : w = m
        · rw [e, i2]
          congr 1
          cases c : cl with
          | true => exact ((qab_cl V hg m).mpr (fun x y x1 x2 x3 x4 => hcl.mp c x y x1 x2 (by omega) x3 x4)).symm
          | false =>
            cases c2 : qclp (qab T m) with
            | false => rfl
            | true =>
              have := hcl.mpr (fun x y x1 x2 _ x3 x4 => (qab_cl V hg m).mp c2 x y x1 x2 x3 x4)
              rw [c] at this; cases this
        · exact i1 w (by omega)
      · rw [q_bit (by omega)]
        refine ⟨fun q3 => ⟨by omega, ?_⟩, fun q3 => ⟨by omega, ihb (by omega) cl ?_ h3 ⟨f3, i1, i2⟩⟩⟩
        · have hb1 := qb_n0.mp q3
          have inner : ∀ y, y ≤ qgn T → b < y → ∀ cl : Bool, (cl = true ↔ ∀ x y', x < y' → y' < qgn T → (x < b ∨ (x = b ∧ y' < y)) → qbt m x = true → qbt m y' = false → qab T m (qgp T y' - qgp T x) = false) → ∀ h3, (qmf [68] h1 h3 ∧ (∀ w : Nat, w < m → h3 68 0 w = qb (qclp (qab T w))) ∧ h3 68 0 m = qb cl) → G 50 [some (qr 12 0), none, some (qi (m : Int)), some (qi (b : Int)), some (qi (y : Int))] [] h3 := by
            refine q_up (fun y hy ihy hby cl hcl h3 hI3 => b_X12_laysAbove_50 hG ?_)
            obtain ⟨f3, i1, i2⟩ := hI3
            rw [(hP h3 f3).1]
            have skip : ∀ cl' : Bool, (cl' = true ↔ (cl = true ∧ (qbt m y = false → qab T m (qgp T y - qgp T b) = false))) → y < qgn T → ∀ h4, (qmf [68] h1 h4 ∧ (∀ w : Nat, w < m → h4 68 0 w = qb (qclp (qab T w))) ∧ h4 68 0 m = qb cl') → G 50 [some (qr 12 0), none, some (qi (m : Int)), some (qi (b : Int)), some (qi ((y : Int) + 1))] [] h4 := fun cl' hcl' hyg h4 hI4 => ihy hyg (by omega) cl' (by
              rw [hcl', hcl]
              constructor
              · rintro ⟨q5, q6⟩ x y' x1 x2 x3 x4 x5
                by_cases e : x = b ∧ y' = y
                · obtain ⟨rfl, rfl⟩ := e; exact q6 x5
                · exact q5 x y' x1 x2 (by omega) x4 x5
              · intro q5
                exact ⟨fun x y' x1 x2 x3 x4 x5 => q5 x y' x1 x2 (by omega) x4 x5, fun q6 => q5 b y (by omega) hyg (Or.inr ⟨rfl, by omega⟩) hb1 q6⟩) h4 hI4
            refine ⟨fun q4 => ⟨by omega, ihb (by omega) cl ?_ h3 ⟨f3, i1, i2⟩⟩, fun q4 => ?_⟩
            · rw [hcl]
              constructor
              · intro q5 x y' x1 x2 x3 x4 x5
                exact q5 x y' x1 x2 (by omega) x4 x5
              · intro q5 x y' x1 x2 x3 x4 x5
                exact q5 x y' x1 x2 (by omega) x4 x5
            · rw [q_bit (by omega), (hP h3 f3).2.2 y (by omega), (hP h3 f3).2.2 b (by omega)]
              have g1 := qgp_16 V hg (k := y) (by omega)
              have g2 := qgp_lt (S := T) (show b < y by omega) (by omega)
              refine ⟨fun q5 => ⟨by omega, skip cl ⟨fun z => ⟨z, fun z2 => by rw [z2] at q5; exact absurd rfl q5⟩, fun z => z.1⟩ (by omega) h3 ⟨f3, i1, i2⟩⟩, fun q5 => ⟨by omega, by omega, by omega, ?_⟩⟩
              rw [show (qgp T y : Int) - (qgp T b : Int) = ((qgp T y - qgp T b : Nat) : Int) by omega]
              refine m_isWith hL ha (hR h3 f3) V hg (hP h3 f3) ?_
              rw [qin_nat]
              refine ⟨fun q6 => ⟨by omega, skip cl ⟨fun z => ⟨z, fun _ => qb_0.mp q6⟩, fun z => z.1⟩ (by omega) h3 ⟨f3, i1, i2⟩⟩, fun q6 => ⟨⟨by omega, Or.inl rfl⟩, by omega, skip false ⟨fun z => (by cases z), fun z => (by have := z.2 (qb_0.mp q5); rw [this] at q6; exact absurd rfl q6)⟩ (by omega) _ ⟨qmf_trans f3 (qmf_qu rfl), fun w hw => by rw [qu_ne (by omega)]; exact i1 w hw, qu_at⟩⟩⟩
          have := inner (b + 1) (by omega) (by omega) cl (by
            rw [hcl]
            constructor
            · intro q5 x y' x1 x2 x3 x4 x5
              exact q5 x y' x1 x2 (by omega) x4 x5
            · intro q5 x y' x1 x2 x3 x4 x5
              exact q5 x y' x1 x2 (Or.inl x3) x4 x5) h3 ⟨f3, i1, i2⟩
          exact this
        · rw [hcl]
          constructor
          · intro q5 x y' x1 x2 x3 x4 x5
            refine q5 x y' x1 x2 ?_ x4 x5
            by_cases e : x = b
            · rw [e, qb_0.mp q3] at x4; cases x4
            · omega
          · intro q5 x y' x1 x2 x3 x4 x5
            exact q5 x y' x1 x2 (by omega) x4 x5
    exact pairs 0 (Nat.zero_le _) true ⟨fun _ x y _ _ x3 => absurd x3 (Nat.not_lt_zero _), fun _ => rfl⟩ _ ⟨qmf_trans hI.1 (qmf_qu rfl), fun w hw => by rw [qu_ne (by omega)]; exact hI.2 w hw, qu_at⟩
  exact key 0 (Nat.zero_le _) h1 ⟨qmf_refl _ _, fun w hw => absurd hw (Nat.not_lt_zero _)⟩
theorem m_above (hL : qhL g) (M : qmd h n S) (k : ∀ h', qmf [1039, 1040, 67, 68] h h' → Q (qon n S s (-1) (fun S => if qgn S ≤ 8 then (qabn S : Int) else -2)) h') : q_tr l g (d + 4) n_X12_above [qr 12 0, qi s] h Q := by
  refine i_X12_above hL (fun G hG hw _ => b_X12_above_0 hG (m_isSet hL M (hw (qi s) (by simp)) (q_no (fun e => q_qe (k h (qmf_refl _ _)) (by rw [qon_out e])) (fun j e hj => ?_))))
  subst e
  obtain ⟨V, R⟩ := M.2.2 j hj
  have h6 := M.2.1
  rw [qon_in hj] at k
  rw [q_4j]
  refine ⟨by omega, m_genus hL (Or.inl ⟨rfl, by omega⟩) R (qm6_1 V.1) ⟨fun q => ⟨by omega, ?_⟩, fun q => q_qe (k h (qmf_refl _ _)) (by rw [if_neg (by omega)])⟩⟩
  have hg : qgn (S j) ≤ 8 := by omega
  rw [if_pos hg] at k
  refine m_laysAbove hL (by omega) R V.1 hg (fun h1 f1 P1 A => ?_)
  have h256 := q2g hg
  have hcl := qc_le (fun m => qclp (qab (S j) m))
  have key : ∀ m, m ≤ 2 ^ qgn (S j) → G 39 [some (qr 12 0), none, some (qi (qc (fun m => qclp (qab (S j) m)) m : Nat)), some (qi (m : Int))] [] h1 := by
    refine q_up (fun m hm ih => b_X12_above_39 hG ?_)
    rw [P1.1, q_shl1 hg]
    refine ⟨fun q2 => q_qe (k h1 f1) (by unfold qabn; rw [show m = 2 ^ qgn (S j) by omega]), fun q2 => ⟨by omega, ?_⟩⟩
    have ih := ih (by omega)
    have := hcl m
    rw [A m (by omega)]
    refine ⟨fun q3 => ⟨by omega, ?_⟩, fun q3 => ⟨by omega, by omega, ?_⟩⟩
    · rw [qc_f (p := fun m => qclp (qab (S j) m)) (qb_0.mp q3)] at ih; exact ih
    · rw [qc_t (p := fun m => qclp (qab (S j) m)) (qb_n0.mp q3)] at ih; exact ih
  exact key 0 (Nat.zero_le _)
theorem m_isLone {m : Nat} (hL : qhL g) (ha : a ≤ 20) (R : qmr h 54 a T) (V : QV1 T) (hg : qgn T ≤ 8) (P : qmp h a T) (hm : m < 2 ^ qgn T) (hc : qclp (qab T m) = true) (k : Q (qb (qln T m)) h) : q_tr l g (d + 3) n_X12_isLone [qr 12 0, qi m] h Q := by
  refine i_X12_isLone hL (fun G hG _ _ => b_X12_isLone_0 hG ?_)
  have U := qab_v1 V hg hc
  have h16 := qab_16 V hg m
  have htb := qtop_bd U
  have pairs : ∀ t : Int, t = qtop (qab T m) → G 35 [some (qr 12 0), some (qi m), some (qi t), some (qi 0)] [] h := by
    intro t ht
    rcases Int.lt_or_le t 0 with q0 | q0
    · refine b_X12_isLone_35 hG ⟨fun q => ⟨Or.inr rfl, q_qe k ?_⟩, fun q => by omega⟩
      unfold qln qlone
      rw [qgn_m1 U (by omega), ← ht, decide_eq_true (Or.inl (by omega))]; rfl
    · obtain ⟨u, rfl⟩ := Int.eq_ofNat_of_zero_le q0
      have htn := qtop_not (S := qab T m) (by omega)
      rw [← ht, Int.toNat_natCast] at htn
      have hgt := qgn_top U (by omega)
      rw [← ht, Int.toNat_natCast] at hgt
      have hp := qpair_iff U.2.1 htn
      rw [← hgt] at hp
      have hu0 : u ≠ 0 := fun q => by rw [q, U.1] at htn; cases htn
      have u16 : u < 16 := by
        rcases Nat.lt_or_ge u 16 with c | c
        · exact c
        · rw [h16 u c] at htn; cases htn
      have hln : qln T m = true ↔ qpair (qab T m) u := by
        unfold qln qlone
        rw [decide_eq_true_eq, hp, ← ht]
        omega
      have key : ∀ w, w ≤ u + 1 → (∀ x, x < w → 2 * x ≠ u → qab T m x ≠ qab T m (u - x)) → G 35 [some (qr 12 0), some (qi m), some (qi (u : Int)), some (qi (w : Int))] [] h := by
        refine q_up (fun w hw ih hI => b_X12_isLone_35 hG ⟨fun q => ⟨Or.inr rfl, q_qe k ?_⟩, fun q => ⟨by omega, fun q2 => ⟨by omega, ih (by omega) (fun x x1 x2 => hI x (by omega) x2)⟩, fun q2 => m_isWith hL ha R V hg P ⟨by omega, m_isWith hL ha R V hg P ?_⟩⟩⟩)
        · rw [hln.mpr (fun x hx => hI x (by omega))]; rfl
        · rw [show (u : Int) - (w : Int) = ((u - w : Nat) : Int) by omega, qin_nat, qin_nat]
          refine ⟨fun q3 => ⟨by omega, ih (by omega) (fun x x1 x2 => ?_)⟩, fun q3 => ⟨Or.inl rfl, q_qe k ?_⟩⟩
          · by_cases e : x = w
            · subst e; intro z; exact q3 (by rw [z])
            · exact hI x (by omega) x2
          · cases c : qln T m with
            | false => rfl
            | true =>
              exfalso
              refine hln.mp c w (by omega) (by omega) ?_
              revert q3
              cases qab T m w <;> cases qab T m (u - w) <;> simp [qb]
      exact key 0 (by omega) (fun x hx => absurd hx (Nat.not_lt_zero _))
  have key : ∀ w, w ≤ qgn T → ∀ t : Int, ((t = -1 ∧ ∀ j, j < w → qbt m j = true) ∨ ∃ j, j < w ∧ t = qgp T j ∧ qbt m j = false ∧ ∀ j', j < j' → j' < w → qbt m j' = true) → G 4 [some (qr 12 0), some (qi m), some (qi t), some (qi (w : Int))] [] h := by
    refine q_up (fun w hw ih t ht => b_X12_isLone_4 hG ?_)
    rw [P.1]
    refine ⟨fun q => pairs t ?_, fun q => ?_⟩
    · have ew : w = qgn T := by omega
      subst ew
      rcases ht with ⟨t1, t2⟩ | ⟨j, j1, j2, j3, j4⟩
      · have := qtop_is (S := qab T m) (c := 0) (by omega) (fun y _ => by
          cases e : qab T m y with
          | true => rfl
          | false =>
            have hy : y < 400 := by
              rcases Nat.lt_or_ge y 400 with c | c
              · exact c
              · rw [h16 y (by omega)] at e; cases e
            obtain ⟨j, j1, j2, j3⟩ := qab_gaps e hy
            rw [t2 j j1] at j3; cases j3) (Or.inl rfl)
        omega
      · have g1 := (qgp_ok j1)
        have := qtop_is (S := qab T m) (c := qgp T j + 1) (by omega) (fun y hy => by
          cases e : qab T m y with
          | true => rfl
          | false =>
            have hy4 : y < 400 := by
              rcases Nat.lt_or_ge y 400 with c | c
              · exact c
              · rw [h16 y (by omega)] at e; cases e
            obtain ⟨j', k1, k2, k3⟩ := qab_gaps e hy4
            rcases Nat.lt_trichotomy j j' with c | c | c
            · rw [j4 j' c k1] at k3; cases k3
            · rw [c] at hy; omega
            · have := qgp_lt c j1; omega) (Or.inr (by rw [Nat.add_sub_cancel, qab_gap j1]; exact j3))
        omega
    · rw [q_bit (by omega)]
      refine ⟨fun q2 => ⟨by omega, ih (by omega) t ?_⟩, fun q2 => ⟨by omega, by omega, ?_⟩⟩
      · have hb := qb_n0.mp q2
        rcases ht with ⟨t1, t2⟩ | ⟨j, j1, j2, j3, j4⟩
        · refine Or.inl ⟨t1, fun j hj => ?_⟩
          by_cases c : j = w
          · rw [c]; exact hb
          · exact t2 j (by omega)
        · refine Or.inr ⟨j, by omega, j2, j3, fun j' a b => ?_⟩
          by_cases c : j' = w
          · rw [c]; exact hb
          · exact j4 j' a (by omega)
      · rw [P.2.2 w (by omega)]
        exact ih (by omega) _ (Or.inr ⟨w, by omega, rfl, qb_0.mp q2, fun j' a b => by omega⟩)
  exact key 0 (Nat.zero_le _) (-1) (Or.inl ⟨rfl, fun j hj => absurd hj (Nat.not_lt_zero _)⟩)
theorem m_nextPick {c m : Nat} {P : Nat → Nat} (hL : qhL g) (hc : h 12 0 44 = c) (hc2 : c ≤ 256) (hm : 1 ≤ m ∧ m ≤ 8) (hmc : m ≤ c) (A : ∀ i : Nat, i < m → h 71 0 i = P i) (hP : qfi c 0 m P)
    (k1 : ∀ h' P2, qmf [71] h h' → (∀ i : Nat, i < m → h' 71 0 i = (P2 i : Nat)) → qfl m P P2 → qfi c 0 m P2 → (∀ P', qfi c 0 m P' → qfl m P' P2 → (∀ i, i < m → P' i = P i) ∨ qfl m P' P) → Q 1 h')
    (k0 : (∀ P', qfi c 0 m P' → (∀ i, i < m → P' i = P i) ∨ qfl m P' P) → Q 0 h) : q_tr l g (d + 1) n_X12_nextPick [qr 12 0, qi m] h Q := by
  refine i_X12_nextPick hL (fun G hG _ _ => b_X12_nextPick_0 hG ⟨by omega, ?_⟩)
  have key : ∀ w, w ≤ m → (∀ j, w ≤ j → j < m → c - m + j ≤ P j) → G 4 [some (qr 12 0), some (qi m), some (qi ((w : Int) - 1)), none] [] h := by
    intro w
    induction w with
    | zero =>
      intro _ hI
      exact b_X12_nextPick_4 hG ⟨fun _ => ⟨Or.inl rfl, k0 (qnxp_no (fun j hj => hI j (Nat.zero_le _) hj))⟩, fun q => by omega⟩
    | succ w ih =>
      intro hw hI
      refine b_X12_nextPick_4 hG ⟨fun q => by omega, fun _ => ?_⟩
      rw [show ((w + 1 : Nat) : Int) - 1 = (w : Int) by omega, hc, A w (by omega)]
      have hb := (hP.1 w (by omega)).2
      refine ⟨by omega, by omega, by omega, fun q => ⟨by omega, by omega, by omega, by omega, ?_⟩, fun q => ⟨by omega, ?_⟩⟩
      · obtain ⟨n1, n2⟩ := qnxp_ok hP hmc (k := w) (by omega) (by omega) (fun j j1 j2 => hI j (by omega) j2)
        have up : ∀ i, i ≤ m → w < i → ∀ h1, (qmf [71] h h1 ∧ ∀ j : Nat, j < m → h1 71 0 j = if j < i then (qnxp P w j : Int) else P j) → G 42 [some (qr 12 0), some (qi m), none, some (qi (i : Int))] [] h1 := by
          refine q_up (fun i hi ihi hwi h1 hI1 => b_X12_nextPick_42 hG ⟨fun q2 => ⟨Or.inr rfl, k1 h1 (qnxp P w) hI1.1 (fun j hj => by rw [hI1.2 j hj, if_pos (by omega)]) ⟨w, by omega, fun j hj => by unfold qnxp; rw [if_pos hj], by unfold qnxp; rw [if_neg (Nat.lt_irrefl w)]; omega⟩ n1 n2⟩, fun q2 => ?_⟩)
          obtain ⟨f1, B⟩ := hI1
          have e1 := B (i - 1) (by omega)
          rw [if_pos (by omega)] at e1
          have b1 := (n1.1 (i - 1) (by omega)).2
          rw [show (i : Int) - 1 = ((i - 1 : Nat) : Int) by omega, e1]
          refine ⟨by omega, by omega, by omega, by omega, by omega, ihi (by omega) (by omega) _ ⟨qmf_trans f1 (qmf_qu rfl), fun j hj => ?_⟩⟩
          by_cases e : j = i
          · subst e
            rw [qu_at, if_pos (by omega)]
            unfold qnxp
            rw [if_neg (by omega), if_neg (by omega)]
            omega
          · rw [qu_ne (by omega), B j hj]
            by_cases e2 : j < i
            · rw [if_pos e2, if_pos (by omega)]
            · rw [if_neg e2, if_neg (by omega)]
        refine up (w + 1) (by omega) (by omega) _ ⟨qmf_qu rfl, fun j hj => ?_⟩
        by_cases e : j = w
        · subst e
          rw [qu_at, if_pos (by omega)]
          unfold qnxp
          rw [if_neg (by omega)]
          omega
        · rw [qu_ne (by omega), A j hj]
          by_cases e2 : j < w + 1
          · rw [if_pos e2]
            unfold qnxp
            rw [if_pos (by omega)]
          · rw [if_neg e2]
      · rw [show (w : Int) + -1 = (w : Int) - 1 by omega]
        exact ih (by omega) (fun j j1 j2 => by
          by_cases e : j = w
          · subst e; omega
          · exact hI j (by omega) j2)
  exact key m (Nat.le_refl _) (fun j j1 j2 => by omega)
theorem qfa_m1 {ln P : Nat → Nat} {gg m : Nat} (hg : gg ≤ 8) (hm : 1 ≤ m) (hl : ∀ i, i < m → ln (P i) < 2 ^ gg) : qfa ln P (-1) m = qfa ln P (((2 ^ gg : Nat) : Int) - 1) m := by
  have h2 := q2g hg
  have hp0 : 0 < 2 ^ gg := Nat.two_pow_pos _
  refine qbt_ext (qfa_rg (by unfold q_i32; omega) m) (qfa_rg (q_i32_256 (by omega) (by omega)) m) (fun k hk => ?_)
  rw [qfa_bit hk, qfa_bit hk, qbt_neg1, Int.natCast_pow]
  have e : qbt ((2 : Nat) ^ gg - 1 : Int) k = decide (k < gg) := qbt_ones
  by_cases c : k < gg
  · rw [show qbt (((2 : Nat) : Int) ^ gg - 1) k = decide (k < gg) from e, decide_eq_true c]
  · have hb : qex (fun i => !(qbt (ln (P i) : Int) k)) m = true := qex_iff.mpr ⟨0, by omega, by
      rw [qbt_small (Nat.lt_of_lt_of_le (hl 0 (by omega)) (Nat.pow_le_pow_right (by omega) (by omega)))]; rfl⟩
    rw [hb]; simp
/-- a row of picks as a number -/
def qfv (c : Nat) (P : Nat → Nat) : Nat → Nat
  | 0 => 0
  | m + 1 => qfv c P m * (c + 1) + P m
theorem qfv_lt {c : Nat} {P : Nat → Nat} : ∀ {m}, (∀ i, i < m → P i ≤ c) → qfv c P m < (c + 1) ^ m
  | 0, _ => by show 0 < (c + 1) ^ 0; rw [Nat.pow_zero]; omega
  | m + 1, h => by
    have ih := qfv_lt (c := c) (P := P) (m := m) (fun i hi => h i (by omega))
    have := h m (by omega)
    show qfv c P m * (c + 1) + P m < (c + 1) ^ (m + 1)
    rw [Nat.pow_succ]
    have : (qfv c P m + 1) * (c + 1) ≤ (c + 1) ^ m * (c + 1) := Nat.mul_le_mul_right _ ih
    rw [Nat.add_mul, Nat.one_mul] at this
    omega
theorem qfv_eq {c : Nat} {P P' : Nat → Nat} : ∀ {m}, (∀ i, i < m → P i = P' i) → qfv c P m = qfv c P' m
  | 0, _ => rfl
  | m + 1, h => by
    show qfv c P m * (c + 1) + P m = qfv c P' m * (c + 1) + P' m
    rw [qfv_eq (fun i hi => h i (by omega)), h m (by omega)]
theorem qfv_mono {c : Nat} {P P' : Nat → Nat} : ∀ {m}, (∀ i, i < m → P i ≤ c) → qfl m P P' → qfv c P m < qfv c P' m
  | 0, _, ⟨i, hi, _⟩ => absurd hi (Nat.not_lt_zero _)
  | m + 1, h, ⟨i, i1, i2, i3⟩ => by
    show qfv c P m * (c + 1) + P m < qfv c P' m * (c + 1) + P' m
    have hm := h m (by omega)
    by_cases e : i = m
    · subst e
      rw [qfv_eq (c := c) i2]; omega
    · have := qfv_mono (c := c) (P := P) (P' := P') (m := m) (fun i hi => h i (by omega)) ⟨i, by omega, i2, i3⟩
      have : (qfv c P m + 1) * (c + 1) ≤ qfv c P' m * (c + 1) := Nat.mul_le_mul_right _ this
      rw [Nat.add_mul, Nat.one_mul] at this
      omega
theorem m_areEnough {c m gg : Nat} {ln : Nat → Nat} (hL : qhL g) (hc : h 12 0 44 = c) (hc2 : c ≤ 256) (hg : gg ≤ 8) (hm : 1 ≤ m ∧ m ≤ 8) (hl : ∀ j : Nat, j < c → h 70 0 j = ln j ∧ ln j < 2 ^ gg)
    (k1 : ∀ h' P, qmf [71] h h' → (∀ i : Nat, i < m → h' 71 0 i = (P i : Nat)) → qfirst1 ln c 0 m (((2 ^ gg : Nat) : Int) - 1) P → Q 1 h')
    (k0 : ∀ h', qmf [71] h h' → (∀ P, qfi c 0 m P → qfa ln P (((2 ^ gg : Nat) : Int) - 1) m ≠ 0) → Q 0 h') : q_tr l g (d + 2) n_X12_areEnough [qr 12 0, qi m] h Q := by
  refine i_X12_areEnough hL (fun G hG _ _ => b_X12_areEnough_0 hG ?_)
  rw [hc]
  refine ⟨fun q => ?_, fun q => ⟨Or.inl rfl, k0 h (qmf_refl _ _) (fun P hP => ?_)⟩⟩
  · have hmc : m ≤ c := by omega
    have rows : ∀ f P, (c + 1) ^ m - qfv c P m < f → qfi c 0 m P → (∀ P', qfi c 0 m P' → qfl m P' P → qfa ln P' (((2 ^ gg : Nat) : Int) - 1) m ≠ 0) → ∀ h1, (qmf [71] h h1 ∧ ∀ i : Nat, i < m → h1 71 0 i = (P i : Nat)) → G 30 [some (qr 12 0), some (qi m), none, none] [] h1 := by
      intro f
      induction f with
      | zero => intro P hf; exact absurd hf (Nat.not_lt_zero _)
      | succ f ih =>
        intro P hf hP hI h1 hI1
        obtain ⟨f1, A⟩ := hI1
        have e44 : h1 12 0 44 = c := by rw [f1 12 0 44 rfl]; exact hc
        have eq1 := qfa_m1 (ln := ln) (P := P) hg hm.1 (fun i hi => (hl (P i) (hP.1 i hi).2).2)
        have and : ∀ w, w ≤ m → G 34 [some (qr 12 0), some (qi m), some (qi (qfa ln P (-1) w)), some (qi (w : Int))] [] h1 := by
          refine q_up (fun w hw ihw => b_X12_areEnough_34 hG ⟨fun q2 => ?_, fun q2 => ?_⟩)
          · rw [show w = m by omega, eq1]
            refine ⟨fun q3 => m_nextPick hL e44 hc2 hm hmc A hP (fun h2 P2 f2 B l1 i1 l2 => ?_) (fun no => ?_), fun q3 => ⟨Or.inr rfl, k1 h1 P f1 A ⟨hP, q3, hI⟩⟩⟩
            · refine ⟨fun _ => ih P2 ?_ i1 (fun P' hP' hl' => ?_) h2 ⟨qmf_trans f1 f2, B⟩, fun q4 => absurd q4 (by decide)⟩
              · have a1 := qfv_mono (c := c) (fun i hi => by have := (hP.1 i hi).2; omega) l1
                have a2 := qfv_lt (c := c) (P := P2) (m := m) (fun i hi => by have := (i1.1 i hi).2; omega)
                omega
              · rcases l2 P' hP' hl' with z | z
                · rw [qfa_cong (P' := P) z]; exact q3
                · exact hI P' hP' z
            · refine ⟨fun q4 => absurd rfl q4, fun _ => ⟨Or.inl rfl, k0 h1 f1 (fun P' hP' => ?_)⟩⟩
              rcases no P' hP' with z | z
              · rw [qfa_cong (P' := P) z]; exact q3
              · exact hI P' hP' z
          · rw [A w (by omega)]
            have hb := (hP.1 w (by omega)).2
            refine ⟨by omega, by omega, by omega, ?_⟩
            rw [f1 70 0 _ rfl, (hl (P w) hb).1]
            exact ihw (by omega)
        exact b_X12_areEnough_30 hG (and 0 (Nat.zero_le _))
    have fill : ∀ w, w ≤ m → ∀ h1, (qmf [71] h h1 ∧ ∀ i : Nat, i < w → h1 71 0 i = (i : Nat)) → G 12 [some (qr 12 0), some (qi m), some (qi (w : Int)), none] [] h1 := by
      refine q_up (fun w hw ih h1 hI => b_X12_areEnough_12 hG ⟨fun q2 => rows ((c + 1) ^ m - qfv c (fun i => i) m + 1) (fun i => i) (by omega) ⟨fun i hi => ⟨Nat.zero_le _, by show i < c; omega⟩, fun i j hij _ => hij⟩ (fun P' hP' hl' => ?_) h1 ⟨hI.1, fun i hi => hI.2 i (by omega)⟩, fun q2 => ⟨by omega, by omega, ih (by omega) _ ⟨qmf_trans hI.1 (qmf_qu rfl), fun i hi => ?_⟩⟩⟩)
      · exfalso
        obtain ⟨i, i1, i2, i3⟩ := hl'
        have := qfi_gap hP' i 0 (Nat.zero_le _) i1
        have i3 : P' i < i := i3
        omega
      · by_cases e : i = w
        · subst e; rw [qu_at]
        · rw [qu_ne (by omega)]; exact hI.2 i (by omega)
    exact fill 0 (Nat.zero_le _) h ⟨qmf_refl _ _, fun i hi => absurd hi (Nat.not_lt_zero _)⟩
  · have a := qfi_gap hP (m - 1) 0 (Nat.zero_le _) (by omega)
    have b := (hP.1 (m - 1) (by omega)).2
    omega
theorem m_piece {i : Int} (hL : qhL g) (M : qmd h n S) (k : ∀ h', qmf [1039, 1040, 67, 68, 1044, 70, 71] h h' → Q (qon n S s (-1) (fun S => if qgn S ≤ 8 then qlpick (qpcs S 8 1) i else -2)) h') : q_tr l g (d + 4) n_X12_piece [qr 12 0, qi s, qi i] h Q := by
  refine i_X12_piece hL (fun G hG hw _ => b_X12_piece_0 hG (m_isSet hL M (hw (qi s) (by simp)) (q_no (fun e => q_qe (k h (qmf_refl _ _)) (by rw [qon_out e])) (fun j e hj => ?_))))
  subst e
  obtain ⟨V, R⟩ := M.2.2 j hj
  have h6 := M.2.1
  rw [qon_in hj] at k
  rw [q_4j]
  refine ⟨by omega, m_genus hL (Or.inl ⟨rfl, by omega⟩) R (qm6_1 V.1) ⟨fun q => ⟨by omega, ?_⟩, fun q => q_qe (k h (qmf_refl _ _)) (by rw [if_neg (by omega)])⟩⟩
  have hg : qgn (S j) ≤ 8 := by omega
  rw [if_pos hg] at k
  have ha : 4 * j ≤ 20 := by omega
  generalize S j = T at *
  refine m_laysAbove hL ha R V.1 hg (fun h1 f1 P1 A1 => ?_)
  have h256 := q2g hg
  have hp0 : 0 < 2 ^ qgn T := Nat.two_pow_pos _
  have hcl := qc_le (qlnp T)
  have hc256 : qlnc T ≤ 256 := by have := hcl (2 ^ qgn T); unfold qlnc; omega
  have kk : ∀ h2, qmf [1044, 70, 71] h1 h2 → Q (qlpick (qpcs T 8 1) i) h2 := fun h2 f2 => k h2 (qmf_trans (qmf_mono f1 rfl) (qmf_mono f2 rfl))
  -- size by size
  have sizes : ∀ fl sz h2, sz + fl = 9 → 1 ≤ sz → qmf [1044, 70, 71] h1 h2 → h2 12 0 44 = qlnc T → (∀ t : Nat, t < qlnc T → h2 70 0 t = (qlnk T t : Nat) ∧ qlnk T t < 2 ^ qgn T) → qpcs T 8 1 = qpcs T fl sz → (∀ m P, 1 ≤ m → m < sz → qfi (qlnc T) 0 m P → qfa (qlnk T) P (((2 ^ qgn T : Nat) : Int) - 1) m ≠ 0) → G 100 [some (qr 12 0), none, some (qi i), some (qi (sz : Int))] [] h2 := by
    intro fl
    induction fl with
    | zero =>
      intro sz h2 e hs f2 c44 c70 he no
      obtain ⟨m, P, m1, m2, m3, m4⟩ := qpcs_ex V.1 hg
      exact absurd m4 (no m P m1 (by omega) m3)
    | succ fl ih =>
      intro sz h2 e hs f2 c44 c70 he no
      refine b_X12_piece_100 hG ⟨fun q => by omega, fun _ => m_areEnough hL c44 hc256 hg ⟨hs, by omega⟩ c70 (fun h3 P f3 A F => ?_) (fun h3 f3 no2 => ?_)⟩
      · have f4 := qmf_trans f2 (qmf_mono f3 rfl)
        refine ⟨fun _ => ?_, fun q => absurd q (by decide)⟩
        have sp := qch_spec (ln := qlnk T) (c := qlnc T) sz 0 (((2 ^ qgn T : Nat) : Int) - 1)
        have es : qpcs T (fl + 1) sz = match qch (qlnk T) (qlnc T) sz 0 (((2 ^ qgn T : Nat) : Int) - 1) with
          | some w => w
          | none => qpcs T fl (sz + 1) := rfl
        rw [es] at he
        cases hq : qch (qlnk T) (qlnc T) sz 0 (((2 ^ qgn T : Nat) : Int) - 1) with
        | none => exact absurd F.2.1 (sp.2 hq P F.1)
        | some w =>
          rw [hq] at he
          obtain ⟨P', F', w1⟩ := sp.1 w hq
          have hPP := qfirst1_one F' F
          have hlen := qch_len _ _ _ _ hq
          have k3 := kk h3 f4
          rw [he] at k3
          unfold qlpick at k3
          rw [hlen] at k3
          refine ⟨fun q2 => ⟨by omega, m_in hL (q_dc (fun e2 => q_qe k3 (by rw [if_neg q2, if_neg (by omega)])) (fun e2 => ?_))⟩, fun q2 => q_qe k3 (by rw [if_pos q2])⟩
          obtain ⟨t, rfl⟩ := Int.eq_ofNat_of_zero_le e2.1
          have ht : t < sz := by omega
          have hb := (F.1.1 t ht).2
          rw [A t ht]
          refine ⟨by omega, by omega, q_qe k3 ?_⟩
          rw [if_neg q2, if_pos (by omega), Int.toNat_natCast, w1 t ht, hPP t ht, f3 70 0 _ rfl, (c70 _ hb).1]
      · have f4 := qmf_trans f2 (qmf_mono f3 rfl)
        refine ⟨fun q => absurd rfl q, fun _ => ⟨by omega, ih (sz + 1) h3 (by omega) (by omega) f4 (by rw [f3 12 0 44 rfl]; exact c44) (fun t ht => by rw [f3 70 0 _ rfl]; exact c70 t ht) ?_ (fun m P m1 m2 m3 => ?_)⟩⟩
        · have sp := qch_spec (ln := qlnk T) (c := qlnc T) sz 0 (((2 ^ qgn T : Nat) : Int) - 1)
          have es : qpcs T (fl + 1) sz = match qch (qlnk T) (qlnc T) sz 0 (((2 ^ qgn T : Nat) : Int) - 1) with
            | some w => w
            | none => qpcs T fl (sz + 1) := rfl
          rw [he, es]
          cases hq : qch (qlnk T) (qlnc T) sz 0 (((2 ^ qgn T : Nat) : Int) - 1) with
          | none => rfl
          | some w =>
            obtain ⟨P', F', w1⟩ := sp.1 w hq
            exact absurd F'.2.1 (no2 P' F'.1)
        · by_cases e2 : m = sz
          · subst e2; exact no2 P m3
          · exact no m P m1 (by omega) m3
  have rows : ∀ w, w ≤ 2 ^ qgn T → ∀ h2, (qmf [1044, 70, 71] h1 h2 ∧ h2 12 0 44 = (qc (qlnp T) w : Nat) ∧ ∀ x : Nat, x < w → qlnp T x = true → h2 70 0 (qc (qlnp T) x) = x) → G 42 [some (qr 12 0), none, some (qi i), some (qi (w : Int))] [] h2 := by
    refine q_up (fun w hw ih h2 hI => b_X12_piece_42 hG ?_)
    obtain ⟨f2, c44, c70⟩ := hI
    have P2 := qmp_f P1 f2 rfl
    rw [P2.1, q_shl1 hg]
    refine ⟨fun q2 => ?_, fun q2 => ⟨by omega, ?_⟩⟩
    · have ew : w = 2 ^ qgn T := by omega
      subst ew
      refine sizes 8 1 h2 rfl (by omega) f2 c44 (fun t ht => ?_) rfl (fun m P m1 m2 => by omega)
      obtain ⟨x, x1, x2, x3, x4⟩ := qlnk_of ht
      have := c70 x x1 x2
      rw [x3] at this
      rw [x4]; exact ⟨this, x1⟩
    · have hwl : w < 2 ^ qgn T := by omega
      have hcn := hcl w
      rw [f2 68 0 _ rfl, A1 w hwl]
      have skip : qlnp T w = false → (-2147483648 ≤ (w : Int) + 1 ∧ (w : Int) + 1 ≤ 2147483647) ∧ G 42 [some (qr 12 0), none, some (qi i), some (qi ((w : Int) + 1))] [] h2 := fun e => ⟨by omega, ih hwl h2 ⟨f2, by rw [qc_f e]; exact c44, fun x x1 x2 => c70 x (by
        by_cases z : x = w
        · rw [z, e] at x2; cases x2
        · omega) x2⟩⟩
      refine ⟨fun q3 => skip (by unfold qlnp; rw [qb_0.mp q3]; rfl), fun q3 => m_isLone hL ha (qmr_f (qmr_f R ha f1 rfl) ha f2 rfl) V.1 hg P2 hwl (qb_n0.mp q3) ⟨fun q4 => ?_, fun q4 => skip (by unfold qlnp; rw [qb_0.mp q4, Bool.and_false])⟩⟩
      have hp : qlnp T w = true := by unfold qlnp; rw [qb_n0.mp q3, qb_n0.mp q4]; rfl
      rw [c44]
      rw [qu_ne (by omega), c44]
      refine ⟨by omega, by omega, by omega, ih hwl _ ⟨qmf_trans f2 (qmf_trans (qmf_qu rfl) (qmf_qu rfl)), ?_, fun x x1 x2 => ?_⟩⟩
      · rw [qu_at, qc_t hp]; omega
      · rw [qu_ne (by omega)]
        by_cases z : x = w
        · subst z; rw [qu_at]
        · rw [qu_ne (by have := qc_lt (p := qlnp T) (show x < w by omega) x2; omega)]
          exact c70 x (by omega) x2
  exact rows 0 (Nat.zero_le _) _ ⟨qmf_qu rfl, qu_at, fun x hx => absurd hx (Nat.not_lt_zero _)⟩
/-- one bit more -/
def qset1 (gg z k : Nat) : Nat := qnb (fun j => qbt z j || j == k) gg
theorem qset1_ok {gg z k : Nat} (hg : gg ≤ 8) (hz : z < 2 ^ gg) (hk : k < gg) : q_or (z : Int) (q_shl 1 (k : Int)) = (qset1 gg z k : Nat) ∧ qset1 gg z k < 2 ^ gg ∧ ∀ j, j < gg → qbt (qset1 gg z k : Int) j = (qbt z j || j == k) := by
  have h2 := q2g hg
  have hb : qbs (z : Int) (fun j => qbt z j) := ⟨q_i32_256 (by omega) (by omega), fun _ _ => rfl⟩
  refine ⟨qnb_of hg (qbs_cong (qbs_set hb (by omega)) (fun j _ => ?_)), qnb_lt _ _, fun j hj => ?_⟩
  · by_cases c : j < gg
    · rw [decide_eq_true c, Bool.true_and]
    · rw [decide_eq_false c, Bool.false_and, qbt_small (Nat.lt_of_lt_of_le hz (Nat.pow_le_pow_right (by omega) (by omega))), beq_eq_false_iff_ne.mpr (by omega)]; rfl
  · unfold qset1
    rw [qnb_bit, decide_eq_true hj, Bool.true_and]
/-- no more than has to be -/
def qmin1 (T : QZ) (m k z : Nat) : Prop := ∀ C : Nat → Prop, (∀ x y, C x → C y → C (x + y)) → (∀ x, T x = true → C x) → (∀ j, j < qgn T → qbt m j = true → C (qgp T j)) → C (qgp T k) → ∀ j, j < qgn T → qbt z j = true → C (qgp T j)
theorem m_namedWith {m kk : Nat} (hL : qhL g) (ha : a ≤ 20) (R : qmr h 54 a T) (V : QV1 T) (hg : qgn T ≤ 8) (P : qmp h a T) (hm : m < 2 ^ qgn T) (hk : kk < qgn T) (hb : qbt m kk = false)
    (k : ∀ z : Nat, z < 2 ^ qgn T → m < z → (∀ j, j < qgn T → qbt m j = true → qbt z j = true) → qbt z kk = true → qfix T z → qmin1 T m kk z → Q z h) : q_tr l g (d + 3) n_X12_namedWith [qr 12 0, qi m, qi kk] h Q := by
  refine i_X12_namedWith hL (fun G hG _ _ => b_X12_namedWith_0 hG ?_)
  have h256 := q2g hg
  obtain ⟨s1, s2, s3⟩ := qset1_ok hg hm hk
  rw [s1]
  have fin : ∀ z : Nat, z < 2 ^ qgn T → (∀ j, j < qgn T → qbt m j = true → qbt z j = true) → qbt z kk = true → qfix T z → qmin1 T m kk z → Q z h := fun z z1 z2 z3 z4 z5 => k z z1 (by
    have hle := qbt_more (qgn T) hm z1 z2
    rcases Nat.lt_or_ge m z with c | c
    · exact c
    · rw [show z = m by omega, hb] at z3; cases z3) z2 z3 z4 z5
  have round : ∀ f A : Nat, 2 ^ qgn T - A < f → A < 2 ^ qgn T → (∀ j, j < qgn T → qbt m j = true → qbt A j = true) → qbt A kk = true → qmin1 T m kk A → ∀ B : Nat, A ≠ B → G 9 [some (qr 12 0), none, none, some (qi (A : Nat)), some (qi (B : Nat)), none, none] [] h := by
    intro f
    induction f with
    | zero => intro A hf; exact absurd hf (Nat.not_lt_zero _)
    | succ f ih =>
      intro A hf A1 A2 A3 A4 B hAB
      refine b_X12_namedWith_9 hG ⟨fun q => absurd (by omega) hAB, fun _ => ?_⟩
      -- what the pairs give
      have outer : ∀ x, x ≤ qgn T → ∀ A' : Nat, A' < 2 ^ qgn T → (∀ j, j < qgn T → qbt A j = true → qbt A' j = true) → qmin1 T m kk A' → (∀ x' y', x' < y' → y' < qgn T → x' < x → qbt A x' = true → qab T A (qgp T y' - qgp T x') = true → qbt A' y' = true) → G 21 [some (qr 12 0), none, none, some (qi (A' : Nat)), some (qi (A : Nat)), some (qi (x : Int)), none] [] h := by
        refine q_up (fun x hx ihx A' B1 B2 B3 B4 => b_X12_namedWith_21 hG ?_)
        rw [P.1]
        refine ⟨fun q => ?_, fun q => ?_⟩
        · by_cases e : A' = A
          · refine b_X12_namedWith_9 hG ⟨fun _ => fin A' B1 (fun j hj hb => B2 j hj (A2 j hj hb)) (B2 kk hk A3) (fun x' y' x1 x2 x3 x4 => ?_) B3, fun q2 => absurd (by rw [e]) q2⟩
            rw [e] at x3 x4
            exact B4 x' y' x1 x2 (by omega) x3 x4
          · have hle := qbt_more (qgn T) A1 B1 B2
            exact ih A' (by omega) B1 (fun j hj hb => B2 j hj (A2 j hj hb)) (B2 kk hk A3) B3 A e
        · rw [q_bit (by omega)]
          refine ⟨fun q2 => ⟨by omega, ?_⟩, fun q2 => ⟨by omega, ihx (by omega) A' B1 B2 B3 (fun x' y' x1 x2 x3 x4 x5 => ?_)⟩⟩
          · have hbx := qb_n0.mp q2
            have inner : ∀ y, y ≤ qgn T → x < y → ∀ A' : Nat, A' < 2 ^ qgn T → (∀ j, j < qgn T → qbt A j = true → qbt A' j = true) → qmin1 T m kk A' → (∀ x' y', x' < y' → y' < qgn T → (x' < x ∨ (x' = x ∧ y' < y)) → qbt A x' = true → qab T A (qgp T y' - qgp T x') = true → qbt A' y' = true) → G 49 [some (qr 12 0), none, none, some (qi (A' : Nat)), some (qi (A : Nat)), some (qi (x : Int)), some (qi (y : Int))] [] h := by
              refine q_up (fun y hy ihy hxy A' B1 B2 B3 B4 => b_X12_namedWith_49 hG ?_)
              rw [P.1]
              refine ⟨fun q3 => ⟨by omega, ihx (by omega) A' B1 B2 B3 (fun x' y' x1 x2 x3 x4 x5 => B4 x' y' x1 x2 (by omega) x4 x5)⟩, fun q3 => ?_⟩
              rw [P.2.2 y (by omega), P.2.2 x (by omega)]
              have g1 := qgp_16 V hg (k := y) (by omega)
              have g2 := qgp_lt (S := T) hxy (by omega)
              rw [show (qgp T y : Int) - (qgp T x : Int) = ((qgp T y - qgp T x : Nat) : Int) by omega]
              refine ⟨by omega, by omega, by omega, m_isWith hL ha R V hg P ?_⟩
              rw [qin_nat]
              refine ⟨fun q4 => ⟨by omega, ihy (by omega) (by omega) A' B1 B2 B3 (fun x' y' x1 x2 x3 x4 x5 => ?_)⟩, fun q4 => ⟨by omega, ?_⟩⟩
              · by_cases e : x' = x ∧ y' = y
                · obtain ⟨rfl, rfl⟩ := e
                  rw [x5] at q4; exact absurd q4 (by decide)
                · exact B4 x' y' x1 x2 (by omega) x4 x5
              · obtain ⟨t1, t2, t3⟩ := qset1_ok hg B1 (show y < qgn T by omega)
                rw [t1]
                refine ihy (by omega) (by omega) _ t2 (fun j hj hb2 => by rw [t3 j hj, B2 j hj hb2]; rfl) (fun C c1 c2 c3 c4 j hj hb2 => ?_) (fun x' y' x1 x2 x3 x4 x5 => ?_)
                · rw [t3 j hj, Bool.or_eq_true, beq_iff_eq] at hb2
                  rcases hb2 with w | w
                  · exact B3 C c1 c2 c3 c4 j hj w
                  · rw [w]
                    have u1 := A4 C c1 c2 c3 c4 x (by omega) hbx
                    have u2 : C (qgp T y - qgp T x) := by
                      rcases qab_iff.mp (qb_n0.mp q4) with v | ⟨i, i1, i2, i3⟩
                      · exact c2 _ v
                      · rw [← i2]; exact A4 C c1 c2 c3 c4 i i1 i3
                    have := c1 _ _ u1 u2
                    rw [show qgp T x + (qgp T y - qgp T x) = qgp T y by omega] at this
                    exact this
                · rw [t3 y' x2]
                  by_cases e : x' = x ∧ y' = y
                  · rw [e.2]; simp
                  · rw [B4 x' y' x1 x2 (by omega) x4 x5]; rfl
            have := inner (x + 1) (by omega) (by omega) A' B1 B2 B3 (fun x' y' x1 x2 x3 x4 x5 => B4 x' y' x1 x2 (by omega) x4 x5)
            exact this
          · by_cases e : x' = x
            · rw [e, qb_0.mp q2] at x4; cases x4
            · exact B4 x' y' x1 x2 (by omega) x4 x5
      exact outer 0 (Nat.zero_le _) A A1 (fun _ _ q => q) A4 (fun x' y' _ _ x3 => absurd x3 (Nat.not_lt_zero _))
  have hkk : qbt (qset1 (qgn T) m kk : Int) kk = true := by rw [s3 kk hk]; simp
  exact round (2 ^ qgn T - qset1 (qgn T) m kk + 1) _ (by omega) s2 (fun j hj q => by rw [s3 j hj, q]; rfl) hkk (fun C c1 c2 c3 c4 j hj q => by
    rw [s3 j hj, Bool.or_eq_true, beq_iff_eq] at q
    rcases q with q | q
    · exact c3 j hj q
    · rw [q]; exact c4) m (fun q => by rw [q, hb] at hkk; cases hkk)
theorem m_good {i : Int} (hL : qhL g) (M : qmd h n S) (k : ∀ h', qmf [1039, 1040, 67, 69] h h' → Q (qon n S s (-1) (fun S => if qgn S ≤ 8 then qgood S i else -2)) h') : q_tr l g (d + 4) n_X12_good [qr 12 0, qi s, qi i] h Q := by
  refine i_X12_good hL (fun G hG hw _ => b_X12_good_0 hG (m_isSet hL M (hw (qi s) (by simp)) (q_no (fun e => q_qe (k h (qmf_refl _ _)) (by rw [qon_out e])) (fun j e hj => ?_))))
  subst e
  obtain ⟨V, R⟩ := M.2.2 j hj
  have h6 := M.2.1
  rw [qon_in hj] at k
  rw [q_4j]
  have k0 := k h (qmf_refl _ _)
  refine ⟨by omega, m_genus hL (Or.inl ⟨rfl, by omega⟩) R (qm6_1 V.1) ⟨fun q => ⟨fun q1 => ⟨by omega, ?_⟩, fun q1 => q_qe k0 ?_⟩, fun q => q_qe k0 (by rw [if_neg (by omega)])⟩⟩
  · have hg : qgn (S j) ≤ 8 := by omega
    rw [if_pos hg] at k
    clear k0
    have ha : 4 * j ≤ 20 := by omega
    generalize S j = T at *
    refine m_laysGaps hL ha R V.1 (fun h1 f1 P1 => ?_)
    have h256 := q2g hg
    have hp0 : 0 < 2 ^ qgn T := Nat.two_pow_pos _
    rw [P1.1, q_shl1 hg]
    have hP := fun h2 (f : qmf [69] h1 h2) => qmp_f P1 f rfl
    have hR := fun h2 (f : qmf [69] h1 h2) => qmr_f (qmr_f R ha f1 rfl) ha f rfl
    have e0 : qab T 0 = T := by
      funext x
      unfold qab
      rw [qex_f.mpr (fun j _ => by rw [show ((0 : Nat) : Int) = 0 from rfl, qbt_0, Bool.and_false]), Bool.or_false]
    have c0 : qclp (qab T 0) = true := (qclp_iff (qab_16 V.1 hg 0)).mpr (by rw [e0]; exact V.1.2.1)
    -- the game's end
    have last : ∀ w, w ≤ qgn T → (i < 0 ∨ (qc (fun j => !(qwn T (qnx T 0 j))) w : Int) ≤ i) → ∀ h2, qmf [69] h1 h2 → (∀ z : Nat, 0 < z → z < 2 ^ qgn T → qclp (qab T z) = true → h2 69 0 z = qb (qwn T z)) → G 141 [some (qr 12 0), none, some (qi i), none, some (qi (qc (fun j => !(qwn T (qnx T 0 j))) w : Nat)), some (qi (w : Int))] [] h2 := by
      have hcl := qc_le (fun j => !(qwn T (qnx T 0 j)))
      refine q_up (fun w hw ih hi h2 f2 W => b_X12_good_141 hG ?_)
      have kq := k h2 (qmf_trans (qmf_mono f1 rfl) (qmf_mono f2 rfl))
      unfold qgood at kq
      rw [(hP h2 f2).1]
      refine ⟨fun q2 => ?_, fun q2 => ?_⟩
      · rw [show w = qgn T by omega] at hi ⊢
        refine ⟨fun q3 => q_qe kq (by rw [if_neg q3, qnth_no hi, if_pos rfl]), fun q3 => q_qe kq (by rw [if_pos q3])⟩
      · refine m_namedWith (m := 0) hL ha (hR h2 f2) V.1 hg (hP h2 f2) hp0 (by omega) (by rw [show ((0 : Nat) : Int) = 0 from rfl, qbt_0]) (fun z z1 z2 z3 z4 z5 z6 => ?_)
        have ez := qnx_is V.1 hg c0 (show w < qgn T by omega) z1 z3 z4 z5 z6
        rw [W z z2 z1 (qfix_cl V.1 hg z5), ez]
        have ih := ih (by omega)
        have hc := hcl w
        refine ⟨by have := qnx_lt T 0 w; omega, fun q3 => ?_, fun q3 => ?_⟩
        · have e : (fun j => !(qwn T (qnx T 0 j))) w = true := by show (!(qwn T (qnx T 0 w))) = true; rw [qb_0.mp q3]; rfl
          rw [qc_t e] at ih
          refine ⟨fun q4 => ⟨by omega, by omega, ih (by omega) h2 f2 W⟩, fun q4 => ⟨by omega, ?_⟩⟩
          rw [(hP h2 f2).2.2 w (by omega)]
          have en := qnth_at (p := fun j => !(qwn T (qnx T 0 j))) e (show w < qgn T by omega)
          rw [q4] at en
          exact q_qe kq (by rw [if_neg (by omega), en, if_neg (by omega), Int.toNat_natCast])
        · have e : (fun j => !(qwn T (qnx T 0 j))) w = false := by show (!(qwn T (qnx T 0 w))) = false; rw [qb_n0.mp q3]; rfl
          rw [qc_f e] at ih
          exact ⟨by omega, ih hi h2 f2 W⟩
    have play : ∀ w, w < 2 ^ qgn T → ∀ h2, qmf [69] h1 h2 → (∀ z : Nat, w < z → z < 2 ^ qgn T → qclp (qab T z) = true → h2 69 0 z = qb (qwn T z)) → G 54 [some (qr 12 0), none, some (qi i), some (qi (((2 ^ qgn T : Nat) : Int) - 1)), some (qi (w : Int)), none] [] h2 := by
      intro w
      induction w with
      | zero =>
        intro _ h2 f2 W
        have l0 := last 0 (Nat.zero_le _) (by show i < 0 ∨ ((0 : Nat) : Int) ≤ i; omega) h2 f2 W
        exact b_X12_good_54 hG ⟨fun _ => l0, fun q2 => absurd (Int.le_refl _) q2⟩
      | succ w ih =>
        intro hw h2 f2 W
        generalize ew : w + 1 = u at *
        have each : ∀ b, b ≤ qgn T → ∀ h3, (qmf [69] h1 h3 ∧ (∀ z : Nat, u < z → z < 2 ^ qgn T → qclp (qab T z) = true → h3 69 0 z = qb (qwn T z)) ∧ (qclp (qab T u) = true → h3 69 0 u = qb (decide (u + 1 = 2 ^ qgn T) || qex (fun j => !(qbt u j) && !(qwn T (qnx T u j))) b))) → G 80 [some (qr 12 0), none, some (qi i), some (qi (((2 ^ qgn T : Nat) : Int) - 1)), some (qi (u : Int)), some (qi (b : Int))] [] h3 := by
          refine q_up (fun b hb ihb h3 hI => b_X12_good_80 hG ?_)
          obtain ⟨f3, W3, C3⟩ := hI
          rw [(hP h3 f3).1]
          have eqx : qex (fun j => !(qbt u j) && !(qwn T (qnx T u j))) (b + 1) = (qex (fun j => !(qbt u j) && !(qwn T (qnx T u j))) b || (!(qbt u b) && !(qwn T (qnx T u b)))) := rfl
          refine ⟨fun q2 => ⟨by omega, ?_⟩, fun q2 => ?_⟩
          · rw [show (u : Int) + -1 = (w : Int) by omega]
            refine ih (by omega) h3 f3 (fun z z1 z2 z3 => ?_)
            by_cases e : z = u
            · subst e
              rw [C3 z3, qwn_eq V.1 z2, z3, Bool.true_and, show b = qgn T by omega]
            · exact W3 z (by omega) z2 z3
          · rw [q_bit (by omega)]
            refine ⟨fun q3 => ⟨by omega, ihb (by omega) h3 ⟨f3, W3, fun hc => ?_⟩⟩, fun q3 => m_namedWith hL ha (hR h3 f3) V.1 hg (hP h3 f3) hw (by omega) (qb_0.mp q3) (fun z z1 z2 z3 z4 z5 z6 => ?_)⟩
            · rw [C3 hc, eqx, qb_n0.mp q3, Bool.not_true, Bool.false_and, Bool.or_false]
            · have hzc := qfix_cl V.1 hg z5
              have ez : qclp (qab T u) = true → z = qnx T u b := fun hc => qnx_is V.1 hg hc (show b < qgn T by omega) z1 z3 z4 z5 z6
              rw [W3 z z2 z1 hzc]
              refine ⟨by omega, fun q4 => ⟨by omega, ihb (by omega) h3 ⟨f3, W3, fun hc => ?_⟩⟩, fun q4 => ⟨⟨by omega, Or.inr rfl⟩, by omega, ihb (by omega) _ ⟨qmf_trans f3 (qmf_qu rfl), fun y y1 y2 y3 => by rw [qu_ne (by omega)]; exact W3 y y1 y2 y3, fun hc => ?_⟩⟩⟩
              · rw [C3 hc, eqx, ← ez hc, qb_n0.mp q4]; simp
              · rw [qu_at, eqx, ← ez hc, qb_0.mp q4, qb_0.mp q3]; simp [qb]
        refine b_X12_good_54 hG ⟨fun q2 => by omega, fun _ => ⟨fun q2 => ⟨⟨by omega, Or.inl rfl⟩, each 0 (Nat.zero_le _) _ ⟨qmf_trans f2 (qmf_qu rfl), fun z z1 z2 z3 => by rw [qu_ne (by omega)]; exact W z z1 z2 z3, fun _ => ?_⟩⟩, fun q2 => ⟨⟨by omega, Or.inr rfl⟩, each 0 (Nat.zero_le _) _ ⟨qmf_trans f2 (qmf_qu rfl), fun z z1 z2 z3 => by rw [qu_ne (by omega)]; exact W z z1 z2 z3, fun _ => ?_⟩⟩⟩⟩
        · rw [qu_at, decide_eq_false (by omega)]; rfl
        · rw [qu_at, decide_eq_true (by omega)]; rfl
    refine ⟨by omega, ?_⟩
    rw [show ((2 ^ qgn T : Nat) : Int) - 1 = ((2 ^ qgn T - 1 : Nat) : Int) by omega]
    have := play (2 ^ qgn T - 1) (by omega) h1 (qmf_refl _ _) (fun z z1 z2 => by omega)
    rw [show ((2 ^ qgn T : Nat) : Int) - 1 = ((2 ^ qgn T - 1 : Nat) : Int) by omega] at this
    exact this
  · rw [if_pos (show qgn (S j) ≤ 8 by omega)]
    unfold qgood
    rw [if_neg (by omega), qnth_no (Or.inl (by omega)), if_pos rfl]
end QM10
