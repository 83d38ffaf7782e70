/-! the model: sums, meetings, parts of sets in the making -/
theorem qmr_rf {a b : Nat} {h h' : QM} {S : QZ} (R : qmr h 55 b S) (f : qrf 55 a h h') (e : b + 4 ≤ a ∨ a + 4 ≤ b) : qmr h' 55 b S := qmr_fr R (fun j h1 h2 => f 55 0 j (by omega))
section MM3
variable {l : Launch} {g : QG} {d : Nat} {h : QM} {Q : Int → QM → Prop} {a b c : Nat} {A B : QZ}
theorem m_sumL {G : QK} (hL : qhL g) (hG : q_clo (q_S g) (q_tr l g (d + 3)) Q 12 k_X12_meansOne 0 false G) (ha : a ≤ 20) (hb : b ≤ 20) (hc : c ≤ 20) (hab : b + 4 ≤ a ∨ a + 4 ≤ b) (hac : c + 4 ≤ a ∨ a + 4 ≤ c) (V : QV1 A) (W : QV1 B) (RA : qmr h 55 b A) (RB : qmr h 55 c B) (k : ∀ h', qrf 55 a h h' → qmr h' 55 a (qplus A B) → Q 0 h') : G 159 [some (qr 12 0), none, none, some (qi (a : Int)), none, some (qi (b : Int)), some (qi (c : Int)), none, some (qi ((0 : Nat) : Int)), none] [] h := by
  have hr : ∀ u, u ≤ 20 → qrg 55 u := fun u hu => Or.inl ⟨Or.inr rfl, by omega⟩
  let I : QM → QZ → Prop := fun h1 T => qrf 55 a h h1 ∧ qmr h1 55 a T ∧ qm6 T
  have l184 : ∀ x, x ≤ 256 → ∀ h1 T, I h1 T → (∀ z, z < 256 → (T z = true ↔ ∃ y, y < x ∧ A y = true ∧ y ≤ z ∧ B (z - y) = true)) → G 184 [some (qr 12 0), none, none, some (qi (a : Int)), none, some (qi (b : Int)), some (qi (c : Int)), none, some (qi (x : Int)), none] [] h1 := by
    refine q_up (fun x hx ihx h1 T hI hT => b_X12_meansOne_184 hG ⟨fun q => b_X12_meansOne_513 hG (k h1 hI.1 (qmr_cong hI.2.1 (fun z hz => ?_))), fun q => ?_⟩)
    · rw [Bool.eq_iff_iff, hT z hz, qplus_iff]
      exact ⟨fun ⟨y, _, y2, y3, y4⟩ => ⟨y, y3, y2, y4⟩, fun ⟨y, y1, y2, y3⟩ => ⟨y, by omega, y2, y1, y3⟩⟩
    · have l195 : ∀ y, y ≤ 256 → ∀ h2 T, I h2 T → (∀ z, z < 256 → (T z = true ↔ (∃ y', y' < x ∧ A y' = true ∧ y' ≤ z ∧ B (z - y') = true) ∨ (A x = true ∧ ∃ v, v < y ∧ B v = true ∧ z = x + v))) → G 195 [some (qr 12 0), none, none, some (qi (a : Int)), none, some (qi (b : Int)), some (qi (c : Int)), none, some (qi (x : Int)), some (qi (y : Int))] [] h2 := by
        refine q_up (fun y hy ihy h2 T hI hT => b_X12_meansOne_195 hG ⟨by omega, fun q2 => ⟨by omega, ihx (by omega) h2 T hI (fun z hz => ?_)⟩, fun q2 => m_isOf hL (hr b hb) (qmr_rf RA hI.1 hab) (qm6_1 V) ?_⟩)
        · rw [hT z hz]
          constructor
          · rintro (⟨y', w1, w2, w3, w4⟩ | ⟨w1, v, w2, w3, w4⟩)
            · exact ⟨y', by omega, w2, w3, w4⟩
            · exact ⟨x, by omega, w1, by omega, by rw [show z - x = v by omega]; exact w3⟩
          · rintro ⟨y', w1, w2, w3, w4⟩
            by_cases e : y' = x
            · subst e
              exact Or.inr ⟨w2, z - y', by omega, w4, by omega⟩
            · exact Or.inl ⟨y', by omega, w2, w3, w4⟩
        · rw [qin_nat]
          refine ⟨fun q3 => ⟨by omega, ihx (by omega) h2 T hI (fun z hz => ?_)⟩, fun q3 => m_isOf hL (hr c hc) (qmr_rf RB hI.1 hac) (qm6_1 W) ?_⟩
          · rw [hT z hz]
            constructor
            · rintro (⟨y', w1, w2, w3, w4⟩ | ⟨w1, _⟩)
              · exact ⟨y', by omega, w2, w3, w4⟩
              · rw [qb_0.mp q3] at w1; cases w1
            · rintro ⟨y', w1, w2, w3, w4⟩
              by_cases e : y' = x
              · rw [e, qb_0.mp q3] at w2; cases w2
              · exact Or.inl ⟨y', by omega, w2, w3, w4⟩
          · rw [qin_nat]
            refine ⟨fun q4 => b_X12_meansOne_247 hG ⟨by omega, ihy (by omega) h2 T hI (fun z hz => ?_)⟩, fun q4 => ⟨by omega, ?_⟩⟩
            · rw [hT z hz]
              refine or_congr Iff.rfl (and_congr Iff.rfl ⟨fun ⟨v, w1, w2⟩ => ⟨v, by omega, w2⟩, fun ⟨v, w1, w2, w3⟩ => ?_⟩)
              by_cases e : v = y
              · rw [e, qb_0.mp q4] at w2; cases w2
              · exact ⟨v, by omega, w2, w3⟩
            · rw [show (x : Int) + (y : Int) = ((x + y : Nat) : Int) by omega]
              refine m_puts hL (hr a ha) (by omega) hI.2.1 (fun h3 f3 R3 => b_X12_meansOne_247 hG ⟨by omega, ihy (by omega) h3 _ ⟨qrf_trans hI.1 f3, R3, fun z hz => by show (T z || z == x + y) = true; rw [hI.2.2 z hz]; rfl⟩ (fun z hz => ?_)⟩)
              show (T z || z == x + y) = true ↔ _
              rw [Bool.or_eq_true, hT z hz, beq_iff_eq]
              constructor
              · rintro ((w | ⟨w1, v, w2, w3⟩) | w)
                · exact Or.inl w
                · exact Or.inr ⟨w1, v, by omega, w3⟩
                · exact Or.inr ⟨qb_n0.mp q3, y, by omega, qb_n0.mp q4, w⟩
              · rintro (w | ⟨w1, v, w2, w3, w4⟩)
                · exact Or.inl (Or.inl w)
                · by_cases e : v = y
                  · right; rw [← e]; exact w4
                  · exact Or.inl (Or.inr ⟨w1, v, by omega, w3, w4⟩)
      refine l195 0 (Nat.zero_le _) h1 T hI (fun z hz => ?_)
      rw [hT z hz]
      exact ⟨fun w => Or.inl w, fun w => w.elim (fun w => w) (fun ⟨_, v, w, _⟩ => absurd w (Nat.not_lt_zero _))⟩
  have zero : ∀ m, m ≤ 4 → ∀ h2, (qrf 55 a h h2 ∧ ∀ jj : Nat, jj < m → h2 55 0 ((a : Int) + jj) = 0) → G 159 [some (qr 12 0), none, none, some (qi (a : Int)), none, some (qi (b : Int)), some (qi (c : Int)), none, some (qi (m : Int)), none] [] h2 := by
    refine q_up (fun m hm ih2 h2 hI => b_X12_meansOne_159 hG ⟨fun q2 => ?_, fun q2 => ⟨by omega, by omega, by omega, ih2 (by omega) _ ⟨qrf_trans hI.1 (fun r i jj e => qu_ne (by omega)), fun jj hjj => ?_⟩⟩⟩)
    · have R2 := qmr_none (h := h2) (a := a) (fun jj hjj => hI.2 jj (by omega))
      refine l184 0 (Nat.zero_le _) h2 (fun z => decide (256 ≤ z)) ⟨hI.1, qmr_cong R2 (fun z hz => (decide_eq_false (by omega)).symm), fun z hz => decide_eq_true hz⟩ (fun z hz => ?_)
      show decide (256 ≤ z) = true ↔ _
      rw [decide_eq_false (by omega)]
      exact ⟨fun w => (by cases w), fun ⟨y, w, _⟩ => absurd w (Nat.not_lt_zero _)⟩
    · by_cases e : jj = m
      · rw [e, qu_at]
      · rw [qu_ne (by omega)]; exact hI.2 jj (by omega)
  exact zero 0 (Nat.zero_le _) h ⟨qrf_refl _ _ _, fun jj hjj => absurd hjj (Nat.not_lt_zero _)⟩
theorem m_meetL {G : QK} (hG : q_clo (q_S g) (q_tr l g (d + 3)) Q 12 k_X12_meansOne 0 false G) (ha : a ≤ 20) (hc : c ≤ 20) (hac : c + 4 ≤ a ∨ a + 4 ≤ c) (RA : qmr h 55 a A) (RB : qmr h 55 c B) (k : ∀ h', qrf 55 a h h' → qmr h' 55 a (qmeet A B) → Q 0 h') : G 265 [some (qr 12 0), none, none, some (qi (a : Int)), none, none, some (qi (c : Int)), none, some (qi ((0 : Nat) : Int)), none] [] h := by
  have key : ∀ m, m ≤ 4 → ∀ h1, (qrf 55 a h h1 ∧ ∀ x : Nat, x < 256 → qbt (h1 55 0 ((a + x / 64 : Nat) : Int)) (x % 64) = if x / 64 < m then qmeet A B x else A x) → G 265 [some (qr 12 0), none, none, some (qi (a : Int)), none, none, some (qi (c : Int)), none, some (qi (m : Int)), none] [] h1 := by
    refine q_up (fun m hm ih h1 hI => b_X12_meansOne_265 hG ⟨fun q => b_X12_meansOne_513 hG (k h1 hI.1 (fun x hx => by rw [hI.2 x hx, if_pos (by omega)])), fun q => ⟨by omega, by omega, by omega, by omega, by omega, by omega, ih (by omega) _ ⟨qrf_trans hI.1 (fun r i jj e => qu_ne (by omega)), fun x hx => ?_⟩⟩⟩)
    by_cases e : x / 64 = m
    · rw [show ((a + x / 64 : Nat) : Int) = (a : Int) + (m : Int) by omega, qu_at, if_pos (by omega), qbt_and64 (by omega)]
      have e1 := hI.2 x hx
      rw [show ((a + x / 64 : Nat) : Int) = (a : Int) + (m : Int) by omega, if_neg (by omega)] at e1
      have e2 := qmr_rf RB hI.1 hac x hx
      rw [show ((c + x / 64 : Nat) : Int) = (c : Int) + (m : Int) by omega] at e2
      rw [e1, e2]; rfl
    · rw [qu_ne (by omega), hI.2 x hx]
      by_cases e2 : x / 64 < m
      · rw [if_pos e2, if_pos (by omega)]
      · rw [if_neg e2, if_neg (by omega)]
  exact key 0 (Nat.zero_le _) h ⟨qrf_refl _ _ _, fun x hx => by rw [if_neg (by omega)]; exact RA x hx⟩
theorem m_partL {G : QK} {v : Nat} (hL : qhL g) (hG : q_clo (q_S g) (q_tr l g (d + 3)) Q 12 k_X12_meansOne 0 false G) (ha : a ≤ 20) (hb : b ≤ 20) (hab : b + 4 ≤ a ∨ a + 4 ≤ b) (hv : v < 10000) (V : QV1 A) (RA : qmr h 55 b A) (RT : qmr h 55 a A) (k : ∀ h', qrf 55 a h h' → qmr h' 55 a (qpart A v) → Q 0 h') : G 329 [some (qr 12 0), none, none, some (qi (a : Int)), none, some (qi (b : Int)), none, some (qi (v : Int)), none, none] [] h := by
  have hr : ∀ u, u ≤ 20 → qrg 55 u := fun u hu => Or.inl ⟨Or.inr rfl, by omega⟩
  let I : QM → QZ → Prop := fun h1 T => qrf 55 a h h1 ∧ qmr h1 55 a T
  have mul : ∀ x : Nat, (v : Int) * (x : Int) = ((x * v : Nat) : Int) := fun x => by rw [Nat.mul_comm]; exact (Int.natCast_mul v x).symm
  have bd : ∀ x : Nat, x < 256 → x * v ≤ 256 * 10000 := fun x hx => Nat.mul_le_mul (by omega) (by omega)
  have l376 : ∀ x, x ≤ 256 → ∀ h1 T, I h1 T → (∀ z, z < 256 → T z = if z < x then A (z * v) else (A z || A (z * v))) → G 376 [some (qr 12 0), none, none, some (qi (a : Int)), none, some (qi (b : Int)), none, some (qi (v : Int)), some (qi (x : Int)), none] [] h1 := by
    refine q_up (fun x hx ih h1 T hI hT => b_X12_meansOne_376 hG ⟨fun q => b_X12_meansOne_513 hG (k h1 hI.1 (qmr_cong hI.2 (fun z hz => by rw [hT z hz, if_pos (by omega)]; rfl))), fun q => ?_⟩)
    rw [mul]
    have := bd x (by omega)
    refine ⟨by omega, m_isOf hL (hr b hb) (qmr_rf RA hI.1 hab) (qm6_1 V) ?_⟩
    rw [qin_nat]
    refine ⟨fun q2 => b_X12_meansOne_411 hG ⟨by omega, ih (by omega) h1 T hI (fun z hz => ?_)⟩, fun q2 => m_takes hL ⟨Or.inr rfl, by omega⟩ (by omega) hI.2 (fun h2 f2 R2 => b_X12_meansOne_411 hG ⟨by omega, ih (by omega) h2 _ ⟨qrf_trans hI.1 f2, R2⟩ (fun z hz => ?_)⟩)⟩
    · rw [hT z hz]
      by_cases e : z = x
      · subst e
        rw [if_neg (Nat.lt_irrefl _), if_pos (Nat.lt_succ_self _), qb_n0.mp q2, Bool.or_true]
      · by_cases e2 : z < x
        · rw [if_pos e2, if_pos (by omega)]
        · rw [if_neg e2, if_neg (by omega)]
    · show (T z && !(z == x)) = _
      rw [hT z hz]
      by_cases e : z = x
      · subst e
        rw [if_pos (Nat.lt_succ_self _), qb_0.mp q2, beq_self_eq_true, Bool.not_true, Bool.and_false]
      · rw [beq_eq_false_iff_ne.mpr e, Bool.not_false, Bool.and_true]
        by_cases e2 : z < x
        · rw [if_pos e2, if_pos (by omega)]
        · rw [if_neg e2, if_neg (by omega)]
  have l332 : ∀ x, x ≤ 256 → ∀ h1 T, I h1 T → (∀ z, z < 256 → T z = if z < x then (A z || A (z * v)) else A z) → G 332 [some (qr 12 0), none, none, some (qi (a : Int)), none, some (qi (b : Int)), none, some (qi (v : Int)), some (qi (x : Int)), none] [] h1 := by
    refine q_up (fun x hx ih h1 T hI hT => b_X12_meansOne_332 hG ⟨fun q => l376 0 (Nat.zero_le _) h1 T hI (fun z hz => by rw [hT z hz, if_pos (by omega), if_neg (Nat.not_lt_zero _)]), fun q => ?_⟩)
    rw [mul]
    have := bd x (by omega)
    refine ⟨by omega, m_isOf hL (hr b hb) (qmr_rf RA hI.1 hab) (qm6_1 V) ?_⟩
    rw [qin_nat]
    refine ⟨fun q2 => b_X12_meansOne_367 hG ⟨by omega, ih (by omega) h1 T hI (fun z hz => ?_)⟩, fun q2 => m_puts hL (hr a ha) (by omega) hI.2 (fun h2 f2 R2 => b_X12_meansOne_367 hG ⟨by omega, ih (by omega) h2 _ ⟨qrf_trans hI.1 f2, R2⟩ (fun z hz => ?_)⟩)⟩
    · rw [hT z hz]
      by_cases e : z = x
      · subst e
        rw [if_neg (Nat.lt_irrefl _), if_pos (Nat.lt_succ_self _), qb_0.mp q2, Bool.or_false]
      · by_cases e2 : z < x
        · rw [if_pos e2, if_pos (by omega)]
        · rw [if_neg e2, if_neg (by omega)]
    · show (T z || z == x) = _
      rw [hT z hz]
      by_cases e : z = x
      · subst e
        rw [if_pos (Nat.lt_succ_self _), qb_n0.mp q2, beq_self_eq_true, Bool.or_true, Bool.or_true]
      · rw [beq_eq_false_iff_ne.mpr e, Bool.or_false]
        by_cases e2 : z < x
        · rw [if_pos e2, if_pos (by omega)]
        · rw [if_neg e2, if_neg (by omega)]
  exact b_X12_meansOne_329 hG (l332 0 (Nat.zero_le _) h A ⟨qrf_refl _ _ _, RT⟩ (fun z hz => by rw [if_neg (Nat.not_lt_zero _)]))
end MM3
