/-! the model: LIST, what is counted -/
def qlP (k v : Nat) : Bool := qcv v && decide (qbv v < k)
theorem qlP_s (k n : Nat) : qc (qlP (k + 1)) n = qc (qlP k) n + qc (qpl k) n := by
  rw [← qc_or (p := qlP k) (q := qpl k) (fun x _ q => by
    unfold qlP qpl at q
    simp only [Bool.and_eq_true, decide_eq_true_eq, beq_iff_eq] at q
    omega)]
  refine qc_cong (fun x _ => ?_)
  unfold qlP qpl
  cases qcv x with
  | false => rfl
  | true =>
    rw [Bool.true_and, Bool.true_and, Bool.true_and]
    by_cases e : qbv x = k
    · rw [e, decide_eq_true (by omega)]; simp
    · rw [beq_eq_false_iff_ne.mpr e, Bool.or_false]
      by_cases e2 : qbv x < k
      · rw [decide_eq_true e2, decide_eq_true (by omega)]
      · rw [decide_eq_false e2, decide_eq_false (by omega)]
theorem qlP_0 (N : Nat) : qc (qlP 0) N = 0 := qc_none (m := 0) (Nat.zero_le _) (fun x _ _ => by unfold qlP; rw [decide_eq_false (by omega), Bool.and_false])
theorem qlP_sum (N : Nat) : qc (qlP 9) N = 0 + qc (qpl 0) N + qc (qpl 1) N + qc (qpl 2) N + qc (qpl 3) N + qc (qpl 4) N + qc (qpl 5) N + qc (qpl 6) N + qc (qpl 7) N + qc (qpl 8) N := by
  have a0 : qc (qlP 1) N = qc (qlP 0) N + qc (qpl 0) N := qlP_s 0 N
  have a1 : qc (qlP 2) N = qc (qlP 1) N + qc (qpl 1) N := qlP_s 1 N
  have a2 : qc (qlP 3) N = qc (qlP 2) N + qc (qpl 2) N := qlP_s 2 N
  have a3 : qc (qlP 4) N = qc (qlP 3) N + qc (qpl 3) N := qlP_s 3 N
  have a4 : qc (qlP 5) N = qc (qlP 4) N + qc (qpl 4) N := qlP_s 4 N
  have a5 : qc (qlP 6) N = qc (qlP 5) N + qc (qpl 5) N := qlP_s 5 N
  have a6 : qc (qlP 7) N = qc (qlP 6) N + qc (qpl 6) N := qlP_s 6 N
  have a7 : qc (qlP 8) N = qc (qlP 7) N + qc (qpl 7) N := qlP_s 7 N
  have a8 : qc (qlP 9) N = qc (qlP 8) N + qc (qpl 8) N := qlP_s 8 N
  have h0 := qlP_0 N
  omega
theorem qlP_156' {N : Nat} (h : ∀ g, g ≤ 8 → qc (qpl g) N = qcount.getD g 0) : qc (qlP 9) N = 156 := by
  rw [qlP_sum, h 0 (by omega), h 1 (by omega), h 2 (by omega), h 3 (by omega), h 4 (by omega), h 5 (by omega), h 6 (by omega), h 7 (by omega), h 8 (by omega)]
  rfl
theorem qlP_156 : qc (qlP 9) 32768 = 156 := qlP_156' (fun g hg => qlist_c hg)
theorem qpl_P {g v : Nat} (hg : g ≤ 8) (h : qpl g v = true) : qlP 9 v = true := by
  unfold qpl at h
  unfold qlP
  simp only [Bool.and_eq_true, decide_eq_true_eq, beq_iff_eq] at h ⊢
  exact ⟨h.1, by omega⟩
theorem qpl_iff {g v : Nat} (h : qlP 9 v = true) : qpl g v = (qbv v == g) := by
  unfold qlP at h
  unfold qpl
  rw [Bool.and_eq_true] at h
  rw [h.1, Bool.true_and]
/-- the model's list, laid or not -/
def qlm (h : QM) : Prop := h 12 0 37 = 0 ∨ (h 12 0 37 = 156 ∧ ∀ v : Nat, v < 32768 → qlP 9 v = true → h 66 0 (qc (qlP 9) v) = v)
theorem qlm_f {rs : List Nat} {h h' : QM} (a : qlm h) (f : qmf rs h h') (e : (rs.contains 1037 || rs.contains 66) = false) : qlm h' := by
  rw [Bool.or_eq_false_iff] at e
  have e1 : h' 12 0 37 = h 12 0 37 := f 12 0 37 e.1
  rcases a with a | ⟨a1, a2⟩
  · exact Or.inl (by rw [e1]; exact a)
  · exact Or.inr ⟨by rw [e1]; exact a1, fun v h1 h2 => by rw [f 66 0 _ e.2]; exact a2 v h1 h2⟩
theorem qsv_1 {g v : Nat} (hv : v < 32768) (hp : qpl g v = true) : QV1 (qsv v) := by
  unfold qpl at hp
  rw [Bool.and_eq_true] at hp
  refine ⟨?_, qcv_iff.mp hp.1, fun x hx => qsv_hi (by omega)⟩
  rw [qsv_lo (by omega), qbt_small (k := 15) (by omega)]; rfl
theorem qgen_32 {S : QZ} (h16 : ∀ x, 16 ≤ x → S x = true) {x : Nat} (hx : 32 ≤ x) : qgen S x = false := by
  cases e : qgen S x with
  | false => rfl
  | true =>
    have := (qgen_iff.mp e).2.2 16 (by omega) (by omega) (h16 16 (by omega))
    rw [h16 _ (by omega)] at this; cases this
theorem qbt_z {v k : Nat} (h : v / 2 ^ k = 0) {j : Nat} (hj : k ≤ j) : qbt (v : Int) j = false := by
  refine qbt_small (Nat.lt_of_lt_of_le ?_ (Nat.pow_le_pow_right (by omega) hj))
  rcases Nat.lt_or_ge v (2 ^ k) with c | c
  · exact c
  · have := Nat.div_pos c (Nat.two_pow_pos k); omega
theorem qbv_bits (v : Nat) : qc (fun j => qbt (v : Int) j) 16 = qbv v := by
  have h1 := qc_refl (p := fun j => qbt (v : Int) j) (n := 15) 16 (by omega)
  rw [Nat.sub_self] at h1
  have h0 : qc (fun j => qbt (v : Int) j) 0 = 0 := rfl
  rw [h0, Nat.add_zero] at h1
  rw [← h1]
  unfold qbv
  refine qc_cong (fun x hx => ?_)
  unfold qgap
  rw [qsv_lo hx, Bool.not_not]
section QM9
variable {l : Launch} {g : QG} {d : Nat} {h : QM} {Q : Int → QM → Prop} {n a : Nat} {S : Nat → QZ} {T : QZ} {s : Int}
theorem m_isGapOf {v x : Nat} (hL : qhL g) (k : Q (qb (!(qsv v x))) h) : q_tr l g (d + 1) n_X12_isGapOf [qi v, qi x] h Q := by
  refine i_X12_isGapOf hL (fun G hG hw _ => b_X12_isGapOf_0 hG ⟨fun q => ⟨Or.inl rfl, q_qe k (by rw [qsv_hi (by omega)]; rfl)⟩, fun q => ?_⟩)
  have hx : q_i32 (x : Int) := hw (qi x) (by simp)
  rw [show (15 : Int) - (x : Int) = ((15 - x : Nat) : Int) by omega, q_bit (by omega)]
  rw [qsv_lo (by omega), Bool.not_not] at k
  exact ⟨by omega, fun q2 => ⟨Or.inl rfl, q_qe k (by cases e : qbt (v : Int) (15 - x) with
    | false => rfl
    | true => rw [e] at q2; exact absurd rfl q2)⟩, fun q2 => ⟨Or.inr rfl, q_qe k q2.symm⟩⟩
theorem m_isClosed {v : Nat} (hL : qhL g) (hv : v < 32768) (k : Q (qb (qcv v)) h) : q_tr l g (d + 2) n_X12_isClosed [qi v] h Q := by
  refine i_X12_isClosed hL (fun G hG _ _ => b_X12_isClosed_0 hG ?_)
  have h0 : qsv v 0 = true := by rw [qsv_lo (by omega), qbt_small (k := 15) (by omega)]; rfl
  have key : ∀ m, m ≤ 15 → 1 ≤ m → (∀ a b, a < m → 0 < a → a ≤ b → a + b < 16 → qsv v a = true → qsv v b = true → qsv v (a + b) = true) → G 2 [some (qi v), some (qi (m : Int)), none] [] h := by
    refine q_up (fun m hm ih hm1 hI => b_X12_isClosed_2 hG ⟨fun q => ⟨Or.inr rfl, q_qe k ?_⟩, fun q => ?_⟩)
    · have hc : qcv v = true := qcv_iff.mpr (fun a b ha hb => by
        have st : ∀ a b, a ≤ b → qsv v a = true → qsv v b = true → qsv v (a + b) = true := fun a b hab ha hb => by
          rcases Nat.eq_zero_or_pos a with c | c
          · rw [c, Nat.zero_add]; exact hb
          · rcases Nat.lt_or_ge (a + b) 16 with c2 | c2
            · exact hI a b (by omega) c hab c2 ha hb
            · exact qsv_hi c2
        rcases Nat.le_total a b with c | c
        · exact st a b c ha hb
        · rw [Nat.add_comm]; exact st b a c hb ha)
      rw [hc]; rfl
    · have inner : ∀ w, w ≤ 16 → m ≤ w → (∀ b, m ≤ b → b < w → m + b < 16 → qsv v m = true → qsv v b = true → qsv v (m + b) = true) → G 10 [some (qi v), some (qi (m : Int)), some (qi (w : Int))] [] h := by
        refine q_up (fun w hw ihw hmw hJ => b_X12_isClosed_10 hG ⟨by omega, fun q2 => ⟨by omega, ih (by omega) (by omega) (fun a b z1 z2 z3 z4 z5 z6 => ?_)⟩, fun q2 => m_isGapOf hL ?_⟩)
        · by_cases c : a = m
          · subst c; exact hJ b z3 (by omega) z4 z5 z6
          · exact hI a b (by omega) z2 z3 z4 z5 z6
        · have nx : (qsv v m = true → qsv v w = true → qsv v (m + w) = true) → (-2147483648 ≤ (w : Int) + 1 ∧ (w : Int) + 1 ≤ 2147483647) ∧ G 10 [some (qi v), some (qi (m : Int)), some (qi ((w : Int) + 1))] [] h := fun q3 => ⟨by omega, ihw (by omega) (by omega) (fun b z1 z2 z3 z4 z5 => by
            by_cases c : b = w
            · subst c; exact q3 z4 z5
            · exact hJ b z1 (by omega) z3 z4 z5)⟩
          refine ⟨fun q3 => nx (fun z => by rw [z] at q3; exact absurd rfl q3), fun q3 => m_isGapOf hL ⟨fun q4 => nx (fun _ z => by rw [z] at q4; exact absurd rfl q4), fun q4 => ⟨by omega, ?_⟩⟩⟩
          rw [show (m : Int) + (w : Int) = ((m + w : Nat) : Int) by omega]
          refine m_isGapOf hL ⟨fun q5 => nx (fun _ _ => by have := qb_0.mp q5; simpa using this), fun q5 => ⟨Or.inl rfl, q_qe k ?_⟩⟩
          have e1 : qsv v m = true := by have := qb_0.mp q3; simpa using this
          have e2 : qsv v w = true := by have := qb_0.mp q4; simpa using this
          have e3 : qsv v (m + w) = false := by have := qb_n0.mp q5; simpa using this
          cases c : qcv v with
          | false => rfl
          | true => rw [qcv_iff.mp c m w e1 e2] at e3; cases e3
      exact inner m (by omega) (Nat.le_refl _) (fun b z1 z2 => by omega)
  exact key 1 (by omega) (by omega) (fun a b z1 z2 => by omega)
theorem m_bitsOf {v : Nat} (hL : qhL g) (hv : v < 32768) (k : Q (qbv v : Nat) h) : q_tr l g (d + 1) n_X12_bitsOf [qi v] h Q := by
  refine i_X12_bitsOf hL (fun G hG _ _ => b_X12_bitsOf_0 hG ?_)
  have hcl := qc_le (fun j => qbt (v : Int) j)
  have key : ∀ m, m ≤ 16 → G 4 [none, some (qi (qc (fun j => qbt (v : Int) j) m : Nat)), some (qi ((v / 2 ^ m : Nat) : Int))] [] h := by
    refine q_up (fun m hm ih => b_X12_bitsOf_4 hG ⟨fun q => q_qe k ?_, fun q => ?_⟩)
    · rw [← qbv_bits, qc_none (m := m) hm (fun x x1 _ => qbt_z (k := m) (Nat.le_zero.mp (by exact_mod_cast q)) x1)]
    · have hm2 : m < 16 := by
        rcases Nat.lt_or_ge m 16 with c | c
        · exact c
        · rw [Nat.div_eq_of_lt (Nat.lt_of_lt_of_le (show v < 2 ^ 16 by omega) (Nat.pow_le_pow_right (by omega) c))] at q; omega
      have ih := ih hm2
      have := hcl m
      have e1 : q_and ((v / 2 ^ m : Nat) : Int) 1 = qb (qbt (v : Int) m) := by
        rw [q_and1]
        unfold qbt qb
        have e : (v : Int) / 2 ^ m = ((v / 2 ^ m : Nat) : Int) := by rw [Int.natCast_ediv, Int.natCast_pow]; rfl
        rw [e]
        by_cases c : ((v / 2 ^ m : Nat) : Int) % 2 = 1
        · rw [c]; rfl
        · rw [decide_eq_false c]
          have := Int.emod_two_eq ((v / 2 ^ m : Nat) : Int)
          simp only [Bool.false_eq_true, if_false]
          omega
      have e2 : q_shr ((v / 2 ^ m : Nat) : Int) 1 = ((v / 2 ^ (m + 1) : Nat) : Int) := by
        unfold q_shr
        show ((v / 2 ^ m : Nat) : Int) / 2 = _
        rw [Nat.pow_succ, ← Nat.div_div_eq_div_mul]
        exact (Int.natCast_ediv _ _).symm
      rw [e1, e2]
      rw [qc_s] at ih
      cases c : qbt (v : Int) m with
      | false => rw [c] at ih; exact ⟨by show -2147483648 ≤ _ + (0 : Int) ∧ _ + (0 : Int) ≤ 2147483647; omega, ih⟩
      | true => rw [c] at ih; exact ⟨by show -2147483648 ≤ _ + (1 : Int) ∧ _ + (1 : Int) ≤ 2147483647; omega, ih⟩
  have := key 0 (by omega)
  rw [Nat.pow_zero, Nat.div_one] at this
  exact this
theorem m_laysList (hL : qhL g) (K : qlm h) (k : ∀ h', qmf [1037, 66] h h' → (h' 12 0 37 = 156 ∧ ∀ v : Nat, v < 32768 → qlP 9 v = true → h' 66 0 (qc (qlP 9) v) = v) → Q 0 h') : q_tr l g (d + 3) n_X12_laysList [qr 12 0] h Q := by
  refine i_X12_laysList hL (fun G hG _ _ => b_X12_laysList_0 hG ⟨fun q => ?_, fun q => ?_⟩)
  · have h0 : h 12 0 37 = 0 := by
      rcases K with c | ⟨c, -⟩
      · exact c
      · omega
    have key : ∀ m, m ≤ 32768 → ∀ h1, (qmf [1037, 66] h h1 ∧ h1 12 0 37 = (qc (qlP 9) m : Nat) ∧ ∀ v : Nat, v < m → qlP 9 v = true → h1 66 0 (qc (qlP 9) v) = v) → G 10 [some (qr 12 0), some (qi (m : Int))] [] h1 := by
      refine q_up (fun m hm ih h1 hI => b_X12_laysList_10 hG ⟨fun q2 => ?_, fun q2 => m_bitsOf hL (by omega) ?_⟩)
      · obtain ⟨f, i1, i2⟩ := hI
        have em : m = 32768 := by omega
        rw [em, qlP_156] at i1
        rw [em] at i2
        exact k h1 f ⟨i1, i2⟩
      · obtain ⟨f, i1, i2⟩ := hI
        have skip : qlP 9 m = false → (-2147483648 ≤ (m : Int) + 1 ∧ (m : Int) + 1 ≤ 2147483647) ∧ G 10 [some (qr 12 0), some (qi ((m : Int) + 1))] [] h1 := fun e => ⟨by omega, ih (by omega) h1 ⟨f, by rw [qc_f e]; exact i1, fun v v1 v2 => i2 v (by
          by_cases c : v = m
          · rw [c, e] at v2; cases v2
          · omega) v2⟩⟩
        refine ⟨fun q3 => skip (by unfold qlP; rw [decide_eq_false (by omega), Bool.and_false]), fun q3 => m_isClosed hL (by omega) ⟨fun q4 => ?_, fun q4 => skip (by unfold qlP; rw [qb_0.mp q4]; rfl)⟩⟩
        have e : qlP 9 m = true := by unfold qlP; rw [qb_n0.mp q4, decide_eq_true (by omega)]; rfl
        have hlt := qc_lt (p := qlP 9) (show m < 32768 by omega) e
        rw [qlP_156] at hlt
        rw [i1]
        rw [qu_ne (by omega), i1]
        refine ⟨by omega, by omega, by omega, ih (by omega) _ ⟨qmf_trans f (qmf_trans (qmf_qu rfl) (qmf_qu rfl)), ?_, fun v v1 v2 => ?_⟩⟩
        · rw [qu_at, qc_t e]; omega
        · rw [qu_ne (by omega)]
          by_cases c : v = m
          · subst c; rw [qu_at]
          · rw [qu_ne (by have := qc_lt (p := qlP 9) (show v < m by omega) v2; omega)]
            exact i2 v (by omega) v2
    exact key 0 (by omega) h ⟨qmf_refl _ _, by rw [h0]; rfl, fun v hv => absurd hv (Nat.not_lt_zero _)⟩
  · rcases K with c | c
    · omega
    · exact k h (qmf_refl _ _) c
theorem m_inList {gg : Nat} {i : Int} (hL : qhL g) (K : qlm h) (hg : gg ≤ 8) (k : ∀ h', qmf [1037, 66] h h' → qlm h' → Q (qpick (qpl gg) 32768 i) h') : q_tr l g (d + 4) n_X12_inList [qr 12 0, qi gg, qi i] h Q := by
  refine i_X12_inList hL (fun G hG _ _ => b_X12_inList_0 hG (m_laysList hL K (fun h1 f1 A => ?_)))
  have k := k h1 f1 (Or.inr A)
  have hcl := qc_le (qpl gg)
  refine q_dn (P := fun y => (i < 0 ∨ (qc (qpl gg) y : Int) ≤ i) → G 9 [some (qr 12 0), some (qi gg), some (qi i), some (qi (qc (qpl gg) y : Nat)), some (qi (qc (qlP 9) y : Nat))] [] h1) (N := 32768) (fun hi => b_X12_inList_9 hG ?_) (fun y hy ih hi => ?_) (by unfold qc; omega)
  · rw [A.1, qlP_156]
    refine ⟨fun _ => ⟨fun q => q_qe k (by rw [qpick_no q hi]), fun q => q_qe k (by rw [q, qpick_all])⟩, fun q => absurd (Int.le_refl _) q⟩
  · cases hp : qlP 9 y with
    | false =>
      have e2 : qpl gg y = false := by
        cases c : qpl gg y with
        | false => rfl
        | true => rw [qpl_P hg c] at hp; cases hp
      rw [qc_f hp, qc_f e2] at ih
      exact ih hi
    | true =>
      have h1 := qc_lt (p := qlP 9) hy hp
      rw [qlP_156] at h1
      have h2 := hcl y
      rw [qc_t hp] at ih
      refine b_X12_inList_9 hG ?_
      rw [A.1, A.2 y hy hp]
      have e := qpl_iff (g := gg) hp
      refine ⟨fun q => by omega, fun _ => ⟨by omega, m_bitsOf hL (by omega) ⟨fun q => ?_, fun q => ?_⟩⟩⟩
      · have e2 : qpl gg y = true := by rw [e]; exact beq_iff_eq.mpr (by omega)
        rw [qc_t e2] at ih
        exact ⟨fun q2 => ⟨by omega, by omega, ih (by omega)⟩, fun q2 => ⟨by omega, by
          rw [A.2 y hy hp]
          exact q_qe k (by rw [qpick_at e2 hy q2])⟩⟩
      · have e2 : qpl gg y = false := by rw [e]; exact beq_eq_false_iff_ne.mpr (by omega)
        rw [qc_f e2] at ih
        exact ⟨by omega, ih hi⟩
theorem m_list {gg i kk : Int} (hL : qhL g) (K : qlm h) (k : ∀ h', qmf [1037, 66, 54, 1023, 56] h h' → qlm h' → Q (qlistq gg i kk) h') : q_tr l g (d + 5) n_X12_list [qr 12 0, qi gg, qi i, qi kk] h Q := by
  have k0 := k h (qmf_refl _ _) K
  unfold qlistq at k k0
  refine i_X12_list hL (fun G hG _ _ => b_X12_list_0 hG (m_in hL (q_dc (fun e => q_qe k0 (by rw [if_neg e])) (fun e => ⟨fun q => ?_, fun q => q_qe k0 ?_⟩))))
  · obtain ⟨m, rfl⟩ := Int.eq_ofNat_of_zero_le e.1
    clear k0
    simp only [if_pos e, Int.toNat_natCast] at k
    refine m_inList hL K (by omega) (fun h1 f1 K1 => ⟨fun q2 => q_qe (k h1 (qmf_mono f1 rfl) K1) (by rw [if_pos q2, q2, qpick_all]), fun q2 => ?_⟩)
    have ep : qpick (qpl m) 32768 i = qnth (qpl m) 32768 i := by unfold qpick; rw [if_neg q2]
    rw [ep]
    simp only [if_neg q2] at k
    have hb := qnth_bd (p := qpl m) (n := 32768) (i := i)
    refine ⟨fun q3 => ?_, fun q3 => q_qe (k h1 (qmf_mono f1 rfl) K1) (by rw [if_pos (by omega)]; omega)⟩
    have hlt : (i : Int) < (qc (qpl m) 32768 : Nat) := by
      rcases Int.lt_or_le i (qc (qpl m) 32768 : Nat) with c | c
      · exact c
      · rw [qnth_no (Or.inr c)] at q3; omega
    obtain ⟨v, v1, v2, v3⟩ := qc_kth (p := qpl m) (n := 32768) (k := i.toNat) (by omega)
    have ev : qnth (qpl m) 32768 i = v := by
      have := qnth_at v2 v1
      rw [v3, show ((i.toNat : Nat) : Int) = i by omega] at this
      exact this
    rw [ev] at k ⊢
    simp only [if_neg (show ¬ (v : Int) = -1 by omega), Int.toNat_natCast] at k
    have V := qsv_1 v1 v2
    have fin : ∀ h2, qmf [1037, 66, 54] h h2 → qmr h2 54 24 (qsv v) → qlm h2 → G 69 [some (qr 12 0), none, none, some (qi kk), some (qi (v : Int)), some (qi 16)] [] h2 := fun h2 f2 R2 K2 => b_X12_list_69 hG ⟨fun _ => m_gens (a := 24) hL ⟨Or.inl rfl, by omega⟩ R2 V (fun h3 f3 g3 => by
      have k3 := k h3 (qmf_trans (qmf_mono f2 rfl) (qmf_mono f3 rfl)) (qlm_f K2 f3 rfl)
      have hcb := qgc_le V
      have hms := (qms_ok V).2.1
      have e400 : qgc (qsv v) = qc (qgen (qsv v)) 32 := qc_none (by omega) (fun x x1 _ => qgen_32 (fun y hy => qsv_hi hy) x1)
      rw [g3.1]
      refine ⟨fun q4 => ⟨by omega, m_in hL (q_dc (fun e => q_qe k3 ?_) (fun e => ⟨by omega, q_qe k3 ?_⟩))⟩, fun q4 => q_qe k3 (by rw [q4, qpick_all, e400])⟩
      · rw [qpick_no q4 (by omega)]
      · obtain ⟨x, x1, x2, x3⟩ := qc_kth (p := qgen (qsv v)) (n := 32) (k := kk.toNat) (by omega)
        rw [qpick_at x2 x1 (i := kk) (by omega), ← g3.2 x (by omega) x2, x3, show ((kk.toNat : Nat) : Int) = kk by omega]), fun q4 => absurd (Int.le_refl _) q4⟩
    have take : ∀ w, w ≤ 16 → 1 ≤ w → ∀ h2, (qmf [1037, 66, 54] h h2 ∧ qlm h2 ∧ qmr h2 54 24 (fun y => qsv v y || decide (w ≤ y))) → G 69 [some (qr 12 0), none, none, some (qi kk), some (qi (v : Int)), some (qi (w : Int))] [] h2 := by
      refine q_up (fun w hw ih hw1 h2 hI => ?_)
      obtain ⟨f2, K2, R2⟩ := hI
      rcases Nat.lt_or_ge w 16 with c | c
      · refine b_X12_list_69 hG ⟨fun q4 => by omega, fun _ => m_isGapOf hL ⟨fun q4 => ⟨by omega, ih c (by omega) h2 ⟨f2, K2, fun y hy => ?_⟩⟩, fun q4 => m_takes (a := 24) hL ⟨Or.inl rfl, by omega⟩ (by omega) R2 (fun h3 f3 R3 => ⟨by omega, ih c (by omega) h3 ⟨qmf_trans f2 (qrf_mf f3 (fun j j1 _ => by rw [qcd_hi (by omega)]; rfl)), qlm_f K2 (qrf_mf (rs := [54]) f3 (fun j j1 _ => by rw [qcd_hi (by omega)]; rfl)) rfl, fun y hy => ?_⟩⟩)⟩⟩
        · have e1 : qsv v w = true := by have := qb_0.mp q4; simpa using this
          rw [R2 y hy]
          show (qsv v y || decide (w ≤ y)) = (qsv v y || decide (w + 1 ≤ y))
          by_cases c2 : y = w
          · rw [c2, e1]; rfl
          · by_cases c3 : w ≤ y
            · rw [decide_eq_true c3, decide_eq_true (by omega)]
            · rw [decide_eq_false c3, decide_eq_false (by omega)]
        · have e1 : qsv v w = false := by have := qb_n0.mp q4; simpa using this
          rw [R3 y hy]
          show ((qsv v y || decide (w ≤ y)) && !(y == w)) = (qsv v y || decide (w + 1 ≤ y))
          by_cases c2 : y = w
          · rw [c2, e1, decide_eq_false (show ¬ (w + 1 ≤ w) by omega)]; simp
          · rw [beq_eq_false_iff_ne.mpr c2, Bool.not_false, Bool.and_true]
            by_cases c3 : w ≤ y
            · rw [decide_eq_true c3, decide_eq_true (by omega)]
            · rw [decide_eq_false c3, decide_eq_false (by omega)]
      · have e16 : w = 16 := by omega
        rw [e16] at R2 ⊢
        refine fin h2 f2 (fun y hy => ?_) K2
        rw [R2 y hy]
        show (qsv v y || decide (16 ≤ y)) = qsv v y
        by_cases c3 : 16 ≤ y
        · rw [decide_eq_true c3, qsv_hi c3]; rfl
        · rw [decide_eq_false c3, Bool.or_false]
    have fill : ∀ w, w ≤ 4 → ∀ h2, (qmf [1037, 66, 54] h h2 ∧ qlm h2 ∧ ∀ c : Nat, c < w → h2 54 0 ((24 + c : Nat) : Int) = -1) → G 41 [some (qr 12 0), none, none, some (qi kk), some (qi (v : Int)), some (qi (w : Int))] [] h2 := by
      refine q_up (fun w hw ih h2 hI => b_X12_list_41 hG ⟨fun q4 => take 1 (by omega) (by omega) h2 ⟨hI.1, hI.2.1, fun y hy => ?_⟩, fun q4 => ⟨by omega, by omega, by omega, ih (by omega) _ ⟨qmf_trans hI.1 (qmf_qu (by rw [qcd_hi (by omega)]; rfl)), qlm_f hI.2.1 (qmf_qu (rs := [54]) (by rw [qcd_hi (by omega)]; rfl)) rfl, fun c hc => ?_⟩⟩⟩)
      · rw [hI.2.2 (y / 64) (by omega), qbt_neg1]
        show true = (qsv v y || decide (1 ≤ y))
        rcases Nat.eq_zero_or_pos y with c | c
        · rw [c, V.1]; rfl
        · rw [decide_eq_true (show 1 ≤ y by omega), Bool.or_true]
      · by_cases e2 : c = w
        · rw [e2, show ((24 + w : Nat) : Int) = 24 + (w : Int) by omega, qu_at]
        · rw [qu_ne (by omega)]; exact hI.2.2 c (by omega)
    exact fill 0 (by omega) h1 ⟨qmf_mono f1 rfl, K1, fun c hc => absurd hc (Nat.not_lt_zero _)⟩
  · rw [if_pos e, if_neg (show ¬ i = -1 by omega), qnth_no (Or.inl (by omega)), if_pos rfl]
theorem m_listed (hL : qhL g) (M : qmd h n S) (K : qlm h) (k : ∀ h', qmf [1037, 66] h h' → qlm h' → Q (qon n S s (-1) (fun S => if qgn S ≤ 8 then (qc (qpl (qgn S)) (qvm S 15) : Int) else -2)) h') : q_tr l g (d + 5) n_X12_listed [qr 12 0, qi s] h Q := by
  have k0 := k h (qmf_refl _ _) K
  refine i_X12_listed hL (fun G hG hw _ => b_X12_listed_0 hG (m_isSet hL M (hw (qi s) (by simp)) (q_no (fun e => q_qe k0 (by rw [qon_out e])) (fun j e hj => ?_))))
  subst e
  obtain ⟨V, R⟩ := M.2.2 j hj
  have h6 := M.2.1
  rw [qon_in hj] at k k0
  rw [q_4j]
  refine ⟨by omega, m_genus hL (Or.inl ⟨rfl, by omega⟩) R (qm6_1 V.1) ⟨fun q => ?_, fun q => q_qe k0 (by rw [if_neg (by omega)])⟩⟩
  rw [if_pos (by omega)] at k
  clear k0
  generalize S j = T at *
  have hpl := qvm_pl V.1 (qfew V.1 (by omega))
  have hvm := qvm_lt T 15
  have find : ∀ w, w ≤ qc (qpl (qgn T)) (qvm T 15) → ∀ h1, qmf [1037, 66] h h1 → qlm h1 → G 76 [some (qr 12 0), none, some (qi (qgn T : Nat)), some (qi (qvm T 15 : Nat)), some (qi (w : Int))] [] h1 := by
    have hb : qc (qpl (qgn T)) (qvm T 15) ≤ qvm T 15 := qc_le _ _
    refine q_up (fun w hw ih h1 f1 K1 => b_X12_listed_76 hG (m_inList hL K1 (by omega) (fun h2 f2 K2 => ?_)))
    have ep : qpick (qpl (qgn T)) 32768 (w : Int) = qnth (qpl (qgn T)) 32768 (w : Int) := by unfold qpick; rw [if_neg (by omega)]
    rw [ep]
    refine ⟨fun q2 => q_qe (k h2 (qmf_trans f1 f2) K2) ?_, fun q2 => ⟨by omega, ih ?_ h2 (qmf_trans f1 f2) K2⟩⟩
    · rcases Nat.lt_or_ge w (qc (qpl (qgn T)) (qvm T 15)) with c | c
      · obtain ⟨v, v1, v2, v3⟩ := qc_kth c
        have := qnth_at v2 (show v < 32768 by omega)
        rw [v3, q2] at this
        omega
      · omega
    · rcases Nat.lt_or_ge w (qc (qpl (qgn T)) (qvm T 15)) with c | c
      · exact c
      · exfalso
        apply q2
        rw [show w = qc (qpl (qgn T)) (qvm T 15) by omega]
        exact qnth_at hpl (by omega)
  have num : ∀ m, m ≤ 15 → G 35 [some (qr 12 0), some (qi (j : Int)), some (qi (qgn T : Nat)), some (qi (qvm T m : Nat)), some (qi ((m + 1 : Nat) : Int))] [] h := by
    refine q_up (fun m hm ih => b_X12_listed_35 hG ⟨fun q2 => ?_, fun q2 => ?_⟩)
    · rw [show m = 15 by omega]
      exact find 0 (Nat.zero_le _) h (qmf_refl _ _) K
    · have ih := ih (by omega)
      have hb := qvm_lt T m
      have hb2 : 2 ^ m ≤ 2 ^ 15 := Nat.pow_le_pow_right (by omega) (by omega)
      rw [q_4j]
      refine ⟨by omega, by omega, m_isOf hL (Or.inl ⟨Or.inl rfl, by omega⟩) R (qm6_1 V.1) ?_⟩
      rw [qin_nat]
      have ev : ((qvm T (m + 1) : Nat) : Int) = 2 * (qvm T m : Int) + (if T (m + 1) then 0 else 1) := by
        show ((2 * qvm T m + (if T (m + 1) then 0 else 1) : Nat) : Int) = _
        split <;> omega
      rw [ev] at ih
      refine ⟨fun q3 => ⟨by omega, by omega, ?_⟩, fun q3 => ⟨by omega, by omega, ?_⟩⟩
      · rw [qb_0.mp q3] at ih; exact ih
      · rw [qb_n0.mp q3] at ih; exact ih
  exact num 0 (by omega)
theorem qsort_l (S : QZ) : qlone (qtop S) (qgn S) = decide (0 < qsort S) := by
  unfold qlone qsort
  by_cases c : 2 * (qgn S : Int) = qtop S + 1
  · rw [if_pos c, decide_eq_true (Or.inl c)]; rfl
  · rw [if_neg c]
    by_cases c2 : 0 < qtop S ∧ qtop S % 2 = 0 ∧ 2 * (qgn S : Int) = qtop S + 2
    · rw [if_pos c2, decide_eq_true (Or.inr c2)]; rfl
    · rw [if_neg c2, decide_eq_false (by rintro (q | q); exact c q; exact c2 q)]; rfl
theorem m_count {tn dn : Nat} {b : Nat → Bool} {w : Int} (hL : qhL g) (M : qmd h n S) (ht : h 12 0 2 = tn) (hd : h 12 0 26 = dn) (B : ∀ i : Nat, i < 3 → h 59 0 i = qb (b i)) (k : Q (qcnt n S tn dn (qc b 3) w) h) : q_tr l g (d + 4) n_X12_count [qr 12 0, qi w] h Q := by
  refine i_X12_count hL (fun G hG _ _ => b_X12_count_0 hG ?_)
  have h6 := M.2.1
  unfold qcnt at k
  have b0 := B 0 (by omega)
  have b1 := B 1 (by omega)
  have b2 := B 2 (by omega)
  rw [show ((0 : Nat) : Int) = 0 from rfl] at b0
  rw [show ((1 : Nat) : Int) = 1 from rfl] at b1
  rw [show ((2 : Nat) : Int) = 2 from rfl] at b2
  have e3 : ((qc b 3 : Nat) : Int) = qb (b 0) + qb (b 1) + qb (b 2) := by
    rw [qc_s, qc_s, qc_s]
    show (((0 + _) + _ + _ : Nat) : Int) = _
    cases b 0 <;> cases b 1 <;> cases b 2 <;> rfl
  refine ⟨fun q => q_qe k ?_, fun q => q_qe k ?_, fun q => ?_, fun q => q_qe k ?_, fun q => q_qe k ?_, fun q => ?_, fun q => ?_, fun q => ?_, fun q => ?_, trivial⟩
  · rw [if_neg (by omega), if_neg (by omega), if_neg (by omega), if_neg (by omega), if_neg (by omega), if_neg (by omega), if_neg (by omega), if_neg (by omega)]
  · rw [if_pos q]; exact M.1
  · rw [if_neg (by omega), if_pos q] at k
    have key : ∀ m, m ≤ n → G 55 [some (qr 12 0), none, some (qi (qsum (fun j => (qgn (S j) : Nat)) m)), some (qi (m : Int)), none, none] [] h := by
      refine q_up (fun m hm ih => b_X12_count_55 hG ?_)
      rw [M.1]
      refine ⟨fun q => q_qe k (by rw [show n = m by omega]), fun q => ⟨by omega, ?_⟩⟩
      obtain ⟨a1, a2⟩ := M.2.2 m (by omega)
      have h1 := qgn_le a1.1
      have h2 := qsum_bd (f := fun j => (qgn (S j) : Int)) (a := 0) (b := 200) (n := m) (fun j hj => by have := qgn_le (M.2.2 j (by omega)).1.1; omega)
      rw [q_4j]
      exact m_genus hL (Or.inl ⟨rfl, by omega⟩) a2 (qm6_1 a1.1) ⟨by omega, by omega, ih (by omega)⟩
    exact key 0 (Nat.zero_le _)
  · rw [if_neg (by omega), if_neg (by omega), if_pos q]; exact ht
  · rw [if_neg (by omega), if_neg (by omega), if_neg (by omega), if_pos q]; exact hd
  · rw [if_neg (by omega), if_neg (by omega), if_neg (by omega), if_neg (by omega), if_pos q, e3] at k
    rw [b0, b1, b2]
    cases c0 : b 0 <;> cases c1 : b 1 <;> cases c2 : b 2 <;> rw [c0, c1, c2] at k <;> simp only [qb_t, qb_f] at k ⊢ <;> refine ⟨by omega, fun q0 => ?_, fun q0 => ?_⟩ <;> first | exact absurd q0 (by decide) | refine ⟨by omega, fun q1 => ?_, fun q1 => ?_⟩ <;> first | exact absurd q1 (by decide) | refine ⟨by omega, by omega, fun q2 => ?_, fun q2 => ?_⟩ <;> first | exact absurd q2 (by decide) | exact ⟨by omega, k⟩
  · rw [if_neg (by omega), if_neg (by omega), if_neg (by omega), if_neg (by omega), if_neg (by omega), if_pos q] at k
    have key : ∀ m, m ≤ n → G 141 [some (qr 12 0), none, some (qi (qbits (fun j => qlone (qtop (S j)) (qgn (S j))) m)), some (qi (m : Int)), none, none] [] h := by
      refine q_up (fun m hm ih => b_X12_count_141 hG ?_)
      rw [M.1]
      refine ⟨fun q => q_qe k (by rw [show n = m by omega]), fun q => ⟨by omega, ?_⟩⟩
      obtain ⟨a1, a2⟩ := M.2.2 m (by omega)
      rw [q_4j]
      have ih := ih (by omega)
      have eq1 : qbits (fun j => qlone (qtop (S j)) (qgn (S j))) (m + 1) = if decide (0 < qsort (S m)) then q_or (qbits (fun j => qlone (qtop (S j)) (qgn (S j))) m) (q_shl 1 m) else qbits (fun j => qlone (qtop (S j)) (qgn (S j))) m := by
        show (if qlone (qtop (S m)) (qgn (S m)) then _ else _) = _
        rw [qsort_l]
      rw [eq1] at ih
      refine m_sortOf hL (by omega) a2 a1.1 ⟨fun q2 => ⟨by omega, ?_⟩, fun q2 => ⟨by omega, ?_⟩⟩
      · rw [decide_eq_false (by omega)] at ih; exact ih
      · rw [decide_eq_true (by omega)] at ih; exact ih
    exact key 0 (Nat.zero_le _)
  · rw [if_neg (by omega), if_neg (by omega), if_neg (by omega), if_neg (by omega), if_neg (by omega), if_neg (by omega), if_pos q] at k
    have key : ∀ m, m ≤ n → G 181 [some (qr 12 0), none, some (qi (qmax (fun j => qtop (S j)) m)), some (qi (m : Int)), none, none] [] h := by
      refine q_up (fun m hm ih => b_X12_count_181 hG ?_)
      rw [M.1]
      refine ⟨fun q => q_qe k (by rw [show n = m by omega]), fun q => ⟨by omega, ?_⟩⟩
      obtain ⟨a1, a2⟩ := M.2.2 m (by omega)
      have htb := qtop_bd a1.1
      rw [q_4j]
      have ih := ih (by omega)
      have eq1 : qmax (fun j => qtop (S j)) (m + 1) = max (qmax (fun j => qtop (S j)) m) (qtop (S m)) := rfl
      rw [eq1] at ih
      have rg : qrg 54 (4 * m) := Or.inl ⟨Or.inl rfl, by omega⟩
      refine m_cond hL rg a2 (qm6_1 a1.1) ⟨by omega, ?_⟩
      rw [show qtop (S m) + 1 - 1 = qtop (S m) by omega]
      refine ⟨fun q2 => b_X12_count_218 hG ⟨by omega, ?_⟩, fun q2 => ⟨by omega, m_cond hL rg a2 (qm6_1 a1.1) ⟨by omega, ?_⟩⟩⟩
      · rw [Int.max_eq_left q2] at ih; exact ih
      · rw [show qtop (S m) + 1 - 1 = qtop (S m) by omega]
        rw [Int.max_eq_right (by omega)] at ih
        exact b_X12_count_218 hG ⟨by omega, ih⟩
    exact key 0 (Nat.zero_le _)
  · rw [if_neg (by omega), if_neg (by omega), if_neg (by omega), if_neg (by omega), if_neg (by omega), if_neg (by omega), if_neg (by omega), if_pos q] at k
    unfold qlack at k
    generalize hp : (fun y => decide (0 < n) && !(qex (fun j => S j y) n)) = p at k
    have hpe : ∀ y, p y = (decide (0 < n) && !(qex (fun j => S j y) n)) := fun y => by rw [← hp]
    have p0 : ∀ y, (n = 0 ∨ ∃ j, j < n ∧ S j y = true) → p y = false := fun y q => by
      rw [hpe]
      rcases q with q | q
      · rw [q]; rfl
      · rw [qex_iff.mpr q, Bool.not_true, Bool.and_false]
    have key : ∀ m, m ≤ 256 → 1 ≤ m → G 228 [some (qr 12 0), none, some (qi (qc p m : Nat)), some (qi (m : Int)), none, none] [] h := by
      refine q_up (fun m hm ih hm1 => b_X12_count_228 hG ?_)
      rw [M.1]
      refine ⟨fun q2 => q_qe k ?_, fun q2 => ⟨fun q3 => q_qe k ?_, fun q3 => ?_⟩⟩
      · rw [qc_none (m := m) (n := 400) (by omega) (fun y y1 _ => p0 y (by
          rcases Nat.eq_zero_or_pos n with c | c
          · exact Or.inl c
          · exact Or.inr ⟨0, c, (M.2.2 0 c).1.1.2.2 y (by omega)⟩))]
      · rw [qc_none (m := m) (n := 400) (by omega) (fun y y1 _ => p0 y (Or.inl (by omega)))]
      · have hcl := qc_le p m
        have ih := ih (by omega) (by omega)
        have inner : ∀ c, c ≤ n → G 248 [some (qr 12 0), none, some (qi (qc p m : Nat)), some (qi (m : Int)), some (qi (qb (!(qex (fun j => S j m) c)))), some (qi (c : Int))] [] h := by
          refine q_up (fun c hc ihc => b_X12_count_248 hG ?_)
          rw [M.1]
          refine ⟨fun q4 => ?_, fun q4 => ⟨by omega, ?_⟩⟩
          · have ec : c = n := by omega
            have ep := hpe m
            rw [decide_eq_true (by omega), Bool.true_and, ← ec] at ep
            rw [← ep]
            refine ⟨fun q5 => ⟨by omega, ?_⟩, fun q5 => ⟨by omega, by omega, ?_⟩⟩
            · rw [qc_f (qb_0.mp q5)] at ih; exact ih
            · rw [qc_t (qb_n0.mp q5)] at ih; exact ih
          · rw [q_4j]
            obtain ⟨a1, a2⟩ := M.2.2 c (by omega)
            refine m_isOf hL (Or.inl ⟨Or.inl rfl, by omega⟩) a2 (qm6_1 a1.1) ?_
            rw [qin_nat]
            have ihc := ihc (by omega)
            have e1 : qex (fun j => S j m) (c + 1) = (qex (fun j => S j m) c || S c m) := rfl
            rw [e1] at ihc
            refine ⟨fun q5 => ⟨by omega, ?_⟩, fun q5 => ⟨by omega, ?_⟩⟩
            · rw [qb_0.mp q5, Bool.or_false] at ihc; exact ihc
            · rw [qb_n0.mp q5, Bool.or_true] at ihc; exact ihc
        exact inner 0 (Nat.zero_le _)
    have h1 : qc p 1 = 0 := by
      rw [qc_f]
      · rfl
      · rcases Nat.eq_zero_or_pos n with c | c
        · exact p0 0 (Or.inl c)
        · exact p0 0 (Or.inr ⟨0, c, (M.2.2 0 c).1.1.1⟩)
    have := key 1 (by omega) (by omega)
    rw [h1] at this
    exact this
end QM9
