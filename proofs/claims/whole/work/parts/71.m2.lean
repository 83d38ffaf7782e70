/-! the model: generators, stiff gaps, of which sort a set is -/
/-- the model's generators are those of S -/
def qmg (h : QM) (S : QZ) : Prop := h 12 0 23 = qgc S ∧ ∀ x : Nat, x < 400 → qgen S x = true → h 56 0 (qc (qgen S) x) = x
theorem qmg_fr {h h' : QM} {S : QZ} (a : qmg h S) (e1 : h' 12 0 23 = h 12 0 23) (e2 : ∀ j, h' 56 0 j = h 56 0 j) : qmg h' S := ⟨by rw [e1]; exact a.1, fun x h1 h2 => by rw [e2]; exact a.2 x h1 h2⟩
theorem qmg_f {rs : List Nat} {h h' : QM} {S : QZ} (a : qmg h S) (f : qmf rs h h') (e : (rs.contains 1023 || rs.contains 56) = false) : qmg h' S := by
  rw [Bool.or_eq_false_iff] at e
  exact qmg_fr a (f 12 0 23 e.1) (fun j => f 56 0 j e.2)
theorem qmg_k {h : QM} {S : QZ} (a : qmg h S) {k : Nat} (hk : k < qgc S) : h 56 0 k = qgk S k := by
  obtain ⟨h1, h2, h3⟩ := qgk_ok hk
  have := a.2 _ h2 h1
  rw [h3] at this; exact this
theorem qc_refl {p : Nat → Bool} {n : Nat} : ∀ m, m ≤ n + 1 → qc (fun x => p (n - x)) m + qc p (n + 1 - m) = qc p (n + 1)
  | 0, _ => by show 0 + _ = _; rw [Nat.zero_add]; rfl
  | m + 1, h => by
    have ih := qc_refl (p := p) (n := n) m (by omega)
    rw [show n + 1 - m = (n - m) + 1 by omega, qc_s] at ih
    rw [qc_s, show n + 1 - (m + 1) = n - m by omega]
    omega
theorem qc_or {p q : Nat → Bool} : ∀ {n : Nat}, (∀ x, x < n → ¬ (p x = true ∧ q x = true)) → qc (fun x => p x || q x) n = qc p n + qc q n
  | 0, _ => rfl
  | n + 1, h => by
    rw [qc_s, qc_s, qc_s, qc_or (fun x hx => h x (by omega))]
    have := h n (by omega)
    cases hp : p n <;> cases hq : q n <;> simp
    · omega
    · omega
    · exact absurd ⟨hp, hq⟩ this
theorem qc_gap (S : QZ) : ∀ n, qc S n + qc (qgap S) n = n
  | 0 => rfl
  | n + 1 => by
    have := qc_gap S n
    rw [qc_s, qc_s]
    cases h : S n with
    | true => rw [qgap_t.mpr h]; simp; omega
    | false => rw [qgap_f.mpr h]; simp; omega
theorem qc_full {p : Nat → Bool} : ∀ {n : Nat}, qc p n = n → ∀ x, x < n → p x = true
  | 0, _, x, hx => absurd hx (Nat.not_lt_zero _)
  | n + 1, h, x, hx => by
    have h1 := qc_le p n
    rw [qc_s] at h
    cases hp : p n with
    | false => rw [hp] at h; simp at h; omega
    | true =>
      rw [hp] at h
      simp at h
      by_cases e : x = n
      · rw [e]; exact hp
      · exact qc_full h x (by omega)
theorem qc_but {p : Nat → Bool} {t : Nat} (ht : p t = false) : ∀ {n : Nat}, t < n → qc p n + 1 ≤ n
  | 0, h => absurd h (Nat.not_lt_zero _)
  | n + 1, h => by
    rw [qc_s]
    by_cases e : t = n
    · subst e; rw [ht]; have := qc_le p t; simp; omega
    · have := qc_but ht (n := n) (by omega)
      split <;> omega
theorem qc_but2 {p : Nat → Bool} {t : Nat} (ht : p t = false) : ∀ {n : Nat}, qc p n + 1 = n → t < n → ∀ x, x < n → x ≠ t → p x = true
  | 0, _, h, _, _, _ => absurd h (Nat.not_lt_zero _)
  | n + 1, h, htn, x, hx, hxt => by
    rw [qc_s] at h
    by_cases e : t = n
    · subst e
      rw [ht] at h
      simp at h
      exact qc_full h x (by omega)
    · have h2 := qc_but ht (n := n) (by omega)
      cases hp : p n with
      | false => rw [hp] at h; simp at h; omega
      | true =>
        rw [hp] at h
        simp at h
        by_cases e2 : x = n
        · rw [e2]; exact hp
        · exact qc_but2 ht (n := n) (by omega) (by omega) x (by omega) hxt
/-- each but the half of TOP has just one of it and TOP less it in the set -/
def qpair (S : QZ) (t : Nat) : Prop := ∀ x, x ≤ t → 2 * x ≠ t → S x ≠ S (t - x)
theorem qpair_iff {S : QZ} (hS : ∀ a b, S a = true → S b = true → S (a + b) = true) {t : Nat} (ht : S t = false) : qpair S t ↔ (2 * qc (qgap S) (t + 1) = t + 1 ∨ (t % 2 = 0 ∧ 2 * qc (qgap S) (t + 1) = t + 2)) := by
  have h1 := qc_refl (p := S) (n := t) (t + 1) (Nat.le_refl _)
  rw [Nat.sub_self] at h1
  have h2 := qc_gap S (t + 1)
  have hno : ∀ x, x < t + 1 → ¬ (S x = true ∧ S (t - x) = true) := fun x hx q => by
    have := hS _ _ q.1 q.2
    rw [show x + (t - x) = t by omega, ht] at this; cases this
  have h3 := qc_or (p := S) (q := fun x => S (t - x)) (n := t + 1) hno
  have h4 := qc_le (fun x => S x || S (t - x)) (t + 1)
  have h0 : qc S 0 = 0 := rfl
  rw [h0] at h1
  have hm : t % 2 = 0 → (S (t / 2) || S (t - t / 2)) = false := fun q => by
    rw [show t - t / 2 = t / 2 by omega, Bool.or_self]
    cases e : S (t / 2) with
    | false => rfl
    | true => exact absurd ⟨e, by rw [show t - t / 2 = t / 2 by omega]; exact e⟩ (hno (t / 2) (by omega))
  constructor
  · intro hp
    by_cases e : t % 2 = 0
    · right
      refine ⟨e, ?_⟩
      have h5 := qc_but (p := fun x => S x || S (t - x)) (t := t / 2) (hm e) (n := t + 1) (by omega)
      have h6 : t ≤ qc (fun x => S x || S (t - x)) (t + 1) := by
        have : qc (fun x => !(x == t / 2)) (t + 1) ≤ qc (fun x => S x || S (t - x)) (t + 1) := qc_inj (f := fun x => x) (fun x hx hq => ⟨hx, by
          have hne : x ≠ t / 2 := by simpa using hq
          have := hp x (by omega) (by omega)
          cases c1 : S x <;> cases c2 : S (t - x) <;> simp_all⟩) (fun x y _ _ _ _ q => q)
        have h7 : qc (fun x => !(x == t / 2)) (t + 1) + qc (qgap (fun x => !(x == t / 2))) (t + 1) = t + 1 := qc_gap _ _
        have h8 : qc (qgap (fun x => !(x == t / 2))) (t + 1) ≤ qc (fun _ => true) 1 := qc_inj (f := fun _ => 0) (fun x _ _ => ⟨by omega, rfl⟩) (fun x y _ _ q1 q2 _ => by
          unfold qgap at q1 q2
          simp at q1 q2
          omega)
        rw [qc_all] at h8
        omega
      omega
    · left
      have h6 : t + 1 ≤ qc (fun x => S x || S (t - x)) (t + 1) := by
        have := qc_inj (p := fun _ => true) (q := fun x => S x || S (t - x)) (f := fun x => x) (N := t + 1) (M := t + 1) (fun x hx _ => ⟨hx, by
          have := hp x (by omega) (by omega)
          cases c1 : S x <;> cases c2 : S (t - x) <;> simp_all⟩) (fun x y _ _ _ _ q => q)
        rw [qc_all] at this; exact this
      omega
  · rintro (q | ⟨q1, q2⟩)
    · have hf := qc_full (p := fun x => S x || S (t - x)) (n := t + 1) (by omega)
      intro x hx _ e
      have := hf x (by omega)
      have h5 := hno x (by omega)
      rw [← e, Bool.or_self] at this
      exact h5 ⟨this, by rw [← e]; exact this⟩
    · have hf := qc_but2 (p := fun x => S x || S (t - x)) (t := t / 2) (hm q1) (n := t + 1) (by omega) (by omega)
      intro x hx hx2 e
      have := hf x (by omega) (by omega)
      have h5 := hno x (by omega)
      rw [← e, Bool.or_self] at this
      exact h5 ⟨this, by rw [← e]; exact this⟩
theorem qgn_top {S : QZ} (V : QV1 S) (h : 0 ≤ qtop S) : qgn S = qc (qgap S) ((qtop S).toNat + 1) := by
  have := qtop_bd V
  exact qc_none (by omega) (fun x h1 _ => qgap_t.mpr (qtop_in V (by omega)))
theorem qgn_m1 {S : QZ} (V : QV1 S) (h : qtop S = -1) : qgn S = 0 := by
  have : qgn S = qc (qgap S) 0 := qc_none (by omega) (fun x _ _ => qgap_t.mpr (qtop_in V (by omega)))
  rw [this]; rfl
/-- 0 no, 1 symmetric, 2 nearly -/
def qsort (S : QZ) : Int := if 2 * (qgn S : Int) = qtop S + 1 then 1 else if 0 < qtop S ∧ qtop S % 2 = 0 ∧ 2 * (qgn S : Int) = qtop S + 2 then 2 else 0
section QM2
variable {l : Launch} {g : QG} {d : Nat} {h : QM} {Q : Int → QM → Prop} {r a : Nat} {S : QZ}
theorem m_gens (hL : qhL g) (hr : (r = 54 ∨ r = 55) ∧ a ≤ 24) (R : qmr h r a S) (V : QV1 S) (k : ∀ h', qmf [1023, 56] h h' → qmg h' S → Q (qgc S : Nat) h') : q_tr l g (d + 3) n_X12_generatorsOf [qr 12 0, qr r 0, qi a] h Q := by
  have hrg : qrg r a := Or.inl hr
  have H := qm6_1 V
  obtain ⟨w1, w2, w3, w4, w5⟩ := qms_ok V
  have hcl := qc_le (qgen S)
  have htb := qtop_bd V
  have hgl : ∀ x, qgen S x = true → (x : Int) < qms S + max 1 (qtop S + 1) := fun x hx => by
    rcases qgen_top V w1 w3 hx with q | q <;> omega
  have R0 : ∀ h1, qmf [1023, 56] h h1 → qmr h1 r a S := fun h1 f => qmr_fr R (fun j _ _ => f _ _ _ (by
    rcases hr with ⟨rfl | rfl, ha⟩
    · unfold qcd; rw [if_neg (by omega)]; split <;> rfl
    · rfl))
  rcases hr with ⟨rfl | rfl, ha⟩
  · refine i_X12_generatorsOf_54 hL (fun G hG _ _ => b_X12_generatorsOf_54_0 hG ?_)
    have lp : ∀ m, m ≤ 512 → ∀ h1, (qmf [1023, 56] h h1 ∧ h1 12 0 23 = (qc (qgen S) m : Nat) ∧ ∀ x : Nat, x < m → qgen S x = true → h1 56 0 (qc (qgen S) x) = x) → ∀ e : Int, e = qms S + max 1 (qtop S + 1) → G 48 [some (qr 12 0), some (qr 54 0), some (qi a), none, some (qi e), some (qi (m : Int))] [] h1 := by
      refine q_up (fun m hm ih h1 hI e he => b_X12_generatorsOf_54_48 hG ?_)
      obtain ⟨f, i1, i2⟩ := hI
      have h4 : qc (qgen S) m ≤ m := hcl m
      refine ⟨fun q => ?_, fun q => m_isGen hL ⟨by omega, ha⟩ (R0 h1 f) H ?_⟩
      · have e4 : qc (qgen S) m = qgc S := by
          unfold qgc
          rcases Nat.le_total m 400 with a1 | a1
          · refine (qc_none a1 (fun x x1 x2 => ?_)).symm
            cases hx : qgen S x with
            | false => rfl
            | true => have := hgl x hx; omega
          · refine qc_none a1 (fun x x1 x2 => ?_)
            cases hx : qgen S x with
            | false => rfl
            | true => have := hgl x hx; omega
        rw [i1, e4]
        exact k h1 f ⟨by rw [i1, e4], fun x x1 x2 => i2 x (by have := hgl x x2; omega) x2⟩
      · rw [qin_nat]
        refine ⟨fun q2 => ?_, fun q2 => ⟨by omega, ?_⟩⟩
        · have hg := qb_n0.mp q2
          rw [i1]
          rw [qu_ne (by omega), i1]
          refine ⟨by omega, by omega, by omega, ?_⟩
          refine ih (by omega) _ ⟨qmf_trans f (qmf_trans (qmf_qu rfl) (qmf_qu rfl)), ?_, fun x x1 x2 => ?_⟩ e he
          · rw [qu_at, qc_t hg]; omega
          · rw [qu_ne (by omega)]
            by_cases e1 : x = m
            · subst e1; rw [qu_at]
            · rw [qu_ne (by have := qc_lt (p := qgen S) (show x < m by omega) x2; omega)]
              exact i2 x (by omega) x2
        · have hg := qb_0.mp q2
          refine ih (by omega) h1 ⟨f, by rw [qc_f hg]; exact i1, fun x x1 x2 => i2 x (by
            by_cases e1 : x = m
            · rw [e1, hg] at x2; cases x2
            · omega) x2⟩ e he
    have lq : ∀ m, m ≤ qms S → 1 ≤ m → ∀ h1, (qmf [1023, 56] h h1 ∧ h1 12 0 23 = 0) → G 7 [some (qr 12 0), some (qr 54 0), some (qi a), some (qi (m : Int)), none, none] [] h1 := by
      refine q_up (fun m hm ih h0 h1 hI => b_X12_generatorsOf_54_7 hG (m_isOf hL hrg (R0 h1 hI.1) H ?_))
      rw [qin_nat]
      refine ⟨fun q => m_cond hL hrg (R0 h1 hI.1) H ?_, fun q => ⟨by omega, ih (by
        rcases Nat.lt_or_ge m (qms S) with a1 | a1
        · exact a1
        · rw [show m = qms S by omega, w3] at q; exact absurd q (by decide)) (by omega) h1 hI⟩⟩
      have em : m = qms S := by
        rcases Nat.lt_or_ge m (qms S) with a1 | a1
        · rw [w4 m (by omega) a1] at q; exact absurd rfl q
        · omega
      rw [em]
      have c0 : qc (qgen S) (qms S) = 0 := qgen_first V
      have st : ∀ e : Int, e = qms S + max 1 (qtop S + 1) → G 48 [some (qr 12 0), some (qr 54 0), some (qi a), none, some (qi e), some (qi ((qms S : Nat) : Int))] [] h1 := lp (qms S) (by omega) h1 ⟨hI.1, by rw [hI.2, c0]; rfl, fun x x1 x2 => by
        have := qc_lt (p := qgen S) x1 x2; omega⟩
      exact ⟨fun q2 => ⟨by omega, st _ (by omega)⟩, fun q2 => ⟨by omega, st _ (by omega)⟩⟩
    exact lq 1 (by omega) (by omega) _ ⟨qmf_qu rfl, qu_at⟩
  · refine i_X12_generatorsOf_55 hL (fun G hG _ _ => b_X12_generatorsOf_55_0 hG ?_)
    have lp : ∀ m, m ≤ 512 → ∀ h1, (qmf [1023, 56] h h1 ∧ h1 12 0 23 = (qc (qgen S) m : Nat) ∧ ∀ x : Nat, x < m → qgen S x = true → h1 56 0 (qc (qgen S) x) = x) → ∀ e : Int, e = qms S + max 1 (qtop S + 1) → G 48 [some (qr 12 0), some (qr 55 0), some (qi a), none, some (qi e), some (qi (m : Int))] [] h1 := by
      refine q_up (fun m hm ih h1 hI e he => b_X12_generatorsOf_55_48 hG ?_)
      obtain ⟨f, i1, i2⟩ := hI
      have h4 : qc (qgen S) m ≤ m := hcl m
      refine ⟨fun q => ?_, fun q => m_isGen hL ⟨by omega, ha⟩ (R0 h1 f) H ?_⟩
      · have e4 : qc (qgen S) m = qgc S := by
          unfold qgc
          rcases Nat.le_total m 400 with a1 | a1
          · refine (qc_none a1 (fun x x1 x2 => ?_)).symm
            cases hx : qgen S x with
            | false => rfl
            | true => have := hgl x hx; omega
          · refine qc_none a1 (fun x x1 x2 => ?_)
            cases hx : qgen S x with
            | false => rfl
            | true => have := hgl x hx; omega
        rw [i1, e4]
        exact k h1 f ⟨by rw [i1, e4], fun x x1 x2 => i2 x (by have := hgl x x2; omega) x2⟩
      · rw [qin_nat]
        refine ⟨fun q2 => ?_, fun q2 => ⟨by omega, ?_⟩⟩
        · have hg := qb_n0.mp q2
          rw [i1]
          rw [qu_ne (by omega), i1]
          refine ⟨by omega, by omega, by omega, ?_⟩
          refine ih (by omega) _ ⟨qmf_trans f (qmf_trans (qmf_qu rfl) (qmf_qu rfl)), ?_, fun x x1 x2 => ?_⟩ e he
          · rw [qu_at, qc_t hg]; omega
          · rw [qu_ne (by omega)]
            by_cases e1 : x = m
            · subst e1; rw [qu_at]
            · rw [qu_ne (by have := qc_lt (p := qgen S) (show x < m by omega) x2; omega)]
              exact i2 x (by omega) x2
        · have hg := qb_0.mp q2
          refine ih (by omega) h1 ⟨f, by rw [qc_f hg]; exact i1, fun x x1 x2 => i2 x (by
            by_cases e1 : x = m
            · rw [e1, hg] at x2; cases x2
            · omega) x2⟩ e he
    have lq : ∀ m, m ≤ qms S → 1 ≤ m → ∀ h1, (qmf [1023, 56] h h1 ∧ h1 12 0 23 = 0) → G 7 [some (qr 12 0), some (qr 55 0), some (qi a), some (qi (m : Int)), none, none] [] h1 := by
      refine q_up (fun m hm ih h0 h1 hI => b_X12_generatorsOf_55_7 hG (m_isOf hL hrg (R0 h1 hI.1) H ?_))
      rw [qin_nat]
      refine ⟨fun q => m_cond hL hrg (R0 h1 hI.1) H ?_, fun q => ⟨by omega, ih (by
        rcases Nat.lt_or_ge m (qms S) with a1 | a1
        · exact a1
        · rw [show m = qms S by omega, w3] at q; exact absurd q (by decide)) (by omega) h1 hI⟩⟩
      have em : m = qms S := by
        rcases Nat.lt_or_ge m (qms S) with a1 | a1
        · rw [w4 m (by omega) a1] at q; exact absurd rfl q
        · omega
      rw [em]
      have c0 : qc (qgen S) (qms S) = 0 := qgen_first V
      have st : ∀ e : Int, e = qms S + max 1 (qtop S + 1) → G 48 [some (qr 12 0), some (qr 55 0), some (qi a), none, some (qi e), some (qi ((qms S : Nat) : Int))] [] h1 := lp (qms S) (by omega) h1 ⟨hI.1, by rw [hI.2, c0]; rfl, fun x x1 x2 => by
        have := qc_lt (p := qgen S) x1 x2; omega⟩
      exact ⟨fun q2 => ⟨by omega, st _ (by omega)⟩, fun q2 => ⟨by omega, st _ (by omega)⟩⟩
    exact lq 1 (by omega) (by omega) _ ⟨qmf_qu rfl, qu_at⟩
theorem m_isStiff {x : Int} (hL : qhL g) (hr : (r = 54 ∨ r = 55) ∧ a ≤ 24) (R : qmr h r a S) (V : QV1 S) (hx : -100000000 ≤ x ∧ x < 100000000 ) (k : Q (qb (qin (qstf S) x)) h) : q_tr l g (d + 2) n_X12_isStiff [qr r 0, qi a, qi x] h Q := by
  have hrg : qrg r a := Or.inl hr
  have H := qm6_1 V
  have no : qin (qstf S) x = false → Q 0 h := fun q => q_qe k (by rw [q]; rfl)
  have st0 : ∀ y : Nat, S y = true → qstf S y = false := fun y hy => by unfold qstf; rw [hy]; simp
  rcases hr with ⟨rfl | rfl, ha⟩
  · refine i_X12_isStiff_54 hL (fun G hG _ _ => b_X12_isStiff_54_0 hG ?_)
    refine ⟨fun q => ⟨Or.inl rfl, no ?_⟩, fun q => m_isOf hL hrg R H ?_⟩
    · rcases Int.lt_or_le x 0 with q2 | q2
      · exact qin_neg q2
      · rw [show x = ((0 : Nat) : Int) by omega, qin_nat]; exact st0 0 V.1
    · obtain ⟨y, rfl⟩ := Int.eq_ofNat_of_zero_le (show 0 ≤ x by omega)
      rw [qin_nat] at k no ⊢
      have key : ∀ m, m ≤ 256 → 1 ≤ m → (∀ z, 0 < z → z < m → S z = true → S (y + z) = true) → S y = false → G 18 [some (qr 54 0), some (qi a), some (qi (y : Int)), some (qi (m : Int))] [] h := by
        refine q_up (fun m hm ih hm1 hz hS => b_X12_isStiff_54_18 hG ⟨fun q3 => ⟨Or.inr rfl, q_qe k ?_⟩, fun q3 => m_isOf hL hrg R H ?_⟩)
        · have : qstf S y = true := by
            unfold qstf
            rw [decide_eq_true (by omega), hS, qex_f.mpr (fun z z1 => ?_)]
            · rfl
            · rcases Nat.lt_or_ge z 256 with a1 | a1
              · rcases Nat.eq_zero_or_pos z with a2 | a2
                · rw [decide_eq_false (by omega)]; rfl
                · cases e : S z with
                  | false => simp
                  | true => rw [hz z a2 (by omega) e]; simp
              · rw [H (y + z) (by omega)]; simp
          rw [this]; rfl
        · rw [qin_nat]
          have nx : (0 < m → S m = true → S (y + m) = true) → G 18 [some (qr 54 0), some (qi a), some (qi (y : Int)), some (qi ((m : Int) + 1))] [] h := fun q4 => ih (by omega) (by omega) (fun z z1 z2 z3 => by
            by_cases e : z = m
            · subst e; exact q4 z1 z3
            · exact hz z z1 (by omega) z3) hS
          refine ⟨fun q4 => ⟨by omega, nx (fun _ q5 => by rw [q5] at q4; exact absurd q4 (by decide))⟩, fun q4 => ⟨by omega, m_isOf hL hrg R H ?_⟩⟩
          rw [show (y : Int) + (m : Int) = ((y + m : Nat) : Int) by omega, qin_nat]
          refine ⟨fun q5 => ⟨by omega, nx (fun _ _ => qb_n0.mp q5)⟩, fun q5 => ⟨Or.inl rfl, no ?_⟩⟩
          cases e : qstf S y with
          | false => rfl
          | true =>
            unfold qstf at e
            simp only [Bool.and_eq_true, Bool.not_eq_true', qex_f] at e
            have := e.2 m (by omega)
            rw [decide_eq_true (show 0 < m by omega), qb_n0.mp q4, qb_0.mp q5] at this
            cases this
      exact ⟨fun q3 => key 1 (by omega) (by omega) (fun z z1 z2 => by omega) (qb_0.mp q3), fun q3 => ⟨Or.inl rfl, no (st0 y (qb_n0.mp q3))⟩⟩
  · refine i_X12_isStiff_55 hL (fun G hG _ _ => b_X12_isStiff_55_0 hG ?_)
    refine ⟨fun q => ⟨Or.inl rfl, no ?_⟩, fun q => m_isOf hL hrg R H ?_⟩
    · rcases Int.lt_or_le x 0 with q2 | q2
      · exact qin_neg q2
      · rw [show x = ((0 : Nat) : Int) by omega, qin_nat]; exact st0 0 V.1
    · obtain ⟨y, rfl⟩ := Int.eq_ofNat_of_zero_le (show 0 ≤ x by omega)
      rw [qin_nat] at k no ⊢
      have key : ∀ m, m ≤ 256 → 1 ≤ m → (∀ z, 0 < z → z < m → S z = true → S (y + z) = true) → S y = false → G 18 [some (qr 55 0), some (qi a), some (qi (y : Int)), some (qi (m : Int))] [] h := by
        refine q_up (fun m hm ih hm1 hz hS => b_X12_isStiff_55_18 hG ⟨fun q3 => ⟨Or.inr rfl, q_qe k ?_⟩, fun q3 => m_isOf hL hrg R H ?_⟩)
        · have : qstf S y = true := by
            unfold qstf
            rw [decide_eq_true (by omega), hS, qex_f.mpr (fun z z1 => ?_)]
            · rfl
            · rcases Nat.lt_or_ge z 256 with a1 | a1
              · rcases Nat.eq_zero_or_pos z with a2 | a2
                · rw [decide_eq_false (by omega)]; rfl
                · cases e : S z with
                  | false => simp
                  | true => rw [hz z a2 (by omega) e]; simp
              · rw [H (y + z) (by omega)]; simp
          rw [this]; rfl
        · rw [qin_nat]
          have nx : (0 < m → S m = true → S (y + m) = true) → G 18 [some (qr 55 0), some (qi a), some (qi (y : Int)), some (qi ((m : Int) + 1))] [] h := fun q4 => ih (by omega) (by omega) (fun z z1 z2 z3 => by
            by_cases e : z = m
            · subst e; exact q4 z1 z3
            · exact hz z z1 (by omega) z3) hS
          refine ⟨fun q4 => ⟨by omega, nx (fun _ q5 => by rw [q5] at q4; exact absurd q4 (by decide))⟩, fun q4 => ⟨by omega, m_isOf hL hrg R H ?_⟩⟩
          rw [show (y : Int) + (m : Int) = ((y + m : Nat) : Int) by omega, qin_nat]
          refine ⟨fun q5 => ⟨by omega, nx (fun _ _ => qb_n0.mp q5)⟩, fun q5 => ⟨Or.inl rfl, no ?_⟩⟩
          cases e : qstf S y with
          | false => rfl
          | true =>
            unfold qstf at e
            simp only [Bool.and_eq_true, Bool.not_eq_true', qex_f] at e
            have := e.2 m (by omega)
            rw [decide_eq_true (show 0 < m by omega), qb_n0.mp q4, qb_0.mp q5] at this
            cases this
      exact ⟨fun q3 => key 1 (by omega) (by omega) (fun z z1 z2 => by omega) (qb_0.mp q3), fun q3 => ⟨Or.inl rfl, no (st0 y (qb_n0.mp q3))⟩⟩
theorem m_isSpecial {x : Int} (hL : qhL g) (hr : (r = 54 ∨ r = 55) ∧ a ≤ 24) (R : qmr h r a S) (V : QV1 S) (k : Q (qb (qin (qspc S) x)) h) : q_tr l g (d + 3) n_X12_isSpecial [qr r 0, qi a, qi x] h Q := by
  have hrg : qrg r a := Or.inl hr
  have H := qm6_1 V
  have no : qin (qspc S) x = false → Q 0 h := fun q => q_qe k (by rw [q]; rfl)
  have big : ∀ y : Nat, qspc S y = true → 1 ≤ y ∧ y ≤ 255 := fun y hy => by
    unfold qspc at hy
    rw [Bool.and_eq_true] at hy
    have h1 := ((qstf_iff V).mp hy.1)
    refine ⟨h1.1, ?_⟩
    rcases Nat.lt_or_ge 255 y with q | q
    · rw [H y (by omega)] at h1; exact absurd h1.2.1 (by decide)
    · exact q
  rcases hr with ⟨rfl | rfl, ha⟩
  · refine i_X12_isSpecial_54 hL (fun G hG _ _ => b_X12_isSpecial_54_0 hG (m_in hL ?_))
    refine ⟨fun q => ⟨Or.inl rfl, no ?_⟩, fun q => ?_⟩
    · have q2 := of_decide_eq_false (qb_0.mp q)
      rcases Int.lt_or_le x 0 with q3 | q3
      · exact qin_neg q3
      · obtain ⟨y, rfl⟩ := Int.eq_ofNat_of_zero_le q3
        rw [qin_nat]
        cases e : qspc S y with
        | false => rfl
        | true => have := big y e; omega
    · have q2 := of_decide_eq_true (qb_n0.mp q)
      obtain ⟨y, rfl⟩ := Int.eq_ofNat_of_zero_le (show 0 ≤ x by omega)
      rw [qin_nat] at k no
      refine m_isStiff hL ⟨by omega, ha⟩ R V (by omega) ?_
      rw [qin_nat]
      refine ⟨fun q3 => ⟨Or.inl rfl, no (by unfold qspc; rw [qb_0.mp q3]; rfl)⟩, fun q3 => ⟨by omega, m_isOf hL hrg R H ?_⟩⟩
      rw [show (2 : Int) * (y : Int) = ((2 * y : Nat) : Int) by omega, qin_nat]
      exact ⟨fun q4 => ⟨Or.inl rfl, no (by unfold qspc; rw [qb_0.mp q4, Bool.and_false])⟩, fun q4 => ⟨Or.inr rfl, q_qe k (by unfold qspc; rw [qb_n0.mp q4, qb_n0.mp q3]; rfl)⟩⟩
  · refine i_X12_isSpecial_55 hL (fun G hG _ _ => b_X12_isSpecial_55_0 hG (m_in hL ?_))
    refine ⟨fun q => ⟨Or.inl rfl, no ?_⟩, fun q => ?_⟩
    · have q2 := of_decide_eq_false (qb_0.mp q)
      rcases Int.lt_or_le x 0 with q3 | q3
      · exact qin_neg q3
      · obtain ⟨y, rfl⟩ := Int.eq_ofNat_of_zero_le q3
        rw [qin_nat]
        cases e : qspc S y with
        | false => rfl
        | true => have := big y e; omega
    · have q2 := of_decide_eq_true (qb_n0.mp q)
      obtain ⟨y, rfl⟩ := Int.eq_ofNat_of_zero_le (show 0 ≤ x by omega)
      rw [qin_nat] at k no
      refine m_isStiff hL ⟨by omega, ha⟩ R V (by omega) ?_
      rw [qin_nat]
      refine ⟨fun q3 => ⟨Or.inl rfl, no (by unfold qspc; rw [qb_0.mp q3]; rfl)⟩, fun q3 => ⟨by omega, m_isOf hL hrg R H ?_⟩⟩
      rw [show (2 : Int) * (y : Int) = ((2 * y : Nat) : Int) by omega, qin_nat]
      exact ⟨fun q4 => ⟨Or.inl rfl, no (by unfold qspc; rw [qb_0.mp q4, Bool.and_false])⟩, fun q4 => ⟨Or.inr rfl, q_qe k (by unfold qspc; rw [qb_n0.mp q4, qb_n0.mp q3]; rfl)⟩⟩
theorem m_sortOf (hL : qhL g) (ha : a ≤ 24) (R : qmr h 54 a S) (V : QV1 S) (k : Q (qsort S) h) : q_tr l g (d + 3) n_X12_sortOf [qr 54 0, qi a] h Q := by
  have hrg : qrg 54 a := Or.inl ⟨Or.inl rfl, ha⟩
  have H := qm6_1 V
  have htb := qtop_bd V
  refine i_X12_sortOf_54 hL (fun G hG _ _ => b_X12_sortOf_54_0 hG (m_cond hL hrg R H ⟨by omega, ?_⟩))
  rw [show qtop S + 1 - 1 = qtop S by omega]
  rcases Int.lt_or_le (qtop S) 0 with q0 | q0
  · have e1 : qtop S = -1 := by omega
    refine b_X12_sortOf_54_10 hG ⟨fun q => ⟨fun q2 => q_qe k ?_, fun q2 => by omega⟩, fun q => by omega⟩
    unfold qsort
    rw [if_pos (by rw [qgn_m1 V e1, e1]; rfl)]
  · have ht := qtop_not (S := S) q0
    obtain ⟨t, et⟩ := Int.eq_ofNat_of_zero_le q0
    have et : qtop S = (t : Int) := et
    rw [et, Int.toNat_natCast] at ht
    have hg := qgn_top V q0
    rw [et, Int.toNat_natCast] at hg
    have hp := qpair_iff V.2.1 ht
    rw [← hg] at hp
    have ht0 : t ≠ 0 := fun q => by rw [q, V.1] at ht; cases ht
    have hse : qsort S = if 2 * (qgn S : Int) = (t : Int) + 1 then 1 else if 0 < (t : Int) ∧ (t : Int) % 2 = 0 ∧ 2 * (qgn S : Int) = (t : Int) + 2 then 2 else 0 := by unfold qsort; rw [et]
    rw [hse] at k
    rw [et]
    have key : ∀ m, m ≤ t + 1 → (∀ x, x < m → 2 * x ≠ t → S x ≠ S (t - x)) → G 10 [some (qr 54 0), some (qi a), some (qi (t : Int)), some (qi (m : Int))] [] h := by
      refine q_up (fun m hm ih hI => b_X12_sortOf_54_10 hG ⟨fun q => ⟨fun q2 => by omega, fun _ => ⟨by omega, fun q3 => q_qe k ?_, fun q3 => ⟨by omega, m_isOf hL hrg R H ?_⟩⟩⟩, fun q => ⟨by omega, fun q2 => ⟨by omega, ih (by omega) (fun x x1 x2 => ?_)⟩, fun q2 => m_isOf hL hrg R H ⟨by omega, m_isOf hL hrg R H ?_⟩⟩⟩)
      · rw [if_pos]
        have := hp.mp (fun x hx => hI x (by omega))
        omega
      · rw [show (t : Int) / 2 = ((t / 2 : Nat) : Int) by omega, qin_nat]
        have := hp.mp (fun x hx => hI x (by omega))
        refine ⟨fun q4 => q_qe k ?_, fun q4 => ?_⟩
        · rw [if_neg (by omega), if_pos (by omega)]
        · have h5 := V.2.1 _ _ (qb_n0.mp q4) (qb_n0.mp q4)
          rw [show t / 2 + t / 2 = t by omega, ht] at h5; cases h5
      · exact hI x (by omega) x2
      · rw [qin_nat, show (t : Int) - (m : Int) = ((t - m : Nat) : Int) by omega, qin_nat]
        refine ⟨fun q3 => ⟨by omega, ih (by omega) (fun x x1 x2 => ?_)⟩, fun q3 => q_qe k ?_⟩
        · by_cases e : x = m
          · subst e; intro z; exact q3 (by rw [z])
          · exact hI x (by omega) x2
        · have hne : ¬ qpair S t := fun z => z m (by omega) (by omega) (by
            revert q3
            cases S m <;> cases S (t - m) <;> simp [qb])
          rw [hp] at hne
          rw [if_neg (by omega), if_neg (by omega)]
    exact key 0 (by omega) (fun x hx => absurd hx (Nat.not_lt_zero _))
theorem m_below (hL : qhL g) (ha : a ≤ 24) (R : qmr h 54 a S) (V : QV1 S) (k : Q (qtop S + 1 - qgn S) h) : q_tr l g (d + 3) n_X12_belowOf [qr 54 0, qi a] h Q := by
  have htb := qtop_bd V
  have hg := qgn_le V
  exact i_X12_belowOf_54 hL (fun G hG _ _ => b_X12_belowOf_54_0 hG (m_cond hL (Or.inl ⟨Or.inl rfl, ha⟩) R (qm6_1 V) (m_genus hL (Or.inl ⟨rfl, ha⟩) R (qm6_1 V) ⟨by omega, k⟩)))
end QM2
