/-! PARTS -/
def qcn (c : Nat) (E : Nat → Nat → Bool) : Nat → Nat → Nat → Prop
  | 0, a, b => a = b
  | n + 1, a, b => ∃ m, m < c ∧ qcn c E n a m ∧ E m b = true
/-- one comes from the one to the other -/
def qco (c : Nat) (E : Nat → Nat → Bool) (a b : Nat) : Prop := ∃ n, qcn c E n a b
theorem qco_refl {c : Nat} {E : Nat → Nat → Bool} (a : Nat) : qco c E a a := ⟨0, rfl⟩
theorem qco_step {c : Nat} {E : Nat → Nat → Bool} {a m b : Nat} (h : qco c E a m) (hm : m < c) (e : E m b = true) : qco c E a b := by
  obtain ⟨n, hn⟩ := h
  exact ⟨n + 1, m, hm, hn, e⟩
theorem qco_trans {c : Nat} {E : Nat → Nat → Bool} {a b d : Nat} (h : qco c E a b) (h2 : qco c E b d) : qco c E a d := by
  obtain ⟨n, hn⟩ := h2
  induction n generalizing d with
  | zero => rw [← (show b = d from hn)]; exact h
  | succ n ih =>
    obtain ⟨m, m1, m2, m3⟩ := hn
    exact qco_step (ih m2) m1 m3
theorem qco_symm {c : Nat} {E : Nat → Nat → Bool} (hE : ∀ a b, a < c → b < c → E a b = true → E b a = true) {a b : Nat} (hb : b < c) (h : qco c E a b) : qco c E b a := by
  obtain ⟨n, hn⟩ := h
  induction n generalizing b with
  | zero => rw [(show a = b from hn)]; exact qco_refl _
  | succ n ih =>
    obtain ⟨m, m1, m2, m3⟩ := hn
    exact qco_trans (qco_step (qco_refl b) hb (hE m b m1 hb m3)) (ih m1 m2)
/-- all that is reached lies in what is closed -/
theorem qco_in {c : Nat} {E : Nat → Nat → Bool} {P : Nat → Prop} (hP : ∀ a b, a < c → P a → E a b = true → P b) {a b : Nat} (ha : P a) (h : qco c E a b) : P b := by
  obtain ⟨n, hn⟩ := h
  induction n generalizing b with
  | zero => rw [← (show a = b from hn)]; exact ha
  | succ n ih =>
    obtain ⟨m, m1, m2, m3⟩ := hn
    exact hP m b m1 (ih m2) m3
/-- the first ones of their PARTS -/
noncomputable def qfp (c : Nat) (V : Nat → Bool) (E : Nat → Nat → Bool) : Nat → Bool := fun k => qdc (V k = true ∧ ∀ j, j < k → V j = true → ¬ qco c E j k)
noncomputable def qprts (c : Nat) (V : Nat → Bool) (E : Nat → Nat → Bool) : Nat := qc (qfp c V E) c
/-- as many as there are ones that stand for their PART -/
theorem qprts_of {c : Nat} {V : Nat → Bool} {E : Nat → Nat → Bool} (hE : ∀ a b, a < c → b < c → E a b = true → E b a = true) (f : Nat → Nat)
    (h1 : ∀ a, a < c → V a = true → f a < c ∧ V (f a) = true ∧ f (f a) = f a) (h2 : ∀ a b, a < c → b < c → V a = true → V b = true → (f a = f b ↔ qco c E a b)) :
    qprts c V E = qc (fun a => V a && (f a == a)) c := by
  apply Nat.le_antisymm
  · refine qc_inj (f := f) (fun a ha hp => ?_) (fun a b ha hb hpa hpb e => ?_)
    · have h3 := (qdc_t.mp hp).1
      obtain ⟨k1, k2, k3⟩ := h1 a ha h3
      exact ⟨k1, by rw [k2, k3]; simp⟩
    · have pa := qdc_t.mp hpa
      have pb := qdc_t.mp hpb
      have hab := (h2 a b ha hb pa.1 pb.1).mp e
      rcases Nat.lt_trichotomy a b with q | q | q
      · exact absurd hab (pb.2 a q pa.1)
      · exact q
      · exact absurd (qco_symm hE hb hab) (pa.2 b q pb.1)
  · -- the first one of each PART
    have hex : ∀ a, ∃ m, (a < c ∧ V a = true → m ≤ a ∧ qfp c V E m = true ∧ qco c E m a) := fun a => by
      by_cases hc : a < c ∧ V a = true
      · obtain ⟨m, ⟨m1, m2, m3⟩, m4⟩ := pk_least (fun m => m < c ∧ V m = true ∧ qco c E m a) ⟨a, hc.1, hc.2, qco_refl a⟩
        refine ⟨m, fun _ => ⟨?_, qdc_t.mpr ⟨m2, fun j hj hv hco => m4 j hj ⟨by omega, hv, qco_trans hco m3⟩⟩, m3⟩⟩
        rcases Nat.lt_or_ge a m with q | q
        · exact absurd ⟨hc.1, hc.2, qco_refl a⟩ (m4 a q)
        · exact q
      · exact ⟨0, fun q => absurd q hc⟩
    obtain ⟨fm, hfm⟩ := Classical.axiomOfChoice hex
    refine qc_inj (f := fm) (fun a ha hp => ?_) (fun a b ha hb hpa hpb e => ?_)
    · have h3 := Bool.and_eq_true_iff.mp hp
      obtain ⟨k1, k2, k3⟩ := hfm a ⟨ha, h3.1⟩
      exact ⟨by omega, k2⟩
    · have ha3 := Bool.and_eq_true_iff.mp hpa
      have hb3 := Bool.and_eq_true_iff.mp hpb
      obtain ⟨k1, k2, k3⟩ := hfm a ⟨ha, ha3.1⟩
      obtain ⟨l1, l2, l3⟩ := hfm b ⟨hb, hb3.1⟩
      rw [← e] at l1 l2 l3
      have hab := qco_trans (qco_symm hE ha k3) l3
      have := (h2 a b ha hb ha3.1 hb3.1).mpr hab
      have e1 := beq_iff_eq.mp ha3.2
      have e2 := beq_iff_eq.mp hb3.2
      rw [e1, e2] at this
      exact this
/-- BEGINNINGS of x, and which are NEXT to one another -/
def qvx (S : QZ) (x k : Nat) : Bool := decide (k < qgc S) && qin S ((x : Int) - qgk S k)
def qeg (S : QZ) (x a b : Nat) : Bool := decide (a < qgc S) && decide (b < qgc S) && qin S ((x : Int) - qgk S a - qgk S b)
noncomputable def qprt (S : QZ) (x : Nat) : Nat := qprts (qgc S) (qvx S x) (qeg S x)
theorem qeg_symm {S : QZ} {x a b : Nat} (h : qeg S x a b = true) : qeg S x b a = true := by
  unfold qeg at h ⊢
  simp only [Bool.and_eq_true] at h ⊢
  exact ⟨⟨h.1.2, h.1.1⟩, by rw [show (x : Int) - qgk S b - qgk S a = (x : Int) - qgk S a - qgk S b by omega]; exact h.2⟩
theorem qin_add {S : QZ} (V : QV1 S) {x : Int} {y : Nat} (hx : qin S x = true) (hy : S y = true) : qin S (x + y) = true := by
  rcases Int.lt_or_le x 0 with q | q
  · rw [qin_neg q] at hx; cases hx
  · obtain ⟨n, rfl⟩ := Int.eq_ofNat_of_zero_le q
    rw [qin_nat] at hx
    rw [← Int.natCast_add, qin_nat]
    exact V.2.1 _ _ hx hy
theorem qeg_vx {S : QZ} (V : QV1 S) {x a b : Nat} (h : qeg S x a b = true) : qvx S x a = true ∧ qvx S x b = true := by
  unfold qeg at h
  unfold qvx
  simp only [Bool.and_eq_true, decide_eq_true_eq] at h ⊢
  obtain ⟨⟨h1, h2⟩, h3⟩ := h
  have ha := (qgen_in (qgk_ok h1).1).2
  have hb := (qgen_in (qgk_ok h2).1).2
  refine ⟨⟨h1, ?_⟩, h2, ?_⟩
  · have := qin_add V h3 hb
    rwa [show (x : Int) - qgk S a - qgk S b + qgk S b = (x : Int) - qgk S a by omega] at this
  · have := qin_add V h3 ha
    rwa [show (x : Int) - qgk S a - qgk S b + qgk S a = (x : Int) - qgk S b by omega] at this
theorem qprt_le (S : QZ) (x : Nat) : qprt S x ≤ qgc S := qc_le _ _
section QKnots1
variable {l : Launch} {g : QG} {d : Nat} {h : QM} {i : Int} {S : QZ} {Q : Int → QM → Prop}
theorem s_nextTo {x : Int} {am : Int} {p : Nat → Bool} (hL : qhL g) (V : QV2 S) (A : qat h i S) (hx : -1000 ≤ x ∧ x ≤ 1000) (hp : qbs am p)
    (k : ∀ z, qbs z (fun j => decide (j < qgc S) && p j && qin S (x - qgk S j)) → Q z h) : q_tr l g (d + 2) n_X3_nextTo [qr 8 i, qi x, qi am] h Q := by
  refine i_X3_nextTo hL (fun G hG _ _ => b_X3_nextTo_0 hG ?_)
  have hc : qgc S ≤ 24 := V.2
  have key : ∀ m, m ≤ qgc S → ∀ z, qbs z (fun j => decide (j < m) && p j && qin S (x - qgk S j)) → G 5 [some (qr 8 i), some (qi x), some (qi am), some (qi z), some (qi (m : Int))] [] h := by
    refine q_up (fun m hm ih z hz => b_X3_nextTo_5 hG ?_)
    rw [A.2.2.2.2.1]
    refine ⟨fun q => k z (qbs_cong hz (fun j _ => by rw [show m = qgc S by omega])), fun q => ?_⟩
    have hmc : m < qgc S := by omega
    have hb := (qgk_ok hmc).2.1
    rw [qbs_bit hp (show m < 32 by omega), qat_gk A hmc]
    have same : (p m && qin S (x - qgk S m)) = false → (-2147483648 ≤ (m : Int) + 1 ∧ (m : Int) + 1 ≤ 2147483647) ∧ G 5 [some (qr 8 i), some (qi x), some (qi am), some (qi z), some (qi ((m : Int) + 1))] [] h := fun e => by
      refine ⟨by omega, ih hmc z (qbs_cong hz (fun j _ => ?_))⟩
      by_cases c : j = m
      · subst c
        rw [Bool.and_assoc, Bool.and_assoc, e, Bool.and_false, Bool.and_false]
      · rw [show decide (j < m) = decide (j < m + 1) from decide_eq_decide.mpr (by omega)]
    refine ⟨fun q2 => same (by rw [qb_0.mp q2]; rfl), fun q2 => ⟨by omega, by omega, s_holds hL V.1 A ⟨fun q3 => same (by rw [qb_0.mp q3, Bool.and_false]), fun q3 => ⟨by omega, ih hmc _ (qbs_cong (qbs_set hz (show m < 32 by omega)) (fun j _ => ?_))⟩⟩⟩⟩
    by_cases c : j = m
    · subst c
      rw [qb_n0.mp q2, qb_n0.mp q3]; simp
    · rw [show decide (j < m) = decide (j < m + 1) from decide_eq_decide.mpr (by omega), show (j == m) = false by simp [c], Bool.or_false]
  exact key 0 (Nat.zero_le _) 0 (qbs_cong qbs_0 (fun j _ => by simp))
/-- all BEGINNINGS but those of the PART of one of them -/
theorem s_without {x f : Nat} {bg : Int} {R : Nat → Bool} (hL : qhL g) (V : QV2 S) (A : qat h i S) (hx : x ≤ 900) (hR : qbs bg R) (hf : R f = true) (hRv : ∀ j, R j = true → qvx S x j = true) (hRc : ∀ a b, R a = true → qeg S x a b = true → R b = true)
    (k : ∀ z, qbs z (fun j => R j && !(qdc (qco (qgc S) (qeg S x) f j))) → Q z h) : q_tr l g (d + 3) n_X3_withoutPartOf [qr 8 i, qi x, qi f, qi bg] h Q := by
  refine i_X3_withoutPartOf hL (fun G hG _ _ => b_X3_withoutPartOf_0 hG ?_)
  have hc : qgc S ≤ 24 := V.2
  have hlt : ∀ j, R j = true → j < qgc S := fun j hj => by
    have := hRv j hj
    unfold qvx at this
    simp only [Bool.and_eq_true, decide_eq_true_eq] at this
    exact this.1
  generalize hE : qeg S x = E at *
  have hEl : ∀ a b, E a b = true → a < qgc S ∧ b < qgc S := fun a b hab => by
    rw [← hE] at hab
    unfold qeg at hab
    simp only [Bool.and_eq_true, decide_eq_true_eq] at hab
    exact hab.1
  have hfc := hlt f hf
  -- at the end
  have fin : ∀ (W T : Nat → Bool) (t : Int), qbs t T → (∀ j, j < 32 → T j = true → R j = true) → (∀ j, j < 32 → R j = true → T j = false → qco (qgc S) E f j) → T f = false → ((∀ j, j < 32 → T j = false) ∨ ((∀ j, j < 32 → W j = false) ∧ ∀ a b, a < 32 → R a = true → T a = false → W a = false → E a b = true → T b = false)) → Q t h := by
    intro W T t ht hTR hD hTf hex
    refine k t (qbs_cong ht (fun j hj => ?_))
    have hclosed : ∀ j, j < 32 → R j = true → qco (qgc S) E f j → T j = false := by
      rcases hex with hex | ⟨hW, hcl⟩
      · exact fun j hj _ _ => hex j hj
      · intro j hj hRj hco
        have := qco_in (P := fun v => R v = true ∧ T v = false) (fun a b ha hPa hab => ⟨hRc a b hPa.1 hab, hcl a b (by omega) hPa.1 hPa.2 (hW a (by omega)) hab⟩) ⟨hf, hTf⟩ hco
        exact this.2
    cases hRj : R j with
    | false =>
      cases hTj : T j with
      | false => rfl
      | true => rw [hTR j hj hTj] at hRj; cases hRj
    | true =>
      cases hTj : T j with
      | false =>
        rw [qdc_t.mpr (hD j hj hRj hTj)]; rfl
      | true =>
        have : ¬ qco (qgc S) E f j := fun q => by rw [hclosed j hj hRj q] at hTj; cases hTj
        rw [qdc_f.mpr this]; rfl
  have key : ∀ ro, ro ≤ 24 → ∀ (W T : Nat → Bool) (w t : Int), qbs w W → qbs t T → (∀ j, j < 32 → T j = true → R j = true) → (∀ j, j < 32 → R j = true → T j = false → qco (qgc S) E f j) → T f = false → (∀ j, j < 32 → W j = true → R j = true ∧ T j = false) →
      (∀ a b, a < 32 → R a = true → T a = false → W a = false → E a b = true → T b = false) → qc (fun j => R j && !(T j) && !(W j)) 24 = ro → G 16 [some (qr 8 i), some (qi x), none, none, some (qi w), some (qi t), some (qi (ro : Int)), none, none] [] h := by
    refine q_up (fun ro hro ih W T w t hw ht hTR hD hTf hWD hcl hn => b_X3_withoutPartOf_16 hG ?_)
    have hW24 : ∀ j, j < 32 → W j = true → j < 24 := fun j hj hw => by have := hlt j (hWD j hj hw).1; omega
    refine ⟨fun q => fin W T t ht hTR hD hTf (Or.inr ⟨fun j hj => ?_, hcl⟩), fun q => ⟨fun q2 => fin W T t ht hTR hD hTf (Or.inr ⟨(qbs_z hw).mp q2, hcl⟩), fun q2 => ⟨fun q3 => fin W T t ht hTR hD hTf (Or.inl ((qbs_z ht).mp q3)), fun q3 => ?_⟩⟩⟩
    · -- all are done
      cases hwj : W j with
      | false => rfl
      | true =>
        have hj24 := hW24 j hj hwj
        have h1 := qc_flip (q := fun _ => true) (b := j) rfl 24 hj24
        rw [qc_all] at h1
        have h2 := qc_inj (p := fun j => R j && !(T j) && !(W j)) (q := fun z => true && !(z == j)) (f := fun a => a) (N := 24) (M := 24) (fun a ha hpa => ⟨ha, by
          have : a ≠ j := fun e => by rw [e] at hpa; simp [hwj] at hpa
          simp [this]⟩) (fun _ _ _ _ _ _ e => e)
        omega
    · -- the lowest one that waits
      have hexw : ∃ j, j < 32 ∧ W j = true := by
        apply Classical.byContradiction
        intro z
        refine q2 ((qbs_z hw).mpr (fun j hj => ?_))
        cases hwj : W j with
        | false => rfl
        | true => exact absurd ⟨j, hj, hwj⟩ z
      obtain ⟨u, ⟨u1, u2⟩, u3⟩ := pk_least (fun j => j < 32 ∧ W j = true) hexw
      have u4 := hW24 u u1 u2
      obtain ⟨u5, u6⟩ := hWD u u1 u2
      have huc := hlt u u5
      have hlow : ∀ j, j < u → W j = false := fun j hj => by
        cases hwj : W j with
        | false => rfl
        | true => exact absurd ⟨by omega, hwj⟩ (u3 j hj)
      have hwi := hw.1
      have hb31 : qbt w 31 = false := by
        rw [hw.2 31 (by omega)]
        cases hwj : W 31 with
        | false => rfl
        | true => have := hW24 31 (by omega) hwj; omega
      have hwpos : 0 < w := by
        unfold q_i32 at hwi
        rcases Int.lt_or_le w 0 with z | z
        · exfalso
          unfold qbt at hb31
          have e := of_decide_eq_false hb31
          have e2 : (2 : Int) ^ 31 = 2147483648 := by decide
          rw [e2] at e
          omega
        · omega
      have hmin : min (u : Int) 23 = u := by omega
      refine s_tz (t := u) hL hwpos (by unfold q_i32 at hwi; omega) (by omega) (by rw [hw.2 u (by omega)]; exact u2) (fun j hj => by rw [hw.2 j (by omega)]; exact hlow j hj) ?_
      rw [hmin, qat_gk A huc]
      have hgb := (qgk_ok huc).2.1
      refine ⟨by omega, by omega, s_nextTo hL V A (by omega) ht (fun z hz => ⟨by omega, ?_⟩)⟩
      have hzE : ∀ j, j < 32 → (decide (j < qgc S) && T j && qin S ((x : Int) - qgk S u - qgk S j)) = (T j && E u j) := fun j hj => by
        have e : E u j = (decide (u < qgc S) && decide (j < qgc S) && qin S ((x : Int) - qgk S u - qgk S j)) := by rw [← hE]; rfl
        rw [e, decide_eq_true huc, Bool.true_and]
        cases T j <;> cases (decide (j < qgc S)) <;> simp
      have hz := qbs_cong hz hzE
      refine ih (by omega) (fun j => (W j && !(j == u)) || (T j && E u j)) (fun j => T j && !(T j && E u j)) _ _ (qbs_or (qbs_and hw (qbs_not (qbs_one (by omega)))) hz) (qbs_and ht (qbs_not hz)) (fun j hj hT => ?_) (fun j hj hRj hT => ?_) ?_ (fun j hj hW => ?_) (fun a b ha hRa hTa hWa hab => ?_) ?_
      · simp only [Bool.and_eq_true] at hT
        exact hTR j hj hT.1
      · cases hTj : T j with
        | false => exact hD j hj hRj hTj
        | true =>
          rw [hTj] at hT
          have : E u j = true := by simpa using hT
          exact qco_step (hD u u1 u5 u6) huc this
      · rw [hTf]; rfl
      · simp only [Bool.or_eq_true, Bool.and_eq_true] at hW
        rcases hW with hW | hW
        · obtain ⟨c1, c2⟩ := hWD j hj hW.1
          exact ⟨c1, by rw [c2]; rfl⟩
        · exact ⟨hTR j hj hW.1, by rw [hW.1, hW.2]; rfl⟩
      · have hWa2 := Bool.or_eq_false_iff.mp hWa
        have hTa2 : T a = false := by
          cases hta : T a with
          | false => rfl
          | true =>
            rw [hta] at hTa hWa2
            have h1 : E u a = true := by simpa using hTa
            rw [h1] at hWa2
            exact absurd hWa2.2 (by decide)
        by_cases c : a = u
        · subst c
          cases htb : T b with
          | false => rfl
          | true => rw [hab]; rfl
        · have : W a = false := by
            have := hWa2.1
            simpa [c] using this
          rw [hcl a b ha hRa hTa2 this hab]; rfl
      · -- one more is done
        rw [← hn]
        have h1 := qc_flip (q := fun j => R j && !(T j && !(T j && E u j)) && !((W j && !(j == u)) || (T j && E u j))) (b := u) (by
          rw [u5, u6]; simp) 24 u4
        rw [← h1]
        congr 1
        refine qc_cong (fun j hj => ?_)
        by_cases c : j = u
        · subst c
          rw [u2]; simp
        · have hju : (j == u) = false := by simp [c]
          rw [hju]
          cases hTj : T j with
          | false => simp
          | true =>
            cases hEj : E u j <;> simp
  refine key 0 (by omega) (fun j => j == f) (fun j => R j && !(j == f)) _ _ (qbs_one (by omega)) (qbs_and hR (qbs_not (qbs_one (by omega)))) (fun j hj hT => ?_) (fun j hj hRj hT => ?_) ?_ (fun j hj hW => ?_) (fun a b ha hRa hTa hWa hab => ?_) ?_
  · simp only [Bool.and_eq_true] at hT; exact hT.1
  · rw [hRj] at hT
    have : j = f := by simpa using hT
    rw [this]; exact qco_refl _
  · simp
  · have : j = f := by simpa using hW
    subst this
    exact ⟨hf, by simp⟩
  · rw [hRa] at hTa
    have e1 : a = f := by simpa using hTa
    rw [e1] at hWa
    simp at hWa
  · rw [qc_none (m := 0) (Nat.zero_le _) (fun j _ _ => ?_)]
    · rfl
    · cases hRj : R j with
      | false => rfl
      | true =>
        by_cases c : j = f
        · simp [c]
        · simp [c]
theorem s_parts {x : Nat} (hL : qhL g) (V : QV2 S) (A : qat h i S) (hx : x ≤ 900) (k : Q (qprt S x : Nat) h) : q_tr l g (d + 4) n_X3_partsOf [qr 8 i, qi x] h Q := by
  refine i_X3_partsOf hL (fun G hG _ _ => b_X3_partsOf_0 hG ?_)
  have hc : qgc S ≤ 24 := V.2
  have hsym : ∀ a b, a < qgc S → b < qgc S → qeg S x a b = true → qeg S x b a = true := fun a b _ _ h => qeg_symm h
  have hvc : ∀ j, qvx S x j = true → j < qgc S := fun j hj => by
    unfold qvx at hj
    simp only [Bool.and_eq_true, decide_eq_true_eq] at hj
    exact hj.1
  -- those of no PART of an earlier one
  let R : Nat → Nat → Bool := fun m j => qvx S x j && qdc (∀ a, a < m → qvx S x a = true → ¬ qco (qgc S) (qeg S x) a j)
  have hRs : ∀ m j, R (m + 1) j = (R m j && !(qvx S x m && qdc (qco (qgc S) (qeg S x) m j))) := fun m j => by
    show (qvx S x j && qdc (∀ a, a < m + 1 → qvx S x a = true → ¬ qco (qgc S) (qeg S x) a j)) = (qvx S x j && qdc (∀ a, a < m → qvx S x a = true → ¬ qco (qgc S) (qeg S x) a j) && _)
    rw [Bool.and_assoc]
    congr 1
    rw [Bool.eq_iff_iff, qdc_t, Bool.and_eq_true, qdc_t, Bool.not_eq_true', Bool.and_eq_false_iff]
    constructor
    · intro h
      refine ⟨fun a ha => h a (by omega), ?_⟩
      cases hv : qvx S x m with
      | false => exact Or.inl rfl
      | true => exact Or.inr (qdc_f.mpr (h m (by omega) hv))
    · rintro ⟨h1, h2⟩ a ha hva
      by_cases e : a = m
      · subst e
        rcases h2 with h2 | h2
        · rw [h2] at hva; cases hva
        · exact qdc_f.mp h2
      · exact h1 a (by omega) hva
  have hRf : ∀ m, qvx S x m = true → R m m = qfp (qgc S) (qvx S x) (qeg S x) m := fun m hv => by
    show (qvx S x m && qdc _) = _
    rw [hv, Bool.true_and]
    unfold qfp
    rw [Bool.eq_iff_iff, qdc_t, qdc_t]
    exact ⟨fun h => ⟨hv, h⟩, fun h => h.2⟩
  have loop : ∀ m, m ≤ qgc S → ∀ r, qbs r (R m) → G 44 [some (qr 8 i), some (qi x), some (qi r), some (qi (qc (qfp (qgc S) (qvx S x) (qeg S x)) m : Nat)), some (qi (m : Int))] [] h := by
    refine q_up (fun m hm ih r hr => b_X3_partsOf_44 hG ?_)
    rw [A.2.2.2.2.1]
    have hcl := qc_le (qfp (qgc S) (qvx S x) (qeg S x)) m
    refine ⟨fun q => q_qe k (by rw [show m = qgc S by omega]; rfl), fun q => ⟨fun q2 => q_qe k ?_, fun q2 => ?_⟩⟩
    · unfold qprt qprts
      rw [qc_none (m := m) (n := qgc S) (by omega) (fun j j1 j2 => ?_)]
      have hz := (qbs_z hr).mp q2 j (by omega)
      cases hfp : qfp (qgc S) (qvx S x) (qeg S x) j with
      | false => rfl
      | true =>
        have h1 := qdc_t.mp hfp
        have : R m j = true := by
          show (qvx S x j && qdc _) = true
          rw [h1.1, qdc_t.mpr (fun a ha hva => h1.2 a (by omega) hva)]; rfl
        rw [this] at hz; cases hz
    · have hmc : m < qgc S := by omega
      rw [qbs_bit hr (show m < 32 by omega)]
      refine ⟨fun q3 => ⟨by omega, ?_⟩, fun q3 => ?_⟩
      · have hno := qb_0.mp q3
        have hf : qfp (qgc S) (qvx S x) (qeg S x) m = false := by
          cases hfp : qfp (qgc S) (qvx S x) (qeg S x) m with
          | false => rfl
          | true =>
            have hv := (qdc_t.mp hfp).1
            rw [hRf m hv, hfp] at hno; cases hno
        have := ih hmc r (qbs_cong hr (fun j hj => ?_))
        · rw [qc_f hf] at this; exact this
        · rw [hRs]
          cases hRj : R m j with
          | false => rfl
          | true =>
            cases hv : qvx S x m with
            | false => rfl
            | true =>
              have : ¬ qco (qgc S) (qeg S x) m j := fun hco => by
                have hj := Bool.and_eq_true_iff.mp hRj
                rw [hRf m hv] at hno
                have h2 := qdc_f.mp hno
                refine h2 ⟨hv, fun a ha hva hca => ?_⟩
                exact (qdc_t.mp hj.2) a ha hva (qco_trans hca hco)
              rw [qdc_f.mpr this]; rfl
      · have hyes := qb_n0.mp q3
        have hv : qvx S x m = true := (Bool.and_eq_true_iff.mp hyes).1
        have hf := hRf m hv
        rw [hyes] at hf
        refine s_without (f := m) hL V A hx hr hyes (fun j hj => (Bool.and_eq_true_iff.mp hj).1) (fun a b ha hab => ?_) (fun z hz => ⟨by omega, by omega, ?_⟩)
        · have ha2 := Bool.and_eq_true_iff.mp ha
          refine Bool.and_eq_true_iff.mpr ⟨(qeg_vx V.1 hab).2, qdc_t.mpr (fun u hu hvu hco => ?_)⟩
          have hbc := hvc b (qeg_vx V.1 hab).2
          exact (qdc_t.mp ha2.2) u hu hvu (qco_step hco hbc (qeg_symm hab))
        · have := ih hmc z (qbs_cong hz (fun j _ => by rw [hRs, hv, Bool.true_and]))
          rw [qc_t hf.symm] at this
          exact this
  have base : ∀ m, m ≤ qgc S → ∀ r, qbs r (fun j => decide (j < m) && qvx S x j) → G 4 [some (qr 8 i), some (qi x), some (qi r), some (qi (m : Int)), none] [] h := by
    refine q_up (fun m hm ih r hr => b_X3_partsOf_4 hG ?_)
    rw [A.2.2.2.2.1]
    refine ⟨fun q => loop 0 (Nat.zero_le _) r (qbs_cong hr (fun j _ => ?_)), fun q => ?_⟩
    · show _ = (qvx S x j && qdc (∀ a, a < 0 → qvx S x a = true → ¬ qco (qgc S) (qeg S x) a j))
      rw [qdc_t.mpr (fun a ha => absurd ha (Nat.not_lt_zero _)), Bool.and_true]
      cases hv : qvx S x j with
      | false => rw [Bool.and_false]
      | true => have := hvc j hv; rw [decide_eq_true (by omega)]; rfl
    · have hmc : m < qgc S := by omega
      have hgb := (qgk_ok hmc).2.1
      rw [qat_gk A hmc]
      have e : qvx S x m = qin S ((x : Int) - qgk S m) := by unfold qvx; rw [decide_eq_true hmc, Bool.true_and]
      refine ⟨by omega, by omega, s_holds hL V.1 A ⟨fun q2 => ⟨by omega, ih hmc r (qbs_cong hr (fun j _ => ?_))⟩, fun q2 => ⟨by omega, ih hmc _ (qbs_cong (qbs_set hr (show m < 32 by omega)) (fun j _ => ?_))⟩⟩⟩
      · by_cases c : j = m
        · subst c
          rw [e, qb_0.mp q2, Bool.and_false, Bool.and_false]
        · rw [show decide (j < m) = decide (j < m + 1) from decide_eq_decide.mpr (by omega)]
      · by_cases c : j = m
        · subst c
          rw [e, qb_n0.mp q2]; simp
        · rw [show decide (j < m) = decide (j < m + 1) from decide_eq_decide.mpr (by omega)]
          simp [c]
  exact base 0 (Nat.zero_le _) 0 (qbs_cong qbs_0 (fun j _ => by simp))
end QKnots1
