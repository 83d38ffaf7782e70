/-! the model: PARTS, TIES, RULES -/
/-- f names for each one another of its PART -/
def qpf (c : Nat) (V : Nat → Bool) (E : Nat → Nat → Bool) (f : Nat → Nat) : Prop := ∀ a, a < c → V a = true → f a < c ∧ V (f a) = true ∧ f (f a) = f a ∧ qco c E a (f a)
/-- of those pairs ahead of a, b two that are next to one another are named alike -/
def qpd (V : Nat → Bool) (E : Nat → Nat → Bool) (f : Nat → Nat) (a b : Nat) : Prop := ∀ a' b', b' < a' → (a' < a ∨ (a' = a ∧ b' < b)) → V a' = true → V b' = true → E a' b' = true → f a' = f b'
def qmg1 (f : Nat → Nat) (a b : Nat) : Nat → Nat := fun k => if f k = f a then f b else f k
theorem qmg1_ok {c : Nat} {V : Nat → Bool} {E : Nat → Nat → Bool} {f : Nat → Nat} {a b : Nat} (hE : ∀ a b, a < c → b < c → E a b = true → E b a = true) (F : qpf c V E f) (ha : a < c) (hb : b < c) (Va : V a = true) (Vb : V b = true) (e : E a b = true) (hne : f a ≠ f b) : qpf c V E (qmg1 f a b) := by
  intro k hk Vk
  obtain ⟨a1, a2, a3, a4⟩ := F a ha Va
  obtain ⟨b1, b2, b3, b4⟩ := F b hb Vb
  obtain ⟨k1, k2, k3, k4⟩ := F k hk Vk
  unfold qmg1
  by_cases q : f k = f a
  · rw [if_pos q]
    refine ⟨b1, b2, by rw [b3, if_neg (fun z => hne z.symm)], ?_⟩
    refine qco_trans k4 ?_
    rw [q]
    exact qco_trans (qco_trans (qco_symm hE a1 a4) (qco_step (qco_refl a) ha e)) b4
  · rw [if_neg q]
    exact ⟨k1, k2, by rw [k3, if_neg q], k4⟩
theorem qpf_end {c : Nat} {V : Nat → Bool} {E : Nat → Nat → Bool} {f : Nat → Nat} (hE : ∀ a b, a < c → b < c → E a b = true → E b a = true) (hV : ∀ a b, a < c → E a b = true → b < c ∧ V a = true ∧ V b = true) (F : qpf c V E f) (D : qpd V E f c 0) : qprts c V E = qc (fun a => V a && (f a == a)) c := by
  refine qprts_of hE f (fun a ha Va => ⟨(F a ha Va).1, (F a ha Va).2.1, (F a ha Va).2.2.1⟩) (fun a b ha hb Va Vb => ⟨fun q => ?_, fun q => ?_⟩)
  · obtain ⟨a1, a2, a3, a4⟩ := F a ha Va
    obtain ⟨b1, b2, b3, b4⟩ := F b hb Vb
    rw [q] at a4
    exact qco_trans a4 (qco_symm hE b1 b4)
  · have key : b < c ∧ f b = f a := qco_in (c := c) (E := E) (P := fun z => z < c ∧ f z = f a) (fun u v hu P e => by
      obtain ⟨v1, v2, v3⟩ := hV u v hu e
      refine ⟨v1, ?_⟩
      rw [← P.2]
      rcases Nat.lt_trichotomy u v with w | w | w
      · exact D v u w (Or.inl v1) v3 v2 (hE u v hu v1 e)
      · rw [w]
      · exact (D u v w (Or.inl hu) v2 v3 e).symm) ⟨ha, rfl⟩ q
    exact key.2.symm
theorem qprt_0 (S : QZ) : qprt S 0 = 0 := by
  refine qc_none (m := 0) (Nat.zero_le _) (fun k _ hk => qdc_f.mpr (fun q => ?_))
  have h1 := q.1
  unfold qvx at h1
  have h2 := (qgen_in (qgk_ok (S := S) (k := k) hk).1).1
  rw [qin_neg (by omega), Bool.and_false] at h1
  cases h1
theorem qtie_0 (S : QZ) : qtie S 0 = false := by unfold qtie; rw [qprt_0]; rfl
section QM6
variable {l : Launch} {g : QG} {d : Nat} {h : QM} {Q : Int → QM → Prop} {n a : Nat} {S : Nat → QZ} {T : QZ} {s : Int}
theorem m_partsOf {x : Nat} (hL : qhL g) (ha : a ≤ 20) (R : qmr h 54 a T) (V : QV2 T) (g0 : qmg h T) (hx : x < 1100) (k : ∀ h', qmf [63] h h' → Q (qprt T x : Nat) h') : q_tr l g (d + 2) n_X12_partsOf [qr 12 0, qi a, qi x] h Q := by
  refine i_X12_partsOf hL (fun G hG _ _ => b_X12_partsOf_0 hG ?_)
  have hc : qgc T ≤ 24 := V.2
  have H := qm6_1 V.1
  have hbig := qgk_bd (S := T)
  have hpos := qgk_pos (S := T)
  have hgc := fun h1 (f : qmf [63] h h1) => (qmg_f g0 f rfl).1
  have hgk := fun h1 (f : qmf [63] h h1) kk (hk : kk < qgc T) => qmg_k (qmg_f g0 f rfl) hk
  have hR := fun h1 (f : qmf [63] h h1) => qmr_f R ha f rfl
  have hvx : ∀ kk, kk < qgc T → qvx T x kk = qin T ((x : Int) - qgk T kk) := fun kk hk => by unfold qvx; rw [decide_eq_true hk]; rfl
  have heg : ∀ u v, u < qgc T → v < qgc T → qeg T x u v = qin T ((x : Int) - qgk T u - qgk T v) := fun u v hu hv => by unfold qeg; rw [decide_eq_true hu, decide_eq_true hv]; rfl
  have hE : ∀ u v, u < qgc T → v < qgc T → qeg T x u v = true → qeg T x v u = true := fun u v _ _ e => qeg_symm e
  have hV : ∀ u v, u < qgc T → qeg T x u v = true → v < qgc T ∧ qvx T x u = true ∧ qvx T x v = true := fun u v hu e => ⟨by
    unfold qeg at e
    simp only [Bool.and_eq_true, decide_eq_true_eq] at e
    exact e.1.2, qeg_vx V.1 e⟩
  unfold qprt at k
  generalize hcc : qgc T = c at *
  generalize hVV : qvx T x = VV at *
  generalize hEE : qeg T x = EE at *
  -- what the cells hold
  have count : ∀ f h1, qmf [63] h h1 → qpf c VV EE f → qpd VV EE f c 0 → (∀ kk : Nat, kk < c → h1 63 0 kk = if VV kk then (f kk : Int) else -1) → ∀ m, m ≤ c → G 199 [some (qr 12 0), none, none, some (qi (qc (fun a => VV a && (f a == a)) m : Nat)), some (qi (m : Int)), none, none] [] h1 := by
    intro f h1 f1 F D A
    have hcl := qc_le (fun a => VV a && (f a == a))
    refine q_up (fun m hm ih => b_X12_partsOf_199 hG ?_)
    rw [hgc h1 f1]
    refine ⟨fun q => q_qe (k h1 f1) ?_, fun q => ⟨by omega, ?_⟩⟩
    · rw [qpf_end hE hV F D, show m = c by omega]
    · have ih := ih (by omega)
      have := hcl m
      rw [A m (by omega)]
      cases e : (VV m && (f m == m)) with
      | false =>
        rw [qc_f (p := fun a => VV a && (f a == a)) e] at ih
        refine ⟨fun q2 => ⟨by omega, ih⟩, fun q2 => ?_⟩
        cases e1 : VV m with
        | false => rw [e1, if_neg Bool.false_ne_true] at q2; omega
        | true =>
          rw [e1, if_pos rfl] at q2
          rw [e1, beq_iff_eq.mpr (show f m = m by omega)] at e
          cases e
      | true =>
        rw [qc_t (p := fun a => VV a && (f a == a)) e] at ih
        rw [Bool.and_eq_true, beq_iff_eq] at e
        rw [e.1, if_pos rfl, e.2]
        exact ⟨fun q2 => absurd rfl q2, fun _ => ⟨by omega, by omega, ih⟩⟩
  -- pair by pair
  have outer : ∀ m, m ≤ c → ∀ f h1, qmf [63] h h1 → qpf c VV EE f → qpd VV EE f m 0 → (∀ kk : Nat, kk < c → h1 63 0 kk = if VV kk then (f kk : Int) else -1) → G 48 [some (qr 12 0), some (qi a), some (qi (x : Int)), some (qi (m : Int)), none, none, none] [] h1 := by
    refine q_up (fun m hm ihm f h1 f1 F D A => b_X12_partsOf_48 hG ?_)
    rw [hgc h1 f1]
    refine ⟨fun q => count f h1 f1 F (by rw [show c = m by omega]; exact D) A 0 (Nat.zero_le _), fun q => ?_⟩
    have inner : ∀ b, b ≤ m → ∀ f h1, qmf [63] h h1 → qpf c VV EE f → qpd VV EE f m b → (∀ kk : Nat, kk < c → h1 63 0 kk = if VV kk then (f kk : Int) else -1) → G 59 [some (qr 12 0), some (qi a), some (qi (x : Int)), some (qi (m : Int)), some (qi (b : Int)), none, none] [] h1 := by
      refine q_up (fun b hb ihb f h1 f1 F D A => b_X12_partsOf_59 hG ?_)
      refine ⟨fun q2 => ⟨by omega, ihm (by omega) f h1 f1 F (fun a' b' z1 z2 z3 z4 z5 => D a' b' z1 (by omega) z3 z4 z5) A⟩, fun q2 => ?_⟩
      have next : ∀ f2 h2, qmf [63] h h2 → qpf c VV EE f2 → qpd VV EE f2 m b → (VV m = true → VV b = true → EE m b = true → f2 m = f2 b) → (∀ kk : Nat, kk < c → h2 63 0 kk = if VV kk then (f2 kk : Int) else -1) → G 182 [some (qr 12 0), some (qi a), some (qi (x : Int)), some (qi (m : Int)), some (qi (b : Int)), none, none] [] h2 := fun f2 h2 g1 F2 D2 D3 A2 => b_X12_partsOf_182 hG ⟨by omega, ihb (by omega) f2 h2 g1 F2 (fun a' b' z1 z2 z3 z4 z5 => by
        by_cases e : a' = m ∧ b' = b
        · obtain ⟨rfl, rfl⟩ := e; exact D3 z3 z4 z5
        · exact D2 a' b' z1 (by omega) z3 z4 z5) A2⟩
      rw [A m (by omega), A b (by omega)]
      refine ⟨by omega, fun q3 => next f h1 f1 F D (fun e1 => by rw [e1, if_pos rfl] at q3; omega) A, fun q3 => ⟨by omega, fun q4 => next f h1 f1 F D (fun _ e2 => by rw [e2, if_pos rfl] at q4; omega) A, fun q4 => ⟨by omega, by omega, fun q5 => ?_, fun q5 => ?_⟩⟩⟩
      · refine next f h1 f1 F D (fun e1 e2 _ => ?_) A
        rw [e1, e2, if_pos rfl, if_pos rfl] at q5
        omega
      · have e1 : VV m = true := by cases e : VV m with
          | true => rfl
          | false => rw [e, if_neg Bool.false_ne_true] at q3; omega
        have e2 : VV b = true := by cases e : VV b with
          | true => rfl
          | false => rw [e, if_neg Bool.false_ne_true] at q4; omega
        rw [e1, e2, if_pos rfl, if_pos rfl] at q5
        have hne : f m ≠ f b := fun z => q5 (by rw [z])
        have c1 := hbig m (by omega)
        have c2 := hbig b (by omega)
        rw [hgk h1 f1 m (by omega), hgk h1 f1 b (by omega)]
        refine ⟨by omega, by omega, by omega, by omega, m_isOf hL (Or.inl ⟨Or.inl rfl, by omega⟩) (hR h1 f1) H ?_⟩
        rw [← heg m b (by omega) (by omega)]
        refine ⟨fun q6 => ⟨by omega, ?_⟩, fun q6 => next f h1 f1 F D (fun _ _ e3 => by rw [e3] at q6; cases q6) A⟩
        rw [A m (by omega), e1, if_pos rfl]
        have e3 := qb_n0.mp q6
        have F' := qmg1_ok hE F (by omega) (by omega) e1 e2 e3 hne
        have fb' : qmg1 f m b b = f b := by unfold qmg1; rw [if_neg (fun z => hne z.symm)]
        have fm' : qmg1 f m b m = f b := by unfold qmg1; rw [if_pos rfl]
        have merge : ∀ w, w ≤ c → ∀ h2, (qmf [63] h h2 ∧ ∀ kk : Nat, kk < c → h2 63 0 kk = if VV kk then (((if kk < w then qmg1 f m b kk else f kk) : Nat) : Int) else -1) → G 141 [some (qr 12 0), some (qi a), some (qi (x : Int)), some (qi (m : Int)), some (qi (b : Int)), some (qi (f m : Int)), some (qi (w : Int))] [] h2 := by
          refine q_up (fun w hw ihw h2 hI => b_X12_partsOf_141 hG ?_)
          obtain ⟨g1, A2⟩ := hI
          rw [hgc h2 g1]
          refine ⟨fun q7 => next _ h2 g1 F' (fun a' b' z1 z2 z3 z4 z5 => ?_) (fun _ _ _ => by rw [fm', fb']) (fun kk hk => by rw [A2 kk hk, if_pos (show kk < w by omega)]), fun q7 => ⟨by omega, ?_⟩⟩
          · have := D a' b' z1 z2 z3 z4 z5
            unfold qmg1
            rw [this]
          · have ew := A2 w (by omega)
            rw [if_neg (Nat.lt_irrefl w)] at ew
            rw [ew]
            have eb := A2 b (by omega)
            rw [e2, if_pos rfl, show (if b < w then qmg1 f m b b else f b) = f b from by split; exact fb'; rfl] at eb
            rw [eb]
            refine ⟨fun q8 => ⟨by omega, ihw (by omega) h2 ⟨g1, fun kk hk => ?_⟩⟩, fun q8 => ⟨by omega, by omega, by omega, ihw (by omega) _ ⟨qmf_trans g1 (qmf_qu rfl), fun kk hk => ?_⟩⟩⟩
            · rw [A2 kk hk]
              by_cases e4 : kk = w
              · subst e4
                rw [if_neg (Nat.lt_irrefl _), if_pos (show kk < kk + 1 by omega)]
                cases e5 : VV kk with
                | false => rfl
                | true =>
                  rw [e5, if_pos rfl] at q8
                  rw [if_pos rfl, if_pos rfl]
                  unfold qmg1
                  rw [if_neg (fun z => q8 (by rw [z]))]
              · rw [show (if kk < w then qmg1 f m b kk else f kk) = (if kk < w + 1 then qmg1 f m b kk else f kk) from by
                  by_cases e6 : kk < w
                  · rw [if_pos e6, if_pos (by omega)]
                  · rw [if_neg e6, if_neg (by omega)]]
            · by_cases e4 : kk = w
              · subst e4
                rw [qu_at, if_pos (show kk < kk + 1 by omega)]
                have e5 : VV kk = true := by cases e : VV kk with
                  | true => rfl
                  | false => rw [e, if_neg Bool.false_ne_true] at q8; omega
                rw [e5, if_pos rfl] at q8 ⊢
                unfold qmg1
                rw [if_pos (by omega)]
              · rw [qu_ne (by omega), A2 kk hk]
                rw [show (if kk < w then qmg1 f m b kk else f kk) = (if kk < w + 1 then qmg1 f m b kk else f kk) from by
                  by_cases e6 : kk < w
                  · rw [if_pos e6, if_pos (by omega)]
                  · rw [if_neg e6, if_neg (by omega)]]
        exact merge 0 (Nat.zero_le _) h1 ⟨f1, fun kk hk => by rw [A kk hk, if_neg (Nat.not_lt_zero _)]⟩
    exact inner 0 (Nat.zero_le _) f h1 f1 F D A
  have start : ∀ m, m ≤ c → ∀ h1, (qmf [63] h h1 ∧ ∀ kk : Nat, kk < m → h1 63 0 kk = if VV kk then (kk : Int) else -1) → G 2 [some (qr 12 0), some (qi a), some (qi (x : Int)), some (qi (m : Int)), none, none, none] [] h1 := by
    refine q_up (fun m hm ih h1 hI => b_X12_partsOf_2 hG ?_)
    obtain ⟨f1, A⟩ := hI
    rw [hgc h1 f1]
    refine ⟨fun q => outer 0 (Nat.zero_le _) (fun kk => kk) h1 f1 (fun u hu Vu => ⟨hu, Vu, rfl, qco_refl u⟩) (fun a' b' z1 z2 => by omega) (fun kk hk => A kk (by omega)), fun q => ⟨by omega, ?_⟩⟩
    have c1 := hbig m (by omega)
    rw [hgk h1 f1 m (by omega)]
    refine ⟨by omega, m_isOf hL (Or.inl ⟨Or.inl rfl, by omega⟩) (hR h1 f1) H ?_⟩
    rw [← hvx m (by omega)]
    have st : ∀ v : Int, v = (if VV m then (m : Int) else -1) → m < c → G 2 [some (qr 12 0), some (qi a), some (qi (x : Int)), some (qi ((m : Int) + 1)), none, none, none] [] (qu h1 63 0 m v) := fun v hv hmc => ih hmc _ ⟨qmf_trans f1 (qmf_qu rfl), fun kk hk => by
      by_cases e : kk = m
      · rw [e, qu_at, hv]
      · rw [qu_ne (by omega)]; exact A kk (by omega)⟩
    exact ⟨fun q2 => ⟨by omega, by omega, st _ (by rw [qb_0.mp q2]; rfl) (by omega)⟩, fun q2 => ⟨by omega, by omega, st _ (by rw [qb_n0.mp q2]; rfl) (by omega)⟩⟩
  exact start 0 (Nat.zero_le _) h ⟨qmf_refl _ _, fun kk hk => absurd hk (Nat.not_lt_zero _)⟩
theorem m_parts {y : Int} (hL : qhL g) (M : qmd h n S) (k : ∀ h', qmf [1023, 56, 63] h h' → Q (qon n S s (-1) (fun S => if 0 ≤ y ∧ y ≤ 900 then (qprt S y.toNat : Nat) else -1)) h') : q_tr l g (d + 4) n_X12_parts [qr 12 0, qi s, qi y] h Q := by
  refine i_X12_parts hL (fun G hG hw _ => b_X12_parts_0 hG (m_isSet hL M (hw (qi s) (by simp)) (q_on (fun e => q_qe (k h (qmf_refl _ _)) (by rw [qon_out e])) (fun j e hj => ?_))))
  subst e
  obtain ⟨V, R⟩ := M.2.2 j hj
  have h6 := M.2.1
  rw [qon_in hj] at k
  refine m_in hL (q_cd (fun e => q_qe (k h (qmf_refl _ _)) (by rw [if_neg (by omega)])) (fun e => ⟨by omega, ?_⟩))
  rw [if_pos e] at k
  obtain ⟨y, rfl⟩ := Int.eq_ofNat_of_zero_le e.1
  rw [q_4j]
  refine m_gens hL ⟨Or.inl rfl, by omega⟩ R V.1 (fun h1 f1 g1 => ⟨by omega, m_partsOf hL (by omega) (qmr_f R (by omega) f1 rfl) V g1 (by omega) (fun h2 f2 => k h2 (qmf_trans (qmf_mono f1 rfl) (qmf_mono f2 rfl)))⟩)
theorem m_tie {i : Int} (hL : qhL g) (M : qmd h n S) (k : ∀ h', qmf [1023, 56, 63] h h' → Q (qon n S s (-1) (fun S => qpick (qtie S) 1100 i)) h') : q_tr l g (d + 4) n_X12_tie [qr 12 0, qi s, qi i] h Q := by
  refine i_X12_tie hL (fun G hG hw _ => b_X12_tie_0 hG (m_isSet hL M (hw (qi s) (by simp)) (q_on (fun e => q_qe (k h (qmf_refl _ _)) (by rw [qon_out e])) (fun j e hj => ?_))))
  subst e
  obtain ⟨V, R⟩ := M.2.2 j hj
  have h6 := M.2.1
  rw [qon_in hj] at k
  refine ⟨fun q => ⟨by omega, ?_⟩, fun q => q_qe (k h (qmf_refl _ _)) (by rw [qpick_no (by omega) (Or.inl (by omega))])⟩
  rw [q_4j]
  refine m_gens hL ⟨Or.inl rfl, by omega⟩ R V.1 (fun h1 f1 g1 => ?_)
  have hcl := qc_le (qtie (S j))
  have key : ∀ m, m ≤ 1100 → 1 ≤ m → (i < 0 ∨ (qc (qtie (S j)) m : Int) ≤ i) → ∀ h2, qmf [63] h1 h2 → G 32 [some (qr 12 0), some (qi (j : Int)), some (qi i), some (qi (qc (qtie (S j)) m : Nat)), some (qi (m : Int))] [] h2 := by
    refine q_up (fun m hm ih hm1 hi h2 f2 => b_X12_tie_32 hG ⟨fun q2 => ?_, fun q2 => ⟨by omega, ?_⟩⟩)
    · have k2 := k h2 (qmf_trans (qmf_mono f1 rfl) (qmf_mono f2 rfl))
      rw [show m = 1100 by omega] at hi ⊢
      exact ⟨fun q3 => q_qe k2 (by rw [qpick_no q3 hi]), fun q3 => q_qe k2 (by rw [q3, qpick_all])⟩
    · rw [q_4j]
      refine m_partsOf hL (by omega) (qmr_f (qmr_f R (by omega) f1 rfl) (by omega) f2 rfl) V (qmg_f g1 f2 rfl) (by omega) (fun h3 f3 => ?_)
      have f4 := qmf_trans f2 f3
      have ih := ih (by omega) (by omega)
      have hc := hcl m
      refine ⟨fun q3 => ?_, fun q3 => ?_⟩
      · have e : qtie (S j) m = true := decide_eq_true (by omega)
        rw [qc_t e] at ih
        exact ⟨fun q4 => ⟨by omega, by omega, ih (by omega) h3 f4⟩, fun q4 => q_qe (k h3 (qmf_trans (qmf_mono f1 rfl) (qmf_mono f4 rfl))) (by rw [qpick_at e (by omega) q4])⟩
      · have e : qtie (S j) m = false := decide_eq_false (by omega)
        rw [qc_f e] at ih
        exact ⟨by omega, ih hi h3 f4⟩
  have c1 : qc (qtie (S j)) 1 = 0 := by rw [qc_f (qtie_0 _)]; rfl
  have := key 1 (by omega) (by omega) (by omega) h1 (qmf_refl _ _)
  rw [c1] at this
  exact this
theorem m_rulesOf (hL : qhL g) (ha : a ≤ 20) (R : qmr h 54 a T) (V : QV2 T) (k : ∀ h', qmf [1023, 56, 63] h h' → Q (qrul T) h') : q_tr l g (d + 4) n_X12_rulesOf [qr 12 0, qi a] h Q := by
  refine i_X12_rulesOf hL (fun G hG _ _ => b_X12_rulesOf_0 hG (m_gens hL ⟨Or.inl rfl, by omega⟩ R V.1 (fun h1 f1 g1 => ?_)))
  have hc : qgc T ≤ 24 := V.2
  unfold qrul at k
  generalize hf : (fun x => ((qprt T x : Nat) : Int) - 1) = f at k
  have hfe : ∀ x, f x = ((qprt T x : Nat) : Int) - 1 := fun x => by rw [← hf]
  have hfb : ∀ x, qtie T x = true → 0 ≤ f x ∧ f x ≤ 24 := fun x hx => by
    have h1 := of_decide_eq_true hx
    have h2 := qprt_le T x
    rw [hfe]; omega
  have key : ∀ m, m ≤ 1100 → 1 ≤ m → ∀ h2, qmf [63] h1 h2 → G 14 [some (qr 12 0), some (qi a), some (qi (qsm (qtie T) f m)), some (qi (m : Int)), none] [] h2 := by
    refine q_up (fun m hm ih hm1 h2 f2 => b_X12_rulesOf_14 hG ⟨fun q2 => q_qe (k h2 (qmf_trans (qmf_mono f1 rfl) (qmf_mono f2 rfl))) (by rw [show m = 1100 by omega]), fun q2 => m_partsOf hL ha (qmr_f (qmr_f R ha f1 rfl) ha f2 rfl) V (qmg_f g1 f2 rfl) (by omega) (fun h3 f3 => ?_)⟩)
    have f4 := qmf_trans f2 f3
    have ih := ih (by omega) (by omega) h3 f4
    have hb := qsm_bd (p := qtie T) (f := f) (a := 0) (b := 24) (n := m) (fun x _ hx => hfb x hx) (by omega) (by omega)
    refine ⟨fun q3 => ?_, fun q3 => ?_⟩
    · rw [qsm_f (decide_eq_false (by omega))] at ih
      exact ⟨by omega, ih⟩
    · have e : qtie T m = true := decide_eq_true (by omega)
      have := hfb m e
      rw [qsm_t e, hfe] at ih
      rw [hfe] at this
      exact ⟨by omega, by omega, by omega, ih⟩
  have c1 : qsm (qtie T) f 1 = 0 := by rw [qsm_f (qtie_0 _)]; rfl
  have := key 1 (by omega) (by omega) h1 (qmf_refl _ _)
  rw [c1] at this
  exact this
theorem m_about {w : Int} (hL : qhL g) (M : qmd h n S) (k6 : w = 6 → ∀ h', qmf [1023, 56, 63] h h' → Q (qon n S s (-2147483648) (fun S => qrul S)) h') (k : w ≠ 6 → ∀ h', qmf [1023, 56] h h' → Q (qon n S s (-2147483648) (fun S => qabout S w)) h') : q_tr l g (d + 5) n_X12_about [qr 12 0, qi s, qi w] h Q := by
  refine i_X12_about hL (fun G hG hw _ => b_X12_about_0 hG (m_isSet hL M (hw (qi s) (by simp)) (q_no (fun e => ?_) (fun j e hj => ?_))))
  · by_cases c : w = 6
    · exact q_qe (k6 c h (qmf_refl _ _)) (by rw [qon_out e])
    · exact q_qe (k c h (qmf_refl _ _)) (by rw [qon_out e])
  subst e
  obtain ⟨V, R⟩ := M.2.2 j hj
  have h6 := M.2.1
  rw [qon_in hj] at k k6
  have htb := qtop_bd V.1
  have hgb := qgn_le V.1
  have hc : qgc (S j) ≤ 24 := V.2
  rw [q_4j]
  have rg : qrg 54 (4 * j) := Or.inl ⟨Or.inl rfl, by omega⟩
  have k0 := fun c => k c h (qmf_refl _ _)
  unfold qabout at k k0
  refine ⟨by omega, fun q => q_qe (k0 (by omega)) ?_, fun q => m_cond hL rg R (qm6_1 V.1) ⟨by omega, q_qe (k0 (by omega)) ?_⟩, fun q => m_cond hL rg R (qm6_1 V.1) (q_qe (k0 (by omega)) ?_), fun q => m_sortOf hL (by omega) R V.1 ⟨fun q2 => q_qe (k0 (by omega)) ?_, fun q2 => q_qe (k0 (by omega)) ?_⟩, fun q => m_sortOf hL (by omega) R V.1 ⟨fun q2 => q_qe (k0 (by omega)) ?_, fun q2 => q_qe (k0 (by omega)) ?_⟩, fun q => m_gens hL ⟨Or.inl rfl, by omega⟩ R V.1 (fun h1 f1 g1 => m_below hL (by omega) (qmr_f R (by omega) f1 rfl) V.1 ?_), fun q => m_below hL (by omega) R V.1 (q_qe (k0 (by omega)) ?_), fun q => m_rulesOf hL (by omega) R V (fun h1 f1 => k6 q h1 f1), fun q => m_weight hL (by omega) R V.1 (q_qe (k0 (by omega)) ?_), trivial⟩
  · rw [if_neg (by omega), if_neg (by omega), if_neg (by omega), if_neg (by omega), if_neg (by omega), if_neg (by omega), if_neg (by omega)]
  · rw [if_pos q]; omega
  · rw [if_neg (by omega), if_pos q]
  · rw [if_neg (by omega), if_neg (by omega), if_pos q, decide_eq_false]; rfl
    intro z; apply q2; unfold qsort; rw [if_pos z]
  · rw [if_neg (by omega), if_neg (by omega), if_pos q, decide_eq_true]; rfl
    unfold qsort at q2
    split at q2
    · assumption
    · split at q2 <;> omega
  · rw [if_neg (by omega), if_neg (by omega), if_neg (by omega), if_pos q, decide_eq_false]; rfl
    intro z; apply q2; unfold qsort; rw [if_neg (by omega), if_pos z]
  · rw [if_neg (by omega), if_neg (by omega), if_neg (by omega), if_pos q, decide_eq_true]; rfl
    unfold qsort at q2
    split at q2
    · omega
    · split at q2
      · assumption
      · omega
  · have hm : 0 ≤ (qgc (S j) : Int) * (qtop (S j) + 1 - qgn (S j)) + 24 * 400 ∧ (qgc (S j) : Int) * (qtop (S j) + 1 - qgn (S j)) ≤ 24 * 400 := by
      have e1 : -400 ≤ qtop (S j) + 1 - qgn (S j) ∧ qtop (S j) + 1 - qgn (S j) ≤ 400 := by omega
      generalize qtop (S j) + 1 - (qgn (S j) : Int) = u at *
      generalize qgc (S j) = v at *
      have a1 : (v : Int) * u ≤ v * 400 := Int.mul_le_mul_of_nonneg_left (by omega) (by omega)
      have a2 : (v : Int) * (-400) ≤ v * u := Int.mul_le_mul_of_nonneg_left (by omega) (by omega)
      omega
    have k1 := k (by omega) h1 f1
    refine ⟨by omega, m_cond hL rg (qmr_f R (by omega) f1 rfl) (qm6_1 V.1) ⟨by omega, q_qe k1 ?_⟩⟩
    rw [if_neg (by omega), if_neg (by omega), if_neg (by omega), if_neg (by omega), if_pos q]
  · rw [if_neg (by omega), if_neg (by omega), if_neg (by omega), if_neg (by omega), if_neg (by omega), if_pos q]
  · rw [if_neg (by omega), if_neg (by omega), if_neg (by omega), if_neg (by omega), if_neg (by omega), if_neg (by omega), if_pos q]
end QM6
