/-! what is done by hand: the program's state and the model's -/
theorem qflip_2 (S : QZ) (x : Nat) : qflip (qflip S x) x = S := by
  funext y
  unfold qflip
  by_cases e : y = x
  · rw [if_pos e, if_pos rfl, Bool.not_not, e]
  · rw [if_neg e, if_neg e]
theorem qflip_ne {S : QZ} {x y : Nat} (h : y ≠ x) : qflip S x y = S y := by unfold qflip; rw [if_neg h]
theorem qflip_at {S : QZ} {x : Nat} : qflip S x x = !S x := by unfold qflip; rw [if_pos rfl]
theorem qflip_put {S : QZ} {x : Nat} (h : S x = false) : qflip S x = fun y => S y || y == x := by
  funext y
  by_cases e : y = x
  · rw [e, qflip_at, h]; simp
  · rw [qflip_ne e, beq_eq_false_iff_ne.mpr e, Bool.or_false]
theorem qflip_take {S : QZ} {x : Nat} (h : S x = true) : qflip S x = fun y => S y && !(y == x) := by
  funext y
  by_cases e : y = x
  · rw [e, qflip_at, h]; simp
  · rw [qflip_ne e, beq_eq_false_iff_ne.mpr e, Bool.not_false, Bool.and_true]
theorem qspc_v0 {S : QZ} (V : QV1 S) {x : Nat} (h : qspc S x = true) : S x = false ∧ 1 ≤ x ∧ x < 200 ∧ QV0 (qflip S x) := by
  unfold qspc at h
  rw [Bool.and_eq_true] at h
  have h1 := (qstf_iff V).mp h.1
  have hx : x < 200 := qstf_200 V h.1
  have hst : ∀ y, 0 < y → S y = true → S (x + y) = true := fun y hy hs => by
    have h2 := h.1
    unfold qstf at h2
    simp only [Bool.and_eq_true, Bool.not_eq_true', qex_f] at h2
    rcases Nat.lt_or_ge y 400 with c | c
    · have := h2.2 y c
      rw [decide_eq_true hy, hs] at this
      simpa using this
    · exact V.2.2 _ (by omega)
  refine ⟨h1.2.1, h1.1, hx, ?_⟩
  rw [qflip_put h1.2.1]
  refine ⟨show (S 0 || 0 == x) = true by rw [V.1]; rfl, fun a b ha hb => ?_, fun y hy => show (S y || y == x) = true by rw [V.2.2 y (by omega)]; rfl⟩
  rw [Bool.or_eq_true, beq_iff_eq] at ha hb ⊢
  have one : ∀ a, S a = true → (S (a + x) = true ∨ a + x = x) := fun a ha => by
    rcases Nat.eq_zero_or_pos a with c | c
    · right; omega
    · left; rw [Nat.add_comm]; exact hst a c ha
  rcases ha with ha | ha
  · rcases hb with hb | hb
    · exact Or.inl (V.2.1 a b ha hb)
    · rw [hb]; exact one a ha
  · rcases hb with hb | hb
    · rw [ha, Nat.add_comm]; exact one b hb
    · left; rw [ha, hb, show x + x = 2 * x by omega]; exact h.2
theorem qgen_v0 {S : QZ} (V : QV1 S) {x : Nat} (h : qgen S x = true) : S x = true ∧ 1 ≤ x ∧ x < 400 ∧ QV0 (qflip S x) := by
  have h1 := qgen_iff.mp h
  have hx := qgen_lt V h
  refine ⟨h1.2.1, h1.1, hx, ?_⟩
  rw [qflip_take h1.2.1]
  refine ⟨show (S 0 && !(0 == x)) = true by rw [V.1, beq_eq_false_iff_ne.mpr (show 0 ≠ x by omega)]; rfl, fun a b ha hb => ?_, fun y hy => show (S y && !(y == x)) = true by rw [V.2.2 y (by omega), beq_eq_false_iff_ne.mpr (show y ≠ x by omega)]; rfl⟩
  rw [Bool.and_eq_true, Bool.not_eq_true', beq_eq_false_iff_ne] at ha hb ⊢
  refine ⟨V.2.1 a b ha.1 hb.1, fun e => ?_⟩
  rcases Nat.eq_zero_or_pos a with c | c
  · exact hb.2 (by omega)
  · rcases Nat.eq_zero_or_pos b with c2 | c2
    · exact ha.2 (by omega)
    · have := h1.2.2 a c (by omega) ha.1
      rw [show x - a = b by omega, hb.1] at this; cases this
theorem qflip_far {S : QZ} {x : Nat} (hx : 200 ≤ x) (hx4 : x < 400) (h : S x = true) : qacc (qflip S x) = false := by
  have : ¬ qtop (qflip S x) < 200 := fun q => by
    have := qmx_no (p := qgap (qflip S x)) hx4 (by show qtop (qflip S x) < x; omega)
    have := qgap_t.mp this
    rw [qflip_at, h] at this; cases this
  unfold qacc
  rw [decide_eq_false this]; rfl
/-- whether it is put in, taken off -/
def qok (p : QZ → QZ) (n : Nat) (S : Nat → QZ) (set x : Int) : Bool := decide (0 ≤ set ∧ set < n) && (qin (p (S set.toNat)) x && qacc (qflip (S set.toNat) x.toNat))
/-- one set is another one now -/
def qup (S : Nat → QZ) (j : Nat) (T : QZ) : Nat → QZ := fun i => if i = j then T else S i
theorem qup_at {S : Nat → QZ} {j : Nat} {T : QZ} : qup S j T j = T := by unfold qup; rw [if_pos rfl]
theorem qup_ne {S : Nat → QZ} {i j : Nat} {T : QZ} (h : i ≠ j) : qup S j T i = S i := by unfold qup; rw [if_neg h]
section QW1
variable {l : Launch} {g : QG} {d : Nat} {h : QM} {Q : Int → QM → Prop} {n dn : Nat} {S : Nat → QZ} {dl : Nat → Nat × Nat} {x set : Int}
theorem t_doByHand {j u : Nat} (hL : qhL g) (hx0 : 0 ≤ x) (H : qhall h x n S) (D : qdeeds h dn dl) (hj : j < n) (hu : 1 ≤ u ∧ u < 400) (Z : QV0 (qflip (S j) u))
    (k1 : qacc (qflip (S j) u) = true → ∀ h', qfx [1, 8, 18, 19, 30, 31, 32] h h' → qfh x h h' ∨ True → (∀ y m T, y ≠ x → qhall h y m T → qhall h' y m T) → qhall h' x n (qup S j (qflip (S j) u)) → qdeeds h' (min (dn + 1) 40) (fun i => if i = 0 then (j, u) else dl (i - 1)) → Q 1 h')
    (k0 : qacc (qflip (S j) u) = false → ∀ h', qfx [8, 30, 31, 32] h h' → (∀ y m T, y ≠ x → qhall h y m T → qhall h' y m T) → qhall h' x n S → Q 0 h') : q_tr l g (d + 4) n_X11_doByHand [qr 11 0, qr 8 (6 * x + j), qi j, qi u] h Q := by
  refine i_X11_doByHand hL (fun G hG _ _ => b_X11_doByHand_0 hG ?_)
  have h6 := H.2.1
  obtain ⟨V, A⟩ := H.2.2 j hj
  refine s_flip hL V A hu Z (fun h1 f1 A1 => ?_)
  have fh : qfh x h h1 := qfh_8 (by omega) f1
  have fx : qfx [8, 30, 31, 32] h h1 := fun r e i c => f1 r i c (by simp at e; omega)
  have oth : ∀ y m T, y ≠ x → qhall h y m T → qhall h1 y m T := fun y m T hy hh => qhall_other fh hy hh
  have hall : ∀ T, QV2 T → qat h1 (6 * x + j) T → qhall h1 x n (qup S j T) := fun T VT AT => by
    refine ⟨by rw [fx 2 rfl]; exact H.1, h6, fun i hi => ?_⟩
    by_cases e : i = j
    · rw [e, qup_at]; exact ⟨VT, AT⟩
    · rw [qup_ne e]; exact ⟨(H.2.2 i hi).1, qf8_at f1 (by omega) (H.2.2 i hi).2⟩
  cases hq : qacc (qflip (S j) u) with
  | true =>
    rw [hq, if_pos rfl] at A1
    have V1 := (qacc_iff Z).mp hq
    refine ⟨fun _ => s_note hL (n := dn) (dl := dl) ?_ (fun h2 f2 D2 => ⟨Or.inr rfl, k1 hq h2 (qfx_trans (qfx_mono fx (qfx_sub rfl)) (qfx_mono f2 (qfx_sub rfl))) (Or.inr trivial) (fun y m T hy hh => ?_) ?_ D2⟩), fun q => absurd q (by decide)⟩
    · obtain ⟨a1, a2, a3, a4, a5⟩ := D
      refine ⟨by rw [fx 1 rfl]; exact a1, a2, by rw [fx 1 rfl]; exact a3, by rw [fx 1 rfl]; exact a4, fun i hi => ?_⟩
      rw [fx 1 rfl, fx 18 rfl, fx 19 rfl]; exact a5 i hi
    · exact qhall_fr (oth y m T hy hh) (f2 2 rfl _ _) (fun r i j q _ _ => f2 r (by rcases q with q | q | q | q <;> subst q <;> rfl) i j)
    · exact qhall_fr (hall _ V1 A1) (f2 2 rfl _ _) (fun r i j q _ _ => f2 r (by rcases q with q | q | q | q <;> subst q <;> rfl) i j)
  | false =>
    rw [hq, if_neg Bool.false_ne_true] at A1
    refine ⟨fun q => absurd rfl q, fun _ => ⟨Or.inl rfl, k0 hq h1 fx oth ?_⟩⟩
    have := hall _ V A1
    have e : qup S j (S j) = S := by
      funext i
      by_cases c : i = j
      · rw [c, qup_at]
      · rw [qup_ne c]
    rw [e] at this; exact this
/-- what holds behind add and drop -/
def qdone (h h' : QM) (x : Int) (n dn : Nat) (S : Nat → QZ) (dl : Nat → Nat × Nat) (j u : Nat) (ok : Bool) : Prop := qfx [1, 8, 18, 19, 30, 31, 32] h h' ∧ (∀ y m T, y ≠ x → qhall h y m T → qhall h' y m T) ∧ (if ok then qhall h' x n (qup S j (qflip (S j) u)) ∧ qdeeds h' (min (dn + 1) 40) (fun i => if i = 0 then (j, u) else dl (i - 1)) else qhall h' x n S ∧ qdeeds h' dn dl)
theorem qdeeds_fx {h h' : QM} {rs : List Nat} (D : qdeeds h dn dl) (f : qfx rs h h') (e : (rs.contains 1 || rs.contains 18 || rs.contains 19) = false) : qdeeds h' dn dl := by
  simp only [Bool.or_eq_false_iff] at e
  obtain ⟨a1, a2, a3, a4, a5⟩ := D
  refine ⟨by rw [f 1 e.1.1]; exact a1, a2, by rw [f 1 e.1.1]; exact a3, by rw [f 1 e.1.1]; exact a4, fun i hi => ?_⟩
  rw [f 1 e.1.1, f 18 e.1.2, f 19 e.2]; exact a5 i hi
theorem t_hand {mm : Bool} {y : Int} (hL : qhL g) (hx : h 11 0 10 = x) (hx0 : 0 ≤ x) (H : qhall h x n S) (D : qdeeds h dn dl)
    (k : ∀ h', (qok (if mm then qspc else qgen) n S set y = true → 0 ≤ set ∧ set < n ∧ 0 ≤ y ∧ y < 400 ∧ qin ((if mm then qspc else qgen) (S set.toNat)) y = true ∧ QV2 (qflip (S set.toNat) y.toNat)) → qdone h h' x n dn S dl set.toNat y.toNat (qok (if mm then qspc else qgen) n S set y) → Q (qb (qok (if mm then qspc else qgen) n S set y)) h') :
    q_tr l g (d + 5) (if mm then n_X11_add else n_X11_drop) [qr 11 0, qi set, qi y] h Q := by
  have k00 : qok (if mm then qspc else qgen) n S set y = false → Q 0 h := fun e => by
    have := k h (fun q => by rw [e] at q; cases q)
    rw [e] at this
    exact this ⟨qfx_refl _ _, fun y m T _ hh => hh, by rw [if_neg Bool.false_ne_true]; exact ⟨H, D⟩⟩
  subst hx
  have ko : (set < 0 ∨ (n : Int) ≤ set) → Q 0 h := fun e => k00 (by unfold qok; rw [decide_eq_false (by omega)]; rfl)
  have fin : ∀ j : Nat, set = j → j < n → ∀ u : Nat, y = u → qin ((if mm then qspc else qgen) (S j)) y = true → QV0 (qflip (S j) u) → 1 ≤ u → u < 400 → q_tr l g (d + 4) n_X11_doByHand [qr 11 0, qr 8 (6 * h 11 0 10 + j), qi set, qi y] h (fun z h' => (z = 0 ∨ z = 1) ∧ Q z h') := fun j e hj u eu hq Z u1 u2 => by
    subst e
    subst eu
    have eo : qok (if mm then qspc else qgen) n S (j : Int) (u : Int) = qacc (qflip (S j) u) := by
      unfold qok
      rw [decide_eq_true (by omega), Int.toNat_natCast, Int.toNat_natCast, hq]; rfl
    rw [eo] at k
    simp only [Int.toNat_natCast] at k
    refine t_doByHand hL hx0 H D hj ⟨u1, u2⟩ Z (fun ha h1 f1 _ oth H1 D1 => ⟨Or.inr rfl, ?_⟩) (fun ha h1 f1 oth H1 => ⟨Or.inl rfl, ?_⟩)
    · have := k h1 (fun _ => ⟨by omega, by omega, by omega, by omega, hq, (qacc_iff Z).mp ha⟩)
      rw [ha] at this
      exact this ⟨f1, oth, by rw [if_pos rfl]; exact ⟨H1, D1⟩⟩
    · have := k h1 (fun q => by rw [ha] at q; cases q)
      rw [ha] at this
      exact this ⟨qfx_mono f1 (qfx_sub rfl), oth, by rw [if_neg Bool.false_ne_true]; exact ⟨H1, qdeeds_fx D f1 rfl⟩⟩
  cases mm with
  | true =>
    refine i_X11_add hL (fun G hG _ _ => b_X11_add_0 hG ⟨hx0, s_at hL H (fun j e hj => ?_) (fun e => ⟨fun _ => ⟨Or.inl rfl, ko e⟩, fun q => absurd (show (-1 : Int) < 0 by omega) q⟩)⟩)
    obtain ⟨V, A⟩ := H.2.2 j hj
    refine ⟨fun q => by omega, fun _ => s_isSpecial hL V A ⟨fun q => ?_, fun q => ⟨Or.inl rfl, k00 ?_⟩⟩⟩
    · have hq := qb_n0.mp q
      rcases Int.lt_or_le y 0 with c | c
      · rw [qin_neg c] at hq; cases hq
      · obtain ⟨u, eu⟩ := Int.eq_ofNat_of_zero_le c
        have hq2 := hq
        rw [eu, qin_nat] at hq2
        obtain ⟨v1, v2, v3, v4⟩ := qspc_v0 V.1 hq2
        exact fin j e hj u eu hq v4 v2 (by omega)
    · unfold qok
      rw [e, Int.toNat_natCast, if_pos rfl, qb_0.mp q, Bool.false_and, Bool.and_false]
  | false =>
    refine i_X11_drop hL (fun G hG _ _ => b_X11_drop_0 hG ⟨hx0, s_at hL H (fun j e hj => ?_) (fun e => ⟨fun _ => ⟨Or.inl rfl, ko e⟩, fun q => absurd (show (-1 : Int) < 0 by omega) q⟩)⟩)
    obtain ⟨V, A⟩ := H.2.2 j hj
    refine ⟨fun q => by omega, fun _ => s_isGen hL V A ⟨fun q => ?_, fun q => ⟨Or.inl rfl, k00 ?_⟩⟩⟩
    · have hq := qb_n0.mp q
      rcases Int.lt_or_le y 0 with c | c
      · rw [qin_neg c] at hq; cases hq
      · obtain ⟨u, eu⟩ := Int.eq_ofNat_of_zero_le c
        have hq2 := hq
        rw [eu, qin_nat] at hq2
        obtain ⟨v1, v2, v3, v4⟩ := qgen_v0 V.1 hq2
        exact fin j e hj u eu hq v4 v2 v3
    · unfold qok
      rw [e, Int.toNat_natCast, if_neg Bool.false_ne_true, qb_0.mp q, Bool.false_and, Bool.and_false]
theorem t_undo (hL : qhL g) (hx : h 11 0 10 = x) (hx0 : 0 ≤ x) (H : qhall h x n S) (D : qdeeds h dn dl) (hd : 0 < dn → (dl 0).1 < n ∧ 1 ≤ (dl 0).2 ∧ (dl 0).2 < 400 ∧ QV2 (qflip (S (dl 0).1) (dl 0).2))
    (k0 : dn = 0 → Q 0 h) (k1 : 0 < dn → ∀ h', qfx [1, 8, 30, 31, 32] h h' → (∀ y m T, y ≠ x → qhall h y m T → qhall h' y m T) → qhall h' x n (qup S (dl 0).1 (qflip (S (dl 0).1) (dl 0).2)) → qdeeds h' (dn - 1) (fun i => dl (i + 1)) → Q 1 h') : q_tr l g (d + 4) n_X11_undo [qr 11 0] h Q := by
  refine i_X11_undo hL (fun G hG _ _ => b_X11_undo_0 hG (s_dsize hL D ⟨fun q => ?_, fun q => ⟨Or.inl rfl, k0 (by omega)⟩⟩))
  have hp : 0 < dn := by omega
  obtain ⟨d1, d2, d3, d4⟩ := hd hp
  subst hx
  have h6 := H.2.1
  refine ⟨hx0, s_lset hL D hp (s_at hL H (fun j e hj => ?_) (fun e => by omega))⟩
  have ej : (dl 0).1 = j := by omega
  rw [ej] at d1 d4 k1
  refine ⟨fun q2 => by omega, fun _ => s_lnum hL D hp ?_⟩
  obtain ⟨V, A⟩ := H.2.2 j hj
  refine s_flip hL V A ⟨d2, d3⟩ (qv0_of d4.1) (fun h1 f1 A1 => ?_)
  have ha := (qacc_iff (qv0_of d4.1)).mpr d4
  rw [ha, if_pos rfl] at A1
  rw [ha]
  have fh : qfh (h 11 0 10) h h1 := qfh_8 (by omega) f1
  have fx : qfx [8, 30, 31, 32] h h1 := fun r e i c => f1 r i c (by simp at e; omega)
  refine ⟨fun _ => s_flast hL (qdeeds_fx D fx rfl) hp (fun h2 f2 D2 => ⟨Or.inr rfl, k1 hp h2 (qfx_trans (qfx_mono fx (qfx_sub rfl)) (qfx_mono f2 (qfx_sub rfl))) (fun y m T hy hh => ?_) ?_ D2⟩), fun q => absurd q (by decide)⟩
  · exact qhall_fr (qhall_other fh hy hh) (f2 2 rfl _ _) (fun r i j q _ _ => f2 r (by rcases q with q | q | q | q <;> subst q <;> rfl) i j)
  · have : qhall h1 (h 11 0 10) n (qup S j (qflip (S j) (dl 0).2)) := by
      refine ⟨by rw [fx 2 rfl]; exact H.1, h6, fun i hi => ?_⟩
      by_cases e2 : i = j
      · rw [e2, qup_at]; exact ⟨d4, A1⟩
      · rw [qup_ne e2]; exact ⟨(H.2.2 i hi).1, qf8_at f1 (by omega) (H.2.2 i hi).2⟩
    exact qhall_fr this (f2 2 rfl _ _) (fun r i j q _ _ => f2 r (by rcases q with q | q | q | q <;> subst q <;> rfl) i j)
theorem t_hold {y : Int} (hL : qhL g) (hx : h 11 0 10 = x) (hx0 : 3 ≤ x) (H : qhall h x n S)
    (k0 : ¬ (0 ≤ y ∧ y < 3) → Q 0 h) (k1 : 0 ≤ y → y < 3 → ∀ h', qfx [2, 8, 30, 31, 32, 45] h h' → (∀ z m T, z ≠ y → qhall h z m T → qhall h' z m T) → qhall h' y n S → (∀ i, h' 45 0 i = if i = y then 1 else h 45 0 i) → Q 1 h') : q_tr l g (d + 5) n_X11_hold [qr 11 0, qi y] h Q := by
  refine i_X11_hold hL (fun G hG _ _ => b_X11_hold_0 hG ⟨fun q => ⟨Or.inl rfl, k0 (by omega)⟩, fun q => ⟨fun q2 => ⟨by omega, by omega, ?_⟩, fun q2 => ⟨Or.inl rfl, k0 (by omega)⟩⟩⟩)
  rw [hx]
  refine s_hcopy hL H (by omega) (fun h1 f1 H1 => ⟨⟨by omega, Or.inr rfl⟩, Or.inr rfl, k1 (by omega) q2 _ (qfx_trans (qfx_mono (qfh_fx f1) (qfx_sub rfl)) (qfx_qu rfl)) (fun z m T hz hh => ?_) ?_ (fun i => ?_)⟩)
  · exact qhall_fr (qhall_other f1 hz hh) (qu_ne (by omega)) (fun r i j q _ _ => qu_ne (by omega))
  · exact qhall_fr H1 (qu_ne (by omega)) (fun r i j q _ _ => qu_ne (by omega))
  · by_cases e : i = y
    · rw [if_pos e, e, qu_at]
    · rw [if_neg e, qu_ne (by omega)]; exact qfh_fx f1 45 rfl 0 i
theorem t_restore {y : Int} {b : Nat → Bool} {K : Nat → Nat → QZ} (hL : qhL g) (hx : h 11 0 10 = x) (hx0 : 3 ≤ x) (B : ∀ i : Nat, i < 3 → h 45 0 i = qb (b i)) (HK : ∀ i : Nat, i < 3 → b i = true → qhall h i n (K i))
    (k0 : ¬ (0 ≤ y ∧ y < 3 ∧ b y.toNat = true) → Q 0 h) (k1 : 0 ≤ y → y < 3 → b y.toNat = true → ∀ h', qfx [1, 2, 8, 30, 31, 32] h h' → (∀ z m T, z ≠ x → qhall h z m T → qhall h' z m T) → qhall h' x n (K y.toNat) → qdeeds h' 0 dl → Q 1 h') : q_tr l g (d + 5) n_X11_restore [qr 11 0, qi y] h Q := by
  refine i_X11_restore hL (fun G hG _ _ => b_X11_restore_0 hG ⟨fun q => ⟨Or.inl rfl, k0 (by omega)⟩, fun q => ⟨fun q2 => ⟨Or.inl rfl, k0 (by omega)⟩, fun q2 => ⟨by omega, ?_⟩⟩⟩)
  obtain ⟨u, rfl⟩ := Int.eq_ofNat_of_zero_le (show 0 ≤ y by omega)
  rw [Int.toNat_natCast] at k0 k1
  rw [B u (by omega)]
  refine ⟨fun q3 => ⟨by omega, by omega, ?_⟩, fun q3 => ⟨Or.inl rfl, k0 (fun z => by rw [z.2.2] at q3; cases q3)⟩⟩
  have hb := qb_n0.mp q3
  rw [hx]
  refine s_hcopy hL (HK u (by omega) hb) (by omega) (fun h1 f1 H1 => s_fall hL (fun h2 f2 D2 => ⟨Or.inr rfl, k1 (by omega) (by omega) hb h2 (qfx_trans (qfx_mono (qfh_fx f1) (qfx_sub rfl)) (qfx_mono f2 (qfx_sub rfl))) (fun z m T hz hh => ?_) ?_ D2⟩))
  · exact qhall_fr (qhall_other f1 hz hh) (f2 2 rfl _ _) (fun r i j q _ _ => f2 r (by rcases q with q | q | q | q <;> subst q <;> rfl) i j)
  · exact qhall_fr H1 (f2 2 rfl _ _) (fun r i j q _ _ => f2 r (by rcases q with q | q | q | q <;> subst q <;> rfl) i j)
/-- five words more -/
def qfive (tn : Nat) (tb : Nat → Int) (a b c d e : Int) : Nat → Int := qfour (tn + 16) (qfour (tn + 12) (qfour (tn + 8) (qfour (tn + 4) (qfour tn tb a) b) c) d) e
theorem t_feed {tn : Nat} {tb : Nat → Int} {a b c dd e : Int} (hL : qhL g) (T : qtape h tn tb) (k0 : 1980 < tn → Q (-1) h) (k1 : tn ≤ 1980 → ∀ h', qfx [9, 33] h h' → qtape h' (tn + 20) (qfive tn tb a b c dd e) → Q ((tn + 20 : Nat) : Int) h') : q_tr l g (d + 2) n_X11_feed [qr 11 0, qi a, qi b, qi c, qi dd, qi e] h Q := by
  refine i_X11_feed hL (fun G hG _ _ => b_X11_feed_0 hG (s_room hL T ⟨fun q => ?_, fun q => k0 (by omega)⟩))
  refine s_four hL T (by omega) (fun h1 f1 T1 => s_four hL T1 (by omega) (fun h2 f2 T2 => s_four hL T2 (by omega) (fun h3 f3 T3 => s_four hL T3 (by omega) (fun h4 f4 T4 => s_four hL T4 (by omega) (fun h5 f5 T5 => s_tsize hL T5 ?_)))))
  exact k1 (by omega) h5 (qfx_trans f1 (qfx_trans f2 (qfx_trans f3 (qfx_trans f4 f5)))) T5
theorem t_back {tn : Nat} {tb : Nat → Int} {y : Int} (hL : qhL g) (T : qtape h tn tb) (k0 : (y < 0 ∨ (tn : Int) < y) → Q (-1) h) (k1 : 0 ≤ y → y ≤ tn → ∀ h', qfx [9] h h' → qtape h' (tn - y.toNat) tb → Q ((tn - y.toNat : Nat) : Int) h') : q_tr l g (d + 2) n_X11_back [qr 11 0, qi y] h Q := by
  have h2k := T.2.1
  refine i_X11_back hL (fun G hG _ _ => b_X11_back_0 hG ⟨fun q => k0 (Or.inl q), fun q => s_tsize hL T ⟨fun q2 => s_tsize hL T ⟨by omega, ?_⟩, fun q2 => k0 (Or.inr (by omega))⟩⟩)
  obtain ⟨u, rfl⟩ := Int.eq_ofNat_of_zero_le (show 0 ≤ y by omega)
  rw [Int.toNat_natCast] at k1
  rw [show (tn : Int) - (u : Int) = ((tn - u : Nat) : Int) by omega]
  exact s_shorten hL T (by omega) (fun h1 f1 T1 => s_tsize hL T1 (k1 (by omega) q2 h1 f1 T1))
theorem t_take (hL : qhL g) {y : Int} (hx : h 11 0 10 = x) (hy : h 11 0 11 = y) (hx0 : 0 ≤ x) (hy0 : 0 ≤ y) (k : ∀ h', qfx [1, 11, 45] h h' → h' 11 0 10 = y → h' 11 0 11 = x → h' 11 0 12 = h 11 0 12 → qdeeds h' 0 dl → (∀ i : Nat, i < 3 → h' 45 0 i = 0) → Q 0 h') : q_tr l g (d + 2) n_X11_takeOverSpare [qr 11 0] h Q := by
  refine i_X11_takeOverSpare hL (fun G hG _ _ => b_X11_takeOverSpare_0 hG ?_)
  rw [hx, hy]
  refine ⟨hx0, hy0, s_fall (dl := dl) hL (fun h1 f1 D1 => ?_)⟩
  have key : ∀ m, m ≤ 3 → ∀ h2, (qfx [45] h1 h2 ∧ ∀ i : Nat, i < m → h2 45 0 i = 0) → G 27 [some (qr 11 0), none, some (qi (m : Int))] [] h2 := by
    refine q_up (fun m hm ih h2 hI => b_X11_takeOverSpare_27 hG ⟨fun q => ?_, fun q => ⟨⟨by omega, Or.inl rfl⟩, by omega, ih (by omega) _ ⟨qfx_trans hI.1 (qfx_qu rfl), fun i hi => ?_⟩⟩⟩)
    · have e11 : ∀ c, h2 11 0 c = (qu (qu h 11 0 10 y) 11 0 11 x) 11 0 c := fun c => by rw [hI.1 11 rfl, f1 11 rfl]
      refine k h2 ?_ ?_ ?_ ?_ (qdeeds_fx D1 hI.1 rfl) (fun i hi => hI.2 i (by omega))
      · exact qfx_trans (qfx_trans (qfx_qu rfl) (qfx_qu rfl)) (qfx_trans (qfx_mono f1 (qfx_sub rfl)) (qfx_mono hI.1 (qfx_sub rfl)))
      · rw [e11, qu_ne (by omega), qu_at]
      · rw [e11, qu_at]
      · rw [e11, qu_ne (by omega), qu_ne (by omega)]
    · by_cases e : i = m
      · rw [e, qu_at]
      · rw [qu_ne (by omega)]; exact hI.2 i (by omega)
  exact key 0 (by omega) h1 ⟨qfx_refl _ _, fun i hi => absurd hi (Nat.not_lt_zero _)⟩
end QW1
