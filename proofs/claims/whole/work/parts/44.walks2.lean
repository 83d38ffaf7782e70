/-! WAYS: the program's walks -/
theorem qat_fx {h h' : QM} {i : Int} {S : QZ} {rs : List Nat} (a : qat h i S) (f : qfx rs h h') (e : (rs.contains 8 || rs.contains 30 || rs.contains 31 || rs.contains 32) = false) : qat h' i S := by
  simp only [Bool.or_eq_false_iff] at e
  refine qat_fr a (fun r j q => ?_)
  rcases q with q | q | q | q <;> subst q
  · exact f _ e.1.1.1 _ _
  · exact f _ e.1.1.2 _ _
  · exact f _ e.1.2 _ _
  · exact f _ e.2 _ _
/-- sums along the way down -/
def qF (f : Nat → Nat) (g y : Nat) : Nat → Nat
  | 0 => f y
  | n + 1 => qF f g y n + f (y - (n + 1) * g)
theorem qF_sh (f : Nat → Nat) (g y : Nat) : ∀ n, qF f g y (n + 1) = f y + qF f g (y - g) n
  | 0 => by show f y + f (y - (0 + 1) * g) = f y + f (y - g); rw [Nat.zero_add, Nat.one_mul]
  | n + 1 => by
    show qF f g y (n + 1) + f (y - (n + 1 + 1) * g) = f y + (qF f g (y - g) n + f (y - g - (n + 1) * g))
    rw [qF_sh f g y n, Nat.add_assoc, Nat.sub_sub, show g + (n + 1) * g = (n + 1 + 1) * g by rw [Nat.add_mul (n + 1) 1 g, Nat.one_mul, Nat.add_comm]]
theorem qWk_F {gk : Nat → Nat} {c k : Nat} (hk : k < c) (hg : 1 ≤ gk k) : ∀ n y, n * gk k ≤ y → y < (n + 1) * gk k → qWk gk c k y = qF (qWk gk c (k + 1)) (gk k) y n
  | 0, y, h1, h2 => by
    rw [qWk_s hk hg, if_neg (by omega), Nat.add_zero]; rfl
  | n + 1, y, h1, h2 => by
    have e1 : (n + 1) * gk k = n * gk k + gk k := by rw [Nat.add_mul, Nat.one_mul]
    have e2 : (n + 1 + 1) * gk k = (n + 1) * gk k + gk k := by rw [Nat.add_mul (n + 1), Nat.one_mul]
    rw [qWk_s hk hg, if_pos (by omega), qWk_F hk hg n (y - gk k) (by omega) (by omega), qF_sh]
/-- how often one is taken: from as often as can be, downward -/
def qtk (f : Nat → Nat) (g y : Nat) : Nat → Nat → Nat × Nat
  | 0, a => (0, a)
  | n + 1, a => if a < f (y - (n + 1) * g) then (n + 1, a) else qtk f g y n (a - f (y - (n + 1) * g))
theorem qtk_ok {f : Nat → Nat} {g y : Nat} : ∀ n a, a < qF f g y n → (qtk f g y n a).1 ≤ n ∧ (qtk f g y n a).2 < f (y - (qtk f g y n a).1 * g)
  | 0, a, h => ⟨Nat.le_refl _, by show a < f (y - 0 * g); rw [Nat.zero_mul]; exact h⟩
  | n + 1, a, h => by
    have h : a < qF f g y n + f (y - (n + 1) * g) := h
    unfold qtk
    by_cases e : a < f (y - (n + 1) * g)
    · rw [if_pos e]; exact ⟨Nat.le_refl _, e⟩
    · rw [if_neg e]
      have := qtk_ok (f := f) (g := g) (y := y) n (a - f (y - (n + 1) * g)) (by omega)
      exact ⟨by omega, this.2⟩
def qws (gk : Nat → Nat) (c x i : Nat) : Nat → Nat × Nat
  | 0 => (x, i)
  | k + 1 => ((qws gk c x i k).1 - (qtk (qWk gk c (k + 1)) (gk k) (qws gk c x i k).1 ((qws gk c x i k).1 / gk k) (qws gk c x i k).2).1 * gk k, (qtk (qWk gk c (k + 1)) (gk k) (qws gk c x i k).1 ((qws gk c x i k).1 / gk k) (qws gk c x i k).2).2)
/-- the i-th WAY: how often the k-th is taken -/
def qway (gk : Nat → Nat) (c x i k : Nat) : Nat := (qtk (qWk gk c (k + 1)) (gk k) (qws gk c x i k).1 ((qws gk c x i k).1 / gk k) (qws gk c x i k).2).1
theorem qws_s (gk : Nat → Nat) (c x i k : Nat) : qws gk c x i (k + 1) = ((qws gk c x i k).1 - qway gk c x i k * gk k, (qtk (qWk gk c (k + 1)) (gk k) (qws gk c x i k).1 ((qws gk c x i k).1 / gk k) (qws gk c x i k).2).2) := rfl
theorem q_divs (y g : Nat) (hg : 1 ≤ g) : y / g * g ≤ y ∧ y < (y / g + 1) * g := by
  have h1 := Nat.div_add_mod y g
  have h2 := Nat.mod_lt y (show 0 < g by omega)
  rw [Nat.add_mul, Nat.one_mul, Nat.mul_comm (y / g)]
  omega
theorem qws_ok {gk : Nat → Nat} {c x i : Nat} (hg : ∀ k, k < c → 1 ≤ gk k) (hi : i < qWk gk c 0 x) : ∀ k, k ≤ c → (qws gk c x i k).2 < qWk gk c k (qws gk c x i k).1 ∧ (qws gk c x i k).1 ≤ x
  | 0, _ => ⟨hi, Nat.le_refl _⟩
  | k + 1, h => by
    obtain ⟨h1, h2⟩ := qws_ok hg hi k (by omega)
    have h3 := hg k (by omega)
    rw [qws_s]
    unfold qway
    generalize (qws gk c x i k).1 = y at *
    generalize (qws gk c x i k).2 = a at *
    obtain ⟨e1, e2⟩ := q_divs y (gk k) h3
    rw [qWk_F (by omega) h3 _ _ e1 e2] at h1
    exact ⟨(qtk_ok _ _ h1).2, by dsimp only; omega⟩
theorem qF_bd {f : Nat → Nat} {g y : Nat} : ∀ {n m}, m ≤ n → f (y - m * g) ≤ qF f g y n
  | 0, m, h => by
    have : m = 0 := by omega
    subst this
    rw [Nat.zero_mul]; exact Nat.le_refl _
  | n + 1, m, h => by
    show _ ≤ qF f g y n + f (y - (n + 1) * g)
    by_cases e : m = n + 1
    · subst e; omega
    · have := qF_bd (f := f) (g := g) (y := y) (show m ≤ n by omega); omega
section QWalks2
variable {l : Launch} {g : QG} {d : Nat} {h : QM} {i : Int} {S : QZ} {Q : Int → QM → Prop}
theorem s_number {x : Nat} (hL : qhL g) (V : QV2 S) (A : qat h i S) (hx : x ≤ 150)
    (k : ∀ h', qfx [34] h h' → (∀ kk : Nat, kk ≤ qgc S → ∀ y : Nat, y ≤ x → h' 34 kk y = (qWk (qgk S) (qgc S) kk y : Nat)) → Q (qWk (qgk S) (qgc S) 0 x : Nat) h') : q_tr l g (d + 1) n_X10_number [qr 10 0, qr 8 i, qi x] h Q := by
  refine i_X10_number hL (fun G hG _ _ => b_X10_number_0 hG ?_)
  have hc : qgc S ≤ 24 := V.2
  have hbd := fun kk y (hy : y ≤ 150) => qW_bd V (k := kk) (y := y) hy
  have hpos := qgk_pos (S := S)
  have hgc := A.2.2.2.2.1
  rw [hgc]
  have hgk := fun h1 (f : qfx [34] h h1) kk (hk : kk < qgc S) => qat_gk (qat_fx A f rfl) hk
  generalize hW : qWk (qgk S) (qgc S) = W at *
  generalize hcc : qgc S = c at *
  -- the table from below
  have tab : ∀ j, j ≤ c → ∀ h1, (qfx [34] h h1 ∧ ∀ kk : Nat, c - j ≤ kk → kk ≤ c → ∀ y : Nat, y ≤ x → h1 34 kk y = W kk y) → G 44 [some (qr 10 0), some (qr 8 i), some (qi x), none, some (qi ((c : Int) - 1 - (j : Int))), none, none] [] h1 := by
    refine q_up (fun j hj ih h1 hI => b_X10_number_44 hG ?_)
    obtain ⟨f, a1⟩ := hI
    refine ⟨fun q => ⟨by omega, by omega, ?_⟩, fun q => ⟨by omega, ?_⟩⟩
    · have e := a1 0 (by omega) (by omega) x (Nat.le_refl _)
      rw [show ((0 : Nat) : Int) = 0 from rfl] at e
      rw [e]
      exact k h1 f (fun kk hk y hy => a1 kk (by omega) hk y hy)
    · have hj2 : j < c := by omega
      rw [show (c : Int) - 1 - (j : Int) = ((c - 1 - j : Nat) : Int) by omega]
      generalize hk0 : c - 1 - j = k0
      rw [hgk h1 f k0 (by omega)]
      have hg1 := hpos k0 (by omega)
      have row : ∀ m, m ≤ x + 1 → ∀ h2, (qfx [34] h h2 ∧ (∀ kk : Nat, c - j ≤ kk → kk ≤ c → ∀ y : Nat, y ≤ x → h2 34 kk y = W kk y) ∧ ∀ y : Nat, y < m → h2 34 k0 y = W k0 y) → G 61 [some (qr 10 0), some (qr 8 i), some (qi x), none, some (qi k0), some (qi (qgk S k0)), some (qi (m : Int))] [] h2 := by
        refine q_up (fun m hm ihm h2 hI2 => b_X10_number_61 hG ?_)
        obtain ⟨f2, b1, b2⟩ := hI2
        refine ⟨fun q2 => ⟨by omega, ?_⟩, fun q2 => ⟨by omega, by omega, by omega, by omega, ?_⟩⟩
        · have := ih hj2 h2 ⟨f2, fun kk k1 k2 y hy => ?_⟩
          · rw [show (k0 : Int) + -1 = (c : Int) - 1 - ((j + 1 : Nat) : Int) by omega]; exact this
          · by_cases e : kk = k0
            · rw [e]; exact b2 y (by omega)
            · exact b1 kk (by omega) k2 y hy
        · have e1 := b1 (k0 + 1) (by omega) (by omega) m (by omega)
          rw [show ((k0 + 1 : Nat) : Int) = (k0 : Int) + 1 by omega] at e1
          rw [e1]
          have w1 := hbd (k0 + 1) m (by omega)
          have w2 := hbd k0 m (by omega)
          have es := qWk_s (gk := qgk S) (c := c) (k := k0) (by omega) hg1 m
          rw [hW] at es
          have nxt : ∀ v : Int, v = W k0 m → G 61 [some (qr 10 0), some (qr 8 i), some (qi x), none, some (qi k0), some (qi (qgk S k0)), some (qi ((m : Int) + 1))] [] (qu h2 34 k0 m v) := fun v hv => by
            refine ihm (by omega) _ ⟨qfx_trans f2 (qfx_qu rfl), fun kk k1 k2 y hy => ?_, fun y hy => ?_⟩
            · rw [qu_ne (by omega)]; exact b1 kk k1 k2 y hy
            · by_cases e : y = m
              · rw [e, qu_at, hv]
              · rw [qu_ne (by omega)]; exact b2 y (by omega)
          refine ⟨fun q3 => by omega, fun _ => ⟨fun q3 => ⟨by omega, by omega, by omega, nxt _ ?_⟩, fun q3 => ?_⟩⟩
          · rw [es, if_neg (by omega)]; rfl
          · have w3 := hbd k0 (m - qgk S k0) (by omega)
            rw [show (m : Int) - (qgk S k0 : Int) = ((m - qgk S k0 : Nat) : Int) by omega, b2 _ (by omega)]
            rw [if_pos (by omega)] at es
            refine ⟨by omega, by omega, by omega, by omega, by omega, by omega, nxt _ ?_⟩
            rw [es]; rfl
      refine row 0 (by omega) h1 ⟨f, a1, fun y hy => absurd hy (Nat.not_lt_zero _)⟩
  have base : ∀ m, m ≤ x + 1 → ∀ h1, (qfx [34] h h1 ∧ ∀ y : Nat, y < m → h1 34 c y = W c y) → G 8 [some (qr 10 0), some (qr 8 i), some (qi x), some (qi c), some (qi (m : Int)), none, none] [] h1 := by
    refine q_up (fun m hm ih h1 hI => b_X10_number_8 hG ?_)
    have hWc : ∀ y, W c y = if y = 0 then 1 else 0 := fun y => by rw [← hW]; exact qWk_c _ _ _
    have nxt : ∀ v : Int, v = W c m → m < x + 1 → G 8 [some (qr 10 0), some (qr 8 i), some (qi x), some (qi c), some (qi ((m : Int) + 1)), none, none] [] (qu h1 34 c m v) := fun v hv hm2 => by
      refine ih hm2 _ ⟨qfx_trans hI.1 (qfx_qu rfl), fun y hy => ?_⟩
      by_cases e : y = m
      · rw [e, qu_at, hv]
      · rw [qu_ne (by omega)]; exact hI.2 y (by omega)
    refine ⟨fun q => ⟨by omega, ?_⟩, fun q => ⟨by omega, fun q2 => ⟨by omega, by omega, nxt 0 ?_ (by omega)⟩, fun q2 => ⟨by omega, by omega, nxt 1 ?_ (by omega)⟩⟩⟩
    · have := tab 0 (Nat.zero_le _) h1 ⟨hI.1, fun kk k1 k2 y hy => ?_⟩
      · rw [show (c : Int) - 1 = (c : Int) - 1 - ((0 : Nat) : Int) by omega]; exact this
      · rw [show kk = c by omega]; exact hI.2 y (by omega)
    · rw [hWc, if_neg (by omega)]; rfl
    · rw [hWc, if_pos (by omega)]; rfl
  exact base 0 (by omega) h ⟨qfx_refl _ _, fun y hy => absurd hy (Nat.not_lt_zero _)⟩
theorem s_times {x n : Nat} (hL : qhL g) (hn : 1 ≤ n) (k : Q (x / n : Nat) h) : q_tr l g (d + 1) n_X10_times [qi x, qi n] h Q := by
  refine i_X10_times hL (fun G hG _ _ => b_X10_times_0 hG ?_)
  refine ⟨fun _ => ⟨by omega, q_qe k ?_⟩, fun q => by omega⟩
  rw [Int.natCast_ediv]
theorem s_goAlong {x j : Nat} (hL : qhL g) (V : QV2 S) (A : qat h i S) (hx : x ≤ 150) (hj : j < qWk (qgk S) (qgc S) 0 x)
    (T : ∀ kk : Nat, kk ≤ qgc S → ∀ y : Nat, y ≤ x → h 34 kk y = (qWk (qgk S) (qgc S) kk y : Nat))
    (k : ∀ h', qfx [36] h h' → (∀ kk : Nat, kk < qgc S → h' 36 0 kk = (qway (qgk S) (qgc S) x j kk : Nat)) → Q 0 h') : q_tr l g (d + 2) n_X10_goAlong [qr 10 0, qr 8 i, qi x, qi j] h Q := by
  refine i_X10_goAlong hL (fun G hG _ _ => b_X10_goAlong_0 hG ?_)
  have hc : qgc S ≤ 24 := V.2
  have hbd := fun kk y (hy : y ≤ 150) => qW_bd V (k := kk) (y := y) hy
  have hpos := qgk_pos (S := S)
  have hbig := qgk_bd (S := S)
  have hst := qws_ok hpos hj
  have hF : ∀ kk, kk < qgc S → ∀ y, qWk (qgk S) (qgc S) kk y = qF (qWk (qgk S) (qgc S) (kk + 1)) (qgk S kk) y (y / qgk S kk) := fun kk hk y => qWk_F hk (hpos kk hk) _ _ (q_divs y _ (hpos kk hk)).1 (q_divs y _ (hpos kk hk)).2
  have hgc := A.2.2.2.2.1
  have hgk := fun h1 (f : qfx [36] h h1) kk (hk : kk < qgc S) => qat_gk (qat_fx A f rfl) hk
  have hgc1 := fun h1 (f : qfx [36] h h1) => (qat_fx A f rfl).2.2.2.2.1
  generalize hcc : qgc S = c at *
  have key : ∀ m, m ≤ c → ∀ h1, (qfx [36] h h1 ∧ ∀ kk : Nat, kk < m → h1 36 0 kk = (qway (qgk S) c x j kk : Nat)) → G 9 [some (qr 10 0), some (qr 8 i), none, none, some (qi (qws (qgk S) c x j m).1), some (qi (qws (qgk S) c x j m).2), some (qi (m : Int)), none, none, none] [] h1 := by
    refine q_up (fun m hm ih h1 hI => b_X10_goAlong_9 hG ?_)
    obtain ⟨f, a1⟩ := hI
    rw [hgc1 h1 f]
    refine ⟨fun q => k h1 f (fun kk hk => a1 kk (by omega)), fun q => ⟨by omega, by omega, ?_⟩⟩
    rw [hgk h1 f m (by omega)]
    obtain ⟨s1, s2⟩ := hst m (by omega)
    have g1 := hpos m (by omega)
    have g2 := hbig m (by omega)
    have ih := ih (by omega)
    rw [qws_s] at ih
    have hF := hF m (by omega)
    have hW : ∀ (h2 : QM), qfx [36] h h2 → ∀ y : Nat, y ≤ x → h2 34 ((m : Int) + 1) y = (qWk (qgk S) c (m + 1) y : Nat) := fun h2 f2 y hy => by
      rw [f2 34 rfl]
      exact T (m + 1) (by omega) y hy
    unfold qway at ih a1
    generalize hy : (qws (qgk S) c x j m).1 = y at *
    generalize ha : (qws (qgk S) c x j m).2 = a at *
    rw [hF y] at s1
    have fW := qfx_trans f (qfx_qu (rs := [36]) (h := h1) (r := 36) (i := 0) (j := (m : Int)) (v := 0) rfl)
    refine s_times hL g1 ?_
    generalize hT : qtk (qWk (qgk S) c (m + 1)) (qgk S m) y (y / qgk S m) a = t at *
    have inner : ∀ n b, b < 1100000000 → n * qgk S m ≤ y → b < qF (qWk (qgk S) c (m + 1)) (qgk S m) y n → qtk (qWk (qgk S) c (m + 1)) (qgk S m) y n b = t → G 44 [some (qr 10 0), some (qr 8 i), none, none, some (qi y), some (qi b), some (qi (m : Int)), some (qi (qgk S m)), some (qi (n : Nat)), none] [] (qu h1 36 0 m 0) := by
      intro n
      induction n with
      | zero =>
        intro b hbb hn hb ht
        have hb : b < qWk (qgk S) c (m + 1) y := hb
        refine b_X10_goAlong_44 hG ⟨fun q2 => by omega, fun _ => ⟨by omega, by omega, by omega, by omega, by omega, ?_⟩⟩
        rw [show (y : Int) - ((0 : Nat) : Int) * (qgk S m : Int) = (y : Nat) by rw [show ((0 : Nat) : Int) = 0 from rfl, Int.zero_mul, Int.sub_zero], hW _ fW y s2]
        refine ⟨fun q2 => by omega, fun _ => ⟨by omega, by omega, by omega, by omega, ?_⟩⟩
        have := ih (qu (qu h1 36 0 m 0) 36 0 m ((0 : Nat) : Int)) ⟨qfx_trans fW (qfx_qu rfl), fun kk hk => ?_⟩
        · rw [← ht] at this
          have e3 : qtk (qWk (qgk S) c (m + 1)) (qgk S m) y 0 b = (0, b) := rfl
          rw [e3] at this
          dsimp only at this
          rw [Nat.zero_mul, Nat.sub_zero] at this
          exact this
        · by_cases e : kk = m
          · rw [e, qu_at]
            unfold qtk at ht
            rw [hy, ha, hT, ← ht]
          · rw [qu_ne (by omega), qu_ne (by omega)]; exact a1 kk (by omega)
      | succ n ihn =>
        intro b hbb hn hb ht
        have hb : b < qF (qWk (qgk S) c (m + 1)) (qgk S m) y n + qWk (qgk S) c (m + 1) (y - (n + 1) * qgk S m) := hb
        have hn2 : (n + 1) * qgk S m = n * qgk S m + qgk S m := by rw [Nat.add_mul, Nat.one_mul]
        have hw := hbd (m + 1) (y - (n + 1) * qgk S m) (by omega)
        have hn3 : n + 1 ≤ (n + 1) * qgk S m := Nat.le_mul_of_pos_right _ (by omega)
        refine b_X10_goAlong_44 hG ⟨fun q2 => by omega, fun _ => ?_⟩
        rw [show ((n + 1 : Nat) : Int) * (qgk S m : Int) = (((n + 1) * qgk S m : Nat) : Int) by rw [Int.natCast_mul]]
        rw [show (y : Int) - (((n + 1) * qgk S m : Nat) : Int) = ((y - (n + 1) * qgk S m : Nat) : Int) by omega, hW _ fW _ (by omega)]
        unfold qtk at ht
        refine ⟨by omega, by omega, by omega, by omega, by omega, fun q2 => ?_, fun q2 => ?_⟩
        · rw [if_neg (by omega)] at ht
          refine ⟨by omega, by omega, ?_⟩
          have := ihn (b - qWk (qgk S) c (m + 1) (y - (n + 1) * qgk S m)) (by omega) (by omega) (by omega) ht
          rw [show ((n + 1 : Nat) : Int) + -1 = (n : Int) by omega, show (b : Int) - ((qWk (qgk S) c (m + 1) (y - (n + 1) * qgk S m) : Nat) : Int) = ((b - qWk (qgk S) c (m + 1) (y - (n + 1) * qgk S m) : Nat) : Int) by omega]
          exact this
        · rw [if_pos (by omega)] at ht
          refine ⟨by omega, by omega, by omega, by omega, ?_⟩
          have := ih (qu (qu h1 36 0 m 0) 36 0 m ((n + 1 : Nat) : Int)) ⟨qfx_trans fW (qfx_qu rfl), fun kk hk => ?_⟩
          · rw [← ht] at this
            exact this
          · by_cases e : kk = m
            · rw [e, qu_at, hy, ha, hT, ← ht]
            · rw [qu_ne (by omega), qu_ne (by omega)]; exact a1 kk (by omega)
    have hwb := hbd m y (by omega)
    rw [hF y] at hwb
    exact inner _ a (by omega) (q_divs y _ g1).1 s1 hT
  exact key 0 (Nat.zero_le _) h ⟨qfx_refl _ _, fun kk hk => absurd hk (Nat.not_lt_zero _)⟩
end QWalks2
