/-! CHAIN -/
theorem qway_le {gk : Nat → Nat} {c x i k : Nat} (hg : ∀ k, k < c → 1 ≤ gk k) (hi : i < qWk gk c 0 x) (hk : k < c) : qway gk c x i k ≤ x := by
  obtain ⟨h1, h2⟩ := qws_ok hg hi k (by omega)
  have h3 := hg k hk
  unfold qway
  generalize (qws gk c x i k).1 = y at *
  generalize (qws gk c x i k).2 = a at *
  obtain ⟨e1, e2⟩ := q_divs y (gk k) h3
  rw [qWk_F hk h3 _ _ e1 e2] at h1
  have := (qtk_ok _ _ h1).1
  have := Nat.div_le_self y (gk k)
  omega
/-- how far two rows are from one another -/
def qap1 (c : Nat) (a b : Nat → Nat) : Int := max (qsum (fun k => max 0 ((a k : Int) - b k)) c) (qsum (fun k => max 0 ((b k : Int) - a k)) c)
theorem qsum_max {a b : Nat → Nat} {c : Nat} (ha : ∀ k, k < c → a k ≤ 150) : 0 ≤ qsum (fun k => max 0 ((a k : Int) - b k)) c ∧ qsum (fun k => max 0 ((a k : Int) - b k)) c ≤ 150 * c := by
  have := qsum_bd (f := fun k => max 0 ((a k : Int) - b k)) (a := 0) (b := 150) (n := c) (fun k hk => by have := ha k hk; omega)
  omega
theorem qap1_bd {a b : Nat → Nat} {c : Nat} (hc : c ≤ 24) (ha : ∀ k, k < c → a k ≤ 150) (hb : ∀ k, k < c → b k ≤ 150) : 0 ≤ qap1 c a b ∧ qap1 c a b ≤ 3600 := by
  have h1 := qsum_max (b := b) ha
  have h2 := qsum_max (b := a) hb
  unfold qap1
  omega
/-- the first of the least that are not below 0; -1: there is none -/
def qarg (v : Nat → Int) : Nat → Int
  | 0 => -1
  | n + 1 => if 0 ≤ v n ∧ (qarg v n = -1 ∨ v n < v (qarg v n).toNat) then n else qarg v n
theorem qarg_s (v : Nat → Int) (n : Nat) : qarg v (n + 1) = if 0 ≤ v n ∧ (qarg v n = -1 ∨ v n < v (qarg v n).toNat) then (n : Int) else qarg v n := rfl
theorem qarg_ok {v : Nat → Int} : ∀ n, (qarg v n = -1 ∧ ∀ i, i < n → v i < 0) ∨ (0 ≤ qarg v n ∧ qarg v n < n ∧ 0 ≤ v (qarg v n).toNat)
  | 0 => Or.inl ⟨rfl, fun i h => absurd h (Nat.not_lt_zero _)⟩
  | n + 1 => by
    rw [qarg_s]
    by_cases e : 0 ≤ v n ∧ (qarg v n = -1 ∨ v n < v (qarg v n).toNat)
    · rw [if_pos e]
      exact Or.inr ⟨by omega, by omega, by rw [Int.toNat_natCast]; exact e.1⟩
    · rw [if_neg e]
      rcases qarg_ok (v := v) n with ⟨a1, a2⟩ | ⟨a1, a2, a3⟩
      · refine Or.inl ⟨a1, fun i hi => ?_⟩
        by_cases c : i = n
        · rw [c]
          rcases Int.lt_or_le (v n) 0 with q | q
          · exact q
          · exact absurd ⟨q, Or.inl a1⟩ e
        · exact a2 i (by omega)
      · exact Or.inr ⟨a1, by omega, a3⟩
theorem qarg_cong {v w : Nat → Int} : ∀ {n}, (∀ i, i < n → v i = w i) → qarg v n = qarg w n
  | 0, _ => rfl
  | n + 1, h => by
    have ih := qarg_cong (n := n) (fun i hi => h i (by omega))
    rw [qarg_s, qarg_s, ih, h n (by omega)]
    rcases qarg_ok (v := w) n with ⟨a1, a2⟩ | ⟨a1, a2, a3⟩
    · rw [a1]; simp
    · rw [h _ (by omega)]
/-- one more is joined -/
def qpn (d : Nat → Nat → Int) (v : Nat → Int) (u : Nat) : Nat → Int := fun i => if i = u ∨ v i = -1 then -1 else min (v i) (d u i)
/-- how near those are that are not joined yet (-1: joined), and the newest one -/
def qpre (d : Nat → Nat → Int) (m : Nat) : Nat → (Nat → Int) × Nat
  | 0 => (fun _ => 2147483647, 0)
  | r + 1 => (qpn d (qpre d m r).1 (qpre d m r).2, (qarg (qpn d (qpre d m r).1 (qpre d m r).2) m).toNat)
def qpv (d : Nat → Nat → Int) (m r : Nat) : Nat → Int := qpn d (qpre d m r).1 (qpre d m r).2
def qpm (d : Nat → Nat → Int) (m : Nat) : Nat → Int
  | 0 => 0
  | r + 1 => max (qpm d m r) (qpv d m r (qarg (qpv d m r) m).toNat)
theorem qpre_s (d : Nat → Nat → Int) (m r : Nat) : qpre d m (r + 1) = (qpv d m r, (qarg (qpv d m r) m).toNat) := rfl
theorem qc_flip {q : Nat → Bool} {b : Nat} (hq : q b = true) : ∀ n, b < n → qc (fun z => q z && !(z == b)) n + 1 = qc q n
  | 0, h => absurd h (Nat.not_lt_zero _)
  | n + 1, h => by
    rw [qc_s, qc_s]
    by_cases e : n = b
    · have : qc q n = qc (fun z => q z && !(z == b)) n := qc_cong (fun z hz => by
        have : z ≠ b := by omega
        simp [this])
      rw [this, e]
      simp [hq]
    · have := qc_flip hq n (by omega)
      simp [e]
      omega
/-- so many are not joined -/
theorem qpre_many {d : Nat → Nat → Int} {m : Nat} (hd : ∀ i j, i < m → j < m → 0 ≤ d i j) : ∀ r, r + 1 ≤ m →
    (qpre d m r).2 < m ∧ (∀ i, i < m → (qpre d m r).1 i = -1 ∨ 0 ≤ (qpre d m r).1 i) ∧ qc (fun i => decide (0 ≤ qpv d m r i)) m + r + 1 = m ∧ (r = 0 ∨ 0 ≤ (qpre d m r).1 (qpre d m r).2)
  | 0, h => by
    refine ⟨by show 0 < m; omega, fun i _ => Or.inr (by show (0 : Int) ≤ 2147483647; omega), ?_, Or.inl rfl⟩
    have := qc_flip (q := fun _ => true) (b := 0) rfl m (by omega)
    rw [qc_all] at this
    have e : qc (fun i => decide (0 ≤ qpv d m 0 i)) m = qc (fun z => true && !(z == 0)) m := qc_cong (fun z hz => by
      show decide (0 ≤ (if z = 0 ∨ (2147483647 : Int) = -1 then (-1 : Int) else min 2147483647 (d 0 z))) = _
      by_cases c : z = 0
      · rw [if_pos (Or.inl c), c]; rfl
      · have := hd 0 z (by omega) hz
        rw [if_neg (by omega), decide_eq_true (by omega)]
        simp [c])
    omega
  | r + 1, h => by
    obtain ⟨h1, h2, h3, h4⟩ := qpre_many hd r (by omega)
    rw [qpre_s]
    dsimp only
    have hv : ∀ i, i < m → qpv d m r i = -1 ∨ 0 ≤ qpv d m r i := fun i hi => by
      have a := h2 i hi
      have b := hd (qpre d m r).2 i h1 hi
      unfold qpv qpn
      split <;> omega
    rcases qarg_ok (v := qpv d m r) m with ⟨a1, a2⟩ | ⟨a1, a2, a3⟩
    · exfalso
      have : qc (fun i => decide (0 ≤ qpv d m r i)) m = 0 := by
        rw [qc_none (m := 0) (Nat.zero_le _) (fun x _ hx => by have := a2 x hx; simp; omega)]; rfl
      omega
    · refine ⟨by omega, hv, ?_, Or.inr a3⟩
      generalize hb : (qarg (qpv d m r) m).toNat = b at *
      have := qc_flip (q := fun i => decide (0 ≤ qpv d m r i)) (b := b) (by simp; exact a3) m (by omega)
      have e : qc (fun i => decide (0 ≤ qpv d m (r + 1) i)) m = qc (fun z => decide (0 ≤ qpv d m r z) && !(z == b)) m := qc_cong (fun z hz => by
        have e2 : qpv d m (r + 1) z = if z = b ∨ qpv d m r z = -1 then -1 else min (qpv d m r z) (d b z) := by
          show qpn d (qpre d m (r + 1)).1 (qpre d m (r + 1)).2 z = _
          rw [qpre_s, hb]; rfl
        rw [e2]
        have a := hv z hz
        have c := hd b z (by omega) hz
        by_cases w : z = b
        · rw [if_pos (Or.inl w)]; simp [w]
        · by_cases w2 : qpv d m r z = -1
          · rw [if_pos (Or.inr w2), w2]; rfl
          · rw [if_neg (by omega), decide_eq_true (by omega), decide_eq_true (by omega)]
            simp [w])
      omega
def qdw (gk : Nat → Nat) (c x : Nat) : Nat → Nat → Int := fun i j => qap1 c (qway gk c x i) (qway gk c x j)
def qchain (gk : Nat → Nat) (c x : Nat) : Int := if 1 ≤ qWk gk c 0 x ∧ qWk gk c 0 x ≤ 60 then qpm (qdw gk c x) (qWk gk c 0 x) (qWk gk c 0 x - 1) else -2
section QWalks5
variable {l : Launch} {g : QG} {d : Nat} {h : QM} {i : Int} {S : QZ} {Q : Int → QM → Prop}
theorem s_apart {a b : Nat → Nat} {c : Nat} {u v : Int} (hL : qhL g) (hc : c ≤ 24) (ha : ∀ k, k < c → a k ≤ 150) (hb : ∀ k, k < c → b k ≤ 150) (Ra : ∀ k : Nat, k < c → h 37 u k = a k) (Rb : ∀ k : Nat, k < c → h 37 v k = b k) (k : Q (qap1 c a b) h) : q_tr l g (d + 1) n_X10_apart [qr 37 u, qr 37 v, qi c] h Q := by
  refine i_X10_apart_37_37 hL (fun G hG _ _ => b_X10_apart_37_37_0 hG ?_)
  have key : ∀ m, m ≤ c → G 8 [some (qr 37 u), some (qr 37 v), some (qi c), some (qi (qsum (fun k => max 0 ((a k : Int) - b k)) m)), some (qi (qsum (fun k => max 0 ((b k : Int) - a k)) m)), some (qi (m : Int))] [] h := by
    refine q_up (fun m hm ih => b_X10_apart_37_37_8 hG ?_)
    refine ⟨fun q => q_qe k (by rw [show m = c by omega]; rfl), fun q => ?_⟩
    have h1 := qsum_max (a := a) (b := b) (c := m) (fun k hk => ha k (by omega))
    have h2 := qsum_max (a := b) (b := a) (c := m) (fun k hk => hb k (by omega))
    have h3 := ha m (by omega)
    have h4 := hb m (by omega)
    rw [Ra m (by omega), Rb m (by omega)]
    exact ⟨by omega, by omega, by omega, by omega, by omega, by omega, by omega, by omega, by omega, ih (by omega)⟩
  exact key 0 (Nat.zero_le _)
theorem s_nearest {dd : Nat → Nat → Int} {m u : Nat} {N : Nat → Int} (hL : qhL g) (A : qat h i S) (hc : qgc S ≤ 24) (w : Nat → Nat → Nat)
    (hw : ∀ j, j < m → ∀ k, k < qgc S → w j k ≤ 150) (Rw : ∀ j : Nat, j < m → ∀ k : Nat, k < qgc S → h 37 j k = w j k) (hdd : dd = fun a b => qap1 (qgc S) (w a) (w b))
    (hm : m ≤ 60) (hu : u < m) (RN : ∀ j : Nat, j < m → j ≠ u → h 39 0 j = N j) (Ru : h 39 0 u = -1) (hN : ∀ j, j < m → N j = -1 ∨ 0 ≤ N j) (hN2 : ∀ j, N j ≤ 2147483647)
    (hex : ∃ j, j < m ∧ 0 ≤ qpn dd N u j)
    (k : ∀ h', qfx [39] h h' → (∀ j : Nat, j < m → h' 39 0 j = qpn dd N u j) → Q (qarg (qpn dd N u) m) h') : q_tr l g (d + 2) n_X10_nearest [qr 10 0, qr 8 i, qi u, qi m] h Q := by
  refine i_X10_nearest hL (fun G hG _ _ => b_X10_nearest_0 hG ?_)
  have hdb : ∀ a b, a < m → b < m → 0 ≤ dd a b ∧ dd a b ≤ 3600 := fun a b ha hb => by rw [hdd]; exact qap1_bd hc (hw a ha) (hw b hb)
  generalize hv : qpn dd N u = v at *
  have hve : ∀ j, v j = if j = u ∨ N j = -1 then -1 else min (N j) (dd u j) := fun j => by rw [← hv]; rfl
  have hvu : v u = -1 := by rw [hve, if_pos (Or.inl rfl)]
  let best : Nat → Int := fun n => if qarg v n = -1 then (u : Int) else qarg v n
  have key : ∀ n, n ≤ m → ∀ h1, (qfx [39] h h1 ∧ ∀ j : Nat, j < m → h1 39 0 j = if j < n ∨ j = u then v j else N j) → G 6 [some (qr 10 0), some (qr 8 i), some (qi u), some (qi m), some (qi (best n)), some (qi (n : Int))] [] h1 := by
    refine q_up (fun n hn ih h1 hI => b_X10_nearest_6 hG ?_)
    obtain ⟨f, a1⟩ := hI
    have A1 := qat_fx A f rfl
    refine ⟨fun q => ?_, fun q => ⟨by omega, ?_⟩⟩
    · have hnm : n = m := by omega
      subst hnm
      refine q_qe (k h1 f (fun j hj => by rw [a1 j hj, if_pos (Or.inl hj)])) ?_
      show (if qarg v n = -1 then (u : Int) else qarg v n) = _
      obtain ⟨j, j1, j2⟩ := hex
      rcases qarg_ok (v := v) n with ⟨e1, e2⟩ | ⟨e1, e2, e3⟩
      · have := e2 j j1; omega
      · rw [if_neg (by omega)]
    · have hnm : n < m := by omega
      have en := a1 n hnm
      have ih := ih hnm
      by_cases c : n = u ∨ N n = -1
      · have e1 : h1 39 0 n = -1 := by
          rw [en]
          by_cases c2 : n = u
          · rw [if_pos (Or.inr c2), c2, hvu]
          · rw [if_neg (by omega)]; omega
        have e2 : v n = -1 := by rw [hve, if_pos c]
        rw [e1]
        refine ⟨fun _ => ⟨by omega, ?_⟩, fun q2 => absurd rfl q2⟩
        have := ih h1 ⟨f, fun j hj => by
          rw [a1 j hj]
          by_cases c3 : j < n ∨ j = u
          · rw [if_pos c3, if_pos (by omega)]
          · rw [if_neg c3]
            by_cases c4 : j = n
            · rw [c4, if_pos (by omega), e2]
              rcases c with c | c
              · omega
              · exact c
            · rw [if_neg (by omega)]⟩
        have eb : best (n + 1) = best n := by
          show (if qarg v (n + 1) = -1 then (u : Int) else qarg v (n + 1)) = (if qarg v n = -1 then (u : Int) else qarg v n)
          have hq : qarg v (n + 1) = qarg v n := by rw [qarg_s, if_neg (fun z => by omega)]
          rw [hq]
        rw [eb] at this
        exact this
      · have hNn := hN n hnm
        have hNn2 := hN2 n
        have e1 : h1 39 0 n = N n := by rw [en, if_neg (by omega)]
        have e2 : v n = min (N n) (dd u n) := by rw [hve, if_neg c]
        have e3 := hdb u n hu hnm
        rw [e1]
        refine ⟨fun q2 => by omega, fun _ => ⟨by omega, by omega, by omega, ?_⟩⟩
        rw [A1.2.2.2.2.1]
        refine s_apart (a := w u) (b := w n) hL hc (hw u hu) (hw n hnm) (fun kk hk => by rw [f 37 rfl]; exact Rw u hu kk hk) (fun kk hk => by rw [f 37 rfl]; exact Rw n hnm kk hk) ⟨by omega, ?_⟩
        have e4 : min (N n) (qap1 (qgc S) (w u) (w n)) = v n := by rw [e2, hdd]
        rw [e4, qu_at]
        have f1 := qfx_trans f (qfx_qu (rs := [39]) (h := h1) (r := 39) (i := 0) (j := (n : Int)) (v := v n) rfl)
        have a2 : ∀ j : Nat, j < m → (qu h1 39 0 n (v n)) 39 0 j = if j < n + 1 ∨ j = u then v j else N j := fun j hj => by
          by_cases c4 : j = n
          · rw [c4, qu_at, if_pos (by omega)]
          · rw [qu_ne (by omega), a1 j hj]
            by_cases c3 : j < n ∨ j = u
            · rw [if_pos c3, if_pos (by omega)]
            · rw [if_neg c3, if_neg (by omega)]
        have nxt := ih _ ⟨f1, a2⟩
        have eb : best (n + 1) = if qarg v (n + 1) = -1 then (u : Int) else qarg v (n + 1) := rfl
        have eb0 : best n = if qarg v n = -1 then (u : Int) else qarg v n := rfl
        rcases qarg_ok (v := v) n with ⟨b1, b2⟩ | ⟨b1, b2, b3⟩
        · have hq : qarg v (n + 1) = n := by rw [qarg_s, if_pos ⟨by omega, Or.inl b1⟩]
          rw [hq, if_neg (by omega)] at eb
          rw [eb] at nxt
          rw [if_pos b1] at eb0
          rw [eb0]
          exact ⟨fun _ => ⟨by omega, nxt⟩, fun q2 => absurd rfl q2⟩
        · rw [if_neg (by omega)] at eb0
          rw [eb0]
          have hnu : (qarg v n) ≠ u := fun z => by
            have : (qarg v n).toNat = u := by omega
            rw [this, hvu] at b3; omega
          have e5 : (qu h1 39 0 n (v n)) 39 0 (qarg v n) = v (qarg v n).toNat := by
            have := a2 (qarg v n).toNat (by omega)
            rw [Int.toNat_of_nonneg b1, if_pos (by omega)] at this
            exact this
          rw [e5]
          refine ⟨fun q2 => absurd q2 hnu, fun _ => ⟨by omega, by omega, fun q2 => ⟨by omega, ?_⟩, fun q2 => ⟨by omega, ?_⟩⟩⟩
          · have hq : qarg v (n + 1) = qarg v n := by rw [qarg_s, if_neg (fun z => by omega)]
            rw [hq, if_neg (by omega)] at eb
            rw [eb] at nxt; exact nxt
          · have hq : qarg v (n + 1) = n := by rw [qarg_s, if_pos ⟨by omega, Or.inr (by omega)⟩]
            rw [hq, if_neg (by omega)] at eb
            rw [eb] at nxt; exact nxt
  have := key 0 (Nat.zero_le _) h ⟨qfx_refl _ _, fun j hj => ?_⟩
  · exact this
  · by_cases c : j = u
    · rw [c, Ru, if_pos (Or.inr rfl), hvu]
    · rw [if_neg (by omega)]; exact RN j hj c
theorem s_chain {x : Nat} (hL : qhL g) (V : QV2 S) (A : qat h i S) (hx : x ≤ 150)
    (k : ∀ h', qfx [34, 36, 37, 39] h h' → Q (qchain (qgk S) (qgc S) x) h') : q_tr l g (d + 3) n_X10_longestNeeded [qr 10 0, qr 8 i, qi x] h Q := by
  refine i_X10_longestNeeded hL (fun G hG _ _ => b_X10_longestNeeded_0 hG ?_)
  have hc : qgc S ≤ 24 := V.2
  have hpos := qgk_pos (S := S)
  refine s_number hL V A hx (fun h1 f T => ?_)
  unfold qchain at k
  have hwy : ∀ j, j < qWk (qgk S) (qgc S) 0 x → ∀ k, k < qgc S → qway (qgk S) (qgc S) x j k ≤ 150 := fun j hj k hk => by have := qway_le hpos hj hk; omega
  generalize hM : qWk (qgk S) (qgc S) 0 x = m at *
  refine ⟨fun q => q_qe (k h1 (qfx_mono f (qfx_sub rfl))) (by rw [if_neg (by omega)]), fun q => ⟨fun q2 => ?_, fun q2 => q_qe (k h1 (qfx_mono f (qfx_sub rfl))) (by rw [if_neg (by omega)])⟩⟩
  rw [if_pos (by omega)] at k
  generalize hdd : qdw (qgk S) (qgc S) x = dd at *
  have hdd2 : dd = fun a b => qap1 (qgc S) (qway (qgk S) (qgc S) x a) (qway (qgk S) (qgc S) x b) := by rw [← hdd]; rfl
  have hdb : ∀ a b, a < m → b < m → 0 ≤ dd a b ∧ dd a b ≤ 3600 := fun a b ha hb => by rw [hdd2]; exact qap1_bd hc (hwy a ha) (hwy b hb)
  have hpm := qpre_many (d := dd) (m := m) (fun a b ha hb => (hdb a b ha hb).1)
  -- joined one after another
  have join : ∀ r, r ≤ m - 1 → ∀ h2, (qfx [34, 36, 37, 39] h h2 ∧ (∀ j : Nat, j < m → ∀ k : Nat, k < qgc S → h2 37 j k = (qway (qgk S) (qgc S) x j k : Nat)) ∧ ∀ j : Nat, j < m → h2 39 0 j = (qpre dd m r).1 j) → G 82 [some (qr 10 0), some (qr 8 i), none, some (qi m), some (qi (qpm dd m r)), some (qi ((qpre dd m r).2 : Nat)), some (qi ((r + 1 : Nat) : Int))] [] h2 := by
    refine q_up (fun r hr ih h2 hI => b_X10_longestNeeded_82 hG ?_)
    obtain ⟨f2, a1, a2⟩ := hI
    obtain ⟨p1, p2, p3, p4⟩ := hpm r (by omega)
    refine ⟨fun q3 => q_qe (k h2 f2) (by rw [show m - 1 = r by omega]), fun q3 => ⟨by omega, ?_⟩⟩
    have hex : ∃ j, j < m ∧ 0 ≤ qpn dd (qpre dd m r).1 (qpre dd m r).2 j := by
      have : 0 < qc (fun i => decide (0 ≤ qpv dd m r i)) m := by omega
      obtain ⟨j, j1, j2, _⟩ := qc_kth this
      exact ⟨j, j1, by have := of_decide_eq_true j2; exact this⟩
    have hle : ∀ r j, (qpre dd m r).1 j ≤ 2147483647 := by
      intro r
      induction r with
      | zero => intro j; exact Int.le_refl _
      | succ r ihr =>
        intro j
        show qpn dd (qpre dd m r).1 (qpre dd m r).2 j ≤ _
        have := ihr j
        unfold qpn
        split <;> omega
    refine s_nearest (dd := dd) (N := (qpre dd m r).1) hL (qat_fx (qat_fx A f2 rfl) (qfx_qu (rs := [39]) rfl) rfl) hc (qway (qgk S) (qgc S) x) hwy (fun j hj kk hk => by rw [qu_ne (by omega)]; exact a1 j hj kk hk) hdd2 (by omega) p1 (fun j hj hne => by rw [qu_ne (by omega)]; exact a2 j hj) qu_at p2 (hle r) hex (fun h3 f3 a3 => ?_)
    have hq : qpn dd (qpre dd m r).1 (qpre dd m r).2 = qpv dd m r := rfl
    rw [hq] at a3 ⊢
    rcases qarg_ok (v := qpv dd m r) m with ⟨b1, b2⟩ | ⟨b1, b2, b3⟩
    · obtain ⟨j, j1, j2⟩ := hex
      have := b2 j j1
      rw [hq] at j2
      omega
    · refine ⟨by omega, by omega, ?_⟩
      have e := a3 (qarg (qpv dd m r) m).toNat (by omega)
      rw [Int.toNat_of_nonneg b1] at e
      rw [e]
      have := ih (by omega) h3 ⟨qfx_trans f2 (qfx_trans (qfx_qu rfl) (qfx_mono f3 (qfx_sub rfl))), fun j hj kk hk => by rw [f3 37 rfl, qu_ne (by omega)]; exact a1 j hj kk hk, fun j hj => by rw [a3 j hj]; rfl⟩
      have e2 : ((qpre dd m (r + 1)).2 : Int) = qarg (qpv dd m r) m := by
        rw [qpre_s]
        exact Int.toNat_of_nonneg b1
      rw [e2] at this
      exact this
  -- all WAYS are gone along
  have ways : ∀ n, n ≤ m → ∀ h2, (qfx [34, 36, 37, 39] h h2 ∧ (∀ kk : Nat, kk ≤ qgc S → ∀ y : Nat, y ≤ x → h2 34 kk y = (qWk (qgk S) (qgc S) kk y : Nat)) ∧ (∀ j : Nat, j < n → ∀ k : Nat, k < qgc S → h2 37 j k = (qway (qgk S) (qgc S) x j k : Nat)) ∧ ∀ j : Nat, j < n → h2 39 0 j = 2147483647) → G 24 [some (qr 10 0), some (qr 8 i), some (qi x), some (qi m), some (qi (n : Int)), none, none] [] h2 := by
    refine q_up (fun n hn ih h2 hI => b_X10_longestNeeded_24 hG ?_)
    obtain ⟨f2, T2, a1, a2⟩ := hI
    refine ⟨fun q3 => join 0 (Nat.zero_le _) h2 ⟨f2, fun j hj => a1 j (by omega), fun j hj => a2 j (by omega)⟩, fun q3 => ?_⟩
    refine s_goAlong hL V (qat_fx A f2 rfl) hx (by omega) T2 (fun h3 f3 b => ?_)
    have A3 := qat_fx (qat_fx A f2 rfl) f3 rfl
    have e4 : h3 8 i 4 = qgc S := A3.2.2.2.2.1
    rw [e4]
    refine ⟨by omega, by omega, by omega, by omega, ih (by omega) _ ⟨?_, fun kk hk y hy => ?_, fun j hj kk hk => ?_, fun j hj => ?_⟩⟩
    · refine qfx_trans f2 (qfx_trans (qfx_mono f3 (qfx_sub rfl)) (qfx_trans (fun r e a b => ?_) (qfx_qu rfl)))
      unfold q_cpy
      rw [if_neg (fun z => by rw [z.1] at e; cases e)]
    · rw [qu_ne (by omega)]
      unfold q_cpy
      rw [if_neg (by omega), f3 34 rfl]
      exact T2 kk hk y hy
    · rw [qu_ne (by omega)]
      unfold q_cpy
      by_cases c : j = n
      · rw [c, if_pos (by omega), show (0 : Int) + ((kk : Int) - 0) = kk by omega]
        exact b kk hk
      · rw [if_neg (by omega), f3 37 rfl]
        exact a1 j (by omega) kk hk
    · by_cases c : j = n
      · rw [c, qu_at]
      · rw [qu_ne (by omega)]
        unfold q_cpy
        rw [if_neg (by omega), f3 39 rfl]
        exact a2 j (by omega)
  exact ways 0 (Nat.zero_le _) h1 ⟨qfx_mono f (qfx_sub rfl), T, fun j hj => absurd hj (Nat.not_lt_zero _), fun j hj => absurd hj (Nat.not_lt_zero _)⟩
end QWalks5
