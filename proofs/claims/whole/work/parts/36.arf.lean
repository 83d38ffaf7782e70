/-! StepSet: the ARF set -/
/-- the k-th GENERATOR -/
def qgk (S : QZ) (k : Nat) : Nat := (qnth (qgen S) 400 k).toNat
theorem qgk_ok {S : QZ} {k : Nat} (h : k < qgc S) : qgen S (qgk S k) = true ∧ qgk S k < 400 ∧ qc (qgen S) (qgk S k) = k := by
  obtain ⟨x, h1, h2, h3⟩ := qc_kth (p := qgen S) (n := 400) h
  have e : qgk S k = x := by unfold qgk; rw [← h3, qnth_at h2 h1]; rfl
  rw [e]
  exact ⟨h2, h1, h3⟩
theorem qgk_lt {S : QZ} {k k' : Nat} (h : k < k') (h' : k' < qgc S) : qgk S k < qgk S k' := by
  obtain ⟨a1, a2, a3⟩ := qgk_ok (S := S) (k := k) (by omega)
  obtain ⟨b1, b2, b3⟩ := qgk_ok h'
  rcases Nat.lt_or_ge (qgk S k) (qgk S k') with q | q
  · exact q
  · have := qc_mono (qgen S) q; omega
theorem qgk_of {S : QZ} {x : Nat} (h : qgen S x = true) (hx : x < 400) : qc (qgen S) x < qgc S ∧ qgk S (qc (qgen S) x) = x := by
  have h1 : qc (qgen S) x < qgc S := qc_lt hx h
  obtain ⟨a1, a2, a3⟩ := qgk_ok h1
  exact ⟨h1, qc_one a1 h a3⟩
theorem qat_gk {h : QM} {i : Int} {S : QZ} (A : qat h i S) {k : Nat} (hk : k < qgc S) : h 32 i k = qgk S k := by
  obtain ⟨a1, a2, a3⟩ := qgk_ok hk
  have := A.2.2.2.2.2 _ a2 a1
  rwa [a3] at this
/-- two that are no less than a third one, less that -/
def qca (T : QZ) : Prop := ∀ x y z, T x = true → T y = true → T z = true → z ≤ x → z ≤ y → T (x + y - z) = true
/-- the least of a row -/
def qmn (n : Nat → Nat) : Nat → Nat
  | 0 => 2147483647
  | k + 1 => min (qmn n k) (n k)
theorem qmn_le {n : Nat → Nat} : ∀ {c k}, k < c → qmn n c ≤ n k
  | 0, k, h => absurd h (Nat.not_lt_zero _)
  | c + 1, k, h => by
    unfold qmn
    by_cases e : k = c
    · rw [e]; exact Nat.min_le_right _ _
    · have := qmn_le (n := n) (show k < c by omega); omega
theorem qmn_in {n : Nat → Nat} : ∀ {c}, qmn n c = 2147483647 ∨ ∃ k, k < c ∧ n k = qmn n c
  | 0 => Or.inl rfl
  | c + 1 => by
    unfold qmn
    rcases qmn_in (n := n) (c := c) with h | ⟨k, h1, h2⟩
    · by_cases e : qmn n c ≤ n c
      · left; omega
      · right; exact ⟨c, by omega, by omega⟩
    · by_cases e : qmn n c ≤ n c
      · right; exact ⟨k, by omega, by omega⟩
      · right; exact ⟨c, by omega, by omega⟩
/-- the least taken off all others -/
def qoff (n : Nat → Nat) (e : Nat) : Nat → Nat := fun k => if n k ≤ e then n k else n k - e
def qar (c : Nat) : Nat → (Nat → Nat) → QZ
  | 0, _ => fun _ => true
  | f + 1, n => fun x => decide (qmn n c ≤ 1) || x == 0 || (decide (qmn n c ≤ x) && qar c f (qoff n (qmn n c)) (x - qmn n c))
/-- what is made of them -/
def qmk (c : Nat) (n : Nat → Nat) : QZ := qsp (qrt (fun k => (n k : Int)) c)
theorem qmk_iff {c : Nat} {n : Nat → Nat} (hn : ∀ k, k < c → 1 ≤ n k) {x : Nat} : qmk c n x = true ↔ x = 0 ∨ ∃ k, k < c ∧ n k ≤ x ∧ qmk c n (x - n k) = true := by
  unfold qmk
  rw [qsp_iff]
  refine or_congr Iff.rfl ⟨?_, ?_⟩
  · rintro ⟨s, s1, s2, s3, s4⟩
    obtain ⟨k, k1, k2⟩ := qrt_iff.mp s3
    have : n k = s := by omega
    exact ⟨k, k1, by omega, by rw [this]; exact s4⟩
  · rintro ⟨k, k1, k2, k3⟩
    exact ⟨n k, by have := hn k k1; omega, k2, qrt_iff.mpr ⟨k, k1, rfl⟩, k3⟩
theorem qmk_one {c : Nat} {n : Nat → Nat} (hn : ∀ k, k < c → 1 ≤ n k) {k : Nat} (hk : k < c) : qmk c n (n k) = true :=
  (qmk_iff hn).mpr (Or.inr ⟨k, hk, Nat.le_refl _, by rw [Nat.sub_self]; exact qsp_0 _⟩)
theorem qmk_add {c : Nat} {n : Nat → Nat} {a b : Nat} (ha : qmk c n a = true) (hb : qmk c n b = true) : qmk c n (a + b) = true := qsp_add (a + 1) a b (by omega) ha hb
theorem qoff_pos {c : Nat} {n : Nat → Nat} (hn : ∀ k, k < c → 1 ≤ n k) {e : Nat} : ∀ k, k < c → 1 ≤ qoff n e k := fun k hk => by
  have := hn k hk
  unfold qoff
  split <;> omega
/-- what is made, less the least of the row, is made of the new row -/
theorem qmk_off {c : Nat} {n : Nat → Nat} (hn : ∀ k, k < c → 1 ≤ n k) (hm : ∃ k, k < c ∧ n k = qmn n c) : ∀ b x, x < b → 0 < x → qmk c n x = true → qmn n c ≤ x ∧ qmk c (qoff n (qmn n c)) (x - qmn n c) = true
  | 0, x, h, _, _ => absurd h (Nat.not_lt_zero _)
  | b + 1, x, h, h0, hx => by
    have ho := qoff_pos hn (e := qmn n c)
    rcases (qmk_iff hn).mp hx with q | ⟨k, k1, k2, k3⟩
    · omega
    · have hk := qmn_le (n := n) k1
      refine ⟨by omega, ?_⟩
      obtain ⟨k0, k4, k5⟩ := hm
      -- what is left of that one
      have hone : qmk c (qoff n (qmn n c)) (n k - qmn n c) = true := by
        by_cases e : n k ≤ qmn n c
        · rw [show n k - qmn n c = 0 by omega]; exact qsp_0 _
        · have := qmk_one ho k1
          unfold qoff at this ⊢
          rw [if_neg e] at this
          exact this
      have hle : qmk c (qoff n (qmn n c)) (qmn n c) = true := by
        have := qmk_one ho k4
        have e : qoff n (qmn n c) k0 = qmn n c := by unfold qoff; rw [if_pos (by omega)]; exact k5
        rwa [e] at this
      rcases Nat.eq_zero_or_pos (x - n k) with z | z
      · rw [show x - qmn n c = n k - qmn n c by omega]; exact hone
      · have h1 := hn k k1
        obtain ⟨r1, r2⟩ := qmk_off hn ⟨k0, k4, k5⟩ b (x - n k) (by omega) z k3
        have := qmk_add (qmk_add hone r2) hle
        rwa [show n k - qmn n c + (x - n k - qmn n c) + qmn n c = x - qmn n c by omega] at this
theorem qar_0 (c : Nat) : ∀ f n, qar c f n 0 = true
  | 0, _ => rfl
  | f + 1, n => by unfold qar; simp
theorem qar_all {B : QZ} (hB : ∀ x, B x = true) {c : Nat} {n : Nat → Nat} (h1 : ∃ k, k < c ∧ n k = 1) :
    (∀ x, qmk c n x = true → B x = true) ∧ (∀ x y, B x = true → B y = true → B (x + y) = true) ∧ qca B ∧
    ∀ (T : QZ) (s : Nat), qca T → T s = true → (∀ k, k < c → T (s + n k) = true) → ∀ x, B x = true → T (s + x) = true := by
  refine ⟨fun _ _ => hB _, fun _ _ _ _ => hB _, fun _ _ _ _ _ _ _ _ => hB _, fun T s hT hs hk x _ => ?_⟩
  obtain ⟨k, k1, k2⟩ := h1
  have h1 : T (s + 1) = true := by have := hk k k1; rwa [k2] at this
  induction x with
  | zero => exact hs
  | succ x ih => have := hT (s + x) (s + 1) s (ih (hB _)) h1 hs (by omega) (by omega); rwa [show s + x + (s + 1) - s = s + (x + 1) by omega] at this
theorem qar_e (c f x : Nat) (n : Nat → Nat) : qar c (f + 1) n x = (decide (qmn n c ≤ 1) || x == 0 || (decide (qmn n c ≤ x) && qar c f (qoff n (qmn n c)) (x - qmn n c))) := rfl
theorem qar_s {c f x : Nat} {n : Nat → Nat} (he : ¬ qmn n c ≤ 1) : qar c (f + 1) n x = true ↔ x = 0 ∨ (qmn n c ≤ x ∧ qar c f (qoff n (qmn n c)) (x - qmn n c) = true) := by
  rw [qar_e, decide_eq_false he, Bool.false_or, Bool.or_eq_true, Bool.and_eq_true, decide_eq_true_eq, beq_iff_eq]
/-- what stands before the steps are done -/
theorem qar_pre {c : Nat} {n : Nat → Nat} {N : Nat} (hn : ∀ k, k < c → 1 ≤ n k) (hb : ∀ k, k < c → n k < 1000) (hA : ∀ y, N ≤ y → qmk c n y = true) :
    (∃ k, k < c ∧ n k = qmn n c) ∧ 1 ≤ qmn n c ∧ qmn n c < 1000 ∧ (¬ qmn n c ≤ 1 → qmn n c ≤ N) ∧ (∀ y, N - qmn n c ≤ y → qmk c (qoff n (qmn n c)) y = true) := by
  have hm : ∃ k, k < c ∧ n k = qmn n c := by
    rcases qmn_in (n := n) (c := c) with q | q
    · exfalso
      rcases (qmk_iff hn).mp (hA (N + 1) (by omega)) with z | ⟨k, k1, _⟩
      · omega
      · have h1 := qmn_le (n := n) k1
        have h2 := hb k k1
        omega
    · exact q
  obtain ⟨k0, k1, k2⟩ := hm
  have h1 := hn k0 k1
  have h2 := hb k0 k1
  refine ⟨⟨k0, k1, k2⟩, by omega, by omega, fun he => ?_, fun y hy => ?_⟩
  · rcases Nat.lt_or_ge N (qmn n c) with q | q
    · exfalso
      have hlt : ∀ z, 0 < z → z < qmn n c → qmk c n z = true → False := fun z z1 z2 z3 => by
        rcases (qmk_iff hn).mp z3 with w | ⟨k, k3, k4, _⟩
        · omega
        · have := qmn_le (n := n) k3; omega
      rcases Nat.eq_zero_or_pos N with w | w
      · exact hlt 1 (by omega) (by omega) (hA 1 (by omega))
      · exact hlt N w q (hA N (Nat.le_refl _))
    · exact q
  · have := (qmk_off hn ⟨k0, k1, k2⟩ (y + qmn n c + 1) (y + qmn n c) (by omega) (by omega) (hA _ (by omega))).2
    rwa [Nat.add_sub_cancel] at this
theorem qoff_lt {c : Nat} {n : Nat → Nat} (hb : ∀ k, k < c → n k < 1000) {e : Nat} : ∀ k, k < c → qoff n e k < 1000 := fun k hk => by
  have := hb k hk
  unfold qoff
  split <;> omega
theorem qar_ok {c : Nat} : ∀ (f : Nat) (n : Nat → Nat) (N : Nat), N ≤ f → (∀ k, k < c → 1 ≤ n k) → (∀ k, k < c → n k < 1000) → (∀ y, N ≤ y → qmk c n y = true) →
    (∀ x, qmk c n x = true → qar c f n x = true) ∧ (∀ x y, qar c f n x = true → qar c f n y = true → qar c f n (x + y) = true) ∧ qca (qar c f n) ∧
    ∀ (T : QZ) (s : Nat), qca T → T s = true → (∀ k, k < c → T (s + n k) = true) → ∀ x, qar c f n x = true → T (s + x) = true
  | 0, n, N, hN, hn, hb, hA => by
    refine qar_all (fun _ => rfl) ?_
    rcases (qmk_iff hn).mp (hA 1 (by omega)) with q | ⟨k, k1, k2, k3⟩
    · omega
    · exact ⟨k, k1, by have := hn k k1; omega⟩
  | f + 1, n, N, hN, hn, hb, hA => by
    obtain ⟨⟨k0, k1, k2⟩, e1, e2, e3, e4⟩ := qar_pre hn hb hA
    by_cases he : qmn n c ≤ 1
    · refine qar_all (fun x => ?_) ⟨k0, k1, by omega⟩
      rw [qar_e, decide_eq_true he]; simp
    · have hN2 := e3 he
      obtain ⟨i1, i2, i3, i4⟩ := qar_ok f (qoff n (qmn n c)) (N - qmn n c) (by omega) (qoff_pos hn) (qoff_lt hb) e4
      have hin : qar c f (qoff n (qmn n c)) (qmn n c) = true := by
        refine i1 _ ?_
        have := qmk_one (qoff_pos hn (e := qmn n c)) k1
        have e : qoff n (qmn n c) k0 = qmn n c := by unfold qoff; rw [if_pos (by omega)]; exact k2
        rwa [e] at this
      have add : ∀ x y, qar c (f + 1) n x = true → qar c (f + 1) n y = true → qar c (f + 1) n (x + y) = true := by
        intro x y hx hy
        rcases (qar_s he).mp hx with q | ⟨q1, q2⟩
        · rw [q, Nat.zero_add]; exact hy
        · rcases (qar_s he).mp hy with r | ⟨r1, r2⟩
          · rw [r, Nat.add_zero]; exact hx
          · refine (qar_s he).mpr (Or.inr ⟨by omega, ?_⟩)
            have := i2 _ _ (i2 _ _ q2 r2) hin
            rwa [show x - qmn n c + (y - qmn n c) + qmn n c = x + y - qmn n c by omega] at this
      refine ⟨fun x hx => ?_, add, fun x y z hx hy hz hzx hzy => ?_, fun T s hT hs hk x hx => ?_⟩
      · rcases Nat.eq_zero_or_pos x with q | q
        · rw [q]; exact qar_0 _ _ _
        · obtain ⟨a, b⟩ := qmk_off hn ⟨k0, k1, k2⟩ (x + 1) x (by omega) q hx
          exact (qar_s he).mpr (Or.inr ⟨a, i1 _ b⟩)
      · rcases (qar_s he).mp hz with q | ⟨q1, q2⟩
        · rw [q, Nat.sub_zero]; exact add x y hx hy
        · rcases (qar_s he).mp hx with r | ⟨r1, r2⟩
          · omega
          · rcases (qar_s he).mp hy with w | ⟨w1, w2⟩
            · omega
            · refine (qar_s he).mpr (Or.inr ⟨by omega, ?_⟩)
              have := i3 _ _ _ r2 w2 q2 (by omega) (by omega)
              rwa [show x - qmn n c + (y - qmn n c) - (z - qmn n c) = x + y - z - qmn n c by omega] at this
      · rcases (qar_s he).mp hx with q | ⟨q1, q2⟩
        · rw [q]; exact hs
        · have hse : T (s + qmn n c) = true := by have := hk k0 k1; rwa [k2] at this
          have := i4 T (s + qmn n c) hT hse (fun k hkc => ?_) _ q2
          · rwa [show s + qmn n c + (x - qmn n c) = s + x by omega] at this
          · have h1 := qmn_le (n := n) hkc
            unfold qoff
            by_cases w : n k ≤ qmn n c
            · rw [if_pos w]
              have := hT _ _ _ hse hse hs (by omega) (by omega)
              rwa [show s + qmn n c + (s + qmn n c) - s = s + qmn n c + n k by omega] at this
            · rw [if_neg w, show s + qmn n c + (n k - qmn n c) = s + n k by omega]
              exact hk k hkc
/-- the least ARF SET with all of it -/
def qarf (S : QZ) : QZ := qar (qgc S) 200 (qgk S)
theorem qgk_pos {S : QZ} : ∀ k, k < qgc S → 1 ≤ qgk S k := fun k hk => by
  have := (qgen_in (qgk_ok hk).1).1
  omega
theorem qgk_bd {S : QZ} : ∀ k, k < qgc S → qgk S k < 1000 := fun k hk => by
  have := (qgk_ok hk).2.1
  omega
/-- a SET is what its GENERATORS make -/
theorem qmk_set {S : QZ} (V : QV1 S) : ∀ b x, x < b → (qmk (qgc S) (qgk S) x = true ↔ S x = true)
  | 0, x, h => absurd h (Nat.not_lt_zero _)
  | b + 1, x, h => by
    rw [qmk_iff qgk_pos]
    constructor
    · rintro (q | ⟨k, k1, k2, k3⟩)
      · rw [q]; exact V.1
      · have h1 := qgk_pos k k1
        have h2 := (qmk_set V b (x - qgk S k) (by omega)).mp k3
        have := V.2.1 _ _ h2 (qgen_in (qgk_ok k1).1).2
        rwa [Nat.sub_add_cancel k2] at this
    · intro hx
      rcases Nat.eq_zero_or_pos x with q | q
      · exact Or.inl q
      · right
        obtain ⟨z, z1, z2, z3⟩ := qgen_dec V (x + 1) x (by omega) q hx
        obtain ⟨w1, w2⟩ := qgk_of z1 (qgen_lt V z1)
        have := (qgen_in z1).1
        exact ⟨_, w1, by omega, by rw [w2]; exact (qmk_set V b (x - z) (by omega)).mpr z3⟩
theorem qarf_ok {S : QZ} (V : QV1 S) : (∀ x, S x = true → qarf S x = true) ∧ (∀ x y, qarf S x = true → qarf S y = true → qarf S (x + y) = true) ∧ qca (qarf S) ∧
    ∀ T : QZ, qca T → (∀ x, S x = true → T x = true) → ∀ x, qarf S x = true → T x = true := by
  obtain ⟨h1, h2, h3, h4⟩ := qar_ok (c := qgc S) 200 (qgk S) 200 (Nat.le_refl _) qgk_pos qgk_bd (fun y hy => (qmk_set V (y + 1) y (by omega)).mpr (V.2.2 y hy))
  refine ⟨fun x hx => h1 x ((qmk_set V (x + 1) x (by omega)).mpr hx), h2, h3, fun T hT hS x hx => ?_⟩
  have := h4 T 0 hT (hS 0 V.1) (fun k hk => by rw [Nat.zero_add]; exact hS _ (qgen_in (qgk_ok hk).1).2) x hx
  rwa [Nat.zero_add] at this
theorem qarf_v0 {S : QZ} (V : QV1 S) : QV0 (qarf S) := by
  obtain ⟨h1, h2, -, -⟩ := qarf_ok V
  exact ⟨h1 0 V.1, h2, fun x hx => h1 x (V.2.2 x (by omega))⟩
/-- it is the one and only -/
theorem qarf_one {S D : QZ} (V : QV1 S) (h1 : ∀ x, S x = true → D x = true) (h2 : qca D) (h3 : ∀ T : QZ, qca T → (∀ x, S x = true → T x = true) → ∀ x, D x = true → T x = true) : D = qarf S := by
  obtain ⟨a1, a2, a3, a4⟩ := qarf_ok V
  funext x
  rw [Bool.eq_iff_iff]
  exact ⟨h3 _ a3 a1 x, a4 D h2 h1 x⟩
section QArf
variable {l : Launch} {g : QG} {d : Nat} {h : QM} {i : Int} {S : QZ} {Q : Int → QM → Prop}
theorem s_leastOf {c : Nat} {n : Nat → Nat} (hL : qhL g) (hc : c ≤ 24) (hr : ∀ k, k < c → h 32 i k = n k ∧ n k < 1000) (k : Q (qmn n c : Nat) h) : q_tr l g (d + 1) n_X8_leastOf [qr 32 i, qi c] h Q := by
  refine i_X8_leastOf_32 hL (fun G hG _ _ => b_X8_leastOf_32_0 hG ?_)
  have key : ∀ m, m ≤ c → G 5 [some (qr 32 i), some (qi c), some (qi (qmn n m : Nat)), some (qi (m : Int))] [] h := by
    refine q_up (fun m hm ih => b_X8_leastOf_32_5 hG ?_)
    refine ⟨fun q => q_qe k (by rw [show c = m by omega]), fun q => ⟨by omega, by omega, ?_⟩⟩
    rw [(hr m (by omega)).1]
    have e : min ((qmn n m : Nat) : Int) (n m : Int) = ((qmn n (m + 1) : Nat) : Int) := by
      show _ = ((min (qmn n m) (n m) : Nat) : Int)
      omega
    rw [e]
    exact ih (by omega)
  exact key 0 (Nat.zero_le _)
theorem s_arf {a : Int} (hL : qhL g) (V : QV2 S) (A : qat h a S) (hai : a ≠ i)
    (k : ∀ h', qf8 i h h' → (qacc (qarf S) = true → qat h' i (qarf S)) → Q (qb (qacc (qarf S))) h') : q_tr l g (d + 3) n_X8_becomeArf [qr 8 i, qr 8 a] h Q := by
  refine i_X8_becomeArf hL (fun G hG _ _ => b_X8_becomeArf_0 hG ?_)
  have hgc : qgc S ≤ 24 := V.2
  have hv0 := qarf_v0 V.1
  generalize hD : qarf S = D at *
  generalize hc : qgc S = c at *
  -- the row is full: what is from s on is of it
  have last : ∀ s, ∀ h1, (qf8 i h h1 ∧ (∀ x : Nat, x < 400 → x < s → h1 30 i x = qb (D x)) ∧ ∀ x : Nat, s ≤ x → D x = true) → G 155 [some (qr 8 i), none, none, none, some (qi (s : Int)), none, none] [] h1 := by
    intro s h1 hI
    have key : ∀ m, m ≤ 400 → ∀ h1, (qf8 i h h1 ∧ (∀ x : Nat, x < 400 → x < m → h1 30 i x = qb (D x)) ∧ ∀ x : Nat, m ≤ x → D x = true) → G 155 [some (qr 8 i), none, none, none, some (qi (m : Int)), none, none] [] h1 := by
      refine q_up (fun m hm ih h1 hI => b_X8_becomeArf_155 hG ?_)
      refine ⟨fun q => s_settle hL hv0 (fun x hx => hI.2.1 x hx (by omega)) (fun h2 f _ q => ⟨qb_01 _, k h2 (qf8_trans hI.1 f) q⟩), fun q => ⟨⟨by omega, Or.inr rfl⟩, by omega, ih (by omega) _ ⟨qf8_trans hI.1 (qf8_qu (by omega)), fun x hx hxm => ?_, fun x hx => hI.2.2 x (by omega)⟩⟩⟩
      by_cases w : x = m
      · rw [w, qu_at, hI.2.2 m (Nat.le_refl _)]; rfl
      · rw [qu_ne (by omega)]; exact hI.2.1 x hx (by omega)
    rcases Nat.lt_or_ge 400 s with q | q
    · refine b_X8_becomeArf_155 hG ⟨fun q => s_settle hL hv0 (fun x hx => hI.2.1 x hx (by omega)) (fun h2 f _ q => ⟨qb_01 _, k h2 (qf8_trans hI.1 f) q⟩), fun q => by omega⟩
    · exact key s q h1 hI
  -- a round
  have round : ∀ f ro s n N h1, f + ro = 200 → (qf8 i h h1 ∧ (∀ x : Nat, x < 400 → h1 30 i x = qb (if x ≤ s then D x else false)) ∧ (∀ x, s ≤ x → D x = qar c f n (x - s)) ∧ (∀ k, k < c → h1 32 i k = n k) ∧ (∀ k, k < c → 1 ≤ n k) ∧ (∀ k, k < c → n k < 1000) ∧ (∀ y, N ≤ y → qmk c n y = true) ∧ N ≤ f ∧ s + N = 200) → G 54 [some (qr 8 i), none, some (qi c), some (qi (s : Nat)), some (qi (ro : Nat)), none, none] [] h1 := by
    intro f
    induction f with
    | zero =>
      intro ro s n N h1 hf ⟨f1, f2, f3, f4, f5, f6, f7, f8, f9⟩
      obtain ⟨e0, e1, e2, e3, e4⟩ := qar_pre f5 f6 f7
      have he : qmn n c ≤ 1 := by
        rcases Nat.lt_or_ge 1 (qmn n c) with q | q
        · have := e3 (by omega); omega
        · exact q
      refine b_X8_becomeArf_54 hG ⟨fun q => by omega, fun _ => s_leastOf hL hgc (fun k hk => ⟨f4 k hk, f6 k hk⟩) ⟨fun _ => last s h1 ⟨f1, fun x hx hs => ?_, fun x hx => by rw [f3 x hx]; rfl⟩, fun q => by omega⟩⟩
      rw [f2 x hx, if_pos (by omega)]
    | succ f ih =>
      intro ro s n N h1 hf ⟨f1, f2, f3, f4, f5, f6, f7, f8, f9⟩
      obtain ⟨e0, e1, e2, e3, e4⟩ := qar_pre f5 f6 f7
      refine b_X8_becomeArf_54 hG ⟨fun q => by omega, fun _ => s_leastOf hL hgc (fun k hk => ⟨f4 k hk, f6 k hk⟩) ⟨fun he => last s h1 ⟨f1, fun x hx hs => ?_, fun x hx => ?_⟩, fun he => ⟨by omega, fun q => ?_, fun q => ?_⟩⟩⟩
      · rw [f2 x hx, if_pos (by omega)]
      · rw [f3 x hx]; rw [qar_e, decide_eq_true (by omega)]; simp
      · refine ⟨by omega, ⟨by omega, Or.inr rfl⟩, ?_⟩
        have he2 : ¬ qmn n c ≤ 1 := by omega
        have hN := e3 he2
        generalize hee : qmn n c = e at *
        -- the numbers one after another
        have nums : ∀ m, m ≤ c → ∀ h2, (qf8 i h h2 ∧ (∀ x : Nat, x < 400 → h2 30 i x = qb (if x ≤ s + e then D x else false)) ∧ (∀ k, k < c → h2 32 i k = if k < m then ((qoff n e k : Nat) : Int) else ((n k : Nat) : Int))) → G 106 [some (qr 8 i), none, some (qi c), some (qi ((s + e : Nat) : Int)), some (qi (ro : Nat)), some (qi (e : Nat)), some (qi (m : Int))] [] h2 := by
          refine q_up (fun m hm ihm h2 hI => b_X8_becomeArf_106 hG ?_)
          obtain ⟨j1, j2, j3⟩ := hI
          refine ⟨fun q2 => ⟨by omega, ?_⟩, fun q2 => ?_⟩
          · refine ih (ro + 1) (s + e) (qoff n e) (N - e) h2 (by omega) ⟨j1, j2, fun x hx => ?_, fun k hk => by rw [j3 k hk, if_pos (by omega)], qoff_pos f5, qoff_lt f6, e4, by omega, by omega⟩
            rw [f3 x (by omega), Bool.eq_iff_iff]
            have := qar_s (c := c) (f := f) (n := n) (x := x - s) (by rw [hee]; exact he2)
            rw [hee] at this
            rw [this, show x - s - e = x - (s + e) by omega]
            constructor
            · rintro (w | w)
              · omega
              · exact w.2
            · intro w; exact Or.inr ⟨by omega, w⟩
          · have h3 := j3 m (by omega)
            rw [if_neg (Nat.lt_irrefl m)] at h3
            rw [h3]
            have h4 := f6 m (by omega)
            have nxt : ∀ v : Int, v = (qoff n e m : Nat) → G 106 [some (qr 8 i), none, some (qi c), some (qi ((s + e : Nat) : Int)), some (qi (ro : Nat)), some (qi (e : Nat)), some (qi ((m : Int) + 1))] [] (qu h2 32 i m v) := fun v hv => by
              refine ihm (by omega) _ ⟨qf8_trans j1 (qf8_qu (by omega)), fun x hx => by rw [qu_ne (by omega)]; exact j2 x hx, fun kk hk => ?_⟩
              by_cases w : kk = m
              · rw [w, qu_at, if_pos (by omega), hv]
              · rw [qu_ne (by omega), j3 kk hk]
                by_cases w2 : kk < m
                · rw [if_pos w2, if_pos (by omega)]
                · rw [if_neg w2, if_neg (by omega)]
            refine ⟨by omega, by omega, fun q3 => ⟨by omega, by omega, by omega, nxt _ ?_⟩, fun q3 => ⟨by omega, by omega, by omega, nxt _ ?_⟩⟩
            · unfold qoff; rw [if_pos (by omega)]; omega
            · unfold qoff; rw [if_neg (by omega)]; omega
        refine nums 0 (Nat.zero_le _) _ ⟨qf8_trans f1 (qf8_qu (by omega)), fun x hx => ?_, fun k hk => by rw [qu_ne (by omega), if_neg (Nat.not_lt_zero _)]; exact f4 k hk⟩
        have hq := fun y => qar_s (c := c) (f := f) (n := n) (x := y) (by rw [hee]; exact he2)
        rw [hee] at hq
        by_cases w : x = s + e
        · subst w
          rw [if_pos (Nat.le_refl _), f3 _ (by omega), (hq _).mpr (Or.inr ⟨by omega, by rw [show s + e - s - e = 0 by omega]; exact qar_0 _ _ _⟩), show ((s + e : Nat) : Int) = (s : Int) + (e : Int) by omega, qu_at]
          rfl
        · rw [qu_ne (by omega), f2 x hx]
          by_cases w2 : x ≤ s
          · rw [if_pos w2, if_pos (by omega)]
          · rw [if_neg w2]
            by_cases w3 : x ≤ s + e
            · rw [if_pos w3, f3 x (by omega)]
              cases hh : qar c (f + 1) n (x - s) with
              | false => rfl
              | true =>
                rcases (hq _).mp hh with z | z <;> omega
            · rw [if_neg w3]
      · exfalso
        have := e3 (by omega)
        omega
  -- the row is cleared
  have clear : ∀ m, m ≤ 400 → ∀ h1, (qf8 i h h1 ∧ (∀ x : Nat, x < 400 → x < m → h1 30 i x = qb (if x ≤ 0 then D x else false)) ∧ (∀ k : Nat, k < c → h1 32 i k = qgk S k)) → G 21 [some (qr 8 i), none, some (qi c), some (qi (m : Int)), none, none, none] [] h1 := by
    refine q_up (fun m hm ih h1 hI => b_X8_becomeArf_21 hG ?_)
    have nxt : ∀ v : Bool, v = (if m ≤ 0 then D m else false) → ¬ (400 : Int) ≤ m → G 21 [some (qr 8 i), none, some (qi c), some (qi ((m : Int) + 1)), none, none, none] [] (qu h1 30 i m (qb v)) := fun v hv q => by
      refine ih (by omega) _ ⟨qf8_trans hI.1 (qf8_qu (by omega)), fun x hx hxm => ?_, fun k hk => by rw [qu_ne (by omega)]; exact hI.2.2 k hk⟩
      by_cases w : x = m
      · rw [w, qu_at, hv]
      · rw [qu_ne (by omega)]; exact hI.2.1 x hx (by omega)
    refine ⟨fun q => round 200 0 0 (qgk S) 200 h1 rfl ⟨hI.1, fun x hx => hI.2.1 x hx (by omega), fun x _ => by rw [← hD, Nat.sub_zero]; unfold qarf; rw [hc], hI.2.2, by rw [← hc]; exact qgk_pos, by rw [← hc]; exact qgk_bd, fun y hy => by rw [← hc]; exact (qmk_set V.1 (y + 1) y (by omega)).mpr (V.1.2.2 y hy), Nat.le_refl _, rfl⟩, fun q => ⟨fun q2 => ⟨⟨by omega, Or.inl rfl⟩, by omega, nxt false ?_ q⟩, fun q2 => ⟨⟨by omega, Or.inr rfl⟩, by omega, nxt true ?_ q⟩⟩⟩
    · rw [if_neg (by omega)]
    · have : m = 0 := by omega
      subst this
      rw [if_pos (Nat.le_refl _)]; exact hv0.1.symm
  rw [A.2.2.2.2.1, hc]
  refine ⟨by omega, clear 0 (Nat.zero_le _) _ ⟨fun r k j e => ?_, fun x hx q => absurd q (Nat.not_lt_zero _), fun k hk => ?_⟩⟩
  · unfold q_cpy
    rw [if_neg (by omega)]
  · unfold q_cpy
    rw [if_pos (by omega), show (0 : Int) + ((k : Int) - 0) = k by omega]
    exact qat_gk A (by rw [hc]; exact hk)
end QArf
