/-! what a text means -/
theorem qpar_ok {K : Nat → Nat} : ∀ f i, f + i = 7 → 0 < f → (qpar K f i).1 = 0 → (qpar K f i).2.2 ≤ 6 ∧ ∀ j, i ≤ j → j < (qpar K f i).2.2 → (qline K (qst K j)).1 = 0
  | 0, i, _, h0, _ => absurd h0 (Nat.lt_irrefl 0)
  | f + 1, i, hi, _, h => by
    have e : qpar K (f + 1) i = if K (qst K i) = 0 then (0, qst K i, i) else if i = 6 then (if 20 ≤ K (qst K i) then (2, qst K i, i) else (1, qst K i, i)) else if (qline K (qst K i)).1 ≠ 0 then ((qline K (qst K i)).1, (qline K (qst K i)).2, i) else qpar K f (i + 1) := rfl
    rw [e] at h ⊢
    by_cases c1 : K (qst K i) = 0
    · rw [if_pos c1]
      exact ⟨by show i ≤ 6; omega, fun j h1 h2 => by have : j < i := h2; omega⟩
    · rw [if_neg c1] at h ⊢
      by_cases c2 : i = 6
      · rw [if_pos c2] at h
        exfalso
        by_cases c3 : 20 ≤ K (qst K i)
        · rw [if_pos c3] at h; exact absurd (show 2 = 0 from h) (by decide)
        · rw [if_neg c3] at h; exact absurd (show 1 = 0 from h) (by decide)
      · rw [if_neg c2] at h ⊢
        by_cases c3 : (qline K (qst K i)).1 ≠ 0
        · rw [if_pos c3] at h
          exact absurd h c3
        · rw [if_neg c3] at h ⊢
          obtain ⟨h1, h2⟩ := qpar_ok f (i + 1) (by omega) (by omega) h
          refine ⟨h1, fun j j1 j2 => ?_⟩
          by_cases c4 : j = i
          · rw [c4]; exact Classical.not_not.mp c3
          · exact h2 j (by omega) j2
/-- the tokens of a line -/
theorem qline_nz {K : Nat → Nat} {t : Nat} (h : (qline K t).1 = 0) : (qline K t).2 = qu0 K t + qni K t + 1 ∧ (qline K t).2 ≤ t + 15 ∧ t < (qline K t).2 ∧ 20 ≤ K t ∧ (∀ i, i < qdue (K t - 20) → K (t + 1 + i) = 1) ∧ (∀ i, i < qni K t → K (qu0 K t + i) = 2) ∧ K (qu0 K t + qni K t) = 4 ∧ qimin (K t - 20) ≤ qni K t ∧ qni K t ≤ qimax (K t - 20) ∧ ∀ i, t ≤ i → i < (qline K t).2 → K i ≠ 0 := by
  obtain ⟨h1, h2, h3, h4, h5⟩ := qline_0 h
  obtain ⟨a1, a2, a3⟩ := qna_ok K t
  obtain ⟨b1, b2, b3⟩ := qni_ok K t
  have d := qdue_bd (K t - 20)
  have m := qimax_bd (K t - 20)
  have eU : qu0 K t = t + 1 + qdue (K t - 20) := rfl
  rw [h2] at a2
  refine ⟨h5, by omega, by omega, h1, a2, b2, h3, h4, b1, fun i i1 i2 => ?_⟩
  by_cases c1 : i = t
  · rw [c1]; omega
  · by_cases c2 : i < qu0 K t
    · have := a2 (i - (t + 1)) (by omega)
      rw [show t + 1 + (i - (t + 1)) = i by omega] at this; omega
    · by_cases c3 : i < qu0 K t + qni K t
      · have := b2 (i - qu0 K t) (by omega)
        rw [show qu0 K t + (i - qu0 K t) = i by omega] at this; omega
      · rw [show i = qu0 K t + qni K t by omega, h3]; omega
theorem qst_ok {K : Nat → Nat} {m : Nat} (h : ∀ j, j < m → (qline K (qst K j)).1 = 0) : ∀ j, j ≤ m → qst K j ≤ 15 * j ∧ ∀ i, i < qst K j → K i ≠ 0
  | 0, _ => ⟨Nat.le_refl _, fun i hi => absurd hi (Nat.not_lt_zero _)⟩
  | j + 1, hj => by
    obtain ⟨i1, i2⟩ := qst_ok h j (by omega)
    obtain ⟨n1, n2, n3, n4, n5, n6, n7, n8, n9, n10⟩ := qline_nz (h j (by omega))
    have e : qst K (j + 1) = (qline K (qst K j)).2 := rfl
    rw [e]
    refine ⟨by omega, fun i hi => ?_⟩
    by_cases c : i < qst K j
    · exact i2 i c
    · exact n10 i (by omega) hi
/-- sums of one out of each -/
def qplus (A B : QZ) : QZ := fun x => qex (fun y => A y && B (x - y)) (x + 1)
theorem qplus_iff {A B : QZ} {x : Nat} : qplus A B x = true ↔ ∃ y, y ≤ x ∧ A y = true ∧ B (x - y) = true := by
  unfold qplus
  rw [qex_iff]
  simp only [Bool.and_eq_true]
  exact ⟨fun ⟨y, a, b⟩ => ⟨y, by omega, b⟩, fun ⟨y, a, b⟩ => ⟨y, by omega, b⟩⟩
/-- steps that are GENERATORS of the one or the other -/
theorem qplus_is {A B : QZ} {t : Nat → Bool} (VA : QV1 A) (VB : QV1 B) (h1 : ∀ s, t s = true → A s = true ∨ B s = true) (h2 : ∀ s, qgen A s = true → t s = true) (h3 : ∀ s, qgen B s = true → t s = true) : qspr t = qplus A B := by
  have f : ∀ b x, x < b → qsp t x = true → qplus A B x = true := by
    intro b
    induction b with
    | zero => intro x hx; exact absurd hx (Nat.not_lt_zero _)
    | succ b ih =>
      intro x hx hs
      rcases qsp_iff.mp hs with q | ⟨s, s1, s2, s3, s4⟩
      · rw [q]; exact qplus_iff.mpr ⟨0, Nat.le_refl _, VA.1, VB.1⟩
      · obtain ⟨y, y1, y2, y3⟩ := qplus_iff.mp (ih (x - s) (by omega) s4)
        rcases h1 s s3 with q | q
        · exact qplus_iff.mpr ⟨s + y, by omega, VA.2.1 _ _ q y2, by rw [show x - (s + y) = x - s - y by omega]; exact y3⟩
        · exact qplus_iff.mpr ⟨y, by omega, y2, by rw [show x - y = s + (x - s - y) by omega]; exact VB.2.1 _ _ q y3⟩
  have gA : ∀ (C : QZ), QV1 C → (∀ s, qgen C s = true → t s = true) → ∀ b x, x < b → C x = true → qsp t x = true := by
    intro C VC hC b
    induction b with
    | zero => intro x hx; exact absurd hx (Nat.not_lt_zero _)
    | succ b ih =>
      intro x hx hc
      rcases Nat.eq_zero_or_pos x with z | z
      · rw [z]; exact qsp_0 t
      · obtain ⟨s, s1, s2, s3⟩ := qgen_dec VC (x + 1) x (by omega) z hc
        have := (qgen_in s1).1
        exact qsp_iff.mpr (Or.inr ⟨s, this, s2, hC s s1, ih (x - s) (by omega) s3⟩)
  funext x
  rw [Bool.eq_iff_iff]
  unfold qspr
  rw [Bool.or_eq_true, decide_eq_true_eq]
  constructor
  · rintro (q | q)
    · exact qplus_iff.mpr ⟨x, Nat.le_refl _, VA.2.2 x (by omega), by rw [Nat.sub_self]; exact VB.1⟩
    · exact f (x + 1) x (by omega) q
  · intro q
    right
    obtain ⟨y, y1, y2, y3⟩ := qplus_iff.mp q
    have := qsp_add (y + 1) y (x - y) (by omega) (gA A VA h2 (y + 1) y (by omega) y2) (gA B VB h3 (x - y + 1) (x - y) (by omega) y3)
    rwa [show y + (x - y) = x by omega] at this
theorem qplus_v0 {A B : QZ} (VA : QV1 A) (VB : QV1 B) : QV0 (qplus A B) := by
  have := qplus_is (t := fun s => qgen A s || qgen B s) VA VB (fun s hs => by
    rcases Bool.or_eq_true_iff.mp hs with q | q
    · exact Or.inl (qgen_in q).2
    · exact Or.inr (qgen_in q).2) (fun s hs => by show (qgen A s || qgen B s) = true; rw [hs]; rfl) (fun s hs => by show (qgen A s || qgen B s) = true; rw [hs, Bool.or_true])
  rw [← this]
  exact qspr_v0 _
/-- what is of the numbers below 256 is of all -/
def q6 (S : QZ) : Prop := (∀ x, 200 ≤ x → x < 256 → S x = true) → ∀ x, 200 ≤ x → S x = true
def qw56 (S : QZ) : QZ := fun x => decide (256 ≤ x) || S x
theorem qw56_m6 (S : QZ) : qm6 (qw56 S) := fun x hx => by unfold qw56; rw [decide_eq_true hx]; rfl
theorem qw56_lo {S : QZ} {x : Nat} (h : x < 256) : qw56 S x = S x := by unfold qw56; rw [decide_eq_false (by omega)]; rfl
theorem qw56_1 {S : QZ} (Z : q6 S) (h : ¬ 200 < qtop (qw56 S) + 1) (h0 : S 0 = true) (hs : ∀ a b, S a = true → S b = true → S (a + b) = true) : QV1 S ∧ qw56 S = S := by
  have f : ∀ x, 200 ≤ x → x < 256 → S x = true := fun x h1 h2 => by
    have := qmx_no (p := qgap (qw56 S)) (n := 400) (x := x) (by omega) (by unfold qtop at h; omega)
    unfold qgap at this
    rw [qw56_lo h2] at this
    simpa using this
  have f2 := Z f
  refine ⟨⟨h0, hs, f2⟩, ?_⟩
  funext x
  by_cases c : x < 256
  · exact qw56_lo c
  · rw [f2 x (by omega)]; exact qw56_m6 S x (by omega)
theorem qw56_2 {S : QZ} (Z : QV0 S) (h : 200 < qtop (qw56 S) + 1) : qacc S = false := by
  cases c : qacc S with
  | false => rfl
  | true =>
    have V := ((qacc_iff Z).mp c).1
    have e : qw56 S = S := by
      funext x
      by_cases c : x < 256
      · exact qw56_lo c
      · rw [V.2.2 x (by omega)]; exact qw56_m6 S x (by omega)
    rw [e] at h
    have := (qtop_bd V).2
    omega
/-- an INT that is right for a word -/
def qright (w : Nat) (A : QZ) (v : Int) : Bool := if w = 0 then decide (1 ≤ v ∧ v ≤ 15) else if w = 4 then decide (1 ≤ v ∧ v ≤ 9) else if w = 5 then qin (qspc A) v else if w = 6 then qin (qgen A) v else true
/-- the set that a line makes -/
def qres (w : Nat) (A B : QZ) (a : Nat → Int) (b : Nat) : QZ := if w = 0 then qspr (qrt a b) else if w = 1 then qplus A B else if w = 2 then qmeet A B else if w = 3 then qarf A else if w = 4 then qpart A (a 0).toNat else qflip A (a 0).toNat
/-- which line gave that name -/
def qown (N : Nat → Nat) (K : Nat → Nat) (i t : Nat) : Nat := qrn (fun j => N (qst K j + 1) != N t) i 0
theorem qown_ok (N K : Nat → Nat) (i t : Nat) : qown N K i t ≤ i ∧ (∀ j, j < qown N K i t → N (qst K j + 1) ≠ N t) ∧ (qown N K i t < i → N (qst K (qown N K i t) + 1) = N t) := by
  obtain ⟨h1, h2, h3, h4⟩ := qrn_ok (P := fun j => N (qst K j + 1) != N t) i 0
  refine ⟨by unfold qown; omega, fun j hj => ?_, fun q => ?_⟩
  · have := h3 j (Nat.zero_le _) hj
    exact bne_iff_ne.mp this
  · have := h4 (by unfold qown at q; omega)
    exact Classical.not_not.mp (fun z => absurd (bne_iff_ne.mpr z) (by unfold qown; rw [this]; decide))
/-- the INTS that are right, up to the first that is not -/
def qgoods (w : Nat) (A : QZ) (a : Nat → Int) (b : Nat) : Nat := qrn (fun j => qright w A (a j)) b 0
theorem qgoods_ok (w : Nat) (A : QZ) (a : Nat → Int) (b : Nat) : qgoods w A a b ≤ b ∧ (∀ j, j < qgoods w A a b → qright w A (a j) = true) ∧ (qgoods w A a b < b → qright w A (a (qgoods w A a b)) = false) := by
  obtain ⟨h1, h2, h3, h4⟩ := qrn_ok (P := fun j => qright w A (a j)) b 0
  exact ⟨by unfold qgoods; omega, fun j hj => h3 j (Nat.zero_le _) hj, fun q => h4 (by unfold qgoods at q; omega)⟩
/-- one line: a fault and its token, or the set -/
def qmean1 (K N : Nat → Nat) (V : Nat → Int) (H : Nat → QZ) (i : Nat) : Nat × Nat × QZ :=
  if qown N K i (qst K i + 1) < i then (3, qst K i + 1, fun _ => true)
  else if 2 ≤ qdue (K (qst K i) - 20) ∧ qown N K i (qst K i + 2) = i then (4, qst K i + 2, fun _ => true)
  else if 3 ≤ qdue (K (qst K i) - 20) ∧ qown N K i (qst K i + 3) = i then (4, qst K i + 3, fun _ => true)
  else if qgoods (K (qst K i) - 20) (H (qown N K i (qst K i + 2))) (fun j => V (qu0 K (qst K i) + j)) (qni K (qst K i)) < qni K (qst K i) then (5, qu0 K (qst K i) + qgoods (K (qst K i) - 20) (H (qown N K i (qst K i + 2))) (fun j => V (qu0 K (qst K i) + j)) (qni K (qst K i)), fun _ => true)
  else if qacc (qres (K (qst K i) - 20) (H (qown N K i (qst K i + 2))) (H (qown N K i (qst K i + 3))) (fun j => V (qu0 K (qst K i) + j)) (qni K (qst K i))) = false then (6, qu0 K (qst K i) + qni K (qst K i), fun _ => true)
  else (0, 0, qres (K (qst K i) - 20) (H (qown N K i (qst K i + 2))) (H (qown N K i (qst K i + 3))) (fun j => V (qu0 K (qst K i) + j)) (qni K (qst K i)))
def qmeans (K N : Nat → Nat) (V : Nat → Int) : Nat → Nat × Nat × (Nat → QZ)
  | 0 => (0, 0, fun _ _ => true)
  | i + 1 => if (qmeans K N V i).1 ≠ 0 then qmeans K N V i else if (qmean1 K N V (qmeans K N V i).2.2 i).1 ≠ 0 then ((qmean1 K N V (qmeans K N V i).2.2 i).1, (qmean1 K N V (qmeans K N V i).2.2 i).2.1, (qmeans K N V i).2.2) else (0, 0, qup (qmeans K N V i).2.2 i (qmean1 K N V (qmeans K N V i).2.2 i).2.2)
/-- what the line makes is a SET with all sums, of which the row ends at 400 -/
theorem qres_v0 {w : Nat} {A B : QZ} {a : Nat → Int} {b : Nat} (hw : w ≤ 6) (hA : 1 ≤ w → QV1 A) (hB : w = 1 ∨ w = 2 → QV1 B) (hr : ∀ j, j < b → qright w A (a j) = true) (hb : qimin w ≤ b) : QV0 (qres w A B a b) := by
  unfold qres
  by_cases c0 : w = 0
  · rw [if_pos c0]; exact qspr_v0 _
  · rw [if_neg c0]
    have VA := hA (by omega)
    by_cases c1 : w = 1
    · rw [if_pos c1]; exact qplus_v0 VA (hB (by omega))
    · rw [if_neg c1]
      by_cases c2 : w = 2
      · rw [if_pos c2]; exact qmeet_v0 VA (hB (by omega))
      · rw [if_neg c2]
        by_cases c3 : w = 3
        · rw [if_pos c3]; exact qarf_v0 VA
        · rw [if_neg c3]
          have h1 : qimin w = 1 := by unfold qimin; rw [if_pos (by omega)]
          have hr0 := hr 0 (by omega)
          unfold qright at hr0
          rw [if_neg c0] at hr0
          by_cases c4 : w = 4
          · rw [if_pos c4] at hr0 ⊢
            have := of_decide_eq_true hr0
            exact qpart_v0 VA (by omega)
          · rw [if_neg c4] at hr0 ⊢
            by_cases c5 : w = 5
            · rw [if_pos c5] at hr0
              have h0 : 0 ≤ a 0 := by
                rcases Int.lt_or_le (a 0) 0 with z | z
                · rw [qin_neg z] at hr0; cases hr0
                · exact z
              rw [qin_pos h0] at hr0
              exact (qspc_v0 VA hr0).2.2.2
            · rw [if_neg c5] at hr0
              by_cases c6 : w = 6
              · rw [if_pos c6] at hr0
                have h0 : 0 ≤ a 0 := by
                  rcases Int.lt_or_le (a 0) 0 with z | z
                  · rw [qin_neg z] at hr0; cases hr0
                  · exact z
                rw [qin_pos h0] at hr0
                exact (qgen_v0 VA hr0).2.2.2
              · exact absurd hw (by omega)
