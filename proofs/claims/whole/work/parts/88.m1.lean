/-! the model: faults of a text that reads well, out of INTS -/
/-- one row of those in the making, and the least fault -/
def qmq (a : Nat) (h h' : QM) : Prop := ∀ r i j, ¬ (r = 12 ∧ (j = 14 ∨ j = 15)) → ¬ (r = 55 ∧ (a : Int) ≤ j ∧ j < a + 4) → h' r i j = h r i j
theorem qmq_refl (a : Nat) (h : QM) : qmq a h h := fun _ _ _ _ _ => rfl
theorem qmq_trans {a : Nat} {h1 h2 h3 : QM} (p : qmq a h1 h2) (q : qmq a h2 h3) : qmq a h1 h3 := fun r i j e f => by rw [q r i j e f, p r i j e f]
theorem qmq_f {a : Nat} {h h' : QM} (f : qrf 55 a h h') : qmq a h h' := fun r i j _ e => f r i j (fun z => e ⟨z.1, z.2.2⟩)
theorem qmq_qu {a : Nat} {h : QM} {j v : Int} (h1 : (a : Int) ≤ j) (h2 : j < a + 4) : qmq a h (qu h 55 0 j v) := fun r i' j' _ e => qu_ne (fun z => e ⟨z.1, by rw [z.2.2]; exact ⟨h1, h2⟩⟩)
theorem qcut_w {a m n : Nat} {h h' : QM} {tb : Nat → Int} (C : qcut h tb n m) (f : qmq a h h') : qcut h' tb n m := fun t ht => by
  rw [f 48 0 t (by omega) (by omega), f 49 0 t (by omega) (by omega), f 50 0 t (by omega) (by omega), f 51 0 t (by omega) (by omega)]
  exact C t ht
theorem qmr_w {a b : Nat} {h h' : QM} {S : QZ} (R : qmr h 55 b S) (f : qmq a h h') (e : b + 4 ≤ a ∨ a + 4 ≤ b) : qmr h' 55 b S := qmr_fr R (fun j h1 h2 => f 55 0 j (by omega) (by omega))
theorem qsp_dvd {t : Nat → Bool} {D : Nat} (hD : ∀ s, t s = true → D ∣ s) : ∀ b x, x < b → qsp t x = true → D ∣ x
  | 0, x, h, _ => absurd h (Nat.not_lt_zero _)
  | b + 1, x, h, hx => by
    rcases qsp_iff.mp hx with q | ⟨s, s1, s2, s3, s4⟩
    · rw [q]; exact Nat.dvd_zero D
    · have h1 := qsp_dvd hD b (x - s) (by omega) s4
      have := Nat.dvd_add h1 (hD s s3)
      rwa [Nat.sub_add_cancel s2] at this
theorem qspr_one {t : Nat → Bool} {D : Nat} (hD : ∀ s, t s = true → D ∣ s) (h1 : D ≠ 1) : qacc (qspr t) = false := by
  cases c : qacc (qspr t) with
  | false => rfl
  | true =>
    have V := ((qacc_iff (qspr_v0 t)).mp c).1
    have e : ∀ x, 200 ≤ x → x < 400 → qsp t x = true := fun x hx hx4 => by
      have := V.2.2 x hx
      unfold qspr at this
      rw [decide_eq_false (by omega), Bool.false_or] at this
      exact this
    have a := qsp_dvd hD 201 200 (by omega) (e 200 (by omega) (by omega))
    have b := qsp_dvd hD 202 201 (by omega) (e 201 (by omega) (by omega))
    have := (Nat.dvd_add_right a).mp (show D ∣ 200 + 1 from b)
    exact absurd (Nat.dvd_one.mp this) h1
theorem qspr_q6 {t : Nat → Bool} {s : Nat} (hs : t s = true) (h1 : 1 ≤ s) (h15 : s ≤ 15) : q6 (qspr t) := by
  intro hf
  have key : ∀ b x, x < b → 200 ≤ x → qspr t x = true := by
    intro b
    induction b with
    | zero => intro x hx; exact absurd hx (Nat.not_lt_zero _)
    | succ b ih =>
      intro x hx h2
      rcases Nat.lt_or_ge x 256 with c | c
      · exact hf x h2 c
      · have := ih (x - s) (by omega) (by omega)
        unfold qspr at this ⊢
        rw [Bool.or_eq_true, decide_eq_true_eq] at this ⊢
        rcases Nat.lt_or_ge x 400 with c2 | c2
        · right
          rcases this with w | w
          · omega
          · exact qsp_iff.mpr (Or.inr ⟨s, by omega, by omega, hs, w⟩)
        · left; exact c2
  exact fun x hx => key (x + 1) x (by omega) hx
section MM1
variable {l : Launch} {g : QG} {d : Nat} {h : QM} {Q : Int → QM → Prop} {n M : Nat} {tb : Nat → Int}
theorem m_wrong0 {t : Nat} {f y : Int} (hL : qhL g) (C : qcut h tb n M) (ht : t < M) (ht4 : t < 403) (hy : y = t) (h0 : h 12 0 12 = 0) (h1 : h 12 0 14 = 0) (k : ∀ h' : QM, (∀ r i j, ¬ (r = 12 ∧ (j = 14 ∨ j = 15)) → h' r i j = h r i j) → h' 12 0 14 = f → h' 12 0 15 = qPl tb n t → Q 0 h') : q_tr l g (d + 1) n_X12_wrong [qr 12 0, qi f, qi y] h Q := by
  rw [hy]
  refine i_X12_wrong hL (fun G hG _ _ => b_X12_wrong_0 hG ?_)
  rw [h0, h1, (C t ht).2.1]
  refine ⟨by omega, fun q => by omega, fun _ => ⟨fun _ => k _ (fun r i j e => by rw [qu_ne (by omega), qu_ne (by omega)]) ?_ ?_, fun q => absurd rfl q⟩⟩
  · rw [qu_ne (by omega), qu_at]
  · rw [qu_at]
theorem m_wrong1 {t : Nat} {f y : Int} {p : Int} (hL : qhL g) (C : qcut h tb n M) (ht : t < M) (ht4 : t < 403) (hy : y = t) (h0 : h 12 0 12 = 0) (h1 : h 12 0 14 ≠ 0) (hp : h 12 0 15 = p) (hlt : p < qPl tb n t ∨ (p = qPl tb n t ∧ h 12 0 14 ≤ f)) (k : Q 0 h) : q_tr l g (d + 1) n_X12_wrong [qr 12 0, qi f, qi y] h Q := by
  rw [hy]
  refine i_X12_wrong hL (fun G hG _ _ => b_X12_wrong_0 hG ?_)
  rw [h0, hp, (C t ht).2.1]
  exact ⟨by omega, fun q => by omega, fun _ => ⟨fun q => absurd q h1, fun _ => ⟨fun _ => k, fun q => ⟨fun q2 => by omega, fun q2 => ⟨fun q3 => by omega, fun _ => k⟩⟩⟩⟩⟩
/-- whose name that is -/
theorem m_named {i t : Nat} {y : Int} (hL : qhL g) (C : qcut h tb n M) (ht : t < M) (ht4 : t < 403) (hy : y = t) (hi : i ≤ 6) (Kt : qK tb n t = 1) (h0 : h 12 0 12 = 0) (hN : ∀ j : Nat, j < i → h 53 0 j = (qN7 tb n (qst (qK tb n) j + 1) : Nat)) (k1 : qown (qNU tb n) (qK tb n) i t < i → Q (4 * (qown (qNU tb n) (qK tb n) i t : Nat)) h)
    (k0 : qown (qNU tb n) (qK tb n) i t = i → q_tr l g (d + 1) n_X12_wrong [qr 12 0, qi 4, qi (t : Int)] h (fun _ h1 => Q 0 h1)) : q_tr l g (d + 2) n_X12_named [qr 12 0, qi y, qi (i : Int)] h Q := by
  rw [hy]
  refine i_X12_named hL (fun G hG _ _ => b_X12_named_0 hG ?_)
  have key : ∀ j, j ≤ i → (∀ j', j' < j → qNU tb n (qst (qK tb n) j' + 1) ≠ qNU tb n t) → G 2 [some (qr 12 0), some (qi (t : Int)), some (qi (i : Int)), some (qi (j : Int))] [] h := by
    refine q_up (fun j hj ih hI => b_X12_named_2 hG ⟨fun q => k0 (qown_no (fun j' hj' => hI j' (by omega))), fun q => ⟨by omega, by omega, ?_⟩⟩)
    have hji : j < i := by omega
    rw [q_lc0, hN j hji, (C t ht).2.2.2 Kt]
    have e : ((qN7 tb n (qst (qK tb n) j + 1) : Nat) : Int) = (qN7 tb n t : Nat) ↔ qNU tb n (qst (qK tb n) j + 1) = qNU tb n t := by
      rw [qN_same]; omega
    rw [e]
    refine ⟨fun q2 => ⟨by omega, ih hji (fun j' hj' => ?_)⟩, fun q2 => ⟨by omega, ?_⟩⟩
    · by_cases c : j' = j
      · rw [c]; exact q2
      · exact hI j' (by omega)
    · have e2 := qown_is (N := qNU tb n) (K := qK tb n) (t := t) hji hI q2
      have := k1 (by rw [e2]; exact hji)
      rw [e2] at this; exact this
  exact key 0 (Nat.zero_le _) (fun j' hj' => absurd hj' (Nat.not_lt_zero _))
theorem m_divisor {a b : Nat} (hL : qhL g) (k : ∀ z : Nat, z ∣ a → z ∣ b → Q z h) : q_tr l g (d + 1) n_X12_divisor [qi (a : Int), qi (b : Int)] h Q := by
  refine i_X12_divisor hL (fun G hG _ _ => b_X12_divisor_0 hG ?_)
  have key : ∀ f b' a' : Nat, b' ≤ f → (∀ z, z ∣ a' → z ∣ b' → z ∣ a ∧ z ∣ b) → G 4 [none, none, some (qi (a' : Int)), some (qi (b' : Int)), none] [] h := by
    intro f
    induction f with
    | zero =>
      intro b' a' hb hz
      have : b' = 0 := by omega
      subst this
      have := hz a' (Nat.dvd_refl _) (Nat.dvd_zero _)
      exact b_X12_divisor_4 hG ⟨fun _ => k a' this.1 this.2, fun q => absurd rfl q⟩
    | succ f ih =>
      intro b' a' hb hz
      refine b_X12_divisor_4 hG ⟨fun q => ?_, fun q => ⟨by omega, ?_⟩⟩
      · have : b' = 0 := by omega
        subst this
        have := hz a' (Nat.dvd_refl _) (Nat.dvd_zero _)
        exact k a' this.1 this.2
      · have hb0 : 0 < b' := by omega
        rw [show (a' : Int) % (b' : Int) = ((a' % b' : Nat) : Int) from rfl]
        refine ih (a' % b') b' (by have := Nat.mod_lt a' hb0; omega) (fun z z1 z2 => hz z ?_ z1)
        have := Nat.dvd_add (Nat.dvd_mul_right_of_dvd z1 (a' / b')) z2
        rwa [Nat.div_add_mod] at this
  exact key b b a (Nat.le_refl _) (fun z z1 z2 => ⟨z1, z2⟩)
/-- four words of nothing -/
theorem qmr_none {a : Nat} (e : ∀ j : Nat, j < 4 → h 55 0 ((a : Int) + j) = 0) : qmr h 55 a (fun _ => false) := fun x hx => by
  rw [show ((a + x / 64 : Nat) : Int) = (a : Int) + ((x / 64 : Nat) : Int) by omega, e _ (by omega)]
  exact qbt_0 _
theorem qmr_cong {r a : Nat} {S S' : QZ} (R : qmr h r a S) (e : ∀ x, x < 256 → S x = S' x) : qmr h r a S' := fun x hx => by rw [R x hx]; exact e x hx
theorem m_meansOf {a U B : Nat} {y : Int} (hL : qhL g) (C : qcut h tb n M) (hM : U + B < M) (hM4 : M ≤ 403) (hy : y = U) (ha : a ≤ 20) (hB : 1 ≤ B) (hB10 : B ≤ 10) (kn : ∀ j, j < B → qK tb n (U + j) = 2) (ke : qK tb n (U + B) = 4) (h0 : h 12 0 12 = 0) (h1 : h 12 0 14 = 0)
    (k0 : qgoods 0 (fun _ => true) (fun j => qVa tb n (U + j)) B < B → ∀ h', qmq a h h' → h' 12 0 14 = 5 → h' 12 0 15 = qPl tb n (U + qgoods 0 (fun _ => true) (fun j => qVa tb n (U + j)) B) → Q 0 h')
    (k1 : (∀ j, j < B → qright 0 (fun _ => true) (qVa tb n (U + j)) = true) → ∀ h', qmq a h h' → (h' 12 0 14 = 0 ∧ q6 (qspr (qrt (fun j => qVa tb n (U + j)) B)) ∧ qmr h' 55 a (qspr (qrt (fun j => qVa tb n (U + j)) B)) ∨ h' 12 0 14 = 6 ∧ h' 12 0 15 = qPl tb n (U + B) ∧ qacc (qspr (qrt (fun j => qVa tb n (U + j)) B)) = false) → Q 0 h') : q_tr l g (d + 2) n_X12_meansOf [qr 12 0, qi (a : Int), qi y] h Q := by
  rw [hy]
  refine i_X12_meansOf hL (fun G hG _ _ => b_X12_meansOf_0 hG ?_)
  have vb := fun j hj => qVa_bd (kn j hj)
  have rt : ∀ v : Int, qright 0 (fun _ => true) v = decide (1 ≤ v ∧ v ≤ 15) := fun v => rfl
  have first : ∀ j, j ≤ B → ∀ D : Nat, (∀ j', j' < j → qright 0 (fun _ => true) (qVa tb n (U + j')) = true) → (∀ j', j' < j → D ∣ (qVa tb n (U + j')).toNat) → G 5 [some (qr 12 0), some (qi (a : Int)), some (qi (U : Int)), some (qi (D : Int)), some (qi ((U + j : Nat) : Int)), none] [] h := by
    refine q_up (fun j hj ih D hr hD => b_X12_meansOf_5 hG ?_)
    rw [(C (U + j) (by omega)).1]
    refine ⟨by omega, fun q => ?_, fun q => ⟨by omega, ?_⟩⟩
    · -- all of them are right
      have ej : j = B := by
        rcases Nat.lt_or_ge j B with z | z
        · have := kn j z; omega
        · omega
      subst ej
      generalize ht : qrt (fun j => qVa tb n (U + j)) j = t at *
      have hstep : ∀ s, t s = true ↔ ∃ jj, jj < j ∧ qVa tb n (U + jj) = s := fun s => by rw [← ht]; exact qrt_iff
      have hr2 : ∀ jj, jj < j → 1 ≤ qVa tb n (U + jj) ∧ qVa tb n (U + jj) ≤ 15 := fun jj hjj => by
        have := hr jj hjj
        rw [rt] at this
        exact of_decide_eq_true this
      have hDt : ∀ s, t s = true → D ∣ s := fun s hs => by
        obtain ⟨jj, j1, j2⟩ := (hstep s).mp hs
        have := hD jj j1
        rwa [j2, Int.toNat_natCast] at this
      have C2 : ∀ h2, qrf 55 a h h2 → qcut h2 tb n M := fun h2 f2 => qcut_w C (qmq_f f2)
      have k2 : ∀ h2, qrf 55 a h h2 → ∀ jj, jj ≤ j → h2 48 0 ((U + jj : Nat) : Int) = qK tb n (U + jj) := fun h2 f2 jj hjj => (C2 h2 f2 (U + jj) (by omega)).1
      -- the end of the row
      have fin : ∀ h2, qrf 55 a h h2 → qmr h2 55 a (qspr t) → G 95 [some (qr 12 0), some (qi (a : Int)), some (qi (U : Int)), some (qi (D : Int)), some (qi ((256 : Nat) : Int)), none] [] h2 := fun h2 f2 R2 => by
        have e12 : h2 12 0 12 = 0 := by rw [f2 12 0 12 (by omega)]; exact h0
        have e14 : h2 12 0 14 = 0 := by rw [f2 12 0 14 (by omega)]; exact h1
        refine b_X12_meansOf_95 hG ⟨fun _ => ⟨fun q2 => ?_, fun q2 => ?_⟩, fun q2 => by omega⟩
        · have srch : ∀ jj, jj ≤ j → G 181 [some (qr 12 0), none, none, none, some (qi ((U + jj : Nat) : Int)), none] [] h2 := by
            refine q_up (fun jj hjj ih3 => b_X12_meansOf_181 hG ?_)
            rw [k2 h2 f2 jj hjj]
            refine ⟨by omega, fun q3 => ?_, fun q3 => ⟨by omega, ?_⟩⟩
            · have ej : jj = j := by
                rcases Nat.lt_or_ge jj j with z | z
                · have := kn jj z; omega
                · omega
              subst ej
              exact m_wrong0 hL (C2 h2 f2) (by omega) (by omega) rfl e12 e14 (fun h4 f4 y1 y2 => k1 hr h4 (qmq_trans (qmq_f f2) (fun r i j e _ => f4 r i j e)) (Or.inr ⟨y1, y2, qspr_one hDt (by omega)⟩))
            · have hlt : jj < j := by
                rcases Nat.lt_or_ge jj j with z | z
                · exact z
                · rw [show jj = j by omega, ke] at q3; exact absurd rfl q3
              exact ih3 hlt
          exact srch 0 (Nat.zero_le _)
        · refine k1 hr h2 (qmq_f f2) (Or.inl ⟨e14, ?_, R2⟩)
          have := hr2 0 (by omega)
          exact qspr_q6 (s := (qVa tb n (U + 0)).toNat) ((hstep _).mpr ⟨0, by omega, by omega⟩) (by omega) (by omega)
      -- one number after another
      have row : ∀ y, y ≤ 256 → 1 ≤ y → ∀ h2, (qrf 55 a h h2 ∧ ∃ T : QZ, qmr h2 55 a T ∧ qm6 T ∧ ∀ z, z < 256 → T z = (decide (z < y) && qsp t z)) → G 95 [some (qr 12 0), some (qi (a : Int)), some (qi (U : Int)), some (qi (D : Int)), some (qi (y : Int)), none] [] h2 := by
        refine q_up (fun y hy ihy hy1 h2 hI => ?_)
        obtain ⟨f2, T, R2, T6, eT⟩ := hI
        by_cases c : y = 256
        · subst c
          refine fin h2 f2 (qmr_cong R2 (fun z hz => ?_))
          rw [eT z hz, decide_eq_true hz, Bool.true_and]
          unfold qspr
          rw [decide_eq_false (by omega), Bool.false_or]
        · have hy256 : y < 256 := by omega
          have inner : ∀ jj, jj ≤ j → ∀ h3, (qrf 55 a h h3 ∧ ∃ T : QZ, qmr h3 55 a T ∧ qm6 T ∧ (∀ z, z < 256 → z ≠ y → T z = (decide (z < y) && qsp t z)) ∧ (T y = true ↔ ∃ j', j' < jj ∧ qVa tb n (U + j') ≤ y ∧ qsp t (y - (qVa tb n (U + j')).toNat) = true)) → G 106 [some (qr 12 0), some (qi (a : Int)), some (qi (U : Int)), some (qi (D : Int)), some (qi (y : Int)), some (qi ((U + jj : Nat) : Int))] [] h3 := by
            refine q_up (fun jj hjj ih3 h3 hI => b_X12_meansOf_106 hG ?_)
            obtain ⟨f3, T, R3, T6, eT, eY⟩ := hI
            rw [k2 h3 f3 jj hjj]
            refine ⟨by omega, fun q3 => ⟨by omega, ?_⟩, fun q3 => ⟨by omega, ?_⟩⟩
            · have ej : jj = j := by
                rcases Nat.lt_or_ge jj j with z | z
                · have := kn jj z; omega
                · omega
              subst ej
              refine ihy hy256 (by omega) h3 ⟨f3, T, R3, T6, fun z hz => ?_⟩
              by_cases c2 : z = y
              · rw [c2, decide_eq_true (by omega), Bool.true_and, Bool.eq_iff_iff, eY, qsp_iff]
                constructor
                · rintro ⟨j', a1, a2, a3⟩
                  have := hr2 j' a1
                  exact Or.inr ⟨(qVa tb n (U + j')).toNat, by omega, by omega, (hstep _).mpr ⟨j', a1, by omega⟩, a3⟩
                · rintro (w | ⟨s, s1, s2, s3, s4⟩)
                  · omega
                  · obtain ⟨j', a1, a2⟩ := (hstep s).mp s3
                    exact ⟨j', a1, by omega, by rw [a2, Int.toNat_natCast]; exact s4⟩
              · rw [eT z hz c2]
                congr 1
                by_cases c3 : z < y
                · rw [decide_eq_true c3, decide_eq_true (by omega)]
                · rw [decide_eq_false c3, decide_eq_false (by omega)]
            · have hlt : jj < j := by
                rcases Nat.lt_or_ge jj j with z | z
                · exact z
                · rw [show jj = j by omega, ke] at q3; exact absurd q3 (by decide)
              have hv := hr2 jj hlt
              have ev : h3 50 0 ((U + jj : Nat) : Int) = qVa tb n (U + jj) := (C2 h3 f3 (U + jj) (by omega)).2.2.1 (kn jj hlt)
              rw [ev]
              -- with that step, or without
              have nx : ∀ h4 T', qrf 55 a h h4 → qmr h4 55 a T' → qm6 T' → (∀ z, z < 256 → z ≠ y → T' z = T z) → (T' y = true ↔ T y = true ∨ (qVa tb n (U + jj) ≤ y ∧ qsp t (y - (qVa tb n (U + jj)).toNat) = true)) → G 106 [some (qr 12 0), some (qi (a : Int)), some (qi (U : Int)), some (qi (D : Int)), some (qi (y : Int)), some (qi (((U + jj : Nat) : Int) + 1))] [] h4 := fun h4 T' f4 R4 T46 e1 e2 => by
                refine ih3 hlt h4 ⟨f4, T', R4, T46, fun z hz hz2 => by rw [e1 z hz hz2]; exact eT z hz hz2, ?_⟩
                rw [e2, eY]
                constructor
                · rintro (⟨j', a1, a2⟩ | a2)
                  · exact ⟨j', by omega, a2⟩
                  · exact ⟨jj, by omega, a2⟩
                · rintro ⟨j', a1, a2⟩
                  by_cases c4 : j' = jj
                  · right; rw [← c4]; exact a2
                  · left; exact ⟨j', by omega, a2⟩
              refine ⟨fun q4 => ⟨by omega, nx h3 T f3 R3 T6 (fun _ _ _ => rfl) ⟨fun w => Or.inl w, fun w => w.elim (fun w => w) (fun w => by omega)⟩⟩, fun q4 => ⟨by omega, by omega, ?_⟩⟩
              rw [show (y : Int) - qVa tb n (U + jj) = ((y - (qVa tb n (U + jj)).toNat : Nat) : Int) by omega]
              refine m_isOf hL (Or.inl ⟨Or.inr rfl, by omega⟩) R3 T6 ?_
              rw [qin_nat, eT _ (by omega) (by omega), decide_eq_true (by omega), Bool.true_and]
              refine ⟨fun q5 => ⟨by omega, nx h3 T f3 R3 T6 (fun _ _ _ => rfl) ⟨fun w => Or.inl w, fun w => w.elim (fun w => w) (fun w => by rw [qb_0.mp q5] at w; exact absurd w.2 (by decide))⟩⟩, fun q5 => ?_⟩
              refine m_puts hL (Or.inl ⟨Or.inr rfl, by omega⟩) hy256 R3 (fun h4 f4 R4 => ⟨by omega, nx h4 _ (qrf_trans f3 f4) R4 (fun z hz => by show (T z || z == y) = true; rw [T6 z hz]; rfl) (fun z hz hz2 => by show (T z || z == y) = T z; rw [beq_eq_false_iff_ne.mpr hz2, Bool.or_false]) ⟨fun _ => Or.inr ⟨by omega, qb_n0.mp q5⟩, fun _ => by show (T y || y == y) = true; rw [beq_self_eq_true, Bool.or_true]⟩⟩)
          refine b_X12_meansOf_95 hG ⟨fun q => by omega, fun _ => inner 0 (Nat.zero_le _) h2 ⟨f2, T, R2, T6, fun z hz _ => eT z hz, ?_⟩⟩
          rw [eT y hy256, decide_eq_false (Nat.lt_irrefl y), Bool.false_and]
          exact ⟨fun w => (by cases w), fun ⟨j', w, _⟩ => absurd w (Nat.not_lt_zero _)⟩
      -- nothing at first
      have zero : ∀ m, m ≤ 4 → ∀ h2, (qrf 55 a h h2 ∧ ∀ jj : Nat, jj < m → h2 55 0 ((a : Int) + jj) = 0) → G 61 [some (qr 12 0), some (qi (a : Int)), some (qi (U : Int)), some (qi (D : Int)), some (qi (m : Int)), none] [] h2 := by
        refine q_up (fun m hm ih2 h2 hI => b_X12_meansOf_61 hG ⟨fun q2 => ?_, fun q2 => ⟨by omega, by omega, by omega, ih2 (by omega) _ ⟨qrf_trans hI.1 (fun r i jj e => qu_ne (by omega)), fun jj hjj => ?_⟩⟩⟩)
        · have R2 := qmr_none (h := h2) (a := a) (fun jj hjj => hI.2 jj (by omega))
          refine m_puts (x := 0) hL (Or.inl ⟨Or.inr rfl, by omega⟩) (by omega) R2 (fun h3 f3 R3 => row 1 (by omega) (Nat.le_refl _) h3 ⟨qrf_trans hI.1 f3, fun z => decide (256 ≤ z) || z == 0, qmr_cong R3 (fun z hz => ?_), fun z hz => by show (decide (256 ≤ z) || z == 0) = true; rw [decide_eq_true hz]; rfl, fun z hz => ?_⟩)
          · show (false || z == 0) = (decide (256 ≤ z) || z == 0)
            rw [decide_eq_false (by omega)]
          · show (decide (256 ≤ z) || z == 0) = _
            rw [decide_eq_false (by omega), Bool.false_or]
            by_cases c : z = 0
            · rw [c, qsp_0]; rfl
            · rw [beq_eq_false_iff_ne.mpr c, decide_eq_false (by omega)]; rfl
        · by_cases c : jj = m
          · rw [c, qu_at]
          · rw [qu_ne (by omega)]; exact hI.2 jj (by omega)
      exact zero 0 (Nat.zero_le _) h ⟨qrf_refl _ _ _, fun jj hjj => absurd hjj (Nat.not_lt_zero _)⟩
    · -- one INT more
      have hlt : j < B := by
        rcases Nat.lt_or_ge j B with z | z
        · exact z
        · rw [show j = B by omega, ke] at q; exact absurd q (by decide)
      have ev : h 50 0 ((U + j : Nat) : Int) = qVa tb n (U + j) := (C (U + j) (by omega)).2.2.1 (kn j hlt)
      rw [ev]
      refine m_in hL (q_cd (fun q2 => ?_) (fun q2 => ?_))
      · have eg := qgoods_is (w := 0) (A := fun _ => true) (a := fun j => qVa tb n (U + j)) hlt hr (by rw [rt]; exact decide_eq_false q2)
        rw [eg] at k0
        exact m_wrong0 hL C (by omega) (by omega) rfl h0 h1 (fun h4 f4 y1 y2 => k0 hlt h4 (fun r i j e _ => f4 r i j e) y1 y2)
      · rw [ev]
        have hv := vb j hlt
        obtain ⟨v, hv2⟩ := Int.eq_ofNat_of_zero_le hv.1
        rw [hv2]
        refine ⟨by omega, m_divisor hL (fun z z1 z2 => ⟨by omega, ih hlt z (fun j' hj' => ?_) (fun j' hj' => ?_)⟩)⟩
        · by_cases c : j' = j
          · rw [c, rt]; exact decide_eq_true q2
          · exact hr j' (by omega)
        · by_cases c : j' = j
          · rw [c, hv2]; exact z1
          · exact Nat.dvd_trans z2 (hD j' (by omega))
  exact first 0 (Nat.zero_le _) 0 (fun j' hj' => absurd hj' (Nat.not_lt_zero _)) (fun j' hj' => absurd hj' (Nat.not_lt_zero _))
end MM1
