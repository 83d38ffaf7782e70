/-! the model: the ARF set -/
theorem qc_less {p q : Nat → Bool} {w : Nat} (h : ∀ x, p x = true → q x = true) (h1 : p w = false) (h2 : q w = true) : ∀ n, w < n → qc p n < qc q n
  | 0, hn => absurd hn (Nat.not_lt_zero _)
  | n + 1, hn => by
    have le : ∀ m, qc p m ≤ qc q m := fun m => by
      induction m with
      | zero => exact Nat.le_refl _
      | succ m ih =>
        cases c : p m with
        | true => rw [qc_t c, qc_t (h m c)]; omega
        | false =>
          rw [qc_f c]
          cases c2 : q m with
          | true => rw [qc_t c2]; omega
          | false => rw [qc_f c2]; exact ih
    by_cases e : w = n
    · subst e
      rw [qc_f h1, qc_t h2]
      have := le w
      omega
    · have ih := qc_less h h1 h2 n (by omega)
      cases c : p n with
      | true => rw [qc_t c, qc_t (h n c)]; omega
      | false =>
        rw [qc_f c]
        cases c2 : q n with
        | true => rw [qc_t c2]; omega
        | false => rw [qc_f c2]; exact ih
/-- closed, so far -/
def qclz (W : QZ) (P : Nat → Nat → Nat → Prop) : Prop := ∀ z x y, W z = true → W x = true → W y = true → z ≤ x → x ≤ y → x + y < 256 + z → P z x y → W (x + y - z) = true
section MM2
variable {l : Launch} {g : QG} {d : Nat} {h : QM} {Q : Int → QM → Prop} {a : Nat} {A : QZ}
theorem m_closes {y : Int} (hL : qhL g) (ha : a ≤ 20) (hy : y = a) (V : QV1 A) (R : qmr h 55 a A) (k : ∀ h', qrf 55 a h h' → qmr h' 55 a (qarf A) → Q 0 h') : q_tr l g (d + 2) n_X12_closes [qr 12 0, qi y] h Q := by
  rw [hy]
  have hr : qrg 55 a := Or.inl ⟨Or.inr rfl, by omega⟩
  refine i_X12_closes hL (fun G hG _ _ => b_X12_closes_0 hG ?_)
  let I : QZ → QM → Prop := fun W h1 => qrf 55 a h h1 ∧ qmr h1 55 a W ∧ qm6 W ∧ (∀ x, A x = true → W x = true) ∧ ∀ T : QZ, qca T → (∀ x, A x = true → T x = true) → ∀ x, W x = true → T x = true
  have fin : ∀ W h1, I W h1 → qclz W (fun _ _ _ => True) → G 2 [some (qr 12 0), some (qi (a : Int)), some (qi 0), none, none, none] [] h1 := fun W h1 hI hc => by
    obtain ⟨f1, R1, W6, s1, s2⟩ := hI
    have hca : qca W := fun x y z hx hy hz h1 h2 => by
      rcases Nat.lt_or_ge (x + y) (256 + z) with c | c
      · rcases Nat.le_total x y with e | e
        · exact hc z x y hz hx hy h1 e c trivial
        · have := hc z y x hz hy hx h2 e (by omega) trivial
          rwa [show y + x - z = x + y - z by omega] at this
      · exact W6 _ (by omega)
    have e := qarf_one V s1 hca s2
    refine b_X12_closes_2 hG ⟨fun _ => k h1 f1 (by rw [← e]; exact R1), fun q => absurd rfl q⟩
  have pass : ∀ f, ∀ W h1, qc (qgap W) 256 ≤ f → I W h1 → G 2 [some (qr 12 0), some (qi (a : Int)), some (qi 1), none, none, none] [] h1 := by
    intro f
    induction f using Nat.strongRecOn with
    | ind f ihf =>
      intro W h1 hf hI
      refine b_X12_closes_2 hG ⟨fun q => absurd q (by decide), fun _ => ?_⟩
      -- b: is something added in this pass
      let J : Bool → QZ → (Nat → Nat → Nat → Prop) → QM → Prop := fun b W P h1 => I W h1 ∧ qc (qgap W) 256 ≤ f ∧ (b = false → qclz W P) ∧ (b = true → qc (qgap W) 256 < f)
      have l63 : ∀ z x : Nat, z < 256 → x < 256 → z ≤ x → (∀ b W h1, J b W (fun z' x' _ => z' < z ∨ (z' = z ∧ x' < x + 1)) h1 → W z = true → G 35 [some (qr 12 0), some (qi (a : Int)), some (qi (qb b)), some (qi (z : Int)), some (qi ((x : Int) + 1)), none] [] h1) → ∀ yy, yy ≤ 256 → x ≤ yy → ∀ b W h1, J b W (fun z' x' y' => z' < z ∨ (z' = z ∧ (x' < x ∨ (x' = x ∧ y' < yy)))) h1 → W z = true → W x = true → G 63 [some (qr 12 0), some (qi (a : Int)), some (qi (qb b)), some (qi (z : Int)), some (qi (x : Int)), some (qi (yy : Int))] [] h1 := by
        intro z x hz hx hzx nx
        refine q_up (fun yy hyy ih hxy b W h1 hJ wz wx => b_X12_closes_63 hG ⟨by omega, by omega, fun q => ⟨by omega, nx b W h1 ⟨hJ.1, hJ.2.1, fun eb => ?_, hJ.2.2.2⟩ wz⟩, fun q => m_isOf hL hr hJ.1.2.1 hJ.1.2.2.1 ?_⟩)
        · intro z' x' y' w1 w2 w3 w4 w5 w6 w7
          refine hJ.2.2.1 eb z' x' y' w1 w2 w3 w4 w5 w6 ?_
          rcases w7 with w7 | ⟨w7, w8⟩
          · exact Or.inl w7
          · refine Or.inr ⟨w7, ?_⟩
            rcases Nat.lt_or_ge x' x with c | c
            · exact Or.inl c
            · exact Or.inr ⟨by omega, by omega⟩
        · rw [qin_nat]
          -- no change
          have keep : (b = false → W yy = true → W (x + yy - z) = true) → G 63 [some (qr 12 0), some (qi (a : Int)), some (qi (qb b)), some (qi (z : Int)), some (qi (x : Int)), some (qi ((yy : Int) + 1))] [] h1 := fun hk => ih (by omega) (by omega) b W h1 ⟨hJ.1, hJ.2.1, fun eb => (fun z' x' y' w1 w2 w3 w4 w5 w6 w7 => by
            by_cases c : z' = z ∧ x' = x ∧ y' = yy
            · obtain ⟨c1, c2, c3⟩ := c
              subst c1; subst c2; subst c3
              exact hk eb w3
            · exact hJ.2.2.1 eb z' x' y' w1 w2 w3 w4 w5 w6 (by omega)), hJ.2.2.2⟩ wz wx
          refine ⟨fun q2 => ⟨by omega, keep (fun _ w => by rw [qb_0.mp q2] at w; cases w)⟩, fun q2 => ⟨by omega, by omega, ?_⟩⟩
          rw [show (x : Int) + (yy : Int) - (z : Int) = ((x + yy - z : Nat) : Int) by omega]
          refine m_isOf hL hr hJ.1.2.1 hJ.1.2.2.1 ?_
          rw [qin_nat]
          refine ⟨fun q3 => ⟨by omega, by omega, ?_⟩, fun q3 => ⟨by omega, keep (fun _ _ => qb_n0.mp q3)⟩⟩
          obtain ⟨f1, R1, W6, s1, s2⟩ := hJ.1
          have wy := qb_n0.mp q2
          have wn := qb_0.mp q3
          refine m_puts hL hr (by omega) R1 (fun h2 f2 R2 => ⟨by omega, ?_⟩)
          have more : ∀ u, W u = true → (W u || u == x + yy - z) = true := fun u hu => by rw [hu]; rfl
          refine ih (by omega) (by omega) true (fun u => W u || u == x + yy - z) h2 ⟨⟨qrf_trans f1 f2, R2, fun u hu => more u (W6 u hu), fun u hu => more u (s1 u hu), fun T t1 t2 u hu => ?_⟩, ?_, fun e => (by cases e), fun _ => ?_⟩ (more z wz) (more x wx)
          · rcases Bool.or_eq_true_iff.mp hu with w | w
            · exact s2 T t1 t2 u w
            · rw [beq_iff_eq.mp w]
              exact t1 x yy z (s2 T t1 t2 x wx) (s2 T t1 t2 yy wy) (s2 T t1 t2 z wz) hzx (by omega)
          all_goals
            have := qc_less (p := qgap (fun u => W u || u == x + yy - z)) (q := qgap W) (w := x + yy - z) (fun u hu => by
              unfold qgap at hu ⊢
              cases c : W u with
              | false => rfl
              | true =>
                have hu : (!(W u || u == x + yy - z)) = true := hu
                rw [more u c] at hu; exact absurd hu (by decide)) (by unfold qgap; show (!(W (x + yy - z) || x + yy - z == x + yy - z)) = false; rw [beq_self_eq_true, Bool.or_true]; rfl) (by unfold qgap; rw [wn]; rfl) 256 (by omega)
            have := hJ.2.1
            omega
      have l35 : ∀ z : Nat, z < 256 → (∀ b W h1, J b W (fun z' _ _ => z' < z + 1) h1 → G 10 [some (qr 12 0), some (qi (a : Int)), some (qi (qb b)), some (qi ((z : Int) + 1)), none, none] [] h1) → ∀ x, x ≤ 256 → z ≤ x → ∀ b W h1, J b W (fun z' x' _ => z' < z ∨ (z' = z ∧ x' < x)) h1 → W z = true → G 35 [some (qr 12 0), some (qi (a : Int)), some (qi (qb b)), some (qi (z : Int)), some (qi (x : Int)), none] [] h1 := by
        intro z hz nx
        refine q_up (fun x hx ih hzx b W h1 hJ wz => b_X12_closes_35 hG ⟨fun q => ⟨by omega, nx b W h1 ⟨hJ.1, hJ.2.1, fun eb z' x' y' w1 w2 w3 w4 w5 w6 w7 => hJ.2.2.1 eb z' x' y' w1 w2 w3 w4 w5 w6 ?_, hJ.2.2.2⟩⟩, fun q => m_isOf hL hr hJ.1.2.1 hJ.1.2.2.1 ?_⟩)
        · have w7 : z' < z + 1 := w7
          rcases Nat.lt_or_ge z' z with c | c
          · exact Or.inl c
          · exact Or.inr ⟨by omega, by omega⟩
        · rw [qin_nat]
          refine ⟨fun q2 => l63 z x hz (by omega) hzx (fun b W h1 hJ wz => ih (by omega) (by omega) b W h1 hJ wz) x hx (Nat.le_refl _) b W h1 ⟨hJ.1, hJ.2.1, fun eb z' x' y' w1 w2 w3 w4 w5 w6 w7 => hJ.2.2.1 eb z' x' y' w1 w2 w3 w4 w5 w6 ?_, hJ.2.2.2⟩ wz (qb_n0.mp q2), fun q2 => ⟨by omega, ih (by omega) (by omega) b W h1 ⟨hJ.1, hJ.2.1, fun eb z' x' y' w1 w2 w3 w4 w5 w6 w7 => ?_, hJ.2.2.2⟩ wz⟩⟩
          · rcases w7 with w7 | ⟨w7, w8⟩
            · exact Or.inl w7
            · exact Or.inr ⟨w7, by omega⟩
          · by_cases c : x' = x
            · rw [c, qb_0.mp q2] at w2; cases w2
            · refine hJ.2.2.1 eb z' x' y' w1 w2 w3 w4 w5 w6 ?_
              rcases w7 with w7 | ⟨w7, w8⟩
              · exact Or.inl w7
              · exact Or.inr ⟨w7, by omega⟩
      have l10 : ∀ z, z ≤ 256 → ∀ b W h1, J b W (fun z' _ _ => z' < z) h1 → G 10 [some (qr 12 0), some (qi (a : Int)), some (qi (qb b)), some (qi (z : Int)), none, none] [] h1 := by
        refine q_up (fun z hz ih b W h1 hJ => b_X12_closes_10 hG ⟨fun q => ?_, fun q => m_isOf hL hr hJ.1.2.1 hJ.1.2.2.1 ?_⟩)
        · cases b with
          | false => exact fin W h1 hJ.1 (fun z' x' y' w1 w2 w3 w4 w5 w6 _ => by
              by_cases c : z' < 256
              · exact hJ.2.2.1 rfl z' x' y' w1 w2 w3 w4 w5 w6 (by show z' < z; omega)
              · exact hJ.1.2.2.1 _ (by omega))
          | true => exact ihf _ (hJ.2.2.2 rfl) W h1 (Nat.le_refl _) hJ.1
        · rw [qin_nat]
          refine ⟨fun q2 => l35 z (by omega) (fun b W h1 hJ => ih (by omega) b W h1 hJ) z hz (Nat.le_refl _) b W h1 ⟨hJ.1, hJ.2.1, fun eb z' x' y' w1 w2 w3 w4 w5 w6 w7 => hJ.2.2.1 eb z' x' y' w1 w2 w3 w4 w5 w6 (by show z' < z; omega), hJ.2.2.2⟩ (qb_n0.mp q2), fun q2 => ⟨by omega, ih (by omega) b W h1 ⟨hJ.1, hJ.2.1, fun eb z' x' y' w1 w2 w3 w4 w5 w6 w7 => ?_, hJ.2.2.2⟩⟩⟩
          have w7 : z' < z + 1 := w7
          by_cases c : z' = z
          · rw [c, qb_0.mp q2] at w1; cases w1
          · exact hJ.2.2.1 eb z' x' y' w1 w2 w3 w4 w5 w6 (by show z' < z; omega)
      exact l10 0 (by omega) false W h1 ⟨hI, hf, fun _ z' x' y' _ _ _ _ _ _ w7 => absurd w7 (Nat.not_lt_zero _), fun e => (by cases e)⟩
  exact pass _ A h (Nat.le_refl _) ⟨qrf_refl _ _ _, R, qm6_1 V, fun _ w => w, fun T _ t2 x hx => t2 x hx⟩
end MM2
