/-! PIECES -/
/-- a number of one ABOVE that is LONE -/
def qlnp (S : QZ) (n : Nat) : Bool := qclp (qab S n) && qln S n
def qlnc (S : QZ) : Nat := qc (qlnp S) (2 ^ qgn S)
def qlnk (S : QZ) (j : Nat) : Nat := (qnth (qlnp S) (2 ^ qgn S) j).toNat
theorem qlnk_of {S : QZ} {j : Nat} (h : j < qlnc S) : ∃ x, x < 2 ^ qgn S ∧ qlnp S x = true ∧ qc (qlnp S) x = j ∧ qlnk S j = x := by
  obtain ⟨x, h1, h2, h3⟩ := qc_kth (p := qlnp S) (n := 2 ^ qgn S) h
  exact ⟨x, h1, h2, h3, by unfold qlnk; rw [← h3, qnth_at h2 h1]; rfl⟩
theorem qchs_len {F : Nat → Option (List Nat)} {ln : Nat → Nat} {r : Nat} (hF : ∀ j w, F j = some w → w.length = r) : ∀ f j w, qchs F ln f j = some w → w.length = r + 1
  | 0, j, w, h => by cases h
  | f + 1, j, w, h => by
    have es : qchs F ln (f + 1) j = match F j with
      | some r => some (ln j :: r)
      | none => qchs F ln f (j + 1) := rfl
    rw [es] at h
    cases hFj : F j with
    | none => rw [hFj] at h; exact qchs_len hF f (j + 1) w h
    | some v =>
      rw [hFj] at h
      cases h
      show v.length + 1 = r + 1
      rw [hF j v hFj]
theorem qch_len {ln : Nat → Nat} {c : Nat} : ∀ r fr cm w, qch ln c r fr cm = some w → w.length = r
  | 0, fr, cm, w, h => by
    unfold qch at h
    by_cases e : cm = 0
    · rw [if_pos e] at h; cases h; rfl
    · rw [if_neg e] at h; cases h
  | r + 1, fr, cm, w, h => qchs_len (fun j v hv => qch_len r _ _ v hv) _ _ w h
/-- the fewest that will do, the first such row -/
def qpcs (S : QZ) : Nat → Nat → List Nat
  | 0, _ => []
  | f + 1, sz => match qch (qlnk S) (qlnc S) sz 0 (((2 ^ qgn S : Nat) : Int) - 1) with
    | some w => w
    | none => qpcs S f (sz + 1)
def qlpick (w : List Nat) (j : Int) : Int := if j = -1 then (w.length : Int) else if 0 ≤ j ∧ j < w.length then (w.getD j.toNat 0 : Nat) else -1
section QCov4
variable {l : Launch} {g : QG} {d : Nat} {h : QM} {i : Int} {S : QZ} {Q : Int → QM → Prop}
theorem s_lpick {w : List Nat} {j : Int} (hL : qhL g) (hw : w.length ≤ 8) (R : ∀ t : Nat, t < w.length → h 16 0 t = (w.getD t 0 : Nat)) (k : Q (qlpick w j) h) : q_tr l g (d + 1) n_X11_pick [qr 16 0, qi w.length, qi j] h Q := by
  refine i_X11_pick_16 hL (fun G hG _ _ => b_X11_pick_16_0 hG ?_)
  unfold qlpick at k
  refine ⟨fun q => ?_, fun q => q_qe k (by rw [if_pos q])⟩
  rw [if_neg q] at k
  refine ⟨fun q2 => q_qe k (by rw [if_neg (by omega)]), fun q2 => ⟨fun q3 => q_qe k (by rw [if_neg (by omega)]), fun q3 => ⟨fun q4 => by omega, fun q4 => ⟨by omega, q_qe k ?_⟩⟩⟩⟩
  rw [if_pos (by omega)]
  have := R j.toNat (by omega)
  rwa [Int.toNat_of_nonneg (by omega)] at this
theorem s_piece {j : Int} (hL : qhL g) (V : QV2 S) (A : qat h i S) (hg : qgn S ≤ 8) (k : ∀ h', qfx [0, 13, 15, 16, 17] h h' → Q (qlpick (qpcs S 8 1) j) h') : q_tr l g (d + 10) n_X0_pieceAt [qr 0 0, qr 8 i, qi j] h Q := by
  refine i_X0_pieceAt hL (fun G hG _ _ => b_X0_pieceAt_0 hG ?_)
  have h256 := q2g hg
  have hp0 : 0 < 2 ^ qgn S := Nat.two_pow_pos _
  refine s_open hL V A hg (fun h1 f C => ?_)
  have hcl := qc_le (qlnp S)
  -- the sizes one after another
  have sizes : ∀ fl sz h2, sz + fl = 9 → 0 < sz → qfx [0, 13, 15, 16, 17] h h2 → h2 0 0 4 = qlnc S → (∀ t : Nat, t < qlnc S → h2 15 0 t = qlnk S t) → qpcs S 8 1 = qpcs S fl sz → G 72 [some (qr 0 0), none, some (qi j), some (qi ((2 ^ qgn S : Nat) : Int)), some (qi 0), some (qi (sz : Int))] [] h2 := by
    intro fl
    induction fl with
    | zero =>
      intro sz h2 e hs f2 c4 c15 he
      refine b_X0_pieceAt_72 hG ⟨fun q => ?_, fun q => by omega⟩
      have k2 := k h2 f2
      rw [he] at k2
      exact s_lpick (w := []) hL (by decide) (fun t ht => absurd ht (Nat.not_lt_zero _)) k2
    | succ fl ih =>
      intro sz h2 e hs f2 c4 c15 he
      refine b_X0_pieceAt_72 hG ⟨fun q => by omega, fun _ => ⟨fun q => absurd rfl q, fun _ => ⟨by omega, ?_⟩⟩⟩
      have ch := s_choose (l := l) (g := g) (d := d + 8 - sz) (ln := qlnk S) (c := qlnc S) (sz := sz) hL (by have := hcl (2 ^ qgn S); unfold qlnc; omega) (by omega) sz 0 0 (by omega) (((2 ^ qgn S : Nat) : Int) - 1) h2
      rw [show d + 8 - sz + sz + 1 = d + 9 by omega] at ch
      refine ch _ c4 c15 (fun h3 f3 b1 b2 => ?_)
      have f4 := qfx_trans f2 (qfx_mono f3 (qfx_sub rfl))
      have es : qpcs S (fl + 1) sz = match qch (qlnk S) (qlnc S) sz 0 (((2 ^ qgn S : Nat) : Int) - 1) with
        | some w => w
        | none => qpcs S fl (sz + 1) := rfl
      rw [es] at he
      cases hq : qch (qlnk S) (qlnc S) sz 0 (((2 ^ qgn S : Nat) : Int) - 1) with
      | none =>
        rw [hq] at he
        exact ⟨fun _ => ⟨by omega, ih (sz + 1) h3 (by omega) (by omega) f4 (by rw [f3 0 rfl]; exact c4) (fun t ht => by rw [f3 15 rfl]; exact c15 t ht) he⟩, fun q2 => absurd rfl q2⟩
      | some w =>
        rw [hq] at he
        have hlen := qch_len _ _ _ _ hq
        refine ⟨fun q2 => absurd (show (1 : Int) = 0 from q2) (by decide), fun _ => ⟨by omega, ?_⟩⟩
        have k2 := k h3 f4
        rw [he] at k2
        have pk := s_lpick (l := l) (g := g) (d := d + 8) (h := h3) (w := w) (j := j) hL (by omega) (fun t ht => by
          have := b2 w hq t (by omega)
          rwa [Nat.zero_add] at this) k2
        rw [hlen] at pk
        refine b_X0_pieceAt_72 hG ⟨fun q => pk, fun q => ⟨fun _ => pk, fun q2 => by omega⟩⟩
  have rows : ∀ n, n ≤ 2 ^ qgn S → ∀ h2, (qfx [0, 13, 15, 16, 17] h h2 ∧ qcov2 h2 S ∧ h2 0 0 4 = qc (qlnp S) n ∧ ∀ w : Nat, w < n → qlnp S w = true → h2 15 0 (qc (qlnp S) w) = w) → G 14 [some (qr 0 0), none, some (qi j), some (qi ((2 ^ qgn S : Nat) : Int)), some (qi (n : Int)), none] [] h2 := by
    refine q_up (fun n hn ih h2 hI => b_X0_pieceAt_14 hG ?_)
    obtain ⟨f2, C2, c4, c15⟩ := hI
    refine ⟨fun q => ?_, fun q => ⟨by omega, ?_⟩⟩
    · have hnn : n = 2 ^ qgn S := by omega
      subst hnn
      refine sizes 8 1 h2 rfl (by omega) f2 c4 (fun t ht => ?_) rfl
      obtain ⟨x, x1, x2, x3, x4⟩ := qlnk_of ht
      have := c15 x x1 x2
      rw [x3] at this
      rw [x4]; exact this
    · have hnl : n < 2 ^ qgn S := by omega
      have hcn := hcl n
      rw [C2.2 n hnl]
      have skip : qlnp S n = false → (-2147483648 ≤ (n : Int) + 1 ∧ (n : Int) + 1 ≤ 2147483647) ∧ G 14 [some (qr 0 0), none, some (qi j), some (qi ((2 ^ qgn S : Nat) : Int)), some (qi ((n : Int) + 1)), none] [] h2 := fun e => by
        refine ⟨by omega, ih hnl h2 ⟨f2, C2, by rw [qc_f e]; exact c4, fun w hw hp => c15 w ?_ hp⟩⟩
        rcases Nat.lt_or_ge w n with z | z
        · exact z
        · rw [show w = n by omega, e] at hp; cases hp
      refine ⟨fun q2 => skip (by unfold qlnp; rw [qb_0.mp q2]; rfl), fun q2 => s_lonen hL V.1 hg C2.1 hnl ⟨fun q3 => skip (by unfold qlnp; rw [qb_0.mp q3, Bool.and_false]), fun q3 => ?_⟩⟩
      have hp : qlnp S n = true := by unfold qlnp; rw [qb_n0.mp q2, qb_n0.mp q3]; rfl
      have e1 : (qu h2 15 0 (h2 0 0 4) (n : Int)) 0 0 4 = qc (qlnp S) n := by rw [qu_ne (by omega)]; exact c4
      rw [e1, c4]
      refine ⟨by omega, by omega, by omega, ih hnl _ ⟨qfx_trans f2 (qfx_trans (qfx_qu rfl) (qfx_qu rfl)), ⟨⟨?_, ?_, fun w hw => ?_⟩, fun w hw => ?_⟩, ?_, fun w hw hpw => ?_⟩⟩
      · rw [qu_ne (by omega), qu_ne (by omega)]; exact C2.1.1
      · rw [qu_ne (by omega), qu_ne (by omega)]; exact C2.1.2.1
      · rw [qu_ne (by omega), qu_ne (by omega)]; exact C2.1.2.2 w hw
      · rw [qu_ne (by omega), qu_ne (by omega)]; exact C2.2 w hw
      · rw [qu_at, qc_t hp]; rfl
      · rw [qu_ne (by omega)]
        by_cases z : w = n
        · subst z; rw [qu_at]
        · have := qc_lt (show w < n by omega) hpw
          rw [qu_ne (by omega)]
          exact c15 w (by omega) hpw
  refine rows 0 (Nat.zero_le _) _ ⟨qfx_trans (qfx_mono f (qfx_sub rfl)) (qfx_qu rfl), ⟨⟨?_, ?_, fun w hw => ?_⟩, fun w hw => ?_⟩, ?_, fun w hw => absurd hw (Nat.not_lt_zero _)⟩
  · rw [qu_ne (by omega)]; exact C.1.1
  · rw [qu_ne (by omega)]; exact C.1.2.1
  · rw [qu_ne (by omega)]; exact C.1.2.2 w hw
  · rw [qu_ne (by omega)]; exact C.2 w hw
  · rw [qu_at]; rfl
end QCov4
