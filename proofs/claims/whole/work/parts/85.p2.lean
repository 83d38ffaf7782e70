/-! the program's maker of sets -/
theorem q_w64_eq {a b : Nat} (ha : a < 18446744073709551616) (hb : b < 18446744073709551616) : q_w64 (a : Int) = q_w64 (b : Int) ↔ a = b := by
  unfold q_w64
  omega
theorem qNU_bd {tb : Nat → Int} {n t : Nat} (h : qK tb n t = 1) : qNU tb n t < 18446744073709551616 := by
  have h8 := qK_len (tb := tb) (n := n) (p := qTp tb n t) (Or.inl h)
  have hl := (qTl_ok tb (qTp_le tb n t)).2.1
  have := qvU_bd hl
  have e : (256 : Nat) ^ qTl tb n (qTp tb n t) ≤ 256 ^ 8 := Nat.pow_le_pow_right (by omega) h8
  unfold qNU
  omega
theorem qVa_bd {tb : Nat → Int} {n t : Nat} (h : qK tb n t = 2) : 0 ≤ qVa tb n t ∧ qVa tb n t < 10000 := by
  have hl := (qTd_ok tb (qTp_le tb n t)).2.1
  have h4 : qTd tb n (qTp tb n t) ≤ 4 := by
    have h : qTk tb n (qTp tb n t) = 2 := h
    have := qwd_7 (qvU (qTf tb n (qTp tb n t)) (qTl tb n (qTp tb n t)))
    unfold qTk at h
    revert h
    repeat' split
    all_goals omega
  exact q_d4 hl h4
/-- names of the same letters, either way -/
theorem qN_same {tb : Nat → Int} {n t s : Nat} : qNU tb n t = qNU tb n s ↔ qN7 tb n t = qN7 tb n s := qv_same (qTl_ok tb (qTp_le tb n t)).2.1 (qTl_ok tb (qTp_le tb n s)).2.1
theorem qown_is {N K : Nat → Nat} {i t j : Nat} (hj : j < i) (h1 : ∀ j', j' < j → N (qst K j' + 1) ≠ N t) (h2 : N (qst K j + 1) = N t) : qown N K i t = j := by
  obtain ⟨a1, a2, a3⟩ := qown_ok N K i t
  rcases Nat.lt_trichotomy (qown N K i t) j with c | c | c
  · exact absurd (a3 (by omega)) (h1 _ c)
  · exact c
  · exact absurd h2 (a2 j c)
theorem qown_no {N K : Nat → Nat} {i t : Nat} (h1 : ∀ j', j' < i → N (qst K j' + 1) ≠ N t) : qown N K i t = i := by
  obtain ⟨a1, a2, a3⟩ := qown_ok N K i t
  rcases Nat.lt_or_ge (qown N K i t) i with c | c
  · exact absurd (a3 c) (h1 _ c)
  · omega
theorem qgoods_is {w : Nat} {A : QZ} {a : Nat → Int} {b j : Nat} (hj : j < b) (h1 : ∀ j', j' < j → qright w A (a j') = true) (h2 : qright w A (a j) = false) : qgoods w A a b = j := by
  obtain ⟨a1, a2, a3⟩ := qgoods_ok w A a b
  rcases Nat.lt_trichotomy (qgoods w A a b) j with c | c | c
  · have := a3 (by omega)
    rw [h1 _ c] at this; cases this
  · exact c
  · have := a2 j c
    rw [h2] at this; cases this
theorem qgoods_all {w : Nat} {A : QZ} {a : Nat → Int} {b : Nat} (h1 : ∀ j, j < b → qright w A (a j) = true) : qgoods w A a b = b := by
  obtain ⟨a1, a2, a3⟩ := qgoods_ok w A a b
  rcases Nat.lt_or_ge (qgoods w A a b) b with c | c
  · have := a3 c
    rw [h1 _ c] at this; cases this
  · omega
theorem qcpy_o {h : QM} {r0 r1 : Nat} {i0 i1 sp dp n : Int} {r : Nat} {i j : Int} (e : r ≠ r1) : q_cpy h r0 i0 sp r1 i1 dp n r i j = h r i j := by
  unfold q_cpy
  rw [if_neg (fun z => e z.1)]
/-- no more than one set and what the maker gathers -/
def qfb (i : Int) (h h' : QM) : Prop := ∀ r k j, r ≠ 27 → (k ≠ i ∨ (r ≠ 8 ∧ r ≠ 30 ∧ r ≠ 31 ∧ r ≠ 32)) → h' r k j = h r k j
theorem qfb_8 {i : Int} {h h' : QM} (f : qf8 i h h') : qfb i h h' := fun r k j _ e => f r k j e
theorem qfb_trans {i : Int} {h1 h2 h3 : QM} (a : qfb i h1 h2) (b : qfb i h2 h3) : qfb i h1 h3 := fun r k j e e2 => by rw [b r k j e e2, a r k j e e2]
/-- no more than the sets of one hall and the maker's own -/
def qfk (x : Int) (h h' : QM) : Prop := ∀ r k j, ¬ (r = 5 ∨ r = 27 ∨ (r = 2 ∧ k = x) ∨ ((r = 8 ∨ r = 30 ∨ r = 31 ∨ r = 32) ∧ 6 * x ≤ k ∧ k < 6 * x + 6)) → h' r k j = h r k j
theorem qfk_refl (x : Int) (h : QM) : qfk x h h := fun _ _ _ _ => rfl
theorem qfk_trans {x : Int} {h1 h2 h3 : QM} (a : qfk x h1 h2) (b : qfk x h2 h3) : qfk x h1 h3 := fun r k j e => by rw [b r k j e, a r k j e]
theorem qfk_b {x : Int} {i : Nat} {h h' : QM} (f : qfb (6 * x + i) h h') (hi : i < 6) : qfk x h h' := fun r k j e => f r k j (by omega) (by omega)
theorem qfk_5 {x : Int} {h : QM} {j v : Int} : qfk x h (qu h 5 0 j v) := fun r' i' j' q => qu_ne (by omega)
theorem qlp_k {x : Int} {h h' : QM} {tb : Nat → Int} {n i t : Nat} (p : qlp h tb n i t) (f : qfk x h h') : qlp h' tb n i t := qlp_fx p (fun r c hr => f r i c (by omega))
section QP2
variable {l : Launch} {g : QG} {d : Nat} {h : QM} {Q : Int → QM → Prop} {n : Nat} {tb : Nat → Int} {x : Int} {H : Nat → QZ}
theorem s_faultAt {f p : Int} (hL : qhL g) (k : Q f (qu h 5 0 1 p)) : q_tr l g (d + 1) n_X5_faultAt [qr 5 0, qi f, qi p] h Q :=
  i_X5_faultAt hL (fun G hG _ _ => b_X5_faultAt_0 hG k)
theorem s_ownerOf {i t : Nat} {z : Int} (hL : qhL g) (hi : i < 6) (L : ∀ j, j < i → qlp h tb n j (qst (qK tb n) j)) (K1 : ∀ j, j < i → qK tb n (qst (qK tb n) j + 1) = 1) (Kt : qK tb n t = 1) (hz : z = q_w64 (qNU tb n t : Nat)) (k0 : qown (qNU tb n) (qK tb n) i t = i → Q (-1) h) (k1 : qown (qNU tb n) (qK tb n) i t < i → Q (qown (qNU tb n) (qK tb n) i t : Nat) h) : q_tr l g (d + 1) n_X5_ownerOf [ql z, qr 28 0, qi (i : Int)] h Q := by
  rw [hz]
  refine i_X5_ownerOf hL (fun G hG _ _ => b_X5_ownerOf_0 hG ?_)
  have key : ∀ j, j ≤ i → (∀ j', j' < j → qNU tb n (qst (qK tb n) j' + 1) ≠ qNU tb n t) → G 3 [some (ql (q_w64 (qNU tb n t : Nat))), none, some (qr 28 0), some (qi (i : Int)), some (qi (j : Int))] [] h := by
    refine q_up (fun j hj ih hI => b_X5_ownerOf_3 hG ⟨fun q => k0 (qown_no (fun j' hj' => hI j' (by omega))), fun q => ⟨by omega, by omega, ?_⟩⟩)
    have hj6 : j < i := by omega
    have Lj := (L j hj6).2.2.2.2.1 0 (by have := qdue_bd (qK tb n (qst (qK tb n) j) - 20); omega)
    have e := Lj.1
    rw [show ((0 : Nat) : Int) = 0 from rfl, Nat.add_zero] at e
    rw [e, q_lc0, q_w64_eq (qNU_bd (K1 j hj6)) (qNU_bd Kt)]
    refine ⟨fun q2 => ⟨by omega, ih hj6 (fun j' hj' => ?_)⟩, fun q2 => ?_⟩
    · by_cases c : j' = j
      · rw [c]; exact q2
      · exact hI j' (by omega)
    · have e2 := qown_is (N := qNU tb n) (K := qK tb n) (t := t) hj6 hI q2
      have := k1 (by rw [e2]; exact hj6)
      rw [e2] at this; exact this
  exact key 0 (Nat.zero_le _) (fun j' hj' => absurd hj' (Nat.not_lt_zero _))
theorem s_right0 {v : Int} (hL : qhL g) (A : QZ) (k : Q (qb (qright 0 A v)) h) : q_tr l g (d + 1) n_X5_isRight [qi 1, qi v, qn] h Q := by
  have e : qright 0 A v = decide (1 ≤ v ∧ v ≤ 15) := rfl
  rw [e] at k
  refine i_X5_isRight_n hL (fun G hG _ _ => b_X5_isRight_n_0 hG ⟨fun q => by omega, fun q => ⟨fun q2 => ⟨Or.inl rfl, q_qe k (by rw [decide_eq_false (by omega)]; rfl)⟩, fun q2 => ⟨fun q3 => ⟨Or.inl rfl, q_qe k (by rw [decide_eq_false (by omega)]; rfl)⟩, fun q3 => ⟨Or.inr rfl, q_qe k (by rw [decide_eq_true (by omega)]; rfl)⟩⟩⟩, fun q => by omega, fun q => by omega, fun q => by omega, fun q => by omega, fun q => by omega, fun q => by omega, trivial⟩)
theorem s_right1 {w : Nat} {v a : Int} {A : QZ} (hL : qhL g) (hw : 1 ≤ w) (hw6 : w ≤ 6) (V : QV2 A) (R : qat h a A) (k : Q (qb (qright w A v)) h) : q_tr l g (d + 4) n_X5_isRight [qi ((w : Int) + 1), qi v, qr 8 a] h Q := by
  refine i_X5_isRight hL (fun G hG _ _ => b_X5_isRight_0 hG ⟨fun q => by omega, fun q => by omega, fun q => ⟨Or.inr rfl, q_qe k ?_⟩, fun q => ⟨Or.inr rfl, q_qe k ?_⟩, fun q => ⟨Or.inr rfl, q_qe k ?_⟩, fun q => ?_, fun q => ?_, fun q => ?_, trivial⟩)
  · unfold qright; rw [if_neg (by omega), if_neg (by omega), if_neg (by omega), if_neg (by omega)]; rfl
  · unfold qright; rw [if_neg (by omega), if_neg (by omega), if_neg (by omega), if_neg (by omega)]; rfl
  · unfold qright; rw [if_neg (by omega), if_neg (by omega), if_neg (by omega), if_neg (by omega)]; rfl
  · have e : qright w A v = decide (1 ≤ v ∧ v ≤ 9) := by unfold qright; rw [if_neg (by omega), if_pos (by omega)]
    rw [e] at k
    exact ⟨fun q2 => ⟨Or.inl rfl, q_qe k (by rw [decide_eq_false (by omega)]; rfl)⟩, fun q2 => ⟨fun q3 => ⟨Or.inl rfl, q_qe k (by rw [decide_eq_false (by omega)]; rfl)⟩, fun q3 => ⟨Or.inr rfl, q_qe k (by rw [decide_eq_true (by omega)]; rfl)⟩⟩⟩
  · have e : qright w A v = qin (qspc A) v := by unfold qright; rw [if_neg (by omega), if_neg (by omega), if_pos (by omega)]
    rw [e] at k
    exact s_isSpecial hL V R ⟨fun q2 => ⟨Or.inl rfl, q_qe k (by rw [qb_0.mp q2]; rfl)⟩, fun q2 => ⟨Or.inr rfl, q_qe k (by rw [qb_n0.mp q2]; rfl)⟩⟩
  · have e : qright w A v = qin (qgen A) v := by unfold qright; rw [if_neg (by omega), if_neg (by omega), if_neg (by omega), if_pos (by omega)]
    rw [e] at k
    exact s_isGen hL V R ⟨fun q2 => ⟨Or.inl rfl, q_qe k (by rw [qb_0.mp q2]; rfl)⟩, fun q2 => ⟨Or.inr rfl, q_qe k (by rw [qb_n0.mp q2]; rfl)⟩⟩
/-- the GENERATORS of two sets, one after the other -/
def qgab (A B : QZ) : Nat → Int := fun k => if k < qgc A then (qgk A k : Int) else (qgk B (k - qgc A) : Int)
theorem qgab_ok {A B : QZ} (VA : QV1 A) (VB : QV1 B) : qspr (qrt (qgab A B) (qgc A + qgc B)) = qplus A B := by
  refine qplus_is VA VB (fun s hs => ?_) (fun s hs => qrt_iff.mpr ?_) (fun s hs => qrt_iff.mpr ?_)
  · obtain ⟨k, k1, k2⟩ := qrt_iff.mp hs
    unfold qgab at k2
    by_cases c : k < qgc A
    · rw [if_pos c] at k2
      left
      rw [show s = qgk A k by omega]; exact (qgen_in (qgk_ok c).1).2
    · rw [if_neg c] at k2
      right
      rw [show s = qgk B (k - qgc A) by omega]; exact (qgen_in (qgk_ok (by omega)).1).2
  · obtain ⟨w1, w2⟩ := qgk_of hs (qgen_lt VA hs)
    refine ⟨_, Nat.lt_of_lt_of_le w1 (Nat.le_add_right _ _), ?_⟩
    unfold qgab
    rw [if_pos w1, w2]
  · obtain ⟨w1, w2⟩ := qgk_of hs (qgen_lt VB hs)
    refine ⟨qgc A + qc (qgen B) s, by omega, ?_⟩
    unfold qgab
    rw [if_neg (by omega), Nat.add_sub_cancel_left, w2]
theorem s_gather {a b : Int} {A B : QZ} (hL : qhL g) (VA : QV2 A) (RA : qat h a A) (VB : QV2 B) (RB : qat h b B) (k : ∀ h', (∀ r i j, r ≠ 27 → h' r i j = h r i j) → (∀ kk : Nat, kk < qgc A + qgc B → h' 27 0 kk = qgab A B kk) → Q ((qgc A + qgc B : Nat) : Int) h') : q_tr l g (d + 1) n_X5_gatherSteps [qr 5 0, qr 8 a, qr 8 b] h Q := by
  refine i_X5_gatherSteps hL (fun G hG _ _ => b_X5_gatherSteps_0 hG ?_)
  have ea : h 8 a 4 = qgc A := RA.2.2.2.2.1
  have eb : h 8 b 4 = qgc B := RB.2.2.2.2.1
  have ha : qgc A ≤ 24 := VA.2
  have hb : qgc B ≤ 24 := VB.2
  rw [qcpy_o (by decide), qcpy_o (by decide), qcpy_o (by decide), qcpy_o (by decide), qcpy_o (by decide), qcpy_o (by decide), ea, eb]
  refine ⟨by omega, by omega, by omega, ?_⟩
  rw [show (qgc A : Int) + (qgc B : Int) = ((qgc A + qgc B : Nat) : Int) by omega]
  refine k _ (fun r i j hr => by rw [qcpy_o hr, qcpy_o hr]) (fun kk hk => ?_)
  unfold qgab
  by_cases c : kk < qgc A
  · rw [if_pos c]
    unfold q_cpy
    rw [if_neg (by omega), if_pos ⟨rfl, rfl, by omega, by omega⟩, show (0 : Int) + ((kk : Int) - 0) = kk by omega]
    exact qat_gk RA c
  · rw [if_neg c]
    unfold q_cpy
    rw [if_pos ⟨rfl, rfl, by omega, by omega⟩, if_neg (by omega), show (0 : Int) + ((kk : Int) - (qgc A : Int)) = ((kk - qgc A : Nat) : Int) by omega]
    exact qat_gk RB (by omega)
/-- out of INTS -/
theorem s_build0 {i b : Nat} {s : Int} {a : Nat → Int} {A B : QZ} (hL : qhL g) (hw : h 4 i 4 = 1) (hb : h 4 i 6 = b) (hb10 : b ≤ 10) (ha : ∀ j : Nat, j < b → h 25 i j = a j) (hr : ∀ j, j < b → qright 0 A (a j) = true) (k : ∀ h', qfb s h h' → (qacc (qres 0 A B a b) = true → qat h' s (qres 0 A B a b)) → Q (qb (qacc (qres 0 A B a b))) h') : q_tr l g (d + 4) n_X5_build [qr 5 0, qr 4 i, qr 8 s, qn, qn] h Q := by
  refine i_X5_build_n_n hL (fun G hG _ _ => b_X5_build_n_n_0 hG ⟨fun q => absurd hw q, fun _ => ?_⟩)
  rw [hb]
  refine s_sums_25 (a := a) hL hb10 (fun j hj => ?_) (fun h' f q => ⟨qb_01 _, k h' (qfb_8 f) q⟩)
  have e : qright 0 A (a j) = decide (1 ≤ a j ∧ a j ≤ 15) := rfl
  have := hr j hj
  rw [e] at this
  have := of_decide_eq_true this
  exact ⟨ha j hj, by omega, by omega⟩
theorem s_build1 {i w b : Nat} {s c : Int} {a : Nat → Int} {A B : QZ} (hL : qhL g) (hw : h 4 i 4 = (w : Int) + 1) (hw3 : 3 ≤ w) (hw6 : w ≤ 6) (V : QV2 A) (R : qat h c A) (hcs : c ≠ s) (hmin : qimin w ≤ b) (ha : ∀ j : Nat, j < b → h 25 i j = a j) (hr : ∀ j, j < b → qright w A (a j) = true) (k : ∀ h', qfb s h h' → (qacc (qres w A B a b) = true → qat h' s (qres w A B a b)) → Q (qb (qacc (qres w A B a b))) h') : q_tr l g (d + 5) n_X5_build [qr 5 0, qr 4 i, qr 8 s, qr 8 c, qn] h Q := by
  refine i_X5_build_n hL (fun G hG _ _ => b_X5_build_n_0 hG ?_)
  rw [hw]
  refine ⟨fun q => ⟨fun q2 => ?_, fun q2 => by omega, fun q2 => by omega, fun q2 => ?_, fun q2 => ?_, trivial⟩, fun q => by omega⟩
  · -- add, drop
    have hb : 1 ≤ b := by
      have : qimin w = 1 := by unfold qimin; rw [if_pos (by omega)]
      omega
    have e : qres w A B a b = qflip A (a 0).toNat := by unfold qres; rw [if_neg (by omega), if_neg (by omega), if_neg (by omega), if_neg (by omega), if_neg (by omega)]
    rw [e] at k
    have h0 := hr 0 (by omega)
    have Z : 0 ≤ a 0 ∧ 1 ≤ (a 0).toNat ∧ (a 0).toNat < 400 ∧ QV0 (qflip A (a 0).toNat) := by
      unfold qright at h0
      rw [if_neg (by omega), if_neg (by omega)] at h0
      by_cases c5 : w = 5
      · rw [if_pos c5] at h0
        have hp : 0 ≤ a 0 := by
          rcases Int.lt_or_le (a 0) 0 with z | z
          · rw [qin_neg z] at h0; cases h0
          · exact z
        rw [qin_pos hp] at h0
        obtain ⟨z1, z2, z3, z4⟩ := qspc_v0 V.1 h0
        exact ⟨hp, z2, by omega, z4⟩
      · rw [if_neg c5, if_pos (by omega)] at h0
        have hp : 0 ≤ a 0 := by
          rcases Int.lt_or_le (a 0) 0 with z | z
          · rw [qin_neg z] at h0; cases h0
          · exact z
        rw [qin_pos hp] at h0
        obtain ⟨z1, z2, z3, z4⟩ := qgen_v0 V.1 h0
        exact ⟨hp, z2, z3, z4⟩
    obtain ⟨z1, z2, z3, z4⟩ := Z
    refine s_copy hL V R hcs (fun h1 f1 R1 => ⟨by omega, ?_⟩)
    rw [f1 25 i 0 (by omega)]
    have ea := ha 0 (by omega)
    rw [show ((0 : Nat) : Int) = 0 from rfl] at ea
    rw [ea]
    generalize hx : (a 0).toNat = y at *
    rw [show a 0 = (y : Int) by omega]
    refine s_flip hL V R1 ⟨z2, z3⟩ z4 (fun h2 f2 q => ⟨qb_01 _, k h2 (qfb_8 (qf8_trans f1 f2)) (fun q3 => ?_)⟩)
    rw [if_pos q3] at q; exact q
  · have e : qres w A B a b = qarf A := by unfold qres; rw [if_neg (by omega), if_neg (by omega), if_neg (by omega), if_pos (by omega)]
    rw [e] at k
    exact s_arf hL V R hcs (fun h1 f1 q => ⟨qb_01 _, k h1 (qfb_8 f1) q⟩)
  · have hw4 : w = 4 := by omega
    subst hw4
    have hb : 1 ≤ b := hmin
    have e : qres 4 A B a b = qpart A (a 0).toNat := rfl
    rw [e] at k
    have h0 := hr 0 (by omega)
    have e0 : qright 4 A (a 0) = decide (1 ≤ a 0 ∧ a 0 ≤ 9) := rfl
    rw [e0] at h0
    have h0 := of_decide_eq_true h0
    have ea := ha 0 (by omega)
    rw [show ((0 : Nat) : Int) = 0 from rfl] at ea
    rw [ea]
    refine ⟨by omega, ?_⟩
    generalize hx : (a 0).toNat = y at *
    rw [show a 0 = (y : Int) by omega]
    exact s_part hL V.1 R hcs ⟨by omega, by omega⟩ (fun h1 f1 q => ⟨qb_01 _, k h1 (qfb_8 f1) q⟩)
theorem s_build2 {i w b : Nat} {s c e : Int} {a : Nat → Int} {A B : QZ} (hL : qhL g) (hw : h 4 i 4 = (w : Int) + 1) (hw2 : w = 1 ∨ w = 2) (V : QV2 A) (R : qat h c A) (hcs : c ≠ s) (W : QV2 B) (R2 : qat h e B) (hes : e ≠ s) (k : ∀ h', qfb s h h' → (qacc (qres w A B a b) = true → qat h' s (qres w A B a b)) → Q (qb (qacc (qres w A B a b))) h') : q_tr l g (d + 4) n_X5_build [qr 5 0, qr 4 i, qr 8 s, qr 8 c, qr 8 e] h Q := by
  refine i_X5_build hL (fun G hG _ _ => b_X5_build_0 hG ?_)
  rw [hw]
  refine ⟨fun q => ⟨fun q2 => by omega, fun q2 => ?_, fun q2 => ?_, fun q2 => by omega, fun q2 => by omega, trivial⟩, fun q => by omega⟩
  · have hw1 : w = 1 := by omega
    subst hw1
    have e1 : qres 1 A B a b = qspr (qrt (qgab A B) (qgc A + qgc B)) := (qgab_ok V.1 W.1).symm
    rw [e1] at k
    have h1 : qgc A ≤ 24 := V.2
    have h2 : qgc B ≤ 24 := W.2
    refine s_gather hL V R W R2 (fun h1 f1 g1 => s_sums_27 (a := qgab A B) hL (by omega) (fun j hj => ⟨g1 j hj, ?_⟩) (fun h2 f2 q => ?_))
    · unfold qgab
      by_cases c : j < qgc A
      · rw [if_pos c]
        have := qgk_pos j c
        have := qgk_bd j c
        omega
      · rw [if_neg c]
        have := qgk_pos (S := B) (j - qgc A) (by omega)
        have := qgk_bd (S := B) (j - qgc A) (by omega)
        omega
    · have kk := k h2 (qfb_trans (fun r k j e _ => f1 r k j e) (qfb_8 f2)) q
      exact ⟨fun q3 => ⟨Or.inl rfl, q_qe kk (by rw [qb_0.mp q3]; rfl)⟩, fun q3 => ⟨Or.inr rfl, q_qe kk (by rw [qb_n0.mp q3]; rfl)⟩⟩
  · have hw1 : w = 2 := by omega
    subst hw1
    have e1 : qres 2 A B a b = qmeet A B := rfl
    rw [e1] at k
    refine s_meet hL V.1 R W.1 R2 hcs hes (fun h2 f2 q => ?_)
    have kk := k h2 (qfb_8 f2) q
    exact ⟨fun q3 => ⟨Or.inl rfl, q_qe kk (by rw [qb_0.mp q3]; rfl)⟩, fun q3 => ⟨Or.inr rfl, q_qe kk (by rw [qb_n0.mp q3]; rfl)⟩⟩
end QP2
