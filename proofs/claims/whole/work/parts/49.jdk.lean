/-! rows of bits -/
noncomputable def qdc (p : Prop) : Bool := @decide p (Classical.propDecidable p)
theorem qdc_t {p : Prop} : qdc p = true ↔ p := by unfold qdc; exact @decide_eq_true_iff p (Classical.propDecidable p)
theorem qdc_f {p : Prop} : qdc p = false ↔ ¬ p := by unfold qdc; exact @decide_eq_false_iff_not p (Classical.propDecidable p)
/-- a whole number as a row of bits -/
def qbs (x : Int) (p : Nat → Bool) : Prop := q_i32 x ∧ ∀ k, k < 32 → qbt x k = p k
theorem qbs_0 : qbs 0 (fun _ => false) := ⟨by unfold q_i32; omega, fun k _ => qbt_0 k⟩
theorem qbs_cong {x : Int} {p q : Nat → Bool} (a : qbs x p) (e : ∀ k, k < 32 → p k = q k) : qbs x q := ⟨a.1, fun k hk => by rw [a.2 k hk, e k hk]⟩
theorem qbs_or {x y : Int} {p q : Nat → Bool} (a : qbs x p) (b : qbs y q) : qbs (q_or x y) (fun k => p k || q k) := ⟨q_or_i _ _, fun k hk => by rw [qbt_or hk, a.2 k hk, b.2 k hk]⟩
theorem qbs_and {x y : Int} {p q : Nat → Bool} (a : qbs x p) (b : qbs y q) : qbs (q_and x y) (fun k => p k && q k) := ⟨q_and_i _ _, fun k hk => by rw [qbt_and hk, a.2 k hk, b.2 k hk]⟩
theorem qbs_not {x : Int} {p : Nat → Bool} (a : qbs x p) : qbs (q_xor x (-1)) (fun k => !p k) := ⟨q_xor_i _ _, fun k hk => by rw [qbt_xor hk, a.2 k hk, qbt_neg1]; show _ = !p k; cases p k <;> rfl⟩
theorem qbs_one {s : Nat} (hs : s < 32) : qbs (q_shl 1 s) (fun k => k == s) := ⟨q_shl_i _ _, fun k hk => by
  rw [qbt_shl hs hk, qbt_1]
  by_cases e : k = s
  · rw [e]; simp
  · by_cases e2 : s ≤ k
    · rw [decide_eq_false (show ¬ (k - s = 0) by omega)]; simp [e]
    · rw [decide_eq_false e2]; simp [e]⟩
theorem qbs_set {x : Int} {p : Nat → Bool} (a : qbs x p) {s : Nat} (hs : s < 32) : qbs (q_or x (q_shl 1 s)) (fun k => p k || k == s) := qbs_or a (qbs_one hs)
theorem qbs_bit {x : Int} {p : Nat → Bool} (a : qbs x p) {s : Nat} (hs : s < 32) : q_and (q_shr x s) 1 = qb (p s) := by rw [q_bit hs, a.2 s hs]
theorem qbs_eq {x y : Int} {p : Nat → Bool} (a : qbs x p) (b : qbs y p) : x = y := qbt_ext a.1 b.1 (fun k hk => by rw [a.2 k hk, b.2 k hk])
theorem qbs_z {x : Int} {p : Nat → Bool} (a : qbs x p) : x = 0 ↔ ∀ k, k < 32 → p k = false := by
  constructor
  · intro h k hk
    rw [← a.2 k hk, h, qbt_0]
  · intro h
    exact qbs_eq a (qbs_cong qbs_0 (fun k hk => (h k hk).symm))
/-- the low part does not touch the high one -/
theorem qbt_lo (a : Int) {b : Int} {t k : Nat} (h0 : 0 ≤ b) (h1 : b < 2 ^ t) : qbt (a * 2 ^ t + b) k = if k < t then qbt b k else qbt a (k - t) := by
  by_cases c : k < t
  · rw [if_pos c, ← qbt_mod _ c, ← qbt_mod b c]
    congr 1
    rw [Int.add_comm, Int.add_mul_emod_self_right]
  · rw [if_neg c]
    have := qbt_shift (a * 2 ^ t + b) t (k - t)
    rw [show t + (k - t) = k by omega] at this
    rw [← this, Int.add_comm, Int.add_mul_ediv_right _ _ (Int.ne_of_gt (qp2 t)), Int.ediv_eq_zero_of_lt h0 h1, Int.zero_add]
theorem qbt_ones {t k : Nat} : qbt (2 ^ t - 1) k = decide (k < t) := by
  have h4 := Nat.one_le_two_pow (n := t)
  have e : (2 : Int) ^ t - 1 = ((2 ^ t - 1 : Nat) : Int) := by
    have h5 : ((2 ^ t : Nat) : Int) = 2 ^ t := by rw [Int.natCast_pow]; rfl
    rw [← h5]
    generalize 2 ^ t = m at *
    omega
  rw [e, qbt_nat, Nat.testBit_two_pow_sub_one]
/-- no bit below t: it is a multiple -/
theorem qbt_low0 {x : Int} : ∀ {t : Nat}, (∀ k, k < t → qbt x k = false) → x % 2 ^ t = 0
  | 0, _ => by rw [Int.pow_zero]; exact Int.emod_one x
  | t + 1, h => by
    have ih := qbt_low0 (t := t) (fun k hk => h k (by omega))
    have h1 := h t (by omega)
    unfold qbt at h1
    have h2 := of_decide_eq_false h1
    have h3 := Int.emod_two_eq (x / 2 ^ t)
    have h4 : x = 2 ^ t * (x / 2 ^ t) := by have := Int.mul_ediv_add_emod x (2 ^ t); omega
    have h5 : x / 2 ^ t = 2 * (x / 2 ^ t / 2) := by omega
    rw [h4, h5, Int.pow_succ, ← Int.mul_assoc]
    exact Int.mul_emod_right _ _
/-- the lowest bit -/
theorem q_tz {x : Int} {t : Nat} (hx : 0 < x) (hx2 : x < 2147483648) (ht : t < 31) (h1 : qbt x t = true) (h0 : ∀ k, k < t → qbt x k = false) : q_and (q_xor x (-1)) (x - 1) = 2 ^ t - 1 := by
  have hp := qp2 t
  have hle : (2 : Int) ^ t ≤ 2 ^ 30 := by
    have := Nat.pow_le_pow_right (show 0 < 2 by omega) (show t ≤ 30 by omega)
    exact_mod_cast this
  have h30 : (2 : Int) ^ 30 = 1073741824 := by decide
  refine qbt_ext (q_and_i _ _) (by unfold q_i32; omega) (fun k hk => ?_)
  rw [qbt_and hk, qbt_xor hk, qbt_neg1, qbt_ones]
  have hm := qbt_low0 h0
  have e1 : x = x / 2 ^ t * 2 ^ t + 0 := by have := Int.mul_ediv_add_emod x (2 ^ t); rw [Int.mul_comm] at this; omega
  have hodd : x / 2 ^ t % 2 = 1 := of_decide_eq_true h1
  have e2 : x - 1 = (x / 2 ^ t - 1) * 2 ^ t + (2 ^ t - 1) := by rw [Int.sub_mul, Int.one_mul]; omega
  rw [e2, qbt_lo _ (by omega) (by omega), qbt_ones]
  by_cases c : k < t
  · rw [if_pos c, h0 k c]; simp [c]
  · rw [if_neg c]
    have e3 : qbt x k = qbt (x / 2 ^ t) (k - t) := by
      have := qbt_shift x t (k - t)
      rw [show t + (k - t) = k by omega] at this
      exact this.symm
    rw [e3]
    by_cases c2 : k = t
    · subst c2
      rw [Nat.sub_self]
      unfold qbt
      rw [Int.pow_zero, Int.ediv_one, hodd]; simp
    · have e4 : qbt (x / 2 ^ t - 1) (k - t) = qbt (x / 2 ^ t) (k - t) := by
        have a1 : x / 2 ^ t = (x / 2 ^ t / 2) * 2 ^ 1 + 1 := by omega
        have a2 : x / 2 ^ t - 1 = (x / 2 ^ t / 2) * 2 ^ 1 + 0 := by omega
        rw [a2]
        conv => rhs; rw [a1]
        rw [qbt_lo _ (by omega) (by omega), qbt_lo _ (by omega) (by omega), if_neg (by omega), if_neg (by omega)]
      rw [e4]
      cases qbt (x / 2 ^ t) (k - t) <;> simp [c]
theorem q_ushr_ones {u s : Nat} (hu : u < 31) (hs : s ≤ u) (hs2 : s < 32) : q_ushr (2 ^ u - 1) s = 2 ^ (u - s) - 1 := by
  have hle : (2 : Int) ^ u ≤ 2 ^ 30 := by
    have := Nat.pow_le_pow_right (show 0 < 2 by omega) (show u ≤ 30 by omega)
    exact_mod_cast this
  have h30 : (2 : Int) ^ 30 = 1073741824 := by decide
  have hp := qp2 u
  have hps := qp2 s
  have hpu := qp2 (u - s)
  unfold q_ushr
  rw [show ((s : Int) % 32).toNat = s by omega, Int.emod_eq_of_lt (by omega) (by omega)]
  have e : (2 : Int) ^ u = 2 ^ (u - s) * 2 ^ s := by rw [← Int.pow_add, show u - s + s = u by omega]
  have e2 : (2 : Int) ^ u - 1 = (2 ^ s - 1) + (2 ^ (u - s) - 1) * 2 ^ s := by rw [Int.sub_mul, Int.one_mul, ← e]; omega
  rw [e2, Int.add_mul_ediv_right _ _ (by omega), Int.ediv_eq_zero_of_lt (by omega) (by omega), Int.zero_add]
  have : (2 : Int) ^ (u - s) ≤ 2 ^ u := by
    have := Nat.pow_le_pow_right (show 0 < 2 by omega) (show u - s ≤ u by omega)
    exact_mod_cast this
  exact q_w32_id (by unfold q_i32; omega)
section QJdk
variable {l : Launch} {g : QG} {d : Nat} {h : QM} {Q : Int → QM → Prop}
theorem q_bc_all : ∀ n : Nat, n < 256 → ((-2147483648 ≤ (n : Int) - (q_and (q_ushr (n : Int) 1) 1431655765) ∧ (n : Int) - (q_and (q_ushr (n : Int) 1) 1431655765) ≤ 2147483647) ∧ (-2147483648 ≤ (q_and ((n : Int) - (q_and (q_ushr (n : Int) 1) 1431655765)) 858993459) + (q_and (q_ushr ((n : Int) - (q_and (q_ushr (n : Int) 1) 1431655765)) 2) 858993459) ∧ (q_and ((n : Int) - (q_and (q_ushr (n : Int) 1) 1431655765)) 858993459) + (q_and (q_ushr ((n : Int) - (q_and (q_ushr (n : Int) 1) 1431655765)) 2) 858993459) ≤ 2147483647) ∧ (-2147483648 ≤ ((q_and ((n : Int) - (q_and (q_ushr (n : Int) 1) 1431655765)) 858993459) + (q_and (q_ushr ((n : Int) - (q_and (q_ushr (n : Int) 1) 1431655765)) 2) 858993459)) + (q_ushr ((q_and ((n : Int) - (q_and (q_ushr (n : Int) 1) 1431655765)) 858993459) + (q_and (q_ushr ((n : Int) - (q_and (q_ushr (n : Int) 1) 1431655765)) 2) 858993459)) 4) ∧ ((q_and ((n : Int) - (q_and (q_ushr (n : Int) 1) 1431655765)) 858993459) + (q_and (q_ushr ((n : Int) - (q_and (q_ushr (n : Int) 1) 1431655765)) 2) 858993459)) + (q_ushr ((q_and ((n : Int) - (q_and (q_ushr (n : Int) 1) 1431655765)) 858993459) + (q_and (q_ushr ((n : Int) - (q_and (q_ushr (n : Int) 1) 1431655765)) 2) 858993459)) 4) ≤ 2147483647) ∧ (-2147483648 ≤ (q_and (((q_and ((n : Int) - (q_and (q_ushr (n : Int) 1) 1431655765)) 858993459) + (q_and (q_ushr ((n : Int) - (q_and (q_ushr (n : Int) 1) 1431655765)) 2) 858993459)) + (q_ushr ((q_and ((n : Int) - (q_and (q_ushr (n : Int) 1) 1431655765)) 858993459) + (q_and (q_ushr ((n : Int) - (q_and (q_ushr (n : Int) 1) 1431655765)) 2) 858993459)) 4)) 252645135) + (q_ushr (q_and (((q_and ((n : Int) - (q_and (q_ushr (n : Int) 1) 1431655765)) 858993459) + (q_and (q_ushr ((n : Int) - (q_and (q_ushr (n : Int) 1) 1431655765)) 2) 858993459)) + (q_ushr ((q_and ((n : Int) - (q_and (q_ushr (n : Int) 1) 1431655765)) 858993459) + (q_and (q_ushr ((n : Int) - (q_and (q_ushr (n : Int) 1) 1431655765)) 2) 858993459)) 4)) 252645135) 8) ∧ (q_and (((q_and ((n : Int) - (q_and (q_ushr (n : Int) 1) 1431655765)) 858993459) + (q_and (q_ushr ((n : Int) - (q_and (q_ushr (n : Int) 1) 1431655765)) 2) 858993459)) + (q_ushr ((q_and ((n : Int) - (q_and (q_ushr (n : Int) 1) 1431655765)) 858993459) + (q_and (q_ushr ((n : Int) - (q_and (q_ushr (n : Int) 1) 1431655765)) 2) 858993459)) 4)) 252645135) + (q_ushr (q_and (((q_and ((n : Int) - (q_and (q_ushr (n : Int) 1) 1431655765)) 858993459) + (q_and (q_ushr ((n : Int) - (q_and (q_ushr (n : Int) 1) 1431655765)) 2) 858993459)) + (q_ushr ((q_and ((n : Int) - (q_and (q_ushr (n : Int) 1) 1431655765)) 858993459) + (q_and (q_ushr ((n : Int) - (q_and (q_ushr (n : Int) 1) 1431655765)) 2) 858993459)) 4)) 252645135) 8) ≤ 2147483647) ∧ (-2147483648 ≤ ((q_and (((q_and ((n : Int) - (q_and (q_ushr (n : Int) 1) 1431655765)) 858993459) + (q_and (q_ushr ((n : Int) - (q_and (q_ushr (n : Int) 1) 1431655765)) 2) 858993459)) + (q_ushr ((q_and ((n : Int) - (q_and (q_ushr (n : Int) 1) 1431655765)) 858993459) + (q_and (q_ushr ((n : Int) - (q_and (q_ushr (n : Int) 1) 1431655765)) 2) 858993459)) 4)) 252645135) + (q_ushr (q_and (((q_and ((n : Int) - (q_and (q_ushr (n : Int) 1) 1431655765)) 858993459) + (q_and (q_ushr ((n : Int) - (q_and (q_ushr (n : Int) 1) 1431655765)) 2) 858993459)) + (q_ushr ((q_and ((n : Int) - (q_and (q_ushr (n : Int) 1) 1431655765)) 858993459) + (q_and (q_ushr ((n : Int) - (q_and (q_ushr (n : Int) 1) 1431655765)) 2) 858993459)) 4)) 252645135) 8)) + (q_ushr ((q_and (((q_and ((n : Int) - (q_and (q_ushr (n : Int) 1) 1431655765)) 858993459) + (q_and (q_ushr ((n : Int) - (q_and (q_ushr (n : Int) 1) 1431655765)) 2) 858993459)) + (q_ushr ((q_and ((n : Int) - (q_and (q_ushr (n : Int) 1) 1431655765)) 858993459) + (q_and (q_ushr ((n : Int) - (q_and (q_ushr (n : Int) 1) 1431655765)) 2) 858993459)) 4)) 252645135) + (q_ushr (q_and (((q_and ((n : Int) - (q_and (q_ushr (n : Int) 1) 1431655765)) 858993459) + (q_and (q_ushr ((n : Int) - (q_and (q_ushr (n : Int) 1) 1431655765)) 2) 858993459)) + (q_ushr ((q_and ((n : Int) - (q_and (q_ushr (n : Int) 1) 1431655765)) 858993459) + (q_and (q_ushr ((n : Int) - (q_and (q_ushr (n : Int) 1) 1431655765)) 2) 858993459)) 4)) 252645135) 8)) 16) ∧ ((q_and (((q_and ((n : Int) - (q_and (q_ushr (n : Int) 1) 1431655765)) 858993459) + (q_and (q_ushr ((n : Int) - (q_and (q_ushr (n : Int) 1) 1431655765)) 2) 858993459)) + (q_ushr ((q_and ((n : Int) - (q_and (q_ushr (n : Int) 1) 1431655765)) 858993459) + (q_and (q_ushr ((n : Int) - (q_and (q_ushr (n : Int) 1) 1431655765)) 2) 858993459)) 4)) 252645135) + (q_ushr (q_and (((q_and ((n : Int) - (q_and (q_ushr (n : Int) 1) 1431655765)) 858993459) + (q_and (q_ushr ((n : Int) - (q_and (q_ushr (n : Int) 1) 1431655765)) 2) 858993459)) + (q_ushr ((q_and ((n : Int) - (q_and (q_ushr (n : Int) 1) 1431655765)) 858993459) + (q_and (q_ushr ((n : Int) - (q_and (q_ushr (n : Int) 1) 1431655765)) 2) 858993459)) 4)) 252645135) 8)) + (q_ushr ((q_and (((q_and ((n : Int) - (q_and (q_ushr (n : Int) 1) 1431655765)) 858993459) + (q_and (q_ushr ((n : Int) - (q_and (q_ushr (n : Int) 1) 1431655765)) 2) 858993459)) + (q_ushr ((q_and ((n : Int) - (q_and (q_ushr (n : Int) 1) 1431655765)) 858993459) + (q_and (q_ushr ((n : Int) - (q_and (q_ushr (n : Int) 1) 1431655765)) 2) 858993459)) 4)) 252645135) + (q_ushr (q_and (((q_and ((n : Int) - (q_and (q_ushr (n : Int) 1) 1431655765)) 858993459) + (q_and (q_ushr ((n : Int) - (q_and (q_ushr (n : Int) 1) 1431655765)) 2) 858993459)) + (q_ushr ((q_and ((n : Int) - (q_and (q_ushr (n : Int) 1) 1431655765)) 858993459) + (q_and (q_ushr ((n : Int) - (q_and (q_ushr (n : Int) 1) 1431655765)) 2) 858993459)) 4)) 252645135) 8)) 16) ≤ 2147483647)) ∧ (q_and (((q_and (((q_and ((n : Int) - (q_and (q_ushr (n : Int) 1) 1431655765)) 858993459) + (q_and (q_ushr ((n : Int) - (q_and (q_ushr (n : Int) 1) 1431655765)) 2) 858993459)) + (q_ushr ((q_and ((n : Int) - (q_and (q_ushr (n : Int) 1) 1431655765)) 858993459) + (q_and (q_ushr ((n : Int) - (q_and (q_ushr (n : Int) 1) 1431655765)) 2) 858993459)) 4)) 252645135) + (q_ushr (q_and (((q_and ((n : Int) - (q_and (q_ushr (n : Int) 1) 1431655765)) 858993459) + (q_and (q_ushr ((n : Int) - (q_and (q_ushr (n : Int) 1) 1431655765)) 2) 858993459)) + (q_ushr ((q_and ((n : Int) - (q_and (q_ushr (n : Int) 1) 1431655765)) 858993459) + (q_and (q_ushr ((n : Int) - (q_and (q_ushr (n : Int) 1) 1431655765)) 2) 858993459)) 4)) 252645135) 8)) + (q_ushr ((q_and (((q_and ((n : Int) - (q_and (q_ushr (n : Int) 1) 1431655765)) 858993459) + (q_and (q_ushr ((n : Int) - (q_and (q_ushr (n : Int) 1) 1431655765)) 2) 858993459)) + (q_ushr ((q_and ((n : Int) - (q_and (q_ushr (n : Int) 1) 1431655765)) 858993459) + (q_and (q_ushr ((n : Int) - (q_and (q_ushr (n : Int) 1) 1431655765)) 2) 858993459)) 4)) 252645135) + (q_ushr (q_and (((q_and ((n : Int) - (q_and (q_ushr (n : Int) 1) 1431655765)) 858993459) + (q_and (q_ushr ((n : Int) - (q_and (q_ushr (n : Int) 1) 1431655765)) 2) 858993459)) + (q_ushr ((q_and ((n : Int) - (q_and (q_ushr (n : Int) 1) 1431655765)) 858993459) + (q_and (q_ushr ((n : Int) - (q_and (q_ushr (n : Int) 1) 1431655765)) 2) 858993459)) 4)) 252645135) 8)) 16)) 63) = (qc (fun k => Nat.testBit n k) 8 : Nat) := by decide +kernel
theorem s_bc {n : Nat} (hL : qhL g) (hn : n < 256) (k : Q (qc (fun k => Nat.testBit n k) 8 : Nat) h) : q_tr l g (d + 1) n_J6_bitCount_0f7a4 [qi n] h Q := by
  refine i_J6_bitCount_0f7a4 hL (fun G hG _ _ => b_J6_bitCount_0f7a4_0 hG ?_)
  obtain ⟨⟨a1, a2, a3, a4, a5⟩, e⟩ := q_bc_all n hn
  exact ⟨a1, a2, a3, a4, a5, q_qe k e⟩
theorem s_tz {x : Int} {t : Nat} (hL : qhL g) (hx : 0 < x) (hx2 : x < 2147483648) (ht : t < 31) (h1 : qbt x t = true) (h0 : ∀ k, k < t → qbt x k = false) (k : Q t h) : q_tr l g (d + 1) n_J6_numberOfTrailingZeros_0f7a4 [qi x] h Q := by
  refine i_J6_numberOfTrailingZeros_0f7a4 hL (fun G hG _ _ => b_J6_numberOfTrailingZeros_0f7a4_0 hG ?_)
  rw [q_tz hx hx2 ht h1 h0]
  have pow : ∀ u : Nat, 2 ^ (u + 1) = 2 * 2 ^ u := fun u => by rw [Nat.pow_succ, Nat.mul_comm]
  have c : ∀ u : Nat, ((2 : Int) ^ u) = ((2 ^ u : Nat) : Int) := fun u => by rw [Int.natCast_pow]; rfl
  have mono : ∀ u v : Nat, u ≤ v → (2 : Int) ^ u ≤ 2 ^ v := fun u v q => by
    have := Nat.pow_le_pow_right (show 0 < 2 by omega) q
    exact_mod_cast this
  have p30 : (2 : Int) ^ 30 = 1073741824 := by decide
  have p17 : (2 : Int) ^ 17 = 131072 := by decide
  have p16 : (2 : Int) ^ 16 = 65536 := by decide
  have p9 : (2 : Int) ^ 9 = 512 := by decide
  have p8 : (2 : Int) ^ 8 = 256 := by decide
  have p5 : (2 : Int) ^ 5 = 32 := by decide
  have p4 : (2 : Int) ^ 4 = 16 := by decide
  have p3 : (2 : Int) ^ 3 = 8 := by decide
  have p2 : (2 : Int) ^ 2 = 4 := by decide
  have p1 : (2 : Int) ^ 1 = 2 := by decide
  -- with u bits on and n counted
  have s74 : ∀ u n : Nat, u ≤ 2 → 1 ≤ u → n + u = t + 1 → G 74 [some (qi (2 ^ u - 1)), some (qi n)] [] h := fun u n hu hu1 e => by
    refine b_J6_numberOfTrailingZeros_0f7a4_74 hG ?_
    have eu := q_ushr_ones (u := u) (s := 1) (by omega) hu1 (by omega)
    rw [show ((1 : Nat) : Int) = 1 from rfl] at eu
    rw [eu]
    have : u = 1 ∨ u = 2 := by omega
    rcases this with q | q
    · subst q
      have z : (2 : Int) ^ (1 - 1) - 1 = 0 := by decide
      rw [z]
      exact ⟨by omega, q_qe k (by omega)⟩
    · subst q
      exact ⟨by omega, q_qe k (by omega)⟩
  have s62 : ∀ u n : Nat, u ≤ 4 → 1 ≤ u → n + u = t + 1 → G 62 [some (qi (2 ^ u - 1)), some (qi n)] [] h := fun u n hu hu1 e => by
    refine b_J6_numberOfTrailingZeros_0f7a4_62 hG ⟨fun q => s74 u n ?_ hu1 e, fun q => ⟨by omega, ?_⟩⟩
    · rcases Nat.lt_or_ge 2 u with w | w
      · have := mono 3 u w; omega
      · exact w
    · have hu2 : 3 ≤ u := by
        rcases Nat.lt_or_ge u 3 with w | w
        · have := mono u 2 (by omega); omega
        · exact w
      have eu := q_ushr_ones (u := u) (s := 2) (by omega) (by omega) (by omega)
      rw [show ((2 : Nat) : Int) = 2 from rfl] at eu
      rw [eu]
      exact s74 (u - 2) (n + 2) (by omega) (by omega) (by omega)
  have s49 : ∀ u n : Nat, u ≤ 8 → 1 ≤ u → n + u = t + 1 → G 49 [some (qi (2 ^ u - 1)), some (qi n)] [] h := fun u n hu hu1 e => by
    refine b_J6_numberOfTrailingZeros_0f7a4_49 hG ⟨fun q => s62 u n ?_ hu1 e, fun q => ⟨by omega, ?_⟩⟩
    · rcases Nat.lt_or_ge 4 u with w | w
      · have := mono 5 u w; omega
      · exact w
    · have hu2 : 5 ≤ u := by
        rcases Nat.lt_or_ge u 5 with w | w
        · have := mono u 4 (by omega); omega
        · exact w
      have eu := q_ushr_ones (u := u) (s := 4) (by omega) (by omega) (by omega)
      rw [show ((4 : Nat) : Int) = 4 from rfl] at eu
      rw [eu]
      exact s62 (u - 4) (n + 4) (by omega) (by omega) (by omega)
  have s34 : ∀ u n : Nat, u ≤ 16 → 1 ≤ u → n + u = t + 1 → G 34 [some (qi (2 ^ u - 1)), some (qi n)] [] h := fun u n hu hu1 e => by
    refine b_J6_numberOfTrailingZeros_0f7a4_34 hG ⟨fun q => s49 u n ?_ hu1 e, fun q => ⟨by omega, ?_⟩⟩
    · rcases Nat.lt_or_ge 8 u with w | w
      · have := mono 9 u w; omega
      · exact w
    · have hu2 : 9 ≤ u := by
        rcases Nat.lt_or_ge u 9 with w | w
        · have := mono u 8 (by omega); omega
        · exact w
      have eu := q_ushr_ones (u := u) (s := 8) (by omega) (by omega) (by omega)
      rw [show ((8 : Nat) : Int) = 8 from rfl] at eu
      rw [eu]
      exact s49 (u - 8) (n + 8) (by omega) (by omega) (by omega)
  have s19 : ∀ u n : Nat, u ≤ 30 → 1 ≤ u → n + u = t + 1 → G 19 [some (qi (2 ^ u - 1)), some (qi n)] [] h := fun u n hu hu1 e => by
    refine b_J6_numberOfTrailingZeros_0f7a4_19 hG ⟨fun q => s34 u n ?_ hu1 e, fun q => ⟨by omega, ?_⟩⟩
    · rcases Nat.lt_or_ge 16 u with w | w
      · have := mono 17 u w; omega
      · exact w
    · have hu2 : 17 ≤ u := by
        rcases Nat.lt_or_ge u 17 with w | w
        · have := mono u 16 (by omega); omega
        · exact w
      have eu := q_ushr_ones (u := u) (s := 16) (by omega) (by omega) (by omega)
      rw [show ((16 : Nat) : Int) = 16 from rfl] at eu
      rw [eu]
      exact s34 (u - 16) (n + 16) (by omega) (by omega) (by omega)
  have pt := qp2 t
  refine ⟨by omega, fun q => s19 t 1 (by omega) ?_ (by omega), fun q => q_qe k ?_⟩
  · rcases Nat.eq_zero_or_pos t with w | w
    · rw [w, Int.pow_zero] at q; omega
    · exact w
  · have w : t = 0 := by
      rcases Nat.eq_zero_or_pos t with w | w
      · exact w
      · have := mono 1 t w; omega
    rw [w, Int.pow_zero]; decide
end QJdk
