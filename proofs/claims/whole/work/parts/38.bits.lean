/-! bits of whole numbers -/
def qbt (x : Int) (k : Nat) : Bool := decide (x / 2 ^ k % 2 = 1)
theorem qp2 (k : Nat) : (0 : Int) < 2 ^ k := Int.pow_pos (by omega)
theorem qbt_nat (n k : Nat) : qbt (n : Int) k = n.testBit k := by
  unfold qbt
  rw [Nat.testBit_eq_decide_div_mod_eq]
  have e : (n : Int) / 2 ^ k % 2 = ((n / 2 ^ k % 2 : Nat) : Int) := by rw [Int.natCast_emod, Int.natCast_ediv, Int.natCast_pow]; rfl
  rw [e]
  exact decide_eq_decide.mpr (by omega)
theorem qbt_shift (x : Int) (s k : Nat) : qbt (x / 2 ^ s) k = qbt x (s + k) := by
  unfold qbt
  rw [Int.ediv_ediv_of_nonneg (Int.le_of_lt (qp2 s)), ← Int.pow_add]
theorem qbt_mul (x : Int) (s k : Nat) : qbt (x * 2 ^ s) k = (decide (s ≤ k) && qbt x (k - s)) := by
  by_cases h : s ≤ k
  · rw [decide_eq_true h, Bool.true_and]
    have := qbt_shift (x * 2 ^ s) s (k - s)
    rw [Int.mul_ediv_cancel _ (Int.ne_of_gt (qp2 s)), show s + (k - s) = k by omega] at this
    exact this.symm
  · rw [decide_eq_false h, Bool.false_and]
    unfold qbt
    have e : x * 2 ^ s = (x * 2 ^ (s - k - 1) * 2) * 2 ^ k := by
      rw [Int.mul_assoc, Int.mul_assoc, ← Int.mul_assoc (2 ^ (s - k - 1)) 2, ← Int.pow_succ, ← Int.pow_add, show s - k - 1 + 1 + k = s by omega]
    rw [e, Int.mul_ediv_cancel _ (Int.ne_of_gt (qp2 k)), Int.mul_emod_left]
    rfl
/-- what is a multiple of the length of the row of bits does not matter -/
theorem qbt_mod (x : Int) {w k : Nat} (h : k < w) : qbt (x % 2 ^ w) k = qbt x k := by
  unfold qbt
  have e : x % 2 ^ w = x + (-(x / 2 ^ w) * 2 ^ (w - k - 1) * 2) * 2 ^ k := by
    rw [Int.emod_def, Int.mul_assoc, Int.mul_assoc, ← Int.mul_assoc (2 ^ (w - k - 1)) 2, ← Int.pow_succ, ← Int.pow_add, show w - k - 1 + 1 + k = w by omega, Int.neg_mul, Int.mul_comm (2 ^ w)]
    omega
  rw [e, Int.add_mul_ediv_right _ _ (Int.ne_of_gt (qp2 k)), Int.add_mul_emod_self_right]
theorem qbt_bv (w : Nat) (x : Int) (k : Nat) (h : k < w) : (BitVec.ofInt w x).getLsbD k = qbt x k := by
  rw [← qbt_mod x h]
  have h0 := Int.emod_nonneg x (Int.ne_of_gt (qp2 w))
  obtain ⟨n, hn⟩ := Int.eq_ofNat_of_zero_le h0
  have e : (BitVec.ofInt w x).toNat = n := by
    rw [BitVec.toNat_ofInt]
    have : ((2 ^ w : Nat) : Int) = 2 ^ w := by rw [Int.natCast_pow]; rfl
    rw [this, hn]; rfl
  rw [hn, qbt_nat, ← e]
  rfl
theorem qbt_and {x y : Int} {k : Nat} (h : k < 32) : qbt (q_and x y) k = (qbt x k && qbt y k) := by
  rw [← qbt_bv 32 _ k h, ← qbt_bv 32 x k h, ← qbt_bv 32 y k h, q_and, BitVec.ofInt_toInt, BitVec.getLsbD_and]
theorem qbt_or {x y : Int} {k : Nat} (h : k < 32) : qbt (q_or x y) k = (qbt x k || qbt y k) := by
  rw [← qbt_bv 32 _ k h, ← qbt_bv 32 x k h, ← qbt_bv 32 y k h, q_or, BitVec.ofInt_toInt, BitVec.getLsbD_or]
theorem qbt_xor {x y : Int} {k : Nat} (h : k < 32) : qbt (q_xor x y) k = (qbt x k != qbt y k) := by
  rw [← qbt_bv 32 _ k h, ← qbt_bv 32 x k h, ← qbt_bv 32 y k h, q_xor, BitVec.ofInt_toInt, BitVec.getLsbD_xor]
theorem qbt_and64 {x y : Int} {k : Nat} (h : k < 64) : qbt (q_and64 x y) k = (qbt x k && qbt y k) := by
  rw [← qbt_bv 64 _ k h, ← qbt_bv 64 x k h, ← qbt_bv 64 y k h, q_and64, BitVec.ofInt_toInt, BitVec.getLsbD_and]
theorem qbt_or64 {x y : Int} {k : Nat} (h : k < 64) : qbt (q_or64 x y) k = (qbt x k || qbt y k) := by
  rw [← qbt_bv 64 _ k h, ← qbt_bv 64 x k h, ← qbt_bv 64 y k h, q_or64, BitVec.ofInt_toInt, BitVec.getLsbD_or]
theorem qbt_xor64 {x y : Int} {k : Nat} (h : k < 64) : qbt (q_xor64 x y) k = (qbt x k != qbt y k) := by
  rw [← qbt_bv 64 _ k h, ← qbt_bv 64 x k h, ← qbt_bv 64 y k h, q_xor64, BitVec.ofInt_toInt, BitVec.getLsbD_xor]
theorem qbt_w32 {x : Int} {k : Nat} (h : k < 32) : qbt (q_w32 x) k = qbt x k := by
  rw [← qbt_mod (q_w32 x) h, ← qbt_mod x h]
  congr 1
  show q_w32 x % 4294967296 = x % 4294967296
  unfold q_w32
  omega
theorem qbt_w64 {x : Int} {k : Nat} (h : k < 64) : qbt (q_w64 x) k = qbt x k := by
  rw [← qbt_mod (q_w64 x) h, ← qbt_mod x h]
  congr 1
  show q_w64 x % 18446744073709551616 = x % 18446744073709551616
  unfold q_w64
  omega
theorem qbt_shl {x : Int} {s k : Nat} (hs : s < 32) (h : k < 32) : qbt (q_shl x s) k = (decide (s ≤ k) && qbt x (k - s)) := by
  unfold q_shl
  rw [qbt_w32 h, show ((s : Int) % 32).toNat = s by omega, qbt_mul]
theorem qbt_shl64 {x : Int} {s k : Nat} (hs : s < 64) (h : k < 64) : qbt (q_shl64 x s) k = (decide (s ≤ k) && qbt x (k - s)) := by
  unfold q_shl64
  rw [qbt_w64 h, show ((s : Int) % 64).toNat = s by omega, qbt_mul]
theorem qbt_shr {x : Int} {s k : Nat} (hs : s < 32) : qbt (q_shr x s) k = qbt x (s + k) := by
  unfold q_shr
  rw [show ((s : Int) % 32).toNat = s by omega, qbt_shift]
theorem qbt_shr64 {x : Int} {s k : Nat} (hs : s < 64) : qbt (q_shr64 x s) k = qbt x (s + k) := by
  unfold q_shr64
  rw [show ((s : Int) % 64).toNat = s by omega, qbt_shift]
theorem q_bv_id32 {x : Int} (h : q_i32 x) : (BitVec.ofInt 32 x).toInt = x := by
  rw [BitVec.toInt_ofInt, Int.bmod_def]
  show (if x % ((4294967296 : Nat) : Int) < (((4294967296 : Nat) : Int) + 1) / 2 then x % ((4294967296 : Nat) : Int) else x % ((4294967296 : Nat) : Int) - ((4294967296 : Nat) : Int)) = _
  unfold q_i32 at h
  split <;> omega
theorem q_bv_id64 {x : Int} (h : q_i64 x) : (BitVec.ofInt 64 x).toInt = x := by
  rw [BitVec.toInt_ofInt, Int.bmod_def]
  show (if x % ((18446744073709551616 : Nat) : Int) < (((18446744073709551616 : Nat) : Int) + 1) / 2 then x % ((18446744073709551616 : Nat) : Int) else x % ((18446744073709551616 : Nat) : Int) - ((18446744073709551616 : Nat) : Int)) = _
  unfold q_i64 at h
  split <;> omega
theorem qbt_ext {x y : Int} (hx : q_i32 x) (hy : q_i32 y) (h : ∀ k, k < 32 → qbt x k = qbt y k) : x = y := by
  rw [← q_bv_id32 hx, ← q_bv_id32 hy]
  congr 1
  exact BitVec.eq_of_getLsbD_eq (fun k hk => by rw [qbt_bv 32 x k hk, qbt_bv 32 y k hk]; exact h k hk)
theorem qbt_ext64 {x y : Int} (hx : q_i64 x) (hy : q_i64 y) (h : ∀ k, k < 64 → qbt x k = qbt y k) : x = y := by
  rw [← q_bv_id64 hx, ← q_bv_id64 hy]
  congr 1
  exact BitVec.eq_of_getLsbD_eq (fun k hk => by rw [qbt_bv 64 x k hk, qbt_bv 64 y k hk]; exact h k hk)
theorem q_and_i (x y : Int) : q_i32 (q_and x y) := q_bv32 _
theorem q_or_i (x y : Int) : q_i32 (q_or x y) := q_bv32 _
theorem q_xor_i (x y : Int) : q_i32 (q_xor x y) := q_bv32 _
theorem q_shl_i (x y : Int) : q_i32 (q_shl x y) := q_w32_i _
theorem qbt_neg1 (k : Nat) : qbt (-1) k = true := by
  unfold qbt
  have : (-1 : Int) / 2 ^ k = -1 := by
    have h1 := q_div_le (x := -1) (k := k) (a := -1) (b := 0) (by omega) (by omega) (by omega) (by omega)
    have h2 := Int.ediv_neg_of_neg_of_pos (show (-1 : Int) < 0 by omega) (qp2 k)
    omega
  rw [this]; rfl
theorem qbt_0 (k : Nat) : qbt 0 k = false := by unfold qbt; rw [Int.zero_ediv]; rfl
theorem qbt_1 (k : Nat) : qbt 1 k = decide (k = 0) := by
  have := qbt_nat 1 k
  rw [show ((1 : Nat) : Int) = 1 from rfl] at this
  rw [this]
  cases k with
  | zero => rfl
  | succ k => rw [Nat.testBit_succ]; simp
/-- the low bits -/
theorem q_and_low (x : Int) {n : Nat} (hn : n < 31) : q_and x (2 ^ n - 1) = x % 2 ^ n := by
  have h0 := Int.emod_nonneg x (Int.ne_of_gt (qp2 n))
  have h1 := Int.emod_lt_of_pos x (qp2 n)
  have h2 : (2 : Int) ^ n ≤ 2 ^ 30 := by
    have := Nat.pow_le_pow_right (show 0 < 2 by omega) (show n ≤ 30 by omega)
    exact_mod_cast this
  have h3 : (2 : Int) ^ 30 = 1073741824 := by decide
  have e : (2 : Int) ^ n - 1 = ((2 ^ n - 1 : Nat) : Int) := by
    have h4 := Nat.one_le_two_pow (n := n)
    have h5 : ((2 ^ n : Nat) : Int) = 2 ^ n := by rw [Int.natCast_pow]; rfl
    rw [← h5]
    generalize 2 ^ n = m at *
    omega
  refine qbt_ext (q_and_i _ _) (by unfold q_i32; omega) (fun k hk => ?_)
  rw [qbt_and hk, e, qbt_nat, Nat.testBit_two_pow_sub_one]
  by_cases q : k < n
  · rw [qbt_mod x q, decide_eq_true q, Bool.and_true]
  · rw [decide_eq_false q, Bool.and_false]
    unfold qbt
    rw [Int.ediv_eq_zero_of_lt h0]
    · rfl
    · have := Nat.pow_le_pow_right (show 0 < 2 by omega) (show n ≤ k by omega)
      have h5 : (2 : Int) ^ n ≤ 2 ^ k := by exact_mod_cast this
      omega
theorem q_and1 (x : Int) : q_and x 1 = x % 2 := q_and_low x (n := 1) (by omega)
theorem q_and255 (x : Int) : q_and x 255 = x % 256 := q_and_low x (n := 8) (by omega)
theorem q_alo63 (x : Int) : q_and x 63 = x % 64 := q_and_low x (n := 6) (by omega)
/-- whether one bit is on -/
theorem q_bit {x : Int} {k : Nat} (hk : k < 32) : q_and (q_shr x k) 1 = qb (qbt x k) := by
  rw [q_and1, q_shr, show ((k : Int) % 32).toNat = k by omega]
  unfold qbt qb
  by_cases h : x / 2 ^ k % 2 = 1
  · rw [h]; rfl
  · rw [decide_eq_false h]
    have := Int.emod_two_eq (x / 2 ^ k)
    simp
    omega
