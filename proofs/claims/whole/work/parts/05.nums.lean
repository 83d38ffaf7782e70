/-! whole numbers for the machine's ints and longs -/
theorem q_n32 {z : Int} (h : q_i32 z) : (Int32.ofInt z).toInt = z := Int32.toInt_ofInt_of_le (by have := h.1; omega) (by have := h.2; omega)
theorem q_n64 {z : Int} (h : q_i64 z) : (Int64.ofInt z).toInt = z := Int64.toInt_ofInt_of_le (by have := h.1; omega) (by have := h.2; omega)
theorem q_w32_i (z : Int) : q_i32 (q_w32 z) := by unfold q_i32 q_w32; omega
theorem q_w64_i (z : Int) : q_i64 (q_w64 z) := by unfold q_i64 q_w64; omega
theorem q_w32_id {z : Int} (h : q_i32 z) : q_w32 z = z := by unfold q_i32 at h; unfold q_w32; omega
theorem q_w64_id {z : Int} (h : q_i64 z) : q_w64 z = z := by unfold q_i64 at h; unfold q_w64; omega
theorem q_nw32 (z : Int) : Int32.ofInt (q_w32 z) = Int32.ofInt z := by
  apply Int32.toInt_inj.1
  rw [q_n32 (q_w32_i z), Int32.toInt_ofInt, Int.bmod_def]
  show q_w32 z = if z % ((4294967296 : Nat) : Int) < (((4294967296 : Nat) : Int) + 1) / 2 then z % ((4294967296 : Nat) : Int) else z % ((4294967296 : Nat) : Int) - ((4294967296 : Nat) : Int)
  unfold q_w32
  split <;> omega
theorem q_nw64 (z : Int) : Int64.ofInt (q_w64 z) = Int64.ofInt z := by
  apply Int64.toInt_inj.1
  rw [q_n64 (q_w64_i z), Int64.toInt_ofInt, Int.bmod_def]
  show q_w64 z = if z % ((18446744073709551616 : Nat) : Int) < (((18446744073709551616 : Nat) : Int) + 1) / 2 then z % ((18446744073709551616 : Nat) : Int) else z % ((18446744073709551616 : Nat) : Int) - ((18446744073709551616 : Nat) : Int)
  unfold q_w64
  split <;> omega
theorem q_nlt {x y : Int} (hx : q_i32 x) (hy : q_i32 y) : Int32.ofInt x < Int32.ofInt y ↔ x < y := by rw [Int32.lt_iff_toInt_lt, q_n32 hx, q_n32 hy]
theorem q_nle {x y : Int} (hx : q_i32 x) (hy : q_i32 y) : Int32.ofInt x ≤ Int32.ofInt y ↔ x ≤ y := by rw [Int32.le_iff_toInt_le, q_n32 hx, q_n32 hy]
theorem q_neq {x y : Int} (hx : q_i32 x) (hy : q_i32 y) : Int32.ofInt x = Int32.ofInt y ↔ x = y := by rw [← Int32.toInt_inj, q_n32 hx, q_n32 hy]
theorem q_nlt64 {x y : Int} (hx : q_i64 x) (hy : q_i64 y) : Int64.ofInt x < Int64.ofInt y ↔ x < y := by rw [Int64.lt_iff_toInt_lt, q_n64 hx, q_n64 hy]
theorem q_neq64 {x y : Int} (hx : q_i64 x) (hy : q_i64 y) : Int64.ofInt x = Int64.ofInt y ↔ x = y := by rw [← Int64.toInt_inj, q_n64 hx, q_n64 hy]
theorem q_i0 : q_i32 0 := by unfold q_i32; omega
theorem q_ncl {j : Int} (h : q_i32 j) : (Int32.ofInt j).toNatClampNeg = j.toNat := by
  show (Int32.ofInt j).toInt.toNat = _
  rw [q_n32 h]
theorem q_nin {j : Int} {n : Nat} (h : q_i32 j) (h0 : 0 ≤ j) (h1 : j < n) : vp_in (Int32.ofInt j) n := by
  rw [vp_in_iff, q_n32 h]
  exact ⟨h0, h1⟩
theorem q_n0 : Int32.ofInt 0 = 0 := rfl
theorem q_ndiv {x y : Int} (hx : q_i32 x) (hy : q_i32 y) (h0 : 0 ≤ x) (h1 : 0 < y) : Int32.ofInt x / Int32.ofInt y = Int32.ofInt (x / y) := by
  rw [← Int.tdiv_eq_ediv_of_nonneg h0]
  refine (Int32.ofInt_tdiv ?_ ?_ ?_ ?_).symm <;> first | (show (-2147483648 : Int) ≤ _; unfold q_i32 at hx hy; omega) | (show _ ≤ (2147483647 : Int); unfold q_i32 at hx hy; omega)
theorem q_nrem {x y : Int} (hx : q_i32 x) (hy : q_i32 y) (h0 : 0 ≤ x) (h1 : 0 < y) : Int32.ofInt x - Int32.ofInt x / Int32.ofInt y * Int32.ofInt y = Int32.ofInt (x % y) := by
  rw [q_ndiv hx hy h0 h1, ← Int32.ofInt_mul, ← Int32.ofInt_sub, Int.emod_def, Int.mul_comm y]
theorem q_nand (x y : Int) : Int32.ofInt x &&& Int32.ofInt y = Int32.ofInt (q_and x y) := by
  apply Int32.toBitVec_inj.1
  rw [Int32.toBitVec_and, Int32.toBitVec_ofInt, Int32.toBitVec_ofInt, Int32.toBitVec_ofInt, q_and, BitVec.ofInt_toInt]
theorem q_nor (x y : Int) : Int32.ofInt x ||| Int32.ofInt y = Int32.ofInt (q_or x y) := by
  apply Int32.toBitVec_inj.1
  rw [Int32.toBitVec_or, Int32.toBitVec_ofInt, Int32.toBitVec_ofInt, Int32.toBitVec_ofInt, q_or, BitVec.ofInt_toInt]
theorem q_nxor (x y : Int) : Int32.ofInt x ^^^ Int32.ofInt y = Int32.ofInt (q_xor x y) := by
  apply Int32.toBitVec_inj.1
  rw [Int32.toBitVec_xor, Int32.toBitVec_ofInt, Int32.toBitVec_ofInt, Int32.toBitVec_ofInt, q_xor, BitVec.ofInt_toInt]
theorem q_nand64 (x y : Int) : Int64.ofInt x &&& Int64.ofInt y = Int64.ofInt (q_and64 x y) := by
  apply Int64.toBitVec_inj.1
  rw [Int64.toBitVec_and, Int64.toBitVec_ofInt, Int64.toBitVec_ofInt, Int64.toBitVec_ofInt, q_and64, BitVec.ofInt_toInt]
theorem q_nor64 (x y : Int) : Int64.ofInt x ||| Int64.ofInt y = Int64.ofInt (q_or64 x y) := by
  apply Int64.toBitVec_inj.1
  rw [Int64.toBitVec_or, Int64.toBitVec_ofInt, Int64.toBitVec_ofInt, Int64.toBitVec_ofInt, q_or64, BitVec.ofInt_toInt]
theorem q_nxor64 (x y : Int) : Int64.ofInt x ^^^ Int64.ofInt y = Int64.ofInt (q_xor64 x y) := by
  apply Int64.toBitVec_inj.1
  rw [Int64.toBitVec_xor, Int64.toBitVec_ofInt, Int64.toBitVec_ofInt, Int64.toBitVec_ofInt, q_xor64, BitVec.ofInt_toInt]
theorem q_bv32 (b : BitVec 32) : q_i32 b.toInt := by
  have h1 := BitVec.le_toInt (x := b)
  have h2 := BitVec.toInt_lt (x := b)
  unfold q_i32
  omega
theorem q_bv64 (b : BitVec 64) : q_i64 b.toInt := by
  have h1 := BitVec.le_toInt (x := b)
  have h2 := BitVec.toInt_lt (x := b)
  unfold q_i64
  omega
theorem q_sh5d : ∀ n, n < 32 → ((nI n).toBitVec.smod 32).toNat = n := by decide +kernel
theorem q_sh5u : ∀ n, n < 32 → (((nI n).toUInt32 &&& Int32.toUInt32 31).toBitVec % 32).toNat = n := by decide +kernel
theorem q_tn32 (z : Int) : ((Int32.ofInt z).toBitVec).toNat = (z % 4294967296).toNat := by
  rw [Int32.toBitVec_ofInt, BitVec.toNat_ofInt]
  rfl
theorem q_tn64 (z : Int) : ((Int64.ofInt z).toBitVec).toNat = (z % 18446744073709551616).toNat := by
  rw [Int64.toBitVec_ofInt, BitVec.toNat_ofInt]
  rfl
theorem q_and31 (y : Int) : Int32.ofInt y &&& 31 = nI (y % 32).toNat := by
  rw [pk_and (Int32.ofInt y) (m := 31) 5 (by decide), q_tn32]
  congr 1
  omega
theorem q_sh5 (y : Int) : ((Int32.ofInt y &&& 31).toBitVec.smod 32).toNat = (y % 32).toNat := by
  rw [q_and31, q_sh5d _ (by omega)]
theorem q_sh5v (y : Int) : (((Int32.ofInt y).toUInt32 &&& Int32.toUInt32 31).toBitVec % 32).toNat = (y % 32).toNat := by
  have h1 : (Int32.ofInt y).toUInt32 &&& Int32.toUInt32 31 = (nI (y % 32).toNat).toUInt32 &&& Int32.toUInt32 31 := by
    have h2 : (Int32.ofInt y &&& 31) = (nI (y % 32).toNat &&& 31) := by
      rw [q_and31, pk_andN (by omega) (m := 31) 5 (by decide)]
      congr 1
      omega
    exact congrArg Int32.toUInt32 h2
  rw [h1, q_sh5u _ (by omega)]
theorem q_emul (x p m : Int) : (x % m * p) % m = (x * p) % m := by rw [Int.mul_emod, Int.emod_emod, ← Int.mul_emod]
theorem q_nshl (x y : Int) : Int32.ofInt x <<< (Int32.ofInt y &&& 31) = Int32.ofInt (q_shl x y) := by
  apply Int32.toBitVec_inj.1
  apply BitVec.eq_of_toNat_eq
  rw [pk_shl _ _ _ (q_sh5 y), q_shl, q_nw32, q_tn32, q_tn32]
  generalize (y % 32).toNat = k
  have e : (((x % 4294967296).toNat * 2 ^ k % 2 ^ 32 : Nat) : Int) = (((x * 2 ^ k) % 4294967296).toNat : Int) := by
    rw [Int.toNat_of_nonneg (Int.emod_nonneg _ (by omega))]
    show (((x % 4294967296).toNat * 2 ^ k % 4294967296 : Nat) : Int) = _
    rw [Int.natCast_emod, Int.natCast_mul, Int.toNat_of_nonneg (Int.emod_nonneg _ (by omega)), Int.natCast_pow]
    exact q_emul _ _ _
  exact Int.ofNat.inj e
theorem q_div_le {x : Int} {k : Nat} {a b : Int} (ha : a ≤ 0) (hb : 0 ≤ b) (h1 : a ≤ x) (h2 : x ≤ b) : a ≤ x / 2 ^ k ∧ x / 2 ^ k ≤ b := by
  have hp : (0 : Int) < 2 ^ k := Int.pow_pos (by omega)
  constructor
  · apply Int.le_ediv_of_mul_le hp
    have : a * 2 ^ k ≤ a * 1 := Int.mul_le_mul_of_nonpos_left ha hp
    omega
  · rcases Int.lt_or_le x 0 with h | h
    · have := Int.ediv_neg_of_neg_of_pos h hp
      omega
    · have := Int.ediv_le_self (2 ^ k) h
      omega
theorem q_shr_i {x y : Int} (h : q_i32 x) : q_i32 (q_shr x y) := q_div_le (by omega) (by omega) h.1 h.2
theorem q_shr64_i {x y : Int} (h : q_i64 x) : q_i64 (q_shr64 x y) := q_div_le (by omega) (by omega) h.1 h.2
theorem q_nshr {x y : Int} (h : q_i32 x) : Int32.ofInt x >>> (Int32.ofInt y &&& 31) = Int32.ofInt (q_shr x y) := by
  apply Int32.toInt_inj.1
  rw [pk_shr _ _ _ (q_sh5 y), q_n32 h, q_n32 (q_shr_i h), q_shr, Int.shiftRight_eq_div_pow]
  norm_cast
theorem q_nushr (x y : Int) : ((Int32.ofInt x).toUInt32 >>> ((Int32.ofInt y).toUInt32 &&& Int32.toUInt32 31)).toInt32 = Int32.ofInt (q_ushr x y) := by
  apply Int32.toBitVec_inj.1
  apply BitVec.eq_of_toNat_eq
  rw [pk_ushr _ _ _ (q_sh5v y), q_ushr, q_nw32, q_tn32, q_tn32]
  generalize (y % 32).toNat = k
  have h0 := Int.emod_nonneg x (show (4294967296 : Int) ≠ 0 by omega)
  have h1 := Int.emod_lt_of_pos x (show (0 : Int) < 4294967296 by omega)
  obtain ⟨n, hn⟩ := Int.eq_ofNat_of_zero_le h0
  rw [hn] at h1 ⊢
  have h2 := q_div_le (x := (n : Int)) (k := k) (a := 0) (b := 4294967295) (by omega) (by omega) (by omega) (by omega)
  rw [Int.emod_eq_of_lt h2.1 (by omega), Int.toNat_natCast]
  have e : ((n : Int) / 2 ^ k) = ((n / 2 ^ k : Nat) : Int) := by rw [Int.natCast_ediv, Int.natCast_pow]; rfl
  rw [e, Int.toNat_natCast]
theorem q_ushr_i (x y : Int) : q_i32 (q_ushr x y) := q_w32_i _
theorem q_sh6d : ∀ n, n < 64 → ((lN n).toBitVec.smod 64).toNat = n := by decide +kernel
theorem q_sh6u : ∀ n, n < 64 → (((lN n).toUInt64 &&& Int64.toUInt64 63).toBitVec % 64).toNat = n := by decide +kernel
theorem q_and63 (y : Int) : Int64.ofInt y &&& 63 = lN (y % 64).toNat := by
  apply Int64.toBitVec_inj.1
  apply BitVec.eq_of_toNat_eq
  rw [Int64.toBitVec_and, BitVec.toNat_and, q_tn64]
  have e : (Int64.toBitVec 63).toNat = 2 ^ 6 - 1 := by decide
  rw [e, Nat.and_two_pow_sub_one_eq_mod]
  show _ = (BitVec.ofNat 64 _).toNat
  rw [BitVec.toNat_ofNat]
  omega
theorem q_i2l {y : Int} (h : q_i32 y) : (Int32.ofInt y).toInt64 = Int64.ofInt y := by
  apply Int64.toInt_inj.1
  rw [Int32.toInt_toInt64, q_n32 h, q_n64 (by unfold q_i32 at h; unfold q_i64; omega)]
theorem q_nshl64 {x y : Int} (hy : q_i32 y) : Int64.ofInt x <<< ((Int32.ofInt y).toInt64 &&& 63) = Int64.ofInt (q_shl64 x y) := by
  rw [q_i2l hy, q_and63]
  apply Int64.toBitVec_inj.1
  apply BitVec.eq_of_toNat_eq
  show ((Int64.ofInt x).toBitVec <<< ((lN (y % 64).toNat).toBitVec.smod 64).toNat).toNat = _
  rw [q_sh6d _ (by omega), BitVec.toNat_shiftLeft, Nat.shiftLeft_eq, q_shl64, q_nw64, q_tn64, q_tn64]
  generalize (y % 64).toNat = k
  have e : (((x % 18446744073709551616).toNat * 2 ^ k % 2 ^ 64 : Nat) : Int) = (((x * 2 ^ k) % 18446744073709551616).toNat : Int) := by
    rw [Int.toNat_of_nonneg (Int.emod_nonneg _ (by omega))]
    show (((x % 18446744073709551616).toNat * 2 ^ k % 18446744073709551616 : Nat) : Int) = _
    rw [Int.natCast_emod, Int.natCast_mul, Int.toNat_of_nonneg (Int.emod_nonneg _ (by omega)), Int.natCast_pow]
    exact q_emul _ _ _
  exact Int.ofNat.inj e
theorem q_nshr64 {x y : Int} (h : q_i64 x) (hy : q_i32 y) : Int64.ofInt x >>> ((Int32.ofInt y).toInt64 &&& 63) = Int64.ofInt (q_shr64 x y) := by
  rw [q_i2l hy, q_and63]
  apply Int64.toInt_inj.1
  show ((Int64.ofInt x).toBitVec.sshiftRight ((lN (y % 64).toNat).toBitVec.smod 64).toNat).toInt = _
  rw [q_sh6d _ (by omega), BitVec.toInt_sshiftRight]
  show (Int64.ofInt x).toInt >>> _ = _
  rw [q_n64 h, q_n64 (q_shr64_i h), q_shr64, Int.shiftRight_eq_div_pow]
  norm_cast
theorem q_nushr64 {x y : Int} (hy : q_i32 y) : ((Int64.ofInt x).toUInt64 >>> ((Int32.ofInt y).toInt64.toUInt64 &&& Int64.toUInt64 63)).toInt64 = Int64.ofInt (q_ushr64 x y) := by
  rw [q_i2l hy]
  apply Int64.toBitVec_inj.1
  apply BitVec.eq_of_toNat_eq
  have e0 : (((Int64.ofInt y).toUInt64 &&& Int64.toUInt64 63).toBitVec % 64).toNat = (y % 64).toNat := by
    have h1 : (Int64.ofInt y).toUInt64 &&& Int64.toUInt64 63 = (lN (y % 64).toNat).toUInt64 &&& Int64.toUInt64 63 := by
      have h2 : (Int64.ofInt y &&& 63) = (lN (y % 64).toNat &&& 63) := by
        rw [q_and63]
        have := q_and63 ((y % 64).toNat : Int)
        rw [show Int64.ofInt ((y % 64).toNat : Int) = lN (y % 64).toNat from Int64.ofInt_eq_ofNat] at this
        rw [this]
        congr 1
        omega
      exact congrArg Int64.toUInt64 h2
    rw [h1, q_sh6u _ (by omega)]
  have e : ((Int64.ofInt x).toUInt64 >>> ((Int64.ofInt y).toUInt64 &&& Int64.toUInt64 63)).toInt64.toBitVec = (Int64.ofInt x).toBitVec >>> (y % 64).toNat := by
    rw [← e0]
    exact UInt64.toBitVec_shiftRight _ _
  rw [e, BitVec.toNat_ushiftRight, Nat.shiftRight_eq_div_pow, q_ushr64, q_nw64, q_tn64, q_tn64]
  generalize (y % 64).toNat = k
  have h0 := Int.emod_nonneg x (show (18446744073709551616 : Int) ≠ 0 by omega)
  have h1 := Int.emod_lt_of_pos x (show (0 : Int) < 18446744073709551616 by omega)
  obtain ⟨n, hn⟩ := Int.eq_ofNat_of_zero_le h0
  rw [hn] at h1 ⊢
  have h2 := q_div_le (x := (n : Int)) (k := k) (a := 0) (b := 18446744073709551615) (by omega) (by omega) (by omega) (by omega)
  rw [Int.emod_eq_of_lt h2.1 (by omega), Int.toNat_natCast]
  have e : ((n : Int) / 2 ^ k) = ((n / 2 ^ k : Nat) : Int) := by rw [Int.natCast_ediv, Int.natCast_pow]; rfl
  rw [e, Int.toNat_natCast]
theorem q_w8_i (z : Int) : q_i32 (q_w8 z) := by unfold q_i32 q_w8; omega
theorem q_ni2b (x : Int) : (Int32.ofInt x).toInt8.toInt32 = Int32.ofInt (q_w8 x) := by
  rw [Int32.toInt8_ofInt]
  apply Int32.toInt_inj.1
  rw [Int8.toInt_toInt32, Int8.toInt_ofInt, q_n32 (q_w8_i x), Int.bmod_def]
  show (if x % ((256 : Nat) : Int) < (((256 : Nat) : Int) + 1) / 2 then x % ((256 : Nat) : Int) else x % ((256 : Nat) : Int) - ((256 : Nat) : Int)) = _
  unfold q_w8
  split <;> omega
theorem q_nlcmp {x y : Int} (hx : q_i64 x) (hy : q_i64 y) : lg_cmp (Int64.ofInt x) (Int64.ofInt y) = Int32.ofInt (q_lcmp x y) := by
  unfold lg_cmp q_lcmp
  have h1 := q_nlt64 hy hx
  have h2 := q_neq64 hx hy
  by_cases a : y < x
  · rw [if_pos a, if_pos (h1.mpr a)]; rfl
  · rw [if_neg a, if_neg (fun q => a (h1.mp q))]
    by_cases b : x = y
    · rw [if_pos b, if_pos (h2.mpr b)]; rfl
    · rw [if_neg b, if_neg (fun q => b (h2.mp q))]; rfl
theorem q_lcmp_i (x y : Int) : q_i32 (q_lcmp x y) := by
  unfold q_lcmp q_i32
  split
  · omega
  · split <;> omega
