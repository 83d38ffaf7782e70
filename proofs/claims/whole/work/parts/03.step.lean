/-! a machine of whole numbers over the system's objects: one step, runs, and what a step asks -/
abbrev QV : Type := Int ⊕ Int ⊕ Option (Nat × Int)
abbrev qi (z : Int) : QV := .inl z
abbrev ql (z : Int) : QV := .inr (.inl z)
abbrev qn : QV := .inr (.inr none)
abbrev qr (r : Nat) (i : Int) : QV := .inr (.inr (some (r, i)))
abbrev QM : Type := Nat → Int → Int → Int
def qu (h : QM) (r : Nat) (i j v : Int) : QM := fun r' i' j' => if r' = r ∧ i' = i ∧ j' = j then v else h r' i' j'
def q_cpy (h : QM) (r0 : Nat) (i0 sp : Int) (r1 : Nat) (i1 dp n : Int) : QM := fun r i j => if r = r1 ∧ i = i1 ∧ dp ≤ j ∧ j < dp + n then h r0 i0 (sp + (j - dp)) else h r i j
def q_get {α : Type} : List α → Nat → Option α
  | [], _ => none
  | a :: _, 0 => some a
  | _ :: l, n + 1 => q_get l n
abbrev QE : Type := Instr × Nat × List Nat
abbrev QC : Type := List (List (Option QE))
def q_at (c : QC) (pc : Nat) : Option QE :=
  match q_get c (pc / 16) with
  | some l => (match q_get l (pc % 16) with | some (some e) => some e | _ => none)
  | none => none
def q_w32 (z : Int) : Int := (z + 2147483648) % 4294967296 - 2147483648
def q_w64 (z : Int) : Int := (z + 9223372036854775808) % 18446744073709551616 - 9223372036854775808
def q_w8 (z : Int) : Int := (z + 128) % 256 - 128
def q_i32 (z : Int) : Prop := -2147483648 ≤ z ∧ z ≤ 2147483647
def q_i64 (z : Int) : Prop := -9223372036854775808 ≤ z ∧ z ≤ 9223372036854775807
def q_and (x y : Int) : Int := (BitVec.ofInt 32 x &&& BitVec.ofInt 32 y).toInt
def q_or (x y : Int) : Int := (BitVec.ofInt 32 x ||| BitVec.ofInt 32 y).toInt
def q_xor (x y : Int) : Int := (BitVec.ofInt 32 x ^^^ BitVec.ofInt 32 y).toInt
def q_and64 (x y : Int) : Int := (BitVec.ofInt 64 x &&& BitVec.ofInt 64 y).toInt
def q_or64 (x y : Int) : Int := (BitVec.ofInt 64 x ||| BitVec.ofInt 64 y).toInt
def q_xor64 (x y : Int) : Int := (BitVec.ofInt 64 x ^^^ BitVec.ofInt 64 y).toInt
def q_shl (x s : Int) : Int := q_w32 (x * 2 ^ (s % 32).toNat)
def q_shr (x s : Int) : Int := x / 2 ^ (s % 32).toNat
def q_ushr (x s : Int) : Int := q_w32 (x % 4294967296 / 2 ^ (s % 32).toNat)
def q_shl64 (x s : Int) : Int := q_w64 (x * 2 ^ (s % 64).toNat)
def q_shr64 (x s : Int) : Int := x / 2 ^ (s % 64).toNat
def q_ushr64 (x s : Int) : Int := q_w64 (x % 18446744073709551616 / 2 ^ (s % 64).toNat)
def q_lcmp (x y : Int) : Int := if y < x then 1 else if x = y then 0 else -1
def q_ck (wr : Bool) (z : Int) (f : Int → Prop) : Prop := match wr with
  | true => f (q_w32 z)
  | false => (-2147483648 ≤ z ∧ z ≤ 2147483647) ∧ f z
def q_ck64 (wr : Bool) (z : Int) (f : Int → Prop) : Prop := match wr with
  | true => f (q_w64 z)
  | false => (-9223372036854775808 ≤ z ∧ z ≤ 9223372036854775807) ∧ f z
def q_find2 {α : Type} : List (Nat × α) → Nat → Option α
  | [], _ => none
  | (i, a) :: l, n => (match Nat.beq i n with | true => some a | false => q_find2 l n)
def q_look {α : Type} (l : List (List (Nat × α))) (c n : Nat) : Option α := match q_get l c with
  | some l => q_find2 l n
  | none => none
def q_fk (ci k : Nat) : Option (Nat × Nat × Int) := match q_get q_fks ci with
  | some l => q_get l k
  | none => none
def q_ar (r : Nat) : Option (Nat × Int × Nat × Int) := match Nat.ble 13 r with
  | true => q_get q_ars (r - 13)
  | false => none
def q_cnt (r : Nat) : Int := q_cnts.getD r 0
/-- rows that nobody writes: 100 WORDS, 101 NAMES_DUE, 102 INTS_LEAST, 103 INTS_MOST, 104 the script -/
def q_WORDS : List Int := [0, 28518, 7566701, 1835361652, 6386278, 1885434484, 6382692, 1685221232]
def q_DUE : List Int := [0, 1, 3, 3, 2, 2, 2, 2]
def q_LEAST : List Int := [0, 1, 0, 0, 0, 1, 1, 1]
def q_MOST : List Int := [0, 10, 0, 0, 0, 1, 1, 1]
abbrev QS : Type := Int × (Int → Int)
def q_sl (S : QS) (r : Nat) : Int := match r with
  | 104 => S.1
  | _ => 8
def q_sc (S : QS) (r : Nat) (j : Int) : Int := match r with
  | 100 => q_WORDS.getD j.toNat 0
  | 101 => q_DUE.getD j.toNat 0
  | 102 => q_LEAST.getD j.toNat 0
  | 103 => q_MOST.getD j.toNat 0
  | _ => S.2 j
/-- kind of a static row: 1 ints, 2 longs -/
def q_sk (r : Nat) : Nat := match r with
  | 100 => 2
  | 101 => 1
  | 102 => 1
  | 103 => 1
  | 104 => 1
  | _ => 0
/-- where, of what length, what it holds: a row of kind k -/
def q_row (S : QS) (k : Nat) (r : Nat) (i : Int) (h : QM) (f : Int → (Int → Int) → Prop) : Prop := match q_ar r with
  | some (k', n, _, _) => (match Nat.beq k' k with | true => f n (h r i) | false => False)
  | none => (match Nat.beq (q_sk r) k with | true => f (q_sl S r) (q_sc S r) | false => False)
abbrev QL : Type := List (Option QV)
def q_set : QL → Nat → Option QV → QL
  | [], _, _ => []
  | _ :: l, 0, v => v :: l
  | a :: l, n + 1, v => a :: q_set l n v
def q_isl : Option QV → Bool
  | some (.inr (.inl _)) => true
  | _ => false
/-- a long that stands just ahead of a place goes when the place is stored to -/
def q_clr : QL → Nat → QL
  | [], _ => []
  | a :: l, 0 => a :: l
  | a :: l, 1 => (match q_isl a with | true => none :: l | false => a :: l)
  | a :: l, n + 2 => a :: q_clr l (n + 1)
def q_st1 (ls : QL) (k : Nat) (v : QV) : QL := q_set (q_clr ls k) k (some v)
def q_st2 (ls : QL) (k : Nat) (v : QV) : QL := q_set (q_set (q_clr ls k) (k + 1) none) k (some v)
def q_ldI (ls : QL) (k : Nat) (f : QV → Prop) : Prop := match q_get ls k with
  | some (some (.inl z)) => f (.inl z)
  | _ => False
def q_ldL (ls : QL) (k : Nat) (f : QV → Prop) : Prop := match q_get ls k with
  | some (some (.inr (.inl z))) => f (.inr (.inl z))
  | _ => False
def q_ldA (ls : QL) (k : Nat) (f : QV → Prop) : Prop := match q_get ls k with
  | some (some (.inr (.inr a))) => f (.inr (.inr a))
  | _ => False
def q_i1 (st : List QV) (f : Int → List QV → Prop) : Prop := match st with
  | .inl x :: r => f x r
  | _ => False
def q_i2 (st : List QV) (f : Int → Int → List QV → Prop) : Prop := match st with
  | .inl y :: .inl x :: r => f x y r
  | _ => False
def q_l1 (st : List QV) (f : Int → List QV → Prop) : Prop := match st with
  | .inr (.inl x) :: r => f x r
  | _ => False
def q_l2 (st : List QV) (f : Int → Int → List QV → Prop) : Prop := match st with
  | .inr (.inl y) :: .inr (.inl x) :: r => f x y r
  | _ => False
def q_ls (st : List QV) (f : Int → Int → List QV → Prop) : Prop := match st with
  | .inl y :: .inr (.inl x) :: r => f x y r
  | _ => False
def q_a1 (st : List QV) (f : Option (Nat × Int) → List QV → Prop) : Prop := match st with
  | .inr (.inr a) :: r => f a r
  | _ => False
def q_r1 (st : List QV) (f : Nat → Int → List QV → Prop) : Prop := match st with
  | .inr (.inr (some (r, i))) :: rest => f r i rest
  | _ => False
def q_ld (st : List QV) (f : Nat → Int → Int → List QV → Prop) : Prop := match st with
  | .inl j :: .inr (.inr (some (r, i))) :: rest => f r i j rest
  | _ => False
def q_stI (st : List QV) (f : Nat → Int → Int → Int → List QV → Prop) : Prop := match st with
  | .inl v :: .inl j :: .inr (.inr (some (r, i))) :: rest => f r i j v rest
  | _ => False
def q_stL (st : List QV) (f : Nat → Int → Int → Int → List QV → Prop) : Prop := match st with
  | .inr (.inl v) :: .inl j :: .inr (.inr (some (r, i))) :: rest => f r i j v rest
  | _ => False
def q_v1 (st : List QV) (f : QV → List QV → Prop) : Prop := match st with
  | v :: r => f v r
  | _ => False
def q_isL : QV → Bool
  | .inr (.inl _) => true
  | _ => false
def q_split : Nat → List QV → List QV → Option (List QV × List QV)
  | 0, acc, st => some (acc, st)
  | n + 1, acc, v :: st => q_split n (v :: acc) st
  | _ + 1, _, [] => none
def q_cat : List QV → Nat
  | [] => 0
  | v :: st => (match q_isL v with | true => 2 | false => 1) + q_cat st
def q_t1 (tg : List Nat) (f : Nat → Prop) : Prop := match tg with
  | [t] => f t
  | _ => False
def q_cond (c : ClassFile.Cond) (x y : Int) (A B : Prop) : Prop := match c with
  | .eq => (x = y → A) ∧ (¬ x = y → B)
  | .ne => (¬ x = y → A) ∧ (x = y → B)
  | .lt => (x < y → A) ∧ (¬ x < y → B)
  | .ge => (y ≤ x → A) ∧ (¬ y ≤ x → B)
  | .gt => (y < x → A) ∧ (¬ y < x → B)
  | .le => (x ≤ y → A) ∧ (¬ x ≤ y → B)
def q_sw (x : Int) (K : Nat → Prop) : Int → List Nat → Prop
  | _, [] => True
  | lo, t :: ts => (x = lo → K t) ∧ q_sw x K (lo + 1) ts
abbrev QK : Type := Nat → QL → List QV → QM → Prop
abbrev QT : Type := Nat → List QV → QM → (Int → QM → Prop) → Prop
def q_push (rk : Nat) (z : Int) (rest : List QV) (k : List QV → Prop) : Prop := match rk with
  | 0 => k rest
  | 1 => k (.inl z :: rest)
  | 2 => k (.inr (.inl z) :: rest)
  | r + 3 => (z < 0 → k (.inr (.inr none) :: rest)) ∧ (¬ z < 0 → k (.inr (.inr (some (r, z))) :: rest))
def q_rcv (c : Nat) (args : List QV) (A : Prop) : Prop := match args with
  | .inr (.inr (some (r, _))) :: _ => (match Nat.beq r c with | true => A | false => False)
  | _ => False
def q_call (T : QT) (kinds : Nat → Bool) (cc : Option (Nat × Nat × Nat × Nat × Nat)) (st : List QV) (h : QM) (k : List QV → QM → Prop) : Prop := match cc with
  | some (kind, mno, n, rk, c) => (match kinds kind with
    | true => (match q_split n [] st with
      | some (args, rest) => (match Nat.ble (q_cat rest) 8 with
        | true => (match kind with
          | 0 => q_rcv c args (T mno args h (fun z h' => q_push rk z rest (fun st' => k st' h')))
          | _ => T mno args h (fun z h' => q_push rk z rest (fun st' => k st' h')))
        | false => False)
      | none => False)
    | false => False)
  | none => False
def q_isV (k : Nat) : Bool := Nat.beq k 0
def q_isS (k : Nat) : Bool := Nat.ble 1 k && Nat.ble k 2
def q_sp (S : QS) (kind : Nat) (st : List QV) (h : QM) (k : List QV → QM → Prop) : Prop := match kind with
  | 3 => q_i2 st (fun x y r => (match Nat.ble (q_cat r) 8 with | true => k (.inl (max x y) :: r) h | false => False))
  | 4 => q_i2 st (fun x y r => (match Nat.ble (q_cat r) 8 with | true => k (.inl (min x y) :: r) h | false => False))
  | 5 => (match st with
    | .inl n :: .inl dp :: .inr (.inr (some (r1, i1))) :: .inl sp :: .inr (.inr (some (r0, i0))) :: r => (match Nat.ble (q_cat r) 8, q_ar r0, q_ar r1 with
      | true, some (1, n0, _, _), some (1, n1, _, _) => (0 ≤ sp ∧ 0 ≤ dp ∧ 0 ≤ n ∧ sp + n ≤ n0 ∧ dp + n ≤ n1) ∧ k r (q_cpy h r0 i0 sp r1 i1 dp n)
      | _, _, _ => False)
    | _ => False)
  | _ => False
def q_gf (cl idx : Nat) (st : List QV) (h : QM) (k : List QV → Prop) : Prop := q_r1 st (fun r i rest => match q_look q_fts cl idx with
  | some (ci, fk) => (match Nat.beq ci r with
    | true => (match q_fk ci fk with
      | some (0, _, j) => k (.inl (h r i j) :: rest)
      | some (1, _, j) => k (.inr (.inl (h r i j)) :: rest)
      | some (2, r2, _) => k (.inr (.inr (some (r2, i))) :: rest)
      | some (3, r2, j) => 0 ≤ h r i j ∧ k (.inr (.inr (some (r2, h r i j))) :: rest)
      | _ => False)
    | false => False)
  | none => False)
def q_pf (cl idx : Nat) (st : List QV) (h : QM) (k : List QV → QM → Prop) : Prop := match st with
  | v :: .inr (.inr (some (r, i))) :: rest => (match q_look q_fts cl idx with
    | some (ci, fk) => (match Nat.beq ci r with
      | true => (match q_fk ci fk, v with
        | some (0, _, j), .inl z => k rest (qu h r i j z)
        | some (1, _, j), .inr (.inl z) => k rest (qu h r i j z)
        | some (3, r2, j), .inr (.inr (some (r3, i3))) => (match Nat.beq r2 r3 with | true => k rest (qu h r i j i3) | false => False)
        | _, _ => False)
      | false => False)
    | none => False)
  | _ => False
def q_aal (r : Nat) (i j : Int) (k : QV → Prop) : Prop := match q_ar r with
  | some (4, n, to, _) => (0 ≤ j ∧ j < n) ∧ k (.inr (.inr (some (to, j))))
  | some (5, n, to, _) => (0 ≤ j ∧ j < n) ∧ k (.inr (.inr (some (to, j))))
  | some (6, n, to, a) => (0 ≤ j ∧ j < n) ∧ k (.inr (.inr (some (to, a * i + j))))
  | some (7, n, to, _) => (0 ≤ j ∧ j < n) ∧ k (.inr (.inr (some (to, j))))
  | _ => False
def q_bal (r : Nat) (i j : Int) (h : QM) (k : Int → Prop) : Prop := match q_ar r with
  | some (0, n, _, _) => (0 ≤ j ∧ j < n) ∧ k (h r i j)
  | some (3, n, _, _) => (0 ≤ j ∧ j < n) ∧ k (h r i j)
  | _ => False
def q_bas (r : Nat) (i j v : Int) (h : QM) (k : QM → Prop) : Prop := match q_ar r with
  | some (0, n, _, _) => ((0 ≤ j ∧ j < n) ∧ (-128 ≤ v ∧ v ≤ 127)) ∧ k (qu h r i j v)
  | some (3, n, _, _) => ((0 ≤ j ∧ j < n) ∧ (v = 0 ∨ v = 1)) ∧ k (qu h r i j v)
  | _ => False
def q_ias (kd : Nat) (r : Nat) (i j v : Int) (h : QM) (k : QM → Prop) : Prop := match q_ar r with
  | some (k', n, _, _) => (match Nat.beq k' kd with | true => (0 ≤ j ∧ j < n) ∧ k (qu h r i j v) | false => False)
  | _ => False
def q_alen (S : QS) (r : Nat) (k : Int → Prop) : Prop := match q_ar r with
  | some (_, n, _, _) => k n
  | none => (match Nat.beq (q_sk r) 0 with | true => False | false => k (q_sl S r))
/-- one step: S the rows that nobody writes, T the methods, Q the end, cl the class that the code is of, rk what it gives back (0 nothing, 1 an int, 2 a long, 3 + r one of region r or null, 100 a truth value) -/
def q_step (S : QS) (T : QT) (Q : Int → QM → Prop) (cl : Nat) (code : QC) (rk : Nat) (wr : Bool) (K : QK) (pc : Nat) (ls : QL) (st : List QV) (h : QM) : Prop :=
  match q_at code pc with
  | none => False
  | some (ins, nx, tg) => match ins with
    | .iload k => q_ldI ls k (fun v => K nx ls (v :: st) h)
    | .iload_n k => q_ldI ls k.val (fun v => K nx ls (v :: st) h)
    | .lload k => q_ldL ls k (fun v => K nx ls (v :: st) h)
    | .lload_n k => q_ldL ls k.val (fun v => K nx ls (v :: st) h)
    | .aload k => q_ldA ls k (fun v => K nx ls (v :: st) h)
    | .aload_n k => q_ldA ls k.val (fun v => K nx ls (v :: st) h)
    | .istore k => q_i1 st (fun x r => K nx (q_st1 ls k (.inl x)) r h)
    | .istore_n k => q_i1 st (fun x r => K nx (q_st1 ls k.val (.inl x)) r h)
    | .lstore k => q_l1 st (fun x r => K nx (q_st2 ls k (.inr (.inl x))) r h)
    | .lstore_n k => q_l1 st (fun x r => K nx (q_st2 ls k.val (.inr (.inl x))) r h)
    | .astore k => q_a1 st (fun a r => K nx (q_st1 ls k (.inr (.inr a))) r h)
    | .astore_n k => q_a1 st (fun a r => K nx (q_st1 ls k.val (.inr (.inr a))) r h)
    | .iconst z => K nx ls (.inl z :: st) h
    | .bipush z => K nx ls (.inl z :: st) h
    | .sipush z => K nx ls (.inl z :: st) h
    | .lconst z => (match z with | 0 => K nx ls (.inr (.inl 0) :: st) h | 1 => K nx ls (.inr (.inl 1) :: st) h)
    | .aconst_null => K nx ls (.inr (.inr none) :: st) h
    | .ldc i => (match q_look q_lts cl i with | some z => K nx ls (.inl z :: st) h | none => False)
    | .ldc_w i => (match q_look q_lts cl i with | some z => K nx ls (.inl z :: st) h | none => False)
    | .ldc2_w i => (match q_look q_l2s cl i with | some z => K nx ls (.inr (.inl z) :: st) h | none => False)
    | .iinc k z => q_ldI ls k (fun v => match v with | .inl x => q_ck wr (x + z) (fun y => K nx (q_st1 ls k (.inl y)) st h) | _ => False)
    | .iadd => q_i2 st (fun x y r => q_ck wr (x + y) (fun z => K nx ls (.inl z :: r) h))
    | .isub => q_i2 st (fun x y r => q_ck wr (x - y) (fun z => K nx ls (.inl z :: r) h))
    | .imul => q_i2 st (fun x y r => q_ck wr (x * y) (fun z => K nx ls (.inl z :: r) h))
    | .idiv => q_i2 st (fun x y r => (0 ≤ x ∧ 0 < y) ∧ K nx ls (.inl (x / y) :: r) h)
    | .irem => q_i2 st (fun x y r => (0 ≤ x ∧ 0 < y) ∧ K nx ls (.inl (x % y) :: r) h)
    | .iand => q_i2 st (fun x y r => K nx ls (.inl (q_and x y) :: r) h)
    | .ior => q_i2 st (fun x y r => K nx ls (.inl (q_or x y) :: r) h)
    | .ixor => q_i2 st (fun x y r => K nx ls (.inl (q_xor x y) :: r) h)
    | .ishl => q_i2 st (fun x y r => K nx ls (.inl (q_shl x y) :: r) h)
    | .ishr => q_i2 st (fun x y r => K nx ls (.inl (q_shr x y) :: r) h)
    | .iushr => q_i2 st (fun x y r => K nx ls (.inl (q_ushr x y) :: r) h)
    | .i2l => q_i1 st (fun x r => K nx ls (.inr (.inl x) :: r) h)
    | .i2b => q_i1 st (fun x r => K nx ls (.inl (q_w8 x) :: r) h)
    | .ladd => q_l2 st (fun x y r => q_ck64 wr (x + y) (fun z => K nx ls (.inr (.inl z) :: r) h))
    | .lmul => q_l2 st (fun x y r => q_ck64 wr (x * y) (fun z => K nx ls (.inr (.inl z) :: r) h))
    | .land => q_l2 st (fun x y r => K nx ls (.inr (.inl (q_and64 x y)) :: r) h)
    | .lor => q_l2 st (fun x y r => K nx ls (.inr (.inl (q_or64 x y)) :: r) h)
    | .lxor => q_l2 st (fun x y r => K nx ls (.inr (.inl (q_xor64 x y)) :: r) h)
    | .lshl => q_ls st (fun x y r => K nx ls (.inr (.inl (q_shl64 x y)) :: r) h)
    | .lshr => q_ls st (fun x y r => K nx ls (.inr (.inl (q_shr64 x y)) :: r) h)
    | .lushr => q_ls st (fun x y r => K nx ls (.inr (.inl (q_ushr64 x y)) :: r) h)
    | .lcmp => q_l2 st (fun x y r => K nx ls (.inl (q_lcmp x y) :: r) h)
    | .dup => q_v1 st (fun v r => match q_isL v with | true => False | false => K nx ls (v :: v :: r) h)
    | .dup2 => q_v1 st (fun v r => q_v1 r (fun u r => match q_isL v, q_isL u with | false, false => K nx ls (v :: u :: v :: u :: r) h | _, _ => False))
    | .pop => q_v1 st (fun v r => match q_isL v with | true => False | false => K nx ls r h)
    | .goto _ => q_t1 tg (fun t => K t ls st h)
    | .ifCond c _ => q_i1 st (fun x r => q_t1 tg (fun t => q_cond c x 0 (K t ls r h) (K nx ls r h)))
    | .if_icmp c _ => q_i2 st (fun x y r => q_t1 tg (fun t => q_cond c x y (K t ls r h) (K nx ls r h)))
    | .ifnull _ => q_a1 st (fun a r => q_t1 tg (fun t => match a with | none => K t ls r h | some _ => K nx ls r h))
    | .ifnonnull _ => q_a1 st (fun a r => q_t1 tg (fun t => match a with | none => K nx ls r h | some _ => K t ls r h))
    | .tableswitch _ lo hi _ => q_i1 st (fun x r => match tg with
      | t :: ts => (x < lo ∨ hi < x → K t ls r h) ∧ q_sw x (fun t => K t ls r h) lo ts
      | [] => False)
    | .arraylength => q_r1 st (fun r _ rest => q_alen S r (fun n => K nx ls (.inl n :: rest) h))
    | .iaload => q_ld st (fun r i j rest => q_row S 1 r i h (fun n f => (0 ≤ j ∧ j < n) ∧ K nx ls (.inl (f j) :: rest) h))
    | .laload => q_ld st (fun r i j rest => q_row S 2 r i h (fun n f => (0 ≤ j ∧ j < n) ∧ K nx ls (.inr (.inl (f j)) :: rest) h))
    | .baload => q_ld st (fun r i j rest => q_bal r i j h (fun z => K nx ls (.inl z :: rest) h))
    | .aaload => q_ld st (fun r i j rest => q_aal r i j (fun v => K nx ls (v :: rest) h))
    | .iastore => q_stI st (fun r i j v rest => q_ias 1 r i j v h (fun h' => K nx ls rest h'))
    | .lastore => q_stL st (fun r i j v rest => q_ias 2 r i j v h (fun h' => K nx ls rest h'))
    | .bastore => q_stI st (fun r i j v rest => q_bas r i j v h (fun h' => K nx ls rest h'))
    | .getstatic i => (match q_look q_sts cl i with | some r => K nx ls (.inr (.inr (some (r, 0))) :: st) h | none => False)
    | .getfield i => q_gf cl i st h (fun st' => K nx ls st' h)
    | .putfield i => q_pf cl i st h (fun st' h' => K nx ls st' h')
    | .invokevirtual i => q_call T q_isV (q_look q_cts cl i) st h (fun st' h' => K nx ls st' h')
    | .invokestatic i => (match q_look q_cts cl i with
      | some (kind, b) => (match q_isS kind with
        | true => q_call T q_isS (some (kind, b)) st h (fun st' h' => K nx ls st' h')
        | false => q_sp S kind st h (fun st' h' => K nx ls st' h'))
      | none => False)
    | .ireturn => q_i1 st (fun x r => match r, rk with
      | [], 1 => Q x h
      | [], 100 => (x = 0 ∨ x = 1) ∧ Q x h
      | _, _ => False)
    | .lreturn => q_l1 st (fun x r => match r, rk with
      | [], 2 => Q x h
      | _, _ => False)
    | .return_ => (match st, rk with
      | [], 0 => Q 0 h
      | _, _ => False)
    | .areturn => q_a1 st (fun a r => match r, a with
      | [], none => (match Nat.beq rk 11 with | true => Q (-1) h | false => False)
      | [], some (r0, i) => (match Nat.beq rk (r0 + 3) with | true => Q i h | false => False)
      | _, _ => False)
    | _ => False
