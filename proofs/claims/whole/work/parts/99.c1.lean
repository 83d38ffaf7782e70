/-! the construction machine -/
/-- a cell in the making: a row of a kind (0 bytes 1 ints 2 longs 3 booleans 4 5 6 7 references), its length, what was put in; or an object -/
abbrev QCE : Type := (Nat × Nat × List (Nat × Int)) ⊕ (Nat × List QV)
def c_df (q : Nat × Nat × Int) : QV := match q.1 with
  | 0 => .inl 0
  | 1 => .inr (.inl 0)
  | _ => .inr (.inr none)
def c_fs (ci : Nat) : List QV := match q_get q_fks ci with
  | some l => l.map c_df
  | none => []
def c_ix (E : List QCE) : QV := .inr (.inr (some (0, (E.length : Int))))
def c_kd (t : ClassFile.ArrayType) : Nat := match t with
  | .byte => 0
  | .int => 1
  | .long => 2
  | .boolean => 3
  | _ => 9
def c_set : List QCE → Nat → QCE → List QCE
  | [], _, _ => []
  | _ :: l, 0, e => e :: l
  | x :: l, n + 1, e => x :: c_set l n e
def c_vset : List QV → Nat → QV → List QV
  | [], _, _ => []
  | _ :: l, 0, e => e :: l
  | x :: l, n + 1, e => x :: c_vset l n e
def c_rep : Nat → QCE → List QCE
  | 0, _ => []
  | n + 1, e => e :: c_rep n e
def c_up (a b n : Nat) : List (Nat × Int) := (List.range n).map (fun i => (a + i, ((b + i : Nat) : Int)))
/-- the kind of the rows of references that a class makes -/
def c_ak (cl : Nat) : Nat := match cl with
  | 11 => 4
  | 6 => 5
  | 2 => 6
  | _ => 9
abbrev QCR : Type := Option (Option QV × List QCE)
def c_ld (ls : QL) (k : Nat) (f : QV → QCR) : QCR := match q_get ls k with
  | some (some v) => f v
  | _ => none
def c_run (calls : Nat → List QV → List QCE → QCR) (cl : Nat) (code : QC) : Nat → Nat → QL → List QV → List QCE → QCR
  | 0, _, _, _, _ => none
  | f + 1, pc, ls, st, E => match q_at code pc with
    | none => none
    | some (ins, nx, tg) => match ins, st with
      | .aload_n k, st => c_ld ls k.val (fun v => c_run calls cl code f nx ls (v :: st) E)
      | .iload_n k, st => c_ld ls k.val (fun v => c_run calls cl code f nx ls (v :: st) E)
      | .iload k, st => c_ld ls k (fun v => c_run calls cl code f nx ls (v :: st) E)
      | .lload_n k, st => c_ld ls k.val (fun v => c_run calls cl code f nx ls (v :: st) E)
      | .istore_n k, v :: st => c_run calls cl code f nx (q_st1 ls k.val v) st E
      | .iconst z, st => c_run calls cl code f nx ls (.inl z :: st) E
      | .bipush z, st => c_run calls cl code f nx ls (.inl z :: st) E
      | .sipush z, st => c_run calls cl code f nx ls (.inl z :: st) E
      | .lconst z, st => c_run calls cl code f nx ls (.inr (.inl (z.val : Int)) :: st) E
      | .ldc2_w _, st => c_run calls cl code f nx ls (.inr (.inl 27) :: st) E
      | .dup, v :: st => c_run calls cl code f nx ls (v :: v :: st) E
      | .iinc k z, st => c_ld ls k (fun v => match v with
        | .inl x => c_run calls cl code f nx (q_st1 ls k (.inl (x + z))) st E
        | _ => none)
      | .iadd, .inl y :: .inl x :: st => c_run calls cl code f nx ls (.inl (x + y) :: st) E
      | .isub, .inl y :: .inl x :: st => c_run calls cl code f nx ls (.inl (x - y) :: st) E
      | .i2l, .inl x :: st => c_run calls cl code f nx ls (.inr (.inl x) :: st) E
      | .ladd, .inr (.inl y) :: .inr (.inl x) :: st => c_run calls cl code f nx ls (.inr (.inl (x + y)) :: st) E
      | .lmul, .inr (.inl y) :: .inr (.inl x) :: st => c_run calls cl code f nx ls (.inr (.inl (x * y)) :: st) E
      | .goto _, st => (match tg with
        | t :: _ => c_run calls cl code f t ls st E
        | [] => none)
      | .if_icmp .ge _, .inl y :: .inl x :: st => (match tg with
        | t :: _ => if y ≤ x then c_run calls cl code f t ls st E else c_run calls cl code f nx ls st E
        | [] => none)
      | .ifCond .ne _, .inl x :: st => (match tg with
        | t :: _ => if x = 0 then c_run calls cl code f nx ls st E else c_run calls cl code f t ls st E
        | [] => none)
      | .new i, st => (match q_look c_news cl i with
        | some ci => c_run calls cl code f nx ls (c_ix E :: st) (E ++ [.inr (ci, c_fs ci)])
        | none => none)
      | .newarray t, .inl n :: st => c_run calls cl code f nx ls (c_ix E :: st) (E ++ [.inl (c_kd t, n.toNat, [])])
      | .anewarray _, .inl n :: st => c_run calls cl code f nx ls (c_ix E :: st) (E ++ [.inl (c_ak cl, n.toNat, [])])
      | .multianewarray _ _, .inl k :: .inl n :: st => c_run calls cl code f nx ls (c_ix E :: st) (E ++ (.inl (7, n.toNat, c_up 0 (E.length + 1) n.toNat) :: c_rep n.toNat (.inl (1, k.toNat, []))))
      | .putfield i, v :: .inr (.inr (some (_, a))) :: st => (match q_look q_fts cl i, q_get E a.toNat with
        | some (_, k), some (.inr (ci, fs)) => c_run calls cl code f nx ls st (c_set E a.toNat (.inr (ci, c_vset fs k v)))
        | _, _ => none)
      | .getfield i, .inr (.inr (some (_, a))) :: st => (match q_look q_fts cl i, q_get E a.toNat with
        | some (_, k), some (.inr (_, fs)) => (match q_get fs k with
          | some v => c_run calls cl code f nx ls (v :: st) E
          | none => none)
        | _, _ => none)
      | .arraylength, .inr (.inr (some (_, a))) :: st => (match q_get E a.toNat with
        | some (.inl (_, n, _)) => c_run calls cl code f nx ls (.inl (n : Int) :: st) E
        | _ => none)
      | .aastore, .inr (.inr (some (_, b))) :: .inl j :: .inr (.inr (some (_, a))) :: st => (match q_get E a.toNat with
        | some (.inl (kd, n, ov)) => c_run calls cl code f nx ls st (c_set E a.toNat (.inl (kd, n, (j.toNat, b) :: ov)))
        | _ => none)
      | .lastore, .inr (.inl v) :: .inl j :: .inr (.inr (some (_, a))) :: st => (match q_get E a.toNat with
        | some (.inl (kd, n, ov)) => c_run calls cl code f nx ls st (c_set E a.toNat (.inl (kd, n, (j.toNat, v) :: ov)))
        | _ => none)
      | .invokespecial i, v :: st => (match q_look c_links cl i with
        | some m => if m = 99 then c_run calls cl code f nx ls st E else (match calls m [v] E with
          | some (_, E') => c_run calls cl code f nx ls st E'
          | none => none)
        | none => none)
      | .invokestatic i, st => (match q_look c_links cl i with
        | some m => (match q_split (if m = 13 then 7 else 2) [] st with
          | some (a, st') => (match calls m a E with
            | some (some w, E') => c_run calls cl code f nx ls (w :: st') E'
            | _ => none)
          | none => none)
        | none => none)
      | .return_, _ => some (none, E)
      | .lreturn, v :: _ => some (some v, E)
      | _, _ => none
def c_exec : Nat → Nat → List QV → List QCE → QCR
  | 0, _, _, _ => none
  | d + 1, n, a, E => match q_get c_ms n with
    | some (cl, code, nL) => c_run (c_exec d) cl code 400 0 (q_entry nL a) [] E
    | none => none
/-- both made: the program's, then the model's -/
def c_all : List QCE := match c_exec 6 11 [.inr (.inr (some (0, 0)))] [.inr (11, c_fs 11)] with
  | some (_, E) => (match c_exec 6 12 [.inr (.inr (some (0, (E.length : Int))))] (E ++ [.inr (12, c_fs 12)]) with
    | some (_, E') => E'
    | none => [])
  | none => []
theorem c_all_len : 200 < c_all.length := by decide +kernel
