/-! the construction machine -/
/-- a cell in the making: a row of a kind (0 bytes 1 ints 2 longs 3 booleans 4 5 6 7 references), its length, what was put in; or an object -/
abbrev QCE : Type := (Nat × Nat × List (Nat × Int)) ⊕ (Nat × List QV)
def c_df (q : Nat × Nat × Int) : QV := match q.1 with
  | 0 => .inl 0
  | 1 => .inr (.inl 0)
  | _ => .inr (.inr none)
def c_fs (ci : Nat) : List QV := match q_get q_fks ci with
  | some l => l.map c_df
  | none => []
def c_ix (E : List QCE) : QV := .inr (.inr (some (0, (E.length : Int))))
def c_kd (t : ClassFile.ArrayType) : Nat := match t with
  | .byte => 0
  | .int => 1
  | .long => 2
  | .boolean => 3
  | _ => 9
def c_set : List QCE → Nat → QCE → List QCE
  | [], _, _ => []
  | _ :: l, 0, e => e :: l
  | x :: l, n + 1, e => x :: c_set l n e
def c_vset : List QV → Nat → QV → List QV
  | [], _, _ => []
  | _ :: l, 0, e => e :: l
  | x :: l, n + 1, e => x :: c_vset l n e
def c_rep : Nat → QCE → List QCE
  | 0, _ => []
  | n + 1, e => e :: c_rep n e
def c_up (a b n : Nat) : List (Nat × Int) := (List.range n).map (fun i => (a + i, ((b + i : Nat) : Int)))
/-- rows of references that a class makes: class, place of the link, kind -/
def c_anl : List (Nat × Nat × Nat) := [(11, 37, 4), (6, 11, 5), (2, 11, 6)]
def c_an : List (Nat × Nat × Nat) → Nat → Nat → Option Nat
  | [], _, _ => none
  | (c, i, k) :: l, cl, idx => match Nat.beq c cl && Nat.beq i idx with
    | true => some k
    | false => c_an l cl idx
/-- which class stands in a row of references -/
def c_ac (kd ci : Nat) : Bool := (Nat.beq kd 4 && Nat.beq ci 2) || (Nat.beq kd 5 && Nat.beq ci 4) || (Nat.beq kd 6 && Nat.beq ci 8)
def c_par (n : Nat) : Nat := match n with
  | 13 => 7
  | 14 => 2
  | _ => 0
abbrev QCR : Type := Option (Option QV × List QCE)
def c_go (b : Bool) (k : QCR) : QCR := match b with
  | true => k
  | false => none
def c_ldI (ls : QL) (k : Nat) (f : Int → QCR) : QCR := match q_get ls k with
  | some (some (.inl z)) => f z
  | _ => none
def c_ldL (ls : QL) (k : Nat) (f : Int → QCR) : QCR := match q_get ls k with
  | some (some (.inr (.inl z))) => f z
  | _ => none
def c_ldA (ls : QL) (k : Nat) (f : Nat × Int → QCR) : QCR := match q_get ls k with
  | some (some (.inr (.inr (some a)))) => f a
  | _ => none
def c_i1 (st : List QV) (f : Int → List QV → QCR) : QCR := match st with
  | .inl x :: r => f x r
  | _ => none
def c_i2 (st : List QV) (f : Int → Int → List QV → QCR) : QCR := match st with
  | .inl y :: .inl x :: r => f x y r
  | _ => none
def c_l2 (st : List QV) (f : Int → Int → List QV → QCR) : QCR := match st with
  | .inr (.inl y) :: .inr (.inl x) :: r => f x y r
  | _ => none
def c_r1 (st : List QV) (f : Nat × Int → List QV → QCR) : QCR := match st with
  | .inr (.inr (some a)) :: r => f a r
  | _ => none
def c_vr (st : List QV) (f : QV → Nat × Int → List QV → QCR) : QCR := match st with
  | v :: .inr (.inr (some a)) :: r => f v a r
  | _ => none
def c_aa (st : List QV) (f : Nat × Int → Int → Nat × Int → List QV → QCR) : QCR := match st with
  | .inr (.inr (some b)) :: .inl j :: .inr (.inr (some a)) :: r => f b j a r
  | _ => none
def c_la (st : List QV) (f : Int → Int → Nat × Int → List QV → QCR) : QCR := match st with
  | .inr (.inl v) :: .inl j :: .inr (.inr (some a)) :: r => f v j a r
  | _ => none
def c_t1 (tg : List Nat) (f : Nat → QCR) : QCR := match tg with
  | [t] => f t
  | _ => none
def c_rw (E : List QCE) (a : Nat) (f : Nat → Nat → List (Nat × Int) → QCR) : QCR := match q_get E a with
  | some (.inl (k, n, ov)) => f k n ov
  | _ => none
def c_obj (E : List QCE) (a : Nat) (f : Nat → List QV → QCR) : QCR := match q_get E a with
  | some (.inr (ci, fs)) => f ci fs
  | _ => none
def c_fld (cl i : Nat) (f : Nat → Nat → QCR) : QCR := match q_look q_fts cl i with
  | some (ci, k) => f ci k
  | none => none
def c_som {α : Type} (o : Option α) (f : α → QCR) : QCR := match o with
  | some x => f x
  | none => none
def c_pk (ci k : Nat) (v : QV) : Bool := match q_fk ci k, v with
  | some (0, _, _), .inl _ => true
  | some (1, _, _), .inr (.inl _) => true
  | some (2, _, _), .inr (.inr (some _)) => true
  | some (3, _, _), .inr (.inr (some _)) => true
  | _, _ => false
def c_b32 (z : Int) : Bool := decide (-2147483648 ≤ z ∧ z ≤ 2147483647)
def c_bn (n : Int) : Bool := decide (0 ≤ n ∧ n ≤ 100000)
def c_bj (j : Int) (n : Nat) : Bool := decide (0 ≤ j ∧ j < n ∧ n ≤ 100000)
def c_void (o : QCR) (f : List QCE → QCR) : QCR := match o with
  | some (none, E) => f E
  | _ => none
def c_long (o : QCR) (f : Int → List QCE → QCR) : QCR := match o with
  | some (some (.inr (.inl z)), E) => f z E
  | _ => none
def c_nil (b : Bool) (st : List QV) (E : List QCE) : QCR := match b, st with
  | false, [] => some (none, E)
  | _, _ => none
def c_one (b : Bool) (st : List QV) (E : List QCE) : QCR := match b, st with
  | true, [.inr (.inl z)] => some (some (.inr (.inl z)), E)
  | _, _ => none
def c_run (calls : Nat → List QV → List QCE → QCR) (cl : Nat) (rv : Bool) (code : QC) : Nat → Nat → QL → List QV → List QCE → QCR
  | 0, _, _, _, _ => none
  | f + 1, pc, ls, st, E => c_go (Nat.blt pc 400) (match q_at code pc with
    | none => none
    | some (ins, nx, tg) => match ins with
      | .aload_n k => c_ldA ls k.val (fun a => c_run calls cl rv code f nx ls (.inr (.inr (some a)) :: st) E)
      | .iload_n k => c_ldI ls k.val (fun z => c_run calls cl rv code f nx ls (.inl z :: st) E)
      | .iload k => c_ldI ls k (fun z => c_run calls cl rv code f nx ls (.inl z :: st) E)
      | .lload_n k => c_ldL ls k.val (fun z => c_run calls cl rv code f nx ls (.inr (.inl z) :: st) E)
      | .istore_n k => c_i1 st (fun x r => c_run calls cl rv code f nx (q_st1 ls k.val (.inl x)) r E)
      | .iconst z => c_run calls cl rv code f nx ls (.inl z :: st) E
      | .bipush z => c_run calls cl rv code f nx ls (.inl z :: st) E
      | .sipush z => c_run calls cl rv code f nx ls (.inl z :: st) E
      | .ldc2_w i => c_som (q_look q_l2s cl i) (fun z => c_run calls cl rv code f nx ls (.inr (.inl z) :: st) E)
      | .dup => c_r1 st (fun a r => c_run calls cl rv code f nx ls (.inr (.inr (some a)) :: .inr (.inr (some a)) :: r) E)
      | .iinc k z => c_ldI ls k (fun x => c_run calls cl rv code f nx (q_st1 ls k (.inl (x + z))) st E)
      | .iadd => c_i2 st (fun x y r => c_run calls cl rv code f nx ls (.inl (x + y) :: r) E)
      | .isub => c_i2 st (fun x y r => c_run calls cl rv code f nx ls (.inl (x - y) :: r) E)
      | .i2l => c_i1 st (fun x r => c_go (c_b32 x) (c_run calls cl rv code f nx ls (.inr (.inl x) :: r) E))
      | .ladd => c_l2 st (fun x y r => c_run calls cl rv code f nx ls (.inr (.inl (x + y)) :: r) E)
      | .lmul => c_l2 st (fun x y r => c_run calls cl rv code f nx ls (.inr (.inl (x * y)) :: r) E)
      | .lconst z => c_run calls cl rv code f nx ls (.inr (.inl (z.val : Int)) :: st) E
      | .goto _ => c_t1 tg (fun t => c_run calls cl rv code f t ls st E)
      | .if_icmp .ge _ => c_i2 st (fun x y r => c_go (c_b32 x && c_b32 y) (c_t1 tg (fun t => if y ≤ x then c_run calls cl rv code f t ls r E else c_run calls cl rv code f nx ls r E)))
      | .ifCond .ne _ => c_i1 st (fun x r => c_go (c_b32 x) (c_t1 tg (fun t => if x = 0 then c_run calls cl rv code f nx ls r E else c_run calls cl rv code f t ls r E)))
      | .new i => c_som (q_look c_news cl i) (fun ci => c_run calls cl rv code f nx ls (c_ix E :: st) (E ++ [.inr (ci, c_fs ci)]))
      | .newarray t => c_i1 st (fun n r => c_go (c_bn n && Nat.blt (c_kd t) 4) (c_run calls cl rv code f nx ls (c_ix E :: r) (E ++ [.inl (c_kd t, n.toNat, [])])))
      | .anewarray i => c_i1 st (fun n r => c_go (c_bn n) (c_som (c_an c_anl cl i) (fun k => c_run calls cl rv code f nx ls (c_ix E :: r) (E ++ [.inl (k, n.toNat, [])]))))
      | .multianewarray i d => c_i2 st (fun n k r => c_go (Nat.beq cl 10 && (Nat.beq i 13 && Nat.beq d 2) && (c_bn n && c_bn k)) (c_run calls cl rv code f nx ls (c_ix E :: r) (E ++ (.inl (7, n.toNat, c_up 0 (E.length + 1) n.toNat) :: c_rep n.toNat (.inl (1, k.toNat, []))))))
      | .putfield i => c_vr st (fun v a r => c_fld cl i (fun ci k => c_obj E a.2.toNat (fun cj fs => c_go (Nat.beq ci cl && Nat.beq cj cl && Nat.blt k fs.length && c_pk ci k v && !rv) (c_run calls cl rv code f nx ls r (c_set E a.2.toNat (.inr (cj, c_vset fs k v)))))))
      | .getfield i => c_r1 st (fun a r => c_fld cl i (fun ci k => c_obj E a.2.toNat (fun cj fs => c_som (q_fk ci k) (fun _ => c_go (Nat.beq cj ci) (c_som (q_get fs k) (fun v => c_run calls cl rv code f nx ls (v :: r) E))))))
      | .arraylength => c_r1 st (fun a r => c_rw E a.2.toNat (fun k n _ => c_go (Nat.blt k 8) (c_run calls cl rv code f nx ls (.inl (n : Int) :: r) E)))
      | .aastore => c_aa st (fun b j a r => c_rw E a.2.toNat (fun kd n ov => c_obj E b.2.toNat (fun ci _ => c_go (c_bj j n && c_ac kd ci) (c_run calls cl rv code f nx ls r (c_set E a.2.toNat (.inl (kd, n, (j.toNat, b.2) :: ov)))))))
      | .lastore => c_la st (fun v j a r => c_rw E a.2.toNat (fun kd n ov => c_go (c_bj j n && Nat.beq kd 2) (c_run calls cl rv code f nx ls r (c_set E a.2.toNat (.inl (kd, n, (j.toNat, v) :: ov))))))
      | .invokespecial i => c_r1 st (fun a r => c_go (Nat.ble (q_cat r) 8) (c_som (q_look c_links cl i) (fun m => match Nat.beq m 99 with
        | true => c_run calls cl rv code f nx ls r E
        | false => c_go (Nat.blt m 13) (c_void (calls m [.inr (.inr (some a))] E) (fun E' => c_run calls cl rv code f nx ls r E')))))
      | .invokestatic i => c_som (q_look c_links cl i) (fun m => c_go ((Nat.beq m 13 || Nat.beq m 14) && Nat.beq cl 12) (match q_split (c_par m) [] st with
        | some (a, st') => c_go (Nat.ble (q_cat st') 8) (c_long (calls m a E) (fun z E' => c_run calls cl rv code f nx ls (.inr (.inl z) :: st') E'))
        | none => none))
      | .return_ => c_nil rv st E
      | .lreturn => c_one rv st E
      | _ => none)
def c_exec : Nat → Nat → List QV → List QCE → QCR
  | 0, _, _, _ => none
  | d + 1, n, a, E => match q_get c_ms n with
    | some (cl, code, nL) => c_go (Nat.ble (q_ent a).length nL) (c_run (c_exec d) cl (Nat.ble 13 n) code 400 0 (q_entry nL a) [] E)
    | none => none
/-- both made: the program's, then the model's -/
def c_one1 : QCR := c_exec 6 11 [.inr (.inr (some (0, 0)))] [.inr (11, c_fs 11)]
def c_mid : List QCE := match c_one1 with
  | some (_, E) => E
  | none => []
def c_two1 (E : List QCE) : QCR := c_exec 6 12 [.inr (.inr (some (0, (E.length : Int))))] (E ++ [.inr (12, c_fs 12)])
def c_all : List QCE := match c_two1 c_mid with
  | some (_, E') => E'
  | none => []
theorem c_all_len : 200 < c_all.length := by decide +kernel
theorem c_one1_ok : (match c_one1 with | some (none, _) => true | _ => false) = true := by decide +kernel
theorem c_two1_ok : (match c_two1 c_mid with | some (none, _) => true | _ => false) = true := by decide +kernel
