/-! the step machine is sound: a step's demand is a walk's; methods by their step runs -/
def q_rets (p : Program) (l : Launch) (e : Env) (R : Room) (s : State) (m : MethodId) (args : Array Value) (below : List Frame) (meth : Method) (c : Code) (cells slots : Nat) (Qf : State → Prop) (g : QG) (cc : ByteArray) (rk : Nat) (Q : Int → QM → Prop) : Prop :=
  ∀ (z : Int) (h : QM) (pc : Nat) (H : Heap) (locs : List Loc) (L : Array Slot), q_wm h → va_P g.1 vwCl (q_ws g h) H → va_D g.2.2.1 (q_ws g h) → va_S g.2.2.1 s.heap H locs → Q z h →
    (decode cc pc = .ok (.ireturn, 1) → (rk = 1 ∨ (rk = 100 ∧ (z = 0 ∨ z = 1))) → q_i32 z → W p l e R s m args below meth c H locs cells slots Qf (F0 m pc L [.int (Int32.ofInt z)])) ∧
    (decode cc pc = .ok (.lreturn, 1) → rk = 2 → q_i64 z → W p l e R s m args below meth c H locs cells slots Qf (F0 m pc L [.long (Int64.ofInt z)])) ∧
    (decode cc pc = .ok (.return_, 1) → rk = 0 → z = 0 → W p l e R s m args below meth c H locs cells slots Qf (F0 m pc L [])) ∧
    (decode cc pc = .ok (.areturn, 1) → rk = 11 → z = -1 → W p l e R s m args below meth c H locs cells slots Qf (F0 m pc L [.null])) ∧
    ∀ r, decode cc pc = .ok (.areturn, 1) → rk = r + 3 → q_ok r z → W p l e R s m args below meth c H locs cells slots Qf (F0 m pc L [.ref (g.2.1 r z)])
section QSound4
variable {p : Program} {l : Launch} {e : Env} {R : Room} {s : State} {m : MethodId} {args : Array Value} {below : List Frame} {meth : Method} {c : Code} {cells slots : Nat} {Qf : State → Prop} {g : QG} {nL cl d : Nat} {cc : ByteArray}
theorem q_cnt_le (r : Nat) : q_cnt r ≤ 1000 := by
  unfold q_cnt
  have h : ∀ x ∈ q_cnts, x ≤ 1000 := by decide +kernel
  rw [List.getD_eq_getElem?_getD]
  cases hx : q_cnts[r]? with
  | none => show ((0 : Nat) : Int) ≤ 1000; omega
  | some y => have := h y (List.mem_of_getElem? hx); show ((y : Nat) : Int) ≤ 1000; omega
theorem q_fk3_all : (List.range 13).all (fun ci => ((q_get q_fks ci).getD []).all (fun q => !(Nat.beq q.1 3) || Nat.beq (q_sk q.2.1) 0)) = true := by decide +kernel
theorem q_fk3_sk {ci fk r2 : Nat} {j : Int} (h : q_fk ci fk = some (3, r2, j)) : ¬ q_sk r2 ≠ 0 := by
  obtain ⟨h1, l2, h2, h3⟩ := q_fk_lt h
  have a := List.all_eq_true.mp q_fk3_all ci (List.mem_range.mpr h1)
  rw [h2] at a
  have b := List.all_eq_true.mp a _ (List.mem_of_getElem? h3)
  have b : Nat.beq (q_sk r2) 0 = true := b
  exact fun q => q (Nat.eq_of_beq_eq_true b)
theorem q_len1 {pc nx k : Nat} {x : Instr} (hd : decode cc pc = .ok (x, nx - pc)) (hx : Nat.beq nx (pc + k) = true) : nx = pc + k ∧ decode cc pc = .ok (x, k) := by
  have e := Nat.eq_of_beq_eq_true hx
  subst e
  rw [Nat.add_sub_cancel_left] at hd
  exact ⟨rfl, hd⟩
theorem q_and2 {a b : Bool} (h : (a && b) = true) : a = true ∧ b = true := by rw [Bool.and_eq_true] at h; exact h
theorem q_t1_out {pc : Nat} {o : Int} {tg : List Nat} {f : Nat → Prop} (h : q_tok pc o tg = true) (a : q_t1 tg f) : ∃ t : Nat, (pc : Int) + o = (t : Int) ∧ f t := by
  unfold q_t1 at a
  split at a
  · rename_i t
    exact ⟨t, of_decide_eq_true h, a⟩
  · exact a.elim
set_option maxHeartbeats 4000000 in
theorem q_sound {code : QC} {rk : Nat} {wr : Bool} {Q : Int → QM → Prop} (C : q_cx p R s m args c cells slots g nL cl cc) (hL : (g.2.2.2.2.1 : Int) ≤ 100000) (hdp : d + 1 ≤ R.frames ∧ 64 * (d + 1) ≤ R.locals) (hck : q_chk nL cc 0 code = true) (hret : ∀ r0, rk = r0 + 3 → q_sk r0 ≠ 0 → False) (HR : q_rets p l e R s m args below meth c cells slots Qf g cc rk Q) :
    q_clo (q_S g) (q_tr l g d) Q cl code rk wr (q_G p l e R s m args below meth c cells slots Qf g nL) := by
  refine ⟨q_tr_m l g d, ?_, fun b pc ls st h a => q_s_mask b a⟩
  intro pc ls st h a
  unfold q_step at a
  split at a
  · exact a.elim
  · rename_i ins nx tg hat
    have hk := q_at_ok hck hat
    unfold q_eok at hk
    obtain ⟨hk, hx⟩ := q_and2 hk
    obtain ⟨-, hd⟩ := q_and2 hk
    have hd0 := of_decide_eq_true hd
    clear hd
    dsimp only at hd0 hx
    cases ins with
    | iload k =>
      dsimp only at a
      obtain ⟨rfl, hd⟩ := q_len1 (k := 2) hd0 hx
      exact q_s_iload C hd a
    | lload k =>
      dsimp only at a
      obtain ⟨rfl, hd⟩ := q_len1 (k := 2) hd0 hx
      exact q_s_lload C hd a
    | aload k =>
      dsimp only at a
      obtain ⟨rfl, hd⟩ := q_len1 (k := 2) hd0 hx
      exact q_s_aload C hd a
    | iload_n k =>
      dsimp only at a
      obtain ⟨rfl, hd⟩ := q_len1 (k := 1) hd0 hx
      exact q_s_iload_n C hd a
    | lload_n k =>
      dsimp only at a
      obtain ⟨rfl, hd⟩ := q_len1 (k := 1) hd0 hx
      exact q_s_lload_n C hd a
    | aload_n k =>
      dsimp only at a
      obtain ⟨rfl, hd⟩ := q_len1 (k := 1) hd0 hx
      exact q_s_aload_n C hd a
    | istore k =>
      dsimp only at a
      obtain ⟨hk1, hx⟩ := q_and2 hx
      obtain ⟨rfl, hd⟩ := q_len1 (k := 2) hd0 hx
      unfold q_i1 at a
      split at a
      · rename_i x r
        exact q_s_istore C (Nat.le_of_ble_eq_true hk1) hd a
      · exact a.elim
    | istore_n k =>
      dsimp only at a
      obtain ⟨hk1, hx⟩ := q_and2 hx
      obtain ⟨rfl, hd⟩ := q_len1 (k := 1) hd0 hx
      unfold q_i1 at a
      split at a
      · rename_i x r
        exact q_s_istore_n C (Nat.le_of_ble_eq_true hk1) hd a
      · exact a.elim
    | lstore k =>
      dsimp only at a
      obtain ⟨hk1, hx⟩ := q_and2 hx
      obtain ⟨rfl, hd⟩ := q_len1 (k := 2) hd0 hx
      unfold q_l1 at a
      split at a
      · rename_i x r
        exact q_s_lstore C (Nat.le_of_ble_eq_true hk1) hd a
      · exact a.elim
    | lstore_n k =>
      dsimp only at a
      obtain ⟨hk1, hx⟩ := q_and2 hx
      obtain ⟨rfl, hd⟩ := q_len1 (k := 1) hd0 hx
      unfold q_l1 at a
      split at a
      · rename_i x r
        exact q_s_lstore_n C (Nat.le_of_ble_eq_true hk1) hd a
      · exact a.elim
    | astore k =>
      dsimp only at a
      obtain ⟨hk1, hx⟩ := q_and2 hx
      obtain ⟨rfl, hd⟩ := q_len1 (k := 2) hd0 hx
      unfold q_a1 at a
      split at a
      · rename_i x r
        exact q_s_astore C (Nat.le_of_ble_eq_true hk1) hd a
      · exact a.elim
    | astore_n k =>
      dsimp only at a
      obtain ⟨hk1, hx⟩ := q_and2 hx
      obtain ⟨rfl, hd⟩ := q_len1 (k := 1) hd0 hx
      unfold q_a1 at a
      split at a
      · rename_i x r
        exact q_s_astore_n C (Nat.le_of_ble_eq_true hk1) hd a
      · exact a.elim
    | iconst z =>
      dsimp only at a
      obtain ⟨hk1, hx⟩ := q_and2 hx
      obtain ⟨rfl, hd⟩ := q_len1 (k := 1) hd0 hx
      exact q_s_iconst C (of_decide_eq_true hk1) hd a
    | bipush z =>
      dsimp only at a
      obtain ⟨hk1, hx⟩ := q_and2 hx
      obtain ⟨rfl, hd⟩ := q_len1 (k := 2) hd0 hx
      exact q_s_bipush C (of_decide_eq_true hk1) hd a
    | sipush z =>
      dsimp only at a
      obtain ⟨hk1, hx⟩ := q_and2 hx
      obtain ⟨rfl, hd⟩ := q_len1 (k := 3) hd0 hx
      exact q_s_sipush C (of_decide_eq_true hk1) hd a
    | lconst z =>
      dsimp only at a
      obtain ⟨rfl, hd⟩ := q_len1 (k := 1) hd0 hx
      split at a
      · exact q_s_lconst C hd a
      · exact q_s_lconst C hd a
    | aconst_null =>
      dsimp only at a
      obtain ⟨rfl, hd⟩ := q_len1 (k := 1) hd0 hx
      exact q_s_null C hd a
    | ldc i =>
      dsimp only at a
      obtain ⟨rfl, hd⟩ := q_len1 (k := 2) hd0 hx
      split at a
      · rename_i z hz
        exact q_s_ldc C hz hd a
      · exact a.elim
    | ldc_w i =>
      dsimp only at a
      obtain ⟨rfl, hd⟩ := q_len1 (k := 3) hd0 hx
      split at a
      · rename_i z hz
        exact q_s_ldcw C hz hd a
      · exact a.elim
    | ldc2_w i =>
      dsimp only at a
      obtain ⟨rfl, hd⟩ := q_len1 (k := 3) hd0 hx
      split at a
      · rename_i z hz
        exact q_s_ldc2 C hz hd a
      · exact a.elim
    | iinc k z =>
      dsimp only at a
      obtain ⟨hk1, hx⟩ := q_and2 hx
      obtain ⟨rfl, hd⟩ := q_len1 (k := 3) hd0 hx
      unfold q_ldI at a
      split at a
      · rename_i x hx1
        exact q_s_iinc C (Nat.le_of_ble_eq_true hk1) hx1 hd a
      · exact a.elim
    | iadd =>
      dsimp only at a
      obtain ⟨rfl, hd⟩ := q_len1 (k := 1) hd0 hx
      unfold q_i2 at a
      split at a
      · rename_i y x r
        obtain ⟨z, hz, e1, a⟩ := q_ck_out a
        exact q_s_iadd C hz (by rw [← e1, Int32.ofInt_add]) hd a
      · exact a.elim
    | isub =>
      dsimp only at a
      obtain ⟨rfl, hd⟩ := q_len1 (k := 1) hd0 hx
      unfold q_i2 at a
      split at a
      · rename_i y x r
        obtain ⟨z, hz, e1, a⟩ := q_ck_out a
        exact q_s_isub C hz (by rw [← e1, Int32.ofInt_sub]) hd a
      · exact a.elim
    | imul =>
      dsimp only at a
      obtain ⟨rfl, hd⟩ := q_len1 (k := 1) hd0 hx
      unfold q_i2 at a
      split at a
      · rename_i y x r
        obtain ⟨z, hz, e1, a⟩ := q_ck_out a
        exact q_s_imul C hz (by rw [← e1, Int32.ofInt_mul]) hd a
      · exact a.elim
    | idiv =>
      dsimp only at a
      obtain ⟨rfl, hd⟩ := q_len1 (k := 1) hd0 hx
      unfold q_i2 at a
      split at a
      · rename_i y x r
        intro hn hw hs
        have hy : q_i32 y := hs (.inl y) List.mem_cons_self
        have hx1 : q_i32 x := hs (.inl x) (List.mem_cons_of_mem _ List.mem_cons_self)
        have hz : q_i32 (x / y) := by
          have := Int.ediv_le_self y a.1.1; have := Int.ediv_nonneg a.1.1 (Int.le_of_lt a.1.2)
          unfold q_i32 at hx1 hy ⊢
          omega
        exact q_s_idiv C hz (fun q => by have := (q_neq hy q_i0).mp q; omega) (q_ndiv hx1 hy a.1.1 a.1.2) hd a.2 hn hw hs
      · exact a.elim
    | irem =>
      dsimp only at a
      obtain ⟨rfl, hd⟩ := q_len1 (k := 1) hd0 hx
      unfold q_i2 at a
      split at a
      · rename_i y x r
        intro hn hw hs
        have hy : q_i32 y := hs (.inl y) List.mem_cons_self
        have hx1 : q_i32 x := hs (.inl x) (List.mem_cons_of_mem _ List.mem_cons_self)
        have hz : q_i32 (x % y) := by
          have := Int.emod_nonneg x (Int.ne_of_gt a.1.2); have := Int.emod_lt_of_pos x a.1.2
          unfold q_i32 at hx1 hy ⊢
          omega
        exact q_s_irem C hz (fun q => by have := (q_neq hy q_i0).mp q; omega) (q_nrem hx1 hy a.1.1 a.1.2) hd a.2 hn hw hs
      · exact a.elim
    | iand =>
      dsimp only at a
      obtain ⟨rfl, hd⟩ := q_len1 (k := 1) hd0 hx
      unfold q_i2 at a
      split at a
      · rename_i y x r
        exact q_s_iand C (q_bv32 _) (q_nand x y) hd a
      · exact a.elim
    | ior =>
      dsimp only at a
      obtain ⟨rfl, hd⟩ := q_len1 (k := 1) hd0 hx
      unfold q_i2 at a
      split at a
      · rename_i y x r
        exact q_s_ior C (q_bv32 _) (q_nor x y) hd a
      · exact a.elim
    | ixor =>
      dsimp only at a
      obtain ⟨rfl, hd⟩ := q_len1 (k := 1) hd0 hx
      unfold q_i2 at a
      split at a
      · rename_i y x r
        exact q_s_ixor C (q_bv32 _) (q_nxor x y) hd a
      · exact a.elim
    | ishl =>
      dsimp only at a
      obtain ⟨rfl, hd⟩ := q_len1 (k := 1) hd0 hx
      unfold q_i2 at a
      split at a
      · rename_i y x r
        exact q_s_ishl C (q_w32_i _) (q_nshl x y) hd a
      · exact a.elim
    | ishr =>
      dsimp only at a
      obtain ⟨rfl, hd⟩ := q_len1 (k := 1) hd0 hx
      unfold q_i2 at a
      split at a
      · rename_i y x r
        intro hn hw hs
        have hx1 : q_i32 x := hs (.inl x) (List.mem_cons_of_mem _ List.mem_cons_self)
        exact q_s_ishr C (q_shr_i hx1) (q_nshr hx1) hd a hn hw hs
      · exact a.elim
    | iushr =>
      dsimp only at a
      obtain ⟨rfl, hd⟩ := q_len1 (k := 1) hd0 hx
      unfold q_i2 at a
      split at a
      · rename_i y x r
        exact q_s_iushr C hd a
      · exact a.elim
    | i2l =>
      dsimp only at a
      obtain ⟨rfl, hd⟩ := q_len1 (k := 1) hd0 hx
      unfold q_i1 at a
      split at a
      · rename_i x r
        exact q_s_i2l C hd a
      · exact a.elim
    | i2b =>
      dsimp only at a
      obtain ⟨rfl, hd⟩ := q_len1 (k := 1) hd0 hx
      unfold q_i1 at a
      split at a
      · rename_i x r
        exact q_s_i2b C hd a
      · exact a.elim
    | ladd =>
      dsimp only at a
      obtain ⟨rfl, hd⟩ := q_len1 (k := 1) hd0 hx
      unfold q_l2 at a
      split at a
      · rename_i y x r
        obtain ⟨z, hz, e1, a⟩ := q_ck64_out a
        exact q_s_ladd C hz (by rw [← e1, Int64.ofInt_add]) hd a
      · exact a.elim
    | lmul =>
      dsimp only at a
      obtain ⟨rfl, hd⟩ := q_len1 (k := 1) hd0 hx
      unfold q_l2 at a
      split at a
      · rename_i y x r
        obtain ⟨z, hz, e1, a⟩ := q_ck64_out a
        exact q_s_lmul C hz (by rw [← e1, Int64.ofInt_mul]) hd a
      · exact a.elim
    | land =>
      dsimp only at a
      obtain ⟨rfl, hd⟩ := q_len1 (k := 1) hd0 hx
      unfold q_l2 at a
      split at a
      · rename_i y x r
        exact q_s_land C (q_bv64 _) (q_nand64 x y) hd a
      · exact a.elim
    | lor =>
      dsimp only at a
      obtain ⟨rfl, hd⟩ := q_len1 (k := 1) hd0 hx
      unfold q_l2 at a
      split at a
      · rename_i y x r
        exact q_s_lor C (q_bv64 _) (q_nor64 x y) hd a
      · exact a.elim
    | lxor =>
      dsimp only at a
      obtain ⟨rfl, hd⟩ := q_len1 (k := 1) hd0 hx
      unfold q_l2 at a
      split at a
      · rename_i y x r
        exact q_s_lxor C (q_bv64 _) (q_nxor64 x y) hd a
      · exact a.elim
    | lshl =>
      dsimp only at a
      obtain ⟨rfl, hd⟩ := q_len1 (k := 1) hd0 hx
      unfold q_ls at a
      split at a
      · rename_i y x r
        exact q_s_lshl C hd a
      · exact a.elim
    | lshr =>
      dsimp only at a
      obtain ⟨rfl, hd⟩ := q_len1 (k := 1) hd0 hx
      unfold q_ls at a
      split at a
      · rename_i y x r
        exact q_s_lshr C hd a
      · exact a.elim
    | lushr =>
      dsimp only at a
      obtain ⟨rfl, hd⟩ := q_len1 (k := 1) hd0 hx
      unfold q_ls at a
      split at a
      · rename_i y x r
        exact q_s_lushr C hd a
      · exact a.elim
    | lcmp =>
      dsimp only at a
      obtain ⟨rfl, hd⟩ := q_len1 (k := 1) hd0 hx
      unfold q_l2 at a
      split at a
      · rename_i y x r
        exact q_s_lcmp C hd a
      · exact a.elim
    | dup =>
      dsimp only at a
      obtain ⟨rfl, hd⟩ := q_len1 (k := 1) hd0 hx
      unfold q_v1 at a
      split at a
      · rename_i v r
        cases hv : q_isL v with
        | true => rw [hv] at a; exact a.elim
        | false => rw [hv] at a; exact q_s_dup hv C hd a
      · exact a.elim
    | dup2 =>
      dsimp only at a
      obtain ⟨rfl, hd⟩ := q_len1 (k := 1) hd0 hx
      unfold q_v1 at a
      split at a
      · rename_i v r
        split at a
        · rename_i u r2
          cases hv : q_isL v with
          | true => rw [hv] at a; exact a.elim
          | false =>
            cases hu : q_isL u with
            | true => rw [hv, hu] at a; exact a.elim
            | false => rw [hv, hu] at a; exact q_s_dup2 hv hu C hd a
        · exact a.elim
      · exact a.elim
    | pop =>
      dsimp only at a
      obtain ⟨rfl, hd⟩ := q_len1 (k := 1) hd0 hx
      unfold q_v1 at a
      split at a
      · rename_i v r
        cases hv : q_isL v with
        | true => rw [hv] at a; exact a.elim
        | false => rw [hv] at a; exact q_s_pop hv C hd a
      · exact a.elim
    | goto o =>
      dsimp only at a
      obtain ⟨hk1, hx⟩ := q_and2 hx
      obtain ⟨rfl, hd⟩ := q_len1 (k := 3) hd0 hx
      obtain ⟨t, ht, a⟩ := q_t1_out hk1 a
      exact q_s_goto C hd ht a
    | ifCond cd o =>
      dsimp only at a
      obtain ⟨hk1, hx⟩ := q_and2 hx
      obtain ⟨rfl, hd⟩ := q_len1 (k := 3) hd0 hx
      unfold q_i1 at a
      split at a
      · rename_i x r
        obtain ⟨t, ht, a⟩ := q_t1_out hk1 a
        exact q_s_if C hd ht a
      · exact a.elim
    | if_icmp cd o =>
      dsimp only at a
      obtain ⟨hk1, hx⟩ := q_and2 hx
      obtain ⟨rfl, hd⟩ := q_len1 (k := 3) hd0 hx
      unfold q_i2 at a
      split at a
      · rename_i y x r
        obtain ⟨t, ht, a⟩ := q_t1_out hk1 a
        exact q_s_icmp C hd ht a
      · exact a.elim
    | ifnull o =>
      dsimp only at a
      obtain ⟨hk1, hx⟩ := q_and2 hx
      obtain ⟨rfl, hd⟩ := q_len1 (k := 3) hd0 hx
      unfold q_a1 at a
      split at a
      · rename_i x r
        obtain ⟨t, ht, a⟩ := q_t1_out hk1 a
        exact q_s_ifnull C hd ht a
      · exact a.elim
    | ifnonnull o =>
      dsimp only at a
      obtain ⟨hk1, hx⟩ := q_and2 hx
      obtain ⟨rfl, hd⟩ := q_len1 (k := 3) hd0 hx
      unfold q_a1 at a
      split at a
      · rename_i x r
        obtain ⟨t, ht, a⟩ := q_t1_out hk1 a
        exact q_s_ifnonnull C hd ht a
      · exact a.elim
    | tableswitch d1 lo hi os =>
      dsimp only at a
      unfold q_i1 at a
      split at a
      · rename_i x r
        split at a
        · rename_i t ts
          exact q_s_tsw C hd0 (of_decide_eq_true hx) a.1 a.2
        · exact a.elim
      · exact a.elim
    | arraylength =>
      dsimp only at a
      obtain ⟨rfl, hd⟩ := q_len1 (k := 1) hd0 hx
      unfold q_r1 at a
      split at a
      · rename_i r0 i0 r
        exact q_s_alen C hL hd a
      · exact a.elim
    | iaload =>
      dsimp only at a
      obtain ⟨rfl, hd⟩ := q_len1 (k := 1) hd0 hx
      unfold q_ld at a
      split at a
      · rename_i j r0 i0 r
        exact q_s_iaload C hd a
      · exact a.elim
    | laload =>
      dsimp only at a
      obtain ⟨rfl, hd⟩ := q_len1 (k := 1) hd0 hx
      unfold q_ld at a
      split at a
      · rename_i j r0 i0 r
        exact q_s_laload C hd a
      · exact a.elim
    | baload =>
      dsimp only at a
      obtain ⟨rfl, hd⟩ := q_len1 (k := 1) hd0 hx
      unfold q_ld at a
      split at a
      · rename_i j r0 i0 r
        exact q_s_baload C hd a
      · exact a.elim
    | aaload =>
      dsimp only at a
      obtain ⟨rfl, hd⟩ := q_len1 (k := 1) hd0 hx
      unfold q_ld at a
      split at a
      · rename_i j r0 i0 r
        exact q_s_aaload C hd a
      · exact a.elim
    | iastore =>
      dsimp only at a
      obtain ⟨rfl, hd⟩ := q_len1 (k := 1) hd0 hx
      unfold q_stI at a
      split at a
      · rename_i v j r0 i0 r
        exact q_s_iastore C hd a
      · exact a.elim
    | bastore =>
      dsimp only at a
      obtain ⟨rfl, hd⟩ := q_len1 (k := 1) hd0 hx
      unfold q_stI at a
      split at a
      · rename_i v j r0 i0 r
        exact q_s_bastore C hd a
      · exact a.elim
    | lastore =>
      dsimp only at a
      obtain ⟨rfl, hd⟩ := q_len1 (k := 1) hd0 hx
      unfold q_stL at a
      split at a
      · rename_i v j r0 i0 r
        exact q_s_lastore C hd a
      · exact a.elim
    | getstatic i =>
      dsimp only at a
      obtain ⟨rfl, hd⟩ := q_len1 (k := 3) hd0 hx
      split at a
      · rename_i r0 hr0
        exact q_s_getstatic C hr0 hd a
      · exact a.elim
    | getfield i =>
      dsimp only at a
      obtain ⟨rfl, hd⟩ := q_len1 (k := 3) hd0 hx
      unfold q_gf q_r1 at a
      split at a
      · rename_i r0 i0 rest
        split at a
        · rename_i ci fk hf
          cases hb : Nat.beq ci r0 with
          | false => rw [hb] at a; exact a.elim
          | true =>
            rw [hb] at a
            have e1 := Nat.eq_of_beq_eq_true hb
            subst e1
            intro hn hw hs hm H locs L hP hD hS hl
            obtain ⟨hv, hs1⟩ := List.forall_mem_cons.mp hs
            have key : ∀ x, q_fk ci fk = some x → ∀ v : QV, q_cv g v = q_fv g h ci i0 x → q_wv v → q_G p l e R s m args below meth c cells slots Qf g nL (pc + 3) ls (v :: rest) h → W p l e R s m args below meth c H locs cells slots Qf (F0 m pc L (.ref (g.2.1 ci i0) :: rest.map (q_cv g))) := by
              intro x hx v ev wv a
              refine q_s_getfield C hf hx (q_ok_of hv (Or.inl (q_fk_lt hx).1)) hd hP ?_
              rw [← ev]
              exact a hn hw (List.forall_mem_cons.mpr ⟨wv, hs1⟩) hm H locs L hP hD hS hl
            dsimp only at a
            split at a
            · rename_i r2 j hfk
              have hkd := q_kd hfk
              unfold q_kdok at hkd
              simp only [Bool.and_eq_true, Bool.not_eq_true'] at hkd
              exact key _ hfk (.inl (h ci i0 j)) rfl ((hm.1 ci i0 j).2 hkd.2.2) a
            · rename_i r2 j hfk
              exact key _ hfk (.inr (.inl (h ci i0 j))) rfl (hm.1 ci i0 j).1 a
            · rename_i r2 j hfk
              have hkd := q_kd hfk
              unfold q_kdok at hkd
              simp only [Bool.and_eq_true, decide_eq_true_eq] at hkd
              have ho := q_ok_of hv (Or.inl (q_fk_lt hfk).1)
              exact key _ hfk (.inr (.inr (some (r2, i0)))) rfl (Or.inl ⟨ho.1, Int.lt_of_lt_of_le ho.2 hkd.2⟩) a
            · rename_i r2 j hfk
              refine key _ hfk (.inr (.inr (some (r2, h ci i0 j)))) ?_ (Or.inl ⟨a.1, hm.2 ci fk r2 j hfk i0⟩) a.2
              show Value.ref _ = if h ci i0 j < 0 then _ else _
              rw [if_neg (by omega)]
            · exact a.elim
        · exact a.elim
      · exact a.elim
    | putfield i =>
      dsimp only at a
      obtain ⟨rfl, hd⟩ := q_len1 (k := 3) hd0 hx
      unfold q_pf at a
      split at a
      · rename_i v r0 i0 rest
        split at a
        · rename_i ci fk hf
          cases hb : Nat.beq ci r0 with
          | false => rw [hb] at a; exact a.elim
          | true =>
            rw [hb] at a
            have e1 := Nat.eq_of_beq_eq_true hb
            subst e1
            intro hn hw hs hm H locs L hP hD hS hl
            obtain ⟨hz, hs1⟩ := List.forall_mem_cons.mp hs
            obtain ⟨hv, hs2⟩ := List.forall_mem_cons.mp hs1
            dsimp only at a
            split at a
            · rename_i r2 j z hfk
              refine q_s_putfield (z := z) C hf hfk (by show (0 : Nat) ≠ 2; decide) (q_ok_of hv (Or.inl (q_fk_lt hfk).1)) hd hP hD hS (by show Value.int _ = Value.int _; rw [q_qu_self]) (Or.inl ⟨rfl, _, rfl⟩) (fun H1 locs1 a1 a2 a3 => a hn hw hs2 (q_wm_qu hm (q_i64_of hz) (fun _ => hz) (fun fk2 r3 q => absurd (q_fk_uniq hfk q).1 (by decide))) H1 locs1 L a1 a2 a3 hl)
            · rename_i r2 j z hfk
              have hkd := q_kd hfk
              unfold q_kdok at hkd
              simp only [Bool.and_eq_true] at hkd
              refine q_s_putfield (z := z) C hf hfk (by show (1 : Nat) ≠ 2; decide) (q_ok_of hv (Or.inl (q_fk_lt hfk).1)) hd hP hD hS (by show Value.long _ = Value.long _; rw [q_qu_self]) (Or.inr (Or.inl ⟨rfl, _, rfl⟩)) (fun H1 locs1 a1 a2 a3 => a hn hw hs2 (q_wm_qu hm hz (fun q => by rw [hkd.2.2] at q; cases q) (fun fk2 r3 q => absurd (q_fk_uniq hfk q).1 (by decide))) H1 locs1 L a1 a2 a3 hl)
            · rename_i r2 j r3 i3 hfk
              cases hb2 : Nat.beq r2 r3 with
              | false => rw [hb2] at a; exact a.elim
              | true =>
                rw [hb2] at a
                have e2 := Nat.eq_of_beq_eq_true hb2
                subst e2
                have hcn : q_cnt r2 ≤ 1000 := q_cnt_le r2
                have hok : q_ok r2 i3 := by
                  rcases hz with hz | hz
                  · exact hz
                  · exact absurd hz.1 (q_fk3_sk hfk)
                have hi3 : q_i32 i3 := by have := hok.1; have := hok.2; unfold q_i32; omega
                refine q_s_putfield (z := i3) C hf hfk (by show (3 : Nat) ≠ 2; decide) (q_ok_of hv (Or.inl (q_fk_lt hfk).1)) hd hP hD hS (by show Value.ref _ = if _ < 0 then _ else Value.ref _; rw [q_qu_self, if_neg (by have := hok.1; omega)]) (Or.inr (Or.inr ⟨rfl, _, rfl⟩)) (fun H1 locs1 a1 a2 a3 => a hn hw hs2 (q_wm_qu hm (q_i64_of hi3) (fun _ => hi3) (fun fk2 r3 q => by have := (q_fk_uniq hfk q).2; subst this; exact hok.2)) H1 locs1 L a1 a2 a3 hl)
            · exact a.elim
        · exact a.elim
      · exact a.elim
    | invokevirtual i =>
      dsimp only at a
      obtain ⟨rfl, hd⟩ := q_len1 (k := 3) hd0 hx
      unfold q_call at a
      split at a
      · rename_i kind mno n rk2 ci hc
        cases hkd : q_isV kind with
        | false => rw [hkd] at a; exact a.elim
        | true =>
          rw [hkd] at a
          have hk0 : kind = 0 := Nat.eq_of_beq_eq_true hkd
          dsimp only at a
          split at a
          · rename_i as rest hsp
            cases hcat : Nat.ble (q_cat rest) 8 with
            | false => rw [hcat] at a; exact a.elim
            | true =>
              rw [hcat] at a
              subst hk0
              dsimp only at a
              rcases as with _ | ⟨v, As⟩
              · exact False.elim a
              · rcases v with z | z | _ | ⟨r0, i0⟩
                · exact False.elim a
                · exact False.elim a
                · exact False.elim a
                · cases hb : Nat.beq r0 ci with
                  | false => unfold q_rcv at a; dsimp only at a; rw [hb] at a; exact False.elim a
                  | true =>
                    unfold q_rcv at a
                    dsimp only at a
                    rw [hb] at a
                    exact q_s_callV C hdp rfl hc hsp (Nat.eq_of_beq_eq_true hb) (Nat.le_of_ble_eq_true hcat) hd a
          · exact a.elim
      · exact a.elim
    | invokestatic i =>
      dsimp only at a
      obtain ⟨rfl, hd⟩ := q_len1 (k := 3) hd0 hx
      split at a
      · rename_i kind b hc
        obtain ⟨mno, n, rk2, ci⟩ := b
        cases hkd : q_isS kind with
        | false => rw [hkd] at a; exact q_s_sp C hc hd a
        | true =>
          rw [hkd] at a
          have hk0 : kind = 1 ∨ kind = 2 := by
            obtain ⟨h1, h2⟩ := q_and2 hkd
            have := Nat.le_of_ble_eq_true h1
            have := Nat.le_of_ble_eq_true h2
            omega
          unfold q_call at a
          dsimp only at a
          rw [hkd] at a
          dsimp only at a
          split at a
          · rename_i as rest hsp
            cases hcat : Nat.ble (q_cat rest) 8 with
            | false => rw [hcat] at a; exact a.elim
            | true =>
              rw [hcat] at a
              refine q_s_callS C hdp hk0 hc hsp (Nat.le_of_ble_eq_true hcat) hd ?_
              rcases hk0 with rfl | rfl <;> exact a
          · exact a.elim
      · exact a.elim
    | ireturn =>
      dsimp only at a
      obtain ⟨rfl, hd⟩ := q_len1 (k := 1) hd0 hx
      unfold q_i1 at a
      split at a
      · rename_i x r
        intro hn hw hs hm H locs L hP hD hS hl
        have hz : q_i32 x := hs (.inl x) List.mem_cons_self
        split at a
        · exact (HR x h pc H locs L hm hP hD hS a).1 hd (Or.inl rfl) hz
        · exact (HR x h pc H locs L hm hP hD hS a.2).1 hd (Or.inr ⟨rfl, a.1⟩) hz
        · exact a.elim
      · exact a.elim
    | lreturn =>
      dsimp only at a
      obtain ⟨rfl, hd⟩ := q_len1 (k := 1) hd0 hx
      unfold q_l1 at a
      split at a
      · rename_i x r
        intro hn hw hs hm H locs L hP hD hS hl
        have hz : q_i64 x := hs (.inr (.inl x)) List.mem_cons_self
        split at a
        · exact (HR x h pc H locs L hm hP hD hS a).2.1 hd rfl hz
        · exact a.elim
      · exact a.elim
    | return_ =>
      dsimp only at a
      obtain ⟨rfl, hd⟩ := q_len1 (k := 1) hd0 hx
      intro hn hw hs hm H locs L hP hD hS hl
      split at a
      · exact (HR 0 h pc H locs L hm hP hD hS a).2.2.1 hd rfl rfl
      · exact a.elim
    | areturn =>
      dsimp only at a
      obtain ⟨rfl, hd⟩ := q_len1 (k := 1) hd0 hx
      unfold q_a1 at a
      split at a
      · rename_i x r
        intro hn hw hs hm H locs L hP hD hS hl
        have hz := hs (.inr (.inr x)) List.mem_cons_self
        split at a
        · cases hb : Nat.beq rk 11 with
          | false => rw [hb] at a; exact a.elim
          | true => rw [hb] at a; exact (HR (-1) h pc H locs L hm hP hD hS a).2.2.2.1 hd (Nat.eq_of_beq_eq_true hb) rfl
        · rename_i r0 i0
          cases hb : Nat.beq rk (r0 + 3) with
          | false => rw [hb] at a; exact a.elim
          | true =>
            rw [hb] at a
            have e1 := Nat.eq_of_beq_eq_true hb
            rcases hz with hz | hz
            · exact (HR i0 h pc H locs L hm hP hD hS a).2.2.2.2 r0 hd e1 hz
            · exfalso
              exact hret r0 e1 hz.1
        · exact a.elim
      · exact a.elim
    | _ => exact a.elim
end QSound4
