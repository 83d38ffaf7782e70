/-! the same facts for any class number; what a code table must fulfil -/
theorem q_get_eq {α : Type} : ∀ (l : List α) (n : Nat), q_get l n = l[n]?
  | [], n => by simp [q_get]
  | a :: l, 0 => by simp [q_get]
  | a :: l, n + 1 => by
    show q_get l n = _
    rw [q_get_eq l n]
    simp
theorem q_find2_mem {α : Type} : ∀ (l : List (Nat × α)) (n : Nat) (a : α), q_find2 l n = some a → (n, a) ∈ l
  | [], _, _, h => by cases h
  | (i, b) :: l, n, a, h => by
    have h : (match Nat.beq i n with | true => some b | false => q_find2 l n) = some a := h
    cases hb : Nat.beq i n with
    | true =>
      rw [hb] at h
      cases h
      have : i = n := Nat.eq_of_beq_eq_true hb
      subst this
      exact List.mem_cons_self
    | false =>
      rw [hb] at h
      exact List.mem_cons_of_mem _ (q_find2_mem l n a h)
theorem q_look_mem {α : Type} {l : List (List (Nat × α))} {c n : Nat} {a : α} (h : q_look l c n = some a) : (n, a) ∈ (q_get l c).getD [] := by
  unfold q_look at h
  cases hc : q_get l c with
  | none => rw [hc] at h; cases h
  | some x => rw [hc] at h; exact q_find2_mem x n a h
theorem q_big {α : Type} {l : List (List α)} {n : Nat} (h : l.length ≤ n) : (q_get l n).getD [] = [] := by
  rw [q_get_eq, List.getElem?_eq_none h]
  rfl
theorem q_all {α : Type} (l : List (List α)) (f : Nat → α → Jvm.Cond) (h : ∀ c, c < l.length → ∀ w ∈ ((q_get l c).getD []).map (f c), q_in w) : ∀ (c : Nat), ∀ q ∈ (q_get l c).getD [], q_in (f c q) := by
  intro c q hq
  rcases Nat.lt_or_ge c l.length with a | a
  · exact h c a _ (List.mem_map.mpr ⟨q, hq, rfl⟩)
  · rw [q_big a] at hq; cases hq
theorem q_15 {P : Nat → Prop} (h0 : P 0) (h1 : P 1) (h2 : P 2) (h3 : P 3) (h4 : P 4) (h5 : P 5) (h6 : P 6) (h7 : P 7) (h8 : P 8) (h9 : P 9) (h10 : P 10) (h11 : P 11) (h12 : P 12) (h13 : P 13) (h14 : P 14) : ∀ c, c < 15 → P c := by
  intro c hc
  have : c = 0 ∨ c = 1 ∨ c = 2 ∨ c = 3 ∨ c = 4 ∨ c = 5 ∨ c = 6 ∨ c = 7 ∨ c = 8 ∨ c = 9 ∨ c = 10 ∨ c = 11 ∨ c = 12 ∨ c = 13 ∨ c = 14 := by omega
  rcases this with rfl | rfl | rfl | rfl | rfl | rfl | rfl | rfl | rfl | rfl | rfl | rfl | rfl | rfl | rfl <;> assumption
theorem q_ff : ∀ c, ∀ q ∈ (q_get q_fts c).getD [], q_in (q_fw c q) := q_all q_fts q_fw (q_15 q_ff0 q_ff1 q_ff2 q_ff3 q_ff4 q_ff5 q_ff6 q_ff7 q_ff8 q_ff9 q_ff10 q_ff11 q_ff12 q_ff13 q_ff14)
theorem q_fc : ∀ c, ∀ q ∈ (q_get q_cts c).getD [], q_in (q_mw c q) := q_all q_cts q_mw (q_15 q_fc0 q_fc1 q_fc2 q_fc3 q_fc4 q_fc5 q_fc6 q_fc7 q_fc8 q_fc9 q_fc10 q_fc11 q_fc12 q_fc13 q_fc14)
theorem q_fsx : ∀ c, ∀ q ∈ (q_get q_sts c).getD [], q_in (q_sw1 c q) := q_all q_sts q_sw1 (q_15 q_fs0 q_fs1 q_fs2 q_fs3 q_fs4 q_fs5 q_fs6 q_fs7 q_fs8 q_fs9 q_fs10 q_fs11 q_fs12 q_fs13 q_fs14)
theorem q_fl : ∀ c, ∀ q ∈ (q_get q_lts c).getD [], q_in (Jvm.Cond.constant (q_cn c) q.1 (Int32.ofInt q.2)) := q_all q_lts (fun c q => Jvm.Cond.constant (q_cn c) q.1 (Int32.ofInt q.2)) (q_15 q_fl0 q_fl1 q_fl2 q_fl3 q_fl4 q_fl5 q_fl6 q_fl7 q_fl8 q_fl9 q_fl10 q_fl11 q_fl12 q_fl13 q_fl14)
theorem q_f2 : ∀ c, ∀ q ∈ (q_get q_l2s c).getD [], q_in (Jvm.Cond.constantLong (q_cn c) q.1 (Int64.ofInt q.2)) := q_all q_l2s (fun c q => Jvm.Cond.constantLong (q_cn c) q.1 (Int64.ofInt q.2)) (q_15 q_f20 q_f21 q_f22 q_f23 q_f24 q_f25 q_f26 q_f27 q_f28 q_f29 q_f210 q_f211 q_f212 q_f213 q_f214)
def q_N (ci : Nat) : Nat := match q_get vwCl ci with
  | some q => q.2.2
  | none => 0
theorem q_13 {P : Nat → Prop} (h0 : P 0) (h1 : P 1) (h2 : P 2) (h3 : P 3) (h4 : P 4) (h5 : P 5) (h6 : P 6) (h7 : P 7) (h8 : P 8) (h9 : P 9) (h10 : P 10) (h11 : P 11) (h12 : P 12) : ∀ c, c < 13 → P c := by
  intro c hc
  have : c = 0 ∨ c = 1 ∨ c = 2 ∨ c = 3 ∨ c = 4 ∨ c = 5 ∨ c = 6 ∨ c = 7 ∨ c = 8 ∨ c = 9 ∨ c = 10 ∨ c = 11 ∨ c = 12 := by omega
  rcases this with rfl | rfl | rfl | rfl | rfl | rfl | rfl | rfl | rfl | rfl | rfl | rfl | rfl <;> assumption
theorem q_fu : ∀ c, c < 13 → ∀ w ∈ u_ws (q_cn c) (q_T c) (q_N c), q_in w := q_13 q_fu0 q_fu1 q_fu2 q_fu3 q_fu4 q_fu5 q_fu6 q_fu7 q_fu8 q_fu9 q_fu10 q_fu11 q_fu12
theorem q_cl : ∀ c, c < 13 → vwCl[c]? = some (q_cn c, q_T c, q_N c) := q_13 rfl rfl rfl rfl rfl rfl rfl rfl rfl rfl rfl rfl rfl
def q_tyF (ci : Nat) : Nat → FieldType := match ci with
  | 0 => tyX0 | 1 => tyX1 | 2 => tyX2 | 3 => tyX3 | 4 => tyX4 | 5 => tyX5 | 6 => tyX6 | 7 => tyX7 | 8 => tyX8 | 9 => tyX9 | 10 => tyX10 | 11 => tyX11 | _ => tyX12
theorem q_tyok : ∀ c, c < 13 → ∀ k, k < q_N c → parseFieldDescriptor (q_T c k).2.2.1 = some (q_tyF c k) := q_13 tyX0_ok tyX1_ok tyX2_ok tyX3_ok tyX4_ok tyX5_ok tyX6_ok tyX7_ok tyX8_ok tyX9_ok tyX10_ok tyX11_ok tyX12_ok
theorem q_nmok : ∀ c, c < 13 → ∀ a, a < q_N c → ∀ b, b < q_N c → a ≠ b → (q_T c a).2.1 ≠ (q_T c b).2.1 := q_13 nmX0 nmX1 nmX2 nmX3 nmX4 nmX5 nmX6 nmX7 nmX8 nmX9 nmX10 nmX11 nmX12
def q_kdok (ci fk : Nat) (e : Nat × Nat × Int) : Bool := Nat.blt fk (q_N ci) && decide (e.2.2 = (fk : Int)) && decide ((q_T ci fk).1 = q_cn ci) && (match e.1 with
  | 0 => decide (q_tyF ci fk = .int) && !(q_T ci fk).2.2.2 && !(q_il ci e.2.2)
  | 1 => decide (q_tyF ci fk = .long) && !(q_T ci fk).2.2.2 && q_il ci e.2.2
  | 2 => decide (q_cnt ci ≤ q_cnt e.2.1)
  | 3 => (q_tyF ci fk).isReference && !(q_T ci fk).2.2.2 && !(q_il ci e.2.2)
  | _ => false)
theorem q_kd_all : (List.range 13).all (fun ci => ((q_get q_fks ci).getD []).zipIdx.all (fun q => q_kdok ci q.2 q.1)) = true := by decide +kernel
theorem q_fk_lt {ci fk : Nat} {e : Nat × Nat × Int} (h : q_fk ci fk = some e) : ci < 13 ∧ ∃ l, q_get q_fks ci = some l ∧ l[fk]? = some e := by
  unfold q_fk at h
  cases hc : q_get q_fks ci with
  | none => rw [hc] at h; cases h
  | some l =>
    rw [hc] at h
    refine ⟨?_, l, rfl, by rw [← q_get_eq]; exact h⟩
    rw [q_get_eq] at hc
    exact (List.getElem?_eq_some_iff.mp hc).1
theorem q_kd {ci fk : Nat} {e : Nat × Nat × Int} (h : q_fk ci fk = some e) : q_kdok ci fk e = true := by
  obtain ⟨h1, l, h2, h3⟩ := q_fk_lt h
  have a := List.all_eq_true.mp q_kd_all ci (List.mem_range.mpr h1)
  rw [h2] at a
  refine List.all_eq_true.mp a (e, fk) ?_
  rw [List.mem_zipIdx_iff_getElem?]
  exact h3
theorem q_ar_lo {r : Nat} (h : r < 13) : q_ar r = none := by
  unfold q_ar
  have : Nat.ble 13 r = false := by
    cases hb : Nat.ble 13 r with
    | false => rfl
    | true => have := Nat.le_of_ble_eq_true hb; omega
  rw [this]
theorem q_ar_hi {r : Nat} {x : Nat × Int × Nat × Int} (h : q_ar r = some x) : 13 ≤ r ∧ x ∈ q_ars := by
  unfold q_ar at h
  cases hb : Nat.ble 13 r with
  | false => rw [hb] at h; cases h
  | true =>
    rw [hb] at h
    refine ⟨Nat.le_of_ble_eq_true hb, ?_⟩
    have h : q_get q_ars (r - 13) = some x := h
    rw [q_get_eq] at h
    exact List.mem_of_getElem? h
theorem q_ars_ok : ∀ x ∈ q_ars, x.1 < 8 ∧ 0 ≤ x.2.1 ∧ x.2.1 ≤ 100000 := by decide +kernel
/-- the elements of a row of references stand in their region -/
def q_refok (r : Nat) : Bool := match q_ar r with
  | some (6, n, to, a) => decide (0 ≤ a ∧ a * (q_cnt r - 1) + n ≤ q_cnt to)
  | some (4, n, to, _) => decide (n ≤ q_cnt to)
  | some (5, n, to, _) => decide (n ≤ q_cnt to)
  | some (7, n, to, _) => decide (n ≤ q_cnt to)
  | _ => true
theorem q_refok_all : (List.range 200).all q_refok = true := by decide +kernel
theorem q_ar_200 {r : Nat} (h : 200 ≤ r) : q_ar r = none := by
  unfold q_ar
  have : Nat.ble 13 r = true := Nat.ble_eq_true_of_le (by omega)
  rw [this]
  show q_get q_ars (r - 13) = none
  rw [q_get_eq]
  exact List.getElem?_eq_none (by have : q_ars.length = 59 := by decide +kernel
                                  omega)
theorem q_refok_at (r : Nat) : q_refok r = true := by
  rcases Nat.lt_or_ge r 200 with a | a
  · exact List.all_eq_true.mp q_refok_all r (List.mem_range.mpr a)
  · unfold q_refok
    rw [q_ar_200 a]
/-! code tables -/
def q_ilen : Instr → Nat
  | .iload _ => 2 | .lload _ => 2 | .aload _ => 2 | .istore _ => 2 | .lstore _ => 2 | .astore _ => 2
  | .bipush _ => 2 | .sipush _ => 3 | .ldc _ => 2 | .ldc_w _ => 3 | .ldc2_w _ => 3 | .iinc _ _ => 3
  | .goto _ => 3 | .ifCond _ _ => 3 | .if_icmp _ _ => 3 | .ifnull _ => 3 | .ifnonnull _ => 3
  | .getstatic _ => 3 | .getfield _ => 3 | .putfield _ => 3 | .invokevirtual _ => 3 | .invokestatic _ => 3
  | _ => 1
def q_tok (pc : Nat) (o : Int) (tg : List Nat) : Bool := match tg with
  | [t] => decide ((pc : Int) + o = (t : Int))
  | _ => false
def q_xok (nL pc : Nat) (ins : Instr) (nx : Nat) (tg : List Nat) : Bool := match ins with
  | .istore k => Nat.blt k nL && Nat.beq nx (pc + 2)
  | .istore_n k => Nat.blt k.val nL && Nat.beq nx (pc + 1)
  | .lstore k => Nat.blt (k + 1) nL && Nat.beq nx (pc + 2)
  | .lstore_n k => Nat.blt (k.val + 1) nL && Nat.beq nx (pc + 1)
  | .astore k => Nat.blt k nL && Nat.beq nx (pc + 2)
  | .astore_n k => Nat.blt k.val nL && Nat.beq nx (pc + 1)
  | .iinc k _ => Nat.blt k nL && Nat.beq nx (pc + 3)
  | .iconst z => decide (-128 ≤ z ∧ z ≤ 127) && Nat.beq nx (pc + 1)
  | .bipush z => decide (-128 ≤ z ∧ z ≤ 127) && Nat.beq nx (pc + 2)
  | .sipush z => decide (-32768 ≤ z ∧ z ≤ 32767) && Nat.beq nx (pc + 3)
  | .goto o => q_tok pc o tg && Nat.beq nx (pc + 3)
  | .ifCond _ o => q_tok pc o tg && Nat.beq nx (pc + 3)
  | .if_icmp _ o => q_tok pc o tg && Nat.beq nx (pc + 3)
  | .ifnull o => q_tok pc o tg && Nat.beq nx (pc + 3)
  | .ifnonnull o => q_tok pc o tg && Nat.beq nx (pc + 3)
  | .tableswitch d lo hi os => decide ((d :: os.toList).map (fun o => (pc : Int) + o) = tg.map (fun (t : Nat) => (t : Int)) ∧ (os.size : Int) = hi - lo + 1)
  | _ => Nat.beq nx (pc + q_ilen ins)
def q_eok (nL : Nat) (cc : ByteArray) (pc : Nat) (e : QE) : Bool := Nat.blt pc e.2.1 && decide (decode cc pc = .ok (e.1, e.2.1 - pc)) && q_xok nL pc e.1 e.2.1 e.2.2
def q_row16 (nL : Nat) (cc : ByteArray) : Nat → List (Option QE) → Bool
  | _, [] => true
  | pc, none :: l => q_row16 nL cc (pc + 1) l
  | pc, some e :: l => q_eok nL cc pc e && q_row16 nL cc (pc + 1) l
def q_chk (nL : Nat) (cc : ByteArray) : Nat → QC → Bool
  | _, [] => true
  | a, l :: ls => Nat.ble l.length 16 && q_row16 nL cc (16 * a) l && q_chk nL cc (a + 1) ls
theorem q_row16_ok {nL : Nat} {cc : ByteArray} : ∀ (l : List (Option QE)) (pc : Nat), q_row16 nL cc pc l = true → ∀ n e, q_get l n = some (some e) → q_eok nL cc (pc + n) e = true
  | [], _, _, n, e, h => by cases n <;> cases h
  | none :: l, pc, hc, 0, e, h => by cases h
  | none :: l, pc, hc, n + 1, e, h => by
    have := q_row16_ok l (pc + 1) hc n e h
    rwa [show pc + 1 + n = pc + (n + 1) by omega] at this
  | some x :: l, pc, hc, 0, e, h => by
    have hc : (q_eok nL cc pc x && q_row16 nL cc (pc + 1) l) = true := hc
    rw [Bool.and_eq_true] at hc
    cases h
    exact hc.1
  | some x :: l, pc, hc, n + 1, e, h => by
    have hc : (q_eok nL cc pc x && q_row16 nL cc (pc + 1) l) = true := hc
    rw [Bool.and_eq_true] at hc
    have := q_row16_ok l (pc + 1) hc.2 n e h
    rwa [show pc + 1 + n = pc + (n + 1) by omega] at this
theorem q_chk_row {nL : Nat} {cc : ByteArray} : ∀ (c : QC) (a : Nat), q_chk nL cc a c = true → ∀ n l, q_get c n = some l → q_row16 nL cc (16 * (a + n)) l = true
  | [], _, _, n, l, h => by cases n <;> cases h
  | x :: c, a, hc, 0, l, h => by
    have hc : (Nat.ble x.length 16 && q_row16 nL cc (16 * a) x && q_chk nL cc (a + 1) c) = true := hc
    rw [Bool.and_eq_true, Bool.and_eq_true] at hc
    cases h
    exact hc.1.2
  | x :: c, a, hc, n + 1, l, h => by
    have hc : (Nat.ble x.length 16 && q_row16 nL cc (16 * a) x && q_chk nL cc (a + 1) c) = true := hc
    rw [Bool.and_eq_true, Bool.and_eq_true] at hc
    have := q_chk_row c (a + 1) hc.2 n l h
    rwa [show a + 1 + n = a + (n + 1) by omega] at this
theorem q_at_ok {nL : Nat} {cc : ByteArray} {c : QC} (hc : q_chk nL cc 0 c = true) {pc : Nat} {e : QE} (h : q_at c pc = some e) : q_eok nL cc pc e = true := by
  unfold q_at at h
  cases h1 : q_get c (pc / 16) with
  | none => rw [h1] at h; cases h
  | some l =>
    rw [h1] at h
    have h : (match q_get l (pc % 16) with | some (some e) => some e | _ => none) = some e := h
    have hr := q_chk_row c 0 hc _ l h1
    cases h2 : q_get l (pc % 16) with
    | none => rw [h2] at h; cases h
    | some y =>
      rw [h2] at h
      cases y with
      | none => cases h
      | some e' =>
        cases h
        have := q_row16_ok l _ hr _ _ h2
        rwa [show 16 * (0 + pc / 16) + pc % 16 = pc by omega] at this
