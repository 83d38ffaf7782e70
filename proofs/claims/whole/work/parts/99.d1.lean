/-! the constructors: words of the tables, checks, by program -/
abbrev c_MT : Type := MethodName × ByteArray × Nat × Option FieldType
def c_mt : List c_MT := [(yX0_init, cX0_init, 1, none), (yX1_init, cX1_init, 1, none), (yX2_init, cX2_init, 2, none), (yX3_init, cX3_init, 1, none), (yX4_init, cX4_init, 1, none), (yX5_init, cX5_init, 1, none), (yX6_init, cX6_init, 2, none), (yX7_init, cX7_init, 1, none), (yX8_init, cX8_init, 1, none), (yX9_init, cX9_init, 1, none), (yX10_init, cX10_init, 1, none), (yX11_init, cX11_init, 2, none), (yX12_init, cX12_init, 1, none), (yX12_letters, cX12_letters, 7, (some .long)), (yX12_appends, cX12_appends, 3, (some .long))]
def c_m0 : c_MT := (⟨"", "", ""⟩, ⟨#[]⟩, 0, none)
def c_mm (n : Nat) : c_MT := c_mt.getD n c_m0
def c_lw (cl : Nat) (q : Nat × Nat) : Jvm.Cond := match Nat.beq q.2 99 with
  | true => .methodLink (q_cn cl) q.1 objectInit
  | false => .methodLink (q_cn cl) q.1 (c_mm q.2).1
def c_nw (cl : Nat) (q : Nat × Nat) : Jvm.Cond := .classLink (q_cn cl) q.1 (q_cn q.2)
def c_anC (k : Nat) : String := match k with
  | 4 => "StepSums$Hall"
  | 5 => "StepSums$Line"
  | _ => "StepSums$StepSet"
theorem c_fk0 : ∀ w ∈ ((q_get c_links 0).getD []).map (c_lw 0), q_in w := q_lst _ [372] (by decide +kernel) (by decide +kernel)
theorem c_fk1 : ∀ w ∈ ((q_get c_links 1).getD []).map (c_lw 1), q_in w := q_lst _ [217] (by decide +kernel) (by decide +kernel)
theorem c_fk2 : ∀ w ∈ ((q_get c_links 2).getD []).map (c_lw 2), q_in w := q_lst _ [237, 241] (by decide +kernel) (by decide +kernel)
theorem c_fk3 : ∀ w ∈ ((q_get c_links 3).getD []).map (c_lw 3), q_in w := q_lst _ [334] (by decide +kernel) (by decide +kernel)
theorem c_fk4 : ∀ w ∈ ((q_get c_links 4).getD []).map (c_lw 4), q_in w := q_lst _ [129] (by decide +kernel) (by decide +kernel)
theorem c_fk5 : ∀ w ∈ ((q_get c_links 5).getD []).map (c_lw 5), q_in w := q_lst _ [204] (by decide +kernel) (by decide +kernel)
theorem c_fk6 : ∀ w ∈ ((q_get c_links 6).getD []).map (c_lw 6), q_in w := q_lst _ [122, 126] (by decide +kernel) (by decide +kernel)
theorem c_fk7 : ∀ w ∈ ((q_get c_links 7).getD []).map (c_lw 7), q_in w := q_lst _ [356] (by decide +kernel) (by decide +kernel)
theorem c_fk8 : ∀ w ∈ ((q_get c_links 8).getD []).map (c_lw 8), q_in w := q_lst _ [244] (by decide +kernel) (by decide +kernel)
theorem c_fk9 : ∀ w ∈ ((q_get c_links 9).getD []).map (c_lw 9), q_in w := q_lst _ [108] (by decide +kernel) (by decide +kernel)
theorem c_fk10 : ∀ w ∈ ((q_get c_links 10).getD []).map (c_lw 10), q_in w := q_lst _ [298] (by decide +kernel) (by decide +kernel)
theorem c_fk11 : ∀ w ∈ ((q_get c_links 11).getD []).map (c_lw 11), q_in w := q_lst _ [100, 105, 119, 201, 214, 234, 295, 331, 353, 369] (by decide +kernel) (by decide +kernel)
theorem c_fk12 : ∀ w ∈ ((q_get c_links 12).getD []).map (c_lw 12), q_in w := q_lst _ [1091, 1092, 1095] (by decide +kernel) (by decide +kernel)
theorem c_fk : ∀ c, c < 13 → ∀ w ∈ ((q_get c_links c).getD []).map (c_lw c), q_in w := q_13 c_fk0 c_fk1 c_fk2 c_fk3 c_fk4 c_fk5 c_fk6 c_fk7 c_fk8 c_fk9 c_fk10 c_fk11 c_fk12
theorem c_fn0 : ∀ w ∈ ((q_get c_news 0).getD []).map (c_nw 0), q_in w := q_lst _ [] (by decide +kernel) (by decide +kernel)
theorem c_fn1 : ∀ w ∈ ((q_get c_news 1).getD []).map (c_nw 1), q_in w := q_lst _ [] (by decide +kernel) (by decide +kernel)
theorem c_fn2 : ∀ w ∈ ((q_get c_news 2).getD []).map (c_nw 2), q_in w := q_lst _ [238] (by decide +kernel) (by decide +kernel)
theorem c_fn3 : ∀ w ∈ ((q_get c_news 3).getD []).map (c_nw 3), q_in w := q_lst _ [] (by decide +kernel) (by decide +kernel)
theorem c_fn4 : ∀ w ∈ ((q_get c_news 4).getD []).map (c_nw 4), q_in w := q_lst _ [] (by decide +kernel) (by decide +kernel)
theorem c_fn5 : ∀ w ∈ ((q_get c_news 5).getD []).map (c_nw 5), q_in w := q_lst _ [] (by decide +kernel) (by decide +kernel)
theorem c_fn6 : ∀ w ∈ ((q_get c_news 6).getD []).map (c_nw 6), q_in w := q_lst _ [123] (by decide +kernel) (by decide +kernel)
theorem c_fn7 : ∀ w ∈ ((q_get c_news 7).getD []).map (c_nw 7), q_in w := q_lst _ [] (by decide +kernel) (by decide +kernel)
theorem c_fn8 : ∀ w ∈ ((q_get c_news 8).getD []).map (c_nw 8), q_in w := q_lst _ [] (by decide +kernel) (by decide +kernel)
theorem c_fn9 : ∀ w ∈ ((q_get c_news 9).getD []).map (c_nw 9), q_in w := q_lst _ [] (by decide +kernel) (by decide +kernel)
theorem c_fn10 : ∀ w ∈ ((q_get c_news 10).getD []).map (c_nw 10), q_in w := q_lst _ [] (by decide +kernel) (by decide +kernel)
theorem c_fn11 : ∀ w ∈ ((q_get c_news 11).getD []).map (c_nw 11), q_in w := q_lst _ [103, 117, 199, 212, 231, 293, 329, 351, 367] (by decide +kernel) (by decide +kernel)
theorem c_fn12 : ∀ w ∈ ((q_get c_news 12).getD []).map (c_nw 12), q_in w := q_lst _ [] (by decide +kernel) (by decide +kernel)
theorem c_fn : ∀ c, c < 13 → ∀ w ∈ ((q_get c_news c).getD []).map (c_nw c), q_in w := q_13 c_fn0 c_fn1 c_fn2 c_fn3 c_fn4 c_fn5 c_fn6 c_fn7 c_fn8 c_fn9 c_fn10 c_fn11 c_fn12
theorem c_fi : ∀ w ∈ (List.range 13).map (fun c => Jvm.Cond.instantiable (q_cn c) (q_N c)), q_in w := q_lst _ [368, 213, 233, 330, 125, 200, 118, 352, 240, 104, 294, 96, 1087] (by decide +kernel) (by decide +kernel)
theorem c_fz : ∀ w ∈ (List.range 13).map (fun c => Jvm.Cond.initialized (q_cn c)), q_in w := q_lst _ [90, 84, 85, 88, 82, 83, 81, 89, 86, 80, 87, 79, 91] (by decide +kernel) (by decide +kernel)
theorem c_fm : ∀ w ∈ (List.range 13).map (fun n => Jvm.Cond.instanceMethod (c_mm n).1), q_in w := q_lst _ [370, 215, 235, 332, 127, 202, 120, 354, 242, 106, 296, 98, 1089] (by decide +kernel) (by decide +kernel)
theorem c_fs2 : ∀ w ∈ [Jvm.Cond.static (c_mm 13).1, .static (c_mm 14).1], q_in w := q_lst _ [1093, 1096] (by decide +kernel) (by decide +kernel)
theorem c_fa : ∀ w ∈ [Jvm.Cond.arrayClass .byte, .arrayClass .int, .arrayClass .long, .arrayClass .boolean], q_in w := q_lst _ [116, 165, 164, 282] (by decide +kernel) (by decide +kernel)
theorem c_fo : ∀ w ∈ [Jvm.Cond.instanceMethod objectInit, .code objectInit ⟨#[0xb1]⟩ 1 none], q_in w := q_lst _ [101, 102] (by decide +kernel) (by decide +kernel)
theorem c_fy : ∀ w ∈ c_anl.map (fun q => Jvm.Cond.classLink (q_cn q.1) q.2.1 (c_anC q.2.2)), q_in w := q_lst _ [231, 123, 238] (by decide +kernel) (by decide +kernel)
theorem c_fw : ∀ w ∈ [Jvm.Cond.classLink (q_cn 10) 13 "[[I"], q_in w := q_lst _ [299] (by decide +kernel) (by decide +kernel)
def c_aos : List Jvm.Cond := [.arrayOver (.object "StepSums$Hall"), .arrayOver (.object "StepSums$Line"), .arrayOver (.object "StepSums$StepSet"), .arrayOver (.array .int)]
theorem c_fao : ∀ w ∈ c_aos, w ∈ lw_tbl := by
  have h : c_aos = [232, 124, 239, 300].filterMap (fun i => lw_tbl[i]?) := by decide +kernel
  intro w hw; rw [h] at hw; obtain ⟨i, -, hi⟩ := List.mem_filterMap.mp hw; exact List.mem_of_getElem? hi
theorem c_cw0 : q_in (.code yX0_init cX0_init 1 none) := List.mem_filter.mpr ⟨List.mem_append_right _ (List.mem_append_right _ (List.mem_append_left _ (List.mem_of_getElem? (i := 53) rfl))), rfl⟩
theorem c_cw1 : q_in (.code yX1_init cX1_init 1 none) := List.mem_filter.mpr ⟨List.mem_append_right _ (List.mem_append_left _ (List.mem_of_getElem? (i := 138) rfl)), rfl⟩
theorem c_cw2 : q_in (.code yX2_init cX2_init 2 none) := List.mem_filter.mpr ⟨List.mem_append_right _ (List.mem_append_left _ (List.mem_of_getElem? (i := 158) rfl)), rfl⟩
theorem c_cw3 : q_in (.code yX3_init cX3_init 1 none) := List.mem_filter.mpr ⟨List.mem_append_right _ (List.mem_append_right _ (List.mem_append_left _ (List.mem_of_getElem? (i := 15) rfl))), rfl⟩
theorem c_cw4 : q_in (.code yX4_init cX4_init 1 none) := List.mem_filter.mpr ⟨List.mem_append_right _ (List.mem_append_left _ (List.mem_of_getElem? (i := 50) rfl)), rfl⟩
theorem c_cw5 : q_in (.code yX5_init cX5_init 1 none) := List.mem_filter.mpr ⟨List.mem_append_right _ (List.mem_append_left _ (List.mem_of_getElem? (i := 125) rfl)), rfl⟩
theorem c_cw6 : q_in (.code yX6_init cX6_init 2 none) := List.mem_filter.mpr ⟨List.mem_append_right _ (List.mem_append_left _ (List.mem_of_getElem? (i := 43) rfl)), rfl⟩
theorem c_cw7 : q_in (.code yX7_init cX7_init 1 none) := List.mem_filter.mpr ⟨List.mem_append_right _ (List.mem_append_right _ (List.mem_append_left _ (List.mem_of_getElem? (i := 37) rfl))), rfl⟩
theorem c_cw8 : q_in (.code yX8_init cX8_init 1 none) := List.mem_filter.mpr ⟨List.mem_append_right _ (List.mem_append_left _ (List.mem_of_getElem? (i := 165) rfl)), rfl⟩
theorem c_cw9 : q_in (.code yX9_init cX9_init 1 none) := List.mem_filter.mpr ⟨List.mem_append_right _ (List.mem_append_left _ (List.mem_of_getElem? (i := 29) rfl)), rfl⟩
theorem c_cw10 : q_in (.code yX10_init cX10_init 1 none) := List.mem_filter.mpr ⟨List.mem_append_right _ (List.mem_append_left _ (List.mem_of_getElem? (i := 219) rfl)), rfl⟩
theorem c_cw11 : q_in (.code yX11_init cX11_init 2 none) := List.mem_filter.mpr ⟨List.mem_append_right _ (List.mem_append_left _ (List.mem_of_getElem? (i := 21) rfl)), rfl⟩
theorem c_cw12 : q_in (.code yX12_init cX12_init 1 none) := List.mem_filter.mpr ⟨List.mem_append_right _ (List.mem_append_right _ (List.mem_append_right _ (List.mem_append_right _ (List.mem_append_right _ (List.mem_append_left _ (List.mem_of_getElem? (i := 52) rfl)))))), rfl⟩
theorem c_cw13 : q_in (.code yX12_letters cX12_letters 7 (some .long)) := List.mem_filter.mpr ⟨List.mem_append_right _ (List.mem_append_right _ (List.mem_append_right _ (List.mem_append_right _ (List.mem_append_right _ (List.mem_append_left _ (List.mem_of_getElem? (i := 56) rfl)))))), rfl⟩
theorem c_cw14 : q_in (.code yX12_appends cX12_appends 3 (some .long)) := List.mem_filter.mpr ⟨List.mem_append_right _ (List.mem_append_right _ (List.mem_append_right _ (List.mem_append_right _ (List.mem_append_right _ (List.mem_append_left _ (List.mem_of_getElem? (i := 59) rfl)))))), rfl⟩
theorem c_cw : ∀ n, n < 15 → q_in (.code (c_mm n).1 (c_mm n).2.1 (c_mm n).2.2.1 (c_mm n).2.2.2) := by
  intro n hn
  have : n = 0 ∨ n = 1 ∨ n = 2 ∨ n = 3 ∨ n = 4 ∨ n = 5 ∨ n = 6 ∨ n = 7 ∨ n = 8 ∨ n = 9 ∨ n = 10 ∨ n = 11 ∨ n = 12 ∨ n = 13 ∨ n = 14 := by omega
  rcases this with rfl | rfl | rfl | rfl | rfl | rfl | rfl | rfl | rfl | rfl | rfl | rfl | rfl | rfl | rfl
  · exact c_cw0
  · exact c_cw1
  · exact c_cw2
  · exact c_cw3
  · exact c_cw4
  · exact c_cw5
  · exact c_cw6
  · exact c_cw7
  · exact c_cw8
  · exact c_cw9
  · exact c_cw10
  · exact c_cw11
  · exact c_cw12
  · exact c_cw13
  · exact c_cw14
/-! what a code table of a constructor must show -/
def c_ilen : Instr → Nat
  | .newarray _ => 2
  | .new _ => 3
  | .anewarray _ => 3
  | .multianewarray _ _ => 4
  | .invokespecial _ => 3
  | i => q_ilen i
def c_xok (nL pc : Nat) (ins : Instr) (nx : Nat) (tg : List Nat) : Bool := match ins with
  | .istore_n k => Nat.blt k.val nL && Nat.beq nx (pc + 1)
  | .iinc k _ => Nat.blt k nL && Nat.beq nx (pc + 3)
  | .iconst z => decide (-128 ≤ z ∧ z ≤ 127) && Nat.beq nx (pc + 1)
  | .bipush z => decide (-128 ≤ z ∧ z ≤ 127) && Nat.beq nx (pc + 2)
  | .sipush z => decide (-32768 ≤ z ∧ z ≤ 32767) && Nat.beq nx (pc + 3)
  | .goto o => q_tok pc o tg && Nat.beq nx (pc + 3)
  | .ifCond _ o => q_tok pc o tg && Nat.beq nx (pc + 3)
  | .if_icmp _ o => q_tok pc o tg && Nat.beq nx (pc + 3)
  | _ => Nat.beq nx (pc + c_ilen ins)
def c_eok (nL : Nat) (cc : ByteArray) (pc : Nat) (e : QE) : Bool := decide (decode cc pc = .ok (e.1, e.2.1 - pc)) && c_xok nL pc e.1 e.2.1 e.2.2
def c_chk (nL : Nat) (cc : ByteArray) (code : QC) (a n : Nat) : Bool := (List.range n).all (fun i => match q_at code (a + i) with
  | none => true
  | some e => c_eok nL cc (a + i) e)
theorem c_chk_at {nL : Nat} {cc : ByteArray} {code : QC} {a n : Nat} (h : c_chk nL cc code a n = true) {pc : Nat} {e : QE} (h1 : a ≤ pc) (h2 : pc < a + n) (he : q_at code pc = some e) : c_eok nL cc pc e = true := by
  have := List.all_eq_true.mp h (pc - a) (List.mem_range.mpr (by omega))
  rw [show a + (pc - a) = pc by omega, he] at this
  exact this
theorem c_ck0_0 : c_chk 1 cX0_init kc_0 0 100 = true := by decide +kernel
theorem c_ck0_100 : c_chk 1 cX0_init kc_0 100 100 = true := by decide +kernel
theorem c_ck0_200 : c_chk 1 cX0_init kc_0 200 100 = true := by decide +kernel
theorem c_ck0_300 : c_chk 1 cX0_init kc_0 300 100 = true := by decide +kernel
theorem c_ck0 {pc : Nat} {e : QE} (h : pc < 400) (he : q_at kc_0 pc = some e) : c_eok 1 cX0_init pc e = true := by
  rcases Nat.lt_or_ge pc 100 with q0 | q0
  · exact c_chk_at c_ck0_0 (by omega) (by omega) he
  rcases Nat.lt_or_ge pc 200 with q100 | q100
  · exact c_chk_at c_ck0_100 (by omega) (by omega) he
  rcases Nat.lt_or_ge pc 300 with q200 | q200
  · exact c_chk_at c_ck0_200 (by omega) (by omega) he
  exact c_chk_at c_ck0_300 (by omega) (by omega) he
theorem c_ck1_0 : c_chk 1 cX1_init kc_1 0 100 = true := by decide +kernel
theorem c_ck1_100 : c_chk 1 cX1_init kc_1 100 100 = true := by decide +kernel
theorem c_ck1_200 : c_chk 1 cX1_init kc_1 200 100 = true := by decide +kernel
theorem c_ck1_300 : c_chk 1 cX1_init kc_1 300 100 = true := by decide +kernel
theorem c_ck1 {pc : Nat} {e : QE} (h : pc < 400) (he : q_at kc_1 pc = some e) : c_eok 1 cX1_init pc e = true := by
  rcases Nat.lt_or_ge pc 100 with q0 | q0
  · exact c_chk_at c_ck1_0 (by omega) (by omega) he
  rcases Nat.lt_or_ge pc 200 with q100 | q100
  · exact c_chk_at c_ck1_100 (by omega) (by omega) he
  rcases Nat.lt_or_ge pc 300 with q200 | q200
  · exact c_chk_at c_ck1_200 (by omega) (by omega) he
  exact c_chk_at c_ck1_300 (by omega) (by omega) he
theorem c_ck2_0 : c_chk 2 cX2_init kc_2 0 100 = true := by decide +kernel
theorem c_ck2_100 : c_chk 2 cX2_init kc_2 100 100 = true := by decide +kernel
theorem c_ck2_200 : c_chk 2 cX2_init kc_2 200 100 = true := by decide +kernel
theorem c_ck2_300 : c_chk 2 cX2_init kc_2 300 100 = true := by decide +kernel
theorem c_ck2 {pc : Nat} {e : QE} (h : pc < 400) (he : q_at kc_2 pc = some e) : c_eok 2 cX2_init pc e = true := by
  rcases Nat.lt_or_ge pc 100 with q0 | q0
  · exact c_chk_at c_ck2_0 (by omega) (by omega) he
  rcases Nat.lt_or_ge pc 200 with q100 | q100
  · exact c_chk_at c_ck2_100 (by omega) (by omega) he
  rcases Nat.lt_or_ge pc 300 with q200 | q200
  · exact c_chk_at c_ck2_200 (by omega) (by omega) he
  exact c_chk_at c_ck2_300 (by omega) (by omega) he
theorem c_ck3_0 : c_chk 1 cX3_init kc_3 0 100 = true := by decide +kernel
theorem c_ck3_100 : c_chk 1 cX3_init kc_3 100 100 = true := by decide +kernel
theorem c_ck3_200 : c_chk 1 cX3_init kc_3 200 100 = true := by decide +kernel
theorem c_ck3_300 : c_chk 1 cX3_init kc_3 300 100 = true := by decide +kernel
theorem c_ck3 {pc : Nat} {e : QE} (h : pc < 400) (he : q_at kc_3 pc = some e) : c_eok 1 cX3_init pc e = true := by
  rcases Nat.lt_or_ge pc 100 with q0 | q0
  · exact c_chk_at c_ck3_0 (by omega) (by omega) he
  rcases Nat.lt_or_ge pc 200 with q100 | q100
  · exact c_chk_at c_ck3_100 (by omega) (by omega) he
  rcases Nat.lt_or_ge pc 300 with q200 | q200
  · exact c_chk_at c_ck3_200 (by omega) (by omega) he
  exact c_chk_at c_ck3_300 (by omega) (by omega) he
theorem c_ck4_0 : c_chk 1 cX4_init kc_4 0 100 = true := by decide +kernel
theorem c_ck4_100 : c_chk 1 cX4_init kc_4 100 100 = true := by decide +kernel
theorem c_ck4_200 : c_chk 1 cX4_init kc_4 200 100 = true := by decide +kernel
theorem c_ck4_300 : c_chk 1 cX4_init kc_4 300 100 = true := by decide +kernel
theorem c_ck4 {pc : Nat} {e : QE} (h : pc < 400) (he : q_at kc_4 pc = some e) : c_eok 1 cX4_init pc e = true := by
  rcases Nat.lt_or_ge pc 100 with q0 | q0
  · exact c_chk_at c_ck4_0 (by omega) (by omega) he
  rcases Nat.lt_or_ge pc 200 with q100 | q100
  · exact c_chk_at c_ck4_100 (by omega) (by omega) he
  rcases Nat.lt_or_ge pc 300 with q200 | q200
  · exact c_chk_at c_ck4_200 (by omega) (by omega) he
  exact c_chk_at c_ck4_300 (by omega) (by omega) he
theorem c_ck5_0 : c_chk 1 cX5_init kc_5 0 100 = true := by decide +kernel
theorem c_ck5_100 : c_chk 1 cX5_init kc_5 100 100 = true := by decide +kernel
theorem c_ck5_200 : c_chk 1 cX5_init kc_5 200 100 = true := by decide +kernel
theorem c_ck5_300 : c_chk 1 cX5_init kc_5 300 100 = true := by decide +kernel
theorem c_ck5 {pc : Nat} {e : QE} (h : pc < 400) (he : q_at kc_5 pc = some e) : c_eok 1 cX5_init pc e = true := by
  rcases Nat.lt_or_ge pc 100 with q0 | q0
  · exact c_chk_at c_ck5_0 (by omega) (by omega) he
  rcases Nat.lt_or_ge pc 200 with q100 | q100
  · exact c_chk_at c_ck5_100 (by omega) (by omega) he
  rcases Nat.lt_or_ge pc 300 with q200 | q200
  · exact c_chk_at c_ck5_200 (by omega) (by omega) he
  exact c_chk_at c_ck5_300 (by omega) (by omega) he
theorem c_ck6_0 : c_chk 2 cX6_init kc_6 0 100 = true := by decide +kernel
theorem c_ck6_100 : c_chk 2 cX6_init kc_6 100 100 = true := by decide +kernel
theorem c_ck6_200 : c_chk 2 cX6_init kc_6 200 100 = true := by decide +kernel
theorem c_ck6_300 : c_chk 2 cX6_init kc_6 300 100 = true := by decide +kernel
theorem c_ck6 {pc : Nat} {e : QE} (h : pc < 400) (he : q_at kc_6 pc = some e) : c_eok 2 cX6_init pc e = true := by
  rcases Nat.lt_or_ge pc 100 with q0 | q0
  · exact c_chk_at c_ck6_0 (by omega) (by omega) he
  rcases Nat.lt_or_ge pc 200 with q100 | q100
  · exact c_chk_at c_ck6_100 (by omega) (by omega) he
  rcases Nat.lt_or_ge pc 300 with q200 | q200
  · exact c_chk_at c_ck6_200 (by omega) (by omega) he
  exact c_chk_at c_ck6_300 (by omega) (by omega) he
theorem c_ck7_0 : c_chk 1 cX7_init kc_7 0 100 = true := by decide +kernel
theorem c_ck7_100 : c_chk 1 cX7_init kc_7 100 100 = true := by decide +kernel
theorem c_ck7_200 : c_chk 1 cX7_init kc_7 200 100 = true := by decide +kernel
theorem c_ck7_300 : c_chk 1 cX7_init kc_7 300 100 = true := by decide +kernel
theorem c_ck7 {pc : Nat} {e : QE} (h : pc < 400) (he : q_at kc_7 pc = some e) : c_eok 1 cX7_init pc e = true := by
  rcases Nat.lt_or_ge pc 100 with q0 | q0
  · exact c_chk_at c_ck7_0 (by omega) (by omega) he
  rcases Nat.lt_or_ge pc 200 with q100 | q100
  · exact c_chk_at c_ck7_100 (by omega) (by omega) he
  rcases Nat.lt_or_ge pc 300 with q200 | q200
  · exact c_chk_at c_ck7_200 (by omega) (by omega) he
  exact c_chk_at c_ck7_300 (by omega) (by omega) he
theorem c_ck8_0 : c_chk 1 cX8_init kc_8 0 100 = true := by decide +kernel
theorem c_ck8_100 : c_chk 1 cX8_init kc_8 100 100 = true := by decide +kernel
theorem c_ck8_200 : c_chk 1 cX8_init kc_8 200 100 = true := by decide +kernel
theorem c_ck8_300 : c_chk 1 cX8_init kc_8 300 100 = true := by decide +kernel
theorem c_ck8 {pc : Nat} {e : QE} (h : pc < 400) (he : q_at kc_8 pc = some e) : c_eok 1 cX8_init pc e = true := by
  rcases Nat.lt_or_ge pc 100 with q0 | q0
  · exact c_chk_at c_ck8_0 (by omega) (by omega) he
  rcases Nat.lt_or_ge pc 200 with q100 | q100
  · exact c_chk_at c_ck8_100 (by omega) (by omega) he
  rcases Nat.lt_or_ge pc 300 with q200 | q200
  · exact c_chk_at c_ck8_200 (by omega) (by omega) he
  exact c_chk_at c_ck8_300 (by omega) (by omega) he
theorem c_ck9_0 : c_chk 1 cX9_init kc_9 0 100 = true := by decide +kernel
theorem c_ck9_100 : c_chk 1 cX9_init kc_9 100 100 = true := by decide +kernel
theorem c_ck9_200 : c_chk 1 cX9_init kc_9 200 100 = true := by decide +kernel
theorem c_ck9_300 : c_chk 1 cX9_init kc_9 300 100 = true := by decide +kernel
theorem c_ck9 {pc : Nat} {e : QE} (h : pc < 400) (he : q_at kc_9 pc = some e) : c_eok 1 cX9_init pc e = true := by
  rcases Nat.lt_or_ge pc 100 with q0 | q0
  · exact c_chk_at c_ck9_0 (by omega) (by omega) he
  rcases Nat.lt_or_ge pc 200 with q100 | q100
  · exact c_chk_at c_ck9_100 (by omega) (by omega) he
  rcases Nat.lt_or_ge pc 300 with q200 | q200
  · exact c_chk_at c_ck9_200 (by omega) (by omega) he
  exact c_chk_at c_ck9_300 (by omega) (by omega) he
theorem c_ck10_0 : c_chk 1 cX10_init kc_10 0 100 = true := by decide +kernel
theorem c_ck10_100 : c_chk 1 cX10_init kc_10 100 100 = true := by decide +kernel
theorem c_ck10_200 : c_chk 1 cX10_init kc_10 200 100 = true := by decide +kernel
theorem c_ck10_300 : c_chk 1 cX10_init kc_10 300 100 = true := by decide +kernel
theorem c_ck10 {pc : Nat} {e : QE} (h : pc < 400) (he : q_at kc_10 pc = some e) : c_eok 1 cX10_init pc e = true := by
  rcases Nat.lt_or_ge pc 100 with q0 | q0
  · exact c_chk_at c_ck10_0 (by omega) (by omega) he
  rcases Nat.lt_or_ge pc 200 with q100 | q100
  · exact c_chk_at c_ck10_100 (by omega) (by omega) he
  rcases Nat.lt_or_ge pc 300 with q200 | q200
  · exact c_chk_at c_ck10_200 (by omega) (by omega) he
  exact c_chk_at c_ck10_300 (by omega) (by omega) he
theorem c_ck11_0 : c_chk 2 cX11_init kc_11 0 100 = true := by decide +kernel
theorem c_ck11_100 : c_chk 2 cX11_init kc_11 100 100 = true := by decide +kernel
theorem c_ck11_200 : c_chk 2 cX11_init kc_11 200 100 = true := by decide +kernel
theorem c_ck11_300 : c_chk 2 cX11_init kc_11 300 100 = true := by decide +kernel
theorem c_ck11 {pc : Nat} {e : QE} (h : pc < 400) (he : q_at kc_11 pc = some e) : c_eok 2 cX11_init pc e = true := by
  rcases Nat.lt_or_ge pc 100 with q0 | q0
  · exact c_chk_at c_ck11_0 (by omega) (by omega) he
  rcases Nat.lt_or_ge pc 200 with q100 | q100
  · exact c_chk_at c_ck11_100 (by omega) (by omega) he
  rcases Nat.lt_or_ge pc 300 with q200 | q200
  · exact c_chk_at c_ck11_200 (by omega) (by omega) he
  exact c_chk_at c_ck11_300 (by omega) (by omega) he
theorem c_ck12_0 : c_chk 1 cX12_init kc_12 0 100 = true := by decide +kernel
theorem c_ck12_100 : c_chk 1 cX12_init kc_12 100 100 = true := by decide +kernel
theorem c_ck12_200 : c_chk 1 cX12_init kc_12 200 100 = true := by decide +kernel
theorem c_ck12_300 : c_chk 1 cX12_init kc_12 300 100 = true := by decide +kernel
theorem c_ck12 {pc : Nat} {e : QE} (h : pc < 400) (he : q_at kc_12 pc = some e) : c_eok 1 cX12_init pc e = true := by
  rcases Nat.lt_or_ge pc 100 with q0 | q0
  · exact c_chk_at c_ck12_0 (by omega) (by omega) he
  rcases Nat.lt_or_ge pc 200 with q100 | q100
  · exact c_chk_at c_ck12_100 (by omega) (by omega) he
  rcases Nat.lt_or_ge pc 300 with q200 | q200
  · exact c_chk_at c_ck12_200 (by omega) (by omega) he
  exact c_chk_at c_ck12_300 (by omega) (by omega) he
theorem c_ck13_0 : c_chk 7 cX12_letters kc_13 0 100 = true := by decide +kernel
theorem c_ck13_100 : c_chk 7 cX12_letters kc_13 100 100 = true := by decide +kernel
theorem c_ck13_200 : c_chk 7 cX12_letters kc_13 200 100 = true := by decide +kernel
theorem c_ck13_300 : c_chk 7 cX12_letters kc_13 300 100 = true := by decide +kernel
theorem c_ck13 {pc : Nat} {e : QE} (h : pc < 400) (he : q_at kc_13 pc = some e) : c_eok 7 cX12_letters pc e = true := by
  rcases Nat.lt_or_ge pc 100 with q0 | q0
  · exact c_chk_at c_ck13_0 (by omega) (by omega) he
  rcases Nat.lt_or_ge pc 200 with q100 | q100
  · exact c_chk_at c_ck13_100 (by omega) (by omega) he
  rcases Nat.lt_or_ge pc 300 with q200 | q200
  · exact c_chk_at c_ck13_200 (by omega) (by omega) he
  exact c_chk_at c_ck13_300 (by omega) (by omega) he
theorem c_ck14_0 : c_chk 3 cX12_appends kc_14 0 100 = true := by decide +kernel
theorem c_ck14_100 : c_chk 3 cX12_appends kc_14 100 100 = true := by decide +kernel
theorem c_ck14_200 : c_chk 3 cX12_appends kc_14 200 100 = true := by decide +kernel
theorem c_ck14_300 : c_chk 3 cX12_appends kc_14 300 100 = true := by decide +kernel
theorem c_ck14 {pc : Nat} {e : QE} (h : pc < 400) (he : q_at kc_14 pc = some e) : c_eok 3 cX12_appends pc e = true := by
  rcases Nat.lt_or_ge pc 100 with q0 | q0
  · exact c_chk_at c_ck14_0 (by omega) (by omega) he
  rcases Nat.lt_or_ge pc 200 with q100 | q100
  · exact c_chk_at c_ck14_100 (by omega) (by omega) he
  rcases Nat.lt_or_ge pc 300 with q200 | q200
  · exact c_chk_at c_ck14_200 (by omega) (by omega) he
  exact c_chk_at c_ck14_300 (by omega) (by omega) he
/-- the methods' standing facts -/
def c_sok (n : Nat) : Bool := plainName (c_mm n).1.cls && decide ((c_mm n).1.cls ≠ "java/lang/invoke/MethodHandle") && decide ((c_mm n).1.cls ≠ "java/lang/invoke/VarHandle")
  && decide ((parseMethodDescriptor (c_mm n).1.desc).map (fun d => d.parameters.length) = some (c_par n)) && (match q_get c_ms n with
  | some (cl, _, nL) => decide (q_cn cl = (c_mm n).1.cls) && Nat.beq nL (c_mm n).2.2.1 && Nat.ble nL 40 && Nat.blt cl 13
  | none => false) && (match Nat.ble 13 n with
  | true => decide ((c_mm n).2.2.2 = some .long)
  | false => decide ((c_mm n).2.2.2 = none) && decide ((c_mm n).1.name = "<init>"))
theorem c_sok_all : (List.range 15).all c_sok = true := by decide +kernel
theorem c_ms_len : c_ms.length = 15 := by decide +kernel
theorem c_links_ok : c_links.all (fun l => l.all (fun q => Nat.beq q.2 99 || Nat.blt q.2 15)) = true := by decide +kernel
theorem c_ref_all : (List.range 13).all (fun ci => ((q_get q_fks ci).getD []).zipIdx.all (fun q => !(Nat.beq q.1.1 2) || (q_tyF ci q.2).isReference)) = true := by decide +kernel
theorem c_fks_len : (List.range 13).all (fun ci => Nat.beq ((q_get q_fks ci).getD []).length (q_N ci)) = true := by decide +kernel
