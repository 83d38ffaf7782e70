/-! the law's start: words, what the tables say of the classes -/
def c_lws : List Jvm.Cond := [.laysStatic "StepSums$Reader" "WORDS" "[J", .laysStatic "StepSums$Reader" "NAMES_DUE" "[I", .laysStatic "StepSums$Reader" "INTS_LEAST" "[I", .laysStatic "StepSums$Reader" "INTS_MOST" "[I", .initialized "StepSums$Reader", .classLink R_lawQ 7 (q_cn 11), .classLink R_lawQ 10 (q_cn 12), .methodLink R_lawQ 9 (c_mm 11).1, .methodLink R_lawQ 12 (c_mm 12).1]
theorem c_flw : ∀ w ∈ c_lws, w ∈ lw_tbl := by
  have h : c_lws = [493, 514, 526, 520, 81, 95, 1086, 97, 1088].filterMap (fun i => lw_tbl[i]?) := by decide +kernel
  intro w hw; rw [h] at hw; obtain ⟨i, -, hi⟩ := List.mem_filterMap.mp hw; exact List.mem_of_getElem? hi
theorem c_word {args : Array Value} {s : State} (hts : ∀ w ∈ lw_tbl, w.before args s = true) {w : Jvm.Cond} (h : q_in w) : w.before args s = true := hts w (List.mem_filter.mp h).1
theorem c_known {args : Array Value} {s : State} (hts : ∀ w ∈ lw_tbl, w.before args s = true) : ∃ (D : va_G) (cid : Nat → ClassId), ∀ g : QG, g.1 = D → g.2.2.2.1 = cid → c_Bd g s := by
  have hq : ∀ w, q_in w → w.before args s = true := fun w h => c_word hts h
  have hk : ∀ ci : Nat, ∃ x : ClassId × (Nat → Nat), ci < 13 → u_Kn s (q_cn ci) (q_T ci) (q_N ci) x.1 x.2 := by
    intro ci
    by_cases h : ci < 13
    · obtain ⟨cC, iS, h1⟩ := u_known (ws := q_W) (C := q_cn ci) (T := q_T ci) (N := q_N ci) (n := q_N ci) (fun w hw => hq w hw) (q_fu ci h) (hq _ (c_fi _ (List.mem_map.mpr ⟨ci, List.mem_range.mpr h, rfl⟩)))
      exact ⟨(cC, iS), fun _ => h1⟩
    · exact ⟨(0, fun _ => 0), fun q => absurd q h⟩
  obtain ⟨c0, k0, p0, f0, g0, h0⟩ := Cond.arrayClass_spec (hq _ (c_fa (.arrayClass .byte) (by simp)))
  obtain ⟨c1, k1, p1, f1, g1, h1⟩ := Cond.arrayClass_spec (hq _ (c_fa (.arrayClass .int) (by simp)))
  obtain ⟨c2, k2, p2, f2, g2, h2⟩ := Cond.arrayClass_spec (hq _ (c_fa (.arrayClass .long) (by simp)))
  obtain ⟨c3, k3, p3, f3, g3, h3⟩ := Cond.arrayClass_spec (hq _ (c_fa (.arrayClass .boolean) (by simp)))
  have o4 := hts _ (c_fao (.arrayOver (.object "StepSums$Hall")) (by simp [c_aos]))
  have o5 := hts _ (c_fao (.arrayOver (.object "StepSums$Line")) (by simp [c_aos]))
  have o6 := hts _ (c_fao (.arrayOver (.object "StepSums$StepSet")) (by simp [c_aos]))
  have o7 := hts _ (c_fao (.arrayOver (.array .int)) (by simp [c_aos]))
  obtain ⟨p4, c4, k4, f4, -, g4, h4, e4⟩ := Cond.arrayOver_spec o4
  obtain ⟨p5, c5, k5, f5, -, g5, h5, e5⟩ := Cond.arrayOver_spec o5
  obtain ⟨p6, c6, k6, f6, -, g6, h6, e6⟩ := Cond.arrayOver_spec o6
  obtain ⟨p7, c7, k7, f7, -, g7, h7, e7⟩ := arrayOverA_spec o7
  have hp7 : p7 = c1 := by
    have e : (FieldType.array .int).toString = "[" ++ FieldType.int.toString := by decide +kernel
    rw [e] at f7
    exact Option.some.inj (f7.symm.trans f1)
  subst hp7
  refine ⟨(fun ci => (Classical.choose (hk ci)).1, fun ci => (Classical.choose (hk ci)).2), fun k => match k with | 0 => c0 | 1 => p7 | 2 => c2 | 3 => c3 | 4 => c4 | 5 => c5 | 6 => c6 | _ => c7, ?_⟩
  rintro ⟨gD, gA, gB, gC, gE⟩ e1 e2
  have e1 : gD = _ := e1
  have e2 : gC = _ := e2
  subst e1; subst e2
  refine ⟨⟨fun ci q hc => ?_, fun k q hk2 => ?_⟩, ⟨va_AO.of o4, va_AO.of o5, va_AO.of o6⟩, k7, g7, h7⟩
  · have hlt : ci < 13 := (List.getElem?_eq_some_iff.mp hc).1
    cases (q_cl ci hlt).symm.trans hc
    exact Classical.choose_spec (hk ci) hlt
  · match k, hk2 with
    | 0, hk2 => cases hk2; exact ⟨fun n z => ⟨fun x h => (by cases h), k0, g0, p0, h0⟩, f0⟩
    | 1, hk2 => cases hk2; exact ⟨fun n z => ⟨fun x h => (by cases h), k1, g1, p1, h1⟩, f1⟩
    | 2, hk2 => cases hk2; exact ⟨fun n z => ⟨fun x h => (by cases h), k2, g2, p2, h2⟩, f2⟩
    | 3, hk2 => cases hk2; exact ⟨fun n z => ⟨fun x h => (by cases h), k3, g3, p3, h3⟩, f3⟩
    | 4, hk2 => cases hk2; exact ⟨fun n z => ⟨fun x h => (by cases h), k4, g4, p4, h4⟩, k4, p4, g4, h4, f4, e4⟩
    | 5, hk2 => cases hk2; exact ⟨fun n z => ⟨fun x h => (by cases h), k5, g5, p5, h5⟩, k5, p5, g5, h5, f5, e5⟩
    | 6, hk2 => cases hk2; exact ⟨fun n z => ⟨fun x h => (by cases h), k6, g6, p6, h6⟩, k6, p6, g6, h6, f6, e6⟩
    | 7, hk2 => cases hk2; exact ⟨fun n z => ⟨fun x h => (by cases h), k7, g7, p7, h7⟩, e7⟩
    | k + 8, hk2 => cases hk2
/-! the static rows -/
theorem c_st_100 {args : Array Value} {s : State} (hg : (Jvm.Cond.and given_1 narrow_1).before args s = true) {A : Nat → Prop} (hA : ∀ a : Nat, a < s.heap.size → ¬ A a) (hl : (Cond.laysStatic "StepSums$Reader" "WORDS" "[J").before args s = true) (hi : (Cond.initialized "StepSums$Reader").before args s = true) : ∃ t : Nat, va_T .long t 8 (fun j => .long (Int64.ofInt (q_WORDS.getD j 0))) A s s.heap ∧ va_Z "StepSums$Reader" "WORDS" "[J" (.ref t) A s s.heap := by
  have hs := flat_of_before _ hg
  have hel : ∀ j : Nat, j < 8 → (Term.elem (.static "StepSums$Reader" "WORDS" "[J") (.int (Int32.ofNat j))).eval args s none [] s = some (.long (Int64.ofInt (q_WORDS.getD j 0))) := by
    intro j hj
    rcases (show j = 0 ∨ j = 1 ∨ j = 2 ∨ j = 3 ∨ j = 4 ∨ j = 5 ∨ j = 6 ∨ j = 7 by omega) with rfl | rfl | rfl | rfl | rfl | rfl | rfl | rfl
    · exact (va_eqtl (z := 0) (hs (.eq (.elem (.static "StepSums$Reader" "WORDS" "[J") (.int 0)) (.long 0)) (by decide +kernel))).trans (congrArg (fun z => some (Value.long z)) (by decide +kernel : (0 : Int64) = Int64.ofInt 0))
    · exact (va_eqtl (z := 28518) (hs (.eq (.elem (.static "StepSums$Reader" "WORDS" "[J") (.int 1)) (.long 28518)) (by decide +kernel))).trans (congrArg (fun z => some (Value.long z)) (by decide +kernel : (28518 : Int64) = Int64.ofInt 28518))
    · exact (va_eqtl (z := 7566701) (hs (.eq (.elem (.static "StepSums$Reader" "WORDS" "[J") (.int 2)) (.long 7566701)) (by decide +kernel))).trans (congrArg (fun z => some (Value.long z)) (by decide +kernel : (7566701 : Int64) = Int64.ofInt 7566701))
    · exact (va_eqtl (z := 1835361652) (hs (.eq (.elem (.static "StepSums$Reader" "WORDS" "[J") (.int 3)) (.long 1835361652)) (by decide +kernel))).trans (congrArg (fun z => some (Value.long z)) (by decide +kernel : (1835361652 : Int64) = Int64.ofInt 1835361652))
    · exact (va_eqtl (z := 6386278) (hs (.eq (.elem (.static "StepSums$Reader" "WORDS" "[J") (.int 4)) (.long 6386278)) (by decide +kernel))).trans (congrArg (fun z => some (Value.long z)) (by decide +kernel : (6386278 : Int64) = Int64.ofInt 6386278))
    · exact (va_eqtl (z := 1885434484) (hs (.eq (.elem (.static "StepSums$Reader" "WORDS" "[J") (.int 5)) (.long 1885434484)) (by decide +kernel))).trans (congrArg (fun z => some (Value.long z)) (by decide +kernel : (1885434484 : Int64) = Int64.ofInt 1885434484))
    · exact (va_eqtl (z := 6382692) (hs (.eq (.elem (.static "StepSums$Reader" "WORDS" "[J") (.int 6)) (.long 6382692)) (by decide +kernel))).trans (congrArg (fun z => some (Value.long z)) (by decide +kernel : (6382692 : Int64) = Int64.ofInt 6382692))
    · exact (va_eqtl (z := 1685221232) (hs (.eq (.elem (.static "StepSums$Reader" "WORDS" "[J") (.int 7)) (.long 1685221232)) (by decide +kernel))).trans (congrArg (fun z => some (Value.long z)) (by decide +kernel : (1685221232 : Int64) = Int64.ofInt 1685221232))
  have hn : (Term.length (.static "StepSums$Reader" "WORDS" "[J")).eval args s none [] s = some (.int (Int32.ofNat 8)) := va_eqt (z := 8) (hs (.eq (.length (.static "StepSums$Reader" "WORDS" "[J")) (.int 8)) (by decide +kernel))
  obtain ⟨t, h0, h1⟩ := va_Tof (ty := .long) (A := A) (by decide) (hs (.arrayOf (.static "StepSums$Reader" "WORDS" "[J") .long) (by decide +kernel)) hn hel hA
  exact ⟨t, h1, va_Zof hl hi h0 hA⟩
theorem c_st_101 {args : Array Value} {s : State} (hg : (Jvm.Cond.and given_1 narrow_1).before args s = true) {A : Nat → Prop} (hA : ∀ a : Nat, a < s.heap.size → ¬ A a) (hl : (Cond.laysStatic "StepSums$Reader" "NAMES_DUE" "[I").before args s = true) (hi : (Cond.initialized "StepSums$Reader").before args s = true) : ∃ t : Nat, va_T .int t 8 (fun j => .int (Int32.ofInt (q_DUE.getD j 0))) A s s.heap ∧ va_Z "StepSums$Reader" "NAMES_DUE" "[I" (.ref t) A s s.heap := by
  have hs := flat_of_before _ hg
  have hel : ∀ j : Nat, j < 8 → (Term.elem (.static "StepSums$Reader" "NAMES_DUE" "[I") (.int (Int32.ofNat j))).eval args s none [] s = some (.int (Int32.ofInt (q_DUE.getD j 0))) := by
    intro j hj
    rcases (show j = 0 ∨ j = 1 ∨ j = 2 ∨ j = 3 ∨ j = 4 ∨ j = 5 ∨ j = 6 ∨ j = 7 by omega) with rfl | rfl | rfl | rfl | rfl | rfl | rfl | rfl
    · exact (va_eqt (z := 0) (hs (.eq (.elem (.static "StepSums$Reader" "NAMES_DUE" "[I") (.int 0)) (.int 0)) (by decide +kernel))).trans (congrArg (fun z => some (Value.int z)) (by decide +kernel : (0 : Int32) = Int32.ofInt 0))
    · exact (va_eqt (z := 1) (hs (.eq (.elem (.static "StepSums$Reader" "NAMES_DUE" "[I") (.int 1)) (.int 1)) (by decide +kernel))).trans (congrArg (fun z => some (Value.int z)) (by decide +kernel : (1 : Int32) = Int32.ofInt 1))
    · exact (va_eqt (z := 3) (hs (.eq (.elem (.static "StepSums$Reader" "NAMES_DUE" "[I") (.int 2)) (.int 3)) (by decide +kernel))).trans (congrArg (fun z => some (Value.int z)) (by decide +kernel : (3 : Int32) = Int32.ofInt 3))
    · exact (va_eqt (z := 3) (hs (.eq (.elem (.static "StepSums$Reader" "NAMES_DUE" "[I") (.int 3)) (.int 3)) (by decide +kernel))).trans (congrArg (fun z => some (Value.int z)) (by decide +kernel : (3 : Int32) = Int32.ofInt 3))
    · exact (va_eqt (z := 2) (hs (.eq (.elem (.static "StepSums$Reader" "NAMES_DUE" "[I") (.int 4)) (.int 2)) (by decide +kernel))).trans (congrArg (fun z => some (Value.int z)) (by decide +kernel : (2 : Int32) = Int32.ofInt 2))
    · exact (va_eqt (z := 2) (hs (.eq (.elem (.static "StepSums$Reader" "NAMES_DUE" "[I") (.int 5)) (.int 2)) (by decide +kernel))).trans (congrArg (fun z => some (Value.int z)) (by decide +kernel : (2 : Int32) = Int32.ofInt 2))
    · exact (va_eqt (z := 2) (hs (.eq (.elem (.static "StepSums$Reader" "NAMES_DUE" "[I") (.int 6)) (.int 2)) (by decide +kernel))).trans (congrArg (fun z => some (Value.int z)) (by decide +kernel : (2 : Int32) = Int32.ofInt 2))
    · exact (va_eqt (z := 2) (hs (.eq (.elem (.static "StepSums$Reader" "NAMES_DUE" "[I") (.int 7)) (.int 2)) (by decide +kernel))).trans (congrArg (fun z => some (Value.int z)) (by decide +kernel : (2 : Int32) = Int32.ofInt 2))
  have hn : (Term.length (.static "StepSums$Reader" "NAMES_DUE" "[I")).eval args s none [] s = some (.int (Int32.ofNat 8)) := va_eqt (z := 8) (hs (.eq (.length (.static "StepSums$Reader" "NAMES_DUE" "[I")) (.int 8)) (by decide +kernel))
  obtain ⟨t, h0, h1⟩ := va_Tof (ty := .int) (A := A) (by decide) (hs (.arrayOf (.static "StepSums$Reader" "NAMES_DUE" "[I") .int) (by decide +kernel)) hn hel hA
  exact ⟨t, h1, va_Zof hl hi h0 hA⟩
theorem c_st_102 {args : Array Value} {s : State} (hg : (Jvm.Cond.and given_1 narrow_1).before args s = true) {A : Nat → Prop} (hA : ∀ a : Nat, a < s.heap.size → ¬ A a) (hl : (Cond.laysStatic "StepSums$Reader" "INTS_LEAST" "[I").before args s = true) (hi : (Cond.initialized "StepSums$Reader").before args s = true) : ∃ t : Nat, va_T .int t 8 (fun j => .int (Int32.ofInt (q_LEAST.getD j 0))) A s s.heap ∧ va_Z "StepSums$Reader" "INTS_LEAST" "[I" (.ref t) A s s.heap := by
  have hs := flat_of_before _ hg
  have hel : ∀ j : Nat, j < 8 → (Term.elem (.static "StepSums$Reader" "INTS_LEAST" "[I") (.int (Int32.ofNat j))).eval args s none [] s = some (.int (Int32.ofInt (q_LEAST.getD j 0))) := by
    intro j hj
    rcases (show j = 0 ∨ j = 1 ∨ j = 2 ∨ j = 3 ∨ j = 4 ∨ j = 5 ∨ j = 6 ∨ j = 7 by omega) with rfl | rfl | rfl | rfl | rfl | rfl | rfl | rfl
    · exact (va_eqt (z := 0) (hs (.eq (.elem (.static "StepSums$Reader" "INTS_LEAST" "[I") (.int 0)) (.int 0)) (by decide +kernel))).trans (congrArg (fun z => some (Value.int z)) (by decide +kernel : (0 : Int32) = Int32.ofInt 0))
    · exact (va_eqt (z := 1) (hs (.eq (.elem (.static "StepSums$Reader" "INTS_LEAST" "[I") (.int 1)) (.int 1)) (by decide +kernel))).trans (congrArg (fun z => some (Value.int z)) (by decide +kernel : (1 : Int32) = Int32.ofInt 1))
    · exact (va_eqt (z := 0) (hs (.eq (.elem (.static "StepSums$Reader" "INTS_LEAST" "[I") (.int 2)) (.int 0)) (by decide +kernel))).trans (congrArg (fun z => some (Value.int z)) (by decide +kernel : (0 : Int32) = Int32.ofInt 0))
    · exact (va_eqt (z := 0) (hs (.eq (.elem (.static "StepSums$Reader" "INTS_LEAST" "[I") (.int 3)) (.int 0)) (by decide +kernel))).trans (congrArg (fun z => some (Value.int z)) (by decide +kernel : (0 : Int32) = Int32.ofInt 0))
    · exact (va_eqt (z := 0) (hs (.eq (.elem (.static "StepSums$Reader" "INTS_LEAST" "[I") (.int 4)) (.int 0)) (by decide +kernel))).trans (congrArg (fun z => some (Value.int z)) (by decide +kernel : (0 : Int32) = Int32.ofInt 0))
    · exact (va_eqt (z := 1) (hs (.eq (.elem (.static "StepSums$Reader" "INTS_LEAST" "[I") (.int 5)) (.int 1)) (by decide +kernel))).trans (congrArg (fun z => some (Value.int z)) (by decide +kernel : (1 : Int32) = Int32.ofInt 1))
    · exact (va_eqt (z := 1) (hs (.eq (.elem (.static "StepSums$Reader" "INTS_LEAST" "[I") (.int 6)) (.int 1)) (by decide +kernel))).trans (congrArg (fun z => some (Value.int z)) (by decide +kernel : (1 : Int32) = Int32.ofInt 1))
    · exact (va_eqt (z := 1) (hs (.eq (.elem (.static "StepSums$Reader" "INTS_LEAST" "[I") (.int 7)) (.int 1)) (by decide +kernel))).trans (congrArg (fun z => some (Value.int z)) (by decide +kernel : (1 : Int32) = Int32.ofInt 1))
  have hn : (Term.length (.static "StepSums$Reader" "INTS_LEAST" "[I")).eval args s none [] s = some (.int (Int32.ofNat 8)) := va_eqt (z := 8) (hs (.eq (.length (.static "StepSums$Reader" "INTS_LEAST" "[I")) (.int 8)) (by decide +kernel))
  obtain ⟨t, h0, h1⟩ := va_Tof (ty := .int) (A := A) (by decide) (hs (.arrayOf (.static "StepSums$Reader" "INTS_LEAST" "[I") .int) (by decide +kernel)) hn hel hA
  exact ⟨t, h1, va_Zof hl hi h0 hA⟩
theorem c_st_103 {args : Array Value} {s : State} (hg : (Jvm.Cond.and given_1 narrow_1).before args s = true) {A : Nat → Prop} (hA : ∀ a : Nat, a < s.heap.size → ¬ A a) (hl : (Cond.laysStatic "StepSums$Reader" "INTS_MOST" "[I").before args s = true) (hi : (Cond.initialized "StepSums$Reader").before args s = true) : ∃ t : Nat, va_T .int t 8 (fun j => .int (Int32.ofInt (q_MOST.getD j 0))) A s s.heap ∧ va_Z "StepSums$Reader" "INTS_MOST" "[I" (.ref t) A s s.heap := by
  have hs := flat_of_before _ hg
  have hel : ∀ j : Nat, j < 8 → (Term.elem (.static "StepSums$Reader" "INTS_MOST" "[I") (.int (Int32.ofNat j))).eval args s none [] s = some (.int (Int32.ofInt (q_MOST.getD j 0))) := by
    intro j hj
    rcases (show j = 0 ∨ j = 1 ∨ j = 2 ∨ j = 3 ∨ j = 4 ∨ j = 5 ∨ j = 6 ∨ j = 7 by omega) with rfl | rfl | rfl | rfl | rfl | rfl | rfl | rfl
    · exact (va_eqt (z := 0) (hs (.eq (.elem (.static "StepSums$Reader" "INTS_MOST" "[I") (.int 0)) (.int 0)) (by decide +kernel))).trans (congrArg (fun z => some (Value.int z)) (by decide +kernel : (0 : Int32) = Int32.ofInt 0))
    · exact (va_eqt (z := 10) (hs (.eq (.elem (.static "StepSums$Reader" "INTS_MOST" "[I") (.int 1)) (.int 10)) (by decide +kernel))).trans (congrArg (fun z => some (Value.int z)) (by decide +kernel : (10 : Int32) = Int32.ofInt 10))
    · exact (va_eqt (z := 0) (hs (.eq (.elem (.static "StepSums$Reader" "INTS_MOST" "[I") (.int 2)) (.int 0)) (by decide +kernel))).trans (congrArg (fun z => some (Value.int z)) (by decide +kernel : (0 : Int32) = Int32.ofInt 0))
    · exact (va_eqt (z := 0) (hs (.eq (.elem (.static "StepSums$Reader" "INTS_MOST" "[I") (.int 3)) (.int 0)) (by decide +kernel))).trans (congrArg (fun z => some (Value.int z)) (by decide +kernel : (0 : Int32) = Int32.ofInt 0))
    · exact (va_eqt (z := 0) (hs (.eq (.elem (.static "StepSums$Reader" "INTS_MOST" "[I") (.int 4)) (.int 0)) (by decide +kernel))).trans (congrArg (fun z => some (Value.int z)) (by decide +kernel : (0 : Int32) = Int32.ofInt 0))
    · exact (va_eqt (z := 1) (hs (.eq (.elem (.static "StepSums$Reader" "INTS_MOST" "[I") (.int 5)) (.int 1)) (by decide +kernel))).trans (congrArg (fun z => some (Value.int z)) (by decide +kernel : (1 : Int32) = Int32.ofInt 1))
    · exact (va_eqt (z := 1) (hs (.eq (.elem (.static "StepSums$Reader" "INTS_MOST" "[I") (.int 6)) (.int 1)) (by decide +kernel))).trans (congrArg (fun z => some (Value.int z)) (by decide +kernel : (1 : Int32) = Int32.ofInt 1))
    · exact (va_eqt (z := 1) (hs (.eq (.elem (.static "StepSums$Reader" "INTS_MOST" "[I") (.int 7)) (.int 1)) (by decide +kernel))).trans (congrArg (fun z => some (Value.int z)) (by decide +kernel : (1 : Int32) = Int32.ofInt 1))
  have hn : (Term.length (.static "StepSums$Reader" "INTS_MOST" "[I")).eval args s none [] s = some (.int (Int32.ofNat 8)) := va_eqt (z := 8) (hs (.eq (.length (.static "StepSums$Reader" "INTS_MOST" "[I")) (.int 8)) (by decide +kernel))
  obtain ⟨t, h0, h1⟩ := va_Tof (ty := .int) (A := A) (by decide) (hs (.arrayOf (.static "StepSums$Reader" "INTS_MOST" "[I") .int) (by decide +kernel)) hn hel hA
  exact ⟨t, h1, va_Zof hl hi h0 hA⟩
