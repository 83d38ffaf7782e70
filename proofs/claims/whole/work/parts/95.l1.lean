/-! the law's state: the program's and the model's, of the same plain things -/
def qPs (h : QM) (n dn tn : Nat) (S : Nat → QZ) (dl : Nat → Nat × Nat) (b : Nat → Bool) (K : Nat → Nat → QZ) (tb : Nat → Int) (fp x y : Int) : Prop :=
  h 11 0 10 = x ∧ h 11 0 11 = y ∧ (x = 3 ∧ y = 4 ∨ x = 4 ∧ y = 3) ∧ qhall h x n S ∧ qdeeds h dn dl ∧ qtape h tn tb ∧ (∀ i : Nat, i < 3 → h 45 0 i = qb (b i)) ∧ (∀ i : Nat, i < 3 → b i = true → qhall h i n (K i)) ∧ h 11 0 12 = fp
def qPc (h : QM) : Prop := qrch h ∧ qkn h ∧ qlk h
def qMs (h : QM) (n dn tn : Nat) (H : Nat → Nat → QZ) (b : Nat → Bool) (K : Nat → Nat → QZ) (tb : Nat → Int) (fp : Int) : Prop :=
  qmd h n (H 0) ∧ qmu h n dn H ∧ qmh h n b K ∧ qmt h tn tb ∧ h 12 0 16 = fp ∧ qkeys h
def qHs (n dn : Nat) (H : Nat → Nat → QZ) (dl : Nat → Nat × Nat) (b : Nat → Bool) (K : Nat → Nat → QZ) : Prop :=
  (∀ i, i ≤ dn → ∀ j, j < n → QV2 (H i j)) ∧ (∀ i, i < dn → (dl i).1 < n ∧ 1 ≤ (dl i).2 ∧ (dl i).2 < 400 ∧ H (i + 1) = qup (H i) (dl i).1 (qflip (H i (dl i).1) (dl i).2)) ∧ ∀ i, i < 3 → b i = true → ∀ j, j < n → QV2 (K i j)
def qSt (h : QM) : Prop := ∃ (n dn tn : Nat) (H : Nat → Nat → QZ) (dl : Nat → Nat × Nat) (b : Nat → Bool) (K : Nat → Nat → QZ) (tb : Nat → Int) (fp x y : Int), qPs h n dn tn (H 0) dl b K tb fp x y ∧ qPc h ∧ qMs h n dn tn H b K tb fp ∧ qlm h ∧ qHs n dn H dl b K
/-- nothing of the model's is changed -/
def qno (h h' : QM) : Prop := ∀ (r : Nat), (46 ≤ r ∨ r = 12) → ∀ i j, h' r i j = h r i j
theorem qfx_no {rs : List Nat} {h h' : QM} (f : qfx rs h h') (e : rs.all (fun r => decide (r < 46 ∧ r ≠ 12)) = true) : qno h h' := fun r hr i j => f r (by
  cases z : rs.contains r with
  | false => rfl
  | true =>
    have := of_decide_eq_true (List.all_eq_true.mp e r (List.contains_iff_mem.mp z))
    omega) i j
theorem qno_mf {h h' : QM} (f : qno h h') : qmf [0, 1, 2, 3, 4, 5, 6, 7, 8, 9, 10, 11, 13, 14, 15, 16, 17, 18, 19, 20, 21, 22, 23, 24, 25, 26, 27, 28, 29, 30, 31, 32, 33, 34, 35, 36, 37, 38, 39, 40, 41, 42, 43, 44, 45] h h' := fun r i j e => by
  by_cases c : 46 ≤ r ∨ r = 12
  · exact f r c i j
  · exfalso
    have h1 : qcd r j = r := qcd_r (by omega) (by omega)
    rw [h1] at e
    have : ∀ r, r < 46 → r ≠ 12 → ([0, 1, 2, 3, 4, 5, 6, 7, 8, 9, 10, 11, 13, 14, 15, 16, 17, 18, 19, 20, 21, 22, 23, 24, 25, 26, 27, 28, 29, 30, 31, 32, 33, 34, 35, 36, 37, 38, 39, 40, 41, 42, 43, 44, 45] : List Nat).contains r = true := by decide
    rw [this r (by omega) (by omega)] at e
    cases e
theorem qMs_no {h h' : QM} {n dn tn : Nat} {H : Nat → Nat → QZ} {b : Nat → Bool} {K : Nat → Nat → QZ} {tb : Nat → Int} {fp : Int} (M : qMs h n dn tn H b K tb fp) (f : qno h h') : qMs h' n dn tn H b K tb fp := by
  obtain ⟨m1, m2, m3, m4, m5, m6⟩ := M
  have F := qno_mf f
  refine ⟨qmd_f m1 F rfl, qmu_f m2 F rfl, qmh_f m3 F rfl, ?_, by rw [f 12 (by omega)]; exact m5, ?_⟩
  · exact ⟨by rw [f 12 (by omega)]; exact m4.1, m4.2.1, fun i hi => by rw [f 46 (by omega)]; exact m4.2.2 i hi⟩
  · unfold qkeys
    rw [f 52 (by omega), f 52 (by omega), f 52 (by omega), f 52 (by omega), f 52 (by omega), f 52 (by omega), f 52 (by omega)]
    exact m6
theorem qlm_no {h h' : QM} (a : qlm h) (f : qno h h') : qlm h' := qlm_f a (qno_mf f) rfl
/-- a model's frame by regions -/
def qmc (rs : List Nat) : List Nat := rs ++ rs.map (fun c => if 1000 ≤ c then 12 else 54)
theorem qmf_q {rs : List Nat} {h h' : QM} (f : qmf rs h h') : qfx (qmc rs) h h' := fun r e i j => f r i j (by
  cases z : rs.contains (qcd r j) with
  | false => rfl
  | true =>
    have hm := List.contains_iff_mem.mp z
    have : r ∈ qmc rs := by
      unfold qmc
      by_cases c1 : r = 12
      · refine List.mem_append_right _ (List.mem_map.mpr ⟨qcd r j, hm, ?_⟩)
        unfold qcd
        rw [if_pos c1, if_pos (by omega)]; exact c1.symm
      · by_cases c2 : r = 54
        · refine List.mem_append_right _ (List.mem_map.mpr ⟨qcd r j, hm, ?_⟩)
          rw [if_neg ?_]
          · exact c2.symm
          · subst c2
            rcases Int.lt_or_le j 24 with c | c
            · rw [qcd_lo c]; omega
            · rw [qcd_hi c]; omega
        · rw [qcd_r c1 c2] at hm
          exact List.mem_append_left _ hm
    rw [List.contains_iff_mem.mpr this] at e
    cases e)
theorem qPs_r {h h' : QM} {n dn tn : Nat} {S : Nat → QZ} {dl : Nat → Nat × Nat} {b : Nat → Bool} {K : Nat → Nat → QZ} {tb : Nat → Int} {fp x y : Int} (P : qPs h n dn tn S dl b K tb fp x y) (e : ∀ r : Nat, (r = 1 ∨ r = 2 ∨ r = 8 ∨ r = 9 ∨ r = 11 ∨ r = 18 ∨ r = 19 ∨ r = 30 ∨ r = 31 ∨ r = 32 ∨ r = 33 ∨ r = 45) → ∀ i j, h' r i j = h r i j) : qPs h' n dn tn S dl b K tb fp x y := by
  obtain ⟨p1, p2, p3, p4, p5, p6, p7, p8, p9⟩ := P
  have hh : ∀ z m T, qhall h z m T → qhall h' z m T := fun z m T a => qhall_fr a (e 2 (by omega) _ _) (fun r i j q _ _ => e r (by omega) i j)
  exact ⟨by rw [e 11 (by omega)]; exact p1, by rw [e 11 (by omega)]; exact p2, p3, hh _ _ _ p4, qdeeds_r p5 (fun r i j q => e r (by omega) i j), ⟨by rw [e 9 (by omega)]; exact p6.1, p6.2.1, fun i hi => by rw [e 33 (by omega)]; exact p6.2.2 i hi⟩, fun i hi => by rw [e 45 (by omega)]; exact p7 i hi, fun i hi hb => hh _ _ _ (p8 i hi hb), by rw [e 11 (by omega)]; exact p9⟩
theorem qPs_x {h h' : QM} {rs : List Nat} {n dn tn : Nat} {S : Nat → QZ} {dl : Nat → Nat × Nat} {b : Nat → Bool} {K : Nat → Nat → QZ} {tb : Nat → Int} {fp x y : Int} (P : qPs h n dn tn S dl b K tb fp x y) (f : qfx rs h h') (e : ([1, 2, 8, 9, 11, 18, 19, 30, 31, 32, 33, 45] : List Nat).all (fun r => !rs.contains r) = true) : qPs h' n dn tn S dl b K tb fp x y := by
  refine qPs_r P (fun r hr => f r ?_)
  have := List.all_eq_true.mp e r (by rcases hr with hr | hr | hr | hr | hr | hr | hr | hr | hr | hr | hr | hr <;> subst hr <;> decide)
  simpa using this
theorem qrch_x {h h' : QM} {rs : List Nat} (a : qrch h) (f : qfx rs h h') (e : rs.contains 10 = false) : qrch h' := by
  unfold qrch
  rw [f 10 e, f 10 e]; exact a
theorem qPc_x {h h' : QM} {rs : List Nat} (a : qPc h) (f : qfx rs h h') (e : (rs.contains 10 || (rs.contains 3 || rs.contains 21 || rs.contains 22) || (rs.contains 7 || rs.contains 29)) = false) : qPc h' := by
  rw [Bool.or_eq_false_iff, Bool.or_eq_false_iff] at e
  exact ⟨qrch_x a.1 f e.1.1, qkn_fx a.2.1 f e.1.2, qlk_fx a.2.2 f e.2⟩
theorem qkeys_f {h h' : QM} {rs : List Nat} (k : qkeys h) (f : qmf rs h h') (e : rs.contains 52 = false) : qkeys h' := by
  have g : ∀ j, h' 52 0 j = h 52 0 j := fun j => f 52 0 j (by rw [qcd_r (by omega) (by omega)]; exact e)
  unfold qkeys
  rw [g, g, g, g, g, g, g]; exact k
theorem qmt_f2 {h h' : QM} {rs : List Nat} {tn : Nat} {tb : Nat → Int} (T : qmt h tn tb) (f : qmf rs h h') (e : (rs.contains 1002 || rs.contains 46) = false) : qmt h' tn tb := by
  rw [Bool.or_eq_false_iff] at e
  exact ⟨by rw [f 12 0 2 e.1]; exact T.1, T.2.1, fun i hi => by rw [f 46 0 i (by rw [qcd_r (by omega) (by omega)]; exact e.2)]; exact T.2.2 i hi⟩
theorem qMs_f {h h' : QM} {rs : List Nat} {n dn tn : Nat} {H : Nat → Nat → QZ} {b : Nat → Bool} {K : Nat → Nat → QZ} {tb : Nat → Int} {fp : Int} (M : qMs h n dn tn H b K tb fp) (f : qmf rs h h') (e1 : (rs.contains 1017 || rs.contains 154) = false) (e2 : (rs.contains 1026 || rs.contains 1025 || rs.contains 57) = false) (e3 : (rs.contains 58 || rs.contains 59) = false) (e4 : (rs.contains 1002 || rs.contains 46) = false) (e5 : rs.contains 1016 = false) (e6 : rs.contains 52 = false) : qMs h' n dn tn H b K tb fp := by
  obtain ⟨m1, m2, m3, m4, m5, m6⟩ := M
  exact ⟨qmd_f m1 f e1, qmu_f m2 f e2, qmh_f m3 f e3, qmt_f2 m4 f e4, by rw [f 12 0 16 e5]; exact m5, qkeys_f m6 f e6⟩
