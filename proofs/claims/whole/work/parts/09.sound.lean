/-! one step of the machine of numbers is a walk of the machine: locals, numbers, branches -/
def q_stn : List (Nat × String × String) := [(100, "WORDS", "[J"), (101, "NAMES_DUE", "[I"), (102, "INTS_LEAST", "[I"), (103, "INTS_MOST", "[I")]
def q_sln (g : QG) (r : Nat) : Nat := match r with
  | 104 => g.2.2.2.2.1
  | _ => 8
def q_sty (r : Nat) : FieldType := match q_sk r with
  | 2 => .long
  | _ => .int
def q_sval (g : QG) (r : Nat) (j : Nat) : Value := match q_sk r with
  | 2 => .long (Int64.ofInt (q_sc (q_S g) r j))
  | _ => .int (Int32.ofInt (q_sc (q_S g) r j))
def q_sok (g : QG) (U : State) (H : Heap) : Prop := (∀ r, q_sk r ≠ 0 → va_T (q_sty r) (g.2.1 r 0) (q_sln g r) (q_sval g r) g.2.2.1 U H) ∧ (∀ x ∈ q_stn, va_Z "StepSums$Reader" x.2.1 x.2.2 (.ref (g.2.1 x.1 0)) g.2.2.1 U H) ∧ ∀ q ∈ q_nest, va_Nw (q_nw q) U
/-- what a walk of a method's body stands on -/
def q_cx (p : Program) (R : Room) (s : State) (m : MethodId) (args : Array Value) (c : Code) (cells slots : Nat) (g : QG) (nL cl : Nat) (cc : ByteArray) : Prop :=
  p.tables.exec = Jvm.exec ∧ c.code = cc ∧ c.maxLocals = nL ∧ s.vm.findClass (q_cn cl) = some m.cls ∧ (∀ w ∈ q_W, w.before args s = true) ∧ va_K g.1 vwCl (q_tys g) s ∧ q_sok g s s.heap ∧ 1 ≤ R.frames ∧ 64 ≤ R.locals ∧ cells ≤ R.cells ∧ slots ≤ R.slots
def q_G (p : Program) (l : Launch) (e : Env) (R : Room) (s : State) (m : MethodId) (args : Array Value) (below : List Frame) (meth : Method) (c : Code) (cells slots : Nat) (Qf : State → Prop) (g : QG) (nL : Nat) : QK := fun pc ls st h =>
  ls.length = nL → q_wl ls → (∀ v ∈ st, q_wv v) → q_wm h → ∀ (H : Heap) (locs : List Loc) (L : Array Slot), va_P g.1 vwCl (q_ws g h) H → va_D g.2.2.1 (q_ws g h) → va_S g.2.2.1 s.heap H locs → lv_has L nL (q_lc g 0 ls) → W p l e R s m args below meth c H locs cells slots Qf (F0 m pc L (st.map (q_cv g)))
section QSound
variable {p : Program} {l : Launch} {e : Env} {R : Room} {s : State} {m : MethodId} {args : Array Value} {below : List Frame} {meth : Method} {c : Code} {cells slots : Nat} {Qf : State → Prop} {g : QG} {nL cl : Nat} {cc : ByteArray} {pc : Nat} {ls : QL} {r : List QV} {h : QM}
theorem q_s_mask (b : List Bool) {st : List QV} (k : q_G p l e R s m args below meth c cells slots Qf g nL pc (q_mask b ls) st h) : q_G p l e R s m args below meth c cells slots Qf g nL pc ls st h := by
  intro hn hw hs hm H locs L hP hD hS hl
  exact k ((q_mask_len b ls).trans hn) (fun n v hv => hw n v (q_mask_get b ls n v hv)) hs hm H locs L hP hD hS (q_lc_sub hl (fun n v hv => (q_lc_mem g ls 0 n _).mpr ⟨v, Nat.zero_le _, q_mask_get b ls n v hv, rfl⟩))
theorem q_s_iload {k : Nat} (C : q_cx p R s m args c cells slots g nL cl cc) (hd : decode cc pc = .ok (.iload k, 2)) (a : q_ldI ls k (fun v => q_G p l e R s m args below meth c cells slots Qf g nL (pc + 2) ls (v :: r) h)) : q_G p l e R s m args below meth c cells slots Qf g nL pc ls r h := by
  intro hn hw hs hm H locs L hP hD hS hl
  unfold q_ldI at a
  split at a
  · rename_i z hz
    exact lv_iload C.1 C.2.1 hd (q_lc_get hl hz) (a hn hw (List.forall_mem_cons.mpr ⟨hw k _ hz, hs⟩) hm H locs L hP hD hS hl)
  · exact a.elim
theorem q_s_iload_n {k : Fin 4} (C : q_cx p R s m args c cells slots g nL cl cc) (hd : decode cc pc = .ok (.iload_n k, 1)) (a : q_ldI ls k.val (fun v => q_G p l e R s m args below meth c cells slots Qf g nL (pc + 1) ls (v :: r) h)) : q_G p l e R s m args below meth c cells slots Qf g nL pc ls r h := by
  intro hn hw hs hm H locs L hP hD hS hl
  unfold q_ldI at a
  split at a
  · rename_i z hz
    exact lv_iload_n C.1 C.2.1 hd rfl (q_lc_get hl hz) (a hn hw (List.forall_mem_cons.mpr ⟨hw k.val _ hz, hs⟩) hm H locs L hP hD hS hl)
  · exact a.elim
theorem q_s_lload {k : Nat} (C : q_cx p R s m args c cells slots g nL cl cc) (hd : decode cc pc = .ok (.lload k, 2)) (a : q_ldL ls k (fun v => q_G p l e R s m args below meth c cells slots Qf g nL (pc + 2) ls (v :: r) h)) : q_G p l e R s m args below meth c cells slots Qf g nL pc ls r h := by
  intro hn hw hs hm H locs L hP hD hS hl
  unfold q_ldL at a
  split at a
  · rename_i z hz
    exact lv_lload C.1 C.2.1 hd (q_lc_get hl hz) (a hn hw (List.forall_mem_cons.mpr ⟨hw k _ hz, hs⟩) hm H locs L hP hD hS hl)
  · exact a.elim
theorem q_s_lload_n {k : Fin 4} (C : q_cx p R s m args c cells slots g nL cl cc) (hd : decode cc pc = .ok (.lload_n k, 1)) (a : q_ldL ls k.val (fun v => q_G p l e R s m args below meth c cells slots Qf g nL (pc + 1) ls (v :: r) h)) : q_G p l e R s m args below meth c cells slots Qf g nL pc ls r h := by
  intro hn hw hs hm H locs L hP hD hS hl
  unfold q_ldL at a
  split at a
  · rename_i z hz
    exact lv_lload_n C.1 C.2.1 hd rfl (q_lc_get hl hz) (a hn hw (List.forall_mem_cons.mpr ⟨hw k.val _ hz, hs⟩) hm H locs L hP hD hS hl)
  · exact a.elim
theorem q_s_aload {k : Nat} (C : q_cx p R s m args c cells slots g nL cl cc) (hd : decode cc pc = .ok (.aload k, 2)) (a : q_ldA ls k (fun v => q_G p l e R s m args below meth c cells slots Qf g nL (pc + 2) ls (v :: r) h)) : q_G p l e R s m args below meth c cells slots Qf g nL pc ls r h := by
  intro hn hw hs hm H locs L hP hD hS hl
  unfold q_ldA at a
  split at a
  · rename_i z hz
    have k2 := a hn hw (List.forall_mem_cons.mpr ⟨hw k _ hz, hs⟩) hm H locs L hP hD hS hl
    rcases z with _ | ⟨r0, i0⟩
    · exact lv_aloadN C.1 C.2.1 hd (q_lc_get hl hz) k2
    · exact lv_aload C.1 C.2.1 hd (q_lc_get hl hz) k2
  · exact a.elim
theorem q_s_aload_n {k : Fin 4} (C : q_cx p R s m args c cells slots g nL cl cc) (hd : decode cc pc = .ok (.aload_n k, 1)) (a : q_ldA ls k.val (fun v => q_G p l e R s m args below meth c cells slots Qf g nL (pc + 1) ls (v :: r) h)) : q_G p l e R s m args below meth c cells slots Qf g nL pc ls r h := by
  intro hn hw hs hm H locs L hP hD hS hl
  unfold q_ldA at a
  split at a
  · rename_i z hz
    have k2 := a hn hw (List.forall_mem_cons.mpr ⟨hw k.val _ hz, hs⟩) hm H locs L hP hD hS hl
    rcases z with _ | ⟨r0, i0⟩
    · exact lv_aload_nN C.1 C.2.1 hd rfl (q_lc_get hl hz) k2
    · exact lv_aload_n C.1 C.2.1 hd rfl (q_lc_get hl hz) k2
  · exact a.elim
theorem q_s_istore {k : Nat} {x : Int} (C : q_cx p R s m args c cells slots g nL cl cc) (hk : k < nL) (hd : decode cc pc = .ok (.istore k, 2)) (a : q_G p l e R s m args below meth c cells slots Qf g nL (pc + 2) (q_st1 ls k (.inl x)) r h) : q_G p l e R s m args below meth c cells slots Qf g nL pc ls (.inl x :: r) h := by
  intro hn hw hs hm H locs L hP hD hS hl
  obtain ⟨hv, hs⟩ := List.forall_mem_cons.mp hs
  exact lv_istore C.1 C.2.1 hd hl hk rfl (fun L' hl' => a ((q_set_len _ _ _).trans ((q_clr_len _ _).trans hn)) (q_st1_w hw hv) hs hm H locs L' hP hD hS (q_lc_sub hl' (q_st1_mem (by omega))))
theorem q_s_istore_n {k : Fin 4} {x : Int} (C : q_cx p R s m args c cells slots g nL cl cc) (hk : k.val < nL) (hd : decode cc pc = .ok (.istore_n k, 1)) (a : q_G p l e R s m args below meth c cells slots Qf g nL (pc + 1) (q_st1 ls k.val (.inl x)) r h) : q_G p l e R s m args below meth c cells slots Qf g nL pc ls (.inl x :: r) h := by
  intro hn hw hs hm H locs L hP hD hS hl
  obtain ⟨hv, hs⟩ := List.forall_mem_cons.mp hs
  exact lv_istore_n C.1 C.2.1 hd rfl hl hk rfl (fun L' hl' => a ((q_set_len _ _ _).trans ((q_clr_len _ _).trans hn)) (q_st1_w hw hv) hs hm H locs L' hP hD hS (q_lc_sub hl' (q_st1_mem (by omega))))
theorem q_s_lstore {k : Nat} {x : Int} (C : q_cx p R s m args c cells slots g nL cl cc) (hk : k + 1 < nL) (hd : decode cc pc = .ok (.lstore k, 2)) (a : q_G p l e R s m args below meth c cells slots Qf g nL (pc + 2) (q_st2 ls k (.inr (.inl x))) r h) : q_G p l e R s m args below meth c cells slots Qf g nL pc ls (.inr (.inl x) :: r) h := by
  intro hn hw hs hm H locs L hP hD hS hl
  obtain ⟨hv, hs⟩ := List.forall_mem_cons.mp hs
  exact lv_lstore C.1 C.2.1 hd hl hk rfl (fun L' hl' => a ((q_set_len _ _ _).trans ((q_set_len _ _ _).trans ((q_clr_len _ _).trans hn))) (q_st2_w hw hv) hs hm H locs L' hP hD hS (q_lc_sub hl' (q_st2_mem (by omega))))
theorem q_s_lstore_n {k : Fin 4} {x : Int} (C : q_cx p R s m args c cells slots g nL cl cc) (hk : k.val + 1 < nL) (hd : decode cc pc = .ok (.lstore_n k, 1)) (a : q_G p l e R s m args below meth c cells slots Qf g nL (pc + 1) (q_st2 ls k.val (.inr (.inl x))) r h) : q_G p l e R s m args below meth c cells slots Qf g nL pc ls (.inr (.inl x) :: r) h := by
  intro hn hw hs hm H locs L hP hD hS hl
  obtain ⟨hv, hs⟩ := List.forall_mem_cons.mp hs
  exact lv_lstore_n C.1 C.2.1 hd rfl hl hk rfl (fun L' hl' => a ((q_set_len _ _ _).trans ((q_set_len _ _ _).trans ((q_clr_len _ _).trans hn))) (q_st2_w hw hv) hs hm H locs L' hP hD hS (q_lc_sub hl' (q_st2_mem (by omega))))
theorem q_s_astore {k : Nat} {x : Option (Nat × Int)} (C : q_cx p R s m args c cells slots g nL cl cc) (hk : k < nL) (hd : decode cc pc = .ok (.astore k, 2)) (a : q_G p l e R s m args below meth c cells slots Qf g nL (pc + 2) (q_st1 ls k (.inr (.inr x))) r h) : q_G p l e R s m args below meth c cells slots Qf g nL pc ls (.inr (.inr x) :: r) h := by
  intro hn hw hs hm H locs L hP hD hS hl
  obtain ⟨hv, hs⟩ := List.forall_mem_cons.mp hs
  have kk : ∀ L', lv_has L' nL _ → _ := fun L' hl' => a ((q_set_len _ _ _).trans ((q_clr_len _ _).trans hn)) (q_st1_w hw hv) hs hm H locs L' hP hD hS (q_lc_sub hl' (q_st1_mem (by omega)))
  rcases x with _ | ⟨r0, i0⟩
  · exact lv_astoreN C.1 C.2.1 hd hl hk rfl kk
  · exact lv_astore C.1 C.2.1 hd hl hk rfl kk
theorem q_s_astore_n {k : Fin 4} {x : Option (Nat × Int)} (C : q_cx p R s m args c cells slots g nL cl cc) (hk : k.val < nL) (hd : decode cc pc = .ok (.astore_n k, 1)) (a : q_G p l e R s m args below meth c cells slots Qf g nL (pc + 1) (q_st1 ls k.val (.inr (.inr x))) r h) : q_G p l e R s m args below meth c cells slots Qf g nL pc ls (.inr (.inr x) :: r) h := by
  intro hn hw hs hm H locs L hP hD hS hl
  obtain ⟨hv, hs⟩ := List.forall_mem_cons.mp hs
  have kk : ∀ L', lv_has L' nL _ → _ := fun L' hl' => a ((q_set_len _ _ _).trans ((q_clr_len _ _).trans hn)) (q_st1_w hw hv) hs hm H locs L' hP hD hS (q_lc_sub hl' (q_st1_mem (by omega)))
  rcases x with _ | ⟨r0, i0⟩
  · exact lv_astore_nN C.1 C.2.1 hd rfl hl hk rfl kk
  · exact lv_astore_n C.1 C.2.1 hd rfl hl hk rfl kk
theorem q_s_iconst {z : Int} (C : q_cx p R s m args c cells slots g nL cl cc) (hz : -128 ≤ z ∧ z ≤ 127) (hd : decode cc pc = .ok (.iconst z, 1)) (a : q_G p l e R s m args below meth c cells slots Qf g nL (pc + 1) ls (.inl z :: r) h) : q_G p l e R s m args below meth c cells slots Qf g nL pc ls r h := by
  intro hn hw hs hm H locs L hP hD hS hl
  exact lv_iconst C.1 C.2.1 hd rfl (a hn hw (List.forall_mem_cons.mpr ⟨by show q_i32 z; unfold q_i32; omega, hs⟩) hm H locs L hP hD hS hl)
theorem q_s_bipush {z : Int} (C : q_cx p R s m args c cells slots g nL cl cc) (hz : -128 ≤ z ∧ z ≤ 127) (hd : decode cc pc = .ok (.bipush z, 2)) (a : q_G p l e R s m args below meth c cells slots Qf g nL (pc + 2) ls (.inl z :: r) h) : q_G p l e R s m args below meth c cells slots Qf g nL pc ls r h := by
  intro hn hw hs hm H locs L hP hD hS hl
  refine lv_bipush C.1 C.2.1 hd ?_ (a hn hw (List.forall_mem_cons.mpr ⟨by show q_i32 z; unfold q_i32; omega, hs⟩) hm H locs L hP hD hS hl)
  apply Int32.toInt_inj.1
  rw [Int8.toInt_toInt32, Int8.toInt_ofInt_of_le (by omega) (by omega), q_n32 (by unfold q_i32; omega)]
theorem q_s_sipush {z : Int} (C : q_cx p R s m args c cells slots g nL cl cc) (hz : -32768 ≤ z ∧ z ≤ 32767) (hd : decode cc pc = .ok (.sipush z, 3)) (a : q_G p l e R s m args below meth c cells slots Qf g nL (pc + 3) ls (.inl z :: r) h) : q_G p l e R s m args below meth c cells slots Qf g nL pc ls r h := by
  intro hn hw hs hm H locs L hP hD hS hl
  refine lv_sipush C.1 C.2.1 hd ?_ (a hn hw (List.forall_mem_cons.mpr ⟨by show q_i32 z; unfold q_i32; omega, hs⟩) hm H locs L hP hD hS hl)
  apply Int32.toInt_inj.1
  rw [Int16.toInt_toInt32, Int16.toInt_ofInt_of_le (by omega) (by omega), q_n32 (by unfold q_i32; omega)]
theorem q_s_lconst {z : Fin 2} (C : q_cx p R s m args c cells slots g nL cl cc) (hd : decode cc pc = .ok (.lconst z, 1)) (a : q_G p l e R s m args below meth c cells slots Qf g nL (pc + 1) ls (.inr (.inl (z.val : Int)) :: r) h) : q_G p l e R s m args below meth c cells slots Qf g nL pc ls r h := by
  intro hn hw hs hm H locs L hP hD hS hl
  exact lv_lconst C.1 C.2.1 hd Int64.ofInt_eq_ofNat.symm (a hn hw (List.forall_mem_cons.mpr ⟨by show q_i64 _; unfold q_i64; omega, hs⟩) hm H locs L hP hD hS hl)
theorem q_s_null (C : q_cx p R s m args c cells slots g nL cl cc) (hd : decode cc pc = .ok (.aconst_null, 1)) (a : q_G p l e R s m args below meth c cells slots Qf g nL (pc + 1) ls (.inr (.inr none) :: r) h) : q_G p l e R s m args below meth c cells slots Qf g nL pc ls r h := by
  intro hn hw hs hm H locs L hP hD hS hl
  exact lv_null C.1 C.2.1 hd (a hn hw (List.forall_mem_cons.mpr ⟨trivial, hs⟩) hm H locs L hP hD hS hl)
theorem q_lts_i : ∀ c, c < 15 → ((q_get q_lts c).getD []).all (fun q => decide (-2147483648 ≤ q.2 ∧ q.2 ≤ 2147483647)) = true := by decide +kernel
theorem q_l2s_i : ∀ c, c < 15 → ((q_get q_l2s c).getD []).all (fun q => decide (-9223372036854775808 ≤ q.2 ∧ q.2 ≤ 9223372036854775807)) = true := by decide +kernel
theorem q_look_lt {α : Type} {t : List (List (Nat × α))} {c n : Nat} {a : α} (h : q_look t c n = some a) : c < t.length := by
  unfold q_look at h
  cases hc : q_get t c with
  | none => rw [hc] at h; cases h
  | some x => rw [q_get_eq] at hc; exact (List.getElem?_eq_some_iff.mp hc).1
theorem q_s_ldc {i : Nat} {z : Int} (C : q_cx p R s m args c cells slots g nL cl cc) (hz : q_look q_lts cl i = some z) (hd : decode cc pc = .ok (.ldc i, 2)) (a : q_G p l e R s m args below meth c cells slots Qf g nL (pc + 2) ls (.inl z :: r) h) : q_G p l e R s m args below meth c cells slots Qf g nL pc ls r h := by
  intro hn hw hs hm H locs L hP hD hS hl
  have h1 := of_decide_eq_true (List.all_eq_true.mp (q_lts_i cl (q_look_lt hz)) _ (q_look_mem hz))
  exact lv_ldc C.1 C.2.1 C.2.2.2.1 (C.2.2.2.2.1 _ (q_fl cl _ (q_look_mem hz))) hd (a hn hw (List.forall_mem_cons.mpr ⟨h1, hs⟩) hm H locs L hP hD hS hl)
theorem q_s_ldcw {i : Nat} {z : Int} (C : q_cx p R s m args c cells slots g nL cl cc) (hz : q_look q_lts cl i = some z) (hd : decode cc pc = .ok (.ldc_w i, 3)) (a : q_G p l e R s m args below meth c cells slots Qf g nL (pc + 3) ls (.inl z :: r) h) : q_G p l e R s m args below meth c cells slots Qf g nL pc ls r h := by
  intro hn hw hs hm H locs L hP hD hS hl
  have h1 := of_decide_eq_true (List.all_eq_true.mp (q_lts_i cl (q_look_lt hz)) _ (q_look_mem hz))
  exact lv_ldcw C.1 C.2.1 C.2.2.2.1 (C.2.2.2.2.1 _ (q_fl cl _ (q_look_mem hz))) hd (a hn hw (List.forall_mem_cons.mpr ⟨h1, hs⟩) hm H locs L hP hD hS hl)
theorem q_s_ldc2 {i : Nat} {z : Int} (C : q_cx p R s m args c cells slots g nL cl cc) (hz : q_look q_l2s cl i = some z) (hd : decode cc pc = .ok (.ldc2_w i, 3)) (a : q_G p l e R s m args below meth c cells slots Qf g nL (pc + 3) ls (.inr (.inl z) :: r) h) : q_G p l e R s m args below meth c cells slots Qf g nL pc ls r h := by
  intro hn hw hs hm H locs L hP hD hS hl
  have h1 := of_decide_eq_true (List.all_eq_true.mp (q_l2s_i cl (q_look_lt hz)) _ (q_look_mem hz))
  exact lv_ldc2 C.1 C.2.1 C.2.2.2.1 (C.2.2.2.2.1 _ (q_f2 cl _ (q_look_mem hz))) hd (a hn hw (List.forall_mem_cons.mpr ⟨h1, hs⟩) hm H locs L hP hD hS hl)
theorem q_ck_out {wr : Bool} {z : Int} {f : Int → Prop} (h : q_ck wr z f) : ∃ y, q_i32 y ∧ Int32.ofInt z = Int32.ofInt y ∧ f y := by
  cases wr with
  | true => exact ⟨q_w32 z, q_w32_i z, (q_nw32 z).symm, h⟩
  | false => exact ⟨z, h.1, rfl, h.2⟩
theorem q_ck64_out {wr : Bool} {z : Int} {f : Int → Prop} (h : q_ck64 wr z f) : ∃ y, q_i64 y ∧ Int64.ofInt z = Int64.ofInt y ∧ f y := by
  cases wr with
  | true => exact ⟨q_w64 z, q_w64_i z, (q_nw64 z).symm, h⟩
  | false => exact ⟨z, h.1, rfl, h.2⟩
theorem q_get_lc {g : QG} {k : Nat} {v : QV} (h : q_get ls k = some (some v)) : ∃ n : Nat, (q_lc g 0 ls)[n]? = some (k, q_cv g v) :=
  List.getElem?_of_mem ((q_lc_mem g ls 0 k _).mpr ⟨v, Nat.zero_le _, h, rfl⟩)
theorem q_s_iinc {k : Nat} {z x : Int} {wr : Bool} (C : q_cx p R s m args c cells slots g nL cl cc) (hk : k < nL) (hx : q_get ls k = some (some (.inl x))) (hd : decode cc pc = .ok (.iinc k z, 3)) (a : q_ck wr (x + z) (fun y => q_G p l e R s m args below meth c cells slots Qf g nL (pc + 3) (q_st1 ls k (.inl y)) r h)) : q_G p l e R s m args below meth c cells slots Qf g nL pc ls r h := by
  intro hn hw hs hm H locs L hP hD hS hl
  obtain ⟨y, hy, e1, a⟩ := q_ck_out a
  obtain ⟨n, hn2⟩ := q_get_lc (g := g) hx
  exact lv_iinc (v := Int32.ofInt y) C.1 C.2.1 hd hl hn2 (by rw [← e1, Int32.ofInt_add]) hk rfl (fun L' hl' => a ((q_set_len _ _ _).trans ((q_clr_len _ _).trans hn)) (q_st1_w hw hy) hs hm H locs L' hP hD hS (q_lc_sub hl' (q_st1_mem (v := .inl y) (by omega))))
theorem q_s_iadd {x y z : Int} (C : q_cx p R s m args c cells slots g nL cl cc) (hz : q_i32 z) (e1 : Int32.ofInt x + Int32.ofInt y = Int32.ofInt z) (hd : decode cc pc = .ok (.iadd, 1)) (a : q_G p l e R s m args below meth c cells slots Qf g nL (pc + 1) ls (.inl z :: r) h) : q_G p l e R s m args below meth c cells slots Qf g nL pc ls (.inl y :: .inl x :: r) h := by
  intro hn hw hs hm H locs L hP hD hS hl
  obtain ⟨hy, hs⟩ := List.forall_mem_cons.mp hs
  obtain ⟨hx, hs⟩ := List.forall_mem_cons.mp hs
  refine lv_iadd C.1 C.2.1 hd ?_
  rw [e1]
  exact a hn hw (List.forall_mem_cons.mpr ⟨hz, hs⟩) hm H locs L hP hD hS hl
theorem q_s_isub {x y z : Int} (C : q_cx p R s m args c cells slots g nL cl cc) (hz : q_i32 z) (e1 : Int32.ofInt x - Int32.ofInt y = Int32.ofInt z) (hd : decode cc pc = .ok (.isub, 1)) (a : q_G p l e R s m args below meth c cells slots Qf g nL (pc + 1) ls (.inl z :: r) h) : q_G p l e R s m args below meth c cells slots Qf g nL pc ls (.inl y :: .inl x :: r) h := by
  intro hn hw hs hm H locs L hP hD hS hl
  obtain ⟨hy, hs⟩ := List.forall_mem_cons.mp hs
  obtain ⟨hx, hs⟩ := List.forall_mem_cons.mp hs
  refine lv_isub C.1 C.2.1 hd ?_
  rw [e1]
  exact a hn hw (List.forall_mem_cons.mpr ⟨hz, hs⟩) hm H locs L hP hD hS hl
theorem q_s_imul {x y z : Int} (C : q_cx p R s m args c cells slots g nL cl cc) (hz : q_i32 z) (e1 : Int32.ofInt x * Int32.ofInt y = Int32.ofInt z) (hd : decode cc pc = .ok (.imul, 1)) (a : q_G p l e R s m args below meth c cells slots Qf g nL (pc + 1) ls (.inl z :: r) h) : q_G p l e R s m args below meth c cells slots Qf g nL pc ls (.inl y :: .inl x :: r) h := by
  intro hn hw hs hm H locs L hP hD hS hl
  obtain ⟨hy, hs⟩ := List.forall_mem_cons.mp hs
  obtain ⟨hx, hs⟩ := List.forall_mem_cons.mp hs
  refine lv_imul C.1 C.2.1 hd ?_
  rw [e1]
  exact a hn hw (List.forall_mem_cons.mpr ⟨hz, hs⟩) hm H locs L hP hD hS hl
theorem q_s_iand {x y z : Int} (C : q_cx p R s m args c cells slots g nL cl cc) (hz : q_i32 z) (e1 : Int32.ofInt x &&& Int32.ofInt y = Int32.ofInt z) (hd : decode cc pc = .ok (.iand, 1)) (a : q_G p l e R s m args below meth c cells slots Qf g nL (pc + 1) ls (.inl z :: r) h) : q_G p l e R s m args below meth c cells slots Qf g nL pc ls (.inl y :: .inl x :: r) h := by
  intro hn hw hs hm H locs L hP hD hS hl
  obtain ⟨hy, hs⟩ := List.forall_mem_cons.mp hs
  obtain ⟨hx, hs⟩ := List.forall_mem_cons.mp hs
  refine lv_iand C.1 C.2.1 hd ?_
  rw [e1]
  exact a hn hw (List.forall_mem_cons.mpr ⟨hz, hs⟩) hm H locs L hP hD hS hl
theorem q_s_ior {x y z : Int} (C : q_cx p R s m args c cells slots g nL cl cc) (hz : q_i32 z) (e1 : Int32.ofInt x ||| Int32.ofInt y = Int32.ofInt z) (hd : decode cc pc = .ok (.ior, 1)) (a : q_G p l e R s m args below meth c cells slots Qf g nL (pc + 1) ls (.inl z :: r) h) : q_G p l e R s m args below meth c cells slots Qf g nL pc ls (.inl y :: .inl x :: r) h := by
  intro hn hw hs hm H locs L hP hD hS hl
  obtain ⟨hy, hs⟩ := List.forall_mem_cons.mp hs
  obtain ⟨hx, hs⟩ := List.forall_mem_cons.mp hs
  refine lv_ior C.1 C.2.1 hd ?_
  rw [e1]
  exact a hn hw (List.forall_mem_cons.mpr ⟨hz, hs⟩) hm H locs L hP hD hS hl
theorem q_s_ixor {x y z : Int} (C : q_cx p R s m args c cells slots g nL cl cc) (hz : q_i32 z) (e1 : Int32.ofInt x ^^^ Int32.ofInt y = Int32.ofInt z) (hd : decode cc pc = .ok (.ixor, 1)) (a : q_G p l e R s m args below meth c cells slots Qf g nL (pc + 1) ls (.inl z :: r) h) : q_G p l e R s m args below meth c cells slots Qf g nL pc ls (.inl y :: .inl x :: r) h := by
  intro hn hw hs hm H locs L hP hD hS hl
  obtain ⟨hy, hs⟩ := List.forall_mem_cons.mp hs
  obtain ⟨hx, hs⟩ := List.forall_mem_cons.mp hs
  refine lv_ixor C.1 C.2.1 hd ?_
  rw [e1]
  exact a hn hw (List.forall_mem_cons.mpr ⟨hz, hs⟩) hm H locs L hP hD hS hl
theorem q_s_ishl {x y z : Int} (C : q_cx p R s m args c cells slots g nL cl cc) (hz : q_i32 z) (e1 : Int32.ofInt x <<< (Int32.ofInt y &&& 31) = Int32.ofInt z) (hd : decode cc pc = .ok (.ishl, 1)) (a : q_G p l e R s m args below meth c cells slots Qf g nL (pc + 1) ls (.inl z :: r) h) : q_G p l e R s m args below meth c cells slots Qf g nL pc ls (.inl y :: .inl x :: r) h := by
  intro hn hw hs hm H locs L hP hD hS hl
  obtain ⟨hy, hs⟩ := List.forall_mem_cons.mp hs
  obtain ⟨hx, hs⟩ := List.forall_mem_cons.mp hs
  refine lv_ishl C.1 C.2.1 hd ?_
  rw [e1]
  exact a hn hw (List.forall_mem_cons.mpr ⟨hz, hs⟩) hm H locs L hP hD hS hl
theorem q_s_ishr {x y z : Int} (C : q_cx p R s m args c cells slots g nL cl cc) (hz : q_i32 z) (e1 : Int32.ofInt x >>> (Int32.ofInt y &&& 31) = Int32.ofInt z) (hd : decode cc pc = .ok (.ishr, 1)) (a : q_G p l e R s m args below meth c cells slots Qf g nL (pc + 1) ls (.inl z :: r) h) : q_G p l e R s m args below meth c cells slots Qf g nL pc ls (.inl y :: .inl x :: r) h := by
  intro hn hw hs hm H locs L hP hD hS hl
  obtain ⟨hy, hs⟩ := List.forall_mem_cons.mp hs
  obtain ⟨hx, hs⟩ := List.forall_mem_cons.mp hs
  refine lv_ishr C.1 C.2.1 hd ?_
  rw [e1]
  exact a hn hw (List.forall_mem_cons.mpr ⟨hz, hs⟩) hm H locs L hP hD hS hl
theorem q_s_idiv {x y z : Int} (C : q_cx p R s m args c cells slots g nL cl cc) (hz : q_i32 z) (h0 : ¬ Int32.ofInt y = 0) (e1 : Int32.ofInt x / Int32.ofInt y = Int32.ofInt z) (hd : decode cc pc = .ok (.idiv, 1)) (a : q_G p l e R s m args below meth c cells slots Qf g nL (pc + 1) ls (.inl z :: r) h) : q_G p l e R s m args below meth c cells slots Qf g nL pc ls (.inl y :: .inl x :: r) h := by
  intro hn hw hs hm H locs L hP hD hS hl
  obtain ⟨hy, hs⟩ := List.forall_mem_cons.mp hs
  obtain ⟨hx, hs⟩ := List.forall_mem_cons.mp hs
  refine lv_idiv C.1 C.2.1 hd h0 ?_
  rw [e1]
  exact a hn hw (List.forall_mem_cons.mpr ⟨hz, hs⟩) hm H locs L hP hD hS hl
theorem q_s_irem {x y z : Int} (C : q_cx p R s m args c cells slots g nL cl cc) (hz : q_i32 z) (h0 : ¬ Int32.ofInt y = 0) (e1 : Int32.ofInt x - Int32.ofInt x / Int32.ofInt y * Int32.ofInt y = Int32.ofInt z) (hd : decode cc pc = .ok (.irem, 1)) (a : q_G p l e R s m args below meth c cells slots Qf g nL (pc + 1) ls (.inl z :: r) h) : q_G p l e R s m args below meth c cells slots Qf g nL pc ls (.inl y :: .inl x :: r) h := by
  intro hn hw hs hm H locs L hP hD hS hl
  obtain ⟨hy, hs⟩ := List.forall_mem_cons.mp hs
  obtain ⟨hx, hs⟩ := List.forall_mem_cons.mp hs
  refine lv_irem C.1 C.2.1 hd h0 ?_
  rw [e1]
  exact a hn hw (List.forall_mem_cons.mpr ⟨hz, hs⟩) hm H locs L hP hD hS hl
theorem q_s_iushr {x y : Int} (C : q_cx p R s m args c cells slots g nL cl cc) (hd : decode cc pc = .ok (.iushr, 1)) (a : q_G p l e R s m args below meth c cells slots Qf g nL (pc + 1) ls (.inl (q_ushr x y) :: r) h) : q_G p l e R s m args below meth c cells slots Qf g nL pc ls (.inl y :: .inl x :: r) h := by
  intro hn hw hs hm H locs L hP hD hS hl
  obtain ⟨hy, hs⟩ := List.forall_mem_cons.mp hs
  obtain ⟨hx, hs⟩ := List.forall_mem_cons.mp hs
  exact lv_iushr C.1 C.2.1 hd (q_nushr x y) (a hn hw (List.forall_mem_cons.mpr ⟨q_ushr_i x y, hs⟩) hm H locs L hP hD hS hl)
theorem q_s_i2l {x : Int} (C : q_cx p R s m args c cells slots g nL cl cc) (hd : decode cc pc = .ok (.i2l, 1)) (a : q_G p l e R s m args below meth c cells slots Qf g nL (pc + 1) ls (.inr (.inl x) :: r) h) : q_G p l e R s m args below meth c cells slots Qf g nL pc ls (.inl x :: r) h := by
  intro hn hw hs hm H locs L hP hD hS hl
  obtain ⟨hx, hs⟩ := List.forall_mem_cons.mp hs
  have hx : q_i32 x := hx
  exact lv_i2l C.1 C.2.1 hd (q_i2l hx) (a hn hw (List.forall_mem_cons.mpr ⟨by show q_i64 x; unfold q_i32 at hx; unfold q_i64; omega, hs⟩) hm H locs L hP hD hS hl)
theorem q_s_i2b {x : Int} (C : q_cx p R s m args c cells slots g nL cl cc) (hd : decode cc pc = .ok (.i2b, 1)) (a : q_G p l e R s m args below meth c cells slots Qf g nL (pc + 1) ls (.inl (q_w8 x) :: r) h) : q_G p l e R s m args below meth c cells slots Qf g nL pc ls (.inl x :: r) h := by
  intro hn hw hs hm H locs L hP hD hS hl
  obtain ⟨hx, hs⟩ := List.forall_mem_cons.mp hs
  exact lv_i2b C.1 C.2.1 hd (q_ni2b x) (a hn hw (List.forall_mem_cons.mpr ⟨q_w8_i x, hs⟩) hm H locs L hP hD hS hl)
theorem q_s_ladd {x y z : Int} (C : q_cx p R s m args c cells slots g nL cl cc) (hz : q_i64 z) (e1 : Int64.ofInt x + Int64.ofInt y = Int64.ofInt z) (hd : decode cc pc = .ok (.ladd, 1)) (a : q_G p l e R s m args below meth c cells slots Qf g nL (pc + 1) ls (.inr (.inl z) :: r) h) : q_G p l e R s m args below meth c cells slots Qf g nL pc ls (.inr (.inl y) :: .inr (.inl x) :: r) h := by
  intro hn hw hs hm H locs L hP hD hS hl
  obtain ⟨hy, hs⟩ := List.forall_mem_cons.mp hs
  obtain ⟨hx, hs⟩ := List.forall_mem_cons.mp hs
  refine lv_ladd C.1 C.2.1 hd ?_
  rw [e1]
  exact a hn hw (List.forall_mem_cons.mpr ⟨hz, hs⟩) hm H locs L hP hD hS hl
theorem q_s_lmul {x y z : Int} (C : q_cx p R s m args c cells slots g nL cl cc) (hz : q_i64 z) (e1 : Int64.ofInt x * Int64.ofInt y = Int64.ofInt z) (hd : decode cc pc = .ok (.lmul, 1)) (a : q_G p l e R s m args below meth c cells slots Qf g nL (pc + 1) ls (.inr (.inl z) :: r) h) : q_G p l e R s m args below meth c cells slots Qf g nL pc ls (.inr (.inl y) :: .inr (.inl x) :: r) h := by
  intro hn hw hs hm H locs L hP hD hS hl
  obtain ⟨hy, hs⟩ := List.forall_mem_cons.mp hs
  obtain ⟨hx, hs⟩ := List.forall_mem_cons.mp hs
  refine lv_lmul C.1 C.2.1 hd ?_
  rw [e1]
  exact a hn hw (List.forall_mem_cons.mpr ⟨hz, hs⟩) hm H locs L hP hD hS hl
theorem q_s_land {x y z : Int} (C : q_cx p R s m args c cells slots g nL cl cc) (hz : q_i64 z) (e1 : Int64.ofInt x &&& Int64.ofInt y = Int64.ofInt z) (hd : decode cc pc = .ok (.land, 1)) (a : q_G p l e R s m args below meth c cells slots Qf g nL (pc + 1) ls (.inr (.inl z) :: r) h) : q_G p l e R s m args below meth c cells slots Qf g nL pc ls (.inr (.inl y) :: .inr (.inl x) :: r) h := by
  intro hn hw hs hm H locs L hP hD hS hl
  obtain ⟨hy, hs⟩ := List.forall_mem_cons.mp hs
  obtain ⟨hx, hs⟩ := List.forall_mem_cons.mp hs
  refine lv_land C.1 C.2.1 hd ?_
  rw [e1]
  exact a hn hw (List.forall_mem_cons.mpr ⟨hz, hs⟩) hm H locs L hP hD hS hl
theorem q_s_lor {x y z : Int} (C : q_cx p R s m args c cells slots g nL cl cc) (hz : q_i64 z) (e1 : Int64.ofInt x ||| Int64.ofInt y = Int64.ofInt z) (hd : decode cc pc = .ok (.lor, 1)) (a : q_G p l e R s m args below meth c cells slots Qf g nL (pc + 1) ls (.inr (.inl z) :: r) h) : q_G p l e R s m args below meth c cells slots Qf g nL pc ls (.inr (.inl y) :: .inr (.inl x) :: r) h := by
  intro hn hw hs hm H locs L hP hD hS hl
  obtain ⟨hy, hs⟩ := List.forall_mem_cons.mp hs
  obtain ⟨hx, hs⟩ := List.forall_mem_cons.mp hs
  refine lv_lor C.1 C.2.1 hd ?_
  rw [e1]
  exact a hn hw (List.forall_mem_cons.mpr ⟨hz, hs⟩) hm H locs L hP hD hS hl
theorem q_s_lxor {x y z : Int} (C : q_cx p R s m args c cells slots g nL cl cc) (hz : q_i64 z) (e1 : Int64.ofInt x ^^^ Int64.ofInt y = Int64.ofInt z) (hd : decode cc pc = .ok (.lxor, 1)) (a : q_G p l e R s m args below meth c cells slots Qf g nL (pc + 1) ls (.inr (.inl z) :: r) h) : q_G p l e R s m args below meth c cells slots Qf g nL pc ls (.inr (.inl y) :: .inr (.inl x) :: r) h := by
  intro hn hw hs hm H locs L hP hD hS hl
  obtain ⟨hy, hs⟩ := List.forall_mem_cons.mp hs
  obtain ⟨hx, hs⟩ := List.forall_mem_cons.mp hs
  refine lv_lxor C.1 C.2.1 hd ?_
  rw [e1]
  exact a hn hw (List.forall_mem_cons.mpr ⟨hz, hs⟩) hm H locs L hP hD hS hl
theorem q_s_lshl {x y : Int} (C : q_cx p R s m args c cells slots g nL cl cc) (hd : decode cc pc = .ok (.lshl, 1)) (a : q_G p l e R s m args below meth c cells slots Qf g nL (pc + 1) ls (.inr (.inl (q_shl64 x y)) :: r) h) : q_G p l e R s m args below meth c cells slots Qf g nL pc ls (.inl y :: .inr (.inl x) :: r) h := by
  intro hn hw hs hm H locs L hP hD hS hl
  obtain ⟨hy, hs⟩ := List.forall_mem_cons.mp hs
  obtain ⟨hx, hs⟩ := List.forall_mem_cons.mp hs
  have hy : q_i32 y := hy
  have hx : q_i64 x := hx
  exact lv_lshl C.1 C.2.1 hd (q_nshl64 hy) (a hn hw (List.forall_mem_cons.mpr ⟨q_w64_i _, hs⟩) hm H locs L hP hD hS hl)
theorem q_s_lshr {x y : Int} (C : q_cx p R s m args c cells slots g nL cl cc) (hd : decode cc pc = .ok (.lshr, 1)) (a : q_G p l e R s m args below meth c cells slots Qf g nL (pc + 1) ls (.inr (.inl (q_shr64 x y)) :: r) h) : q_G p l e R s m args below meth c cells slots Qf g nL pc ls (.inl y :: .inr (.inl x) :: r) h := by
  intro hn hw hs hm H locs L hP hD hS hl
  obtain ⟨hy, hs⟩ := List.forall_mem_cons.mp hs
  obtain ⟨hx, hs⟩ := List.forall_mem_cons.mp hs
  have hy : q_i32 y := hy
  have hx : q_i64 x := hx
  exact lv_lshr C.1 C.2.1 hd (q_nshr64 hx hy) (a hn hw (List.forall_mem_cons.mpr ⟨q_shr64_i hx, hs⟩) hm H locs L hP hD hS hl)
theorem q_s_lushr {x y : Int} (C : q_cx p R s m args c cells slots g nL cl cc) (hd : decode cc pc = .ok (.lushr, 1)) (a : q_G p l e R s m args below meth c cells slots Qf g nL (pc + 1) ls (.inr (.inl (q_ushr64 x y)) :: r) h) : q_G p l e R s m args below meth c cells slots Qf g nL pc ls (.inl y :: .inr (.inl x) :: r) h := by
  intro hn hw hs hm H locs L hP hD hS hl
  obtain ⟨hy, hs⟩ := List.forall_mem_cons.mp hs
  obtain ⟨hx, hs⟩ := List.forall_mem_cons.mp hs
  have hy : q_i32 y := hy
  have hx : q_i64 x := hx
  exact lv_lushr C.1 C.2.1 hd (q_nushr64 hy) (a hn hw (List.forall_mem_cons.mpr ⟨q_w64_i _, hs⟩) hm H locs L hP hD hS hl)
theorem q_s_lcmp {x y : Int} (C : q_cx p R s m args c cells slots g nL cl cc) (hd : decode cc pc = .ok (.lcmp, 1)) (a : q_G p l e R s m args below meth c cells slots Qf g nL (pc + 1) ls (.inl (q_lcmp x y) :: r) h) : q_G p l e R s m args below meth c cells slots Qf g nL pc ls (.inr (.inl y) :: .inr (.inl x) :: r) h := by
  intro hn hw hs hm H locs L hP hD hS hl
  obtain ⟨hy, hs⟩ := List.forall_mem_cons.mp hs
  obtain ⟨hx, hs⟩ := List.forall_mem_cons.mp hs
  refine W.lcmp C.1 C.2.1 hd ?_
  rw [q_nlcmp hx hy]
  exact a hn hw (List.forall_mem_cons.mpr ⟨q_lcmp_i x y, hs⟩) hm H locs L hP hD hS hl
theorem q_cat1 {g : QG} {v : QV} (hv : q_isL v = false) : (q_cv g v).category = 1 := by
  rcases v with z | z | z
  · rfl
  · cases hv
  · rcases z with _ | ⟨r, i⟩ <;> rfl
theorem q_s_dup {v : QV} (hv : q_isL v = false) (C : q_cx p R s m args c cells slots g nL cl cc) (hd : decode cc pc = .ok (.dup, 1)) (a : q_G p l e R s m args below meth c cells slots Qf g nL (pc + 1) ls (v :: v :: r) h) : q_G p l e R s m args below meth c cells slots Qf g nL pc ls (v :: r) h := by
  intro hn hw hs hm H locs L hP hD hS hl
  exact lv_dup C.1 C.2.1 hd (q_cat1 hv) (a hn hw (List.forall_mem_cons.mpr ⟨(List.forall_mem_cons.mp hs).1, hs⟩) hm H locs L hP hD hS hl)
theorem q_s_dup2 {v u : QV} (hv : q_isL v = false) (hu : q_isL u = false) (C : q_cx p R s m args c cells slots g nL cl cc) (hd : decode cc pc = .ok (.dup2, 1)) (a : q_G p l e R s m args below meth c cells slots Qf g nL (pc + 1) ls (v :: u :: v :: u :: r) h) : q_G p l e R s m args below meth c cells slots Qf g nL pc ls (v :: u :: r) h := by
  intro hn hw hs hm H locs L hP hD hS hl
  obtain ⟨h1, h2⟩ := List.forall_mem_cons.mp hs
  exact lv_dup2_11 C.1 C.2.1 hd (q_cat1 hv) (q_cat1 hu) (a hn hw (List.forall_mem_cons.mpr ⟨h1, List.forall_mem_cons.mpr ⟨(List.forall_mem_cons.mp h2).1, hs⟩⟩) hm H locs L hP hD hS hl)
theorem q_s_pop {v : QV} (hv : q_isL v = false) (C : q_cx p R s m args c cells slots g nL cl cc) (hd : decode cc pc = .ok (.pop, 1)) (a : q_G p l e R s m args below meth c cells slots Qf g nL (pc + 1) ls r h) : q_G p l e R s m args below meth c cells slots Qf g nL pc ls (v :: r) h := by
  intro hn hw hs hm H locs L hP hD hS hl
  exact lv_pop C.1 C.2.1 hd (q_cat1 hv) (a hn hw (List.forall_mem_cons.mp hs).2 hm H locs L hP hD hS hl)
theorem q_s_goto {o : Int} {t : Nat} (C : q_cx p R s m args c cells slots g nL cl cc) (hd : decode cc pc = .ok (.goto o, 3)) (ht : (pc : Int) + o = (t : Int)) (a : q_G p l e R s m args below meth c cells slots Qf g nL t ls r h) : q_G p l e R s m args below meth c cells slots Qf g nL pc ls r h := by
  intro hn hw hs hm H locs L hP hD hS hl
  exact lv_goto C.1 C.2.1 hd ht (a hn hw hs hm H locs L hP hD hS hl)
theorem q_s_if {cd : ClassFile.Cond} {o : Int} {t : Nat} {x : Int} (C : q_cx p R s m args c cells slots g nL cl cc) (hd : decode cc pc = .ok (.ifCond cd o, 3)) (ht : (pc : Int) + o = (t : Int)) (a : q_cond cd x 0 (q_G p l e R s m args below meth c cells slots Qf g nL t ls r h) (q_G p l e R s m args below meth c cells slots Qf g nL (pc + 3) ls r h)) : q_G p l e R s m args below meth c cells slots Qf g nL pc ls (.inl x :: r) h := by
  intro hn hw hs hm H locs L hP hD hS hl
  have hy : q_i32 0 := q_i0
  obtain ⟨hx, hs⟩ := List.forall_mem_cons.mp hs
  have hx : q_i32 x := hx
  have g1 : q_G p l e R s m args below meth c cells slots Qf g nL t ls r h → _ := fun a => a hn hw hs hm H locs L hP hD hS hl
  have g2 : q_G p l e R s m args below meth c cells slots Qf g nL (pc + 3) ls r h → _ := fun a => a hn hw hs hm H locs L hP hD hS hl
  cases cd with
  | eq => exact lv_if_eq C.1 C.2.1 hd ht (fun q => g1 (a.1 ((q_neq hx hy).mp q))) (fun q => g2 (a.2 (fun z => q ((q_neq hx hy).mpr z))))
  | ne => exact lv_if_ne C.1 C.2.1 hd ht (fun q => g1 (a.1 (fun z => q ((q_neq hx hy).mpr z)))) (fun q => g2 (a.2 ((q_neq hx hy).mp q)))
  | lt => exact lv_if_lt C.1 C.2.1 hd ht (fun q => g1 (a.1 ((q_nlt hx hy).mp q))) (fun q => g2 (a.2 (fun z => q ((q_nlt hx hy).mpr z))))
  | ge => exact lv_if_ge C.1 C.2.1 hd ht (fun q => g1 (a.1 ((q_nle hy hx).mp q))) (fun q => g2 (a.2 (fun z => q ((q_nle hy hx).mpr z))))
  | gt => exact lv_if_gt C.1 C.2.1 hd ht (fun q => g1 (a.1 ((q_nlt hy hx).mp q))) (fun q => g2 (a.2 (fun z => q ((q_nlt hy hx).mpr z))))
  | le => exact lv_if_le C.1 C.2.1 hd ht (fun q => g1 (a.1 ((q_nle hx hy).mp q))) (fun q => g2 (a.2 (fun z => q ((q_nle hx hy).mpr z))))
theorem q_s_icmp {cd : ClassFile.Cond} {o : Int} {t : Nat} {x y : Int} (C : q_cx p R s m args c cells slots g nL cl cc) (hd : decode cc pc = .ok (.if_icmp cd o, 3)) (ht : (pc : Int) + o = (t : Int)) (a : q_cond cd x y (q_G p l e R s m args below meth c cells slots Qf g nL t ls r h) (q_G p l e R s m args below meth c cells slots Qf g nL (pc + 3) ls r h)) : q_G p l e R s m args below meth c cells slots Qf g nL pc ls (.inl y :: .inl x :: r) h := by
  intro hn hw hs hm H locs L hP hD hS hl
  obtain ⟨hy, hs⟩ := List.forall_mem_cons.mp hs
  obtain ⟨hx, hs⟩ := List.forall_mem_cons.mp hs
  have hx : q_i32 x := hx
  have hy : q_i32 y := hy
  have g1 : q_G p l e R s m args below meth c cells slots Qf g nL t ls r h → _ := fun a => a hn hw hs hm H locs L hP hD hS hl
  have g2 : q_G p l e R s m args below meth c cells slots Qf g nL (pc + 3) ls r h → _ := fun a => a hn hw hs hm H locs L hP hD hS hl
  cases cd with
  | eq => exact lv_icmp_eq C.1 C.2.1 hd ht (fun q => g1 (a.1 ((q_neq hx hy).mp q))) (fun q => g2 (a.2 (fun z => q ((q_neq hx hy).mpr z))))
  | ne => exact lv_icmp_ne C.1 C.2.1 hd ht (fun q => g1 (a.1 (fun z => q ((q_neq hx hy).mpr z)))) (fun q => g2 (a.2 ((q_neq hx hy).mp q)))
  | lt => exact lv_icmp_lt C.1 C.2.1 hd ht (fun q => g1 (a.1 ((q_nlt hx hy).mp q))) (fun q => g2 (a.2 (fun z => q ((q_nlt hx hy).mpr z))))
  | ge => exact lv_icmp_ge C.1 C.2.1 hd ht (fun q => g1 (a.1 ((q_nle hy hx).mp q))) (fun q => g2 (a.2 (fun z => q ((q_nle hy hx).mpr z))))
  | gt => exact lv_icmp_gt C.1 C.2.1 hd ht (fun q => g1 (a.1 ((q_nlt hy hx).mp q))) (fun q => g2 (a.2 (fun z => q ((q_nlt hy hx).mpr z))))
  | le => exact lv_icmp_le C.1 C.2.1 hd ht (fun q => g1 (a.1 ((q_nle hx hy).mp q))) (fun q => g2 (a.2 (fun z => q ((q_nle hx hy).mpr z))))
theorem q_s_ifnull {o : Int} {t : Nat} {x : Option (Nat × Int)} (C : q_cx p R s m args c cells slots g nL cl cc) (hd : decode cc pc = .ok (.ifnull o, 3)) (ht : (pc : Int) + o = (t : Int)) (a : match x with | none => q_G p l e R s m args below meth c cells slots Qf g nL t ls r h | some _ => q_G p l e R s m args below meth c cells slots Qf g nL (pc + 3) ls r h) : q_G p l e R s m args below meth c cells slots Qf g nL pc ls (.inr (.inr x) :: r) h := by
  intro hn hw hs hm H locs L hP hD hS hl
  have hs2 := (List.forall_mem_cons.mp hs).2
  rcases x with _ | ⟨r0, i0⟩
  · exact lv_ifnullN C.1 C.2.1 hd ht (a hn hw hs2 hm H locs L hP hD hS hl)
  · exact lv_ifnull C.1 C.2.1 hd (a hn hw hs2 hm H locs L hP hD hS hl)
theorem q_s_ifnonnull {o : Int} {t : Nat} {x : Option (Nat × Int)} (C : q_cx p R s m args c cells slots g nL cl cc) (hd : decode cc pc = .ok (.ifnonnull o, 3)) (ht : (pc : Int) + o = (t : Int)) (a : match x with | none => q_G p l e R s m args below meth c cells slots Qf g nL (pc + 3) ls r h | some _ => q_G p l e R s m args below meth c cells slots Qf g nL t ls r h) : q_G p l e R s m args below meth c cells slots Qf g nL pc ls (.inr (.inr x) :: r) h := by
  intro hn hw hs hm H locs L hP hD hS hl
  have hs2 := (List.forall_mem_cons.mp hs).2
  rcases x with _ | ⟨r0, i0⟩
  · exact lv_ifnonnullN C.1 C.2.1 hd (a hn hw hs2 hm H locs L hP hD hS hl)
  · exact lv_ifnonnull C.1 C.2.1 hd ht (a hn hw hs2 hm H locs L hP hD hS hl)
theorem q_sw_at {x : Int} {K : Nat → Prop} : ∀ (ts : List Nat) (lo : Int) (n : Nat) (t : Nat), q_sw x K lo ts → ts[n]? = some t → x = lo + n → K t
  | [], _, n, t, _, h, _ => by cases n <;> cases h
  | a :: ts, lo, 0, t, hs, h, e => by
    have : a = t := by simpa using h
    subst this
    exact hs.1 (by omega)
  | a :: ts, lo, n + 1, t, hs, h, e => q_sw_at ts (lo + 1) n t hs.2 (by simpa using h) (by omega)
theorem q_s_tsw {d lo hi : Int} {os : Array Int} {len t : Nat} {ts : List Nat} {x : Int} (C : q_cx p R s m args c cells slots g nL cl cc) (hd : decode cc pc = .ok (.tableswitch d lo hi os, len)) (ht : (d :: os.toList).map (fun o => (pc : Int) + o) = (t :: ts).map (fun (t : Nat) => (t : Int)) ∧ (os.size : Int) = hi - lo + 1) (a1 : x < lo ∨ hi < x → q_G p l e R s m args below meth c cells slots Qf g nL t ls r h) (a2 : q_sw x (fun t => q_G p l e R s m args below meth c cells slots Qf g nL t ls r h) lo ts) : q_G p l e R s m args below meth c cells slots Qf g nL pc ls (.inl x :: r) h := by
  intro hn hw hs hm H locs L hP hD hS hl
  obtain ⟨hx, hs⟩ := List.forall_mem_cons.mp hs
  have hx : q_i32 x := hx
  obtain ⟨h1, h2⟩ := ht
  rw [List.map_cons, List.map_cons] at h1
  have hd0 := (List.cons.inj h1).1
  have hts := (List.cons.inj h1).2
  by_cases q : x < lo ∨ hi < x
  · exact lv_tableOut C.1 C.2.1 hd (by rw [q_n32 hx]; exact q) hd0 (a1 q hn hw hs hm H locs L hP hD hS hl)
  · have q1 : ¬ x < lo := fun z => q (Or.inl z)
    have q2 : ¬ hi < x := fun z => q (Or.inr z)
    have hlt : (x - lo).toNat < os.size := by omega
    have ho : os[(x - lo).toNat]? = some os[(x - lo).toNat] := Array.getElem?_eq_getElem hlt
    have h3 : (os.toList.map (fun o => (pc : Int) + o))[(x - lo).toNat]? = some ((pc : Int) + os[(x - lo).toNat]) := by
      rw [List.getElem?_map, Array.getElem?_toList, ho]
      rfl
    rw [hts, List.getElem?_map] at h3
    cases h4 : ts[(x - lo).toNat]? with
    | none => rw [h4] at h3; cases h3
    | some t' =>
      rw [h4] at h3
      have h5 : (t' : Int) = (pc : Int) + os[(x - lo).toNat] := Option.some.inj h3
      exact lv_tableIn C.1 C.2.1 hd (by rw [q_n32 hx]; exact q1) (by rw [q_n32 hx]; exact q2) (by rw [q_n32 hx]; exact ho) h5.symm (q_sw_at ts lo _ t' a2 h4 (by omega) hn hw hs hm H locs L hP hD hS hl)
end QSound
