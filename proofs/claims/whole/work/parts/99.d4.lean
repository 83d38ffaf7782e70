/-! what the construction machine's words say -/
theorem c_go_out {b : Bool} {k : QCR} {x : Option QV × List QCE} (h : c_go b k = some x) : b = true ∧ k = some x := by
  cases b with
  | true => exact ⟨rfl, h⟩
  | false => cases h
theorem c_ldI_out {ls : QL} {k : Nat} {f : Int → QCR} {x : Option QV × List QCE} (h : c_ldI ls k f = some x) : ∃ z, q_get ls k = some (some (.inl z)) ∧ f z = some x := by
  unfold c_ldI at h
  split at h
  · rename_i z hz
    exact ⟨z, hz, h⟩
  · cases h
theorem c_ldL_out {ls : QL} {k : Nat} {f : Int → QCR} {x : Option QV × List QCE} (h : c_ldL ls k f = some x) : ∃ z, q_get ls k = some (some (.inr (.inl z))) ∧ f z = some x := by
  unfold c_ldL at h
  split at h
  · rename_i z hz
    exact ⟨z, hz, h⟩
  · cases h
theorem c_ldA_out {ls : QL} {k : Nat} {f : Nat × Int → QCR} {x : Option QV × List QCE} (h : c_ldA ls k f = some x) : ∃ r i, q_get ls k = some (some (.inr (.inr (some (r, i))))) ∧ f (r, i) = some x := by
  unfold c_ldA at h
  split at h
  · rename_i a hz
    obtain ⟨r, i⟩ := a
    exact ⟨r, i, hz, h⟩
  · cases h
theorem c_i1_out {st : List QV} {f : Int → List QV → QCR} {x : Option QV × List QCE} (h : c_i1 st f = some x) : ∃ y r, st = .inl y :: r ∧ f y r = some x := by
  unfold c_i1 at h
  split at h
  · exact ⟨_, _, rfl, h⟩
  · cases h
theorem c_i2_out {st : List QV} {f : Int → Int → List QV → QCR} {x : Option QV × List QCE} (h : c_i2 st f = some x) : ∃ y z r, st = .inl z :: .inl y :: r ∧ f y z r = some x := by
  unfold c_i2 at h
  split at h
  · exact ⟨_, _, _, rfl, h⟩
  · cases h
theorem c_l2_out {st : List QV} {f : Int → Int → List QV → QCR} {x : Option QV × List QCE} (h : c_l2 st f = some x) : ∃ y z r, st = .inr (.inl z) :: .inr (.inl y) :: r ∧ f y z r = some x := by
  unfold c_l2 at h
  split at h
  · exact ⟨_, _, _, rfl, h⟩
  · cases h
theorem c_r1_out {st : List QV} {f : Nat × Int → List QV → QCR} {x : Option QV × List QCE} (h : c_r1 st f = some x) : ∃ r0 i0 r, st = .inr (.inr (some (r0, i0))) :: r ∧ f (r0, i0) r = some x := by
  unfold c_r1 at h
  split at h
  · rename_i a r
    obtain ⟨r0, i0⟩ := a
    exact ⟨_, _, _, rfl, h⟩
  · cases h
theorem c_vr_out {st : List QV} {f : QV → Nat × Int → List QV → QCR} {x : Option QV × List QCE} (h : c_vr st f = some x) : ∃ v r0 i0 r, st = v :: .inr (.inr (some (r0, i0))) :: r ∧ f v (r0, i0) r = some x := by
  unfold c_vr at h
  split at h
  · rename_i v a r
    obtain ⟨r0, i0⟩ := a
    exact ⟨_, _, _, _, rfl, h⟩
  · cases h
theorem c_aa_out {st : List QV} {f : Nat × Int → Int → Nat × Int → List QV → QCR} {x : Option QV × List QCE} (h : c_aa st f = some x) : ∃ r1 i1 j r0 i0 r, st = .inr (.inr (some (r1, i1))) :: .inl j :: .inr (.inr (some (r0, i0))) :: r ∧ f (r1, i1) j (r0, i0) r = some x := by
  unfold c_aa at h
  split at h
  · rename_i b j a r
    obtain ⟨r0, i0⟩ := a
    obtain ⟨r1, i1⟩ := b
    exact ⟨_, _, _, _, _, _, rfl, h⟩
  · cases h
theorem c_la_out {st : List QV} {f : Int → Int → Nat × Int → List QV → QCR} {x : Option QV × List QCE} (h : c_la st f = some x) : ∃ v j r0 i0 r, st = .inr (.inl v) :: .inl j :: .inr (.inr (some (r0, i0))) :: r ∧ f v j (r0, i0) r = some x := by
  unfold c_la at h
  split at h
  · rename_i v j a r
    obtain ⟨r0, i0⟩ := a
    exact ⟨_, _, _, _, _, rfl, h⟩
  · cases h
theorem c_t1_out {pc : Nat} {o : Int} {tg : List Nat} {f : Nat → QCR} {x : Option QV × List QCE} (ht : q_tok pc o tg = true) (h : c_t1 tg f = some x) : ∃ t : Nat, (pc : Int) + o = (t : Int) ∧ f t = some x := by
  unfold c_t1 at h
  split at h
  · rename_i t
    exact ⟨t, of_decide_eq_true ht, h⟩
  · cases h
theorem c_rw_out {E : List QCE} {a : Nat} {f : Nat → Nat → List (Nat × Int) → QCR} {x : Option QV × List QCE} (h : c_rw E a f = some x) : ∃ k n ov, q_get E a = some (.inl (k, n, ov)) ∧ f k n ov = some x := by
  unfold c_rw at h
  split at h
  · rename_i k n ov hq
    exact ⟨k, n, ov, hq, h⟩
  · cases h
theorem c_obj_out {E : List QCE} {a : Nat} {f : Nat → List QV → QCR} {x : Option QV × List QCE} (h : c_obj E a f = some x) : ∃ ci fs, q_get E a = some (.inr (ci, fs)) ∧ f ci fs = some x := by
  unfold c_obj at h
  split at h
  · rename_i ci fs hq
    exact ⟨ci, fs, hq, h⟩
  · cases h
theorem c_fld_out {cl i : Nat} {f : Nat → Nat → QCR} {x : Option QV × List QCE} (h : c_fld cl i f = some x) : ∃ ci k, q_look q_fts cl i = some (ci, k) ∧ f ci k = some x := by
  unfold c_fld at h
  split at h
  · rename_i ci k hq
    exact ⟨ci, k, hq, h⟩
  · cases h
theorem c_som_out {α : Type} {o : Option α} {f : α → QCR} {x : Option QV × List QCE} (h : c_som o f = some x) : ∃ y, o = some y ∧ f y = some x := by
  unfold c_som at h
  split at h
  · exact ⟨_, rfl, h⟩
  · cases h
theorem c_void_out {o : QCR} {f : List QCE → QCR} {x : Option QV × List QCE} (h : c_void o f = some x) : ∃ E, o = some (none, E) ∧ f E = some x := by
  unfold c_void at h
  split at h
  · exact ⟨_, rfl, h⟩
  · cases h
theorem c_long_out {o : QCR} {f : Int → List QCE → QCR} {x : Option QV × List QCE} (h : c_long o f = some x) : ∃ z E, o = some (some (.inr (.inl z)), E) ∧ f z E = some x := by
  unfold c_long at h
  split at h
  · exact ⟨_, _, rfl, h⟩
  · cases h
theorem c_nil_out {b : Bool} {st : List QV} {E E' : List QCE} {r : Option QV} (h : c_nil b st E = some (r, E')) : b = false ∧ st = [] ∧ r = none ∧ E' = E := by
  unfold c_nil at h
  split at h
  · cases h; exact ⟨rfl, rfl, rfl, rfl⟩
  · cases h
theorem c_one_out {b : Bool} {st : List QV} {E E' : List QCE} {r : Option QV} (h : c_one b st E = some (r, E')) : ∃ z, b = true ∧ st = [.inr (.inl z)] ∧ r = some (.inr (.inl z)) ∧ E' = E := by
  unfold c_one at h
  split at h
  · cases h; exact ⟨_, rfl, rfl, rfl, rfl⟩
  · cases h
theorem c_b32_out {z : Int} (h : c_b32 z = true) : q_i32 z := by
  have := of_decide_eq_true h
  exact this
theorem c_bn_out {n : Int} (h : c_bn n = true) : (0 ≤ n ∧ n ≤ 100000) ∧ q_i32 n := by
  have := of_decide_eq_true h
  exact ⟨this, by unfold q_i32; omega⟩
theorem c_bj_out {j : Int} {n : Nat} (h : c_bj j n = true) : (0 ≤ j ∧ j < n ∧ n ≤ 100000) ∧ q_i32 j := by
  have := of_decide_eq_true h
  exact ⟨this, by unfold q_i32; omega⟩
theorem c_nneg {n : Int} (h : 0 ≤ n) (hi : q_i32 n) : ¬ Int32.ofInt n < 0 := fun q => by
  have := (q_nlt hi q_i0).mp q
  omega
/-! contracts of the constructors -/
def c_A2 (cid : Nat → ClassId) (U : State) : Prop := ∃ kA : Class, U.vm.classes[cid 7]? = some kA ∧ kA.kind = .array (cid 1) (.array .int)
def c_Bd (g : QG) (U : State) : Prop := va_K g.1 vwCl (q_tys g) U ∧ (va_AO "StepSums$Hall" U ∧ va_AO "StepSums$Line" U ∧ va_AO "StepSums$StepSet" U) ∧ c_A2 g.2.2.2.1 U
theorem c_Bd_mv {g : QG} {u U : State} (hvm : u.vm.Alike U.vm) (h : c_Bd g u) : c_Bd g U := by
  obtain ⟨h1, ⟨h2, h3, h4⟩, kA, h5, h6⟩ := h
  obtain ⟨k', hk', he⟩ := hvm.2.2 _ _ h5
  exact ⟨va_K.moved hvm h1, ⟨h2.moved hvm, h3.moved hvm, h4.moved hvm⟩, k', hk', by rw [he]; exact h6⟩
def c_rm (d mc ms : Nat) : Room := { frames := d, cells := mc, slots := ms, locals := 64 * d }
def c_mws (n : Nat) : List Jvm.Cond := .code (c_mm n).1 (c_mm n).2.1 (c_mm n).2.2.1 (c_mm n).2.2.2 :: q_W
def c_PH (g : QG) (sz : Nat) (E : List QCE) (H : Heap) : Prop := va_P g.1 vwCl (c_W g.2.2.2.1 sz E) H
def c_Pc (g : QG) (sz : Nat) (a : List QV) (E : List QCE) : Array Value → State → Prop := va_Pc (a.map (q_cv g)) (fun U => U.heap.size = sz + E.length ∧ c_PH g sz E U.heap ∧ c_Bd g U)
def c_Qc (g : QG) (sz : Nat) (r : Option QV) (E : List QCE) : Array Value → State → Outcome → State → Prop := fun _ st oc t => (oc = .returned (r.map (q_cv g)) ∧ c_PH g sz E t.heap) ∧ va_F g.2.2.1 st t
def c_met (l : Launch) (g : QG) (sz d n : Nat) (a : List QV) (E : List QCE) (r : Option QV) (E' : List QCE) : Prop := Met l (c_mm n).1 (c_mws n) (c_rm d (E'.length - E.length) (c_sz E' - c_sz E)) (c_Pc g sz a E) (c_Qc g sz r E') (E'.length - E.length) (c_sz E' - c_sz E) g.2.2.1
theorem c_blind (g : QG) (sz : Nat) (a : List QV) (E : List QCE) : FrameBlind (c_Pc g sz a E) := by
  intro b U f mk q
  obtain ⟨q0, q1, q2, q3⟩ := q
  exact ⟨q0, q1, q2, c_Bd_mv (u := U) (U := U.calling f mk b) (Vm.Alike.refl U.vm) q3⟩
def c_cx (p : Program) (s : State) (m : MethodId) (args : Array Value) (meth : Method) (c : Code) (g : QG) (sz nL cl : Nat) (cc : ByteArray) (rv : Bool) (E0 : List QCE) : Prop :=
  p.tables.exec = Jvm.exec ∧ c.code = cc ∧ c.maxLocals = nL ∧ s.vm.findClass (q_cn cl) = some m.cls ∧ (∀ w ∈ q_W, w.before args s = true) ∧ c_Bd g s ∧ (rv = false → meth.name = "<init>") ∧ (∀ r i, g.2.1 r i = sz + i.toNat) ∧ (∀ q, sz ≤ q → g.2.2.1 q) ∧ s.heap.size = sz + E0.length ∧ cl < 13
def c_G (p : Program) (l : Launch) (e : Env) (R : Room) (s : State) (m : MethodId) (args : Array Value) (below : List Frame) (meth : Method) (c : Code) (Qf : State → Prop) (g : QG) (sz nL : Nat) (E0 : List QCE) (pc : Nat) (ls : QL) (st : List QV) (E : List QCE) : Prop :=
  c_le E0 E → ls.length = nL → ∀ (H : Heap) (locs : List Loc) (L : Array Slot), c_PH g sz E H → va_S g.2.2.1 s.heap H locs → lv_has L nL (q_lc g 0 ls) → W p l e R s m args below meth c H locs (E.length - E0.length) (c_sz E - c_sz E0) Qf (F0 m pc L (st.map (q_cv g)))
theorem c_S_grow {A : Nat → Prop} {H0 H H1 : Heap} {locs : List Loc} (hS : va_S A H0 H locs) (hz : H.size ≤ H1.size) (ho : ∀ q, q < H.size → H1[q]? = H[q]?) : va_S A H0 H1 locs :=
  ⟨Nat.le_trans hS.1 hz, fun x h1 h2 => (ho x (Nat.lt_of_lt_of_le h1 hS.1)).trans (hS.2.1 x h1 h2), hS.2.2⟩
section CSound
variable {p : Program} {l : Launch} {e : Env} {R : Room} {s : State} {m : MethodId} {args : Array Value} {below : List Frame} {meth : Method} {c : Code} {Qf : State → Prop} {g : QG} {sz nL cl d : Nat} {cc : ByteArray} {rv : Bool} {E0 E : List QCE} {pc : Nat} {ls : QL} {st r : List QV}
theorem c_size {H : Heap} {locs : List Loc} {Q : State → Prop} {fr : JFrame} (hs : s.heap.size = sz + E0.length) (hle : c_le E0 E) (hP : c_PH g sz E H) (hS : va_S g.2.2.1 s.heap H locs) (kk : H.size = sz + E.length → W p l e R s m args below meth c H locs (E.length - E0.length) (c_sz E - c_sz E0) Q fr) : W p l e R s m args below meth c H locs (E.length - E0.length) (c_sz E - c_sz E0) Q fr := by
  intro T hT X
  refine kk ?_ T hT X
  have h1 := X.heapSize
  rw [hT, hs] at h1
  have h2 := hS.1
  rw [hs] at h2
  have h3 := hle.1
  by_cases h0 : E.length = 0
  · omega
  · have hlt : E.length - 1 < E.length := by omega
    have hg : q_get E (E.length - 1) = some E[E.length - 1] := by rw [q_get_eq]; exact List.getElem?_eq_getElem hlt
    have := (hP _ _ (c_W_get (cid := g.2.2.2.1) (sz := sz) hg)).lt
    dsimp only at this
    omega
theorem c_hts (C : c_cx p s m args meth c g sz nL cl cc rv E0) {w : Jvm.Cond} (hw : q_in w) : w.before args s = true := C.2.2.2.2.1 w hw
theorem c_ix_cv (hga : ∀ r i, g.2.1 r i = sz + i.toNat) (E : List QCE) : q_cv g (c_ix E) = .ref (sz + E.length) := by
  show Value.ref (g.2.1 0 (E.length : Int)) = _
  rw [hga]
  rfl
/-- behind the making of new cells -/
theorem c_grown {F : List QCE} {H H1 : Heap} {locs : List Loc} {L : Array Slot} {k1 k2 n : Nat} {vs : List QV} (k : c_G p l e R s m args below meth c Qf g sz nL E0 (pc + n) ls vs (E ++ F)) (hle : c_le E0 E) (hn : ls.length = nL) (hP1 : c_PH g sz (E ++ F) H1) (hS : va_S g.2.2.1 s.heap H locs) (hz : H.size ≤ H1.size) (ho : ∀ q, q < H.size → H1[q]? = H[q]?) (hl : lv_has L nL (q_lc g 0 ls)) (e1 : k1 = F.length) (e2 : k2 = c_sz F) {fr : JFrame} (hf : fr = F0 m (pc + n) L (vs.map (q_cv g))) : W p l e R s m args below meth c H1 locs (E.length - E0.length + k1) (c_sz E - c_sz E0 + k2) Qf fr := by
  have hle2 := c_le_tr hle (c_le_app E F)
  refine W.cs ?_ ?_ (W.eq hf (k hle2 hn H1 locs L hP1 (c_S_grow hS hz ho) hl))
  · rw [List.length_append]; have := hle.1; omega
  · rw [c_sz_app]; have := hle.2; omega
theorem c_s_new {i ci : Nat} {E1 : List QCE} (C : c_cx p s m args meth c g sz nL cl cc rv E0) (hR : E1.length - E0.length ≤ R.cells ∧ c_sz E1 - c_sz E0 ≤ R.slots) (hi : q_look c_news cl i = some ci) (hd : decode cc pc = .ok (.new i, 3)) (h1 : c_le (E ++ [.inr (ci, c_fs ci)]) E1) (k : c_G p l e R s m args below meth c Qf g sz nL E0 (pc + 3) ls (c_ix E :: st) (E ++ [.inr (ci, c_fs ci)])) : c_G p l e R s m args below meth c Qf g sz nL E0 pc ls st E := by
  intro hle hn H locs L hP hS hl
  refine c_size C.2.2.2.2.2.2.2.2.2.1 hle hP hS (fun hsz => ?_)
  have hci : ci < 13 := by
    have h := List.mem_of_getElem? (l := [0]) (i := 0) rfl
    have hm := q_look_mem hi
    have hall : ∀ x ∈ c_news.flatMap id, x.2 < 13 := by decide +kernel
    refine hall (i, ci) ?_
    cases hq : q_get c_news cl with
    | none => rw [hq] at hm; cases hm
    | some l =>
      rw [hq] at hm
      rw [q_get_eq] at hq
      exact List.mem_flatMap.mpr ⟨l, List.mem_of_getElem? hq, hm⟩
  have hKn := C.2.2.2.2.2.1.1.1 ci _ (q_cl ci hci)
  have hw1 := c_hts C (c_fn cl C.2.2.2.2.2.2.2.2.2.2 _ (List.mem_map.mpr ⟨(i, ci), q_look_mem hi, rfl⟩))
  have hw2 := c_hts C (c_fi _ (List.mem_map.mpr ⟨ci, List.mem_range.mpr hci, rfl⟩))
  have hw3 := c_hts C (c_fz _ (List.mem_map.mpr ⟨ci, List.mem_range.mpr hci, rfl⟩))
  have hl1 := h1.1
  have hl2 := h1.2
  rw [List.length_append] at hl1
  rw [c_sz_app] at hl2
  have hone : c_sz [(.inr (ci, c_fs ci) : QCE)] = q_N ci := rfl
  rw [hone] at hl2
  have hl1 : E.length + 1 ≤ E1.length := hl1
  have hle1 := hle.1
  have hle2 := hle.2
  refine W.newcK C.1 C.2.1 C.2.2.2.1 hw1 hw2 hw3 rfl hd (by omega) (by omega) hKn.2.1 rfl (fun H1 kC hkC e1 z1 o1 => ?_)
  refine c_grown (n := 3) k hle hn (c_push hP o1 ?_) hS (by omega) o1 hl rfl hone.symm ?_
  · rw [hsz] at e1
    exact ⟨_, q_cl ci hci, (u_born (q_tyF ci) C.2.2.2.2.1 (q_fu ci hci) hKn hkC e1 (q_tyok ci hci)).to (fun j hj => c_fs_at hci hj)⟩
  · rw [List.map_cons, c_ix_cv C.2.2.2.2.2.2.2.1, hsz]
end CSound
