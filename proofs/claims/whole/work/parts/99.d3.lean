/-! rows of rows made at once -/
def c_mo (cA : ClassId) (N o i : Nat) : Cell := arrV cA N (fun j => if j < i then .ref (o + 1 + j) else .null)
theorem c_mo_set (cA : ClassId) (N o i : Nat) : (c_mo cA N o i).setSlot i (.ref (o + 1 + i)) = c_mo cA N o (i + 1) := by
  unfold c_mo
  rw [arrV_store]
  congr 1
  funext j
  unfold updV
  by_cases h : j = i
  · subst h
    rw [if_pos rfl, if_pos (by omega)]
  · rw [if_neg h]
    show (if j < i then Value.ref (o + 1 + j) else .null) = _
    by_cases h2 : j < i
    · rw [if_pos h2, if_pos (by omega)]
    · rw [if_neg h2, if_neg (by omega)]
theorem c_mo_size (cA : ClassId) (N o i : Nat) : (c_mo cA N o i).slots.size = N := arrV_size _ _ _
def c_mi (cB : ClassId) (M : Nat) : Cell := arrV cB M (fun _ => .int 0)
def c_mst (T : State) (cA cB : ClassId) (N M : Nat) : Nat → State
  | 0 => T.pushCell (c_mo cA N T.heap.size 0)
  | i + 1 => ((c_mst T cA cB N M i).pushCell (c_mi cB M)).setCell T.heap.size ((c_mo cA N T.heap.size i).setSlot i (.ref (T.heap.size + 1 + i)))
def c_mfac (T : State) (cA cB : ClassId) (N M i : Nat) (U : State) : Prop :=
  U.heap.size = T.heap.size + 1 + i ∧ U.heap[T.heap.size]? = some (c_mo cA N T.heap.size i) ∧ (∀ q, q < T.heap.size → U.heap[q]? = T.heap[q]?) ∧ (∀ j, j < i → U.heap[T.heap.size + 1 + j]? = some (c_mi cB M)) ∧ U.vm = T.vm ∧ U.slotsUsed = T.slotsUsed + N + i * M
theorem c_mst_ok (T : State) (cA cB : ClassId) (N M : Nat) : ∀ i, c_mfac T cA cB N M i (c_mst T cA cB N M i)
  | 0 => ⟨by show (T.pushCell _).heap.size = _; rw [size_pushCell], State.heap_pushCell_size _ _, fun q h => State.heap_pushCell_of_lt _ _ h, fun j h => absurd h (Nat.not_lt_zero _), rfl, by
    show T.slotsUsed + (c_mo cA N T.heap.size 0).slots.size = _
    rw [c_mo_size]; omega⟩
  | i + 1 => by
    obtain ⟨f1, f2, f3, f4, f5, f6⟩ := c_mst_ok T cA cB N M i
    have hp : ∀ q, q < T.heap.size + 1 + i → ((c_mst T cA cB N M i).pushCell (c_mi cB M)).heap[q]? = (c_mst T cA cB N M i).heap[q]? := fun q hq => State.heap_pushCell_of_lt _ _ (by rw [f1]; exact hq)
    have hz : ((c_mst T cA cB N M i).pushCell (c_mi cB M)).heap.size = T.heap.size + 1 + i + 1 := by rw [size_pushCell, f1]
    have ho : ∀ q, q ≠ T.heap.size → (c_mst T cA cB N M (i + 1)).heap[q]? = ((c_mst T cA cB N M i).pushCell (c_mi cB M)).heap[q]? := fun q hq => heapAt_setCell_ne _ (Ne.symm hq)
    refine ⟨?_, ?_, fun q h => ?_, fun j h => ?_, f5, ?_⟩
    · show (State.setCell _ _ _).heap.size = _
      rw [size_setCell, hz]; omega
    · rw [← c_mo_set]
      have hlt : T.heap.size < ((c_mst T cA cB N M i).pushCell (c_mi cB M)).heap.size := by rw [hz]; omega
      exact heapAt_setCell_self _ hlt
    · rw [ho q (by omega), hp q (by omega), f3 q h]
    · rw [ho _ (by omega)]
      by_cases e : j = i
      · subst e
        rw [← f1]
        exact State.heap_pushCell_size _ _
      · rw [hp _ (by omega), f4 j (by omega)]
    · show (c_mst T cA cB N M i).slotsUsed + (c_mi cB M).slots.size = _
      rw [f6, show (c_mi cB M).slots.size = M from arrV_size _ _ _, Nat.succ_mul]; omega
theorem c_mst_top (T : State) (f : JFrame) (cA cB : ClassId) (N M : Nat) : ∀ i, c_mst (T.setTop f) cA cB N M i = (c_mst T cA cB N M i).setTop f
  | 0 => rfl
  | i + 1 => by
    show ((c_mst (T.setTop f) cA cB N M i).pushCell (c_mi cB M)).setCell (T.setTop f).heap.size _ = _
    rw [c_mst_top T f cA cB N M i]
    rfl
section CMS
variable {p : Program} {l : Launch} {e : Env} {R : Room} {s : State} {m : MethodId} {args : Array Value} {below : List Frame} {meth : Method} {c : Code} {T : State} {locs : List Loc} {cells slots : Nat}
theorem c_mst_stand (X : Stand p l e R s m args below meth c T locs cells slots) (cA cB : ClassId) (N M : Nat) : ∀ i, Stand p l e R s m args below meth c (c_mst T cA cB N M i) locs (cells + 1 + i) (slots + N + i * M)
  | 0 => by
    have h := X.pushed (c_mo cA N T.heap.size 0)
    rw [c_mo_size] at h
    rw [Nat.zero_mul]
    exact h
  | i + 1 => by
    have Xi := c_mst_stand X cA cB N M i
    obtain ⟨f1, f2, -⟩ := c_mst_ok T cA cB N M i
    have hcell : ((c_mst T cA cB N M i).pushCell (c_mi cB M)).heap[T.heap.size]? = some (c_mo cA N T.heap.size i) := by
      have hlt : T.heap.size < (c_mst T cA cB N M i).heap.size := by rw [f1]; omega
      rw [State.heap_pushCell_of_lt _ _ hlt]
      exact f2
    have h := (Xi.pushed (c_mi cB M)).stored hcell i (.ref (T.heap.size + 1 + i))
    rw [show (c_mi cB M).slots.size = M from arrV_size _ _ _] at h
    have h := h.dropFresh (fun x hx => by rw [List.mem_singleton.mp hx]; exact X.heapGrown)
    rw [show slots + N + (i + 1) * M = slots + N + i * M + M by rw [Nat.succ_mul]; omega]
    exact h
end CMS
section CMW
variable {E : CtlPost} {e : Env} {d : Bool} {acts : List Action} {s : State}
theorem c_wp_in {cB cC : ClassId} {kB : Class} {k : Int32} (hkB : s.vm.classes[cB]? = some kB) (hkindB : kB.kind = .array cC .int) (hk : ¬ k < 0) (hl : ¬ k.toNatClampNeg > e.platform.arrayLengthLimit) (hh : ¬ k.toNatClampNeg * componentBytes .int > e.platform.maxHeapBytes)
    (h1 : s.heap.size < e.platform.maxCells) (h2 : s.slotsUsed + k.toNatClampNeg ≤ e.platform.maxSlots) {Q : Addr → Pre} (hq : ∀ acts', Q s.heap.size d acts' (s.pushCell (c_mi cB k.toNatClampNeg))) : wp (multianewarray.make cB [k]) Q E e d acts s := by
  rw [multianewarray.make]
  simp only [wp_bind', W.ite, hk, if_false, wp_pure', W.theClass, hkB, hkindB, Option.some.injEq, exists_eq_left']
  refine W.newArray_of hkB hkindB hl hh h1 h2 rfl (fun acts' => ?_)
  rw [show ({ cls := cB, slots := Array.replicate k.toNatClampNeg (defaultValue .int) } : Cell) = c_mi cB k.toNatClampNeg from arrV_new _ _ _]
  exact hq acts'
theorem c_wp_make {cA cB cC : ClassId} {kA kB : Class} {n k : Int32} (hkA : s.vm.classes[cA]? = some kA) (hkindA : kA.kind = .array cB (.array .int)) (hkB : s.vm.classes[cB]? = some kB) (hkindB : kB.kind = .array cC .int) (hn : ¬ n < 0) (hk : ¬ k < 0)
    (hl1 : ¬ n.toNatClampNeg > e.platform.arrayLengthLimit) (hh1 : ¬ n.toNatClampNeg * componentBytes (.array .int) > e.platform.maxHeapBytes) (hl2 : ¬ k.toNatClampNeg > e.platform.arrayLengthLimit) (hh2 : ¬ k.toNatClampNeg * componentBytes .int > e.platform.maxHeapBytes)
    (h1 : s.heap.size + (1 + n.toNatClampNeg) ≤ e.platform.maxCells) (h2 : s.slotsUsed + (n.toNatClampNeg + n.toNatClampNeg * k.toNatClampNeg) ≤ e.platform.maxSlots)
    {Q : Addr → Pre} (hq : ∀ d' acts', Q s.heap.size d' acts' (c_mst s cA cB n.toNatClampNeg k.toNatClampNeg n.toNatClampNeg)) : wp (multianewarray.make cA [n, k]) Q E e d acts s := by
  generalize hN : n.toNatClampNeg = N at *
  generalize hM : k.toNatClampNeg = M at *
  have hno : ([k].find? (· < 0)) = none := by simp [hk]
  rw [multianewarray.make]
  simp only [wp_bind', W.ite, hn, if_false, wp_pure', W.theClass, hkA, hkindA, Option.some.injEq, exists_eq_left', hN]
  refine W.newArray_of hkA hkindA hl1 hh1 (by omega) (by have := Nat.zero_le (N * M); omega) rfl (fun acts1 => ?_)
  rw [show ({ cls := cA, slots := Array.replicate N .null } : Cell) = c_mo cA N s.heap.size 0 by
    unfold c_mo
    refine (arrV_new cA N .null).trans ?_
    congr 1]
  simp only [hno]
  rw [ite_self, wp_bind', Std.Legacy.Range.forIn_eq_forIn_range']
  rw [show ([:N] : Std.Legacy.Range).size = N by simp [Std.Legacy.Range.size]]
  show wp (forIn (List.range' 0 N 1) PUnit.unit _) _ E e d _ _
  refine wp_forIn_inv (fun rest U => ∃ i, i + rest.length = N ∧ rest = List.range' i rest.length ∧ U = c_mst s cA cB N M i) _ _ ⟨0, by simp, by simp, rfl⟩ ?_ ?_
  · rintro x rest U d' acts' Q' ⟨i, hi, hr, rfl⟩ hnext
    rw [List.length_cons] at hi hr
    rw [List.range'_succ] at hr
    obtain ⟨rfl, hr2⟩ := List.cons.inj hr
    obtain ⟨f1, f2, f3, f4, f5, f6⟩ := c_mst_ok s cA cB N M x
    have hmul : x * M + M ≤ N * M := by
      have := Nat.mul_le_mul_right M (show x + 1 ≤ N by omega)
      rw [Nat.succ_mul] at this
      exact this
    simp only [wp_bind']
    refine c_wp_in (by rw [f5]; exact hkB) hkindB hk (by rw [hM]; exact hl2) (by rw [hM]; exact hh2) (by rw [f1]; omega) (by rw [f6, hM]; omega) (fun acts2 => ?_)
    rw [hM]
    simp only [wp_bind', W.writeLoc, wp_pure']
    refine ⟨c_mo cA N s.heap.size x, ?_, ?_, ?_, ?_, hnext _ _ _ ⟨x + 1, by omega, hr2, ?_⟩⟩
    · have hlt : s.heap.size < (c_mst s cA cB N M x).heap.size := by rw [f1]; omega
      rw [State.heap_pushCell_of_lt _ _ hlt]
      exact f2
    · exact fun q => by cases q
    · rw [c_mo_size]; omega
    · simp [State.fitsSlot, State.slotType?, c_mo, arrV, f5, hkA, hkindA, fits]
    · rw [f1]; rfl
  · rintro U d' acts' ⟨i, hi, -, rfl⟩
    have hi : i + 0 = N := hi
    rw [show i = N by omega]
    simp only [wp_pure']
    exact hq _ _
end CMW
section CMJ
variable {p : Program} {l : Launch} {e : Env} {R : Room} {s : State} {m : MethodId} {args : Array Value} {below : List Frame} {meth : Method} {c : Code} {H : Heap} {locs : List Loc} {cells slots : Nat} {Q : State → Prop}
theorem c_multi {cc : ByteArray} (hexec : p.tables.exec = Jvm.exec) (hb : c.code = cc) {own : String} {index : Nat} (hown : s.vm.findClass own = some m.cls) (hclink : (Cond.classLink own index "[[I").before args s = true) {cA cB cC : ClassId} {kA kB : Class} (hfA : s.vm.findClass "[[I" = some cA) (hkA : s.vm.classes[cA]? = some kA) (hkindA : kA.kind = .array cB (.array .int)) (hkB : s.vm.classes[cB]? = some kB) (hkindB : kB.kind = .array cC .int)
    {g : JFrame} (hg : g.method = m) (hdg : decode cc g.pc = .ok (.multianewarray index 2, 4)) {n k : Int32} {rest : List Value} (hstack : g.stack = .int k :: .int n :: rest) (hn : ¬ n < 0) (hk : ¬ k < 0) {N M : Nat} (hN : n.toNatClampNeg = N) (hM : k.toNatClampNeg = M) (hb1 : N ≤ 100000) (hb2 : M ≤ 100000) (hcells : cells + (1 + N) ≤ R.cells) (hslots : slots + (N + N * M) ≤ R.slots)
    (kk : ∀ H' : Heap, H'.size = H.size + 1 + N → (∀ q, q < H.size → H'[q]? = H[q]?) → H'[H.size]? = some (arrV cA N (fun j => .ref (H.size + 1 + j))) → (∀ j, j < N → H'[H.size + 1 + j]? = some (arrV cB M (fun _ => .int 0))) → W p l e R s m args below meth c H' locs (cells + (1 + N)) (slots + (N + N * M)) Q { g with pc := g.pc + 4, stack := .ref H.size :: rest }) : W p l e R s m args below meth c H locs cells slots Q g := by
  intro T hT X
  subst hT; subst hb; subst hg
  subst hN; subst hM
  have hpl : e.platform.magicAccessors = ({} : Platform).magicAccessors := by rw [X.admits.platform]
  obtain ⟨c0, hfc0, hcl⟩ := Cond.classLink_spec hown hclink e.platform hpl
  cases hfA.symm.trans hfc0
  obtain ⟨hg₁, hwarm₁, hready₁⟩ := State.classEntry (e := e) X.warmed hcl
  generalize T.vm.noted g.method.cls index (.cls cA) = vm₁ at hg₁ hwarm₁ hready₁
  have hal : s.vm.Alike vm₁ := hwarm₁.alike
  obtain ⟨kA₁, hkA₁, heA⟩ := hal.2.2 _ _ hkA
  obtain ⟨kB₁, hkB₁, heB⟩ := hal.2.2 _ _ hkB
  have hkindA₁ : kA₁.kind = .array cB (.array .int) := by rw [heA]; exact hkindA
  have hkindB₁ : kB₁.kind = .array cC .int := by rw [heB]; exact hkindB
  have X₁ := X.noted hwarm₁
  obtain ⟨hr1, hr2⟩ := X.roomAbove hcells hslots
  have XF := c_mst_stand X₁ cA cB n.toNatClampNeg k.toNatClampNeg n.toNatClampNeg
  obtain ⟨f1, f2, f3, f4, f5, f6⟩ := c_mst_ok (T.setVm vm₁) cA cB n.toNatClampNeg k.toNatClampNeg n.toNatClampNeg
  have hl1 : ¬ n.toNatClampNeg > e.platform.arrayLengthLimit := by rw [Launch.admits_arrayLengthLimit X.admits]; omega
  have hh1 : ¬ n.toNatClampNeg * componentBytes (.array .int) > e.platform.maxHeapBytes := by
    rw [Launch.admits_maxHeapBytes X.admits]; show ¬ n.toNatClampNeg * 4 > 536870912; omega
  have hl2 : ¬ k.toNatClampNeg > e.platform.arrayLengthLimit := by rw [Launch.admits_arrayLengthLimit X.admits]; omega
  have hh2 : ¬ k.toNatClampNeg * componentBytes .int > e.platform.maxHeapBytes := by
    rw [Launch.admits_maxHeapBytes X.admits]; show ¬ k.toNatClampNeg * 4 > 536870912; omega
  have e2 : c_mo cA n.toNatClampNeg T.heap.size n.toNatClampNeg = arrV cA n.toNatClampNeg (fun j => .ref (T.heap.size + 1 + j)) := c_arr (fun j hj => by rw [if_pos hj])
  obtain ⟨t, a1, b1⟩ := kk (c_mst (T.setVm vm₁) cA cB n.toNatClampNeg k.toNatClampNeg n.toNatClampNeg).heap f1 f3 (by rw [← e2]; exact f2) f4 _ rfl (by rw [show cells + (1 + n.toNatClampNeg) = cells + 1 + n.toNatClampNeg by omega, show slots + (n.toNatClampNeg + n.toNatClampNeg * k.toNatClampNeg) = slots + n.toNatClampNeg + n.toNatClampNeg * k.toNatClampNeg by omega]; exact XF)
  refine ⟨t, ?_, b1⟩
  jvm_step X.here [hexec, hdg]
  simp only [multianewarray.sem, wp_bind', W.resolveClassAt_links (State.method?_setTop g X.here.top) hg₁]
  rw [W.popN, if_neg (by decide)]
  refine ⟨g, State.topJava?_setTop' (s := T.setVm vm₁) g X.here.top, [.int n, .int k], rest, rfl, hstack, ?_⟩
  simp only [List.mapM_cons, List.mapM_nil, wp_bind', wp_pure']
  refine c_wp_make (s := ((T.setTop g).setVm vm₁).setTop { g with stack := rest }) (kA := kA₁) (kB := kB₁) (cB := cB) (cC := cC) hkA₁ hkindA₁ hkB₁ hkindB₁ hn hk hl1 hh1 hl2 hh2 hr1 hr2 (fun d' acts' => ?_)
  have eS : ((T.setTop g).setVm vm₁).setTop { g with stack := rest } = (T.setVm vm₁).setTop { g with stack := rest } := by
    show ((T.setVm vm₁).setTop g).setTop _ = _
    rw [State.setTop_setTop]
  rw [eS, c_mst_top]
  simp only [wp_bind', W.mark, W.pushRef, State.topJava?_setTop' _ XF.here.top, Option.some.injEq, exists_eq_left', State.setTop_setTop, State.heap_setTop]
  intro acts
  simp [jvm, XF.here.top]
  exact a1
end CMJ
