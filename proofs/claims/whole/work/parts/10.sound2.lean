/-! one step of the machine of numbers is a walk of the machine: objects and rows -/
section QSound2
variable {p : Program} {l : Launch} {e : Env} {R : Room} {s : State} {m : MethodId} {args : Array Value} {below : List Frame} {meth : Method} {c : Code} {cells slots : Nat} {Qf : State → Prop} {g : QG} {nL cl : Nat} {cc : ByteArray} {pc : Nat} {ls : QL} {r : List QV} {h : QM}
theorem q_ar_hi0 {r0 : Nat} (h : 100 ≤ r0) : q_ar r0 = none := by
  unfold q_ar
  have : Nat.ble 13 r0 = true := Nat.ble_eq_true_of_le (by omega)
  rw [this]
  show q_get q_ars (r0 - 13) = none
  rw [q_get_eq]
  exact List.getElem?_eq_none (by have : q_ars.length ≤ 87 := by decide +kernel
                                  omega)
theorem q_sl_eq (g : QG) (r0 : Nat) : q_sl (q_S g) r0 = (q_sln g r0 : Int) := by
  by_cases e : r0 = 104
  · subst e; rfl
  · have h1 : q_sl (q_S g) r0 = 8 := by
      unfold q_sl
      split
      · exact absurd rfl e
      · rfl
    have h2 : q_sln g r0 = 8 := by
      unfold q_sln
      split
      · exact absurd rfl e
      · rfl
    rw [h1, h2]; rfl
theorem q_ok_of {r0 : Nat} {i : Int} (hv : q_wv (.inr (.inr (some (r0, i))))) (h : r0 < 13 ∨ ∃ x, q_ar r0 = some x) : q_ok r0 i := by
  rcases hv with hv | ⟨hv, -⟩
  · exact hv
  · exfalso
    rcases h with h | ⟨x, h⟩
    · apply hv
      have : r0 = 0 ∨ r0 = 1 ∨ r0 = 2 ∨ r0 = 3 ∨ r0 = 4 ∨ r0 = 5 ∨ r0 = 6 ∨ r0 = 7 ∨ r0 = 8 ∨ r0 = 9 ∨ r0 = 10 ∨ r0 = 11 ∨ r0 = 12 := by omega
      rcases this with rfl | rfl | rfl | rfl | rfl | rfl | rfl | rfl | rfl | rfl | rfl | rfl | rfl <;> rfl
    · unfold q_sk at hv
      split at hv
      all_goals first | exact hv rfl | exact absurd (h.symm.trans (q_ar_hi0 (by omega))) (fun q => by cases q)
theorem q_ce_obj {ci : Nat} {i : Int} (hc : ci < 13) : q_ce g h ci i = .inr (ci, q_fs g h ci i) := by
  unfold q_ce
  rw [q_ar_lo hc]
theorem q_ce_arr {r0 : Nat} {i : Int} {k to : Nat} {n a : Int} (hc : q_ar r0 = some (k, n, to, a)) : q_ce g h r0 i = .inl (g.2.2.2.1 k, n.toNat, q_ct g h r0 i k to a) := by
  unfold q_ce
  rw [hc]
theorem q_fs_at {ci fk : Nat} {i : Int} {x : Nat × Nat × Int} (hx : q_fk ci fk = some x) : (q_fs g h ci i)[fk]? = some (q_fv g h ci i x) := by
  obtain ⟨-, l2, h2, h3⟩ := q_fk_lt hx
  unfold q_fs
  rw [h2, List.getElem?_map, h3]
  rfl
theorem q_fs_len {ci fk : Nat} {i : Int} {x : Nat × Nat × Int} (hx : q_fk ci fk = some x) : fk < (q_fs g h ci i).length := (List.getElem?_eq_some_iff.mp (q_fs_at (g := g) (h := h) (i := i) hx)).1
/-- the fields behind a store -/
theorem q_fs_set {ci fk : Nat} {i : Int} {x : Nat × Nat × Int} (hx : q_fk ci fk = some x) (z : Int) : (q_fs g h ci i).set fk (q_fv g (qu h ci i x.2.2 z) ci i x) = q_fs g (qu h ci i x.2.2 z) ci i := by
  obtain ⟨hci, l2, h2, h3⟩ := q_fk_lt hx
  have hlen := q_fs_len (g := g) (h := h) (i := i) hx
  apply List.ext_getElem?
  intro n
  by_cases e : n = fk
  · subst e
    rw [List.getElem?_set_self hlen, q_fs_at hx]
  · rw [List.getElem?_set_ne (fun q => e q.symm)]
    unfold q_fs
    rw [h2, List.getElem?_map, List.getElem?_map]
    cases hn : l2[n]? with
    | none => rfl
    | some y =>
      have hy : q_fk ci n = some y := by
        unfold q_fk
        rw [h2]
        show q_get l2 n = _
        rw [q_get_eq, hn]
      have h4 := q_kd hx
      have h5 := q_kd hy
      unfold q_kdok at h4 h5
      simp only [Bool.and_eq_true, decide_eq_true_eq] at h4 h5
      have e1 := h4.1.1.2
      have e2 := h5.1.1.2
      have hne : ¬ y.2.2 = x.2.2 := by rw [e1, e2]; omega
      have hq : qu h ci i x.2.2 z ci i y.2.2 = h ci i y.2.2 := by
        unfold qu
        rw [if_neg (fun q => hne q.2.2)]
      show some (q_fv g h ci i y) = some (q_fv g (qu h ci i x.2.2 z) ci i y)
      unfold q_fv
      rw [hq]
theorem q_in_hts (C : q_cx p R s m args c cells slots g nL cl cc) {w : Jvm.Cond} (hw : q_in w) : w.before args s = true := C.2.2.2.2.1 w hw
theorem q_s_getfield {i fk ci : Nat} {o : Int} {x : Nat × Nat × Int} {st : List Value} {H : Heap} {locs : List Loc} {L : Array Slot} (C : q_cx p R s m args c cells slots g nL cl cc) (hf : q_look q_fts cl i = some (ci, fk)) (hx : q_fk ci fk = some x) (ho : q_ok ci o) (hd : decode cc pc = .ok (.getfield i, 3)) (hP : va_P g.1 vwCl (q_ws g h) H)
    (a : W p l e R s m args below meth c H locs cells slots Qf (F0 m (pc + 3) L (q_fv g h ci o x :: st))) : W p l e R s m args below meth c H locs cells slots Qf (F0 m pc L (.ref (g.2.1 ci o) :: st)) := by
  obtain ⟨hci, -⟩ := q_fk_lt hx
  have hkd := q_kd hx
  unfold q_kdok at hkd
  simp only [Bool.and_eq_true, decide_eq_true_eq] at hkd
  have hN : fk < q_N ci := Nat.le_of_ble_eq_true hkd.1.1.1
  obtain ⟨n, -, hn⟩ := q_ws_mem (g := g) (h := h) ho
  rw [q_ce_obj hci] at hn
  have hlk := q_ff cl _ (q_look_mem hf)
  exact va_get (Ts := q_W) (D := g.1) (tys := q_tys g) C.1 C.2.1 C.2.2.2.2.1 (q_fu ci hci) C.2.2.2.1 C.2.2.2.2.2.1 hP n hn (q_cl ci hci) fk hN (q_in_hts C hlk) (fun y hy => by rw [hkd.1.2] at hy; exact hy) (q_fs_at hx) hd a
theorem q_nar {ty : FieldType} {v : Value} (h : (ty = .int ∧ ∃ z, v = .int z) ∨ (ty = .long ∧ ∃ z, v = .long z) ∨ (ty.isReference = true ∧ ∃ z, v = .ref z)) : narrow ty v = v ∧ fits ty v = true := by
  rcases h with ⟨rfl, z, rfl⟩ | ⟨rfl, z, rfl⟩ | ⟨h, z, rfl⟩
  · exact ⟨rfl, rfl⟩
  · exact ⟨rfl, rfl⟩
  · cases ty <;> first | exact ⟨rfl, rfl⟩ | (exfalso; revert h; decide)
theorem q_s_putfield {i fk ci : Nat} {o z : Int} {x : Nat × Nat × Int} {v : Value} {st : List Value} {H : Heap} {locs : List Loc} {L : Array Slot} (C : q_cx p R s m args c cells slots g nL cl cc) (hf : q_look q_fts cl i = some (ci, fk)) (hx : q_fk ci fk = some x) (hx2 : x.1 ≠ 2) (ho : q_ok ci o) (hd : decode cc pc = .ok (.putfield i, 3)) (hP : va_P g.1 vwCl (q_ws g h) H) (hD : va_D g.2.2.1 (q_ws g h)) (hS : va_S g.2.2.1 s.heap H locs)
    (hv : v = q_fv g (qu h ci o x.2.2 z) ci o x) (hk : (x.1 = 0 ∧ ∃ y, v = .int y) ∨ (x.1 = 1 ∧ ∃ y, v = .long y) ∨ (x.1 = 3 ∧ ∃ y, v = .ref y))
    (a : ∀ (H1 : Heap) (locs1 : List Loc), va_P g.1 vwCl (q_ws g (qu h ci o x.2.2 z)) H1 → va_D g.2.2.1 (q_ws g (qu h ci o x.2.2 z)) → va_S g.2.2.1 s.heap H1 locs1 → W p l e R s m args below meth c H1 locs1 cells slots Qf (F0 m (pc + 3) L st)) : W p l e R s m args below meth c H locs cells slots Qf (F0 m pc L (v :: .ref (g.2.1 ci o) :: st)) := by
  obtain ⟨hci, -⟩ := q_fk_lt hx
  have hkd := q_kd hx
  unfold q_kdok at hkd
  simp only [Bool.and_eq_true, decide_eq_true_eq] at hkd
  have hN : fk < q_N ci := Nat.le_of_ble_eq_true hkd.1.1.1
  obtain ⟨n, hpl, hn⟩ := q_ws_mem (g := g) (h := h) ho
  have hlk := q_ff cl _ (q_look_mem hf)
  have hset : (q_ws g h).set n (g.2.1 ci o, .inr (ci, (q_fs g h ci o).set fk v)) = q_ws g (qu h ci o x.2.2 z) := by
    rw [hv, q_fs_set hx z]
    refine q_ws_set hD hpl (q_ce_obj hci) (fun r' i' hne j => ?_)
    unfold qu
    rw [if_neg (fun q => hne ⟨q.1, q.2.1⟩)]
  rw [q_ce_obj hci] at hn
  have hty : parseFieldDescriptor (q_T ci fk).2.2.1 = some (q_tyF ci fk) := q_tyok ci hci fk hN
  have hfin : (q_T ci fk).2.2.2 = false ∧ (narrow (q_tyF ci fk) v = v ∧ fits (q_tyF ci fk) v = true) := by
    have h2 := hkd.2
    rcases hk with ⟨e, y, rfl⟩ | ⟨e, y, rfl⟩ | ⟨e, y, rfl⟩ <;> rw [e] at h2 <;> simp only [Bool.and_eq_true, decide_eq_true_eq, Bool.not_eq_true'] at h2
    · exact ⟨h2.1.2, q_nar (Or.inl ⟨h2.1.1, y, rfl⟩)⟩
    · exact ⟨h2.1.2, q_nar (Or.inr (Or.inl ⟨h2.1.1, y, rfl⟩))⟩
    · exact ⟨h2.1.2, q_nar (Or.inr (Or.inr ⟨h2.1.1, y, rfl⟩))⟩
  refine va_put (Ts := q_W) (D := g.1) (tys := q_tys g) C.1 C.2.1 C.2.2.2.2.1 (q_fu ci hci) (q_tyF ci) (q_tyok ci hci) (q_nmok ci hci) C.2.2.2.1 C.2.2.2.2.2.1 hP hD hS n hn (q_cl ci hci) fk hN (q_in_hts C hlk) (fun y hy => by rw [hkd.1.2] at hy; exact hy) hfin.1 hty hfin.2.1 hfin.2.2 (q_fs_len hx) hd (fun H1 locs1 a1 a2 a3 => ?_)
  rw [hset] at a1 a2
  exact a H1 locs1 a1 a2 a3
theorem q_qu_self (h : QM) (r0 : Nat) (i j v : Int) : qu h r0 i j v r0 i j = v := by unfold qu; rw [if_pos ⟨rfl, rfl, rfl⟩]
theorem q_wm_qu {r0 : Nat} {i j v : Int} (hm : q_wm h) (h64 : q_i64 v) (h32 : q_il r0 j = false → q_i32 v) (hr : ∀ fk r2, q_fk r0 fk = some (3, r2, j) → v < q_cnt r2) : q_wm (qu h r0 i j v) := by
  refine ⟨fun r' i' j' => ?_, fun ci fk r2 j' hk i' => ?_⟩
  · unfold qu
    split
    · rename_i q
      obtain ⟨rfl, rfl, rfl⟩ := q
      exact ⟨h64, h32⟩
    · exact hm.1 r' i' j'
  · unfold qu
    split
    · rename_i q
      obtain ⟨rfl, rfl, rfl⟩ := q
      exact hr fk r2 hk
    · exact hm.2 ci fk r2 j' hk i'
theorem q_nofk {r0 : Nat} {x : Nat × Int × Nat × Int} (h1 : q_ar r0 = some x) {fk : Nat} {y : Nat × Nat × Int} (h2 : q_fk r0 fk = some y) : False := by
  have := (q_ar_hi h1).1
  have := (q_fk_lt h2).1
  omega
theorem q_il_arr {r0 k to : Nat} {n a j : Int} (h1 : q_ar r0 = some (k, n, to, a)) : q_il r0 j = Nat.beq k 2 := by
  unfold q_il
  rw [h1]
theorem q_i64_of {z : Int} (h : q_i32 z) : q_i64 z := by unfold q_i32 at h; unfold q_i64; omega
theorem q_fk_uniq {ci fk fk2 : Nat} {t t2 r2 r3 : Nat} {j : Int} (h1 : q_fk ci fk = some (t, r2, j)) (h2 : q_fk ci fk2 = some (t2, r3, j)) : t = t2 ∧ r2 = r3 := by
  have a := q_kd h1
  have b := q_kd h2
  unfold q_kdok at a b
  simp only [Bool.and_eq_true, decide_eq_true_eq] at a b
  have e : fk = fk2 := by
    have := a.1.1.2
    have := b.1.1.2
    omega
  subst e
  rw [h1] at h2
  cases h2
  exact ⟨rfl, rfl⟩
theorem q_nn {n : Int} {x : Nat × Int × Nat × Int} {r0 : Nat} (h1 : q_ar r0 = some x) (e : x.2.1 = n) : 0 ≤ n ∧ n ≤ 100000 := by
  have := q_ars_ok x (q_ar_hi h1).2
  omega
theorem q_k8 {x : Nat × Int × Nat × Int} {r0 : Nat} (h1 : q_ar r0 = some x) : x.1 < 8 := (q_ars_ok x (q_ar_hi h1).2).1
theorem q_toN {n j : Int} (h0 : 0 ≤ n) (hj : 0 ≤ j ∧ j < n) (hi : q_i32 j) : vp_in (Int32.ofInt j) n.toNat := q_nin hi hj.1 (by omega)
theorem q_s_rowI {k : Nat} (hk : k = 0 ∨ k = 1 ∨ k = 3) {r0 to : Nat} {i n a j : Int} (hm : q_wm h) (hr : q_ar r0 = some (k, n, to, a)) (ho : q_ok r0 i) (hj : 0 ≤ j ∧ j < n) (hi : q_i32 j) :
    (∃ q0 : Nat, (q_ws g h)[q0]? = some (g.2.1 r0 i, .inl (g.2.2.2.1 k, n.toNat, .inl (fun (j : Nat) => Int32.ofInt (h r0 i j)))) ∧ q_pl[q0]? = some (r0, i)) ∧ vp_in (Int32.ofInt j) n.toNat ∧ Int32.ofInt (h r0 i ((Int32.ofInt j).toNatClampNeg : Nat)) = Int32.ofInt (h r0 i j) ∧ q_i32 (h r0 i j) := by
  obtain ⟨q0, hp, hq⟩ := q_ws_mem (g := g) (h := h) ho
  rw [q_ce_arr hr] at hq
  have hn := q_nn hr rfl
  refine ⟨⟨q0, ?_, hp⟩, q_toN hn.1 hj hi, ?_, ?_⟩
  · rw [hq]
    rcases hk with rfl | rfl | rfl <;> rfl
  · rw [q_ncl hi, Int.toNat_of_nonneg hj.1]
  · refine (hm.1 r0 i j).2 ?_
    rw [q_il_arr hr]
    rcases hk with rfl | rfl | rfl <;> rfl
theorem q_s_iaload {j : Int} {r0 : Nat} {i : Int} (C : q_cx p R s m args c cells slots g nL cl cc) (hd : decode cc pc = .ok (.iaload, 1)) (a : q_row (q_S g) 1 r0 i h (fun n f => (0 ≤ j ∧ j < n) ∧ q_G p l e R s m args below meth c cells slots Qf g nL (pc + 1) ls (.inl (f j) :: r) h)) : q_G p l e R s m args below meth c cells slots Qf g nL pc ls (.inl j :: .inr (.inr (some (r0, i))) :: r) h := by
  intro hn hw hs hm H locs L hP hD hS hl
  obtain ⟨hj, hs1⟩ := List.forall_mem_cons.mp hs
  obtain ⟨hv, hs2⟩ := List.forall_mem_cons.mp hs1
  have hj : q_i32 j := hj
  unfold q_row at a
  split at a
  · rename_i k' n to b hr
    cases hb : Nat.beq k' 1 with
    | false => rw [hb] at a; exact a.elim
    | true =>
      rw [hb] at a
      have hk : k' = 1 := Nat.eq_of_beq_eq_true hb
      subst hk
      obtain ⟨⟨q0, hq, -⟩, hin, he, hi⟩ := q_s_rowI (g := g) (Or.inr (Or.inl rfl)) hm hr (q_ok_of hv (Or.inr ⟨_, hr⟩)) a.1 hj
      refine va_iald C.1 C.2.1 C.2.2.2.2.2.1 hP q0 1 hq (q_tys_at g (by omega)) hin hd ?_
      rw [he]
      exact a.2 hn hw (List.forall_mem_cons.mpr ⟨hi, hs2⟩) hm H locs L hP hD hS hl
  · cases hb : Nat.beq (q_sk r0) 1 with
    | false => rw [hb] at a; exact a.elim
    | true =>
      rw [hb] at a
      have hk : q_sk r0 = 1 := Nat.eq_of_beq_eq_true hb
      have hi0 : i = 0 := by
        rcases hv with hv | hv
        · exfalso
          have h1 : r0 = 101 ∨ r0 = 102 ∨ r0 = 103 ∨ r0 = 104 := by
            unfold q_sk at hk
            split at hk <;> first | omega | (exfalso; omega)
          unfold q_ok at hv
          have : q_cnt r0 = 0 := by rcases h1 with rfl | rfl | rfl | rfl <;> decide +kernel
          omega
        · exact hv.2
      subst hi0
      have hT := C.2.2.2.2.2.2.1.1 r0 (by omega)
      have hty : q_sty r0 = .int := by unfold q_sty; rw [hk]; rfl
      rw [hty] at hT
      have hlen : q_sl (q_S g) r0 = (q_sln g r0 : Int) := q_sl_eq g r0
      rw [hlen] at a
      have hv2 : q_sval g r0 (Int32.ofInt j).toNatClampNeg = .int (Int32.ofInt (q_sc (q_S g) r0 j)) := by
        unfold q_sval
        rw [hk, q_ncl hj, Int.toNat_of_nonneg a.1.1]; rfl
      have hz : q_i32 (q_sc (q_S g) r0 j) := by
        have h1 : r0 = 101 ∨ r0 = 102 ∨ r0 = 103 ∨ r0 = 104 := by
          unfold q_sk at hk
          split at hk <;> first | omega | (exfalso; omega)
        have key : ∀ (t : List Int), (∀ z ∈ t, q_i32 z) → q_i32 (t.getD j.toNat 0) := by
          intro t ht
          rw [List.getD_eq_getElem?_getD]
          cases hx : t[j.toNat]? with
          | none => exact q_i0
          | some y => exact ht y (List.mem_of_getElem? hx)
        rcases h1 with rfl | rfl | rfl | rfl
        · exact key q_DUE (by unfold q_i32; decide +kernel)
        · exact key q_LEAST (by unfold q_i32; decide +kernel)
        · exact key q_MOST (by unfold q_i32; decide +kernel)
        · show q_i32 (g.2.2.2.2.2 j.toNat).toInt
          have h1 := Int32.le_toInt (g.2.2.2.2.2 j.toNat)
          have h2 := Int32.toInt_lt (g.2.2.2.2.2 j.toNat)
          unfold q_i32
          omega
      exact va_ti C.1 C.2.1 hT hS (q_nin hj a.1.1 a.1.2) hv2 hd (a.2 hn hw (List.forall_mem_cons.mpr ⟨hz, hs2⟩) hm H locs L hP hD hS hl)
theorem q_s_laload {j : Int} {r0 : Nat} {i : Int} (C : q_cx p R s m args c cells slots g nL cl cc) (hd : decode cc pc = .ok (.laload, 1)) (a : q_row (q_S g) 2 r0 i h (fun n f => (0 ≤ j ∧ j < n) ∧ q_G p l e R s m args below meth c cells slots Qf g nL (pc + 1) ls (.inr (.inl (f j)) :: r) h)) : q_G p l e R s m args below meth c cells slots Qf g nL pc ls (.inl j :: .inr (.inr (some (r0, i))) :: r) h := by
  intro hn hw hs hm H locs L hP hD hS hl
  obtain ⟨hj, hs1⟩ := List.forall_mem_cons.mp hs
  obtain ⟨hv, hs2⟩ := List.forall_mem_cons.mp hs1
  have hj : q_i32 j := hj
  unfold q_row at a
  split at a
  · rename_i k' n to b hr
    cases hb : Nat.beq k' 2 with
    | false => rw [hb] at a; exact a.elim
    | true =>
      rw [hb] at a
      have hk : k' = 2 := Nat.eq_of_beq_eq_true hb
      subst hk
      obtain ⟨q0, hp, hq⟩ := q_ws_mem (g := g) (h := h) (q_ok_of hv (Or.inr ⟨_, hr⟩))
      rw [q_ce_arr hr] at hq
      refine va_lald (f := fun (j : Nat) => Int64.ofInt (h r0 i j)) C.1 C.2.1 C.2.2.2.2.2.1 hP q0 2 hq (q_tys_at g (by omega)) (q_toN (q_nn hr rfl).1 a.1 hj) hd ?_
      rw [q_ncl hj, Int.toNat_of_nonneg a.1.1]
      exact a.2 hn hw (List.forall_mem_cons.mpr ⟨(hm.1 r0 i j).1, hs2⟩) hm H locs L hP hD hS hl
  · cases hb : Nat.beq (q_sk r0) 2 with
    | false => rw [hb] at a; exact a.elim
    | true =>
      rw [hb] at a
      have hk : q_sk r0 = 2 := Nat.eq_of_beq_eq_true hb
      have hr : r0 = 100 := by
        unfold q_sk at hk
        split at hk <;> first | rfl | (exfalso; omega)
      subst hr
      have hi0 : i = 0 := by
        rcases hv with hv | hv
        · exfalso
          unfold q_ok at hv
          have : q_cnt 100 = 0 := by decide +kernel
          omega
        · exact hv.2
      subst hi0
      have hT := C.2.2.2.2.2.2.1.1 100 (by decide)
      have hv2 : q_sval g 100 (Int32.ofInt j).toNatClampNeg = .long (Int64.ofInt (q_sc (q_S g) 100 j)) := by
        unfold q_sval
        rw [hk, q_ncl hj, Int.toNat_of_nonneg a.1.1]; rfl
      have hz : q_i64 (q_sc (q_S g) 100 j) := by
        show q_i64 (q_WORDS.getD j.toNat 0)
        rw [List.getD_eq_getElem?_getD]
        cases hx : q_WORDS[j.toNat]? with
        | none => exact q_i64_of q_i0
        | some y => exact (by unfold q_i64; decide +kernel : ∀ z ∈ q_WORDS, q_i64 z) y (List.mem_of_getElem? hx)
      exact va_tl C.1 C.2.1 hT hS (q_nin hj a.1.1 a.1.2) hv2 hd (a.2 hn hw (List.forall_mem_cons.mpr ⟨hz, hs2⟩) hm H locs L hP hD hS hl)
theorem q_s_baload {j : Int} {r0 : Nat} {i : Int} (C : q_cx p R s m args c cells slots g nL cl cc) (hd : decode cc pc = .ok (.baload, 1)) (a : q_bal r0 i j h (fun z => q_G p l e R s m args below meth c cells slots Qf g nL (pc + 1) ls (.inl z :: r) h)) : q_G p l e R s m args below meth c cells slots Qf g nL pc ls (.inl j :: .inr (.inr (some (r0, i))) :: r) h := by
  intro hn hw hs hm H locs L hP hD hS hl
  obtain ⟨hj, hs1⟩ := List.forall_mem_cons.mp hs
  obtain ⟨hv, hs2⟩ := List.forall_mem_cons.mp hs1
  have hj : q_i32 j := hj
  unfold q_bal at a
  split at a
  · rename_i n to b hr
    obtain ⟨⟨q0, hq, -⟩, hin, he, hi⟩ := q_s_rowI (g := g) (Or.inl rfl) hm hr (q_ok_of hv (Or.inr ⟨_, hr⟩)) a.1 hj
    refine va_bald C.1 C.2.1 C.2.2.2.2.2.1 hP q0 0 hq (q_tys_at g (by omega)) hin hd ?_
    rw [he]
    exact a.2 hn hw (List.forall_mem_cons.mpr ⟨hi, hs2⟩) hm H locs L hP hD hS hl
  · rename_i n to b hr
    obtain ⟨⟨q0, hq, -⟩, hin, he, hi⟩ := q_s_rowI (g := g) (Or.inr (Or.inr rfl)) hm hr (q_ok_of hv (Or.inr ⟨_, hr⟩)) a.1 hj
    refine va_zald C.1 C.2.1 C.2.2.2.2.2.1 hP q0 3 hq (q_tys_at g (by omega)) hin hd ?_
    rw [he]
    exact a.2 hn hw (List.forall_mem_cons.mpr ⟨hi, hs2⟩) hm H locs L hP hD hS hl
  · exact a.elim
theorem q_setI {k : Nat} (hk : k = 0 ∨ k = 1 ∨ k = 3) {r0 to : Nat} {i n a j v : Int} {q0 : Nat} (hD : va_D g.2.2.1 (q_ws g h)) (hr : q_ar r0 = some (k, n, to, a)) (hp : q_pl[q0]? = some (r0, i)) (hj : 0 ≤ j) :
    (q_ws g h).set q0 (g.2.1 r0 i, .inl (g.2.2.2.1 k, n.toNat, .inl (upd (fun (j : Nat) => Int32.ofInt (h r0 i j)) j.toNat (Int32.ofInt v)))) = q_ws g (qu h r0 i j v) := by
  refine q_ws_set hD hp ?_ (fun r' i' hne j => by unfold qu; rw [if_neg (fun q => hne ⟨q.1, q.2.1⟩)])
  rw [q_ce_arr hr]
  have e : (fun (j' : Nat) => Int32.ofInt (qu h r0 i j v r0 i j')) = upd (fun (j : Nat) => Int32.ofInt (h r0 i j)) j.toNat (Int32.ofInt v) := by
    funext j'
    unfold qu upd
    by_cases e : j' = j.toNat
    · subst e
      rw [if_pos rfl, if_pos ⟨rfl, rfl, Int.toNat_of_nonneg hj⟩]
    · rw [if_neg e, if_neg (fun q => e (by have := q.2.2; omega))]
  rcases hk with rfl | rfl | rfl <;> (unfold q_ct; rw [e]; rfl)
theorem q_s_iastore {j v : Int} {r0 : Nat} {i : Int} (C : q_cx p R s m args c cells slots g nL cl cc) (hd : decode cc pc = .ok (.iastore, 1)) (a : q_ias 1 r0 i j v h (fun h' => q_G p l e R s m args below meth c cells slots Qf g nL (pc + 1) ls r h')) : q_G p l e R s m args below meth c cells slots Qf g nL pc ls (.inl v :: .inl j :: .inr (.inr (some (r0, i))) :: r) h := by
  intro hn hw hs hm H locs L hP hD hS hl
  obtain ⟨hz, hs1⟩ := List.forall_mem_cons.mp hs
  obtain ⟨hj, hs2⟩ := List.forall_mem_cons.mp hs1
  obtain ⟨hv, hs3⟩ := List.forall_mem_cons.mp hs2
  have hj : q_i32 j := hj
  have hz : q_i32 v := hz
  unfold q_ias at a
  split at a
  · rename_i k' n to b hr
    cases hb : Nat.beq k' 1 with
    | false => rw [hb] at a; exact a.elim
    | true =>
      rw [hb] at a
      have hk : k' = 1 := Nat.eq_of_beq_eq_true hb
      subst hk
      obtain ⟨⟨q0, hq, hp⟩, hin, -, -⟩ := q_s_rowI (g := g) (Or.inr (Or.inl rfl)) hm hr (q_ok_of hv (Or.inr ⟨_, hr⟩)) a.1 hj
      refine va_iast C.1 C.2.1 C.2.2.2.2.2.1 hP hD hS q0 1 hq (q_tys_at g (by omega)) hin hd (fun H1 locs1 a1 a2 a3 => ?_)
      rw [q_ncl hj, q_setI (Or.inr (Or.inl rfl)) hD hr hp a.1.1] at a1 a2
      exact a.2 hn hw hs3 (q_wm_qu hm (q_i64_of hz) (fun _ => hz) (fun fk r2 q => (q_nofk hr q).elim)) H1 locs1 L a1 a2 a3 hl
  · exact a.elim
theorem q_s_lastore {j v : Int} {r0 : Nat} {i : Int} (C : q_cx p R s m args c cells slots g nL cl cc) (hd : decode cc pc = .ok (.lastore, 1)) (a : q_ias 2 r0 i j v h (fun h' => q_G p l e R s m args below meth c cells slots Qf g nL (pc + 1) ls r h')) : q_G p l e R s m args below meth c cells slots Qf g nL pc ls (.inr (.inl v) :: .inl j :: .inr (.inr (some (r0, i))) :: r) h := by
  intro hn hw hs hm H locs L hP hD hS hl
  obtain ⟨hz, hs1⟩ := List.forall_mem_cons.mp hs
  obtain ⟨hj, hs2⟩ := List.forall_mem_cons.mp hs1
  obtain ⟨hv, hs3⟩ := List.forall_mem_cons.mp hs2
  have hj : q_i32 j := hj
  have hz : q_i64 v := hz
  unfold q_ias at a
  split at a
  · rename_i k' n to b hr
    cases hb : Nat.beq k' 2 with
    | false => rw [hb] at a; exact a.elim
    | true =>
      rw [hb] at a
      have hk : k' = 2 := Nat.eq_of_beq_eq_true hb
      subst hk
      obtain ⟨q0, hp, hq⟩ := q_ws_mem (g := g) (h := h) (q_ok_of hv (Or.inr ⟨_, hr⟩))
      rw [q_ce_arr hr] at hq
      refine va_last (f := fun (j : Nat) => Int64.ofInt (h r0 i j)) C.1 C.2.1 C.2.2.2.2.2.1 hP hD hS q0 2 hq (q_tys_at g (by omega)) (q_toN (q_nn hr rfl).1 a.1 hj) hd (fun H1 locs1 a1 a2 a3 => ?_)
      have hset : (q_ws g h).set q0 (g.2.1 r0 i, .inl (g.2.2.2.1 2, n.toNat, .inr (.inl (vp_updL (fun (j : Nat) => Int64.ofInt (h r0 i j)) j.toNat (Int64.ofInt v))))) = q_ws g (qu h r0 i j v) := by
        refine q_ws_set hD hp ?_ (fun r' i' hne j => by unfold qu; rw [if_neg (fun q => hne ⟨q.1, q.2.1⟩)])
        rw [q_ce_arr hr]
        have e : (fun (j' : Nat) => Int64.ofInt (qu h r0 i j v r0 i j')) = vp_updL (fun (j : Nat) => Int64.ofInt (h r0 i j)) j.toNat (Int64.ofInt v) := by
          funext j'
          unfold qu vp_updL
          by_cases e : j' = j.toNat
          · subst e
            rw [if_pos rfl, if_pos ⟨rfl, rfl, Int.toNat_of_nonneg a.1.1⟩]
          · rw [if_neg e, if_neg (fun q => e (by have := q.2.2; omega))]
        unfold q_ct
        rw [e]
        rfl
      rw [q_ncl hj, hset] at a1 a2
      exact a.2 hn hw hs3 (q_wm_qu hm hz (fun q => by rw [q_il_arr hr] at q; cases q) (fun fk r2 q => (q_nofk hr q).elim)) H1 locs1 L a1 a2 a3 hl
  · exact a.elim
theorem q_nar8 {v : Int} (h : -128 ≤ v ∧ v ≤ 127) : vp_nar .byte (Int32.ofInt v) = Int32.ofInt v := by
  rw [vp_nar_byte, q_ni2b]
  congr 1
  unfold q_w8
  omega
theorem q_nar1 {v : Int} (h : v = 0 ∨ v = 1) : vp_nar .boolean (Int32.ofInt v) = Int32.ofInt v := by
  rcases h with rfl | rfl <;> decide +kernel
theorem q_s_bastore {j v : Int} {r0 : Nat} {i : Int} (C : q_cx p R s m args c cells slots g nL cl cc) (hd : decode cc pc = .ok (.bastore, 1)) (a : q_bas r0 i j v h (fun h' => q_G p l e R s m args below meth c cells slots Qf g nL (pc + 1) ls r h')) : q_G p l e R s m args below meth c cells slots Qf g nL pc ls (.inl v :: .inl j :: .inr (.inr (some (r0, i))) :: r) h := by
  intro hn hw hs hm H locs L hP hD hS hl
  obtain ⟨hz, hs1⟩ := List.forall_mem_cons.mp hs
  obtain ⟨hj, hs2⟩ := List.forall_mem_cons.mp hs1
  obtain ⟨hv, hs3⟩ := List.forall_mem_cons.mp hs2
  have hj : q_i32 j := hj
  have hz : q_i32 v := hz
  unfold q_bas at a
  split at a
  · rename_i n to b hr
    obtain ⟨⟨q0, hq, hp⟩, hin, -, -⟩ := q_s_rowI (g := g) (Or.inl rfl) hm hr (q_ok_of hv (Or.inr ⟨_, hr⟩)) a.1.1 hj
    refine va_bast C.1 C.2.1 C.2.2.2.2.2.1 hP hD hS q0 0 hq (q_tys_at g (by omega)) hin hd (fun H1 locs1 a1 a2 a3 => ?_)
    rw [q_ncl hj, q_nar8 a.1.2, q_setI (Or.inl rfl) hD hr hp a.1.1.1] at a1 a2
    exact a.2 hn hw hs3 (q_wm_qu hm (q_i64_of hz) (fun _ => hz) (fun fk r2 q => (q_nofk hr q).elim)) H1 locs1 L a1 a2 a3 hl
  · rename_i n to b hr
    obtain ⟨⟨q0, hq, hp⟩, hin, -, -⟩ := q_s_rowI (g := g) (Or.inr (Or.inr rfl)) hm hr (q_ok_of hv (Or.inr ⟨_, hr⟩)) a.1.1 hj
    refine va_zast C.1 C.2.1 C.2.2.2.2.2.1 hP hD hS q0 3 hq (q_tys_at g (by omega)) hin hd (fun H1 locs1 a1 a2 a3 => ?_)
    rw [q_ncl hj, q_nar1 a.1.2, q_setI (Or.inr (Or.inr rfl)) hD hr hp a.1.1.1] at a1 a2
    exact a.2 hn hw hs3 (q_wm_qu hm (q_i64_of hz) (fun _ => hz) (fun fk r2 q => (q_nofk hr q).elim)) H1 locs1 L a1 a2 a3 hl
  · exact a.elim
theorem q_s_aaload {j : Int} {r0 : Nat} {i : Int} (C : q_cx p R s m args c cells slots g nL cl cc) (hd : decode cc pc = .ok (.aaload, 1)) (a : q_aal r0 i j (fun v => q_G p l e R s m args below meth c cells slots Qf g nL (pc + 1) ls (v :: r) h)) : q_G p l e R s m args below meth c cells slots Qf g nL pc ls (.inl j :: .inr (.inr (some (r0, i))) :: r) h := by
  intro hn hw hs hm H locs L hP hD hS hl
  obtain ⟨hj, hs1⟩ := List.forall_mem_cons.mp hs
  obtain ⟨hv, hs2⟩ := List.forall_mem_cons.mp hs1
  have hj : q_i32 j := hj
  have hro := q_refok_at r0
  unfold q_aal at a
  unfold q_refok at hro
  have key : ∀ (k : Nat) (n : Int) (to : Nat) (b : Int) (x : Int), q_ar r0 = some (k, n, to, b) → (k = 4 ∨ k = 5 ∨ k = 6 ∨ k = 7) → (0 ≤ j ∧ j < n) → q_ok to x → q_ct g h r0 i k to b = .inr (.inr (.inr (.inr (fun (j' : Nat) => some (g.2.1 to (x - j + j')))))) → q_G p l e R s m args below meth c cells slots Qf g nL (pc + 1) ls (.inr (.inr (some (to, x))) :: r) h → W p l e R s m args below meth c H locs cells slots Qf (F0 m pc L (.int (Int32.ofInt j) :: .ref (g.2.1 r0 i) :: r.map (q_cv g))) := by
    intro k n to b x hr hk hjn hx hct ga
    obtain ⟨q0, hp, hq⟩ := q_ws_mem (g := g) (h := h) (q_ok_of hv (Or.inr ⟨_, hr⟩))
    rw [q_ce_arr hr, hct] at hq
    have hin := q_toN (q_nn hr rfl).1 hjn hj
    have hlt : (Int32.ofInt j).toNatClampNeg < n.toNat := by rw [q_ncl hj]; omega
    have hty : (q_ty k).isReference = true := by rcases hk with rfl | rfl | rfl | rfl <;> rfl
    have hk8 : k < 8 := by omega
    have h1 := hP q0 _ hq
    have h2 := (C.2.2.2.2.2.1.2 k _ (q_tys_at g hk8)).1 n.toNat (fun (j' : Nat) => va_rf (some (g.2.1 to (x - j + j'))))
    refine W.aald (v := .ref (g.2.1 to x)) (ty := q_ty k) C.1 C.2.1 h1 h2 hty (fun q => by cases q) (by show ¬ (_ < 0 ∨ (arrV _ _ _).slots.size ≤ _); rw [arrV_size]; exact hin) (by show (arrV _ _ _).slots[_]? = _; rw [arrV_read _ _ hlt, q_ncl hj]; show some (Value.ref (g.2.1 to (x - j + ((j.toNat : Nat) : Int)))) = _; rw [Int.toNat_of_nonneg hjn.1, show x - j + j = x by omega]) rfl rfl hd ?_
    exact ga hn hw (List.forall_mem_cons.mpr ⟨Or.inl hx, hs2⟩) hm H locs L hP hD hS hl
  split at a
  · rename_i n to b hr
    rw [hr] at hro
    have hro := of_decide_eq_true hro
    refine key 4 n to b j hr (by omega) a.1 ⟨a.1.1, by omega⟩ ?_ a.2
    rw [show (fun (j' : Nat) => some (g.2.1 to (j - j + (j' : Int)))) = (fun (j' : Nat) => some (g.2.1 to (j' : Int))) from funext fun j' => by rw [show j - j + (j' : Int) = j' by omega]]
    rfl
  · rename_i n to b hr
    rw [hr] at hro
    have hro := of_decide_eq_true hro
    refine key 5 n to b j hr (by omega) a.1 ⟨a.1.1, by omega⟩ ?_ a.2
    rw [show (fun (j' : Nat) => some (g.2.1 to (j - j + (j' : Int)))) = (fun (j' : Nat) => some (g.2.1 to (j' : Int))) from funext fun j' => by rw [show j - j + (j' : Int) = j' by omega]]
    rfl
  · rename_i n to b hr
    rw [hr] at hro
    have hro := of_decide_eq_true hro
    have hoi := q_ok_of hv (Or.inr ⟨_, hr⟩)
    have h0 : 0 ≤ b * i := Int.mul_nonneg hro.1 hoi.1
    have h1 : b * i ≤ b * (q_cnt r0 - 1) := Int.mul_le_mul_of_nonneg_left (by have := hoi.2; omega) hro.1
    refine key 6 n to b (b * i + j) hr (by omega) a.1 ⟨by omega, by omega⟩ ?_ a.2
    rw [show b * i + j - j = b * i by omega]
    rfl
  · rename_i n to b hr
    rw [hr] at hro
    have hro := of_decide_eq_true hro
    refine key 7 n to b j hr (by omega) a.1 ⟨a.1.1, by omega⟩ ?_ a.2
    rw [show (fun (j' : Nat) => some (g.2.1 to (j - j + (j' : Int)))) = (fun (j' : Nat) => some (g.2.1 to (j' : Int))) from funext fun j' => by rw [show j - j + (j' : Int) = j' by omega]]
    rfl
  · exact a.elim
theorem q_s_alen {r0 : Nat} {i : Int} (C : q_cx p R s m args c cells slots g nL cl cc) (hL : (g.2.2.2.2.1 : Int) ≤ 100000) (hd : decode cc pc = .ok (.arraylength, 1)) (a : q_alen (q_S g) r0 (fun n => q_G p l e R s m args below meth c cells slots Qf g nL (pc + 1) ls (.inl n :: r) h)) : q_G p l e R s m args below meth c cells slots Qf g nL pc ls (.inr (.inr (some (r0, i))) :: r) h := by
  intro hn hw hs hm H locs L hP hD hS hl
  obtain ⟨hv, hs1⟩ := List.forall_mem_cons.mp hs
  unfold q_alen at a
  split at a
  · rename_i k n to b hr
    obtain ⟨q0, hp, hq⟩ := q_ws_mem (g := g) (h := h) (q_ok_of hv (Or.inr ⟨_, hr⟩))
    rw [q_ce_arr hr] at hq
    have hnn := q_nn hr rfl
    dsimp only at hnn
    refine va_alen (v := Int32.ofInt n) C.1 C.2.1 C.2.2.2.2.2.1 hP q0 k hq (q_tys_at g (q_k8 hr)) ?_ hd (a hn hw (List.forall_mem_cons.mpr ⟨by show q_i32 n; unfold q_i32; omega, hs1⟩) hm H locs L hP hD hS hl)
    show Int32.ofNat n.toNat = _
    rw [← Int32.ofInt_eq_ofNat, Int.toNat_of_nonneg hnn.1]
  · cases hb : Nat.beq (q_sk r0) 0 with
    | true => rw [hb] at a; exact a.elim
    | false =>
      rw [hb] at a
      have hk : q_sk r0 ≠ 0 := fun q => by rw [q] at hb; cases hb
      have hi0 : i = 0 := by
        rcases hv with hv | hv
        · exfalso
          have h1 : r0 = 100 ∨ r0 = 101 ∨ r0 = 102 ∨ r0 = 103 ∨ r0 = 104 := by
            unfold q_sk at hk
            split at hk <;> first | omega | exact absurd rfl hk
          unfold q_ok at hv
          have : q_cnt r0 = 0 := by rcases h1 with rfl | rfl | rfl | rfl | rfl <;> decide +kernel
          omega
        · exact hv.2
      subst hi0
      have hlen : q_sl (q_S g) r0 = (q_sln g r0 : Int) := q_sl_eq g r0
      rw [hlen] at a
      have hln : (q_sln g r0 : Int) ≤ 100000 := by
        unfold q_sln
        split <;> omega
      exact va_tlen (v := Int32.ofInt (q_sln g r0 : Int)) C.1 C.2.1 (C.2.2.2.2.2.2.1.1 r0 hk) hS Int32.ofInt_eq_ofNat.symm hd (a hn hw (List.forall_mem_cons.mpr ⟨by show q_i32 _; unfold q_i32; omega, hs1⟩) hm H locs L hP hD hS hl)
theorem q_sts_ok : ∀ c, c < 15 → ((q_get q_sts c).getD []).all (fun q => q_stn.any (fun x => Nat.beq x.1 q.2 && decide (q_sw1 c q = .fieldLink (q_cn c) q.1 "StepSums$Reader" x.2.1 x.2.2))) = true := by decide +kernel
theorem q_s_getstatic {i r0 : Nat} (C : q_cx p R s m args c cells slots g nL cl cc) (hf : q_look q_sts cl i = some r0) (hd : decode cc pc = .ok (.getstatic i, 3)) (a : q_G p l e R s m args below meth c cells slots Qf g nL (pc + 3) ls (.inr (.inr (some (r0, 0))) :: r) h) : q_G p l e R s m args below meth c cells slots Qf g nL pc ls r h := by
  intro hn hw hs hm H locs L hP hD hS hl
  have h1 := List.all_eq_true.mp (q_sts_ok cl (q_look_lt hf)) _ (q_look_mem hf)
  obtain ⟨x, hx, h2⟩ := List.any_eq_true.mp h1
  simp only [Bool.and_eq_true, decide_eq_true_eq] at h2
  have e : x.1 = r0 := Nat.eq_of_beq_eq_true h2.1
  have h3 := q_in_hts C (q_fsx cl _ (q_look_mem hf))
  rw [h2.2] at h3
  have hZ := C.2.2.2.2.2.2.1.2.1 x hx
  rw [e] at hZ
  have hk : q_sk r0 ≠ 0 := by
    rw [← e]
    have : ∀ y ∈ q_stn, q_sk y.1 ≠ 0 := by decide +kernel
    exact this x hx
  exact va_gets C.1 C.2.1 hZ hS C.2.2.2.1 h3 (fun _ q => q) hd (a hn hw (List.forall_mem_cons.mpr ⟨Or.inr ⟨hk, rfl⟩, hs⟩) hm H locs L hP hD hS hl)
end QSound2
