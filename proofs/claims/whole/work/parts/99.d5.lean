/-! the construction machine's rows: arrays, fields -/
section CSound2
variable {p : Program} {l : Launch} {e : Env} {R : Room} {s : State} {m : MethodId} {args : Array Value} {below : List Frame} {meth : Method} {c : Code} {Qf : State → Prop} {g : QG} {sz nL cl d : Nat} {cc : ByteArray} {rv : Bool} {E0 E E1 : List QCE} {pc : Nat} {ls : QL} {st r : List QV}
theorem c_s_newa {t : ClassFile.ArrayType} {n : Int} (C : c_cx p s m args meth c g sz nL cl cc rv E0) (hR : E1.length - E0.length ≤ R.cells ∧ c_sz E1 - c_sz E0 ≤ R.slots) (hn : (0 ≤ n ∧ n ≤ 100000) ∧ q_i32 n) (ht : c_kd t < 4) (hd : decode cc pc = .ok (.newarray t, 2)) (h1 : c_le (E ++ [.inl (c_kd t, n.toNat, [])]) E1) (k : c_G p l e R s m args below meth c Qf g sz nL E0 (pc + 2) ls (c_ix E :: r) (E ++ [.inl (c_kd t, n.toNat, [])])) : c_G p l e R s m args below meth c Qf g sz nL E0 pc ls (.inl n :: r) E := by
  intro hle hn' H locs L hP hS hl
  refine c_size C.2.2.2.2.2.2.2.2.2.1 hle hP hS (fun hsz => ?_)
  have hl1 := h1.1
  have hl2 := h1.2
  rw [List.length_append] at hl1
  rw [c_sz_app] at hl2
  have hl1 : E.length + 1 ≤ E1.length := hl1
  have hl2 : c_sz E + n.toNat ≤ c_sz E1 := hl2
  have hle1 := hle.1
  have hle2 := hle.2
  have hcb : componentBytes (newarray.typeOf t) ≤ 8 := by cases t <;> decide
  have hRA : ∀ k, k < 8 → va_RA s (g.2.2.2.1 k) (q_ty k) := fun k hk => (C.2.2.2.2.2.1.1.2 k _ (q_tys_at g hk)).2
  have hfa : (Cond.arrayClass (newarray.typeOf t)).before args s = true ∧ q_ty (c_kd t) = newarray.typeOf t ∧ (∀ cA : ClassId, va_RA s cA (newarray.typeOf t) = (s.vm.findClass ("[" ++ (newarray.typeOf t).toString) = some cA)) ∧ ∀ cA : ClassId, vp_cell cA (n.toNat, c_ct (fun x => sz + x) (c_kd t) []) = arrV cA n.toNat (fun _ => defaultValue (newarray.typeOf t)) := by
    cases t <;> first
      | (exfalso; revert ht; decide)
      | exact ⟨c_hts C (c_fa _ (by simp [newarray.typeOf])), rfl, fun _ => rfl, fun _ => rfl⟩
  have hcid := hRA (c_kd t) (by omega)
  rw [hfa.2.1, hfa.2.2.1] at hcid
  refine va_newaK C.1 C.2.1 hfa.1 rfl hd rfl (c_nneg hn.1.1 hn.2) (q_ncl hn.2) (Nat.le_trans (Nat.mul_le_mul (show n.toNat ≤ 100000 by omega) hcb) (by decide)) (by omega) (by omega) rfl (fun H1 cA e1 z1 o1 hAr hNm => ?_)
  have hcA : cA = g.2.2.2.1 (c_kd t) := Option.some.inj (hNm.symm.trans hcid)
  subst hcA
  refine c_grown (n := 2) k hle hn' (c_push hP o1 ?_) hS (by omega) o1 hl rfl rfl ?_
  · rw [hsz] at e1
    show H1[sz + E.length]? = some (vp_cell _ _)
    rw [hfa.2.2.2]
    exact e1
  · show F0 m (pc + 2) L (Value.ref H.size :: r.map (q_cv g)) = F0 m (pc + 2) L (q_cv g (c_ix E) :: r.map (q_cv g))
    rw [c_ix_cv C.2.2.2.2.2.2.2.1, hsz]
theorem c_an_mem : ∀ (t : List (Nat × Nat × Nat)) (cl i k : Nat), c_an t cl i = some k → (cl, i, k) ∈ t
  | [], cl, i, k, h => by cases h
  | (c0, i0, k0) :: t, cl, i, k, h => by
    have h : (match Nat.beq c0 cl && Nat.beq i0 i with | true => some k0 | false => c_an t cl i) = some k := h
    cases hb : Nat.beq c0 cl && Nat.beq i0 i with
    | true =>
      rw [hb] at h
      rw [Bool.and_eq_true] at hb
      cases h
      rw [Nat.eq_of_beq_eq_true hb.1, Nat.eq_of_beq_eq_true hb.2]
      exact List.mem_cons_self
    | false =>
      rw [hb] at h
      exact List.mem_cons_of_mem _ (c_an_mem t cl i k h)
theorem c_s_anew {i k0 : Nat} {n : Int} (C : c_cx p s m args meth c g sz nL cl cc rv E0) (hR : E1.length - E0.length ≤ R.cells ∧ c_sz E1 - c_sz E0 ≤ R.slots) (hn : (0 ≤ n ∧ n ≤ 100000) ∧ q_i32 n) (hk : c_an c_anl cl i = some k0) (hd : decode cc pc = .ok (.anewarray i, 3)) (h1 : c_le (E ++ [.inl (k0, n.toNat, [])]) E1) (k : c_G p l e R s m args below meth c Qf g sz nL E0 (pc + 3) ls (c_ix E :: r) (E ++ [.inl (k0, n.toNat, [])])) : c_G p l e R s m args below meth c Qf g sz nL E0 pc ls (.inl n :: r) E := by
  intro hle hn' H locs L hP hS hl
  refine c_size C.2.2.2.2.2.2.2.2.2.1 hle hP hS (fun hsz => ?_)
  have hl1 := h1.1
  have hl2 := h1.2
  rw [List.length_append] at hl1
  rw [c_sz_app] at hl2
  have hl1 : E.length + 1 ≤ E1.length := hl1
  have hl2 : c_sz E + n.toNat ≤ c_sz E1 := hl2
  have hle1 := hle.1
  have hle2 := hle.2
  have hmem := c_an_mem _ _ _ _ hk
  have hlink := c_hts C (c_fy _ (List.mem_map.mpr ⟨_, hmem, rfl⟩))
  have hkk : q_ty k0 = .object (c_anC k0) ∧ va_AO (c_anC k0) s ∧ 4 ≤ k0 ∧ k0 < 8 := by
    have hall : ∀ x ∈ c_anl, x.2.2 = 4 ∨ x.2.2 = 5 ∨ x.2.2 = 6 := by decide
    have := hall _ hmem
    dsimp only at this
    rcases this with rfl | rfl | rfl
    · exact ⟨rfl, C.2.2.2.2.2.1.2.1.1, by omega, by omega⟩
    · exact ⟨rfl, C.2.2.2.2.2.1.2.1.2.1, by omega, by omega⟩
    · exact ⟨rfl, C.2.2.2.2.2.1.2.1.2.2, by omega, by omega⟩
  have hRA := (C.2.2.2.2.2.1.1.2 k0 _ (q_tys_at g hkk.2.2.2)).2
  dsimp only at hRA
  rw [hkk.1] at hRA
  obtain ⟨-, -, -, -, -, hcid⟩ := hRA
  have hN := q_ncl hn.2
  refine W.anew C.1 C.2.1 C.2.2.2.1 hlink (va_AO.use hkk.2.1) rfl hd rfl (c_nneg hn.1.1 hn.2) (by rw [hN]; omega) (by omega) (by rw [hN]; omega) (fun cA kA comp f1 f2 f3 f4 => ?_)
  rw [hN]
  have hcA : cA = g.2.2.2.1 k0 := Option.some.inj (f1.symm.trans hcid)
  subst hcA
  generalize hH1 : H.push ({ cls := g.2.2.2.1 k0, slots := Array.replicate n.toNat .null, vm := .none } : Cell) = H1
  have z1 : H1.size = H.size + 1 := by rw [← hH1, Array.size_push]
  have e1 : H1[H.size]? = some (arrV (g.2.2.2.1 k0) n.toNat (fun _ => .null)) := by rw [← hH1, Array.getElem?_push_size, ← arrV_new]
  have o1 : ∀ q : Nat, q < H.size → H1[q]? = H[q]? := fun q hq => by rw [← hH1, Array.getElem?_push, if_neg (Nat.ne_of_lt hq)]
  refine c_grown (n := 3) k hle hn' (c_push hP o1 ?_) hS (by omega) o1 hl rfl rfl ?_
  · rw [hsz] at e1
    show H1[sz + E.length]? = some (vp_cell _ (_, c_ct _ k0 []))
    rw [c_ct_ref hkk.2.2.1]
    exact e1
  · show F0 m (pc + 3) L (Value.ref H.size :: r.map (q_cv g)) = F0 m (pc + 3) L (q_cv g (c_ix E) :: r.map (q_cv g))
    rw [c_ix_cv C.2.2.2.2.2.2.2.1, hsz]
theorem c_s_multi {n k : Int} (C : c_cx p s m args meth c g sz nL 10 cc rv E0) (hR : E1.length - E0.length ≤ R.cells ∧ c_sz E1 - c_sz E0 ≤ R.slots) (hn : (0 ≤ n ∧ n ≤ 100000) ∧ q_i32 n) (hk : (0 ≤ k ∧ k ≤ 100000) ∧ q_i32 k) (hd : decode cc pc = .ok (.multianewarray 13 2, 4)) (h1 : c_le (E ++ (.inl (7, n.toNat, c_up 0 (E.length + 1) n.toNat) :: c_rep n.toNat (.inl (1, k.toNat, [])))) E1) (kk : c_G p l e R s m args below meth c Qf g sz nL E0 (pc + 4) ls (c_ix E :: r) (E ++ (.inl (7, n.toNat, c_up 0 (E.length + 1) n.toNat) :: c_rep n.toNat (.inl (1, k.toNat, []))))) : c_G p l e R s m args below meth c Qf g sz nL E0 pc ls (.inl k :: .inl n :: r) E := by
  intro hle hn' H locs L hP hS hl
  refine c_size C.2.2.2.2.2.2.2.2.2.1 hle hP hS (fun hsz => ?_)
  have hl1 := h1.1
  have hl2 := h1.2
  rw [List.length_append, List.length_cons, c_rep_len] at hl1
  have hsz2 : c_sz (.inl (7, n.toNat, c_up 0 (E.length + 1) n.toNat) :: c_rep n.toNat (.inl (1, k.toNat, []))) = n.toNat + n.toNat * k.toNat := by
    show n.toNat + c_sz (c_rep n.toNat _) = _
    rw [c_rep_sz]
    rfl
  rw [c_sz_app, hsz2] at hl2
  have hle1 := hle.1
  have hle2 := hle.2
  have hlink := c_hts C (c_fw _ List.mem_cons_self)
  have h7 := (C.2.2.2.2.2.1.1.2 7 _ (q_tys_at g (by omega))).2
  have hf7 : s.vm.findClass "[[I" = some (g.2.2.2.1 7) := by
    have e : "[" ++ (FieldType.array .int).toString = "[[I" := by decide +kernel
    rw [← e]
    exact h7
  obtain ⟨kA, hkA, hkindA⟩ := C.2.2.2.2.2.1.2.2
  obtain ⟨-, kB, hkB, cC, hkindB⟩ := (C.2.2.2.2.2.1.1.2 1 _ (q_tys_at g (by omega))).1 0 (fun _ => .null)
  refine c_multi C.1 C.2.1 C.2.2.2.1 hlink hf7 hkA hkindA hkB hkindB rfl hd rfl (c_nneg hn.1.1 hn.2) (c_nneg hk.1.1 hk.2) (q_ncl hn.2) (q_ncl hk.2) (by omega) (by omega) (by omega) (by omega) (fun H1 z1 o1 e1 e2 => ?_)
  refine c_grown (n := 4) kk hle hn' (c_pushs hP o1 (fun j x hx => ?_)) hS (by omega) o1 hl (by rw [List.length_cons, c_rep_len]; omega) hsz2.symm ?_
  · match j, hx with
    | 0, hx =>
      cases hx
      rw [hsz] at e1
      show H1[sz + E.length]? = some (vp_cell _ (_, c_ct _ 7 _))
      rw [c_ct_ref (by omega), e1]
      congr 1
      refine (c_arr (f' := fun j => va_rf ((c_get (c_up 0 (E.length + 1) n.toNat) j).map (fun b : Int => sz + b.toNat))) (fun j hj => ?_)).trans (vp_cell_q _ _ _).symm
      have := c_up_get 0 (E.length + 1) n.toNat j hj
      rw [Nat.zero_add] at this
      show _ = va_rf ((c_get _ j).map _)
      rw [this]
      show Value.ref (sz + E.length + 1 + j) = Value.ref (sz + (E.length + 1 + j))
      rw [show sz + E.length + 1 + j = sz + (E.length + 1 + j) by omega]
    | j + 1, hx =>
      obtain ⟨rfl, hj⟩ := c_rep_get _ _ _ _ hx
      have := e2 j hj
      rw [hsz] at this
      rw [show sz + E.length + 1 + j = sz + E.length + (j + 1) by omega] at this
      exact this
  · show F0 m (pc + 4) L (Value.ref H.size :: r.map (q_cv g)) = F0 m (pc + 4) L (q_cv g (c_ix E) :: r.map (q_cv g))
    rw [c_ix_cv C.2.2.2.2.2.2.2.1, hsz]
/-- behind a write -/
theorem c_kept {a : Nat} {e0 e' : QCE} {H1 : Heap} {locs1 : List Loc} {L : Array Slot} {vs : List QV} (hq : q_get E a = some e0) (hc : c_cs e' = c_cs e0) (k : c_G p l e R s m args below meth c Qf g sz nL E0 pc ls vs (c_set E a e')) (hle : c_le E0 E) (hn : ls.length = nL) (hP1 : c_PH g sz (c_set E a e') H1) (hS : va_S g.2.2.1 s.heap H1 locs1) (hl : lv_has L nL (q_lc g 0 ls)) : W p l e R s m args below meth c H1 locs1 (E.length - E0.length) (c_sz E - c_sz E0) Qf (F0 m pc L (vs.map (q_cv g))) := by
  have e1 := c_set_len E a e'
  have e2 := c_sz_set E a e0 e' hq hc
  have := k ⟨by rw [e1]; exact hle.1, by rw [e2]; exact hle.2⟩ hn H1 locs1 L hP1 hS hl
  rw [e1, e2] at this
  exact this
theorem c_rf_cv (hga : ∀ r i, g.2.1 r i = sz + i.toNat) (r0 : Nat) (i0 : Int) : q_cv g (.inr (.inr (some (r0, i0)))) = .ref (sz + i0.toNat) := by
  show Value.ref _ = _
  rw [hga]
theorem c_pk_out {ci k0 : Nat} {v : QV} (h : c_pk ci k0 v = true) : ∃ x, q_fk ci k0 = some x ∧ ((x.1 = 0 ∧ ∃ z, v = .inl z) ∨ (x.1 = 1 ∧ ∃ z, v = .inr (.inl z)) ∨ ((x.1 = 2 ∨ x.1 = 3) ∧ ∃ r i, v = .inr (.inr (some (r, i))))) := by
  unfold c_pk at h
  split at h
  · rename_i hq
    exact ⟨_, hq, Or.inl ⟨rfl, _, rfl⟩⟩
  · rename_i hq
    exact ⟨_, hq, Or.inr (Or.inl ⟨rfl, _, rfl⟩)⟩
  · rename_i a hq
    exact ⟨_, hq, Or.inr (Or.inr ⟨Or.inl rfl, a.1, a.2, rfl⟩)⟩
  · rename_i a hq
    exact ⟨_, hq, Or.inr (Or.inr ⟨Or.inr rfl, a.1, a.2, rfl⟩)⟩
  · cases h
theorem c_s_put {i k0 r0 : Nat} {i0 : Int} {v : QV} {fs : List QV} (C : c_cx p s m args meth c g sz nL cl cc rv E0) (hrv : rv = false) (hf : q_look q_fts cl i = some (cl, k0)) (hq : q_get E i0.toNat = some (.inr (cl, fs))) (hk : k0 < fs.length) (hv : c_pk cl k0 v = true) (hd : decode cc pc = .ok (.putfield i, 3)) (k : c_G p l e R s m args below meth c Qf g sz nL E0 (pc + 3) ls r (c_set E i0.toNat (.inr (cl, c_vset fs k0 v)))) : c_G p l e R s m args below meth c Qf g sz nL E0 pc ls (v :: .inr (.inr (some (r0, i0))) :: r) E := by
  intro hle hn H locs L hP hS hl
  have hga := C.2.2.2.2.2.2.2.1
  have hci := C.2.2.2.2.2.2.2.2.2.2
  obtain ⟨x, hx, hvx⟩ := c_pk_out hv
  have hkd := q_kd hx
  unfold q_kdok at hkd
  simp only [Bool.and_eq_true, decide_eq_true_eq] at hkd
  have hN : k0 < q_N cl := Nat.le_of_ble_eq_true hkd.1.1.1
  have hlk := c_hts C (q_ff cl _ (q_look_mem hf))
  have hty : parseFieldDescriptor (q_T cl k0).2.2.1 = some (q_tyF cl k0) := q_tyok cl hci k0 hN
  have hnar : narrow (q_tyF cl k0) (q_cv g v) = q_cv g v ∧ fits (q_tyF cl k0) (q_cv g v) = true := by
    have h2 := hkd.2
    obtain ⟨xk, xr, xj⟩ := x
    rcases hvx with ⟨e1, z, rfl⟩ | ⟨e1, z, rfl⟩ | ⟨e1, r1, i1, rfl⟩
    · cases e1
      simp only [Bool.and_eq_true, decide_eq_true_eq] at h2
      exact q_nar (Or.inl ⟨h2.1.1, _, rfl⟩)
    · cases e1
      simp only [Bool.and_eq_true, decide_eq_true_eq] at h2
      exact q_nar (Or.inr (Or.inl ⟨h2.1.1, _, rfl⟩))
    · refine q_nar (Or.inr (Or.inr ⟨?_, _, rfl⟩))
      rcases e1 with e1 | e1 <;> cases e1
      · have href := List.all_eq_true.mp c_ref_all cl (List.mem_range.mpr hci)
        obtain ⟨-, l2, hl2, hl3⟩ := q_fk_lt hx
        rw [hl2] at href
        have href := List.all_eq_true.mp href ((2, xr, xj), k0) (by rw [List.mem_zipIdx_iff_getElem?]; exact hl3)
        simpa using href
      · simp only [Bool.and_eq_true] at h2
        exact h2.1.1
  have hW := c_W_get (cid := g.2.2.2.1) (sz := sz) hq
  have hD := c_W_D (cid := g.2.2.2.1) (sz := sz) C.2.2.2.2.2.2.2.2.1 E
  have hset : (c_W g.2.2.2.1 sz E).set i0.toNat (sz + i0.toNat, .inr (cl, (fs.map (c_val (fun x => sz + x))).set k0 (q_cv g v))) = c_W g.2.2.2.1 sz (c_set E i0.toNat (.inr (cl, c_vset fs k0 v))) := by
    rw [← c_val_cv hga v, c_vset_map]
    exact c_W_set (cid := g.2.2.2.1) (sz := sz) (E := E) (a := i0.toNat) (e := .inr (cl, c_vset fs k0 v))
  have hlen : k0 < (fs.map (c_val (fun x => sz + x))).length := by rw [List.length_map]; exact hk
  have kk : ∀ (H1 : Heap) (locs1 : List Loc), va_P g.1 vwCl ((c_W g.2.2.2.1 sz E).set i0.toNat (sz + i0.toNat, .inr (cl, (fs.map (c_val (fun x => sz + x))).set k0 (q_cv g v)))) H1 → va_D g.2.2.1 ((c_W g.2.2.2.1 sz E).set i0.toNat (sz + i0.toNat, .inr (cl, (fs.map (c_val (fun x => sz + x))).set k0 (q_cv g v)))) → va_S g.2.2.1 s.heap H1 locs1 → W p l e R s m args below meth c H1 locs1 (E.length - E0.length) (c_sz E - c_sz E0) Qf (F0 m (pc + 3) L (r.map (q_cv g))) := by
    intro H1 locs1 a1 a2 a3
    rw [hset] at a1
    exact c_kept (sz := sz) (e' := .inr (cl, c_vset fs k0 v)) hq rfl k hle hn a1 a3 hl
  rw [List.map_cons, List.map_cons, c_rf_cv hga]
  cases hfin : (q_T cl k0).2.2.2 with
  | false => exact va_put (Ts := q_W) (D := g.1) (tys := q_tys g) C.1 C.2.1 C.2.2.2.2.1 (q_fu cl hci) (q_tyF cl) (q_tyok cl hci) (q_nmok cl hci) C.2.2.2.1 C.2.2.2.2.2.1.1 hP hD hS i0.toNat hW (q_cl cl hci) k0 hN hlk (fun y hy => by rw [hkd.1.2] at hy; exact hy) hfin hty hnar.1 hnar.2 hlen hd kk
  | true => exact va_putF (Ts := q_W) (D := g.1) (tys := q_tys g) C.1 C.2.1 C.2.2.2.2.1 (q_fu cl hci) (q_tyF cl) (q_tyok cl hci) (q_nmok cl hci) C.2.2.2.1 C.2.2.2.2.2.1.1 hP hD hS i0.toNat hW (q_cl cl hci) k0 hN hlk (fun y hy => by rw [hkd.1.2] at hy; exact hy) hfin (C.2.2.2.2.2.2.1 hrv) hkd.1.2 hty hnar.1 hnar.2 hlen hd kk
theorem c_s_get {i k0 ci r0 : Nat} {i0 : Int} {v : QV} {fs : List QV} {x : Nat × Nat × Int} (C : c_cx p s m args meth c g sz nL cl cc rv E0) (hf : q_look q_fts cl i = some (ci, k0)) (hx : q_fk ci k0 = some x) (hq : q_get E i0.toNat = some (.inr (ci, fs))) (hv : q_get fs k0 = some v) (hd : decode cc pc = .ok (.getfield i, 3)) (k : c_G p l e R s m args below meth c Qf g sz nL E0 (pc + 3) ls (v :: r) E) : c_G p l e R s m args below meth c Qf g sz nL E0 pc ls (.inr (.inr (some (r0, i0))) :: r) E := by
  intro hle hn H locs L hP hS hl
  have hga := C.2.2.2.2.2.2.2.1
  obtain ⟨hci, -⟩ := q_fk_lt hx
  have hkd := q_kd hx
  unfold q_kdok at hkd
  simp only [Bool.and_eq_true, decide_eq_true_eq] at hkd
  have hN : k0 < q_N ci := Nat.le_of_ble_eq_true hkd.1.1.1
  have hlk := c_hts C (q_ff cl _ (q_look_mem hf))
  have hW := c_W_get (cid := g.2.2.2.1) (sz := sz) hq
  have hv2 : (fs.map (c_val (fun x => sz + x)))[k0]? = some (q_cv g v) := by
    rw [q_get_eq] at hv
    rw [List.getElem?_map, hv, ← c_val_cv hga v]
    rfl
  rw [List.map_cons, c_rf_cv hga]
  exact va_get (Ts := q_W) (D := g.1) (tys := q_tys g) C.1 C.2.1 C.2.2.2.2.1 (q_fu ci hci) C.2.2.2.1 C.2.2.2.2.2.1.1 hP i0.toNat hW (q_cl ci hci) k0 hN hlk (fun y hy => by rw [hkd.1.2] at hy; exact hy) hv2 hd (k hle hn H locs L hP hS hl)
theorem c_s_alen {kd n r0 : Nat} {i0 : Int} {ov : List (Nat × Int)} (C : c_cx p s m args meth c g sz nL cl cc rv E0) (hq : q_get E i0.toNat = some (.inl (kd, n, ov))) (hk : kd < 8) (hd : decode cc pc = .ok (.arraylength, 1)) (k : c_G p l e R s m args below meth c Qf g sz nL E0 (pc + 1) ls (.inl (n : Int) :: r) E) : c_G p l e R s m args below meth c Qf g sz nL E0 pc ls (.inr (.inr (some (r0, i0))) :: r) E := by
  intro hle hn H locs L hP hS hl
  have hga := C.2.2.2.2.2.2.2.1
  have hW := c_W_get (cid := g.2.2.2.1) (sz := sz) hq
  rw [List.map_cons, c_rf_cv hga]
  exact va_alen (v := Int32.ofInt (n : Int)) C.1 C.2.1 C.2.2.2.2.2.1.1 hP i0.toNat kd hW (q_tys_at g hk) Int32.ofInt_eq_ofNat.symm hd (k hle hn H locs L hP hS hl)
theorem c_s_last {n r0 : Nat} {i0 j v : Int} {ov : List (Nat × Int)} (C : c_cx p s m args meth c g sz nL cl cc rv E0) (hq : q_get E i0.toNat = some (.inl (2, n, ov))) (hj : (0 ≤ j ∧ j < n ∧ n ≤ 100000) ∧ q_i32 j) (hd : decode cc pc = .ok (.lastore, 1)) (k : c_G p l e R s m args below meth c Qf g sz nL E0 (pc + 1) ls r (c_set E i0.toNat (.inl (2, n, (j.toNat, v) :: ov)))) : c_G p l e R s m args below meth c Qf g sz nL E0 pc ls (.inr (.inl v) :: .inl j :: .inr (.inr (some (r0, i0))) :: r) E := by
  intro hle hn H locs L hP hS hl
  have hga := C.2.2.2.2.2.2.2.1
  have hW := c_W_get (cid := g.2.2.2.1) (sz := sz) hq
  have hD := c_W_D (cid := g.2.2.2.1) (sz := sz) C.2.2.2.2.2.2.2.2.1 E
  rw [List.map_cons, List.map_cons, List.map_cons, c_rf_cv hga]
  refine va_last (f := fun i => Int64.ofInt ((c_get ov i).getD 0)) (x := Int64.ofInt v) C.1 C.2.1 C.2.2.2.2.2.1.1 hP hD hS i0.toNat 2 hW (q_tys_at g (by omega)) (q_nin hj.2 hj.1.1 (by omega)) hd (fun H1 locs1 a1 a2 a3 => ?_)
  rw [q_ncl hj.2, ← c_get_upL] at a1
  have hset : (c_W g.2.2.2.1 sz E).set i0.toNat (sz + i0.toNat, .inl (g.2.2.2.1 2, n, .inr (.inl (fun i => Int64.ofInt ((c_get ((j.toNat, v) :: ov) i).getD 0))))) = c_W g.2.2.2.1 sz (c_set E i0.toNat (.inl (2, n, (j.toNat, v) :: ov))) := c_W_set (cid := g.2.2.2.1) (sz := sz) (E := E) (a := i0.toNat) (e := .inl (2, n, (j.toNat, v) :: ov))
  rw [hset] at a1
  exact c_kept (sz := sz) (e' := .inl (2, n, (j.toNat, v) :: ov)) hq rfl k hle hn a1 a3 hl
theorem c_s_aast {kd n ci r0 r1 : Nat} {i0 i1 j : Int} {ov : List (Nat × Int)} {vs : List QV} (C : c_cx p s m args meth c g sz nL cl cc rv E0) (hq : q_get E i0.toNat = some (.inl (kd, n, ov))) (hq1 : q_get E i1.toNat = some (.inr (ci, vs))) (hac : c_ac kd ci = true) (hj : (0 ≤ j ∧ j < n ∧ n ≤ 100000) ∧ q_i32 j) (hd : decode cc pc = .ok (.aastore, 1)) (k : c_G p l e R s m args below meth c Qf g sz nL E0 (pc + 1) ls r (c_set E i0.toNat (.inl (kd, n, (j.toNat, i1) :: ov)))) : c_G p l e R s m args below meth c Qf g sz nL E0 pc ls (.inr (.inr (some (r1, i1))) :: .inl j :: .inr (.inr (some (r0, i0))) :: r) E := by
  intro hle hn H locs L hP hS hl
  have hga := C.2.2.2.2.2.2.2.1
  have hD := c_W_D (cid := g.2.2.2.1) (sz := sz) C.2.2.2.2.2.2.2.2.1 E
  have hac : (kd = 4 ∧ ci = 2) ∨ (kd = 5 ∧ ci = 4) ∨ (kd = 6 ∧ ci = 8) := by
    unfold c_ac at hac
    simp only [Bool.or_eq_true, Bool.and_eq_true] at hac
    rcases hac with (h | h) | h
    · exact Or.inl ⟨Nat.eq_of_beq_eq_true h.1, Nat.eq_of_beq_eq_true h.2⟩
    · exact Or.inr (Or.inl ⟨Nat.eq_of_beq_eq_true h.1, Nat.eq_of_beq_eq_true h.2⟩)
    · exact Or.inr (Or.inr ⟨Nat.eq_of_beq_eq_true h.1, Nat.eq_of_beq_eq_true h.2⟩)
  have hty : q_ty kd = .object (q_cn ci) ∧ 4 ≤ kd ∧ kd < 8 ∧ ci < 13 := by
    rcases hac with ⟨rfl, rfl⟩ | ⟨rfl, rfl⟩ | ⟨rfl, rfl⟩ <;> exact ⟨rfl, by omega, by omega, by omega⟩
  have hW := c_W_get (cid := g.2.2.2.1) (sz := sz) hq
  have hW1 := c_W_get (cid := g.2.2.2.1) (sz := sz) hq1
  have hW : (c_W g.2.2.2.1 sz E)[i0.toNat]? = some (sz + i0.toNat, .inl (g.2.2.2.1 kd, n, c_ct (fun x => sz + x) kd ov)) := hW
  have hW1 : (c_W g.2.2.2.1 sz E)[i1.toNat]? = some (sz + i1.toNat, .inr (ci, vs.map (c_val (fun x => sz + x)))) := hW1
  rw [c_ct_ref hty.2.1] at hW
  have ht := q_tys_at g hty.2.2.1
  rw [hty.1] at ht
  rw [List.map_cons, List.map_cons, List.map_cons, c_rf_cv hga, c_rf_cv hga]
  refine va_astq (r := (q_cn ci, q_T ci, q_N ci)) C.1 C.2.1 C.2.2.2.2.2.1.1 hP hD hS i0.toNat kd i1.toNat ci hW ht hW1 (q_cl ci hty.2.2.2) (q_nin hj.2 hj.1.1 (by omega)) hd (fun H1 locs1 a1 a2 a3 => ?_)
  have hset : (c_W g.2.2.2.1 sz E).set i0.toNat (sz + i0.toNat, .inl (g.2.2.2.1 kd, n, .inr (.inr (.inr (.inr (va_up (fun i => (c_get ov i).map (fun b : Int => sz + b.toNat)) (Int32.ofInt j).toNatClampNeg (some (sz + i1.toNat)))))))) = c_W g.2.2.2.1 sz (c_set E i0.toNat (.inl (kd, n, (j.toNat, i1) :: ov))) := by
    rw [q_ncl hj.2, ← c_W_set]
    show _ = (c_W g.2.2.2.1 sz E).set i0.toNat (sz + i0.toNat, .inl (g.2.2.2.1 kd, n, c_ct (fun x => sz + x) kd ((j.toNat, i1) :: ov)))
    rw [c_ct_ref hty.2.1, c_get_up (ad := fun x => sz + x)]
  rw [hset] at a1
  exact c_kept (sz := sz) (e' := .inl (kd, n, (j.toNat, i1) :: ov)) hq rfl k hle hn a1 a3 hl
theorem c_s_obj {i r0 : Nat} {i0 : Int} (C : c_cx p s m args meth c g sz nL cl cc rv E0) (hR : 1 ≤ R.frames ∧ 64 ≤ R.locals) (hf : q_look c_links cl i = some 99) (hcat : q_cat r ≤ 8) (hd : decode cc pc = .ok (.invokespecial i, 3)) (k : c_G p l e R s m args below meth c Qf g sz nL E0 (pc + 3) ls r E) : c_G p l e R s m args below meth c Qf g sz nL E0 pc ls (.inr (.inr (some (r0, i0))) :: r) E := by
  intro hle hn H locs L hP hS hl
  have hlink := c_hts C (c_fk cl C.2.2.2.2.2.2.2.2.2.2 _ (List.mem_map.mpr ⟨_, q_look_mem hf, rfl⟩))
  have h1 := c_hts C (c_fo (.instanceMethod objectInit) (by simp))
  have h2 := c_hts C (c_fo (.code objectInit ⟨#[0xb1]⟩ 1 none) (by simp))
  refine W.objInit (rest := r.map (q_cv g)) C.1 C.2.1 C.2.2.2.1 hlink h1 h2 rfl (hl.1.trans C.2.2.1.symm) rfl hd hR.1 ?_ (k hle hn H locs L hP hS hl)
  rw [q_cat_ok]
  show 2 * 0 + q_cat r + 12 ≤ _
  have := hR.2
  omega
end CSound2
