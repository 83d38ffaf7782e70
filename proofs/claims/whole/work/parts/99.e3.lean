/-! the law makes both, then goes round -/
theorem c_one_eq : c_exec 6 11 [c_ix []] ([] ++ [.inr (11, c_fs 11)]) = some (none, c_mid) := by
  have h := c_one1_ok
  show c_one1 = some (none, c_mid)
  unfold c_mid
  cases hc : c_one1 with
  | none => rw [hc] at h; cases h
  | some x =>
    obtain ⟨r, E⟩ := x
    rw [hc] at h
    cases r with
    | none => rfl
    | some v => cases h
theorem c_two_eq : c_exec 6 12 [c_ix c_mid] (c_mid ++ [.inr (12, c_fs 12)]) = some (none, c_all) := by
  have h := c_two1_ok
  show c_two1 c_mid = some (none, c_all)
  unfold c_all
  cases hc : c_two1 c_mid with
  | none => rw [hc] at h; cases h
  | some x =>
    obtain ⟨r, E⟩ := x
    rw [hc] at h
    cases r with
    | none => rfl
    | some v => cases h
theorem c_mid_len : c_mid.length = 278 := by decide +kernel
theorem c_mid_sz : c_sz c_mid ≤ 200000 := by decide +kernel
theorem c_lit_len : c_lit.length = 305 := by decide +kernel
theorem c_lit_sz : c_sz c_lit ≤ 200000 := by decide +kernel
theorem d_L0 : decode code 0 = .ok (.new 7, 3) := by decide +kernel
theorem d_L3 : decode code 3 = .ok (.dup, 1) := by decide +kernel
theorem d_L4 : decode code 4 = .ok (.invokespecial 9, 3) := by decide +kernel
theorem d_L7 : decode code 7 = .ok (.astore_n 1, 1) := by decide +kernel
theorem d_L8 : decode code 8 = .ok (.new 10, 3) := by decide +kernel
theorem d_L11 : decode code 11 = .ok (.dup, 1) := by decide +kernel
theorem d_L12 : decode code 12 = .ok (.invokespecial 12, 3) := by decide +kernel
theorem d_L15 : decode code 15 = .ok (.astore_n 2, 1) := by decide +kernel
theorem d_L16 : decode code 16 = .ok (.iconst 0, 1) := by decide +kernel
theorem d_L17 : decode code 17 = .ok (.istore_n 3, 1) := by decide +kernel
section CLaw
variable {p : Program} {l : Launch} {e : Env} {s : State} {m : MethodId} {args : Array Value} {below : List Frame} {meth : Method} {c : Code} {Qf : State → Prop} {g : QG} {sz : Nat}
theorem c_mk {E E' : List QCE} {pc i j ci : Nat} {k : Fin 4} {lv lv' : List (Nat × Value)} {H : Heap} {locs : List Loc} {L : Array Slot} (hx : p.tables.exec = Jvm.exec) (hb : c.code = code) (hml : c.maxLocals = 4) (hown : s.vm.findClass R_lawQ = some m.cls) (hts : ∀ w ∈ q_W, w.before args s = true) (hBd : c_Bd g s) (hga : ∀ r i, g.2.1 r i = sz + i.toNat) (hA : ∀ q, sz ≤ q → g.2.2.1 q) (hsz : s.heap.size = sz)
    (hE : c_exec 6 ci [c_ix E] (E ++ [.inr (ci, c_fs ci)]) = some (none, E')) (hci : ci < 13) (hb1 : E'.length ≤ 600000) (hb2 : c_sz E' ≤ 7302250) (w1 : (Cond.classLink R_lawQ i (q_cn ci)).before args s = true) (w2 : (Cond.methodLink R_lawQ j (c_mm ci).1).before args s = true)
    (d0 : decode code pc = .ok (.new i, 3)) (d1 : decode code (pc + 3) = .ok (.dup, 1)) (d2 : decode code (pc + 4) = .ok (.invokespecial j, 3)) (d3 : decode code (pc + 7) = .ok (.astore_n k, 1))
    (hP : c_PH g sz E H) (hS : va_S g.2.2.1 s.heap H locs) (hl : lv_has L 4 lv) (hlv : (k.val, Value.ref (sz + E.length)) :: lv.filter (fun q => !(q.1 == k.val) && !(q.1 + 1 == k.val && q.2.category == 2)) = lv')
    (kk : ∀ (H1 : Heap) (locs1 : List Loc) (L1 : Array Slot), c_PH g sz E' H1 → va_S g.2.2.1 s.heap H1 locs1 → lv_has L1 4 lv' → W p l e room_1 s m args below meth c H1 locs1 (E'.length - ([] : List QCE).length) (c_sz E' - c_sz []) Qf (F0 m (pc + 8) L1 [])) :
    W p l e room_1 s m args below meth c H locs (E.length - ([] : List QCE).length) (c_sz E - c_sz []) Qf (F0 m pc L []) := by
  have hle0 : c_le [] E := ⟨Nat.zero_le _, Nat.zero_le _⟩
  obtain ⟨hle, hM⟩ := c_exec_ok (l := l) hga hA 6 ci _ _ _ _ hE
  have hl1 := hle.1
  have hl2 := hle.2
  rw [List.length_append] at hl1
  rw [c_sz_app] at hl2
  have hl1 : E.length + 1 ≤ E'.length := hl1
  have hl2 : c_sz E + q_N ci ≤ c_sz E' := hl2
  refine c_size (by rw [hsz]; rfl) hle0 hP hS (fun hszH => ?_)
  have hKn := hBd.1.1 ci _ (q_cl ci hci)
  have hw2 := hts _ (c_fi _ (List.mem_map.mpr ⟨ci, List.mem_range.mpr hci, rfl⟩))
  have hw3 := hts _ (c_fz _ (List.mem_map.mpr ⟨ci, List.mem_range.mpr hci, rfl⟩))
  have z0 : E.length - ([] : List QCE).length = E.length := Nat.sub_zero _
  have z1 : c_sz E - c_sz [] = c_sz E := Nat.sub_zero _
  have z2 : E'.length - ([] : List QCE).length = E'.length := Nat.sub_zero _
  have z3 : c_sz E' - c_sz [] = c_sz E' := Nat.sub_zero _
  rw [z0, z1]
  rw [z2, z3] at kk
  refine W.newcK hx hb hown w1 hw2 hw3 rfl d0 (by show E.length + 1 ≤ 600000; omega) (by show c_sz E + q_N ci ≤ 7302250; omega) hKn.2.1 rfl (fun H1 kC hkC e1 zz1 o1 => ?_)
  have hP1 : c_PH g sz (E ++ [.inr (ci, c_fs ci)]) H1 := by
    refine c_push hP o1 ?_
    rw [hszH] at e1
    exact ⟨_, q_cl ci hci, (u_born (q_tyF ci) hts (q_fu ci hci) hKn hkC e1 (q_tyok ci hci)).to (fun j hj => c_fs_at hci hj)⟩
  have hS1 := c_S_grow hS (by omega) o1
  refine W.eq (g2 := F0 m (pc + 3) L [.ref (sz + E.length)]) (by rw [hszH]) ?_
  refine lv_dup hx hb d1 rfl ?_
  obtain ⟨⟨-, s2, s3, s4⟩, ⟨cl2, code2, -, s5, s6, s7⟩, s8, -⟩ := c_sok_out (n := ci) (by omega)
  obtain ⟨s9, s10⟩ := s8 hci
  have hw : c_mws ci = .code (c_mm ci).1 (c_mm ci).2.1 (c_mm ci).2.2.1 none :: q_W := by
    unfold c_mws
    rw [s9]
  have hini := hts _ (c_fz _ (List.mem_map.mpr ⟨cl2, List.mem_range.mpr s7, rfl⟩))
  rw [s5] at hini
  have hinst := hts _ (c_fm _ (List.mem_map.mpr ⟨ci, List.mem_range.mpr hci, rfl⟩))
  have hpar : c_par ci = 0 := by
    unfold c_par
    split <;> first | rfl | (exfalso; omega)
  rw [hpar] at s4
  have e1 : (E ++ [(.inr (ci, c_fs ci) : QCE)]).length = E.length + 1 := by rw [List.length_append]; rfl
  have e2 : c_sz (E ++ [(.inr (ci, c_fs ci) : QCE)]) = c_sz E + q_N ci := by rw [c_sz_app]; rfl
  have hcw := cwI (R := room_1) (rm := c_rm 6 (E'.length - (E ++ [(.inr (ci, c_fs ci) : QCE)]).length) (c_sz E' - c_sz (E ++ [(.inr (ci, c_fs ci) : QCE)]))) (mc := E'.length - (E ++ [(.inr (ci, c_fs ci) : QCE)]).length) (ms := c_sz E' - c_sz (E ++ [(.inr (ci, c_fs ci) : QCE)])) 0 hts (c_good ci (by omega)) hw rfl rfl hini w2 hinst s10 ⟨s2, s3, s4⟩ ⟨by show 6 + 1 ≤ 2048; omega, by show 8 + ((c_mm ci).2.2.1 + 11) + 64 * 6 ≤ 84000; omega⟩
  have hav : q_cv g (c_ix E) = .ref (sz + E.length) := c_ix_cv hga E
  have hrun := va_runI (R := room_1) (l := l) (below := below) (e := e) (meth := meth) (locs := locs) (H := H1) (cells := E.length + 1) (slots := c_sz E + q_N ci) (g := F0 m (pc + 4) L [.ref (sz + E.length), .ref (sz + E.length)]) (b := sz + E.length) (As := []) (rest := [.ref (sz + E.length)]) ⟨hx, hb, hml, hown, hts⟩ hM hcw ⟨c_blind g sz _ _, fun U hU hW => ⟨by rw [List.map_cons, hav]; rfl, by rw [hU, e1]; omega, by rw [hU]; exact hP1, c_Bd_mv hW.alike hBd⟩⟩ rfl rfl hl.1 rfl (lv_room (by show 1 ≤ 8; omega)) d2 ⟨by rw [e1]; show E.length + 1 + (E'.length - (E.length + 1)) ≤ 600000; omega, by rw [e2]; show c_sz E + q_N ci + (c_sz E' - (c_sz E + q_N ci)) ≤ 7302250; omega⟩
  refine c_after hrun hS1 (fun H2 locs2 b1 b2 => ?_)
  refine W.cs (cells' := E'.length) (slots' := c_sz E') (by omega) (by omega) ?_
  exact lv_astore_n hx hb d3 rfl hl k.isLt hlv (fun L1 hl1 => kk H2 locs2 L1 b1 b2 hl1)
theorem c_make {b : Nat} {L : Array Slot} (hx : p.tables.exec = Jvm.exec) (hb : c.code = code) (hml : c.maxLocals = 4) (hown : s.vm.findClass R_lawQ = some m.cls) (hts : ∀ w ∈ lw_tbl, w.before args s = true) (hBd : c_Bd g s) (hga : ∀ r i, g.2.1 r i = sz + i.toNat) (hA : ∀ q, sz ≤ q → g.2.2.1 q) (hsz : s.heap.size = sz) (hl : lv_has L 4 [(0, .ref b)])
    (kk : ∀ (H1 : Heap) (locs1 : List Loc) (L1 : Array Slot), c_PH g sz c_lit H1 → va_S g.2.2.1 s.heap H1 locs1 → lv_has L1 4 [(3, .int 0), (2, .ref (sz + 278)), (1, .ref sz), (0, .ref b)] → W p l e room_1 s m args below meth c H1 locs1 600000 7302250 Qf (F0 m 18 L1 [])) :
    W p l e room_1 s m args below meth c s.heap [] 0 0 Qf (F0 m 0 L []) := by
  have hts2 : ∀ w ∈ q_W, w.before args s = true := fun w hw => hts w (List.mem_filter.mp hw).1
  have hl1 := c_lit_len
  have hl2 := c_lit_sz
  have hl3 := c_mid_len
  have hl4 := c_mid_sz
  have hall := c_all_lit
  refine c_mk (E := []) (E' := c_mid) (pc := 0) (i := 7) (j := 9) (ci := 11) (k := 1) (lv' := [(1, .ref sz), (0, .ref b)]) hx hb hml hown hts2 hBd hga hA hsz c_one_eq (by omega) (by omega) (by omega) (hts _ (c_flw _ (by simp [c_lws]))) (hts _ (c_flw _ (by simp [c_lws]))) d_L0 d_L3 d_L4 d_L7 (fun k q h => by cases k <;> cases h) va_S.rf hl rfl (fun H1 locs1 L1 hP1 hS1 hl1' => ?_)
  refine c_mk (E := c_mid) (E' := c_all) (pc := 8) (i := 10) (j := 12) (ci := 12) (k := 2) (lv' := [(2, .ref (sz + 278)), (1, .ref sz), (0, .ref b)]) hx hb hml hown hts2 hBd hga hA hsz c_two_eq (by omega) (by rw [hall]; omega) (by rw [hall]; omega) (hts _ (c_flw _ (by simp [c_lws]))) (hts _ (c_flw _ (by simp [c_lws]))) d_L8 d_L11 d_L12 d_L15 hP1 hS1 hl1' (by rw [hl3]; rfl) (fun H2 locs2 L2 hP2 hS2 hl2' => ?_)
  rw [hall] at hP2
  refine lv_iconst (v := 0) hx hb d_L16 rfl ?_
  refine lv_istore_n (lv' := [(3, .int 0), (2, .ref (sz + 278)), (1, .ref sz), (0, .ref b)]) hx hb d_L17 rfl hl2' (by decide) rfl (fun L3 hl3' => ?_)
  refine W.widen (k := 600000) (n := 7302250) ?_ ?_ (kk H2 locs2 L3 hP2 hS2 hl3')
  · rw [hall]; exact Nat.le_trans (Nat.sub_le _ _) (by omega)
  · rw [hall]; exact Nat.le_trans (Nat.sub_le _ _) (by omega)
end CLaw
