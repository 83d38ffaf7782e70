/-! the construction machine is sound -/
theorem c_sok_out {n : Nat} (hn : n < 15) : (plainName (c_mm n).1.cls = true ∧ (c_mm n).1.cls ≠ "java/lang/invoke/MethodHandle" ∧ (c_mm n).1.cls ≠ "java/lang/invoke/VarHandle" ∧ (parseMethodDescriptor (c_mm n).1.desc).map (fun d => d.parameters.length) = some (c_par n)) ∧ (∃ cl code, q_get c_ms n = some (cl, code, (c_mm n).2.2.1) ∧ q_cn cl = (c_mm n).1.cls ∧ (c_mm n).2.2.1 ≤ 40 ∧ cl < 13) ∧ (n < 13 → (c_mm n).2.2.2 = none ∧ (c_mm n).1.name = "<init>") ∧ (13 ≤ n → (c_mm n).2.2.2 = some .long) := by
  have h := List.all_eq_true.mp c_sok_all n (List.mem_range.mpr hn)
  unfold c_sok at h
  rw [Bool.and_eq_true, Bool.and_eq_true, Bool.and_eq_true, Bool.and_eq_true, Bool.and_eq_true] at h
  obtain ⟨⟨⟨⟨⟨h1, h2⟩, h3⟩, h4⟩, h5⟩, h6⟩ := h
  refine ⟨⟨h1, of_decide_eq_true h2, of_decide_eq_true h3, of_decide_eq_true h4⟩, ?_, fun q => ?_, fun q => ?_⟩
  · cases hq : q_get c_ms n with
    | none => rw [hq] at h5; cases h5
    | some x =>
      obtain ⟨cl, code, nL⟩ := x
      rw [hq] at h5
      have h5 : (decide (q_cn cl = (c_mm n).1.cls) && Nat.beq nL (c_mm n).2.2.1 && Nat.ble nL 40 && Nat.blt cl 13) = true := h5
      rw [Bool.and_eq_true, Bool.and_eq_true, Bool.and_eq_true] at h5
      obtain ⟨⟨⟨a1, a2⟩, a3⟩, a4⟩ := h5
      have e := Nat.eq_of_beq_eq_true a2
      subst e
      exact ⟨cl, code, rfl, of_decide_eq_true a1, Nat.le_of_ble_eq_true a3, Nat.le_of_ble_eq_true a4⟩
  · have hb : Nat.ble 13 n = false := by
      cases hb : Nat.ble 13 n with
      | false => rfl
      | true => have := Nat.le_of_ble_eq_true hb; omega
    rw [hb] at h6
    have h6 : (decide ((c_mm n).2.2.2 = none) && decide ((c_mm n).1.name = "<init>")) = true := h6
    rw [Bool.and_eq_true] at h6
    exact ⟨of_decide_eq_true h6.1, of_decide_eq_true h6.2⟩
  · have hb : Nat.ble 13 n = true := Nat.ble_eq_true_of_le q
    rw [hb] at h6
    exact of_decide_eq_true h6
theorem c_good (n : Nat) (hn : n < 15) : GoodIn q_W (c_mws n) := q_good_of (fun w hw => by
  rcases List.mem_cons.mp hw with rfl | h1
  · exact c_cw n hn
  · exact h1)
theorem c_le_set {E E1 : List QCE} {a : Nat} {e0 e' : QCE} (hq : q_get E a = some e0) (hc : c_cs e' = c_cs e0) (h : c_le (c_set E a e') E1) : c_le E E1 := by
  obtain ⟨h1, h2⟩ := h
  rw [c_set_len] at h1
  rw [c_sz_set E a e0 e' hq hc] at h2
  exact ⟨h1, h2⟩
section CSound3
variable {p : Program} {l : Launch} {e : Env} {R : Room} {s : State} {m : MethodId} {args : Array Value} {below : List Frame} {meth : Method} {c : Code} {Qf : State → Prop} {g : QG} {sz nL cl d : Nat} {cc : ByteArray} {rv : Bool} {E0 E E1 : List QCE} {pc : Nat} {ls : QL} {st r : List QV}
theorem c_after {cells slots mc ms : Nat} {res : Option QV} {E' : List QCE} {a : Array Value} {H : Heap} {locs : List Loc} {L : Array Slot} {st0 rest : List Value} (hr : va_Run p l e R s m args below meth c H locs cells slots mc ms (F0 m pc L st0) rest (c_Qc g sz res E' a) g.2.2.1) (hS : va_S g.2.2.1 s.heap H locs)
    (kk : ∀ (H1 : Heap) (locs1 : List Loc), c_PH g sz E' H1 → va_S g.2.2.1 s.heap H1 locs1 → W p l e R s m args below meth c H1 locs1 (cells + mc) (slots + ms) Qf (F0 m (pc + 3) L ((res.map (q_cv g)).toList ++ rest))) : W p l e R s m args below meth c H locs cells slots Qf (F0 m pc L st0) := by
  intro T hT X
  obtain ⟨v, st₀, t, T', LL, h0, X', hL, e1, e2, ⟨⟨hv, q2⟩, hz, hk⟩, st⟩ := hr T hT X
  cases hv
  rw [h0] at hz hk
  obtain ⟨t2, a1, b1⟩ := kk T'.heap (locs ++ LL) (by rw [e1]; exact q2)
    ⟨Nat.le_trans hS.1 (by rw [e1]; exact hz), fun q h1 h2 => by rw [e1, hk q (Nat.lt_of_lt_of_le h1 hS.1) h2]; exact hS.2.1 q h1 h2, fun q hq => by
      rcases List.mem_append.mp hq with h | h
      · exact hS.2.2 q h
      · exact hL q h⟩ T' rfl X'
  exact ⟨t2, st t2 a1, b1⟩
theorem c_s_init {i mno r0 : Nat} {i0 : Int} {E' : List QCE} (C : c_cx p s m args meth c g sz nL cl cc rv E0) (hR : E1.length - E0.length ≤ R.cells ∧ c_sz E1 - c_sz E0 ≤ R.slots) (hF : d + 1 ≤ R.frames ∧ 64 * (d + 1) ≤ R.locals) (hf : q_look c_links cl i = some mno) (hm : mno < 13) (hcat : q_cat r ≤ 8) (hd : decode cc pc = .ok (.invokespecial i, 3)) (hM : c_met l g sz d mno [.inr (.inr (some (r0, i0)))] E none E') (hle' : c_le E E') (h1 : c_le E' E1) (k : c_G p l e R s m args below meth c Qf g sz nL E0 (pc + 3) ls r E') : c_G p l e R s m args below meth c Qf g sz nL E0 pc ls (.inr (.inr (some (r0, i0))) :: r) E := by
  intro hle hn H locs L hP hS hl
  refine c_size C.2.2.2.2.2.2.2.2.2.1 hle hP hS (fun hsz => ?_)
  obtain ⟨⟨-, s2, s3, s4⟩, ⟨cl2, code2, -, s5, s6, s7⟩, s8, -⟩ := c_sok_out (n := mno) (by omega)
  obtain ⟨s9, s10⟩ := s8 hm
  have hlink := c_hts C (c_fk cl C.2.2.2.2.2.2.2.2.2.2 _ (List.mem_map.mpr ⟨_, q_look_mem hf, rfl⟩))
  have hb : Nat.beq mno 99 = false := by
    cases hb : Nat.beq mno 99 with
    | false => rfl
    | true => have := Nat.eq_of_beq_eq_true hb; omega
  have hlk : c_lw cl (i, mno) = .methodLink (q_cn cl) i (c_mm mno).1 := by
    unfold c_lw
    dsimp only
    rw [hb]
  rw [hlk] at hlink
  have hw : c_mws mno = .code (c_mm mno).1 (c_mm mno).2.1 (c_mm mno).2.2.1 none :: q_W := by
    unfold c_mws
    rw [s9]
  have hini := c_hts C (c_fz _ (List.mem_map.mpr ⟨cl2, List.mem_range.mpr s7, rfl⟩))
  rw [s5] at hini
  have hinst := c_hts C (c_fm _ (List.mem_map.mpr ⟨mno, List.mem_range.mpr hm, rfl⟩))
  have hpar : c_par mno = 0 := by
    unfold c_par
    split <;> first | rfl | (exfalso; omega)
  rw [hpar] at s4
  have hcw := cwI (R := R) (rm := c_rm d (E'.length - E.length) (c_sz E' - c_sz E)) (mc := E'.length - E.length) (ms := c_sz E' - c_sz E) 0 C.2.2.2.2.1 (c_good mno (by omega)) hw rfl rfl hini hlink hinst s10 ⟨s2, s3, s4⟩ ⟨hF.1, by show 8 + ((c_mm mno).2.2.1 + 11) + 64 * d ≤ R.locals; omega⟩
  have a1 := hle.1
  have a2 := hle.2
  have a3 := hle'.1
  have a4 := hle'.2
  have a5 := h1.1
  have a6 := h1.2
  have hrun := va_runI (l := l) (below := below) (e := e) (meth := meth) (locs := locs) (H := H) (cells := E.length - E0.length) (slots := c_sz E - c_sz E0) (g := F0 m pc L ((.inr (.inr (some (r0, i0))) :: r : List QV).map (q_cv g))) (b := g.2.1 r0 i0) (As := []) (rest := r.map (q_cv g)) ⟨C.1, C.2.1, C.2.2.1, C.2.2.2.1, C.2.2.2.2.1⟩ hM hcw ⟨c_blind g sz _ E, fun U hU hW => ⟨rfl, by rw [hU]; exact hsz, by rw [hU]; exact hP, c_Bd_mv hW.alike C.2.2.2.2.2.1⟩⟩ rfl rfl hl.1 rfl (lv_room (by rw [q_cat_ok]; exact hcat)) hd ⟨by omega, by omega⟩
  refine c_after hrun hS (fun H1 locs1 b1 b2 => ?_)
  exact W.cs (by omega) (by omega) (k (c_le_tr hle hle') hn H1 locs1 L b1 b2 hl)
theorem c_s_stat {i mno : Nat} {z : Int} {As rest : List QV} {E' : List QCE} (C : c_cx p s m args meth c g sz nL cl cc rv E0) (hR : E1.length - E0.length ≤ R.cells ∧ c_sz E1 - c_sz E0 ≤ R.slots) (hF : d + 1 ≤ R.frames ∧ 64 * (d + 1) ≤ R.locals) (hf : q_look c_links cl i = some mno) (hm : mno = 13 ∨ mno = 14) (hsp : q_split (c_par mno) [] st = some (As, rest)) (hcat : q_cat rest ≤ 8) (hd : decode cc pc = .ok (.invokestatic i, 3)) (hM : c_met l g sz d mno As E (some (.inr (.inl z))) E') (hle' : c_le E E') (h1 : c_le E' E1) (k : c_G p l e R s m args below meth c Qf g sz nL E0 (pc + 3) ls (.inr (.inl z) :: rest) E') : c_G p l e R s m args below meth c Qf g sz nL E0 pc ls st E := by
  intro hle hn H locs L hP hS hl
  refine c_size C.2.2.2.2.2.2.2.2.2.1 hle hP hS (fun hsz => ?_)
  have hm15 : mno < 15 := by omega
  obtain ⟨⟨-, s2, s3, s4⟩, ⟨cl2, code2, -, s5, s6, s7⟩, -, s8⟩ := c_sok_out (n := mno) hm15
  have hlink := c_fk cl C.2.2.2.2.2.2.2.2.2.2 _ (List.mem_map.mpr ⟨_, q_look_mem hf, rfl⟩)
  have hlk : c_lw cl (i, mno) = .methodLink (q_cn cl) i (c_mm mno).1 := by
    rcases hm with rfl | rfl <;> rfl
  rw [hlk] at hlink
  have hini := c_fz _ (List.mem_map.mpr ⟨cl2, List.mem_range.mpr s7, rfl⟩)
  rw [s5] at hini
  have hst : q_in (.static (c_mm mno).1) := by
    rcases hm with rfl | rfl
    · exact c_fs2 _ (by simp)
    · exact c_fs2 _ (by simp)
  obtain ⟨b, e1, e2, hbl⟩ := q_split_ok _ [] st As rest hsp
  rw [List.append_nil] at e2
  have e3 : st = As.reverse ++ rest := by rw [e1, e2, List.reverse_reverse]
  have hlenA : (As.map (q_cv g)).length = c_par mno := by rw [List.length_map, e2, List.length_reverse, hbl]
  have hG : GoodIn q_W (va_wsS (q_cn cl) i (c_mm mno).1 (c_mws mno)) := q_good_of (fun w hw => by
    rcases List.mem_append.mp hw with h1 | h1
    · rcases List.mem_cons.mp h1 with rfl | h1
      · exact hlink
      · rcases List.mem_cons.mp h1 with rfl | h1
        · exact hst
        · rcases List.mem_cons.mp h1 with rfl | h1
          · exact hini
          · cases h1
    · exact (c_good mno hm15 w h1).1)
  have hcw := va_cwS (R := R) (rm := c_rm d (E'.length - E.length) (c_sz E' - c_sz E)) (mc := E'.length - E.length) (ms := c_sz E' - c_sz E) (c_par mno) C.2.2.2.2.1 hG rfl rfl rfl ⟨s2, s3, s4⟩ ⟨hF.1, by show 8 + ((c_mm mno).2.2.1 + 11) + 64 * d ≤ R.locals; omega⟩
  have a1 := hle.1
  have a2 := hle.2
  have a3 := hle'.1
  have a4 := hle'.2
  have a5 := h1.1
  have a6 := h1.2
  have hstk : (F0 m pc L (st.map (q_cv g))).stack = (As.map (q_cv g)).reverse ++ rest.map (q_cv g) := by
    show st.map (q_cv g) = _
    rw [e3, List.map_append, List.map_reverse]
  have hrun := va_runS (l := l) (below := below) (e := e) (meth := meth) (locs := locs) (H := H) (cells := E.length - E0.length) (slots := c_sz E - c_sz E0) (g := F0 m pc L (st.map (q_cv g))) (As := As.map (q_cv g)) (rest := rest.map (q_cv g)) ⟨C.1, C.2.1, C.2.2.1, C.2.2.2.1, C.2.2.2.2.1⟩ hM hcw ⟨c_blind g sz _ E, fun U hU hW => ⟨rfl, by rw [hU]; exact hsz, by rw [hU]; exact hP, c_Bd_mv hW.alike C.2.2.2.2.2.1⟩⟩ rfl hlenA hl.1 hstk (lv_room (by rw [q_cat_ok]; exact hcat)) hd ⟨by omega, by omega⟩
  refine c_after hrun hS (fun H1 locs1 b1 b2 => ?_)
  exact W.cs (by omega) (by omega) (k (c_le_tr hle hle') hn H1 locs1 L b1 b2 hl)
set_option maxHeartbeats 4000000 in
theorem c_run_ok {calls : Nat → List QV → List QCE → QCR} {code : QC} {res : Option QV} (C : c_cx p s m args meth c g sz nL cl cc rv E0) (hck : ∀ (pc : Nat) (e : QE), pc < 400 → q_at code pc = some e → c_eok nL cc pc e = true) (hcalls : ∀ (n : Nat) (a : List QV) (E : List QCE) (r : Option QV) (E' : List QCE), n < 15 → calls n a E = some (r, E') → c_le E E' ∧ c_met l g sz d n a E r E') (hR : E1.length - E0.length ≤ R.cells ∧ c_sz E1 - c_sz E0 ≤ R.slots) (hF : d + 1 ≤ R.frames ∧ 64 * (d + 1) ≤ R.locals)
    (HR : ∀ (pc : Nat) (H : Heap) (locs : List Loc) (L : Array Slot), c_PH g sz E1 H → va_S g.2.2.1 s.heap H locs → (rv = false → res = none → decode cc pc = .ok (.return_, 1) → W p l e R s m args below meth c H locs (E1.length - E0.length) (c_sz E1 - c_sz E0) Qf (F0 m pc L [])) ∧ ∀ z, rv = true → res = some (.inr (.inl z)) → decode cc pc = .ok (.lreturn, 1) → W p l e R s m args below meth c H locs (E1.length - E0.length) (c_sz E1 - c_sz E0) Qf (F0 m pc L [.long (Int64.ofInt z)])) :
    ∀ (f pc : Nat) (ls : QL) (st : List QV) (E : List QCE), c_run calls cl rv code f pc ls st E = some (res, E1) → c_le E E1 ∧ c_G p l e R s m args below meth c Qf g sz nL E0 pc ls st E := by
  have hR1 : 1 ≤ R.frames ∧ 64 ≤ R.locals := by omega
  have hga := C.2.2.2.2.2.2.2.1
  intro f
  induction f with
  | zero => intro pc ls st E hc; cases hc
  | succ f ih =>
    intro pc ls st E hc
    rw [c_run] at hc
    obtain ⟨hpc, hc⟩ := c_go_out hc
    have hpc : pc < 400 := Nat.le_of_ble_eq_true hpc
    cases hat : q_at code pc with
    | none => rw [hat] at hc; cases hc
    | some x =>
      obtain ⟨ins, nx, tg⟩ := x
      rw [hat] at hc
      have hk := hck pc _ hpc hat
      unfold c_eok at hk
      obtain ⟨hd, hx⟩ := q_and2 hk
      have hd0 := of_decide_eq_true hd
      clear hd hk
      dsimp only at hd0 hx hc
      cases ins with
      | aload_n k =>
        dsimp only at hc
        obtain ⟨rfl, hd⟩ := q_len1 (k := 1) hd0 hx
        obtain ⟨r0, i0, hz, hc⟩ := c_ldA_out hc
        obtain ⟨i1, i2⟩ := ih _ _ _ _ hc
        exact ⟨i1, fun hle hn H locs L hP hS hl => lv_aload_n C.1 C.2.1 hd rfl (q_lc_get hl hz) (i2 hle hn H locs L hP hS hl)⟩
      | iload_n k =>
        dsimp only at hc
        obtain ⟨rfl, hd⟩ := q_len1 (k := 1) hd0 hx
        obtain ⟨z, hz, hc⟩ := c_ldI_out hc
        obtain ⟨i1, i2⟩ := ih _ _ _ _ hc
        exact ⟨i1, fun hle hn H locs L hP hS hl => lv_iload_n C.1 C.2.1 hd rfl (q_lc_get hl hz) (i2 hle hn H locs L hP hS hl)⟩
      | iload k =>
        dsimp only at hc
        obtain ⟨rfl, hd⟩ := q_len1 (k := 2) hd0 hx
        obtain ⟨z, hz, hc⟩ := c_ldI_out hc
        obtain ⟨i1, i2⟩ := ih _ _ _ _ hc
        exact ⟨i1, fun hle hn H locs L hP hS hl => lv_iload C.1 C.2.1 hd (q_lc_get hl hz) (i2 hle hn H locs L hP hS hl)⟩
      | lload_n k =>
        dsimp only at hc
        obtain ⟨rfl, hd⟩ := q_len1 (k := 1) hd0 hx
        obtain ⟨z, hz, hc⟩ := c_ldL_out hc
        obtain ⟨i1, i2⟩ := ih _ _ _ _ hc
        exact ⟨i1, fun hle hn H locs L hP hS hl => lv_lload_n C.1 C.2.1 hd rfl (q_lc_get hl hz) (i2 hle hn H locs L hP hS hl)⟩
      | istore_n k =>
        dsimp only at hc
        obtain ⟨hk1, hx⟩ := q_and2 hx
        have hk1 : k.val < nL := Nat.le_of_ble_eq_true hk1
        obtain ⟨rfl, hd⟩ := q_len1 (k := 1) hd0 hx
        obtain ⟨z, r, rfl, hc⟩ := c_i1_out hc
        obtain ⟨i1, i2⟩ := ih _ _ _ _ hc
        exact ⟨i1, fun hle hn H locs L hP hS hl => lv_istore_n C.1 C.2.1 hd rfl hl hk1 rfl (fun L' hl' => i2 hle ((q_set_len _ _ _).trans ((q_clr_len _ _).trans hn)) H locs L' hP hS (q_lc_sub hl' (q_st1_mem (by omega))))⟩
      | iconst z =>
        dsimp only at hc
        obtain ⟨-, hx⟩ := q_and2 hx
        obtain ⟨rfl, hd⟩ := q_len1 (k := 1) hd0 hx
        obtain ⟨i1, i2⟩ := ih _ _ _ _ hc
        exact ⟨i1, fun hle hn H locs L hP hS hl => lv_iconst C.1 C.2.1 hd rfl (i2 hle hn H locs L hP hS hl)⟩
      | bipush z =>
        dsimp only at hc
        obtain ⟨hz, hx⟩ := q_and2 hx
        have hz := of_decide_eq_true hz
        obtain ⟨rfl, hd⟩ := q_len1 (k := 2) hd0 hx
        obtain ⟨i1, i2⟩ := ih _ _ _ _ hc
        refine ⟨i1, fun hle hn H locs L hP hS hl => lv_bipush C.1 C.2.1 hd ?_ (i2 hle hn H locs L hP hS hl)⟩
        apply Int32.toInt_inj.1
        rw [Int8.toInt_toInt32, Int8.toInt_ofInt_of_le (by omega) (by omega), q_n32 (by unfold q_i32; omega)]
      | sipush z =>
        dsimp only at hc
        obtain ⟨hz, hx⟩ := q_and2 hx
        have hz := of_decide_eq_true hz
        obtain ⟨rfl, hd⟩ := q_len1 (k := 3) hd0 hx
        obtain ⟨i1, i2⟩ := ih _ _ _ _ hc
        refine ⟨i1, fun hle hn H locs L hP hS hl => lv_sipush C.1 C.2.1 hd ?_ (i2 hle hn H locs L hP hS hl)⟩
        apply Int32.toInt_inj.1
        rw [Int16.toInt_toInt32, Int16.toInt_ofInt_of_le (by omega) (by omega), q_n32 (by unfold q_i32; omega)]
      | ldc2_w i =>
        dsimp only at hc
        obtain ⟨rfl, hd⟩ := q_len1 (k := 3) hd0 hx
        obtain ⟨z, hz, hc⟩ := c_som_out hc
        obtain ⟨i1, i2⟩ := ih _ _ _ _ hc
        exact ⟨i1, fun hle hn H locs L hP hS hl => lv_ldc2 C.1 C.2.1 C.2.2.2.1 (c_hts C (q_f2 cl _ (q_look_mem hz))) hd (i2 hle hn H locs L hP hS hl)⟩
      | dup =>
        dsimp only at hc
        obtain ⟨rfl, hd⟩ := q_len1 (k := 1) hd0 hx
        obtain ⟨r0, i0, r, rfl, hc⟩ := c_r1_out hc
        obtain ⟨i1, i2⟩ := ih _ _ _ _ hc
        exact ⟨i1, fun hle hn H locs L hP hS hl => lv_dup C.1 C.2.1 hd rfl (i2 hle hn H locs L hP hS hl)⟩
      | iinc k z =>
        dsimp only at hc
        obtain ⟨hk1, hx⟩ := q_and2 hx
        have hk1 : k < nL := Nat.le_of_ble_eq_true hk1
        obtain ⟨rfl, hd⟩ := q_len1 (k := 3) hd0 hx
        obtain ⟨y, hy, hc⟩ := c_ldI_out hc
        obtain ⟨i1, i2⟩ := ih _ _ _ _ hc
        refine ⟨i1, fun hle hn H locs L hP hS hl => ?_⟩
        obtain ⟨n, hn2⟩ := q_get_lc (g := g) hy
        exact lv_iinc (v := Int32.ofInt (y + z)) C.1 C.2.1 hd hl hn2 (by rw [Int32.ofInt_add]) hk1 rfl (fun L' hl' => i2 hle ((q_set_len _ _ _).trans ((q_clr_len _ _).trans hn)) H locs L' hP hS (q_lc_sub hl' (q_st1_mem (v := .inl (y + z)) (by omega))))
      | iadd =>
        dsimp only at hc
        obtain ⟨rfl, hd⟩ := q_len1 (k := 1) hd0 hx
        obtain ⟨x, y, r, rfl, hc⟩ := c_i2_out hc
        obtain ⟨i1, i2⟩ := ih _ _ _ _ hc
        refine ⟨i1, fun hle hn H locs L hP hS hl => lv_iadd C.1 C.2.1 hd ?_⟩
        rw [← Int32.ofInt_add]
        exact i2 hle hn H locs L hP hS hl
      | isub =>
        dsimp only at hc
        obtain ⟨rfl, hd⟩ := q_len1 (k := 1) hd0 hx
        obtain ⟨x, y, r, rfl, hc⟩ := c_i2_out hc
        obtain ⟨i1, i2⟩ := ih _ _ _ _ hc
        refine ⟨i1, fun hle hn H locs L hP hS hl => lv_isub C.1 C.2.1 hd ?_⟩
        rw [← Int32.ofInt_sub]
        exact i2 hle hn H locs L hP hS hl
      | i2l =>
        dsimp only at hc
        obtain ⟨rfl, hd⟩ := q_len1 (k := 1) hd0 hx
        obtain ⟨x, r, rfl, hc⟩ := c_i1_out hc
        obtain ⟨hb, hc⟩ := c_go_out hc
        obtain ⟨i1, i2⟩ := ih _ _ _ _ hc
        exact ⟨i1, fun hle hn H locs L hP hS hl => lv_i2l C.1 C.2.1 hd (q_i2l (c_b32_out hb)) (i2 hle hn H locs L hP hS hl)⟩
      | ladd =>
        dsimp only at hc
        obtain ⟨rfl, hd⟩ := q_len1 (k := 1) hd0 hx
        obtain ⟨x, y, r, rfl, hc⟩ := c_l2_out hc
        obtain ⟨i1, i2⟩ := ih _ _ _ _ hc
        refine ⟨i1, fun hle hn H locs L hP hS hl => lv_ladd C.1 C.2.1 hd ?_⟩
        rw [← Int64.ofInt_add]
        exact i2 hle hn H locs L hP hS hl
      | lmul =>
        dsimp only at hc
        obtain ⟨rfl, hd⟩ := q_len1 (k := 1) hd0 hx
        obtain ⟨x, y, r, rfl, hc⟩ := c_l2_out hc
        obtain ⟨i1, i2⟩ := ih _ _ _ _ hc
        refine ⟨i1, fun hle hn H locs L hP hS hl => lv_lmul C.1 C.2.1 hd ?_⟩
        rw [← Int64.ofInt_mul]
        exact i2 hle hn H locs L hP hS hl
      | lconst z =>
        dsimp only at hc
        obtain ⟨rfl, hd⟩ := q_len1 (k := 1) hd0 hx
        obtain ⟨i1, i2⟩ := ih _ _ _ _ hc
        exact ⟨i1, fun hle hn H locs L hP hS hl => lv_lconst C.1 C.2.1 hd Int64.ofInt_eq_ofNat.symm (i2 hle hn H locs L hP hS hl)⟩
      | goto o =>
        dsimp only at hc
        obtain ⟨hk1, hx⟩ := q_and2 hx
        obtain ⟨rfl, hd⟩ := q_len1 (k := 3) hd0 hx
        obtain ⟨t, ht, hc⟩ := c_t1_out hk1 hc
        obtain ⟨i1, i2⟩ := ih _ _ _ _ hc
        exact ⟨i1, fun hle hn H locs L hP hS hl => lv_goto C.1 C.2.1 hd ht (i2 hle hn H locs L hP hS hl)⟩
      | if_icmp cd o =>
        cases cd with
        | ge =>
          dsimp only at hc
          obtain ⟨hk1, hx⟩ := q_and2 hx
          obtain ⟨rfl, hd⟩ := q_len1 (k := 3) hd0 hx
          obtain ⟨x, y, r, rfl, hc⟩ := c_i2_out hc
          obtain ⟨hb, hc⟩ := c_go_out hc
          obtain ⟨hb1, hb2⟩ := q_and2 hb
          have hb1 := c_b32_out hb1
          have hb2 := c_b32_out hb2
          obtain ⟨t, ht, hc⟩ := c_t1_out hk1 hc
          by_cases hxy : y ≤ x
          · rw [if_pos hxy] at hc
            obtain ⟨i1, i2⟩ := ih _ _ _ _ hc
            exact ⟨i1, fun hle hn H locs L hP hS hl => lv_icmp_ge C.1 C.2.1 hd ht (fun _ => i2 hle hn H locs L hP hS hl) (fun q => absurd ((q_nle hb2 hb1).mpr hxy) q)⟩
          · rw [if_neg hxy] at hc
            obtain ⟨i1, i2⟩ := ih _ _ _ _ hc
            exact ⟨i1, fun hle hn H locs L hP hS hl => lv_icmp_ge C.1 C.2.1 hd ht (fun q => absurd ((q_nle hb2 hb1).mp q) hxy) (fun _ => i2 hle hn H locs L hP hS hl)⟩
        | _ => cases hc
      | ifCond cd o =>
        cases cd with
        | ne =>
          dsimp only at hc
          obtain ⟨hk1, hx⟩ := q_and2 hx
          obtain ⟨rfl, hd⟩ := q_len1 (k := 3) hd0 hx
          obtain ⟨x, r, rfl, hc⟩ := c_i1_out hc
          obtain ⟨hb, hc⟩ := c_go_out hc
          have hb1 := c_b32_out hb
          obtain ⟨t, ht, hc⟩ := c_t1_out hk1 hc
          by_cases hxy : x = 0
          · rw [if_pos hxy] at hc
            obtain ⟨i1, i2⟩ := ih _ _ _ _ hc
            exact ⟨i1, fun hle hn H locs L hP hS hl => lv_if_ne C.1 C.2.1 hd ht (fun q => absurd ((q_neq hb1 q_i0).mpr hxy) q) (fun _ => i2 hle hn H locs L hP hS hl)⟩
          · rw [if_neg hxy] at hc
            obtain ⟨i1, i2⟩ := ih _ _ _ _ hc
            exact ⟨i1, fun hle hn H locs L hP hS hl => lv_if_ne C.1 C.2.1 hd ht (fun _ => i2 hle hn H locs L hP hS hl) (fun q => absurd ((q_neq hb1 q_i0).mp q) hxy)⟩
        | _ => cases hc
      | new i =>
        dsimp only at hc
        obtain ⟨rfl, hd⟩ := q_len1 (k := 3) hd0 hx
        obtain ⟨ci, hci, hc⟩ := c_som_out hc
        obtain ⟨i1, i2⟩ := ih _ _ _ _ hc
        exact ⟨c_le_tr (c_le_app _ _) i1, c_s_new C hR hci hd i1 i2⟩
      | newarray t =>
        dsimp only at hc
        obtain ⟨rfl, hd⟩ := q_len1 (k := 2) hd0 hx
        obtain ⟨n, r, rfl, hc⟩ := c_i1_out hc
        obtain ⟨hb, hc⟩ := c_go_out hc
        obtain ⟨hb1, hb2⟩ := q_and2 hb
        obtain ⟨i1, i2⟩ := ih _ _ _ _ hc
        exact ⟨c_le_tr (c_le_app _ _) i1, c_s_newa C hR (c_bn_out hb1) (Nat.le_of_ble_eq_true hb2) hd i1 i2⟩
      | anewarray i =>
        dsimp only at hc
        obtain ⟨rfl, hd⟩ := q_len1 (k := 3) hd0 hx
        obtain ⟨n, r, rfl, hc⟩ := c_i1_out hc
        obtain ⟨hb, hc⟩ := c_go_out hc
        obtain ⟨k0, hk0, hc⟩ := c_som_out hc
        obtain ⟨i1, i2⟩ := ih _ _ _ _ hc
        exact ⟨c_le_tr (c_le_app _ _) i1, c_s_anew C hR (c_bn_out hb) hk0 hd i1 i2⟩
      | multianewarray i dm =>
        dsimp only at hc
        obtain ⟨rfl, hd⟩ := q_len1 (k := 4) hd0 hx
        obtain ⟨n, k0, r, rfl, hc2⟩ := c_i2_out hc
        obtain ⟨hb, hc3⟩ := c_go_out hc2
        obtain ⟨hb1, hb2⟩ := q_and2 hb
        obtain ⟨hb3, hb4⟩ := q_and2 hb1
        obtain ⟨hb5, hb6⟩ := q_and2 hb4
        obtain ⟨hb7, hb8⟩ := q_and2 hb2
        have e1 := Nat.eq_of_beq_eq_true hb3
        have e2 := Nat.eq_of_beq_eq_true hb5
        have e3 := Nat.eq_of_beq_eq_true hb6
        subst e1; subst e2; subst e3
        obtain ⟨i1, i2⟩ := ih _ _ _ _ hc3
        exact ⟨c_le_tr (c_le_app _ _) i1, c_s_multi C hR (c_bn_out hb7) (c_bn_out hb8) hd i1 i2⟩
      | putfield i =>
        dsimp only at hc
        obtain ⟨rfl, hd⟩ := q_len1 (k := 3) hd0 hx
        obtain ⟨v, r0, i0, r, rfl, hc⟩ := c_vr_out hc
        obtain ⟨ci, k0, hf, hc⟩ := c_fld_out hc
        obtain ⟨cj, fs, hq, hc⟩ := c_obj_out hc
        obtain ⟨hb, hc3⟩ := c_go_out hc
        obtain ⟨hb, hrv⟩ := q_and2 hb
        obtain ⟨hb, hpk⟩ := q_and2 hb
        obtain ⟨hb, hlt⟩ := q_and2 hb
        obtain ⟨hb1, hb2⟩ := q_and2 hb
        have e1 := Nat.eq_of_beq_eq_true hb1
        have e2 := Nat.eq_of_beq_eq_true hb2
        subst e1; subst e2
        have hrv : rv = false := by simpa using hrv
        obtain ⟨i1, i2⟩ := ih _ _ _ _ hc3
        exact ⟨c_le_set (e' := .inr (cj, c_vset fs k0 v)) hq rfl i1, c_s_put C hrv hf hq (Nat.le_of_ble_eq_true hlt) hpk hd i2⟩
      | getfield i =>
        dsimp only at hc
        obtain ⟨rfl, hd⟩ := q_len1 (k := 3) hd0 hx
        obtain ⟨r0, i0, r, rfl, hc⟩ := c_r1_out hc
        obtain ⟨ci, k0, hf, hc⟩ := c_fld_out hc
        obtain ⟨cj, fs, hq, hc⟩ := c_obj_out hc
        obtain ⟨x, hfk, hc⟩ := c_som_out hc
        obtain ⟨hb, hc3⟩ := c_go_out hc
        have e1 := Nat.eq_of_beq_eq_true hb
        subst e1
        obtain ⟨v, hv, hc4⟩ := c_som_out hc3
        obtain ⟨i1, i2⟩ := ih _ _ _ _ hc4
        exact ⟨i1, c_s_get C hf hfk hq hv hd i2⟩
      | arraylength =>
        dsimp only at hc
        obtain ⟨rfl, hd⟩ := q_len1 (k := 1) hd0 hx
        obtain ⟨r0, i0, r, rfl, hc⟩ := c_r1_out hc
        obtain ⟨kd, n, ov, hq, hc⟩ := c_rw_out hc
        obtain ⟨hb, hc⟩ := c_go_out hc
        obtain ⟨i1, i2⟩ := ih _ _ _ _ hc
        exact ⟨i1, c_s_alen C hq (Nat.le_of_ble_eq_true hb) hd i2⟩
      | aastore =>
        dsimp only at hc
        obtain ⟨rfl, hd⟩ := q_len1 (k := 1) hd0 hx
        obtain ⟨r1, i3, j, r0, i0, r, rfl, hc⟩ := c_aa_out hc
        obtain ⟨kd, n, ov, hq, hc⟩ := c_rw_out hc
        obtain ⟨ci, vs, hq1, hc⟩ := c_obj_out hc
        obtain ⟨hb, hc⟩ := c_go_out hc
        obtain ⟨hb1, hb2⟩ := q_and2 hb
        obtain ⟨i1, i2⟩ := ih _ _ _ _ hc
        exact ⟨c_le_set (e' := .inl (kd, n, (j.toNat, i3) :: ov)) hq rfl i1, c_s_aast C hq hq1 hb2 (c_bj_out hb1) hd i2⟩
      | lastore =>
        dsimp only at hc
        obtain ⟨rfl, hd⟩ := q_len1 (k := 1) hd0 hx
        obtain ⟨v, j, r0, i0, r, rfl, hc⟩ := c_la_out hc
        obtain ⟨kd, n, ov, hq, hc⟩ := c_rw_out hc
        obtain ⟨hb, hc3⟩ := c_go_out hc
        obtain ⟨hb1, hb2⟩ := q_and2 hb
        have e1 := Nat.eq_of_beq_eq_true hb2
        subst e1
        obtain ⟨i1, i2⟩ := ih _ _ _ _ hc3
        exact ⟨c_le_set (e' := .inl (2, n, (j.toNat, v) :: ov)) hq rfl i1, c_s_last C hq (c_bj_out hb1) hd i2⟩
      | invokespecial i =>
        dsimp only at hc
        obtain ⟨rfl, hd⟩ := q_len1 (k := 3) hd0 hx
        obtain ⟨r0, i0, r, rfl, hc⟩ := c_r1_out hc
        obtain ⟨hcat, hc⟩ := c_go_out hc
        obtain ⟨mno, hf, hc⟩ := c_som_out hc
        cases hb : Nat.beq mno 99 with
        | true =>
          rw [hb] at hc
          have e1 := Nat.eq_of_beq_eq_true hb
          subst e1
          obtain ⟨i1, i2⟩ := ih _ _ _ _ hc
          exact ⟨i1, c_s_obj C hR1 hf (Nat.le_of_ble_eq_true hcat) hd i2⟩
        | false =>
          rw [hb] at hc
          dsimp only at hc
          obtain ⟨hm, hc⟩ := c_go_out hc
          have hm : mno < 13 := Nat.le_of_ble_eq_true hm
          obtain ⟨E', hcall, hc⟩ := c_void_out hc
          obtain ⟨j1, j2⟩ := hcalls _ _ _ _ _ (by omega) hcall
          obtain ⟨i1, i2⟩ := ih _ _ _ _ hc
          exact ⟨c_le_tr j1 i1, c_s_init C hR hF hf hm (Nat.le_of_ble_eq_true hcat) hd j2 j1 i1 i2⟩
      | invokestatic i =>
        dsimp only at hc
        obtain ⟨rfl, hd⟩ := q_len1 (k := 3) hd0 hx
        obtain ⟨mno, hf, hc⟩ := c_som_out hc
        obtain ⟨hb, hc⟩ := c_go_out hc
        obtain ⟨hb1, -⟩ := q_and2 hb
        have hm : mno = 13 ∨ mno = 14 := by
          rw [Bool.or_eq_true] at hb1
          exact hb1.imp Nat.eq_of_beq_eq_true Nat.eq_of_beq_eq_true
        cases hsp : q_split (c_par mno) [] st with
        | none => rw [hsp] at hc; cases hc
        | some x =>
          obtain ⟨As, rest⟩ := x
          rw [hsp] at hc
          dsimp only at hc
          obtain ⟨hcat, hc⟩ := c_go_out hc
          obtain ⟨z, E', hcall, hc⟩ := c_long_out hc
          obtain ⟨j1, j2⟩ := hcalls _ _ _ _ _ (by omega) hcall
          obtain ⟨i1, i2⟩ := ih _ _ _ _ hc
          exact ⟨c_le_tr j1 i1, c_s_stat C hR hF hf hm hsp (Nat.le_of_ble_eq_true hcat) hd j2 j1 i1 i2⟩
      | return_ =>
        dsimp only at hc
        obtain ⟨rfl, hd⟩ := q_len1 (k := 1) hd0 hx
        obtain ⟨e1, rfl, e2, e3⟩ := c_nil_out hc
        subst e3
        exact ⟨c_le_rf _, fun hle hn H locs L hP hS hl => (HR pc H locs L hP hS).1 e1 e2 hd⟩
      | lreturn =>
        dsimp only at hc
        obtain ⟨rfl, hd⟩ := q_len1 (k := 1) hd0 hx
        obtain ⟨z, e1, rfl, e2, e3⟩ := c_one_out hc
        subst e3
        exact ⟨c_le_rf _, fun hle hn H locs L hP hS hl => (HR pc H locs L hP hS).2 z e1 e2 hd⟩
      | _ => cases hc
end CSound3
