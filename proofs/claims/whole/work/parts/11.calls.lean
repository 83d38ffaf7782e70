/-! methods by contract, calls, ends: the step machine walks with the machine -/
def q_rm (d : Nat) : Room := { frames := d, cells := 0, slots := 0, locals := 64 * d }
def q_mws (n : Nat) : List Jvm.Cond := .code (q_m n).1 (q_m n).2.1 (q_m n).2.2.1 (q_m n).2.2.2.1 :: q_W
def q_mrk (n : Nat) : Nat := match (q_m n).2.2.2.1 with
  | none => 0
  | some .long => 2
  | some (.object _) => 11
  | some _ => 1
def q_ork (n : Nat) : Nat := match (q_m n).2.2.2.1 with
  | none => 0
  | some .long => 2
  | some (.object _) => 11
  | some .boolean => 100
  | some .int => 1
  | some _ => 99
def q_wr (rk : Nat) (z : Int) : Prop := match rk with
  | 0 => True
  | 1 => q_i32 z
  | 2 => q_i64 z
  | r + 3 => z < q_cnt r
def q_rt (g : QG) (rk : Nat) (z : Int) : Option Value := match rk with
  | 0 => none
  | 1 => some (.int (Int32.ofInt z))
  | 2 => some (.long (Int64.ofInt z))
  | r + 3 => some (if z < 0 then .null else .ref (g.2.1 r z))
def q_Bd (g : QG) (args : List QV) (h : QM) (U : State) : Prop := (∀ v ∈ args, q_wv v) ∧ q_wm h ∧ va_P g.1 vwCl (q_ws g h) U.heap ∧ va_D g.2.2.1 (q_ws g h) ∧ va_K g.1 vwCl (q_tys g) U ∧ q_sok g U U.heap
def q_Pc (g : QG) (args : List QV) (h : QM) : Array Value → State → Prop := va_Pc (args.map (q_cv g)) (q_Bd g args h)
def q_Qc (g : QG) (rk : Nat) (Q : Int → QM → Prop) : Array Value → State → Outcome → State → Prop := fun _ st oc t =>
  (∃ (z : Int) (h' : QM), oc = .returned (q_rt g rk z) ∧ q_wr rk z ∧ q_wm h' ∧ va_P g.1 vwCl (q_ws g h') t.heap ∧ va_D g.2.2.1 (q_ws g h') ∧ Q z h') ∧ va_F g.2.2.1 st t
/-- the contract of a method: from a, h it comes to an end with Q; d frames are room enough -/
def q_tr (l : Launch) (g : QG) (d : Nat) : QT := fun n a h Q => Met l (q_m n).1 (q_mws n) (q_rm d) (q_Pc g a h) (q_Qc g (q_mrk n) Q) 0 0 g.2.2.1
theorem q_tr_m (l : Launch) (g : QG) (d : Nat) : q_tm (q_tr l g d) := by
  intro n a h Q Q' hQ hM p e ha hc hk s mm args below hf happ hP hK
  obtain ⟨k, o, h1, h2, h3, ⟨⟨z, h', q1, q2, q3, q4, q5, q6⟩, hF⟩, hL⟩ := hM p e ha hc hk s mm args below hf happ hP hK
  exact ⟨k, o, h1, h2, h3, ⟨⟨z, h', q1, q2, q3, q4, q5, hQ z h' q6⟩, hF⟩, hL⟩
theorem q_sok_same {g : QG} {u U : State} {H : Heap} (hv : u.vm = U.vm) (a : q_sok g u H) : q_sok g U H := by
  have ha : u.vm.Alike U.vm := by rw [hv]; exact Vm.Alike.refl _
  exact ⟨fun r hr => (a.1 r hr).moved ha, fun x hx => (a.2.1 x hx).moved ha, fun q hq => va_Nw.same rfl hv (a.2.2 q hq)⟩
theorem q_sok_warm {g : QG} {s U : State} {H : Heap} (hW : s.WarmedH U.vm) (a : q_sok g s H) : q_sok g U H :=
  ⟨fun r hr => (a.1 r hr).moved hW.alike, fun x hx => (a.2.1 x hx).moved hW.alike, fun q hq => va_Nw.warmM hW (a.2.2 q hq)⟩
theorem q_sok_kept {g : QG} {U : State} {H H1 : Heap} (hq : ∀ a : Nat, a < H.size → ¬ g.2.2.1 a → H1[a]? = H[a]?) (a : q_sok g U H) : q_sok g U H1 :=
  ⟨fun r hr => (a.1 r hr).kept hq, fun x hx => (a.2.1 x hx).kept hq, a.2.2⟩
theorem q_blind (g : QG) (args : List QV) (h : QM) : FrameBlind (q_Pc g args h) := by
  intro a U f mk q
  obtain ⟨q0, q1, q2, q3, q4, q5, q6⟩ := q
  exact ⟨q0, q1, q2, q3, q4, va_K.moved (u := U) (U := U.calling f mk a) (Vm.Alike.refl U.vm) q5, q_sok_same (u := U) (U := U.calling f mk a) rfl q6⟩
/-- the calls' entries, looked through by the kernel -/
def q_cok (cl : Nat) (q : Nat × Nat × Nat × Nat × Nat × Nat) : Bool := match q with
  | (idx, kind, mno, n, rk, ci) => (match Nat.ble 3 kind with
    | true => true
    | false => Nat.blt mno q_ms.length && Nat.beq rk (q_mrk mno) && Nat.ble (q_m mno).2.2.1 40 && decide ((q_m mno).1.cls ≠ "java/lang/invoke/MethodHandle") && decide ((q_m mno).1.cls ≠ "java/lang/invoke/VarHandle")
      && (match kind with
        | 0 => !(q_m mno).2.2.2.2 && decide (q_cn ci = (q_m mno).1.cls) && Nat.blt ci 13 && Nat.ble 1 n && decide ((parseMethodDescriptor (q_m mno).1.desc).map (fun d => d.parameters.length) = some (n - 1))
        | 1 => (q_m mno).2.2.2.2 && decide ((parseMethodDescriptor (q_m mno).1.desc).map (fun d => d.parameters.length) = some n)
        | _ => (q_m mno).2.2.2.2 && decide ((parseMethodDescriptor (q_m mno).1.desc).map (fun d => d.parameters.length) = some n) && q_nest.any (fun x => Nat.beq x.1 cl && Nat.beq x.2.1 idx && Nat.beq x.2.2 mno)))
theorem q_cok_all : ∀ c, c < 15 → ((q_get q_cts c).getD []).all (q_cok c) = true := by decide +kernel
theorem q_cok0 {cl i mno n rk ci : Nat} (h : q_cok cl (i, 0, mno, n, rk, ci) = true) : (Nat.blt mno q_ms.length = true ∧ Nat.beq rk (q_mrk mno) = true ∧ Nat.ble (q_m mno).2.2.1 40 = true ∧ (q_m mno).1.cls ≠ "java/lang/invoke/MethodHandle" ∧ (q_m mno).1.cls ≠ "java/lang/invoke/VarHandle") ∧
    (q_m mno).2.2.2.2 = false ∧ q_cn ci = (q_m mno).1.cls ∧ Nat.blt ci 13 = true ∧ Nat.ble 1 n = true ∧ (parseMethodDescriptor (q_m mno).1.desc).map (fun d => d.parameters.length) = some (n - 1) := by
  have h : (Nat.blt mno q_ms.length && Nat.beq rk (q_mrk mno) && Nat.ble (q_m mno).2.2.1 40 && decide ((q_m mno).1.cls ≠ "java/lang/invoke/MethodHandle") && decide ((q_m mno).1.cls ≠ "java/lang/invoke/VarHandle")
      && (!(q_m mno).2.2.2.2 && decide (q_cn ci = (q_m mno).1.cls) && Nat.blt ci 13 && Nat.ble 1 n && decide ((parseMethodDescriptor (q_m mno).1.desc).map (fun d => d.parameters.length) = some (n - 1)))) = true := h
  rw [Bool.and_eq_true, Bool.and_eq_true, Bool.and_eq_true, Bool.and_eq_true, Bool.and_eq_true, Bool.and_eq_true, Bool.and_eq_true, Bool.and_eq_true, Bool.and_eq_true] at h
  obtain ⟨⟨⟨⟨⟨k1, k2⟩, k3⟩, k4⟩, k5⟩, ⟨⟨⟨k6, k7⟩, k8⟩, k9⟩, k10⟩ := h
  exact ⟨⟨k1, k2, k3, of_decide_eq_true k4, of_decide_eq_true k5⟩, by simpa using k6, of_decide_eq_true k7, k8, k9, of_decide_eq_true k10⟩
theorem q_cok12 {cl i kind mno n rk ci : Nat} (hk : kind = 1 ∨ kind = 2) (h : q_cok cl (i, kind, mno, n, rk, ci) = true) : (Nat.blt mno q_ms.length = true ∧ Nat.beq rk (q_mrk mno) = true ∧ Nat.ble (q_m mno).2.2.1 40 = true ∧ (q_m mno).1.cls ≠ "java/lang/invoke/MethodHandle" ∧ (q_m mno).1.cls ≠ "java/lang/invoke/VarHandle") ∧
    ((q_m mno).2.2.2.2 = true ∧ (parseMethodDescriptor (q_m mno).1.desc).map (fun d => d.parameters.length) = some n) ∧ (kind = 2 → q_nest.any (fun x => Nat.beq x.1 cl && Nat.beq x.2.1 i && Nat.beq x.2.2 mno) = true) := by
  rcases hk with rfl | rfl
  · have h : (Nat.blt mno q_ms.length && Nat.beq rk (q_mrk mno) && Nat.ble (q_m mno).2.2.1 40 && decide ((q_m mno).1.cls ≠ "java/lang/invoke/MethodHandle") && decide ((q_m mno).1.cls ≠ "java/lang/invoke/VarHandle")
      && ((q_m mno).2.2.2.2 && decide ((parseMethodDescriptor (q_m mno).1.desc).map (fun d => d.parameters.length) = some n))) = true := h
    rw [Bool.and_eq_true, Bool.and_eq_true, Bool.and_eq_true, Bool.and_eq_true, Bool.and_eq_true, Bool.and_eq_true] at h
    obtain ⟨⟨⟨⟨⟨k1, k2⟩, k3⟩, k4⟩, k5⟩, k6, k7⟩ := h
    exact ⟨⟨k1, k2, k3, of_decide_eq_true k4, of_decide_eq_true k5⟩, ⟨k6, of_decide_eq_true k7⟩, fun q => absurd q (by decide)⟩
  · have h : (Nat.blt mno q_ms.length && Nat.beq rk (q_mrk mno) && Nat.ble (q_m mno).2.2.1 40 && decide ((q_m mno).1.cls ≠ "java/lang/invoke/MethodHandle") && decide ((q_m mno).1.cls ≠ "java/lang/invoke/VarHandle")
      && ((q_m mno).2.2.2.2 && decide ((parseMethodDescriptor (q_m mno).1.desc).map (fun d => d.parameters.length) = some n) && q_nest.any (fun x => Nat.beq x.1 cl && Nat.beq x.2.1 i && Nat.beq x.2.2 mno))) = true := h
    rw [Bool.and_eq_true, Bool.and_eq_true, Bool.and_eq_true, Bool.and_eq_true, Bool.and_eq_true, Bool.and_eq_true, Bool.and_eq_true] at h
    obtain ⟨⟨⟨⟨⟨k1, k2⟩, k3⟩, k4⟩, k5⟩, ⟨k6, k7⟩, k8⟩ := h
    exact ⟨⟨k1, k2, k3, of_decide_eq_true k4, of_decide_eq_true k5⟩, ⟨k6, of_decide_eq_true k7⟩, fun _ => k8⟩
theorem q_split_ok : ∀ (n : Nat) (acc st a rest : List QV), q_split n acc st = some (a, rest) → ∃ b, st = b ++ rest ∧ a = b.reverse ++ acc ∧ b.length = n
  | 0, acc, st, a, rest, h => by
    cases h
    exact ⟨[], rfl, rfl, rfl⟩
  | n + 1, acc, v :: st, a, rest, h => by
    obtain ⟨b, h1, h2, h3⟩ := q_split_ok n (v :: acc) st a rest h
    refine ⟨v :: b, by rw [h1]; rfl, ?_, by rw [List.length_cons, h3]⟩
    rw [h2, List.reverse_cons, List.append_assoc]
    rfl
  | n + 1, acc, [], a, rest, h => by cases h
theorem q_cat_ok (g : QG) : ∀ st : List QV, ((st.map (q_cv g)).map fun v => v.category).sum = q_cat st
  | [] => rfl
  | v :: st => by
    show (q_cv g v).category + ((st.map (q_cv g)).map fun v => v.category).sum = (match q_isL v with | true => 2 | false => 1) + q_cat st
    rw [q_cat_ok g st]
    cases hv : q_isL v with
    | false => rw [q_cat1 hv]
    | true =>
      rcases v with z | z | z
      · cases hv
      · rfl
      · cases hv
theorem q_mem_ms {n : Nat} (h : n < q_ms.length) : q_m n ∈ q_ms := by
  unfold q_m
  rw [List.getD_eq_getElem?_getD, List.getElem?_eq_getElem h]
  exact List.getElem_mem h
theorem q_good_of {ws : List Jvm.Cond} (h : ∀ w ∈ ws, q_in w) : GoodIn q_W ws := fun w hw => q_goodW w (h w hw)
section QSound3
variable {p : Program} {l : Launch} {e : Env} {R : Room} {s : State} {m : MethodId} {args : Array Value} {below : List Frame} {meth : Method} {c : Code} {cells slots : Nat} {Qf : State → Prop} {g : QG} {nL cl d : Nat} {cc : ByteArray} {pc : Nat} {ls : QL} {h : QM}
theorem q_after {rk : Nat} {Q : Int → QM → Prop} {a : Array Value} {H : Heap} {locs : List Loc} {L : Array Slot} {st0 rest : List Value} (hr : va_Run p l e R s m args below meth c H locs cells slots 0 0 (F0 m pc L st0) rest (q_Qc g rk Q a) g.2.2.1) (hS : va_S g.2.2.1 s.heap H locs)
    (kk : ∀ (z : Int) (h' : QM) (H1 : Heap) (locs1 : List Loc), q_wr rk z → q_wm h' → va_P g.1 vwCl (q_ws g h') H1 → va_D g.2.2.1 (q_ws g h') → Q z h' → va_S g.2.2.1 s.heap H1 locs1 → W p l e R s m args below meth c H1 locs1 cells slots Qf (F0 m (pc + 3) L ((q_rt g rk z).toList ++ rest))) : W p l e R s m args below meth c H locs cells slots Qf (F0 m pc L st0) := by
  intro T hT X
  obtain ⟨v, st₀, t, T', LL, h0, X', hL, e1, e2, ⟨⟨z, h', hv, q2, q3, q4, q5, q6⟩, hz, hk⟩, st⟩ := hr T hT X
  cases hv
  rw [h0] at hz hk
  obtain ⟨t2, a1, b1⟩ := kk z h' T'.heap (locs ++ LL) q2 q3 (by rw [e1]; exact q4) q5 q6
    ⟨Nat.le_trans hS.1 (by rw [e1]; exact hz), fun q h1 h2 => by rw [e1, hk q (Nat.lt_of_lt_of_le h1 hS.1) h2]; exact hS.2.1 q h1 h2, fun q hq => by
      rcases List.mem_append.mp hq with h | h
      · exact hS.2.2 q h
      · exact hL q h⟩ T' rfl X'
  exact ⟨t2, st t2 a1, b1⟩
theorem q_pushed {rk : Nat} {z : Int} {rest : List QV} {h' : QM} (hw : q_wl ls) (hn : ls.length = nL) (hs : ∀ v ∈ rest, q_wv v) (hz : q_wr rk z) (hm : q_wm h') (a : q_push rk z rest (fun st' => q_G p l e R s m args below meth c cells slots Qf g nL pc ls st' h')) {H : Heap} {locs : List Loc} {L : Array Slot} (hP : va_P g.1 vwCl (q_ws g h') H) (hD : va_D g.2.2.1 (q_ws g h')) (hS : va_S g.2.2.1 s.heap H locs) (hl : lv_has L nL (q_lc g 0 ls)) :
    W p l e R s m args below meth c H locs cells slots Qf (F0 m pc L ((q_rt g rk z).toList ++ rest.map (q_cv g))) := by
  unfold q_push at a
  split at a
  · exact a hn hw hs hm H locs L hP hD hS hl
  · exact a hn hw (List.forall_mem_cons.mpr ⟨hz, hs⟩) hm H locs L hP hD hS hl
  · exact a hn hw (List.forall_mem_cons.mpr ⟨hz, hs⟩) hm H locs L hP hD hS hl
  · rename_i r
    show W _ _ _ _ _ _ _ _ _ _ _ _ _ _ _ (F0 m pc L ((if z < 0 then Value.null else .ref (g.2.1 r z)) :: rest.map (q_cv g)))
    by_cases q : z < 0
    · rw [if_pos q]
      exact a.1 q hn hw (List.forall_mem_cons.mpr ⟨trivial, hs⟩) hm H locs L hP hD hS hl
    · rw [if_neg q]
      exact a.2 q hn hw (List.forall_mem_cons.mpr ⟨Or.inl ⟨by omega, hz⟩, hs⟩) hm H locs L hP hD hS hl
theorem q_bd_call {st As rest : List QV} {H : Heap} {locs : List Loc} (C : q_cx p R s m args c cells slots g nL cl cc) (hs : ∀ v ∈ st, q_wv v) (hst : ∃ b, st = b ++ rest ∧ As = b.reverse ++ []) (hm : q_wm h) (hP : va_P g.1 vwCl (q_ws g h) H) (hD : va_D g.2.2.1 (q_ws g h)) (hS : va_S g.2.2.1 s.heap H locs) : (∀ v ∈ rest, q_wv v) ∧ ∀ U : State, U.heap = H → s.WarmedH U.vm → q_Bd g As h U := by
  obtain ⟨b, h1, h2⟩ := hst
  subst h1
  rw [List.append_nil] at h2
  refine ⟨fun v hv => hs v (List.mem_append_right _ hv), fun U hU hW => ⟨fun v hv => hs v (List.mem_append_left _ (by rw [h2] at hv; exact List.mem_reverse.mp hv)), hm, by rw [hU]; exact hP, hD, va_K.moved hW.alike C.2.2.2.2.2.1, ?_⟩⟩
  rw [hU]
  exact q_sok_kept (fun a h1 h2 => hS.2.1 a h1 h2) (q_sok_warm hW C.2.2.2.2.2.2.1)
set_option maxRecDepth 20000 in
theorem q_s_callV {i kind mno n rk ci : Nat} {r0 : Nat} {i0 : Int} {As rest st : List QV} (C : q_cx p R s m args c cells slots g nL cl cc) (hdp : d + 1 ≤ R.frames ∧ 64 * (d + 1) ≤ R.locals) (hk0 : kind = 0) (hc : q_look q_cts cl i = some (kind, mno, n, rk, ci)) (hsp : q_split n [] st = some (.inr (.inr (some (r0, i0))) :: As, rest)) (hr0 : r0 = ci) (hcat : q_cat rest ≤ 8) (hd : decode cc pc = .ok (.invokevirtual i, 3))
    (a : q_tr l g d mno (.inr (.inr (some (r0, i0))) :: As) h (fun z h' => q_push rk z rest (fun st' => q_G p l e R s m args below meth c cells slots Qf g nL (pc + 3) ls st' h'))) : q_G p l e R s m args below meth c cells slots Qf g nL pc ls st h := by
  intro hn hw hs hm H locs L hP hD hS hl
  have hck := List.all_eq_true.mp (q_cok_all cl (q_look_lt hc)) _ (q_look_mem hc)
  have hlink := q_fc cl _ (q_look_mem hc)
  subst hk0
  obtain ⟨⟨k1, k2, k3, k4, k5⟩, k6, k7, k8, k9, k10⟩ := q_cok0 hck
  have hmn := Nat.le_of_ble_eq_true k1
  have hrk : rk = q_mrk mno := Nat.eq_of_beq_eq_true k2
  have hci : ci < 13 := Nat.le_of_ble_eq_true k8
  have hn1 : 1 ≤ n := Nat.le_of_ble_eq_true k9
  have hmL := Nat.le_of_ble_eq_true k3
  subst hr0
  subst hrk
  have hmem := q_fm _ (q_mem_ms hmn)
  have hw1 : ∀ w ∈ q_mwl (q_m mno), q_in w := hmem.1
  unfold q_mwl at hw1
  rw [k6] at hw1
  obtain ⟨hst, e1, e2, hbl⟩ : ∃ b, st = b ++ rest ∧ (.inr (.inr (some (r0, i0))) :: As : List QV) = b.reverse ++ [] ∧ b.length = n := q_split_ok n [] st _ rest hsp
  obtain ⟨hrest, hB⟩ := q_bd_call C hs ⟨hst, e1, e2⟩ hm hP hD hS
  rw [List.append_nil] at e2
  have e3 : st = As.reverse ++ .inr (.inr (some (r0, i0))) :: rest := by
    rw [e1]
    have : hst = (.inr (.inr (some (r0, i0))) :: As : List QV).reverse := by rw [e2, List.reverse_reverse]
    rw [this, List.reverse_cons, List.append_assoc]
    rfl
  have hok : q_ok r0 i0 := q_ok_of (hs (.inr (.inr (some (r0, i0)))) (by rw [e3]; exact List.mem_append_right _ List.mem_cons_self)) (Or.inl hci)
  obtain ⟨q0, -, hq⟩ := q_ws_mem (g := g) (h := h) hok
  rw [q_ce_obj hci] at hq
  have hrec := va_recv C.2.2.2.2.2.1 hP (q_cl r0 hci) hq
  rw [k7] at hrec
  have hlenA : (As.map (q_cv g)).length = n - 1 := by
    rw [List.length_map]
    have := congrArg List.length e2
    rw [List.length_reverse, List.length_cons, hbl] at this
    omega
  have hG : GoodIn q_W (wsV (q_cn cl) i (q_m mno).1.cls (q_m mno).1 (q_mws mno)) := q_good_of (fun w hw => by
    rcases List.mem_append.mp hw with h1 | h1
    · rcases List.mem_cons.mp h1 with rfl | h1
      · exact hlink
      · rcases List.mem_cons.mp h1 with rfl | h1
        · exact hw1 _ (by simp)
        · rcases List.mem_cons.mp h1 with rfl | h1
          · exact hw1 _ (by simp)
          · rcases List.mem_cons.mp h1 with rfl | h1
            · exact hw1 _ (by simp)
            · cases h1
    · rcases List.mem_cons.mp h1 with rfl | h1
      · exact hmem.2
      · exact h1)
  have hcw : CallW R s args (q_cn cl) (q_m mno).1.cls i (q_m mno).1 (q_m mno).2.1 (q_m mno).2.2.1 (q_m mno).2.2.2.1 (q_mws mno) (q_rm d) 0 0 (n - 1) := cwV (n - 1) C.2.2.2.2.1 hG rfl rfl rfl ⟨rfl, k4, k5, k10⟩ ⟨hdp.1, by show 8 + ((q_m mno).2.2.1 + 11) + 64 * d ≤ R.locals; omega⟩
  have hrun := va_runV (below := below) (e := e) (meth := meth) (locs := locs) (g := F0 m pc L (st.map (q_cv g))) (As := As.map (q_cv g)) (rest := rest.map (q_cv g)) ⟨C.1, C.2.1, C.2.2.1, C.2.2.2.1, C.2.2.2.2.1⟩ a hcw ⟨q_blind g _ h, hrec, fun U hU hW => ⟨rfl, hB U hU hW⟩⟩ rfl hlenA hl.1 (by rw [e3, List.map_append, List.map_reverse]; rfl) (lv_room (by rw [q_cat_ok]; exact hcat)) hd ⟨C.2.2.2.2.2.2.2.2.2.1, C.2.2.2.2.2.2.2.2.2.2⟩
  exact q_after hrun hS (fun z h' H1 locs1 b1 b2 b3 b4 b5 b6 => q_pushed hw hn hrest b1 b2 b5 b3 b4 b6 hl)
set_option maxRecDepth 20000 in
theorem q_s_callS {i kind mno n rk ci : Nat} {As rest st : List QV} (C : q_cx p R s m args c cells slots g nL cl cc) (hdp : d + 1 ≤ R.frames ∧ 64 * (d + 1) ≤ R.locals) (hkd : kind = 1 ∨ kind = 2) (hc : q_look q_cts cl i = some (kind, mno, n, rk, ci)) (hsp : q_split n [] st = some (As, rest)) (hcat : q_cat rest ≤ 8) (hd : decode cc pc = .ok (.invokestatic i, 3))
    (a : q_tr l g d mno As h (fun z h' => q_push rk z rest (fun st' => q_G p l e R s m args below meth c cells slots Qf g nL (pc + 3) ls st' h'))) : q_G p l e R s m args below meth c cells slots Qf g nL pc ls st h := by
  intro hn hw hs hm H locs L hP hD hS hl
  have hck := List.all_eq_true.mp (q_cok_all cl (q_look_lt hc)) _ (q_look_mem hc)
  have hlink := q_fc cl _ (q_look_mem hc)
  obtain ⟨⟨k1, k2, k3, k4, k5⟩, k7, k6⟩ := q_cok12 hkd hck
  have hmn := Nat.le_of_ble_eq_true k1
  have hrk : rk = q_mrk mno := Nat.eq_of_beq_eq_true k2
  have hmL := Nat.le_of_ble_eq_true k3
  subst hrk
  have hmem := q_fm _ (q_mem_ms hmn)
  have hw1 : ∀ w ∈ q_mwl (q_m mno), q_in w := hmem.1
  unfold q_mwl at hw1
  rw [k7.1] at hw1
  obtain ⟨hst, e1, e2, hbl⟩ : ∃ b, st = b ++ rest ∧ As = b.reverse ++ [] ∧ b.length = n := q_split_ok n [] st _ rest hsp
  obtain ⟨hrest, hB⟩ := q_bd_call C hs ⟨hst, e1, e2⟩ hm hP hD hS
  rw [List.append_nil] at e2
  have e3 : st = As.reverse ++ rest := by rw [e1, e2, List.reverse_reverse]
  have hlenA : (As.map (q_cv g)).length = n := by rw [List.length_map, e2, List.length_reverse, hbl]
  have hGm : GoodIn q_W (q_mws mno) := q_good_of (fun w hw => by
    rcases List.mem_cons.mp hw with rfl | h1
    · exact hmem.2
    · exact h1)
  have hR : (q_rm d).frames + 1 ≤ R.frames ∧ 8 + ((q_m mno).2.2.1 + 11) + (q_rm d).locals ≤ R.locals := ⟨hdp.1, by show 8 + ((q_m mno).2.2.1 + 11) + 64 * d ≤ R.locals; omega⟩
  have hstk : (F0 m pc L (st.map (q_cv g))).stack = (As.map (q_cv g)).reverse ++ rest.map (q_cv g) := by
    show st.map (q_cv g) = _
    rw [e3, List.map_append, List.map_reverse]
  have hrun : va_Run p l e R s m args below meth c H locs cells slots 0 0 (F0 m pc L (st.map (q_cv g))) (rest.map (q_cv g)) (q_Qc g (q_mrk mno) (fun z h' => q_push (q_mrk mno) z rest (fun st' => q_G p l e R s m args below meth c cells slots Qf g nL (pc + 3) ls st' h')) (As.map (q_cv g)).toArray) g.2.2.1 := by
    rcases hkd with rfl | rfl
    · have hG : GoodIn q_W (va_wsS (q_cn cl) i (q_m mno).1 (q_mws mno)) := q_good_of (fun w hw => by
        rcases List.mem_append.mp hw with h1 | h1
        · rcases List.mem_cons.mp h1 with rfl | h1
          · exact hlink
          · rcases List.mem_cons.mp h1 with rfl | h1
            · exact hw1 _ (by simp)
            · rcases List.mem_cons.mp h1 with rfl | h1
              · exact hw1 _ (by simp)
              · cases h1
        · exact (hGm w h1).1)
      have hcw := va_cwS (R := R) (rm := q_rm d) (mc := 0) (ms := 0) n C.2.2.2.2.1 hG rfl rfl rfl ⟨k4, k5, k7.2⟩ hR
      exact va_runS (meth := meth) (locs := locs) (g := F0 m pc L (st.map (q_cv g))) (As := As.map (q_cv g)) (rest := rest.map (q_cv g)) ⟨C.1, C.2.1, C.2.2.1, C.2.2.2.1, C.2.2.2.2.1⟩ a hcw ⟨q_blind g _ h, fun U hU hW => ⟨rfl, hB U hU hW⟩⟩ rfl hlenA hl.1 hstk (lv_room (by rw [q_cat_ok]; exact hcat)) hd ⟨C.2.2.2.2.2.2.2.2.2.1, C.2.2.2.2.2.2.2.2.2.2⟩
    · obtain ⟨x, hx, hx2⟩ := List.any_eq_true.mp (k6 rfl)
      simp only [Bool.and_eq_true] at hx2
      have hNw := C.2.2.2.2.2.2.1.2.2 x hx
      obtain ⟨x1, x2, x3⟩ := x
      have f1 : x1 = cl := Nat.eq_of_beq_eq_true hx2.1.1
      have f2 : x2 = i := Nat.eq_of_beq_eq_true hx2.1.2
      have f3 : x3 = mno := Nat.eq_of_beq_eq_true hx2.2
      subst f1; subst f2; subst f3
      have hst2 := q_in_hts C (hw1 (.static (q_m x3).1) (by simp))
      have hini := q_in_hts C (hw1 (.initialized (q_m x3).1.cls) (by simp))
      have hcw := va_cnB (R := R) (rm := q_rm d) (mc := 0) (ms := 0) n C.2.2.2.2.1 hGm rfl rfl rfl hNw hini ⟨k4, k5, k7.2⟩ hR
      exact va_runSN (meth := meth) (locs := locs) (g := F0 m pc L (st.map (q_cv g))) (As := As.map (q_cv g)) (rest := rest.map (q_cv g)) ⟨C.1, C.2.1, C.2.2.1, C.2.2.2.1, C.2.2.2.2.1⟩ a ⟨hcw, hst2, trivial⟩ ⟨q_blind g _ h, fun U hU hW => ⟨rfl, hB U hU hW⟩⟩ rfl hlenA hl.1 hstk (lv_room (by rw [q_cat_ok]; exact hcat)) hd ⟨C.2.2.2.2.2.2.2.2.2.1, C.2.2.2.2.2.2.2.2.2.2⟩
  exact q_after hrun hS (fun z h' H1 locs1 b1 b2 b3 b4 b5 b6 => q_pushed hw hn hrest b1 b2 b5 b3 b4 b6 hl)
theorem q_nmax {x y : Int} (hx : q_i32 x) (hy : q_i32 y) : (if Int32.ofInt x < Int32.ofInt y then Int32.ofInt y else Int32.ofInt x) = Int32.ofInt (max x y) ∧ q_i32 (max x y) := by
  rcases Int.lt_or_le x y with q | q
  · rw [if_pos ((q_nlt hx hy).mpr q), Int.max_eq_right (by omega)]
    exact ⟨rfl, hy⟩
  · rw [if_neg (fun z => by have := (q_nlt hx hy).mp z; omega), Int.max_eq_left q]
    exact ⟨rfl, hx⟩
theorem q_nmin {x y : Int} (hx : q_i32 x) (hy : q_i32 y) : (if Int32.ofInt y < Int32.ofInt x then Int32.ofInt y else Int32.ofInt x) = Int32.ofInt (min x y) ∧ q_i32 (min x y) := by
  rcases Int.lt_or_le y x with q | q
  · rw [if_pos ((q_nlt hy hx).mpr q), Int.min_eq_right (by omega)]
    exact ⟨rfl, hy⟩
  · rw [if_neg (fun z => by have := (q_nlt hy hx).mp z; omega), Int.min_eq_left q]
    exact ⟨rfl, hx⟩
theorem q_wm_cpy {r0 r1 : Nat} {i0 i1 sp dp n n0 n1 a0 a1 : Int} {t0 t1 : Nat} (h0 : q_ar r0 = some (1, n0, t0, a0)) (h1 : q_ar r1 = some (1, n1, t1, a1)) (hm : q_wm h) : q_wm (q_cpy h r0 i0 sp r1 i1 dp n) := by
  refine ⟨fun r' i' j' => ?_, fun ci fk r2 j' hk i' => ?_⟩
  · unfold q_cpy
    split
    · rename_i q
      obtain ⟨rfl, rfl, -⟩ := q
      exact ⟨(hm.1 r0 i0 _).1, fun _ => (hm.1 r0 i0 _).2 (by rw [q_il_arr h0]; rfl)⟩
    · exact hm.1 r' i' j'
  · unfold q_cpy
    rw [if_neg (fun q => by
      have e := q.1
      subst e
      exact q_nofk h1 hk)]
    exact hm.2 ci fk r2 j' hk i'
theorem q_j {w : Jvm.Cond} (C : q_cx p R s m args c cells slots g nL cl cc) (hw : w ∈ q_jw) : w.before args s = true := C.2.2.2.2.1 w (q_fj w hw)
theorem q_s_sp {i kind mno n rk ci : Nat} {st : List QV} (C : q_cx p R s m args c cells slots g nL cl cc) (hc : q_look q_cts cl i = some (kind, mno, n, rk, ci)) (hd : decode cc pc = .ok (.invokestatic i, 3)) (a : q_sp (q_S g) kind st h (fun st' h' => q_G p l e R s m args below meth c cells slots Qf g nL (pc + 3) ls st' h')) : q_G p l e R s m args below meth c cells slots Qf g nL pc ls st h := by
  intro hn hw hs hm H locs L hP hD hS hl
  have hlink := q_in_hts C (q_fc cl _ (q_look_mem hc))
  unfold q_sp at a
  have hml : c.maxLocals = L.size := C.2.2.1.trans hl.1.symm
  split at a
  · unfold q_i2 at a
    split at a
    · rename_i y x r
      obtain ⟨hy, hs1⟩ := List.forall_mem_cons.mp hs
      obtain ⟨hx, hs2⟩ := List.forall_mem_cons.mp hs1
      obtain ⟨e1, e2⟩ := q_nmax hx hy
      cases hb : Nat.ble (q_cat r) 8 with
      | false => rw [hb] at a; exact a.elim
      | true =>
        rw [hb] at a
        have hb := Nat.le_of_ble_eq_true hb
        refine va_mmax C.1 C.2.1 hml C.2.2.2.1 hlink (q_j C (by simp [q_jw])) (q_j C (by simp [q_jw])) (q_j C (by simp [q_jw])) C.2.2.2.2.2.2.2.1 (by rw [q_cat_ok]; have := C.2.2.2.2.2.2.2.2.1; omega) C.2.2.2.2.2.2.2.2.2.1 C.2.2.2.2.2.2.2.2.2.2 hd ?_
        rw [e1]
        exact a hn hw (List.forall_mem_cons.mpr ⟨e2, hs2⟩) hm H locs L hP hD hS hl
    · exact a.elim
  · unfold q_i2 at a
    split at a
    · rename_i y x r
      obtain ⟨hy, hs1⟩ := List.forall_mem_cons.mp hs
      obtain ⟨hx, hs2⟩ := List.forall_mem_cons.mp hs1
      obtain ⟨e1, e2⟩ := q_nmin hx hy
      cases hb : Nat.ble (q_cat r) 8 with
      | false => rw [hb] at a; exact a.elim
      | true =>
        rw [hb] at a
        have hb := Nat.le_of_ble_eq_true hb
        refine va_mmin C.1 C.2.1 hml C.2.2.2.1 hlink (q_j C (by simp [q_jw])) (q_j C (by simp [q_jw])) (q_j C (by simp [q_jw])) C.2.2.2.2.2.2.2.1 (by rw [q_cat_ok]; have := C.2.2.2.2.2.2.2.2.1; omega) C.2.2.2.2.2.2.2.2.2.1 C.2.2.2.2.2.2.2.2.2.2 hd ?_
        rw [e1]
        exact a hn hw (List.forall_mem_cons.mpr ⟨e2, hs2⟩) hm H locs L hP hD hS hl
    · exact a.elim
  · split at a
    · rename_i n dp r1 i1 sp r0 i0 r
      split at a
      · rename_i n0 t0 a0 n1 t1 a1 hb h0 h1
        obtain ⟨⟨b1, b2, b3, b4, b5⟩, a⟩ := a
        obtain ⟨hn', hs1⟩ := List.forall_mem_cons.mp hs
        obtain ⟨hdp, hs2⟩ := List.forall_mem_cons.mp hs1
        obtain ⟨hv1, hs3⟩ := List.forall_mem_cons.mp hs2
        obtain ⟨hsp, hs4⟩ := List.forall_mem_cons.mp hs3
        obtain ⟨hv0, hs5⟩ := List.forall_mem_cons.mp hs4
        have hn' : q_i32 n := hn'
        have hdp : q_i32 dp := hdp
        have hsp : q_i32 sp := hsp
        have hb := Nat.le_of_ble_eq_true hb
        have hnn0 := q_nn h0 rfl
        have hnn1 := q_nn h1 rfl
        dsimp only at hnn0 hnn1
        obtain ⟨q0, hp0, hq0⟩ := q_ws_mem (g := g) (h := h) (q_ok_of hv0 (Or.inr ⟨_, h0⟩))
        obtain ⟨q1, hp1, hq1⟩ := q_ws_mem (g := g) (h := h) (q_ok_of hv1 (Or.inr ⟨_, h1⟩))
        rw [q_ce_arr h0] at hq0
        rw [q_ce_arr h1] at hq1
        have hnf : nativeFrameWords "java/lang/System" "arraycopy" 5 ≤ 40 := by decide +kernel
        have nonneg : ∀ z : Int, q_i32 z → 0 ≤ z → ¬ Int32.ofInt z < 0 := fun z hz h0 q => by
          have := (q_nlt hz q_i0).mp q
          omega
        refine va_copyi (f := fun (j : Nat) => Int32.ofInt (h r0 i0 j)) (g := fun (j : Nat) => Int32.ofInt (h r1 i1 j)) (ty := .int) C.1 C.2.1 hml C.2.2.2.1 hlink (q_j C (by simp [q_jw])) (q_j C (by simp [q_jw])) (q_j C (by simp [q_jw])) C.2.2.2.2.2.1 hP hD hS q0 q1 1 1 hq0 hq1 (q_tys_at g (by omega)) (q_tys_at g (by omega)) rfl (nonneg sp hsp b1) (nonneg dp hdp b2) (nonneg n hn' b3) (by rw [q_ncl hsp, q_ncl hn']; omega) (by rw [q_ncl hdp, q_ncl hn']; omega) (fun _ _ => rfl) C.2.2.2.2.2.2.2.1 (by rw [q_cat_ok]; have := C.2.2.2.2.2.2.2.2.1; omega) hd (fun H1 locs1 c1 c2 c3 => ?_)
        have hset : (q_ws g h).set q1 (g.2.1 r1 i1, .inl (g.2.2.2.1 1, n1.toNat, .inl (va_cpy (fun (j : Nat) => Int32.ofInt (h r0 i0 j)) (fun (j : Nat) => Int32.ofInt (h r1 i1 j)) sp.toNat dp.toNat n.toNat))) = q_ws g (q_cpy h r0 i0 sp r1 i1 dp n) := by
          refine q_ws_set hD hp1 ?_ (fun r' i' hne j => by unfold q_cpy; rw [if_neg (fun q => hne ⟨q.1, q.2.1⟩)])
          rw [q_ce_arr h1]
          have e : (fun (j' : Nat) => Int32.ofInt (q_cpy h r0 i0 sp r1 i1 dp n r1 i1 j')) = va_cpy (fun (j : Nat) => Int32.ofInt (h r0 i0 j)) (fun (j : Nat) => Int32.ofInt (h r1 i1 j)) sp.toNat dp.toNat n.toNat := by
            funext j'
            unfold q_cpy va_cpy
            by_cases e : dp.toNat ≤ j' ∧ j' < dp.toNat + n.toNat
            · rw [if_pos e, if_pos ⟨rfl, rfl, by omega, by omega⟩]
              show Int32.ofInt (h r0 i0 (sp + ((j' : Int) - dp))) = Int32.ofInt (h r0 i0 ((sp.toNat + (j' - dp.toNat) : Nat) : Int))
              rw [show ((sp.toNat + (j' - dp.toNat) : Nat) : Int) = sp + ((j' : Int) - dp) by omega]
            · rw [if_neg e, if_neg (fun q => e ⟨by have := q.2.2; omega, by have := q.2.2; omega⟩)]
          unfold q_ct
          rw [e]
          rfl
        rw [q_ncl hsp, q_ncl hdp, q_ncl hn', hset] at c1 c2
        exact a hn hw hs5 (q_wm_cpy h0 h1 hm) H1 locs1 L c1 c2 c3 hl
      · exact a.elim
    · exact a.elim
  · exact a.elim
end QSound3
