/-! the construction machine is sound: calls in any depth -/
theorem c_run_le {calls : Nat → List QV → List QCE → QCR} (hcalls : ∀ (n : Nat) (a : List QV) (E : List QCE) (r : Option QV) (E' : List QCE), calls n a E = some (r, E') → c_le E E') {cl : Nat} {rv : Bool} {code : QC} {res : Option QV} {E1 : List QCE} : ∀ (f pc : Nat) (ls : QL) (st : List QV) (E : List QCE), c_run calls cl rv code f pc ls st E = some (res, E1) → c_le E E1 := by
  intro f
  induction f with
  | zero => intro pc ls st E hc; cases hc
  | succ f ih =>
    intro pc ls st E hc
    rw [c_run] at hc
    obtain ⟨-, hc⟩ := c_go_out hc
    cases hat : q_at code pc with
    | none => rw [hat] at hc; cases hc
    | some x =>
      obtain ⟨ins, nx, tg⟩ := x
      rw [hat] at hc
      dsimp only at hc
      cases ins with
      | aload_n k => obtain ⟨_, _, _, hc⟩ := c_ldA_out hc; exact ih _ _ _ _ hc
      | iload_n k => obtain ⟨_, _, hc⟩ := c_ldI_out hc; exact ih _ _ _ _ hc
      | iload k => obtain ⟨_, _, hc⟩ := c_ldI_out hc; exact ih _ _ _ _ hc
      | lload_n k => obtain ⟨_, _, hc⟩ := c_ldL_out hc; exact ih _ _ _ _ hc
      | istore_n k => obtain ⟨_, _, _, hc⟩ := c_i1_out hc; exact ih _ _ _ _ hc
      | iconst z => exact ih _ _ _ _ hc
      | bipush z => exact ih _ _ _ _ hc
      | sipush z => exact ih _ _ _ _ hc
      | ldc2_w i => obtain ⟨_, _, hc⟩ := c_som_out hc; exact ih _ _ _ _ hc
      | dup => obtain ⟨_, _, _, _, hc⟩ := c_r1_out hc; exact ih _ _ _ _ hc
      | iinc k z => obtain ⟨_, _, hc⟩ := c_ldI_out hc; exact ih _ _ _ _ hc
      | iadd => obtain ⟨_, _, _, _, hc⟩ := c_i2_out hc; exact ih _ _ _ _ hc
      | isub => obtain ⟨_, _, _, _, hc⟩ := c_i2_out hc; exact ih _ _ _ _ hc
      | i2l => obtain ⟨_, _, _, hc⟩ := c_i1_out hc; obtain ⟨-, hc⟩ := c_go_out hc; exact ih _ _ _ _ hc
      | ladd => obtain ⟨_, _, _, _, hc⟩ := c_l2_out hc; exact ih _ _ _ _ hc
      | lmul => obtain ⟨_, _, _, _, hc⟩ := c_l2_out hc; exact ih _ _ _ _ hc
      | lconst z => exact ih _ _ _ _ hc
      | goto o =>
        have hc : c_t1 tg _ = _ := hc
        unfold c_t1 at hc
        split at hc
        · exact ih _ _ _ _ hc
        · cases hc
      | if_icmp cd o =>
        cases cd with
        | ge =>
          dsimp only at hc
          obtain ⟨_, _, _, _, hc⟩ := c_i2_out hc
          obtain ⟨-, hc⟩ := c_go_out hc
          unfold c_t1 at hc
          split at hc
          · split at hc
            · exact ih _ _ _ _ hc
            · exact ih _ _ _ _ hc
          · cases hc
        | _ => cases hc
      | ifCond cd o =>
        cases cd with
        | ne =>
          dsimp only at hc
          obtain ⟨_, _, _, hc⟩ := c_i1_out hc
          obtain ⟨-, hc⟩ := c_go_out hc
          unfold c_t1 at hc
          split at hc
          · split at hc
            · exact ih _ _ _ _ hc
            · exact ih _ _ _ _ hc
          · cases hc
        | _ => cases hc
      | new i => obtain ⟨_, _, hc⟩ := c_som_out hc; exact c_le_tr (c_le_app _ _) (ih _ _ _ _ hc)
      | newarray t => obtain ⟨_, _, _, hc⟩ := c_i1_out hc; obtain ⟨-, hc⟩ := c_go_out hc; exact c_le_tr (c_le_app _ _) (ih _ _ _ _ hc)
      | anewarray i => obtain ⟨_, _, _, hc⟩ := c_i1_out hc; obtain ⟨-, hc⟩ := c_go_out hc; obtain ⟨_, _, hc⟩ := c_som_out hc; exact c_le_tr (c_le_app _ _) (ih _ _ _ _ hc)
      | multianewarray i dm => obtain ⟨_, _, _, _, hc⟩ := c_i2_out hc; obtain ⟨-, hc⟩ := c_go_out hc; exact c_le_tr (c_le_app _ _) (ih _ _ _ _ hc)
      | putfield i =>
        obtain ⟨v, r0, i0, r, rfl, hc⟩ := c_vr_out hc
        obtain ⟨ci, k0, hf, hc⟩ := c_fld_out hc
        obtain ⟨cj, fs, hq, hc⟩ := c_obj_out hc
        obtain ⟨hb, hc3⟩ := c_go_out hc
        exact c_le_set (e' := .inr (cj, c_vset fs k0 v)) hq rfl (ih _ _ _ _ hc3)
      | getfield i =>
        obtain ⟨r0, i0, r, rfl, hc⟩ := c_r1_out hc
        obtain ⟨ci, k0, hf, hc⟩ := c_fld_out hc
        obtain ⟨cj, fs, hq, hc⟩ := c_obj_out hc
        obtain ⟨x, hfk, hc⟩ := c_som_out hc
        obtain ⟨hb, hc3⟩ := c_go_out hc
        obtain ⟨v, hv, hc4⟩ := c_som_out hc3
        exact ih _ _ _ _ hc4
      | arraylength =>
        obtain ⟨r0, i0, r, rfl, hc⟩ := c_r1_out hc
        obtain ⟨kd, n, ov, hq, hc⟩ := c_rw_out hc
        obtain ⟨hb, hc⟩ := c_go_out hc
        exact ih _ _ _ _ hc
      | aastore =>
        obtain ⟨r1, i3, j, r0, i0, r, rfl, hc⟩ := c_aa_out hc
        obtain ⟨kd, n, ov, hq, hc⟩ := c_rw_out hc
        obtain ⟨ci, vs, hq1, hc⟩ := c_obj_out hc
        obtain ⟨hb, hc⟩ := c_go_out hc
        exact c_le_set (e' := .inl (kd, n, (j.toNat, i3) :: ov)) hq rfl (ih _ _ _ _ hc)
      | lastore =>
        obtain ⟨v, j, r0, i0, r, rfl, hc⟩ := c_la_out hc
        obtain ⟨kd, n, ov, hq, hc⟩ := c_rw_out hc
        obtain ⟨hb, hc3⟩ := c_go_out hc
        exact c_le_set (e' := .inl (kd, n, (j.toNat, v) :: ov)) hq rfl (ih _ _ _ _ hc3)
      | invokespecial i =>
        obtain ⟨r0, i0, r, rfl, hc⟩ := c_r1_out hc
        obtain ⟨hcat, hc⟩ := c_go_out hc
        obtain ⟨mno, hf, hc⟩ := c_som_out hc
        cases hb : Nat.beq mno 99 with
        | true => rw [hb] at hc; exact ih _ _ _ _ hc
        | false =>
          rw [hb] at hc
          dsimp only at hc
          obtain ⟨hm, hc⟩ := c_go_out hc
          obtain ⟨E', hcall, hc⟩ := c_void_out hc
          exact c_le_tr (hcalls _ _ _ _ _ hcall) (ih _ _ _ _ hc)
      | invokestatic i =>
        obtain ⟨mno, hf, hc⟩ := c_som_out hc
        obtain ⟨hb, hc⟩ := c_go_out hc
        cases hsp : q_split (c_par mno) [] st with
        | none => rw [hsp] at hc; cases hc
        | some x =>
          obtain ⟨As, rest⟩ := x
          rw [hsp] at hc
          dsimp only at hc
          obtain ⟨hcat, hc⟩ := c_go_out hc
          obtain ⟨z, E', hcall, hc⟩ := c_long_out hc
          exact c_le_tr (hcalls _ _ _ _ _ hcall) (ih _ _ _ _ hc)
      | return_ =>
        obtain ⟨-, -, -, e3⟩ := c_nil_out hc
        subst e3
        exact c_le_rf _
      | lreturn =>
        obtain ⟨-, -, -, -, e3⟩ := c_one_out hc
        subst e3
        exact c_le_rf _
      | _ => cases hc
theorem c_ck_all {n cl nL : Nat} {code : QC} (hn : n < 15) (h : q_get c_ms n = some (cl, code, nL)) {pc : Nat} {e : QE} (hpc : pc < 400) (he : q_at code pc = some e) : c_eok nL (c_mm n).2.1 pc e = true := by
  have hc : n = 0 ∨ n = 1 ∨ n = 2 ∨ n = 3 ∨ n = 4 ∨ n = 5 ∨ n = 6 ∨ n = 7 ∨ n = 8 ∨ n = 9 ∨ n = 10 ∨ n = 11 ∨ n = 12 ∨ n = 13 ∨ n = 14 := by omega
  rcases hc with rfl | rfl | rfl | rfl | rfl | rfl | rfl | rfl | rfl | rfl | rfl | rfl | rfl | rfl | rfl
  · have h : (some (0, kc_0, 1) : Option (Nat × QC × Nat)) = some (cl, code, nL) := h
    cases h
    exact c_ck0 hpc he
  · have h : (some (1, kc_1, 1) : Option (Nat × QC × Nat)) = some (cl, code, nL) := h
    cases h
    exact c_ck1 hpc he
  · have h : (some (2, kc_2, 2) : Option (Nat × QC × Nat)) = some (cl, code, nL) := h
    cases h
    exact c_ck2 hpc he
  · have h : (some (3, kc_3, 1) : Option (Nat × QC × Nat)) = some (cl, code, nL) := h
    cases h
    exact c_ck3 hpc he
  · have h : (some (4, kc_4, 1) : Option (Nat × QC × Nat)) = some (cl, code, nL) := h
    cases h
    exact c_ck4 hpc he
  · have h : (some (5, kc_5, 1) : Option (Nat × QC × Nat)) = some (cl, code, nL) := h
    cases h
    exact c_ck5 hpc he
  · have h : (some (6, kc_6, 2) : Option (Nat × QC × Nat)) = some (cl, code, nL) := h
    cases h
    exact c_ck6 hpc he
  · have h : (some (7, kc_7, 1) : Option (Nat × QC × Nat)) = some (cl, code, nL) := h
    cases h
    exact c_ck7 hpc he
  · have h : (some (8, kc_8, 1) : Option (Nat × QC × Nat)) = some (cl, code, nL) := h
    cases h
    exact c_ck8 hpc he
  · have h : (some (9, kc_9, 1) : Option (Nat × QC × Nat)) = some (cl, code, nL) := h
    cases h
    exact c_ck9 hpc he
  · have h : (some (10, kc_10, 1) : Option (Nat × QC × Nat)) = some (cl, code, nL) := h
    cases h
    exact c_ck10 hpc he
  · have h : (some (11, kc_11, 2) : Option (Nat × QC × Nat)) = some (cl, code, nL) := h
    cases h
    exact c_ck11 hpc he
  · have h : (some (12, kc_12, 1) : Option (Nat × QC × Nat)) = some (cl, code, nL) := h
    cases h
    exact c_ck12 hpc he
  · have h : (some (12, kc_13, 7) : Option (Nat × QC × Nat)) = some (cl, code, nL) := h
    cases h
    exact c_ck13 hpc he
  · have h : (some (12, kc_14, 3) : Option (Nat × QC × Nat)) = some (cl, code, nL) := h
    cases h
    exact c_ck14 hpc he
theorem c_exec_ok {l : Launch} {g : QG} {sz : Nat} (hga : ∀ r i, g.2.1 r i = sz + i.toNat) (hA : ∀ q, sz ≤ q → g.2.2.1 q) : ∀ (d n : Nat) (a : List QV) (E : List QCE) (r : Option QV) (E' : List QCE), c_exec d n a E = some (r, E') → c_le E E' ∧ c_met l g sz d n a E r E' := by
  intro d
  induction d with
  | zero => intro n a E r E' h; cases h
  | succ d ih =>
    intro n a E r E' h
    rw [c_exec] at h
    cases hm : q_get c_ms n with
    | none => rw [hm] at h; cases h
    | some x =>
      obtain ⟨cl, code, nL⟩ := x
      rw [hm] at h
      dsimp only at h
      obtain ⟨hlen, hc⟩ := c_go_out h
      have hlen := Nat.le_of_ble_eq_true hlen
      have hn : n < 15 := by
        have h2 := hm
        rw [q_get_eq] at h2
        have := (List.getElem?_eq_some_iff.mp h2).1
        rw [c_ms_len] at this
        exact this
      have hle : c_le E E' := c_run_le (fun n a E r E' q => (ih n a E r E' q).1) _ _ _ _ _ hc
      refine ⟨hle, ?_⟩
      obtain ⟨⟨s1, s2, s3, s4⟩, ⟨cl2, code2, s5, s6, s7, s8⟩, s9, s10⟩ := c_sok_out hn
      cases hm.symm.trans s5
      refine Met.ofW (cc := (c_mm n).2.1) (maxL := (c_mm n).2.2.1) (ret := (c_mm n).2.2.2) s1 rfl ?_
      intro p e s m args below meth c s₁ B hml hv
      obtain ⟨hargs, hsz, hP, hBd⟩ := hv
      have hts := atoms_spec (ws := c_mws n) B.pre
      have hown : s.vm.findClass (c_mm n).1.cls = some m.cls := findClass_of_methodNamed B.named
      have hlocks := B.notSynchronized
      have hret := B.returns
      have hname := (name_of_methodNamed B.named B.method).1
      have hrv : Nat.ble 13 n = false → n < 13 := fun q => by
        rcases Nat.lt_or_ge n 13 with h | h
        · exact h
        · rw [Nat.ble_eq_true_of_le h] at q; cases q
      have C : c_cx p s m args meth c g sz (c_mm n).2.2.1 cl (c_mm n).2.1 (Nat.ble 13 n) E := ⟨B.exec, B.bytes, hml, by rw [s6]; exact hown, fun w hw => hts w (List.mem_cons_of_mem _ hw), hBd, fun q => by rw [hname]; exact (s9 (hrv q)).2, hga, hA, hsz, s8⟩
      have key := c_run_ok (l := l) (e := e) (R := c_rm (d + 1) (E'.length - E.length) (c_sz E' - c_sz E)) (below := below) (Qf := MQ below (c_Qc g sz r E') args s (E'.length - E.length) (c_sz E' - c_sz E) g.2.2.1) (d := d) C (fun pc x hpc hx => c_ck_all hn hm hpc hx) (fun n a E r E' _ q => ih n a E r E' q) ⟨Nat.le_refl _, Nat.le_refl _⟩ ⟨Nat.le_refl _, Nat.le_refl _⟩ (fun pc H locs L hP1 hS1 => ⟨fun e1 e2 hd => ?_, fun z e1 e2 hd => ?_⟩) 400 0 (q_entry (c_mm n).2.2.1 a) [] E hc
      · subst hargs
        rw [show (headSpec (c_mws n) (c_rm (d + 1) (E'.length - E.length) (c_sz E' - c_sz E))).room = c_rm (d + 1) (E'.length - E.length) (c_sz E' - c_sz E) from rfl, lg_entry_eq]
        refine W.cs (Nat.sub_self _).symm (Nat.sub_self _).symm (key.2 (c_le_rf E) ?_ s.heap [] _ hP va_S.rf (q_lc_sub (lv_entry (a.map (q_cv g)) (by rw [q_ent_len]; exact hlen)) (fun k v hk => (q_entry_get g hk).1)))
        unfold q_entry
        rw [List.length_append, q_rep_len]
        omega
      · exact W.vret B.exec B.bytes (by rw [hret]; exact (s9 (hrv e1)).1) (fun t ht hW => ⟨⟨by rw [e2]; rfl, by rw [ht]; exact hP1⟩, hS1.F ht⟩) hS1.2.2 hd
      · exact W.lret B.exec B.bytes (by rw [hret]; exact s10 (Nat.le_of_ble_eq_true e1)) (fun t ht hW => ⟨⟨by rw [e2]; rfl, by rw [ht]; exact hP1⟩, hS1.F ht⟩) hS1.2.2 hd
