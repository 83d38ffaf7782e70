/-! the law's walk, from its entry to its end -/
def c_ndb : List Nat → Bool
  | [] => true
  | a :: l => l.all (fun b => !Nat.beq a b) && c_ndb l
theorem c_ndb_ok : ∀ {l : List Nat}, c_ndb l = true → ∀ (i j x : Nat), l[i]? = some x → l[j]? = some x → i = j
  | [], _, i, j, x, h, _ => by cases i <;> cases h
  | a :: l, h, i, j, x, hi, hj => by
    have h : (l.all (fun b => !Nat.beq a b) && c_ndb l) = true := h
    rw [Bool.and_eq_true] at h
    have hne : ∀ (k : Nat), l[k]? = some x → a = x → False := fun k hk e => by
      have := List.all_eq_true.mp h.1 x (List.mem_of_getElem? hk)
      rw [e, Nat.beq_refl] at this
      cases this
    match i, j, hi, hj with
    | 0, 0, _, _ => rfl
    | 0, j + 1, hi, hj => exact (hne j hj (Option.some.inj hi)).elim
    | i + 1, 0, hi, hj => exact (hne i hi (Option.some.inj hj)).elim
    | i + 1, j + 1, hi, hj => rw [c_ndb_ok h.2 i j x hi hj]
theorem c_sg_nd : c_ndb (q_pl.map (fun q => c_sg q.1 q.2)) = true := by decide +kernel
theorem c_cnts_len : q_cnts.length = 72 := by decide +kernel
theorem c_ok_lt {r : Nat} {i : Int} (h : q_ok r i) : r < 72 := by
  obtain ⟨h0, h1⟩ := h
  rcases Nat.lt_or_ge r 72 with a | a
  · exact a
  · unfold q_cnt at h1
    rw [List.getD_eq_getElem?_getD, List.getElem?_eq_none (by rw [c_cnts_len]; exact a)] at h1
    simp at h1
    omega
theorem c_N46 : ∀ ci, ci < 13 → q_N ci ≤ 46 := by decide +kernel
theorem c_h0_wm : q_wm q_h0 := by
  refine ⟨fun r i j => ?_, fun ci fk r2 j h i => ?_⟩
  · have := q_h0_bd r i j
    exact ⟨by unfold q_i64; omega, fun _ => by unfold q_i32; omega⟩
  · obtain ⟨hci, -⟩ := q_fk_lt h
    have hkd := q_kd h
    unfold q_kdok at hkd
    simp only [Bool.and_eq_true] at hkd
    have hN : fk < q_N ci := Nat.le_of_ble_eq_true hkd.1.1.1
    have h46 := c_N46 ci hci
    have h3 := List.all_eq_true.mp q_fk_3 ci (List.mem_range.mpr hci)
    have h3 := List.all_eq_true.mp h3 fk (List.mem_range.mpr (by omega))
    rw [h] at h3
    exact of_decide_eq_true h3
def c_geo (D : va_G) (cid : Nat → ClassId) (sz L : Nat) (xs : Nat → Int32) (t : Nat → Nat) : QG := (D, (fun r i => if 100 ≤ r then t r else sz + c_sg r i), (fun q => sz ≤ q), cid, L, xs)
def c_tf (t0 t1 t2 t3 b r : Nat) : Nat := match r with
  | 100 => t0
  | 101 => t1
  | 102 => t2
  | 103 => t3
  | _ => b
theorem c_geo_ad {D : va_G} {cid : Nat → ClassId} {sz L : Nat} {xs : Nat → Int32} {t : Nat → Nat} {r : Nat} {i : Int} (h : q_ok r i) : (c_geo D cid sz L xs t).2.1 r i = sz + c_sg r i := by
  show (if 100 ≤ r then t r else sz + c_sg r i) = _
  rw [if_neg (by have := c_ok_lt h; omega)]
theorem c_geo_D {D : va_G} {cid : Nat → ClassId} {sz L : Nat} {xs : Nat → Int32} {t : Nat → Nat} {h : QM} : va_D (fun q => sz ≤ q) (q_ws (c_geo D cid sz L xs t) h) := by
  have key : ∀ (k : Nat) (q : Nat × va_E), (q_ws (c_geo D cid sz L xs t) h)[k]? = some q → ∃ x, (q_pl.map (fun q => c_sg q.1 q.2))[k]? = some x ∧ q.1 = sz + x := by
    intro k q hk
    unfold q_ws at hk
    rw [List.getElem?_map] at hk
    cases hp : q_pl[k]? with
    | none => rw [hp] at hk; cases hk
    | some y =>
      rw [hp] at hk
      cases hk
      refine ⟨c_sg y.1 y.2, by rw [List.getElem?_map, hp]; rfl, ?_⟩
      exact c_geo_ad (D := D) (cid := cid) (L := L) (xs := xs) (t := t) (q_pl_ok _ (List.mem_of_getElem? hp))
  refine ⟨fun i j p q hi hj e => ?_, fun k q hk => ?_⟩
  · obtain ⟨x, h1, h2⟩ := key i p hi
    obtain ⟨y, h3, h4⟩ := key j q hj
    have : x = y := by omega
    subst this
    exact c_ndb_ok c_sg_nd i j x h1 h3
  · obtain ⟨x, -, h2⟩ := key k q hk
    show sz ≤ q.1
    omega
theorem whole_start {p : Program} {e : Env} {s : State} {m : MethodId} {below : List Frame} {meth : Method} {c : Code} (l : Launch) (hflags : l.flags = flags0) {b L : Nat} {xs : Nat → Int32} (hL : L ≤ 3072) (C0 : lw_At p s m meth c b L xs) : W p l e room_1 s m #[Value.ref b] below meth c s.heap [] 0 0 (lw_Z below #[Value.ref b] s) (entryFrame m ([Value.ref b] : List Value).toArray 4) := by
  obtain ⟨hx, hb, hr, hml, hown, hts, hX, hbl, hlocks, hgv⟩ := id C0
  have hown : s.vm.findClass R_lawQ = some m.cls := hown
  obtain ⟨D, cid, hBd⟩ := c_known hts
  obtain ⟨sz, hsz⟩ : ∃ sz, s.heap.size = sz := ⟨_, rfl⟩
  have hnA : ∀ a : Nat, a < s.heap.size → ¬ (fun q : Nat => sz ≤ q) a := fun a h => by
    show ¬ sz ≤ a
    omega
  have hini := hts _ (c_flw (.initialized "StepSums$Reader") (by simp [c_lws]))
  obtain ⟨t0, T0, Z0⟩ := c_st_100 (A := fun q : Nat => sz ≤ q) hgv hnA (hts _ (c_flw _ (by simp [c_lws]))) hini
  obtain ⟨t1, T1, Z1⟩ := c_st_101 (A := fun q : Nat => sz ≤ q) hgv hnA (hts _ (c_flw _ (by simp [c_lws]))) hini
  obtain ⟨t2, T2, Z2⟩ := c_st_102 (A := fun q : Nat => sz ≤ q) hgv hnA (hts _ (c_flw _ (by simp [c_lws]))) hini
  obtain ⟨t3, T3, Z3⟩ := c_st_103 (A := fun q : Nat => sz ≤ q) hgv hnA (hts _ (c_flw _ (by simp [c_lws]))) hini
  obtain ⟨g, hg⟩ : ∃ g, g = c_geo D cid sz L xs (c_tf t0 t1 t2 t3 b) := ⟨_, rfl⟩
  have hl := lv_entry ([.ref b]) (n := 4) (Nat.le_of_ble_eq_true rfl)
  rw [lg_entry_eq]
  generalize (lg_sl ([.ref b]) ++ List.replicate (4 - (lg_sl ([.ref b])).length) Slot.unset).toArray = ls at hl ⊢
  have hl : lv_has ls 4 [(0, .ref b)] := hl
  refine c_make (g := (D, (fun _ i => sz + i.toNat), (fun q => sz ≤ q), cid, L, xs)) (sz := sz) (b := b) hx hb hml hown hts (hBd _ rfl rfl) (fun _ _ => rfl) (fun q h => h) hsz hl (fun H1 locs1 L1 hP hS hl1 => ?_)
  have hPq : va_P g.1 vwCl (q_ws g q_h0) H1 := by
    subst hg
    exact c_bridge (sz := sz) (fun r i h => c_geo_ad h) hP
  have hDq : va_D g.2.2.1 (q_ws g q_h0) := by
    subst hg
    exact c_geo_D
  have hK : va_K g.1 vwCl (q_tys g) s := by
    subst hg
    exact (hBd _ rfl rfl).1
  have hso : q_sok g s s.heap := by
    subst hg
    refine ⟨fun r hr0 => ?_, fun x hx0 => ?_, fun q hq => ?_⟩
    · have h5 : r = 100 ∨ r = 101 ∨ r = 102 ∨ r = 103 ∨ r = 104 := by
        unfold q_sk at hr0
        split at hr0 <;> first | omega | exact absurd rfl hr0
      rcases h5 with rfl | rfl | rfl | rfl | rfl
      · exact T0
      · exact T1
      · exact T2
      · exact T3
      · obtain ⟨scr, h1, h2, h3, h4, h6⟩ := hX
        refine ⟨scr, h1, h2, h3, by show L ≤ _; omega, by rw [h4]; rfl, fun j hj => ?_, hnA b hbl⟩
        rw [h6 j hj]
        show some (Value.int (xs j)) = some (Value.int (Int32.ofInt (xs ((j : Int).toNat)).toInt))
        rw [Int32.ofInt_toInt]
        rfl
    · have hx0 : x ∈ [(100, "WORDS", "[J"), (101, "NAMES_DUE", "[I"), (102, "INTS_LEAST", "[I"), (103, "INTS_MOST", "[I")] := hx0
      simp only [List.mem_cons, List.not_mem_nil, or_false] at hx0
      rcases hx0 with rfl | rfl | rfl | rfl
      · exact Z0
      · exact Z1
      · exact Z2
      · exact Z3
    · refine va_Nw.of ?_ (hts _ (q_fnest _ (List.mem_map.mpr ⟨q, hq, rfl⟩)))
      rfl
  have hgA : ∀ q, g.2.2.1 q → sz ≤ q := by
    subst hg
    exact fun q h => h
  have C : q_cx p room_1 s m #[Value.ref b] c 600000 7302250 g 4 13 code := ⟨hx, hb, hml, hown, fun w hw => hts w (List.mem_filter.mp hw).1, hK, hso, by show 1 ≤ 2048; omega, by show 64 ≤ 84000; omega, Nat.le_refl _, Nat.le_refl _⟩
  have HR : q_rets p l e room_1 s m #[Value.ref b] below meth c 600000 7302250 (lw_Z below #[Value.ref b] s) g code 100 (fun z _ => z = 1) := by
    intro z h pc H locs L' hm hP1 hD1 hS1 hQ
    have hQ : z = 1 := hQ
    refine ⟨fun hd hk hz => ?_, fun hd hk hz => absurd hk (by decide), fun hd hk hz => absurd hk (by decide), fun hd hk hz => absurd hk (by decide), fun r hd hk hz => ?_⟩
    · subst hQ
      have e1 : Int32.ofInt 1 = 1 := by decide +kernel
      rw [e1]
      exact va_forget (fun q hq => by rw [hsz]; exact hgA _ (hS1.2.2 q hq)) (lw_ret hx hb hr hlocks hd)
    · exfalso
      have := c_ok_lt hz
      omega
  have hG := q_sound (l := l) (e := e) (below := below) (meth := meth) (Qf := lw_Z below #[Value.ref b] s) (d := 30) (wr := false) C (by subst hg; show ((L : Nat) : Int) ≤ 100000; omega) ⟨by show 30 + 1 ≤ 2048; omega, by show 64 * (30 + 1) ≤ 84000; omega⟩ k_L_law_ok (fun r0 h1 h2 => h2 (q_sk_lt (by omega))) HR
  refine l_loop (d := 0) (by subst hg; show ((L : Nat) : Int) ≤ 100000; omega) hG (fun _ => rfl) q_h0_st rfl ?_ (fun v hv => by cases hv) c_h0_wm H1 locs1 L1 hPq hDq (by subst hg; exact hS) ?_
  · intro k v hk
    match k, hk with
    | 0, hk => cases hk; exact Or.inr ⟨by decide, rfl⟩
    | 1, hk => cases hk; exact Or.inl ⟨by decide, by decide +kernel⟩
    | 2, hk => cases hk; exact Or.inl ⟨by decide, by decide +kernel⟩
    | 3, hk => cases hk; exact q_i0
    | k + 4, hk => cases k <;> cases hk
  · subst hg
    refine q_lc_sub hl1 (fun k v hk => ?_)
    match k, hk with
    | 0, hk => cases hk; exact List.mem_of_getElem? (i := 3) rfl
    | 1, hk => cases hk; exact List.mem_of_getElem? (i := 2) rfl
    | 2, hk => cases hk; exact List.mem_of_getElem? (i := 1) rfl
    | 3, hk => cases hk; exact List.mem_of_getElem? (i := 0) rfl
    | k + 4, hk => cases k <;> cases hk
