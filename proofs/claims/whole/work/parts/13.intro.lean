/-! a method's contract out of its step runs -/
def q_ent : List QV → QL
  | [] => []
  | v :: r => (match q_isL v with
    | true => some v :: none :: q_ent r
    | false => some v :: q_ent r)
def q_rep : Nat → QL
  | 0 => []
  | n + 1 => none :: q_rep n
def q_entry (nL : Nat) (a : List QV) : QL := q_ent a ++ q_rep (nL - (q_ent a).length)
theorem q_rep_len : ∀ n, (q_rep n).length = n
  | 0 => rfl
  | n + 1 => by show (q_rep n).length + 1 = _; rw [q_rep_len n]
theorem q_rep_get : ∀ (n k : Nat) (v : QV), q_get (q_rep n) k = some (some v) → False
  | 0, k, v, h => by cases k <;> cases h
  | n + 1, 0, v, h => by cases h
  | n + 1, k + 1, v, h => q_rep_get n k v h
theorem q_get_app : ∀ (a b : QL) (k : Nat), q_get (a ++ b) k = if k < a.length then q_get a k else q_get b (k - a.length)
  | [], b, k => by simp
  | x :: a, b, 0 => by simp [q_get]
  | x :: a, b, k + 1 => by
    show q_get (a ++ b) k = _
    rw [q_get_app a b k]
    by_cases h : k < a.length
    · rw [if_pos h, if_pos (by simpa using h)]; rfl
    · rw [if_neg h, if_neg (by simpa using h)]
      congr 1
      simp
theorem q_ent_get (g : QG) : ∀ (a : List QV) (k i : Nat) (v : QV), q_get (q_ent a) k = some (some v) → (i + k, q_cv g v) ∈ lv_args i (a.map (q_cv g)) ∧ v ∈ a
  | [], k, i, v, h => by cases k <;> cases h
  | x :: r, k, i, v, h => by
    cases hx : q_isL x with
    | true =>
      have h : q_get (some x :: none :: q_ent r) k = some (some v) := by
        have e : q_ent (x :: r) = some x :: none :: q_ent r := by
          show (match q_isL x with | true => some x :: none :: q_ent r | false => some x :: q_ent r) = _
          rw [hx]
        rw [← e]; exact h
      have hc : (q_cv g x).category = 2 := by
        rcases x with z | z | z
        · cases hx
        · rfl
        · cases hx
      have e2 : lv_args i ((x :: r).map (q_cv g)) = (i, q_cv g x) :: lv_args (i + 2) (r.map (q_cv g)) := by
        show (i, q_cv g x) :: lv_args (if (q_cv g x).category = 2 then i + 2 else i + 1) (r.map (q_cv g)) = _
        rw [if_pos hc]
      rw [e2]
      match k, h with
      | 0, h => cases h; exact ⟨List.mem_cons_self, List.mem_cons_self⟩
      | 1, h => cases h
      | k + 2, h =>
        obtain ⟨h1, h2⟩ := q_ent_get g r k (i + 2) v h
        exact ⟨List.mem_cons_of_mem _ (by rw [show i + (k + 2) = i + 2 + k by omega]; exact h1), List.mem_cons_of_mem _ h2⟩
    | false =>
      have h : q_get (some x :: q_ent r) k = some (some v) := by
        have e : q_ent (x :: r) = some x :: q_ent r := by
          show (match q_isL x with | true => some x :: none :: q_ent r | false => some x :: q_ent r) = _
          rw [hx]
        rw [← e]; exact h
      have hc := q_cat1 (g := g) hx
      have e2 : lv_args i ((x :: r).map (q_cv g)) = (i, q_cv g x) :: lv_args (i + 1) (r.map (q_cv g)) := by
        show (i, q_cv g x) :: lv_args (if (q_cv g x).category = 2 then i + 2 else i + 1) (r.map (q_cv g)) = _
        rw [if_neg (by omega)]
      rw [e2]
      match k, h with
      | 0, h => cases h; exact ⟨List.mem_cons_self, List.mem_cons_self⟩
      | k + 1, h =>
        obtain ⟨h1, h2⟩ := q_ent_get g r k (i + 1) v h
        exact ⟨List.mem_cons_of_mem _ (by rw [show i + (k + 1) = i + 1 + k by omega]; exact h1), List.mem_cons_of_mem _ h2⟩
theorem q_ent_len (g : QG) : ∀ a : List QV, (lg_sl (a.map (q_cv g))).length = (q_ent a).length
  | [] => rfl
  | x :: r => by
    have ih := q_ent_len g r
    unfold lg_sl at ih ⊢
    rw [List.map_cons, List.flatMap_cons, List.length_append, ih]
    cases hx : q_isL x with
    | true =>
      have hc : (q_cv g x).category = 2 := by
        rcases x with z | z | z
        · cases hx
        · rfl
        · cases hx
      have e : q_ent (x :: r) = some x :: none :: q_ent r := by
          show (match q_isL x with | true => some x :: none :: q_ent r | false => some x :: q_ent r) = _
          rw [hx]
      rw [e, if_pos hc]
      simp only [List.length_cons, List.length_nil]
      omega
    | false =>
      have hc := q_cat1 (g := g) hx
      have e : q_ent (x :: r) = some x :: q_ent r := by
        show (match q_isL x with | true => some x :: none :: q_ent r | false => some x :: q_ent r) = _
        rw [hx]
      rw [e, if_neg (by omega)]
      simp only [List.length_cons, List.length_nil]
      omega
theorem q_entry_get {nL : Nat} {a : List QV} (g : QG) {k : Nat} {v : QV} (h : q_get (q_entry nL a) k = some (some v)) : (k, q_cv g v) ∈ lv_args 0 (a.map (q_cv g)) ∧ v ∈ a := by
  unfold q_entry at h
  rw [q_get_app] at h
  split at h
  · have := q_ent_get g a k 0 v h
    rwa [Nat.zero_add] at this
  · exact (q_rep_get _ _ _ h).elim
theorem q_cnt_nn (r : Nat) : 0 ≤ q_cnt r := Int.natCast_nonneg _
theorem q_sk_lt {r0 : Nat} (h : r0 < 100) : q_sk r0 = 0 := by
  unfold q_sk
  split <;> first | rfl | (exfalso; omega)
theorem q_ork_le (n : Nat) : q_ork n ≤ 100 := by
  unfold q_ork
  split <;> decide
theorem q_obj {n : Nat} (hk : q_ork n = 11) : ∃ nm, (q_m n).2.2.2.1 = some (.object nm) ∧ q_mrk n = 8 + 3 := by
  unfold q_ork at hk
  unfold q_mrk
  cases ht : (q_m n).2.2.2.1 with
  | none => rw [ht] at hk; cases hk
  | some ty =>
    rw [ht] at hk
    cases ty <;> first | (cases hk; done) | exact ⟨_, rfl, rfl⟩
theorem q_intro {l : Launch} {g : QG} {d n cl : Nat} {code : QC} (wr : Bool) {a : List QV} {h : QM} {Q : Int → QM → Prop} (hL : (g.2.2.2.2.1 : Int) ≤ 100000) (hpl : plainName (q_m n).1.cls = true) (hcl : q_cn cl = (q_m n).1.cls) (hck : q_chk (q_m n).2.2.1 (q_m n).2.1 0 code = true) (hlen : Nat.ble (q_ent a).length (q_m n).2.2.1 = true) (hrk : Nat.beq (q_ork n) 99 = false)
    (body : ∀ G : QK, q_clo (q_S g) (q_tr l g d) Q cl code (q_ork n) wr G → (∀ v ∈ a, q_wv v) → q_wm h → G 0 (q_entry (q_m n).2.2.1 a) [] h) : q_tr l g (d + 1) n a h Q := by
  have hlen := Nat.le_of_ble_eq_true hlen
  refine Met.ofW (cc := (q_m n).2.1) (maxL := (q_m n).2.2.1) (ret := (q_m n).2.2.2.1) hpl rfl ?_
  intro p e s m args below meth c s₁ B hml hv
  obtain ⟨hargs, hwa, hwm, hP, hD, hK, hso⟩ := hv
  have hts := atoms_spec (ws := q_mws n) B.pre
  have hown : s.vm.findClass (q_m n).1.cls = some m.cls := findClass_of_methodNamed B.named
  have C : q_cx p (q_rm (d + 1)) s m args c 0 0 g (q_m n).2.2.1 cl (q_m n).2.1 := ⟨B.exec, B.bytes, hml, by rw [hcl]; exact hown, fun w hw => hts w (List.mem_cons_of_mem _ hw), hK, hso, by show 1 ≤ d + 1; omega, by show 64 ≤ 64 * (d + 1); omega, Nat.zero_le _, Nat.zero_le _⟩
  have hlocks := B.notSynchronized
  have hret := B.returns
  have HR : q_rets p l e (q_rm (d + 1)) s m args below meth c 0 0 (MQ below (q_Qc g (q_mrk n) Q) args s 0 0 g.2.2.1) g (q_m n).2.1 (q_ork n) Q := by
    intro z h' pc H locs L hm1 hP1 hD1 hS1 hQ
    have hfr : ∀ t : State, t.heap = H → va_F g.2.2.1 s t := fun t ht => hS1.F ht
    refine ⟨fun hd hk hz => ?_, fun hd hk hz => ?_, fun hd hk hz => ?_, fun hd hk hz => ?_, fun r hd hk hz => ?_⟩
    · have hty : ((q_m n).2.2.2.1 = some .int ∨ ((q_m n).2.2.2.1 = some .boolean ∧ (z = 0 ∨ z = 1))) ∧ q_mrk n = 1 := by
        unfold q_ork at hk
        unfold q_mrk
        cases ht : (q_m n).2.2.2.1 with
        | none => rw [ht] at hk; rcases hk with hk | ⟨hk, -⟩ <;> cases hk
        | some ty =>
          rw [ht] at hk
          cases ty <;> first | (rcases hk with hk | ⟨hk, hz2⟩ <;> first | (cases hk; done) | exact ⟨Or.inl rfl, rfl⟩ | exact ⟨Or.inr ⟨rfl, hz2⟩, rfl⟩)
      refine W.zret (ty := (q_m n).2.2.2.1.getD .int) B.exec B.bytes (by rw [hret]; rcases hty.1 with q | ⟨q, -⟩ <;> rw [q] <;> rfl) ?_ (fun t ht hW => ⟨⟨z, h', ?_, ?_, hm1, by rw [ht]; exact hP1, hD1, hQ⟩, hfr t ht⟩) hS1.2.2 hd
      · rcases hty.1 with q | ⟨q, q2⟩
        · rw [q]; rfl
        · rw [q]
          rcases q2 with rfl | rfl <;> decide +kernel
      · rw [hty.2]; rfl
      · rw [hty.2]; exact hz
    · have hty : (q_m n).2.2.2.1 = some .long ∧ q_mrk n = 2 := by
        unfold q_ork at hk
        unfold q_mrk
        cases ht : (q_m n).2.2.2.1 with
        | none => rw [ht] at hk; cases hk
        | some ty =>
          rw [ht] at hk
          cases ty <;> first | (cases hk; done) | exact ⟨rfl, rfl⟩
      refine W.lret B.exec B.bytes (by rw [hret]; exact hty.1) (fun t ht hW => ⟨⟨z, h', by rw [hty.2]; rfl, by rw [hty.2]; exact hz, hm1, by rw [ht]; exact hP1, hD1, hQ⟩, hfr t ht⟩) hS1.2.2 hd
    · subst hz
      have hty : (q_m n).2.2.2.1 = none ∧ q_mrk n = 0 := by
        unfold q_ork at hk
        unfold q_mrk
        cases ht : (q_m n).2.2.2.1 with
        | none => exact ⟨rfl, rfl⟩
        | some ty =>
          rw [ht] at hk
          cases ty <;> first | (cases hk; done)
      refine W.vret B.exec B.bytes (by rw [hret]; exact hty.1) (fun t ht hW => ⟨⟨0, h', by rw [hty.2]; rfl, by rw [hty.2]; trivial, hm1, by rw [ht]; exact hP1, hD1, hQ⟩, hfr t ht⟩) hS1.2.2 hd
    · subst hz
      obtain ⟨nm, h1, h2⟩ := q_obj hk
      refine W.aret (v := .null) B.exec B.bytes (by rw [hret]; exact h1) (Or.inl ⟨nm, rfl⟩) (Or.inl rfl) (fun t ht hW => ⟨⟨-1, h', by rw [h2]; rfl, by rw [h2]; exact Int.lt_of_lt_of_le (by decide) (q_cnt_nn 8), hm1, by rw [ht]; exact hP1, hD1, hQ⟩, hfr t ht⟩) hS1.2.2 hd
    · have h11 : q_ork n = 11 := by
        have hcn : 0 < q_cnt r := by have := hz.1; have := hz.2; omega
        have hor : q_ork n = 0 ∨ q_ork n = 1 ∨ q_ork n = 2 ∨ q_ork n = 11 ∨ q_ork n = 100 ∨ q_ork n = 99 := by
          unfold q_ork
          split <;> simp
        rcases hor with q | q | q | q | q | q
        · omega
        · omega
        · omega
        · exact q
        · exfalso
          have : r = 97 := by omega
          subst this
          revert hcn; decide +kernel
        · rw [q] at hrk; cases hrk
      have hr8 : r = 8 := by omega
      subst hr8
      obtain ⟨nm, h1, h2⟩ := q_obj h11
      refine W.aret (v := .ref (g.2.1 8 z)) B.exec B.bytes (by rw [hret]; exact h1) (Or.inl ⟨nm, rfl⟩) (Or.inr ⟨_, rfl⟩) (fun t ht hW => ⟨⟨z, h', ?_, by rw [h2]; exact hz.2, hm1, by rw [ht]; exact hP1, hD1, hQ⟩, hfr t ht⟩) hS1.2.2 hd
      rw [h2]
      show _ = Outcome.returned (some (if z < 0 then Value.null else .ref (g.2.1 8 z)))
      rw [if_neg (by have := hz.1; omega)]
  have hG := q_sound (l := l) (e := e) (below := below) (meth := meth) (Qf := MQ below (q_Qc g (q_mrk n) Q) args s 0 0 g.2.2.1) (d := d) (wr := wr) C hL ⟨Nat.le_refl _, Nat.le_refl _⟩ hck (fun r0 hr0 hsk => hsk (q_sk_lt (by have := q_ork_le n; omega))) HR
  have hb := body _ hG hwa hwm
  subst hargs
  rw [show (headSpec (q_mws n) (q_rm (d + 1))).room = q_rm (d + 1) from rfl, lg_entry_eq]
  refine hb ?_ ?_ (fun v hv => by cases hv) hwm s.heap [] _ hP hD va_S.rf (q_lc_sub (lv_entry (a.map (q_cv g)) (by rw [q_ent_len]; exact hlen)) (fun k v hk => (q_entry_get g hk).1))
  · unfold q_entry
    rw [List.length_append, q_rep_len]
    omega
  · intro k v hk
    exact hwa v (q_entry_get g hk).2
