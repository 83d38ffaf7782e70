/-! the cells made are the system's at first -/
def c_get : List (Nat × Int) → Nat → Option Int
  | [], _ => none
  | (a, v) :: l, j => if a = j then some v else c_get l j
def c_val (ad : Nat → Nat) : QV → Value
  | .inl z => .int (Int32.ofInt z)
  | .inr (.inl z) => .long (Int64.ofInt z)
  | .inr (.inr none) => .null
  | .inr (.inr (some (_, a))) => .ref (ad a.toNat)
def c_ct (ad : Nat → Nat) (k : Nat) (ov : List (Nat × Int)) : (Nat → Int32) ⊕ (Nat → Int64) ⊕ (Nat → UInt32) ⊕ (Nat → UInt64) ⊕ (Nat → Option Nat) := match k with
  | 0 => .inl (fun j => Int32.ofInt ((c_get ov j).getD 0))
  | 1 => .inl (fun j => Int32.ofInt ((c_get ov j).getD 0))
  | 2 => .inr (.inl (fun j => Int64.ofInt ((c_get ov j).getD 0)))
  | 3 => .inl (fun j => Int32.ofInt ((c_get ov j).getD 0))
  | _ => .inr (.inr (.inr (.inr (fun j => (c_get ov j).map (fun b => ad b.toNat)))))
def c_cel (cid : Nat → ClassId) (ad : Nat → Nat) : QCE → va_E
  | .inl (k, n, ov) => .inl (cid k, n, c_ct ad k ov)
  | .inr (ci, fs) => .inr (ci, fs.map (c_val ad))
def c_wsa (cid : Nat → ClassId) (ad : Nat → Nat) : Nat → List QCE → va_W
  | _, [] => []
  | n, e :: l => (ad n, c_cel cid ad e) :: c_wsa cid ad (n + 1) l
theorem c_wsa_get (cid : Nat → ClassId) (ad : Nat → Nat) : ∀ (l : List QCE) (n k : Nat) (e : QCE), q_get l k = some e → (c_wsa cid ad n l)[k]? = some (ad (n + k), c_cel cid ad e)
  | [], n, k, e, h => by cases k <;> cases h
  | x :: l, n, 0, e, h => by cases h; rfl
  | x :: l, n, k + 1, e, h => by
    have := c_wsa_get cid ad l (n + 1) k e h
    rw [show n + (k + 1) = n + 1 + k by omega]
    exact this
/-- is a field what it is to be -/
def c_okv (r : Nat) (i : Int) (q : Nat × Nat × Int) (v : QV) : Bool := match q.1 with
  | 0 => c_eqv v (.inl (q_h0 r i q.2.2))
  | 1 => c_eqv v (.inr (.inl (q_h0 r i q.2.2)))
  | 2 => c_eqv v (.inr (.inr (some (0, (c_sg q.2.1 i : Int))))) && decide (i < q_cnt q.2.1)
  | _ => if q_h0 r i q.2.2 < 0 then c_eqv v (.inr (.inr none)) else c_eqv v (.inr (.inr (some (0, (c_sg q.2.1 (q_h0 r i q.2.2) : Int))))) && decide (q_h0 r i q.2.2 < q_cnt q.2.1)
def c_okf (r : Nat) (i : Int) : List (Nat × Nat × Int) → List QV → Bool
  | [], [] => true
  | q :: l, v :: m => c_okv r i q v && c_okf r i l m
  | _, _ => false
def c_okr (k n r : Nat) (i : Int) (to : Nat) (a : Int) (ov : List (Nat × Int)) : Bool := match k with
  | 0 => decide (r ≠ 52) && ov.isEmpty
  | 1 => decide (r ≠ 52) && ov.isEmpty
  | 2 => if r = 52 then decide (n = 7) && (List.range 7).all (fun j => decide ((c_get ov j).getD 0 = q_h0 52 0 j)) else ov.isEmpty
  | 3 => decide (r ≠ 52) && ov.isEmpty
  | 6 => (List.range n).all (fun j => decide (c_get ov j = some (c_sg to (a * i + j) : Int)) && decide (0 ≤ a * i + j ∧ a * i + j < q_cnt to))
  | _ => (List.range n).all (fun j => decide (c_get ov j = some (c_sg to j : Int)) && decide ((j : Int) < q_cnt to))
def c_ok (r : Nat) (i : Int) : Bool := match q_get c_lit (c_sg r i) with
  | some (.inr (ci, fs)) => decide (ci = r) && (match q_ar r with
    | none => true
    | some _ => false) && (match q_get q_fks r with
    | some l => c_okf r i l fs
    | none => false)
  | some (.inl (k, n, ov)) => (match q_ar r with
    | some (k', n', to, a) => decide (13 ≤ r ∧ k < 8) && decide (k = k') && decide (n = n'.toNat) && c_okr k n r i to a ov
    | none => false)
  | none => false
theorem c_ok_all : q_pl.all (fun q => c_ok q.1 q.2) = true := by decide +kernel
theorem q_h0_z {r : Nat} (h : 13 ≤ r) (h2 : r ≠ 52) (i j : Int) : q_h0 r i j = 0 := by
  unfold q_h0
  split <;> first | omega | rfl
theorem c_arr {c : ClassId} {n : Nat} {f f' : Nat → Value} (h : ∀ j, j < n → f j = f' j) : arrV c n f = arrV c n f' := by
  unfold arrV
  congr 1
  congr 1
  funext j
  exact h j.val j.isLt
section QC3
variable {g : QG} {sz : Nat} {H : Heap}
theorem c_okv_ok {r : Nat} {i : Int} {q : Nat × Nat × Int} {v : QV} (hi : 0 ≤ i) (hg : ∀ r i, q_ok r i → g.2.1 r i = sz + c_sg r i) (h : c_okv r i q v = true) : c_val (fun x => sz + x) v = q_fv g q_h0 r i q := by
  obtain ⟨q1, q2, q3⟩ := q
  unfold c_okv at h
  unfold q_fv
  split at h
  · rename_i e
    have e : q1 = 0 := e
    subst e
    rw [c_eqv_ok h]; rfl
  · rename_i e
    have e : q1 = 1 := e
    subst e
    rw [c_eqv_ok h]; rfl
  · rename_i e
    have e : q1 = 2 := e
    subst e
    rw [Bool.and_eq_true] at h
    rw [c_eqv_ok h.1]
    show Value.ref _ = Value.ref _
    rw [hg q2 i ⟨hi, of_decide_eq_true h.2⟩]
    rfl
  · rename_i e0 e1 e2
    have e0 : q1 ≠ 0 := e0
    have e1 : q1 ≠ 1 := e1
    have e2 : q1 ≠ 2 := e2
    obtain ⟨m, rfl⟩ : ∃ m, q1 = m + 3 := ⟨q1 - 3, by omega⟩
    show _ = if q_h0 r i q3 < 0 then Value.null else .ref (g.2.1 q2 (q_h0 r i q3))
    have h : (if q_h0 r i q3 < 0 then c_eqv v (.inr (.inr none)) else c_eqv v (.inr (.inr (some (0, (c_sg q2 (q_h0 r i q3) : Int))))) && decide (q_h0 r i q3 < q_cnt q2)) = true := h
    by_cases c : q_h0 r i q3 < 0
    · rw [if_pos c] at h ⊢
      rw [c_eqv_ok h]; rfl
    · rw [if_neg c, Bool.and_eq_true] at h
      rw [if_neg c, c_eqv_ok h.1, hg q2 _ ⟨by omega, of_decide_eq_true h.2⟩]
      rfl
theorem c_okf_ok {r : Nat} {i : Int} (hi : 0 ≤ i) (hg : ∀ r i, q_ok r i → g.2.1 r i = sz + c_sg r i) : ∀ {l : List (Nat × Nat × Int)} {m : List QV}, c_okf r i l m = true → m.map (c_val (fun x => sz + x)) = l.map (q_fv g q_h0 r i)
  | [], [], _ => rfl
  | q :: l, v :: m, h => by
    have h : (c_okv r i q v && c_okf r i l m) = true := h
    rw [Bool.and_eq_true] at h
    show _ :: _ = _ :: _
    rw [c_okv_ok hi hg h.1]
    congr 1
    exact c_okf_ok hi hg h.2
  | [], _ :: _, h => by cases h
  | _ :: _, [], h => by cases h
theorem c_okr_ok {k n r : Nat} {i : Int} {to : Nat} {a : Int} {ov : List (Nat × Int)} {c : ClassId} (hk : k < 8) (hr : 13 ≤ r) (hi : r = 52 → i = 0) (hg : ∀ r i, q_ok r i → g.2.1 r i = sz + c_sg r i) (h : c_okr k n r i to a ov = true) : vp_cell c (n, c_ct (fun x => sz + x) k ov) = vp_cell c (n, q_ct g q_h0 r i k to a) := by
  have em : ov.isEmpty = true → ∀ j, (c_get ov j).getD 0 = 0 := fun e j => by
    cases ov with
    | nil => rfl
    | cons _ _ => cases e
  have ints : (decide (r ≠ 52) && ov.isEmpty) = true → arrV c n (fun j => .int (Int32.ofInt ((c_get ov j).getD 0))) = arrV c n (fun j => .int (Int32.ofInt (q_h0 r i j))) := fun h => by
    rw [Bool.and_eq_true] at h
    refine c_arr (fun j _ => ?_)
    rw [em h.2 j, q_h0_z hr (of_decide_eq_true h.1)]
  have refs : (List.range n).all (fun j => decide (c_get ov j = some (c_sg to j : Int)) && decide ((j : Int) < q_cnt to)) = true → arrV c n (fun j => va_rf ((c_get ov j).map (fun b : Int => sz + b.toNat))) = arrV c n (fun j => va_rf (some (g.2.1 to j))) := fun h => by
    refine c_arr (fun j hj => ?_)
    have := List.all_eq_true.mp h j (List.mem_range.mpr hj)
    rw [Bool.and_eq_true] at this
    have h2 := of_decide_eq_true this.2
    rw [of_decide_eq_true this.1, hg to _ ⟨by omega, h2⟩]
    rfl
  have hk8 : k = 0 ∨ k = 1 ∨ k = 2 ∨ k = 3 ∨ k = 4 ∨ k = 5 ∨ k = 6 ∨ k = 7 := by omega
  rcases hk8 with rfl | rfl | rfl | rfl | rfl | rfl | rfl | rfl
  · exact ints h
  · exact ints h
  · show arrV c n (fun j => .long (Int64.ofInt ((c_get ov j).getD 0))) = arrV c n (fun j => .long (Int64.ofInt (q_h0 r i j)))
    have h : (if r = 52 then decide (n = 7) && (List.range 7).all (fun j => decide ((c_get ov j).getD 0 = q_h0 52 0 j)) else ov.isEmpty) = true := h
    refine c_arr (fun j hj => ?_)
    by_cases c52 : r = 52
    · rw [if_pos c52, Bool.and_eq_true] at h
      have hn := of_decide_eq_true h.1
      have := of_decide_eq_true (List.all_eq_true.mp h.2 j (List.mem_range.mpr (by omega)))
      rw [this, c52, hi c52]
    · rw [if_neg c52] at h
      rw [em h j, q_h0_z hr c52]
  · exact ints h
  · exact refs h
  · exact refs h
  · show arrV c n (fun j => va_rf ((c_get ov j).map (fun b : Int => sz + b.toNat))) = arrV c n (fun j => va_rf (some (g.2.1 to (a * i + j))))
    refine c_arr (fun j hj => ?_)
    have := List.all_eq_true.mp h j (List.mem_range.mpr hj)
    rw [Bool.and_eq_true] at this
    have h2 := of_decide_eq_true this.2
    rw [of_decide_eq_true this.1, hg to _ h2]
    rfl
  · exact refs h
theorem c_bridge (hg : ∀ r i, q_ok r i → g.2.1 r i = sz + c_sg r i) (hP : va_P g.1 vwCl (c_wsa g.2.2.2.1 (fun x => sz + x) 0 c_lit) H) : va_P g.1 vwCl (q_ws g q_h0) H := by
  intro m q hq
  unfold q_ws at hq
  rw [List.getElem?_map] at hq
  cases hp : q_pl[m]? with
  | none => rw [hp] at hq; cases hq
  | some x =>
    rw [hp] at hq
    cases hq
    obtain ⟨r, i⟩ := x
    have hmem := List.mem_of_getElem? hp
    have hok := q_pl_ok _ hmem
    have hc := List.all_eq_true.mp c_ok_all _ hmem
    have hc : c_ok r i = true := hc
    unfold c_ok at hc
    cases hl : q_get c_lit (c_sg r i) with
    | none => rw [hl] at hc; cases hc
    | some e =>
      rw [hl] at hc
      have hw0 := hP _ _ (c_wsa_get g.2.2.2.1 (fun x => sz + x) c_lit 0 (c_sg r i) e hl)
      show va_at g.1 vwCl (g.2.1 r i, q_ce g q_h0 r i) H
      have ea : g.2.1 r i = sz + (0 + c_sg r i) := by rw [hg r i hok]; omega
      rw [ea]
      have hw : va_at g.1 vwCl (sz + (0 + c_sg r i), c_cel g.2.2.2.1 (fun x => sz + x) e) H := hw0
      clear hw0
      generalize sz + (0 + c_sg r i) = ad at hw ⊢
      unfold q_ce
      rcases e with ⟨k, n, ov⟩ | ⟨ci, fs⟩
      · dsimp only at hc
        cases har : q_ar r with
        | none => rw [har] at hc; cases hc
        | some z =>
          obtain ⟨k', n', to, a⟩ := z
          rw [har] at hc
          dsimp only at hc
          rw [Bool.and_eq_true, Bool.and_eq_true, Bool.and_eq_true] at hc
          obtain ⟨⟨⟨h1, h2⟩, h3⟩, h4⟩ := hc
          have h1 := of_decide_eq_true h1
          have h2 := of_decide_eq_true h2
          have h3 := of_decide_eq_true h3
          subst h2
          rw [h3] at hw h4
          have i0 : r = 52 → i = 0 := fun e52 => by
            have := hok.2
            rw [e52] at this
            have c52 : q_cnt 52 = 1 := by decide
            rw [c52] at this
            have := hok.1
            omega
          have key := c_okr_ok (c := g.2.2.2.1 k) h1.2 h1.1 i0 hg h4
          show H[ad]? = some (vp_cell _ _)
          rw [← key]
          exact hw
      · dsimp only at hc
        rw [Bool.and_eq_true, Bool.and_eq_true] at hc
        obtain ⟨⟨h1, h2⟩, h3⟩ := hc
        have h1 := of_decide_eq_true h1
        subst h1
        cases har : q_ar ci with
        | some z => rw [har] at h2; cases h2
        | none =>
          cases hf : q_get q_fks ci with
          | none => rw [hf] at h3; cases h3
          | some l =>
            rw [hf] at h3
            have key := c_okf_ok (g := g) (sz := sz) hok.1 hg h3
            have e2 : q_fs g q_h0 ci i = l.map (q_fv g q_h0 ci i) := by unfold q_fs; rw [hf]
            show va_at g.1 vwCl (ad, .inr (ci, q_fs g q_h0 ci i)) H
            rw [e2, ← key]
            exact hw
end QC3
