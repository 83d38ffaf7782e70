/-! the world of the cells in the making -/
def c_W (cid : Nat → ClassId) (sz : Nat) (E : List QCE) : va_W := c_wsa cid (fun x => sz + x) 0 E
def c_cs : QCE → Nat
  | .inl (_, n, _) => n
  | .inr (ci, _) => q_N ci
def c_sz : List QCE → Nat
  | [] => 0
  | e :: l => c_cs e + c_sz l
def c_le (E F : List QCE) : Prop := E.length ≤ F.length ∧ c_sz E ≤ c_sz F
theorem c_le_rf (E : List QCE) : c_le E E := ⟨Nat.le_refl _, Nat.le_refl _⟩
theorem c_le_tr {E F G : List QCE} (h : c_le E F) (h2 : c_le F G) : c_le E G := ⟨Nat.le_trans h.1 h2.1, Nat.le_trans h.2 h2.2⟩
theorem c_sz_app : ∀ E F : List QCE, c_sz (E ++ F) = c_sz E + c_sz F
  | [], F => by show c_sz F = 0 + c_sz F; omega
  | e :: l, F => by
    show c_cs e + c_sz (l ++ F) = c_cs e + c_sz l + c_sz F
    rw [c_sz_app l F]; omega
theorem c_le_app (E F : List QCE) : c_le E (E ++ F) := ⟨by rw [List.length_append]; omega, by rw [c_sz_app]; omega⟩
theorem c_set_len : ∀ (E : List QCE) (a : Nat) (e : QCE), (c_set E a e).length = E.length
  | [], _, _ => rfl
  | _ :: l, 0, e => rfl
  | x :: l, n + 1, e => by
    show (c_set l n e).length + 1 = l.length + 1
    rw [c_set_len l n e]
theorem c_sz_set : ∀ (E : List QCE) (a : Nat) (e0 e : QCE), q_get E a = some e0 → c_cs e = c_cs e0 → c_sz (c_set E a e) = c_sz E
  | [], _, _, _, h, _ => by cases h
  | x :: l, 0, e0, e, h, hc => by
    cases h
    show c_cs e + c_sz l = c_cs x + c_sz l
    rw [hc]
  | x :: l, n + 1, e0, e, h, hc => by
    show c_cs x + c_sz (c_set l n e) = c_cs x + c_sz l
    rw [c_sz_set l n e0 e h hc]
theorem c_rep_sz (e : QCE) : ∀ n, c_sz (c_rep n e) = n * c_cs e
  | 0 => by simp [c_rep, c_sz]
  | n + 1 => by
    show c_cs e + c_sz (c_rep n e) = _
    rw [c_rep_sz e n, Nat.succ_mul]; omega
theorem c_rep_len (e : QCE) : ∀ n, (c_rep n e).length = n
  | 0 => rfl
  | n + 1 => by show (c_rep n e).length + 1 = _; rw [c_rep_len e n]
theorem c_rep_get (e : QCE) : ∀ (n k : Nat) (x : QCE), q_get (c_rep n e) k = some x → x = e ∧ k < n
  | 0, k, x, h => by cases k <;> cases h
  | n + 1, 0, x, h => by cases h; exact ⟨rfl, Nat.succ_pos _⟩
  | n + 1, k + 1, x, h => by
    obtain ⟨h1, h2⟩ := c_rep_get e n k x h
    exact ⟨h1, Nat.succ_lt_succ h2⟩
section CW
variable {D : va_G} {A : Nat → Prop} {cid : Nat → ClassId} {sz : Nat} {H H1 : Heap}
theorem c_val_cv {g : QG} (hga : ∀ r i, g.2.1 r i = sz + i.toNat) (v : QV) : c_val (fun x => sz + x) v = q_cv g v := by
  rcases v with z | z | _ | ⟨r, i⟩
  · rfl
  · rfl
  · rfl
  · show Value.ref _ = Value.ref _
    rw [hga]
theorem c_wsa_inv (ad : Nat → Nat) : ∀ (l : List QCE) (n k : Nat) (q : Nat × va_E), (c_wsa cid ad n l)[k]? = some q → ∃ e, q_get l k = some e ∧ q = (ad (n + k), c_cel cid ad e) ∧ k < l.length
  | [], n, k, q, h => by cases k <;> cases h
  | x :: l, n, 0, q, h => by cases h; exact ⟨x, rfl, rfl, Nat.succ_pos _⟩
  | x :: l, n, k + 1, q, h => by
    obtain ⟨e, h1, h2, h3⟩ := c_wsa_inv ad l (n + 1) k q h
    refine ⟨e, h1, ?_, Nat.succ_lt_succ h3⟩
    rw [show n + (k + 1) = n + 1 + k by omega]
    exact h2
theorem c_wsa_app (ad : Nat → Nat) : ∀ (l m : List QCE) (n : Nat), c_wsa cid ad n (l ++ m) = c_wsa cid ad n l ++ c_wsa cid ad (n + l.length) m
  | [], m, n => rfl
  | x :: l, m, n => by
    show (ad n, c_cel cid ad x) :: c_wsa cid ad (n + 1) (l ++ m) = (ad n, c_cel cid ad x) :: (c_wsa cid ad (n + 1) l ++ c_wsa cid ad (n + (l.length + 1)) m)
    rw [c_wsa_app ad l m (n + 1), show n + 1 + l.length = n + (l.length + 1) by omega]
theorem c_wsa_set (ad : Nat → Nat) (e : QCE) : ∀ (l : List QCE) (n k : Nat), (c_wsa cid ad n l).set k (ad (n + k), c_cel cid ad e) = c_wsa cid ad n (c_set l k e)
  | [], n, k => rfl
  | x :: l, n, 0 => rfl
  | x :: l, n, k + 1 => by
    show (ad n, c_cel cid ad x) :: (c_wsa cid ad (n + 1) l).set k (ad (n + (k + 1)), c_cel cid ad e) = (ad n, c_cel cid ad x) :: c_wsa cid ad (n + 1) (c_set l k e)
    rw [← c_wsa_set ad e l (n + 1) k, show n + 1 + k = n + (k + 1) by omega]
theorem c_W_get {E : List QCE} {a : Nat} {e : QCE} (h : q_get E a = some e) : (c_W cid sz E)[a]? = some (sz + a, c_cel cid (fun x => sz + x) e) := by
  have := c_wsa_get cid (fun x => sz + x) E 0 a e h
  rw [Nat.zero_add] at this
  exact this
theorem c_W_set {E : List QCE} {a : Nat} {e : QCE} : (c_W cid sz E).set a (sz + a, c_cel cid (fun x => sz + x) e) = c_W cid sz (c_set E a e) := by
  have := c_wsa_set (cid := cid) (fun x => sz + x) e E 0 a
  rw [Nat.zero_add] at this
  exact this
theorem c_W_D (hA : ∀ q, sz ≤ q → A q) (E : List QCE) : va_D A (c_W cid sz E) := by
  refine ⟨fun i j p q hi hj e => ?_, fun k q hk => ?_⟩
  · obtain ⟨_, -, rfl, -⟩ := c_wsa_inv _ _ _ _ _ hi
    obtain ⟨_, -, rfl, -⟩ := c_wsa_inv _ _ _ _ _ hj
    have e : sz + (0 + i) = sz + (0 + j) := e
    omega
  · obtain ⟨_, -, rfl, -⟩ := c_wsa_inv _ _ _ _ _ hk
    exact hA _ (by show sz ≤ sz + (0 + k); omega)
theorem c_pushs {E F : List QCE} (hP : va_P D vwCl (c_W cid sz E) H) (ho : ∀ q, q < H.size → H1[q]? = H[q]?) (hF : ∀ k e, q_get F k = some e → va_at D vwCl (sz + E.length + k, c_cel cid (fun x => sz + x) e) H1) : va_P D vwCl (c_W cid sz (E ++ F)) H1 := by
  unfold c_W
  rw [c_wsa_app, Nat.zero_add]
  refine va_P.app (hP.kept (fun k q hk => ho q.1 (hP k q hk).lt)) (fun k q hk => ?_)
  obtain ⟨e, h1, rfl, -⟩ := c_wsa_inv _ _ _ _ _ hk
  have := hF k e h1
  rw [Nat.add_assoc] at this
  exact this
theorem c_push {E : List QCE} {e : QCE} (hP : va_P D vwCl (c_W cid sz E) H) (ho : ∀ q, q < H.size → H1[q]? = H[q]?) (hF : va_at D vwCl (sz + E.length, c_cel cid (fun x => sz + x) e) H1) : va_P D vwCl (c_W cid sz (E ++ [e])) H1 := by
  refine c_pushs hP ho (fun k e' h => ?_)
  match k, h with
  | 0, h => cases h; exact hF
  | k + 1, h => cases k <;> cases h
theorem c_vset_map {α : Type} (f : QV → α) : ∀ (fs : List QV) (k : Nat) (v : QV), (fs.map f).set k (f v) = (c_vset fs k v).map f
  | [], _, _ => rfl
  | _ :: l, 0, v => rfl
  | x :: l, n + 1, v => by
    show f x :: (l.map f).set n (f v) = f x :: (c_vset l n v).map f
    rw [c_vset_map f l n v]
theorem c_vset_len : ∀ (fs : List QV) (k : Nat) (v : QV), (c_vset fs k v).length = fs.length
  | [], _, _ => rfl
  | _ :: l, 0, v => rfl
  | x :: l, n + 1, v => by
    show (c_vset l n v).length + 1 = _
    rw [c_vset_len l n v]; rfl
theorem c_ct_ref {ad : Nat → Nat} {kd : Nat} (h : 4 ≤ kd) (ov : List (Nat × Int)) : c_ct ad kd ov = .inr (.inr (.inr (.inr (fun j => (c_get ov j).map (fun b => ad b.toNat))))) := by
  obtain ⟨m, rfl⟩ : ∃ m, kd = m + 4 := ⟨kd - 4, by omega⟩
  rfl
theorem c_get_up {ad : Nat → Nat} {j : Nat} {b : Int} {ov : List (Nat × Int)} : (fun i => (c_get ((j, b) :: ov) i).map (fun b : Int => ad b.toNat)) = va_up (fun i => (c_get ov i).map (fun b : Int => ad b.toNat)) j (some (ad b.toNat)) := by
  funext i
  by_cases h : i = j
  · subst h
    rw [va_up_self]
    show (if i = i then some b else c_get ov i).map _ = _
    rw [if_pos rfl]
    rfl
  · rw [va_up_ne _ _ h]
    show (if j = i then some b else c_get ov i).map _ = _
    rw [if_neg (fun q => h q.symm)]
theorem c_get_upL {j : Nat} {b : Int} {ov : List (Nat × Int)} : (fun i => Int64.ofInt ((c_get ((j, b) :: ov) i).getD 0)) = vp_updL (fun i => Int64.ofInt ((c_get ov i).getD 0)) j (Int64.ofInt b) := by
  funext i
  unfold vp_updL
  by_cases h : i = j
  · subst h
    rw [if_pos rfl]
    show Int64.ofInt ((if i = i then some b else c_get ov i).getD 0) = _
    rw [if_pos rfl]
    rfl
  · rw [if_neg h]
    show Int64.ofInt ((if j = i then some b else c_get ov i).getD 0) = _
    rw [if_neg (fun q => h q.symm)]
theorem c_up_get (a b : Nat) : ∀ (n j : Nat), j < n → c_get (c_up a b n) (a + j) = some ((b + j : Nat) : Int) := by
  intro n j hj
  unfold c_up
  have key : ∀ (l : List Nat), j ∈ l → c_get (l.map (fun i => (a + i, ((b + i : Nat) : Int)))) (a + j) = some ((b + j : Nat) : Int) := by
    intro l
    induction l with
    | nil => intro h; cases h
    | cons x l ih =>
      intro h
      show (if a + x = a + j then some ((b + x : Nat) : Int) else c_get (l.map (fun i => (a + i, ((b + i : Nat) : Int)))) (a + j)) = _
      by_cases e : x = j
      · subst e; rw [if_pos rfl]
      · rw [if_neg (by omega)]
        exact ih (List.mem_of_ne_of_mem (fun q => e q.symm) h)
  exact key _ (List.mem_range.mpr hj)
theorem c_fs_at {ci j : Nat} (hci : ci < 13) (hj : j < q_N ci) : defaultValue (q_tyF ci j) = vp_V ((c_fs ci).map (c_val (fun x => sz + x))) j := by
  have hl := List.all_eq_true.mp c_fks_len ci (List.mem_range.mpr hci)
  have hl := Nat.eq_of_beq_eq_true hl
  cases hq : q_get q_fks ci with
  | none => rw [hq] at hl; have : ([] : List (Nat × Nat × Int)).length = q_N ci := hl; simp at this; omega
  | some l =>
    rw [hq] at hl
    have hl : l.length = q_N ci := hl
    have hj2 : j < l.length := by omega
    have hfk : q_fk ci j = some l[j] := by
      unfold q_fk
      rw [hq]
      show q_get l j = _
      rw [q_get_eq, List.getElem?_eq_getElem hj2]
    have hkd := q_kd hfk
    have href := List.all_eq_true.mp c_ref_all ci (List.mem_range.mpr hci)
    rw [hq] at href
    have href := List.all_eq_true.mp href (l[j], j) (by rw [List.mem_zipIdx_iff_getElem?]; exact List.getElem?_eq_getElem hj2)
    have hv : vp_V ((c_fs ci).map (c_val (fun x => sz + x))) j = c_val (fun x => sz + x) (c_df l[j]) := by
      unfold vp_V c_fs
      rw [hq]
      show ((l.map c_df).map (c_val (fun x => sz + x))).getD j .null = _
      rw [List.getD_eq_getElem?_getD, List.getElem?_map, List.getElem?_map, List.getElem?_eq_getElem hj2]
      rfl
    rw [hv]
    generalize l[j] = x at hkd href
    obtain ⟨k, r2, z⟩ := x
    have hdef : ∀ ty : FieldType, ty.isReference = true → defaultValue ty = .null := by
      intro ty h
      cases ty <;> first | rfl | (exfalso; revert h; decide)
    unfold q_kdok at hkd
    dsimp only at hkd
    rw [Bool.and_eq_true] at hkd
    have hkd := hkd.2
    match k, hkd, href with
    | 0, hkd, _ =>
      simp only [Bool.and_eq_true, decide_eq_true_eq] at hkd
      rw [hkd.1.1]; rfl
    | 1, hkd, _ =>
      simp only [Bool.and_eq_true, decide_eq_true_eq] at hkd
      rw [hkd.1.1]; rfl
    | 2, hkd, href =>
      have href : (q_tyF ci j).isReference = true := by simpa using href
      rw [hdef _ href]; rfl
    | 3, hkd, _ =>
      simp only [Bool.and_eq_true] at hkd
      rw [hdef _ hkd.1.1]; rfl
    | k + 4, hkd, _ => cases hkd
end CW
