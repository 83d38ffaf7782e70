/-! a text's tokens -/
def qby (tb : Nat → Int) (n i : Nat) : Int := if i < n then tb i % 256 else -1
def qbl (c : Int) : Bool := decide (c = 9 ∨ c = 10 ∨ c = 13 ∨ c = 32)
def qle (c : Int) : Bool := decide (97 ≤ c ∧ c ≤ 122)
def qdi (c : Int) : Bool := decide (48 ≤ c ∧ c ≤ 57)
theorem qby_bd (tb : Nat → Int) (n i : Nat) : -1 ≤ qby tb n i ∧ qby tb n i ≤ 255 := by unfold qby; split <;> omega
theorem qby_out {tb : Nat → Int} {n i : Nat} (h : n ≤ i) : qby tb n i = -1 := by unfold qby; rw [if_neg (by omega)]
theorem qby_in {tb : Nat → Int} {n i : Nat} (h : i < n) : 0 ≤ qby tb n i := by unfold qby; rw [if_pos h]; omega
/-- on while it is so -/
def qrn (P : Nat → Bool) : Nat → Nat → Nat
  | 0, p => p
  | f + 1, p => if P p then qrn P f (p + 1) else p
def qen (P : Nat → Bool) (n p : Nat) : Nat := qrn P (n - p) p
theorem qen_e {P : Nat → Bool} {n p : Nat} (h : P p = false) : qen P n p = p := by
  unfold qen
  cases n - p with
  | zero => rfl
  | succ f => unfold qrn; rw [h]; rfl
theorem qen_s {P : Nat → Bool} {n p : Nat} (hp : p < n) (h : P p = true) : qen P n p = qen P n (p + 1) := by
  unfold qen
  rw [show n - p = (n - (p + 1)) + 1 by omega, qrn, h]; rfl
theorem qen_ok {P : Nat → Bool} {n : Nat} (hP : ∀ i, n ≤ i → P i = false) : ∀ f p, n - p ≤ f → p ≤ qen P n p ∧ (p ≤ n → qen P n p ≤ n) ∧ (∀ i, p ≤ i → i < qen P n p → P i = true) ∧ P (qen P n p) = false
  | 0, p, h => by
    have e := qen_e (n := n) (hP p (by omega))
    rw [e]
    exact ⟨Nat.le_refl _, fun q => q, fun i h1 h2 => by omega, hP p (by omega)⟩
  | f + 1, p, h => by
    cases hp : P p with
    | false =>
      rw [qen_e hp]
      exact ⟨Nat.le_refl _, fun q => q, fun i h1 h2 => by omega, hp⟩
    | true =>
      have hpn : p < n := by
        rcases Nat.lt_or_ge p n with c | c
        · exact c
        · rw [hP p c] at hp; cases hp
      obtain ⟨i1, i2, i3, i4⟩ := qen_ok hP f (p + 1) (by omega)
      rw [qen_s hpn hp]
      exact ⟨by omega, fun _ => i2 (by omega), fun i h1 h2 => by
        by_cases e : i = p
        · rw [e]; exact hp
        · exact i3 i (by omega) h2, i4⟩
/-- a row of letters as a number: eight bits each, or twenty-seven to each -/
def qvU (f : Nat → Int) : Nat → Nat
  | 0 => 0
  | k + 1 => qvU f k * 256 + (f k).toNat
def qv7 (f : Nat → Int) : Nat → Nat
  | 0 => 0
  | k + 1 => 27 * qv7 f k + (f k - 96).toNat
def qlets (f : Nat → Int) (k : Nat) : Prop := ∀ i, i < k → 97 ≤ f i ∧ f i ≤ 122
theorem qvU_same {f f' : Nat → Int} : ∀ {k k'}, qlets f k → qlets f' k' → (qvU f k = qvU f' k' ↔ k = k' ∧ ∀ i, i < k → f i = f' i)
  | 0, 0, _, _ => ⟨fun _ => ⟨rfl, fun i h => absurd h (Nat.not_lt_zero _)⟩, fun _ => rfl⟩
  | 0, k' + 1, _, h' => by
    have := h' k' (by omega)
    refine ⟨fun q => ?_, fun q => by omega⟩
    have q : 0 = qvU f' k' * 256 + (f' k').toNat := q
    omega
  | k + 1, 0, h, _ => by
    have := h k (by omega)
    refine ⟨fun q => ?_, fun q => by omega⟩
    have q : qvU f k * 256 + (f k).toNat = 0 := q
    omega
  | k + 1, k' + 1, h, h' => by
    have a := h k (by omega)
    have b := h' k' (by omega)
    have ih := qvU_same (k := k) (k' := k') (fun i hi => h i (by omega)) (fun i hi => h' i (by omega))
    show qvU f k * 256 + (f k).toNat = qvU f' k' * 256 + (f' k').toNat ↔ _
    constructor
    · intro q
      have e1 : (f k).toNat = (f' k').toNat := by omega
      obtain ⟨e2, e3⟩ := ih.mp (by omega)
      subst e2
      refine ⟨rfl, fun i hi => ?_⟩
      by_cases c : i = k
      · subst c; omega
      · exact e3 i (by omega)
    · rintro ⟨e1, e2⟩
      have e1 : k = k' := by omega
      subst e1
      rw [ih.mpr ⟨rfl, fun i hi => e2 i (by omega)⟩, e2 k (by omega)]
theorem qv7_same {f f' : Nat → Int} : ∀ {k k'}, qlets f k → qlets f' k' → (qv7 f k = qv7 f' k' ↔ k = k' ∧ ∀ i, i < k → f i = f' i)
  | 0, 0, _, _ => ⟨fun _ => ⟨rfl, fun i h => absurd h (Nat.not_lt_zero _)⟩, fun _ => rfl⟩
  | 0, k' + 1, _, h' => by
    have := h' k' (by omega)
    refine ⟨fun q => ?_, fun q => by omega⟩
    have q : 0 = 27 * qv7 f' k' + (f' k' - 96).toNat := q
    omega
  | k + 1, 0, h, _ => by
    have := h k (by omega)
    refine ⟨fun q => ?_, fun q => by omega⟩
    have q : 27 * qv7 f k + (f k - 96).toNat = 0 := q
    omega
  | k + 1, k' + 1, h, h' => by
    have a := h k (by omega)
    have b := h' k' (by omega)
    have ih := qv7_same (k := k) (k' := k') (fun i hi => h i (by omega)) (fun i hi => h' i (by omega))
    show 27 * qv7 f k + (f k - 96).toNat = 27 * qv7 f' k' + (f' k' - 96).toNat ↔ _
    constructor
    · intro q
      have e1 : (f k - 96).toNat = (f' k' - 96).toNat := by omega
      obtain ⟨e2, e3⟩ := ih.mp (by omega)
      subst e2
      refine ⟨rfl, fun i hi => ?_⟩
      by_cases c : i = k
      · subst c; omega
      · exact e3 i (by omega)
    · rintro ⟨e1, e2⟩
      have e1 : k = k' := by omega
      subst e1
      rw [ih.mpr ⟨rfl, fun i hi => e2 i (by omega)⟩, e2 k (by omega)]
theorem qv_same {f f' : Nat → Int} {k k' : Nat} (h : qlets f k) (h' : qlets f' k') : qvU f k = qvU f' k' ↔ qv7 f k = qv7 f' k' := by rw [qvU_same h h', qv7_same h h']
theorem qvU_bd {f : Nat → Int} : ∀ {k}, qlets f k → qvU f k < 256 ^ k
  | 0, _ => Nat.one_pos
  | k + 1, h => by
    have a := h k (by omega)
    have ih := qvU_bd (f := f) (k := k) (fun i hi => h i (by omega))
    show qvU f k * 256 + (f k).toNat < 256 ^ (k + 1)
    rw [Nat.pow_succ]
    omega
theorem qv7_bd {f : Nat → Int} : ∀ {k}, qlets f k → qv7 f k < 27 ^ k
  | 0, _ => Nat.one_pos
  | k + 1, h => by
    have a := h k (by omega)
    have ih := qv7_bd (f := f) (k := k) (fun i hi => h i (by omega))
    show 27 * qv7 f k + (f k - 96).toNat < 27 ^ (k + 1)
    rw [Nat.pow_succ]
    omega
theorem qvU_cong {f f' : Nat → Int} : ∀ {k}, (∀ i, i < k → f i = f' i) → qvU f k = qvU f' k
  | 0, _ => rfl
  | k + 1, h => by
    show qvU f k * 256 + _ = qvU f' k * 256 + _
    rw [qvU_cong (fun i hi => h i (by omega)), h k (by omega)]
/-- the words in quotes, from 1 on; 0: none of them -/
def qwd (u : Nat) : Nat := if u = 28518 then 1 else if u = 7566701 then 2 else if u = 1835361652 then 3 else if u = 6386278 then 4 else if u = 1885434484 then 5 else if u = 6382692 then 6 else if u = 1685221232 then 7 else 0
def qwd7 (u : Nat) : Nat := if u = 411 then 1 else if u = 14431 then 2 else if u = 259679 then 3 else if u = 1221 then 4 else if u = 316163 then 5 else if u = 841 then 6 else if u = 92275 then 7 else 0
def qwl (l : List Int) : Nat → Int := fun i => l.getD i 97
theorem qwl_l (l : List Int) (h : l.all (fun c => decide (97 ≤ c ∧ c ≤ 122)) = true) : qlets (qwl l) l.length := fun i hi => by
  unfold qwl
  rw [List.getD_eq_getElem?_getD, List.getElem?_eq_getElem hi]
  exact of_decide_eq_true (List.all_eq_true.mp h _ (List.getElem_mem hi))
theorem qwd_eq {f : Nat → Int} {k : Nat} (h : qlets f k) : qwd (qvU f k) = qwd7 (qv7 f k) := by
  have key : ∀ (l : List Int) (u v : Nat), l.all (fun c => decide (97 ≤ c ∧ c ≤ 122)) = true → qvU (qwl l) l.length = u → qv7 (qwl l) l.length = v → (qvU f k = u ↔ qv7 f k = v) := fun l u v hl hu hv => by
    rw [← hu, ← hv]; exact qv_same h (qwl_l l hl)
  have k1 := key [111, 102] 28518 411 (by decide) (by decide) (by decide)
  have k2 := key [115, 117, 109] 7566701 14431 (by decide) (by decide) (by decide)
  have k3 := key [109, 101, 101, 116] 1835361652 259679 (by decide) (by decide) (by decide)
  have k4 := key [97, 114, 102] 6386278 1221 (by decide) (by decide) (by decide)
  have k5 := key [112, 97, 114, 116] 1885434484 316163 (by decide) (by decide) (by decide)
  have k6 := key [97, 100, 100] 6382692 841 (by decide) (by decide) (by decide)
  have k7 := key [100, 114, 111, 112] 1685221232 92275 (by decide) (by decide) (by decide)
  unfold qwd qwd7
  simp only [k1, k2, k3, k4, k5, k6, k7]
theorem qwd_7 (u : Nat) : qwd u ≤ 7 := by
  unfold qwd
  repeat' split
  all_goals omega
/-- the digits from s on as a number -/
def qvD (f : Nat → Int) : Nat → Int
  | 0 => 0
  | k + 1 => 10 * qvD f k + f k - 48
def qdigs (f : Nat → Int) (k : Nat) : Prop := ∀ i, i < k → 48 ≤ f i ∧ f i ≤ 57
theorem qvD_bd {f : Nat → Int} : ∀ {k}, qdigs f k → 0 ≤ qvD f k ∧ qvD f k < 10 ^ k
  | 0, _ => ⟨Int.le_refl _, by show (0 : Int) < 1; omega⟩
  | k + 1, h => by
    have a := h k (by omega)
    have ih := qvD_bd (f := f) (k := k) (fun i hi => h i (by omega))
    show 0 ≤ 10 * qvD f k + f k - 48 ∧ 10 * qvD f k + f k - 48 < 10 ^ (k + 1)
    rw [Int.pow_succ]
    omega
/-- one token from p on: where it starts, ends, of which kind it is (0 the end, 1 a name, 2 an int, 3 none, 4 the sign, 19 and more a word), its letters, its value -/
def qTs (tb : Nat → Int) (n p : Nat) : Nat := qen (fun i => qbl (qby tb n i)) n p
def qTf (tb : Nat → Int) (n p : Nat) : Nat → Int := fun i => qby tb n (qTs tb n p + i)
def qTl (tb : Nat → Int) (n p : Nat) : Nat := qen (fun i => qle (qby tb n i)) n (qTs tb n p) - qTs tb n p
def qTd (tb : Nat → Int) (n p : Nat) : Nat := qen (fun i => qdi (qby tb n i)) n (qTs tb n p) - qTs tb n p
def qTk (tb : Nat → Int) (n p : Nat) : Nat := if n ≤ qTs tb n p then 0 else if qle (qby tb n (qTs tb n p)) then (if 8 < qTl tb n p then 3 else if qwd (qvU (qTf tb n p) (qTl tb n p)) = 0 then 1 else 19 + qwd (qvU (qTf tb n p) (qTl tb n p))) else if qdi (qby tb n (qTs tb n p)) then (if 4 < qTd tb n p then 3 else 2) else if qby tb n (qTs tb n p) = 59 then 4 else 3
def qTn (tb : Nat → Int) (n p : Nat) : Nat := if n ≤ qTs tb n p then qTs tb n p else if qle (qby tb n (qTs tb n p)) then qTs tb n p + qTl tb n p else if qdi (qby tb n (qTs tb n p)) then qTs tb n p + qTd tb n p else qTs tb n p + 1
theorem qbl_o {c : Int} (h : c ≤ 0) : qbl c = false := decide_eq_false (by omega)
theorem qle_o {c : Int} (h : c ≤ 0) : qle c = false := decide_eq_false (by omega)
theorem qdi_o {c : Int} (h : c ≤ 0) : qdi c = false := decide_eq_false (by omega)
theorem qTs_ok (tb : Nat → Int) {n p : Nat} (hp : p ≤ n) : p ≤ qTs tb n p ∧ qTs tb n p ≤ n ∧ qbl (qby tb n (qTs tb n p)) = false := by
  obtain ⟨h1, h2, h3, h4⟩ := qen_ok (P := fun i => qbl (qby tb n i)) (n := n) (fun i hi => qbl_o (by rw [qby_out hi]; decide)) (n - p) p (Nat.le_refl _)
  exact ⟨h1, h2 hp, h4⟩
theorem qTl_ok (tb : Nat → Int) {n p : Nat} (hp : p ≤ n) : qTs tb n p + qTl tb n p ≤ n ∧ qlets (qTf tb n p) (qTl tb n p) ∧ qle (qby tb n (qTs tb n p + qTl tb n p)) = false := by
  have hs := qTs_ok tb hp
  obtain ⟨h1, h2, h3, h4⟩ := qen_ok (P := fun i => qle (qby tb n i)) (n := n) (fun i hi => qle_o (by rw [qby_out hi]; decide)) (n - qTs tb n p) (qTs tb n p) (Nat.le_refl _)
  have h2 := h2 hs.2.1
  unfold qTl
  refine ⟨by omega, fun i hi => ?_, ?_⟩
  · have := h3 (qTs tb n p + i) (by omega) (by omega)
    exact of_decide_eq_true this
  · rw [Nat.add_sub_cancel' h1]; exact h4
theorem qTd_ok (tb : Nat → Int) {n p : Nat} (hp : p ≤ n) : qTs tb n p + qTd tb n p ≤ n ∧ qdigs (qTf tb n p) (qTd tb n p) ∧ qdi (qby tb n (qTs tb n p + qTd tb n p)) = false := by
  have hs := qTs_ok tb hp
  obtain ⟨h1, h2, h3, h4⟩ := qen_ok (P := fun i => qdi (qby tb n i)) (n := n) (fun i hi => qdi_o (by rw [qby_out hi]; decide)) (n - qTs tb n p) (qTs tb n p) (Nat.le_refl _)
  have h2 := h2 hs.2.1
  unfold qTd
  refine ⟨by omega, fun i hi => ?_, ?_⟩
  · have := h3 (qTs tb n p + i) (by omega) (by omega)
    exact of_decide_eq_true this
  · rw [Nat.add_sub_cancel' h1]; exact h4
/-- of so many letters -/
theorem qTl_is {tb : Nat → Int} {n p k : Nat} (hp : p ≤ n) (h1 : ∀ i, i < k → qle (qby tb n (qTs tb n p + i)) = true) (h2 : qle (qby tb n (qTs tb n p + k)) = false) : qTl tb n p = k := by
  obtain ⟨a1, a2, a3⟩ := qTl_ok tb hp
  rcases Nat.lt_trichotomy (qTl tb n p) k with c | c | c
  · rw [h1 _ c] at a3; cases a3
  · exact c
  · have := a2 k c
    have : qle (qTf tb n p k) = true := decide_eq_true this
    unfold qTf at this
    rw [h2] at this; cases this
theorem qTd_is {tb : Nat → Int} {n p k : Nat} (hp : p ≤ n) (h1 : ∀ i, i < k → qdi (qby tb n (qTs tb n p + i)) = true) (h2 : qdi (qby tb n (qTs tb n p + k)) = false) : qTd tb n p = k := by
  obtain ⟨a1, a2, a3⟩ := qTd_ok tb hp
  rcases Nat.lt_trichotomy (qTd tb n p) k with c | c | c
  · rw [h1 _ c] at a3; cases a3
  · exact c
  · have := a2 k c
    have : qdi (qTf tb n p k) = true := decide_eq_true this
    unfold qTf at this
    rw [h2] at this; cases this
theorem qTn_ok (tb : Nat → Int) {n p : Nat} (hp : p ≤ n) : qTs tb n p ≤ qTn tb n p ∧ qTn tb n p ≤ n ∧ (qTk tb n p ≠ 0 → qTs tb n p < qTn tb n p) ∧ (qTk tb n p = 0 → qTs tb n p = n ∧ qTn tb n p = n) := by
  obtain ⟨h1, h2, h3⟩ := qTs_ok tb hp
  obtain ⟨l1, l2, l3⟩ := qTl_ok tb hp
  obtain ⟨d1, d2, d3⟩ := qTd_ok tb hp
  unfold qTn qTk
  by_cases c : n ≤ qTs tb n p
  · rw [if_pos c, if_pos c]
    exact ⟨by omega, by omega, fun q => absurd rfl q, fun _ => ⟨by omega, by omega⟩⟩
  · rw [if_neg c, if_neg c]
    cases c2 : qle (qby tb n (qTs tb n p)) with
    | true =>
      rw [if_pos rfl, if_pos rfl]
      have : 0 < qTl tb n p := by
        rcases Nat.eq_zero_or_pos (qTl tb n p) with e | e
        · rw [e, Nat.add_zero, c2] at l3; cases l3
        · exact e
      refine ⟨by omega, by omega, fun _ => by omega, fun q => ?_⟩
      exfalso
      revert q
      split
      · omega
      · split <;> omega
    | false =>
      rw [if_neg Bool.false_ne_true, if_neg Bool.false_ne_true]
      cases c3 : qdi (qby tb n (qTs tb n p)) with
      | true =>
        rw [if_pos rfl, if_pos rfl]
        have : 0 < qTd tb n p := by
          rcases Nat.eq_zero_or_pos (qTd tb n p) with e | e
          · rw [e, Nat.add_zero, c3] at d3; cases d3
          · exact e
        refine ⟨by omega, by omega, fun _ => by omega, fun q => ?_⟩
        exfalso
        revert q
        split <;> omega
      | false =>
        rw [if_neg Bool.false_ne_true, if_neg Bool.false_ne_true]
        refine ⟨by omega, by omega, fun _ => by omega, fun q => ?_⟩
        exfalso
        revert q
        split <;> omega
/-- where the i-th token is looked for -/
def qTp (tb : Nat → Int) (n : Nat) : Nat → Nat
  | 0 => 0
  | i + 1 => qTn tb n (qTp tb n i)
theorem qTp_le (tb : Nat → Int) (n : Nat) : ∀ i, qTp tb n i ≤ n
  | 0 => Nat.zero_le _
  | i + 1 => (qTn_ok tb (qTp_le tb n i)).2.1
/-- the i-th token: kind, place, letters, value -/
def qK (tb : Nat → Int) (n i : Nat) : Nat := qTk tb n (qTp tb n i)
def qPl (tb : Nat → Int) (n i : Nat) : Nat := qTs tb n (qTp tb n i)
def qNU (tb : Nat → Int) (n i : Nat) : Nat := qvU (qTf tb n (qTp tb n i)) (qTl tb n (qTp tb n i))
def qN7 (tb : Nat → Int) (n i : Nat) : Nat := qv7 (qTf tb n (qTp tb n i)) (qTl tb n (qTp tb n i))
def qVa (tb : Nat → Int) (n i : Nat) : Int := qvD (qTf tb n (qTp tb n i)) (qTd tb n (qTp tb n i))
theorem qPl_lt (tb : Nat → Int) (n : Nat) {i : Nat} (h : qK tb n i ≠ 0) : ∀ {j}, i < j → qPl tb n i < qPl tb n j
  | 0, hj => absurd hj (Nat.not_lt_zero _)
  | j + 1, hj => by
    have a := qTn_ok tb (qTp_le tb n i)
    by_cases e : j = i
    · subst e
      have b := qTs_ok tb (qTp_le tb n (j + 1))
      have := a.2.2.1 h
      have e2 : qTp tb n (j + 1) = qTn tb n (qTp tb n j) := rfl
      unfold qPl
      omega
    · have ih := qPl_lt tb n h (j := j) (by omega)
      have c := qTn_ok tb (qTp_le tb n j)
      have b := qTs_ok tb (qTp_le tb n (j + 1))
      have e2 : qTp tb n (j + 1) = qTn tb n (qTp tb n j) := rfl
      unfold qPl at ih ⊢
      omega
theorem qK_le (tb : Nat → Int) (n i : Nat) : qK tb n i ≤ 4 ∨ (20 ≤ qK tb n i ∧ qK tb n i ≤ 26) := by
  have := qwd_7 (qvU (qTf tb n (qTp tb n i)) (qTl tb n (qTp tb n i)))
  unfold qK qTk
  repeat' split
  all_goals omega
/-- a name's or word's length is 8 at most -/
theorem qK_len {tb : Nat → Int} {n p : Nat} (h : qTk tb n p = 1 ∨ 19 < qTk tb n p) : qTl tb n p ≤ 8 := by
  have := qwd_7 (qvU (qTf tb n p) (qTl tb n p))
  unfold qTk at h
  revert h
  repeat' split
  all_goals omega
