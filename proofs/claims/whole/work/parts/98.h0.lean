/-! what stands when both are made -/
def q_h0 : QM := fun r i j => match r with
  | 5 => if j = 1 then -1 else 0
  | 6 => if j = 2 ∨ j = 4 then -1 else 0
  | 7 => if j = 2 then -1 else 0
  | 8 => if j = 5 then -1 else 0
  | 10 => if j = 8 then 1 else 0
  | 11 => if j = 10 then 3 else if j = 11 then 4 else if j = 12 then -1 else 0
  | 12 => if j = 16 then -1 else 0
  | 52 => if j = 0 then 411 else if j = 1 then 14431 else if j = 2 then 259679 else if j = 3 then 1221 else if j = 4 then 316163 else if j = 5 then 841 else if j = 6 then 92275 else 0
  | _ => 0
theorem q_h0_bd (r : Nat) (i j : Int) : -1 ≤ q_h0 r i j ∧ q_h0 r i j ≤ 400000 := by
  unfold q_h0
  split <;> (repeat' split) <;> omega
theorem q_h0_st : qSt q_h0 := by
  refine ⟨0, 0, 0, fun _ _ _ => true, fun _ => (0, 0), fun _ => false, fun _ _ _ => true, fun _ => 0, -1, 3, 4, ⟨rfl, rfl, Or.inl ⟨rfl, rfl⟩, ⟨rfl, by omega, fun j hj => absurd hj (Nat.not_lt_zero _)⟩, ⟨rfl, by omega, by decide, by decide, fun i hi => absurd hi (Nat.not_lt_zero _)⟩, ⟨rfl, by omega, fun i hi => absurd hi (Nat.not_lt_zero _)⟩, fun i _ => rfl, fun i _ hb => (by cases hb), rfl⟩, ⟨Or.inl ⟨rfl, rfl⟩, Or.inl rfl, Or.inl rfl⟩, ⟨⟨rfl, by omega, fun j hj => absurd hj (Nat.not_lt_zero _)⟩, ⟨rfl, by omega, 0, by omega, rfl, fun i hi => absurd hi (Nat.not_lt_zero _)⟩, fun i _ => ⟨rfl, fun hb => (by cases hb)⟩, ⟨rfl, by omega, fun i hi => absurd hi (Nat.not_lt_zero _)⟩, rfl, ⟨rfl, rfl, rfl, rfl, rfl, rfl, rfl⟩⟩, Or.inl rfl, ⟨fun i _ j hj => absurd hj (Nat.not_lt_zero _), fun i hi => absurd hi (Nat.not_lt_zero _), fun i _ hb => (by cases hb)⟩⟩
theorem q_fk_3 : (List.range 13).all (fun ci => (List.range 46).all (fun fk => match q_fk ci fk with
  | some (3, r2, j) => decide (q_h0 ci 0 j < q_cnt r2)
  | _ => true)) = true := by decide +kernel
