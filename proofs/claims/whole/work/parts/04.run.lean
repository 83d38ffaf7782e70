/-! runs of steps between cuts; a step asks no more of a weaker end -/
theorem q_m_ldI {ls : QL} {k : Nat} {f f' : QV → Prop} (h : ∀ v, f v → f' v) : q_ldI ls k f → q_ldI ls k f' := by
  unfold q_ldI; split
  · exact h _
  · exact id
theorem q_m_ldL {ls : QL} {k : Nat} {f f' : QV → Prop} (h : ∀ v, f v → f' v) : q_ldL ls k f → q_ldL ls k f' := by
  unfold q_ldL; split
  · exact h _
  · exact id
theorem q_m_ldA {ls : QL} {k : Nat} {f f' : QV → Prop} (h : ∀ v, f v → f' v) : q_ldA ls k f → q_ldA ls k f' := by
  unfold q_ldA; split
  · exact h _
  · exact id
theorem q_m_i1 {st : List QV} {f f' : Int → List QV → Prop} (h : ∀ x r, f x r → f' x r) : q_i1 st f → q_i1 st f' := by
  unfold q_i1; split
  · exact h _ _
  · exact id
theorem q_m_i2 {st : List QV} {f f' : Int → Int → List QV → Prop} (h : ∀ x y r, f x y r → f' x y r) : q_i2 st f → q_i2 st f' := by
  unfold q_i2; split
  · exact h _ _ _
  · exact id
theorem q_m_l1 {st : List QV} {f f' : Int → List QV → Prop} (h : ∀ x r, f x r → f' x r) : q_l1 st f → q_l1 st f' := by
  unfold q_l1; split
  · exact h _ _
  · exact id
theorem q_m_l2 {st : List QV} {f f' : Int → Int → List QV → Prop} (h : ∀ x y r, f x y r → f' x y r) : q_l2 st f → q_l2 st f' := by
  unfold q_l2; split
  · exact h _ _ _
  · exact id
theorem q_m_ls {st : List QV} {f f' : Int → Int → List QV → Prop} (h : ∀ x y r, f x y r → f' x y r) : q_ls st f → q_ls st f' := by
  unfold q_ls; split
  · exact h _ _ _
  · exact id
theorem q_m_a1 {st : List QV} {f f' : Option (Nat × Int) → List QV → Prop} (h : ∀ x r, f x r → f' x r) : q_a1 st f → q_a1 st f' := by
  unfold q_a1; split
  · exact h _ _
  · exact id
theorem q_m_r1 {st : List QV} {f f' : Nat → Int → List QV → Prop} (h : ∀ x y r, f x y r → f' x y r) : q_r1 st f → q_r1 st f' := by
  unfold q_r1; split
  · exact h _ _ _
  · exact id
theorem q_m_ld {st : List QV} {f f' : Nat → Int → Int → List QV → Prop} (h : ∀ x y z r, f x y z r → f' x y z r) : q_ld st f → q_ld st f' := by
  unfold q_ld; split
  · exact h _ _ _ _
  · exact id
theorem q_m_stI {st : List QV} {f f' : Nat → Int → Int → Int → List QV → Prop} (h : ∀ x y z w r, f x y z w r → f' x y z w r) : q_stI st f → q_stI st f' := by
  unfold q_stI; split
  · exact h _ _ _ _ _
  · exact id
theorem q_m_stL {st : List QV} {f f' : Nat → Int → Int → Int → List QV → Prop} (h : ∀ x y z w r, f x y z w r → f' x y z w r) : q_stL st f → q_stL st f' := by
  unfold q_stL; split
  · exact h _ _ _ _ _
  · exact id
theorem q_m_v1 {st : List QV} {f f' : QV → List QV → Prop} (h : ∀ x r, f x r → f' x r) : q_v1 st f → q_v1 st f' := by
  unfold q_v1; split
  · exact h _ _
  · exact id
theorem q_m_t1 {tg : List Nat} {f f' : Nat → Prop} (h : ∀ x, f x → f' x) : q_t1 tg f → q_t1 tg f' := by
  unfold q_t1; split
  · exact h _
  · exact id
theorem q_m_ck {wr : Bool} {z : Int} {f f' : Int → Prop} (h : ∀ x, f x → f' x) : q_ck wr z f → q_ck wr z f' := by
  unfold q_ck; split
  · exact h _
  · exact And.imp_right (h _)
theorem q_m_ck64 {wr : Bool} {z : Int} {f f' : Int → Prop} (h : ∀ x, f x → f' x) : q_ck64 wr z f → q_ck64 wr z f' := by
  unfold q_ck64; split
  · exact h _
  · exact And.imp_right (h _)
theorem q_m_cond {c : ClassFile.Cond} {x y : Int} {A B A' B' : Prop} (ha : A → A') (hb : B → B') : q_cond c x y A B → q_cond c x y A' B' := by
  cases c <;> exact And.imp (fun h q => ha (h q)) (fun h q => hb (h q))
theorem q_m_sw {x : Int} {K K' : Nat → Prop} (h : ∀ t, K t → K' t) : ∀ (ts : List Nat) (lo : Int), q_sw x K lo ts → q_sw x K' lo ts
  | [], _, a => a
  | t :: ts, lo, a => ⟨fun q => h t (a.1 q), q_m_sw h ts (lo + 1) a.2⟩
theorem q_m_row {S : QS} {k r : Nat} {i : Int} {h : QM} {f f' : Int → (Int → Int) → Prop} (hf : ∀ n a, f n a → f' n a) : q_row S k r i h f → q_row S k r i h f' := by
  unfold q_row; split
  · split
    · exact hf _ _
    · exact id
  · split
    · exact hf _ _
    · exact id
theorem q_m_push {rk : Nat} {z : Int} {rest : List QV} {k k' : List QV → Prop} (h : ∀ s, k s → k' s) : q_push rk z rest k → q_push rk z rest k' := by
  unfold q_push; split
  · exact h _
  · exact h _
  · exact h _
  · exact And.imp (fun a q => h _ (a q)) (fun a q => h _ (a q))
theorem q_m_rcv {c : Nat} {args : List QV} {A A' : Prop} (h : A → A') : q_rcv c args A → q_rcv c args A' := by
  unfold q_rcv; split
  · split
    · exact h
    · exact id
  · exact id
def q_tm (T : QT) : Prop := ∀ (m : Nat) (a : List QV) (h : QM) (Q Q' : Int → QM → Prop), (∀ z h', Q z h' → Q' z h') → T m a h Q → T m a h Q'
theorem q_m_call {T : QT} (hT : q_tm T) {kinds : Nat → Bool} {cc : Option (Nat × Nat × Nat × Nat × Nat)} {st : List QV} {h : QM} {k k' : List QV → QM → Prop} (hk : ∀ s h', k s h' → k' s h') : q_call T kinds cc st h k → q_call T kinds cc st h k' := by
  unfold q_call
  split
  · split
    · split
      · split
        · split
          · exact q_m_rcv (hT _ _ _ _ _ (fun z h' => q_m_push (fun s => hk s h')))
          · exact hT _ _ _ _ _ (fun z h' => q_m_push (fun s => hk s h'))
        · exact id
      · exact id
    · exact id
  · exact id
theorem q_m_sp {S : QS} {kind : Nat} {st : List QV} {h : QM} {k k' : List QV → QM → Prop} (hk : ∀ s h', k s h' → k' s h') : q_sp S kind st h k → q_sp S kind st h k' := by
  unfold q_sp
  split
  · refine q_m_i2 (fun x y r => ?_)
    split
    · exact hk _ _
    · exact id
  · refine q_m_i2 (fun x y r => ?_)
    split
    · exact hk _ _
    · exact id
  · split
    · split
      · exact And.imp_right (hk _ _)
      · exact id
    · exact id
  · exact id
theorem q_m_gf {cl idx : Nat} {st : List QV} {h : QM} {k k' : List QV → Prop} (hk : ∀ s, k s → k' s) : q_gf cl idx st h k → q_gf cl idx st h k' := by
  refine q_m_r1 (fun r i rest => ?_)
  split
  · split
    · split
      · exact hk _
      · exact hk _
      · exact hk _
      · exact And.imp_right (hk _)
      · exact id
    · exact id
  · exact id
theorem q_m_pf {cl idx : Nat} {st : List QV} {h : QM} {k k' : List QV → QM → Prop} (hk : ∀ s h', k s h' → k' s h') : q_pf cl idx st h k → q_pf cl idx st h k' := by
  unfold q_pf
  split
  · split
    · split
      · split
        · exact hk _ _
        · exact hk _ _
        · split
          · exact hk _ _
          · exact id
        · exact id
      · exact id
    · exact id
  · exact id
theorem q_m_aal {r : Nat} {i j : Int} {k k' : QV → Prop} (hk : ∀ v, k v → k' v) : q_aal r i j k → q_aal r i j k' := by
  unfold q_aal
  split
  · exact And.imp_right (hk _)
  · exact And.imp_right (hk _)
  · exact And.imp_right (hk _)
  · exact And.imp_right (hk _)
  · exact id
theorem q_m_bal {r : Nat} {i j : Int} {h : QM} {k k' : Int → Prop} (hk : ∀ v, k v → k' v) : q_bal r i j h k → q_bal r i j h k' := by
  unfold q_bal
  split
  · exact And.imp_right (hk _)
  · exact And.imp_right (hk _)
  · exact id
theorem q_m_bas {r : Nat} {i j v : Int} {h : QM} {k k' : QM → Prop} (hk : ∀ v, k v → k' v) : q_bas r i j v h k → q_bas r i j v h k' := by
  unfold q_bas
  split
  · exact And.imp_right (hk _)
  · exact And.imp_right (hk _)
  · exact id
theorem q_m_ias {kd r : Nat} {i j v : Int} {h : QM} {k k' : QM → Prop} (hk : ∀ v, k v → k' v) : q_ias kd r i j v h k → q_ias kd r i j v h k' := by
  unfold q_ias
  split
  · split
    · exact And.imp_right (hk _)
    · exact id
  · exact id
theorem q_m_alen {S : QS} {r : Nat} {k k' : Int → Prop} (hk : ∀ v, k v → k' v) : q_alen S r k → q_alen S r k' := by
  unfold q_alen
  split
  · exact hk _
  · split
    · exact id
    · exact hk _
set_option maxHeartbeats 4000000 in
theorem q_m_step {S : QS} {T : QT} {Q : Int → QM → Prop} {cl : Nat} {code : QC} {rk : Nat} {wr : Bool} {K K' : QK} (hT : q_tm T) (hK : ∀ pc ls st h, K pc ls st h → K' pc ls st h) {pc : Nat} {ls : QL} {st : List QV} {h : QM} :
    q_step S T Q cl code rk wr K pc ls st h → q_step S T Q cl code rk wr K' pc ls st h := by
  unfold q_step
  split
  · exact id
  · rename_i ins nx tg _
    cases ins <;> dsimp only <;> repeat (first
      | with_reducible exact id
      | exact hK _ _ _ _
      | refine q_m_ldI (fun _ => ?_) | refine q_m_ldL (fun _ => ?_) | refine q_m_ldA (fun _ => ?_)
      | refine q_m_i1 (fun _ _ => ?_) | refine q_m_i2 (fun _ _ _ => ?_) | refine q_m_l1 (fun _ _ => ?_) | refine q_m_l2 (fun _ _ _ => ?_) | refine q_m_ls (fun _ _ _ => ?_) | refine q_m_a1 (fun _ _ => ?_)
      | refine q_m_r1 (fun _ _ _ => ?_) | refine q_m_ld (fun _ _ _ _ => ?_) | refine q_m_stI (fun _ _ _ _ _ => ?_) | refine q_m_stL (fun _ _ _ _ _ => ?_) | refine q_m_v1 (fun _ _ => ?_) | refine q_m_t1 (fun _ => ?_)
      | refine q_m_ck (fun _ => ?_) | refine q_m_ck64 (fun _ => ?_) | refine q_m_cond ?_ ?_ | refine q_m_row (fun _ _ => ?_) | refine q_m_call hT (fun _ _ => ?_) | refine q_m_sp (fun _ _ => ?_) | refine q_m_gf (fun _ => ?_) | refine q_m_pf (fun _ _ => ?_)
      | refine q_m_aal (fun _ => ?_) | refine q_m_bal (fun _ => ?_) | refine q_m_bas (fun _ => ?_) | refine q_m_ias (fun _ => ?_) | refine q_m_alen (fun _ => ?_)
      | refine And.imp (fun a q => hK _ _ _ _ (a q)) (q_m_sw (fun _ => hK _ _ _ _) _ _)
      | refine And.imp_right ?_
      | split)
def q_mask : List Bool → QL → QL
  | true :: b, a :: l => a :: q_mask b l
  | false :: b, _ :: l => none :: q_mask b l
  | _, l => l
/-- G holds wherever a step leads to it; and whoever knows less of the locals knows it too -/
def q_clo (S : QS) (T : QT) (Q : Int → QM → Prop) (cl : Nat) (code : QC) (rk : Nat) (wr : Bool) (G : QK) : Prop :=
  q_tm T ∧ (∀ pc ls st h, q_step S T Q cl code rk wr G pc ls st h → G pc ls st h) ∧ ∀ (b : List Bool) pc ls st h, G pc (q_mask b ls) st h → G pc ls st h
def q_run (S : QS) (T : QT) (Q : Int → QM → Prop) (cl : Nat) (code : QC) (rk : Nat) (wr : Bool) (cuts : List (Nat × List Bool)) (G : QK) : Nat → QK
  | 0 => G
  | n + 1 => q_step S T Q cl code rk wr (fun pc ls st h => match q_find2 cuts pc with
    | some b => G pc (q_mask b ls) st h
    | none => q_run S T Q cl code rk wr cuts G n pc ls st h)
theorem q_run_ok {S : QS} {T : QT} {Q : Int → QM → Prop} {cl : Nat} {code : QC} {rk : Nat} {wr : Bool} {cuts : List (Nat × List Bool)} {G : QK} (hG : q_clo S T Q cl code rk wr G) :
    ∀ (n : Nat) {pc : Nat} {ls : QL} {st : List QV} {h : QM}, q_run S T Q cl code rk wr cuts G n pc ls st h → G pc ls st h
  | 0, _, _, _, _, a => a
  | n + 1, pc, ls, st, h, a => by
    refine hG.2.1 pc ls st h (q_m_step hG.1 (fun pc ls st h b => ?_) a)
    split at b
    · exact hG.2.2 _ _ _ _ _ b
    · exact q_run_ok hG n b
/-- a loop: a measure that falls -/
theorem q_loop {σ : Type} {P I : σ → Prop} (μ : σ → Nat) (hs : ∀ s, I s → (∀ s', I s' → μ s' < μ s → P s') → P s) : ∀ s, I s → P s := by
  have key : ∀ (n : Nat) (s : σ), μ s < n → I s → P s := by
    intro n
    induction n with
    | zero => intro s h; exact absurd h (Nat.not_lt_zero _)
    | succ n ih => intro s h hI; exact hs s hI (fun s' h1 h2 => ih s' (by omega) h1)
  intro s hI
  exact key (μ s + 1) s (Nat.lt_succ_self _) hI
