/-! loops with what holds at each place; a loop may leave early -/
theorem loop_gen {X E : Type} {step : X → Option (X ⊕ E)} (N : Nat) (I : Nat → X → Prop) {Q : E → Prop} {x0 : X} (h0 : I 0 x0) (hb : ∀ k x, k ≤ N → I k x → (∃ e, step x = some (.inr e) ∧ Q e) ∨ (k < N ∧ ∃ x', step x = some (.inl x') ∧ I (k + 1) x')) : ∃ e, loopF step x0 = some e ∧ Q e := by
  have key : ∀ m k x, k + m = N → I k x → ∃ e, loopF step x = some e ∧ Q e := by
    intro m
    induction m with
    | zero =>
      intro k x hk hi
      rcases hb k x (by omega) hi with ⟨e, h1, h2⟩ | ⟨h, _⟩
      · exact ⟨e, loopF_end h1, h2⟩
      · omega
    | succ m ih =>
      intro k x hk hi
      rcases hb k x (by omega) hi with ⟨e, h1, h2⟩ | ⟨h, x', h1, h2⟩
      · exact ⟨e, loopF_end h1, h2⟩
      · obtain ⟨e, h3, h4⟩ := ih (k + 1) x' (by omega) h2
        exact ⟨e, loopF_go h1 h3, h4⟩
  exact key N 0 x0 (by omega) h0
/-- a loop over a state and a place -/
theorem loop_st {step : St × Int32 → Option ((St × Int32) ⊕ (St × Int32))} (N : Nat) (I : Nat → St → Prop) {x0 : St} (h0 : I 0 x0) (hb : ∀ k x, k < N → I k x → ∃ x', step (x, n32 k) = some (.inl (x', n32 (k + 1))) ∧ I (k + 1) x') (he : ∀ x, I N x → step (x, n32 N) = some (.inr (x, n32 N))) : ∃ x', loopF step (x0, n32 0) = some (x', n32 N) ∧ I N x' := by
  obtain ⟨e, h1, h2⟩ := loop_gen (step := step) N (fun k z => z.2 = n32 k ∧ I k z.1) (Q := fun e => e.2 = n32 N ∧ I N e.1) (x0 := (x0, n32 0)) ⟨rfl, h0⟩ (fun k z hk hz => by
    obtain ⟨x, j⟩ := z
    obtain ⟨hj, hz⟩ := hz
    have hj : j = n32 k := hj
    subst hj
    by_cases e : k = N
    · subst e
      exact Or.inl ⟨_, he x hz, rfl, hz⟩
    · obtain ⟨x', h1, h2⟩ := hb k x (by omega) hz
      exact Or.inr ⟨by omega, _, h1, rfl, h2⟩)
  obtain ⟨x', j⟩ := e
  obtain ⟨hj, h2⟩ := h2
  have hj : j = n32 N := hj
  subst hj
  exact ⟨x', h1, h2⟩
/-- a loop over a state, a place and one thing more -/
theorem loop_sa {step : St × Int32 × Int32 → Option ((St × Int32 × Int32) ⊕ (St × Int32 × Int32))} (N : Nat) (I : Nat → St → Int32 → Prop) {x0 : St} {v0 : Int32} (h0 : I 0 x0 v0) (hb : ∀ k x v, k < N → I k x v → ∃ x' v', step (x, v, n32 k) = some (.inl (x', v', n32 (k + 1))) ∧ I (k + 1) x' v') (he : ∀ x v, I N x v → step (x, v, n32 N) = some (.inr (x, v, n32 N))) : ∃ x' v', loopF step (x0, v0, n32 0) = some (x', v', n32 N) ∧ I N x' v' := by
  obtain ⟨e, h1, h2⟩ := loop_gen (step := step) N (fun k z => z.2.2 = n32 k ∧ I k z.1 z.2.1) (Q := fun e => e.2.2 = n32 N ∧ I N e.1 e.2.1) (x0 := (x0, v0, n32 0)) ⟨rfl, h0⟩ (fun k z hk hz => by
    obtain ⟨x, v, j⟩ := z
    obtain ⟨hj, hz⟩ := hz
    have hj : j = n32 k := hj
    subst hj
    by_cases e : k = N
    · subst e
      exact Or.inl ⟨_, he x v hz, rfl, hz⟩
    · obtain ⟨x', v', h1, h2⟩ := hb k x v (by omega) hz
      exact Or.inr ⟨by omega, _, h1, rfl, h2⟩)
  obtain ⟨x', v', j⟩ := e
  obtain ⟨hj, h2⟩ := h2
  have hj : j = n32 N := hj
  subst hj
  exact ⟨x', v', h1, h2⟩
theorem fold_rel {α : Type} {S : α → α → Prop} (rf : ∀ a, S a a) (tr : ∀ a b c, S a b → S b c → S a c) {body : Nat → α → α} {a : α} : ∀ {n : Nat}, (∀ k b, k < n → S b (body k b)) → S a (fold body a n)
  | 0, _ => rf a
  | n + 1, h => tr _ _ _ (fold_rel rf tr fun k b hk => h k b (by omega)) (h n _ (by omega))
theorem fold_fix {α : Type} {body : Nat → α → α} {a : α} : ∀ {n : Nat}, (∀ k, k < n → body k a = a) → fold body a n = a
  | 0, _ => rfl
  | n + 1, h => by
    show body n (fold body a n) = a
    rw [fold_fix fun k hk => h k (by omega)]
    exact h n (by omega)
theorem gat_stop {p : Nat → Bool} {f : Nat → Int32} {k : Nat} : ∀ {m : Nat}, k ≤ m → (∀ i, k ≤ i → i < m → p i = false) → gat p f m = gat p f k
  | 0, h, _ => by rw [Nat.le_zero.mp h]
  | m + 1, h, hp => by
    by_cases e : k = m + 1
    · rw [e]
    · show (if p m then gat p f m ||| f m else gat p f m) = gat p f k
      rw [hp m (by omega) (by omega), if_neg (by decide)]
      exact gat_stop (by omega) fun i h1 h2 => hp i h1 (by omega)
theorem gat_succ (p : Nat → Bool) (f : Nat → Int32) (n : Nat) : gat p f (n + 1) = if p n then gat p f n ||| f n else gat p f n := rfl
