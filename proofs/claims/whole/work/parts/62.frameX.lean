/-- a change of the transactions' cells alone -/
theorem Rel_X {x x' y y' : St} {c : Nat} (h : Rel c x y) (hc : c < 512) (hx : ∀ a k, a < 57 ∨ 77 ≤ a → gi x' a k = gi x a k) (hy : ∀ a k, a < 22 ∨ 30 < a → ¬ (a = 0 ∧ k = 50) → gi y' a k = gi y a k)
    (hX : ∀ N E, N ≤ 24 → RE N E x y → RN N x y → (∀ u, u < 4 → RX N E x y u) → ∀ u, u < 4 → RX N E x' y' u) (hC : ∀ P, RC9 c P x → RC9 (c + 1) P x') : Rel (c + 1) x' y' := by
  obtain ⟨N, E, T, P, R, h1, -, h2, h3, h4, h5, h6, h7, h8, h9, h10, h11, h12, h13, h14, h15⟩ := h
  have hlv : lv x' = lv x := lv_cg fun k => hx _ _ (by decide)
  refine ⟨N, E, T, P, R, by omega, by omega, ?_, ?_, ?_, ?_, ?_, ?_, hX N E h2.1 h3 h2 h8, ?_, ?_, ?_, ?_, ?_, ?_, hC P h15⟩
  · unfold RN at *
    simpa (disch := omega) only [hx, hy] using h2
  · unfold RE at *
    simpa (disch := omega) only [hx, hy] using h3
  · unfold RT at *
    simpa (disch := omega) only [hx, hy] using h4
  · unfold RM at *
    simpa (disch := omega) only [hx, hy] using h5
  · unfold RW at *
    simpa (disch := omega) only [hx, hy] using h6
  · unfold RG at *
    simpa (disch := omega) only [hx, hy] using h7
  · unfold RK at *
    simpa (disch := omega) only [hx, hy] using h9
  · unfold RS at *
    rw [hlv]
    simpa (disch := omega) only [hx] using h10
  · unfold RR at *
    simpa (disch := omega) only [hx, hy] using h11
  · intro l n hl hn
    rw [tol_cg (fun k => hx _ _ (by decide)) (fun k => hx _ _ (by decide)) (fun k => hx _ _ (by decide)) (fun k => hx _ _ (by decide)), kno_cg (fun k => hx _ _ (by decide)) (fun k => hx _ _ (by decide)) (fun k => hx _ _ (by decide)) (fun k => hx _ _ (by decide)) (fun k => hx _ _ (by decide)) (fun k => hx _ _ (by decide)) (fun k => hx _ _ (by decide)) (fun k => hx _ _ (by decide)), hx _ _ (by omega), hx _ _ (by omega)]
    exact h12 l n hl hn
  · have hs : ∀ u i, stk x' u i = stk x u i := fun u i => stk_cg u (fun k => hx _ _ (by omega)) i
    unfold RP RPc at *
    simpa (disch := omega) only [hx, hy, hs] using h13
  · unfold RQ at *
    rw [hlv]
    simpa (disch := omega) only [hx] using h14
theorem cnt_or1 (s : Int32) {k : Nat} (hk : k < 32) : cnt (hs (s ||| bit1 k)) 24 ≤ cnt (hs s) 24 + 1 := by
  have key : ∀ n, n ≤ 24 → cnt (hs (s ||| bit1 k)) n ≤ cnt (hs s) n + (if k < n then 1 else 0) := fun n => by
    induction n with
    | zero => intro _; exact Nat.zero_le _
    | succ n ih =>
      intro hn
      have ih := ih (by omega)
      show (if hs (s ||| bit1 k) n then cnt (hs (s ||| bit1 k)) n + 1 else cnt (hs (s ||| bit1 k)) n) ≤ (if hs s n then cnt (hs s) n + 1 else cnt (hs s) n) + (if k < n + 1 then 1 else 0)
      rw [hs_or, hs_bit1 k hk n (by omega)]
      by_cases e : n = k
      · subst e
        rw [if_neg (Nat.lt_irrefl n)] at ih
        cases hs s n <;> simp <;> omega
      · simp only [e, decide_false, Bool.or_false]
        have e9 : (k < n + 1) = (k < n) := by rw [eq_iff_iff]; omega
        simp only [e9]
        cases hs s n <;> simp only [if_true, if_false, Bool.false_eq_true] <;> omega
  have := key 24 (Nat.le_refl _)
  split at this <;> omega
