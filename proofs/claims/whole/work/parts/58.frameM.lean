section FRAMEM
variable {x x' y y' : St}
theorem lv_cg (hx : ∀ k, gi x' 3 k = gi x 3 k) : lv x' = lv x := funext fun k => by unfold lv; rw [hx]
theorem le_cg (hx : ∀ k, gi x' 12 k = gi x 12 k) : le x' = le x := funext fun k => by unfold le; rw [hx]
theorem fr_cg (hx : ∀ k, gi x' 13 k = gi x 13 k) : fr x' = fr x := funext fun k => by unfold fr; rw [hx]
theorem tt_cg (hx : ∀ k, gi x' 15 k = gi x 15 k) : tt x' = tt x := funext fun k => by unfold tt; rw [hx]
theorem kl_cg (hx : ∀ k, gi x' 14 k = gi x 14 k) : kl x' = kl x := funext fun k => by unfold kl; rw [hx]
theorem tol_cg {E : Nat} (h12 : ∀ k, gi x' 12 k = gi x 12 k) (h13 : ∀ k, gi x' 13 k = gi x 13 k) (h14 : ∀ k, gi x' 14 k = gi x 14 k) (h15 : ∀ k, gi x' 15 k = gi x 15 k) : tol E x' = tol E x := funext fun l => funext fun n => by
  unfold tol
  rw [le_cg h12, fr_cg h13, kl_cg h14, tt_cg h15]
theorem pss_cg {R : Nat} (h24 : ∀ k, gi x' 24 k = gi x 24 k) (h25 : ∀ k, gi x' 25 k = gi x 25 k) (h26 : ∀ k, gi x' 26 k = gi x 26 k) (h27 : ∀ k, gi x' 27 k = gi x 27 k) : pss R x' = pss R x := by
  have e : psx x' = psx x := funext fun r => funext fun n => funext fun K => by
    unfold psx rA rB rC
    rw [h24, h25, h26, h27]
  funext K
  unfold pss
  rw [e]
theorem kno_cg {R E : Nat} (h12 : ∀ k, gi x' 12 k = gi x 12 k) (h13 : ∀ k, gi x' 13 k = gi x 13 k) (h14 : ∀ k, gi x' 14 k = gi x 14 k) (h15 : ∀ k, gi x' 15 k = gi x 15 k) (h24 : ∀ k, gi x' 24 k = gi x 24 k) (h25 : ∀ k, gi x' 25 k = gi x 25 k) (h26 : ∀ k, gi x' 26 k = gi x 26 k) (h27 : ∀ k, gi x' 27 k = gi x 27 k) : kno R E x' = kno R E x := by
  unfold kno
  rw [tol_cg h12 h13 h14 h15, pss_cg h24 h25 h26 h27]
theorem stk_cg (u : Nat) (h : ∀ k, gi x' (79 + 6 * u) k = gi x (79 + 6 * u) k) : ∀ i, stk x' u i = stk x u i
  | 0 => rfl
  | i + 1 => by
    unfold stk
    rw [stk_cg u h i, h]
/-- a change of the machines' cells alone -/
theorem Rel_M {c : Nat} (h : Rel c x y) (hc : c < 512) (hx : ∀ a k, a ≠ 21 → a ≠ 22 → gi x' a k = gi x a k) (hl9 : ∀ a k, gl x' a k = gl x a k) (hy : ∀ a k, a ≠ 3 → a ≠ 21 → ¬ (a = 0 ∧ k = 50) → gi y' a k = gi y a k) (hM : ∀ N, RM N x y → N ≤ 24 → RM N x' y') : Rel (c + 1) x' y' := by
  obtain ⟨N, E, T, P, R, h1, -, h2, h3, h4, h5, h6, h7, h8, h9, h10, h11, h12, h13, h14, h15⟩ := h
  have hlv : lv x' = lv x := lv_cg fun k => hx _ _ (by decide) (by decide)
  refine ⟨N, E, T, P, R, by omega, by omega, ?_, ?_, ?_, hM N h5 h2.1, ?_, ?_, fun u hu => ?_, ?_, ?_, ?_, ?_, ?_, ?_, ?_⟩
  · unfold RN at *
    simpa (disch := omega) only [hx, hy] using h2
  · unfold RE at *
    simpa (disch := omega) only [hx, hy] using h3
  · unfold RT at *
    simpa (disch := omega) only [hx, hy] using h4
  · unfold RW at *
    simpa (disch := omega) only [hx, hy] using h6
  · unfold RG at *
    simpa (disch := omega) only [hx, hy] using h7
  · have := h8 u hu
    unfold RX at *
    simpa (disch := omega) only [hx, hy, hl9] using this
  · unfold RK at *
    simpa (disch := omega) only [hx, hy] using h9
  · unfold RS at *
    rw [hlv]
    simpa (disch := omega) only [hx] using h10
  · unfold RR at *
    simpa (disch := omega) only [hx, hy] using h11
  · intro l n hl hn
    rw [tol_cg (fun k => hx _ _ (by decide) (by decide)) (fun k => hx _ _ (by decide) (by decide)) (fun k => hx _ _ (by decide) (by decide)) (fun k => hx _ _ (by decide) (by decide)), kno_cg (fun k => hx _ _ (by decide) (by decide)) (fun k => hx _ _ (by decide) (by decide)) (fun k => hx _ _ (by decide) (by decide)) (fun k => hx _ _ (by decide) (by decide)) (fun k => hx _ _ (by decide) (by decide)) (fun k => hx _ _ (by decide) (by decide)) (fun k => hx _ _ (by decide) (by decide)) (fun k => hx _ _ (by decide) (by decide)), hx _ _ (by omega) (by omega), hx _ _ (by omega) (by omega)]
    exact h12 l n hl hn
  · have hs : ∀ u i, stk x' u i = stk x u i := fun u i => stk_cg u (fun k => hx _ _ (by omega) (by omega)) i
    unfold RP RPc at *
    simpa (disch := omega) only [hx, hy, hs] using h13
  · unfold RQ at *
    rw [hlv]
    simpa (disch := omega) only [hx] using h14
  · obtain ⟨w, w1, w2⟩ := h15
    refine ⟨w, fun u hu q => ?_, by omega⟩
    rw [hx _ _ (by omega) (by omega)] at q ⊢
    exact w1 u hu q
end FRAMEM
