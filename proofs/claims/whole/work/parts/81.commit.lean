/-! ### all that a transaction writes -/
theorem St_ext {x y : St} (h1 : ∀ a j, gi x a j = gi y a j) (h2 : ∀ a j, gl x a j = gl y a j) : x = y := Prod.ext (funext fun a => funext fun j => h1 a j) (funext fun a => funext fun j => h2 a j)
theorem ptX_at (s : St) (k T P : Nat) (v : Int32) (a j : Nat) : gi (ptX s k v T P) a j = if a = 1 ∧ j = 9 then n32 (P + 1) else if a = 9 ∧ j = P then n32 T else if a = 8 ∧ j = P then v else if a = 7 ∧ j = P then n32 k else if a = 6 ∧ j = k then n32 T else if a = 5 ∧ j = k then v else gi s a j := rfl
theorem enX_at (s : St) (a b e T a' j : Nat) : gi (enX s a b e T) a' j = if a' = 6 ∧ j = b then n32 T else if a' = 6 ∧ j = a then n32 T else if a' = 12 ∧ j = e then n32 T else gi s a' j := rfl
theorem pt_en (s : St) (k T P a b e : Nat) (v : Int32) : ptX (enX s a b e T) k v T P = enX (ptX s k v T P) a b e T := by
  refine St_ext (fun a' j => ?_) (fun _ _ => rfl)
  rw [ptX_at, enX_at, enX_at, ptX_at]
  by_cases h6 : a' = 6
  · subst h6
    by_cases q1 : j = k <;> by_cases q2 : j = b <;> by_cases q3 : j = a <;> simp [q1, q2, q3]
  · by_cases h12 : a' = 12
    · subst h12
      simp
    · simp [h6, h12]
theorem fold_comm1 {α : Type} {f : Nat → α → α} {g : α → α} (h : ∀ k s, f k (g s) = g (f k s)) (s : α) : ∀ n, fold f (g s) n = g (fold f s n)
  | 0 => rfl
  | n + 1 => by
    show f n (fold f (g s) n) = g (f n (fold f s n))
    rw [fold_comm1 h s n, h]
theorem fold_comm {α : Type} {f g : Nat → α → α} (h : ∀ k j s, f k (g j s) = g j (f k s)) (s : α) (n : Nat) : ∀ m, fold f (fold g s m) n = fold g (fold f s n) m
  | 0 => rfl
  | m + 1 => by
    show fold f (g m (fold g s m)) n = g m (fold g (fold f s n) m)
    rw [fold_comm1 (fun k s => h k m s), fold_comm h s n m]
theorem fold_stop {α : Type} {f : Nat → α → α} {a : α} {n : Nat} : ∀ {m : Nat}, n ≤ m → (∀ k b, n ≤ k → k < m → f k b = b) → fold f a m = fold f a n
  | 0, h, _ => by rw [Nat.le_zero.mp h]
  | m + 1, h, hf => by
    by_cases e : n = m + 1
    · rw [e]
    · show f m (fold f a m) = _
      rw [hf m _ (by omega) (by omega)]
      exact fold_stop (by omega) fun k b h1 h2 => hf k b h1 (by omega)
def putX (w : Nat → Bool) (vv : Nat → Int32) (T P n : Nat) (s : St) : St := if w n then ptX s n (vv n) T (P + cnt w n) else s
def putY (w : Nat → Bool) (vv : Nat → Int32) (T P n : Nat) (s : St) : St := if w n then ptY s n (vv n) T (P + cnt w n) else s
def endX (d : Nat → Bool) (f t : Nat → Nat) (T e : Nat) (s : St) : St := if d e then enX s (f e) (t e) e T else s
def endY (d : Nat → Bool) (f t : Nat → Nat) (T e : Nat) (s : St) : St := if d e then enY s (f e) (t e) e T else s
theorem putX_eq (w : Nat → Bool) (vv : Nat → Int32) (T P n : Nat) (s : St) : putX w vv T P n s = if w n then ptX s n (vv n) T (P + cnt w n) else s := rfl
theorem putY_eq (w : Nat → Bool) (vv : Nat → Int32) (T P n : Nat) (s : St) : putY w vv T P n s = if w n then ptY s n (vv n) T (P + cnt w n) else s := rfl
theorem endX_eq (d : Nat → Bool) (f t : Nat → Nat) (T e : Nat) (s : St) : endX d f t T e s = if d e then enX s (f e) (t e) e T else s := rfl
theorem endY_eq (d : Nat → Bool) (f t : Nat → Nat) (T e : Nat) (s : St) : endY d f t T e s = if d e then enY s (f e) (t e) e T else s := rfl
theorem put_end (w d : Nat → Bool) (vv : Nat → Int32) (f t : Nat → Nat) (T P n e : Nat) (s : St) : putX w vv T P n (endX d f t T e s) = endX d f t T e (putX w vv T P n s) := by
  unfold putX endX
  cases w n <;> cases d e <;> simp [pt_en]
theorem cnt_succ (w : Nat → Bool) (n : Nat) : cnt w (n + 1) = if w n then cnt w n + 1 else cnt w n := rfl
section WA
variable {N E T P R L u : Nat} {x y : St} {w d : Nat → Bool} {vv : Nat → Int32} {f t : Nat → Nat}
theorem putX_o {a j : Nat} (h : ¬ (a = 1 ∧ j = 9) ∧ (a < 5 ∨ 9 < a)) (s : St) : ∀ n, gi (fold (putX w vv T P) s n) a j = gi s a j
  | 0 => rfl
  | n + 1 => by
    show gi (putX w vv T P n (fold (putX w vv T P) s n)) a j = _
    rw [← putX_o h s n]
    unfold putX
    cases w n
    · rfl
    · exact ptX_o h
theorem putX_l (s : St) (a j : Nat) : ∀ n, gl (fold (putX w vv T P) s n) a j = gl s a j
  | 0 => rfl
  | n + 1 => by
    show gl (putX w vv T P n (fold (putX w vv T P) s n)) a j = _
    rw [← putX_l s a j n]
    unfold putX
    cases w n <;> rfl
theorem putX_5 (s : St) (k : Nat) : ∀ n, gi (fold (putX w vv T P) s n) 5 k = if k < n ∧ w k = true then vv k else gi s 5 k
  | 0 => by rw [if_neg (fun q => absurd q.1 (Nat.not_lt_zero k))]; rfl
  | n + 1 => by
    show gi (putX w vv T P n (fold (putX w vv T P) s n)) 5 k = _
    have ih := putX_5 s k n
    rw [putX_eq]
    by_cases e : k = n
    · subst e
      rw [if_neg (fun q => absurd q.1 (Nat.lt_irrefl k))] at ih
      cases h : w k
      · simp [ih]
      · rw [if_pos rfl, ptX_at]
        simp
    · have hlt : (k < n + 1) = (k < n) := by rw [eq_iff_iff]; omega
      simp only [hlt]
      rw [← ih]
      cases h : w n
      · rfl
      · rw [if_pos rfl, ptX_at]
        simp [e]
theorem putY_o {a j : Nat} (h : ¬ (a = 0 ∧ j = 11) ∧ a ≠ 2 ∧ a ≠ 6 ∧ (a < 10 ∨ 12 < a)) (s : St) : ∀ n, gi (fold (putY w vv T P) s n) a j = gi s a j
  | 0 => rfl
  | n + 1 => by
    show gi (putY w vv T P n (fold (putY w vv T P) s n)) a j = _
    rw [← putY_o h s n]
    unfold putY
    cases w n
    · rfl
    · exact ptY_o h
theorem endX_o {a j : Nat} (h : a ≠ 6 ∧ a ≠ 12) (s : St) : ∀ n, gi (fold (endX d f t T) s n) a j = gi s a j
  | 0 => rfl
  | n + 1 => by
    show gi (endX d f t T n (fold (endX d f t T) s n)) a j = _
    rw [← endX_o h s n]
    unfold endX
    cases d n
    · rfl
    · simp only [if_true]
      rw [enX_at]
      simp [h.1, h.2]
theorem endX_l (s : St) (a j : Nat) : ∀ n, gl (fold (endX d f t T) s n) a j = gl s a j
  | 0 => rfl
  | n + 1 => by
    show gl (endX d f t T n (fold (endX d f t T) s n)) a j = _
    rw [← endX_l s a j n]
    unfold endX
    cases d n <;> rfl
theorem endY_o {a j : Nat} (h : a ≠ 6 ∧ a ≠ 17) (s : St) : ∀ n, gi (fold (endY d f t T) s n) a j = gi s a j
  | 0 => rfl
  | n + 1 => by
    show gi (endY d f t T n (fold (endY d f t T) s n)) a j = _
    rw [← endY_o h s n]
    unfold endY
    cases d n
    · rfl
    · simp only [if_true]
      unfold enY
      simp (disch := omega) only [gi_no]
theorem Cor_puts (h : Cor N E T P R x y) (hP : P + cnt w N ≤ 512) : ∀ n, n ≤ N → Cor N E T (P + cnt w n) R (fold (putX w vv T P) x n) (fold (putY w vv T P) y n)
  | 0, _ => h
  | n + 1, hn => by
    have ih := Cor_puts h hP n (by omega)
    show Cor N E T (P + cnt w (n + 1)) R (putX w vv T P n (fold (putX w vv T P) x n)) (putY w vv T P n (fold (putY w vv T P) y n))
    have hm : cnt w (n + 1) ≤ cnt w N := by
      have : ∀ m, cnt w (n + 1) ≤ cnt w (n + 1 + m) := fun m => by
        induction m with
        | zero => exact Nat.le_refl _
        | succ m ih2 =>
          refine Nat.le_trans ih2 ?_
          show cnt w (n + 1 + m) ≤ cnt w (n + 1 + m + 1)
          rw [cnt_succ w (n + 1 + m)]
          split <;> omega
      have := this (N - (n + 1))
      rwa [show n + 1 + (N - (n + 1)) = N by omega] at this
    rw [cnt_succ] at hm ⊢
    rw [putX_eq, putY_eq]
    cases hw : w n
    · simpa [hw] using ih
    · rw [hw] at hm
      simp only [if_true] at hm ⊢
      have hlt : P + cnt w n < 512 := by
        have := cnt_succ w n
        omega
      exact Cor_put ih hlt
theorem Cor_ends (h : Cor N E T P R x y) : ∀ e, Cor N E T P R (fold (endX d f t T) x e) (fold (endY d f t T) y e)
  | 0 => h
  | e + 1 => by
    have ih := Cor_ends h e
    show Cor N E T P R (endX d f t T e (fold (endX d f t T) x e)) (endY d f t T e (fold (endY d f t T) y e))
    unfold endX endY
    cases d e
    · exact ih
    · exact Cor_end ih _ _ _
/-- the reference's writing -/
noncomputable def rtail (σ6 : St) (a1 a2 : Int32) : Option (Int32 × St) :=
  lt (ui σ6 0 0 ((gi σ6 0 0) + (1 : Int32))) fun σ23 => (loopF (fX11_commit_l129 σ23 a1 a2) (σ23, (0 : Int32), (0 : Int32))).bind fun x28 => (loopF (fX11_commit_l169 x28.1 a1 a2 x28.2.1) (x28.1, (0 : Int32))).bind fun x34 => (loopF (fX11_commit_l221 x34.1 a1 a2 x28.2.1) (x34.1, ((8 : Int32) * a1))).bind fun x41 => (if x28.2.1 = 0 then fX11_commit_j278 x41.1 a1 a2 else (fX11_wakes x41.1).bind fun v43 => fX11_commit_j278 v43 a1 a2)
theorem write_both (hC0 : Cor N E T P R x y) (hT : T < 512) (hu : u < 4) (hK : LK N L x y u) (hEL : E + L ≤ 60) (hP : P + cnt (hs (wr x u)) N ≤ 512) : ∃ x' y', fX10_writeAll x u = some x' ∧ (∀ a2, rtail y (n32 u) a2 = some (n32 (T + 1), y')) ∧ Cor N (E + L) (T + 1) (P + cnt (hs (wr x u)) N) R x' y' ∧ RF R (E + L) x' ∧ (∀ a j, (a = 3 ∨ a = 4 ∨ a = 17 ∨ (57 ≤ a ∧ a < 77)) → gi x' a j = gi x a j) ∧ (∀ k, k < N → gi x' 5 k = lvl x u k) ∧ gi y' 0 50 = gi y 0 50 := by
  have hC := Cor_tick hC0 hT
  obtain ⟨a1, a2, a3, a4, a5, a6, a7, a8, a9, a10, a11⟩ := id hC
  have hN := a1.1
  have hE := a2.1
  have hX := a7 u hu
  obtain ⟨hL, k1, k2, k3⟩ := id hK
  have hw : ∀ k, N ≤ k → hs (wr x u) k = false := fun k hk => (hC0.2.2.2.2.2.2.1 u hu).2.2.2.2.2.1 k hk
  have hd : ∀ e, E ≤ e → hl (dr x u) e = false := fun e he => (hC0.2.2.2.2.2.2.1 u hu).2.2.2.2.2.2.2 e he
  -- the class's two loops, one behind the other
  have cA : ∀ n, n ≤ N → Cor N E (T + 1) (P + cnt (hs (wr x u)) n) R (fold (putX (hs (wr x u)) (fun k => gi x (58 + 5 * u) k) (T + 1) P) (ui x 0 11 (n32 (T + 1))) n) (fold (putY (hs (wr x u)) (fun k => gi x (58 + 5 * u) k) (T + 1) P) (ui y 0 0 (n32 (T + 1))) n) := Cor_puts hC hP
  have cB : ∀ e, Cor N E (T + 1) (P + cnt (hs (wr x u)) N) R (fold (endX (hl (dr x u)) (fr x) (tt x) (T + 1)) (fold (putX (hs (wr x u)) (fun k => gi x (58 + 5 * u) k) (T + 1) P) (ui x 0 11 (n32 (T + 1))) N) e) (fold (endY (hl (dr x u)) (fr x) (tt x) (T + 1)) (fold (putY (hs (wr x u)) (fun k => gi x (58 + 5 * u) k) (T + 1) P) (ui y 0 0 (n32 (T + 1))) N) e) := fun e => Cor_ends (cA N (Nat.le_refl N)) e
  have cC : ∀ e, Cor N E (T + 1) P R (fold (endX (hl (dr x u)) (fr x) (tt x) (T + 1)) (ui x 0 11 (n32 (T + 1))) e) (fold (endY (hl (dr x u)) (fr x) (tt x) (T + 1)) (ui y 0 0 (n32 (T + 1))) e) := fun e => Cor_ends hC e
  have cD : ∀ n, n ≤ N → Cor N E (T + 1) (P + cnt (hs (wr x u)) n) R (fold (putX (hs (wr x u)) (fun k => gi x (58 + 5 * u) k) (T + 1) P) (fold (endX (hl (dr x u)) (fr x) (tt x) (T + 1)) (ui x 0 11 (n32 (T + 1))) E) n) (fold (putY (hs (wr x u)) (fun k => gi x (58 + 5 * u) k) (T + 1) P) (fold (endY (hl (dr x u)) (fr x) (tt x) (T + 1)) (ui y 0 0 (n32 (T + 1))) E) n) := Cor_puts (cC E) hP
  have tX : ∀ a j, ¬ (a = 0 ∧ j = 11) → gi (ui x 0 11 (n32 (T + 1))) a j = gi x a j := fun a j h => gi_no h
  have tY : ∀ a j, ¬ (a = 0 ∧ j = 0) → gi (ui y 0 0 (n32 (T + 1))) a j = gi y a j := fun a j h => gi_no h
  obtain ⟨x1, e1, hx1⟩ := loop_st (step := fX10_writeAll_l12 (ui x 0 11 (n32 (T + 1))) u) N (fun n s => s = fold (putX (hs (wr x u)) (fun k => gi x (58 + 5 * u) k) (T + 1) P) (ui x 0 11 (n32 (T + 1))) n) (x0 := ui x 0 11 (n32 (T + 1))) rfl (fun n s hn hs9 => by
      subst hs9
      have hcor := cA n (by omega)
      have g1 := hcor.1.2.1
      have g2 := hcor.2.2.1.2.1
      have g3 := hcor.2.2.2.2.2.1.2.1
      have g4 : gi (fold (putX (hs (wr x u)) (fun k => gi x (58 + 5 * u) k) (T + 1) P) (ui x 0 11 (n32 (T + 1))) n) (57 + 5 * u) 6 = wr x u := (putX_o (by omega) _ n).trans (tX _ _ (by omega))
      have g5 : gi (fold (putX (hs (wr x u)) (fun k => gi x (58 + 5 * u) k) (T + 1) P) (ui x 0 11 (n32 (T + 1))) n) (58 + 5 * u) n = gi x (58 + 5 * u) n := (putX_o (by omega) _ n).trans (tX _ _ (by omega))
      have hlt : hs (wr x u) n = true → P + cnt (hs (wr x u)) n < 512 := fun q => by
        have : cnt (hs (wr x u)) n < cnt (hs (wr x u)) N := by
          have h1 : cnt (hs (wr x u)) (n + 1) = cnt (hs (wr x u)) n + 1 := by rw [cnt_succ, q]; rfl
          have h2 : ∀ m, cnt (hs (wr x u)) (n + 1) ≤ cnt (hs (wr x u)) (n + 1 + m) := fun m => by
            induction m with
            | zero => exact Nat.le_refl _
            | succ m ih2 =>
              refine Nat.le_trans ih2 ?_
              show cnt (hs (wr x u)) (n + 1 + m) ≤ cnt (hs (wr x u)) (n + 1 + m + 1)
              rw [cnt_succ _ (n + 1 + m)]
              split <;> omega
          have := h2 (N - (n + 1))
          rw [show n + 1 + (N - (n + 1)) = N by omega] at this
          omega
        omega
      refine ⟨_, ?_, rfl⟩
      show _ = some (Sum.inl (putX (hs (wr x u)) (fun k => gi x (58 + 5 * u) k) (T + 1) P n (fold (putX (hs (wr x u)) (fun k => gi x (58 + 5 * u) k) (T + 1) P) (ui x 0 11 (n32 (T + 1))) n), n32 (n + 1)))
      unfold fX10_writeAll_l12 fX10_writeAll_j52
      generalize fold (putX (hs (wr x u)) (fun k => gi x (58 + 5 * u) k) (T + 1) P) (ui x 0 11 (n32 (T + 1))) n = s at g1 g2 g3 g4 g5
      unfold putX
      simp (disch := omega) only [eq_self, n_le, n_lt, n_inj, n_nat, gd_in, n_add, bi_z, bi_1, gd_bi, n_nonneg,  some_bind, lt_e, lit_NV, if_true, if_false, ite_true, ite_false, Option.bind_some, not_true, not_false_iff, lit_0, lit_1, lit_2, lit_3, lit_4, lit_5, lit_6, lit_7, lit_8, lit_12, lit_24, lit_25, lit_30, lit_60, lit_63, lit_96, lit_100, lit_512, lit_240, g1, Nat.not_le.mpr hn, g4, c_has (wr x u) (show n < 32 by omega)]
      cases hq : hs (wr x u) n
      · simp
      · have c9 : fX6_put s (n32 n) (gi x (58 + 5 * u) n) (n32 (T + 1)) = some (ptX s n (gi x (58 + 5 * u) n) (T + 1) (P + cnt (hs (wr x u)) n)) := c_put g3 (hlt hq) (by omega)
        simp (disch := omega) only [eq_self, n_le, n_lt, n_inj, n_nat, gd_in, n_add, bi_z, bi_1, gd_bi, n_nonneg,  some_bind, lt_e, lit_NV, if_true, if_false, ite_true, ite_false, Option.bind_some, not_true, not_false_iff, lit_0, lit_1, lit_2, lit_3, lit_4, lit_5, lit_6, lit_7, lit_8, lit_12, lit_24, lit_25, lit_30, lit_60, lit_63, lit_96, lit_100, lit_512, lit_240, Bool.true_eq_false, g5, g2, c9])
    (fun s hs9 => by
      subst hs9
      have g1 := (cA N (Nat.le_refl N)).1.2.1
      unfold fX10_writeAll_l12
      simp (disch := omega) only [eq_self, n_le, n_lt, n_inj, n_nat, gd_in, n_add, bi_z, bi_1, gd_bi, n_nonneg,  some_bind, lt_e, lit_NV, if_true, if_false, ite_true, ite_false, Option.bind_some, not_true, not_false_iff, lit_0, lit_1, lit_2, lit_3, lit_4, lit_5, lit_6, lit_7, lit_8, lit_12, lit_24, lit_25, lit_30, lit_60, lit_63, lit_96, lit_100, lit_512, lit_240, g1, Nat.le_refl])
  subst hx1
  obtain ⟨x2, e2, hx2⟩ := loop_st (step := fX10_writeAll_l60 (fold (putX (hs (wr x u)) (fun k => gi x (58 + 5 * u) k) (T + 1) P) (ui x 0 11 (n32 (T + 1))) N) u) E (fun e s => s = fold (endX (hl (dr x u)) (fr x) (tt x) (T + 1)) (fold (putX (hs (wr x u)) (fun k => gi x (58 + 5 * u) k) (T + 1) P) (ui x 0 11 (n32 (T + 1))) N) e) (x0 := fold (putX (hs (wr x u)) (fun k => gi x (58 + 5 * u) k) (T + 1) P) (ui x 0 11 (n32 (T + 1))) N) rfl (fun e s he hs9 => by
      subst hs9
      have hcor := cB e
      have g1 := hcor.2.1.2.1
      have g2 : gl (fold (endX (hl (dr x u)) (fr x) (tt x) (T + 1)) (fold (putX (hs (wr x u)) (fun k => gi x (58 + 5 * u) k) (T + 1) P) (ui x 0 11 (n32 (T + 1))) N) e) (57 + 5 * u) 8 = dr x u := (endX_l _ _ _ e).trans (putX_l _ _ _ N)
      have g3 : fr (fold (endX (hl (dr x u)) (fr x) (tt x) (T + 1)) (fold (putX (hs (wr x u)) (fun k => gi x (58 + 5 * u) k) (T + 1) P) (ui x 0 11 (n32 (T + 1))) N) e) = fr x := fr_cg fun k => (endX_o (by omega) _ e).trans ((putX_o (by omega) _ N).trans (tX _ _ (by omega)))
      have g4 : tt (fold (endX (hl (dr x u)) (fr x) (tt x) (T + 1)) (fold (putX (hs (wr x u)) (fun k => gi x (58 + 5 * u) k) (T + 1) P) (ui x 0 11 (n32 (T + 1))) N) e) = tt x := tt_cg fun k => (endX_o (by omega) _ e).trans ((putX_o (by omega) _ N).trans (tX _ _ (by omega)))
      have g5 := c_end hcor he
      rw [g3, g4] at g5
      refine ⟨_, ?_, rfl⟩
      show _ = some (Sum.inl (endX (hl (dr x u)) (fr x) (tt x) (T + 1) e (fold (endX (hl (dr x u)) (fr x) (tt x) (T + 1)) (fold (putX (hs (wr x u)) (fun k => gi x (58 + 5 * u) k) (T + 1) P) (ui x 0 11 (n32 (T + 1))) N) e), n32 (e + 1)))
      unfold fX10_writeAll_l60 fX10_writeAll_j84
      generalize fold (endX (hl (dr x u)) (fr x) (tt x) (T + 1)) (fold (putX (hs (wr x u)) (fun k => gi x (58 + 5 * u) k) (T + 1) P) (ui x 0 11 (n32 (T + 1))) N) e = s at g1 g2 g3 g4 g5
      unfold endX
      simp (disch := omega) only [eq_self, n_le, n_lt, n_inj, n_nat, gd_in, n_add, bi_z, bi_1, gd_bi, n_nonneg,  some_bind, lt_e, lit_NV, if_true, if_false, ite_true, ite_false, Option.bind_some, not_true, not_false_iff, lit_0, lit_1, lit_2, lit_3, lit_4, lit_5, lit_6, lit_7, lit_8, lit_12, lit_24, lit_25, lit_30, lit_60, lit_63, lit_96, lit_100, lit_512, lit_240, g1, Nat.not_le.mpr he, c_drops (show e < 60 by omega), g2]
      cases hl (dr x u) e
      · simp
      · simp (disch := omega) only [eq_self, n_le, n_lt, n_inj, n_nat, gd_in, n_add, bi_z, bi_1, gd_bi, n_nonneg,  some_bind, lt_e, lit_NV, if_true, if_false, ite_true, ite_false, Option.bind_some, not_true, not_false_iff, lit_0, lit_1, lit_2, lit_3, lit_4, lit_5, lit_6, lit_7, lit_8, lit_12, lit_24, lit_25, lit_30, lit_60, lit_63, lit_96, lit_100, lit_512, lit_240, Bool.true_eq_false, g5])
    (fun s hs9 => by
      subst hs9
      have g1 := (cB E).2.1.2.1
      unfold fX10_writeAll_l60
      simp (disch := omega) only [eq_self, n_le, n_lt, n_inj, n_nat, gd_in, n_add, bi_z, bi_1, gd_bi, n_nonneg,  some_bind, lt_e, lit_NV, if_true, if_false, ite_true, ite_false, Option.bind_some, not_true, not_false_iff, lit_0, lit_1, lit_2, lit_3, lit_4, lit_5, lit_6, lit_7, lit_8, lit_12, lit_24, lit_25, lit_30, lit_60, lit_63, lit_96, lit_100, lit_512, lit_240, g1, Nat.le_refl])
  have hcomm : x2 = fold (putX (hs (wr x u)) (fun k => gi x (58 + 5 * u) k) (T + 1) P) (fold (endX (hl (dr x u)) (fr x) (tt x) (T + 1)) (ui x 0 11 (n32 (T + 1))) E) N := by
    rw [hx2]
    exact (fold_comm (fun k j s => put_end _ _ _ _ _ _ _ k j s) _ N E).symm
  -- the reference's
  have r1 : ∀ b2, loopF (fX11_commit_l129 (ui y 0 0 (n32 (T + 1))) (n32 u) b2) (ui y 0 0 (n32 (T + 1)), n32 0, n32 0) = some (fold (endY (hl (dr x u)) (fr x) (tt x) (T + 1)) (ui y 0 0 (n32 (T + 1))) E, bi ((List.range 60).any (hl (dr x u))), n32 60) := fun b2 => by
    obtain ⟨s, v, e, q1, q2⟩ := loop_sa (step := fX11_commit_l129 (ui y 0 0 (n32 (T + 1))) (n32 u) b2) 60 (fun k s v => s = fold (endY (hl (dr x u)) (fr x) (tt x) (T + 1)) (ui y 0 0 (n32 (T + 1))) k ∧ v = bi ((List.range k).any (hl (dr x u)))) (x0 := ui y 0 0 (n32 (T + 1))) (v0 := n32 0) ⟨rfl, rfl⟩ (fun k s v hk hsv => by
        obtain ⟨rfl, rfl⟩ := hsv
        have hi : 60 * u + k < 240 := by omega
        have g1 : gi (fold (endY (hl (dr x u)) (fr x) (tt x) (T + 1)) (ui y 0 0 (n32 (T + 1))) k) 30 (60 * u + k) = bi (hl (dr x u) k) := (endY_o (by omega) _ k).trans (hX.2.2.2.2.2.2.1 k hk)
        refine ⟨_, _, ?_, rfl, rfl⟩
        rw [any_succ]
        show _ = some (Sum.inl (endY (hl (dr x u)) (fr x) (tt x) (T + 1) k (fold (endY (hl (dr x u)) (fr x) (tt x) (T + 1)) (ui y 0 0 (n32 (T + 1))) k), bi ((List.range k).any (hl (dr x u)) || hl (dr x u) k), n32 (k + 1)))
        cases hq : hl (dr x u) k
        · rw [hq] at g1
          have g1 : _ = n32 0 := g1
          rw [endY_eq]
          unfold fX11_commit_l129 fX11_commit_j160
          simp (disch := omega) only [eq_self, n_le, n_lt, n_inj, n_nat, gd_in, n_add, bi_z, bi_1, gd_bi, n_nonneg,  some_bind, lt_e, lit_NV, if_true, if_false, ite_true, ite_false, Option.bind_some, not_true, not_false_iff, lit_0, lit_1, lit_2, lit_3, lit_4, lit_5, lit_6, lit_7, lit_8, lit_12, lit_24, lit_25, lit_30, lit_60, lit_63, lit_96, lit_100, lit_512, lit_240, Nat.not_le.mpr hk, n_mul, g1, hq, Bool.or_false, Bool.false_eq_true]
        · have hkE : k < E := by
            rcases Nat.lt_or_ge k E with q | q
            · exact q
            · rw [hd k q] at hq
              cases hq
          have g3 : fr (fold (endX (hl (dr x u)) (fr x) (tt x) (T + 1)) (ui x 0 11 (n32 (T + 1))) k) = fr x := fr_cg fun j => (endX_o (by omega) _ k).trans (tX _ _ (by omega))
          have g4 : tt (fold (endX (hl (dr x u)) (fr x) (tt x) (T + 1)) (ui x 0 11 (n32 (T + 1))) k) = tt x := tt_cg fun j => (endX_o (by omega) _ k).trans (tX _ _ (by omega))
          have g5 := r_drops (cC k) hkE
          rw [g3, g4] at g5
          rw [hq] at g1
          have g1 : _ = n32 1 := g1
          unfold fX11_commit_l129 fX11_commit_j160
          generalize fold (endY (hl (dr x u)) (fr x) (tt x) (T + 1)) (ui y 0 0 (n32 (T + 1))) k = s at g1 g5
          unfold endY
          simp (disch := omega) only [eq_self, n_le, n_lt, n_inj, n_nat, gd_in, n_add, bi_z, bi_1, gd_bi, n_nonneg,  some_bind, lt_e, lit_NV, if_true, if_false, ite_true, ite_false, Option.bind_some, not_true, not_false_iff, lit_0, lit_1, lit_2, lit_3, lit_4, lit_5, lit_6, lit_7, lit_8, lit_12, lit_24, lit_25, lit_30, lit_60, lit_63, lit_96, lit_100, lit_512, lit_240, Nat.not_le.mpr hk, n_mul, g1, hq, Nat.one_ne_zero, g5, Bool.or_true]
          rfl)
      (fun s v hsv => by
        unfold fX11_commit_l129
        simp (disch := omega) only [eq_self, n_le, n_lt, n_inj, n_nat, gd_in, n_add, bi_z, bi_1, gd_bi, n_nonneg,  some_bind, lt_e, lit_NV, if_true, if_false, ite_true, ite_false, Option.bind_some, not_true, not_false_iff, lit_0, lit_1, lit_2, lit_3, lit_4, lit_5, lit_6, lit_7, lit_8, lit_12, lit_24, lit_25, lit_30, lit_60, lit_63, lit_96, lit_100, lit_512, lit_240, Nat.le_refl])
    rw [e, q1, q2, fold_stop hE fun k b h1 h2 => by unfold endY; rw [hd k h1]; rfl]
  have r2 : ∀ (b2 b3 : Int32), loopF (fX11_commit_l169 (fold (endY (hl (dr x u)) (fr x) (tt x) (T + 1)) (ui y 0 0 (n32 (T + 1))) E) (n32 u) b2 b3) (fold (endY (hl (dr x u)) (fr x) (tt x) (T + 1)) (ui y 0 0 (n32 (T + 1))) E, n32 0) = some (fold (putY (hs (wr x u)) (fun k => gi x (58 + 5 * u) k) (T + 1) P) (fold (endY (hl (dr x u)) (fr x) (tt x) (T + 1)) (ui y 0 0 (n32 (T + 1))) E) N, n32 24) := fun b2 b3 => by
    obtain ⟨s, e, q1⟩ := loop_st (step := fX11_commit_l169 (fold (endY (hl (dr x u)) (fr x) (tt x) (T + 1)) (ui y 0 0 (n32 (T + 1))) E) (n32 u) b2 b3) 24 (fun k s => s = fold (putY (hs (wr x u)) (fun k => gi x (58 + 5 * u) k) (T + 1) P) (fold (endY (hl (dr x u)) (fr x) (tt x) (T + 1)) (ui y 0 0 (n32 (T + 1))) E) k) (x0 := fold (endY (hl (dr x u)) (fr x) (tt x) (T + 1)) (ui y 0 0 (n32 (T + 1))) E) rfl (fun k s hk hs9 => by
        subst hs9
        have hi : 24 * u + k < 96 := by omega
        obtain ⟨w1, w2⟩ := (hC0.2.2.2.2.2.2.1 u hu).2.2.2.2.1 k hk
        have g1 : gi (fold (putY (hs (wr x u)) (fun k => gi x (58 + 5 * u) k) (T + 1) P) (fold (endY (hl (dr x u)) (fr x) (tt x) (T + 1)) (ui y 0 0 (n32 (T + 1))) E) k) 24 (24 * u + k) = bi (hs (wr x u) k) := (putY_o (by omega) _ k).trans ((endY_o (by omega) _ E).trans ((tY _ _ (by omega)).trans w1))
        have g2 : gi (fold (putY (hs (wr x u)) (fun k => gi x (58 + 5 * u) k) (T + 1) P) (fold (endY (hl (dr x u)) (fr x) (tt x) (T + 1)) (ui y 0 0 (n32 (T + 1))) E) k) 25 (24 * u + k) = gi x (58 + 5 * u) k := (putY_o (by omega) _ k).trans ((endY_o (by omega) _ E).trans ((tY _ _ (by omega)).trans w2))
        refine ⟨_, ?_, rfl⟩
        show _ = some (Sum.inl (putY (hs (wr x u)) (fun k => gi x (58 + 5 * u) k) (T + 1) P k (fold (putY (hs (wr x u)) (fun k => gi x (58 + 5 * u) k) (T + 1) P) (fold (endY (hl (dr x u)) (fr x) (tt x) (T + 1)) (ui y 0 0 (n32 (T + 1))) E) k), n32 (k + 1)))
        cases hq : hs (wr x u) k
        · rw [hq] at g1
          have g1 : _ = n32 0 := g1
          unfold fX11_commit_l169 fX11_commit_j209
          generalize fold (putY (hs (wr x u)) (fun k => gi x (58 + 5 * u) k) (T + 1) P) (fold (endY (hl (dr x u)) (fr x) (tt x) (T + 1)) (ui y 0 0 (n32 (T + 1))) E) k = s at g1
          unfold putY
          simp (disch := omega) only [eq_self, n_le, n_lt, n_inj, n_nat, gd_in, n_add, bi_z, bi_1, gd_bi, n_nonneg,  some_bind, lt_e, lit_NV, if_true, if_false, ite_true, ite_false, Option.bind_some, not_true, not_false_iff, lit_0, lit_1, lit_2, lit_3, lit_4, lit_5, lit_6, lit_7, lit_8, lit_12, lit_24, lit_25, lit_30, lit_60, lit_63, lit_96, lit_100, lit_512, lit_240, Nat.not_le.mpr hk, n_mul, g1, hq, Bool.false_eq_true]
        · have hkN : k < N := by
            rcases Nat.lt_or_ge k N with q | q
            · exact q
            · rw [hw k q] at hq
              cases hq
          have hcor := cD k (by omega)
          have c1 := hcor.2.2.2.2.2.1.2.2.1
          have c2 := hcor.2.2.1.2.2
          have hlt : P + cnt (hs (wr x u)) k < 512 := by
            have h1 : cnt (hs (wr x u)) (k + 1) = cnt (hs (wr x u)) k + 1 := by rw [cnt_succ, hq]; rfl
            have h2 := (cD (k + 1) (by omega)).2.2.2.2.2.1.1
            omega
          rw [hq] at g1
          have g1 : _ = n32 1 := g1
          unfold fX11_commit_l169 fX11_commit_j209
          generalize fold (putY (hs (wr x u)) (fun k => gi x (58 + 5 * u) k) (T + 1) P) (fold (endY (hl (dr x u)) (fr x) (tt x) (T + 1)) (ui y 0 0 (n32 (T + 1))) E) k = s at g1 g2 c1 c2
          have c3 : fX11_notes s (n32 k) (gi x (58 + 5 * u) k) = some (ptY s k (gi x (58 + 5 * u) k) (T + 1) (P + cnt (hs (wr x u)) k)) := r_notes c1 hlt (by omega) c2
          unfold putY
          simp (disch := omega) only [eq_self, n_le, n_lt, n_inj, n_nat, gd_in, n_add, bi_z, bi_1, gd_bi, n_nonneg,  some_bind, lt_e, lit_NV, if_true, if_false, ite_true, ite_false, Option.bind_some, not_true, not_false_iff, lit_0, lit_1, lit_2, lit_3, lit_4, lit_5, lit_6, lit_7, lit_8, lit_12, lit_24, lit_25, lit_30, lit_60, lit_63, lit_96, lit_100, lit_512, lit_240, Nat.not_le.mpr hk, n_mul, g1, g2, hq, Nat.one_ne_zero, c3])
      (fun s hs9 => by
        unfold fX11_commit_l169
        simp (disch := omega) only [eq_self, n_le, n_lt, n_inj, n_nat, gd_in, n_add, bi_z, bi_1, gd_bi, n_nonneg,  some_bind, lt_e, lit_NV, if_true, if_false, ite_true, ite_false, Option.bind_some, not_true, not_false_iff, lit_0, lit_1, lit_2, lit_3, lit_4, lit_5, lit_6, lit_7, lit_8, lit_12, lit_24, lit_25, lit_30, lit_60, lit_63, lit_96, lit_100, lit_512, lit_240, Nat.le_refl])
    rw [e, q1, fold_stop hN fun k b h1 h2 => by unfold putY; rw [hw k h1]; rfl]
  have hcor := cD N (Nat.le_refl N)
  rw [← hcomm] at hcor
  have fx2 : ∀ a j, ¬ (a = 1 ∧ j = 9) ∧ (a < 5 ∨ 9 < a) ∧ a ≠ 12 ∧ ¬ (a = 0 ∧ j = 11) → gi x2 a j = gi x a j := fun a j q => by
    rw [hcomm, putX_o (by omega), endX_o (by omega), tX _ _ (by omega)]
  have fl2 : ∀ a j, gl x2 a j = gl x a j := fun a j => by
    rw [hcomm, putX_l, endX_l]
    rfl
  generalize hy2 : fold (putY (hs (wr x u)) (fun k => gi x (58 + 5 * u) k) (T + 1) P) (fold (endY (hl (dr x u)) (fr x) (tt x) (T + 1)) (ui y 0 0 (n32 (T + 1))) E) N = y2 at r2 hcor
  have fy2 : ∀ a j, ¬ (a = 0 ∧ j = 11) ∧ a ≠ 2 ∧ a ≠ 6 ∧ (a < 10 ∨ 12 < a) ∧ a ≠ 17 ∧ ¬ (a = 0 ∧ j = 0) → gi y2 a j = gi y a j := fun a j q => by
    rw [← hy2, putY_o (by omega), endY_o (by omega), tY _ _ (by omega)]
  -- the links
  obtain ⟨X, Y, s1, s2, x3, y3, rfl, rfl, hC3, fx3, fl3, fy3⟩ := loop2 (sc := fX10_writeAll_l92 x2 u) (sr := fX11_commit_l221 y2 (n32 u) 0 (bi ((List.range 60).any (hl (dr x u))))) (x0 := (x2, n32 0)) (y0 := (y2, n32 (8 * u)))
    (fun i X Y => ∃ x3 y3, X = (x3, n32 i) ∧ Y = (y3, n32 (8 * u + i)) ∧ Cor N (E + i) (T + 1) (P + cnt (hs (wr x u)) N) R x3 y3 ∧ (∀ a j, (a = 3 ∨ a = 4 ∨ a = 5 ∨ a = 17 ∨ 57 ≤ a) → gi x3 a j = gi x2 a j) ∧ (∀ a j, gl x3 a j = gl x2 a j) ∧ (∀ a j, (22 ≤ a ∧ a ≤ 30) ∨ (a = 0 ∧ j = 50) → gi y3 a j = gi y2 a j))
    ⟨x2, y2, rfl, rfl, hcor, fun _ _ _ => rfl, fun _ _ => rfl, fun _ _ _ => rfl⟩ L (fun i X Y hi hXY => by
      obtain ⟨x3, y3, rfl, rfl, hC3, fx3, fl3, fy3⟩ := hXY
      obtain ⟨q1, q2, q3, q4, q5, q6⟩ := k3 i hi
      have hi2 : 8 * u + i < 32 := by omega
      have c0 : gi x3 (57 + 5 * u) 7 = n32 L := (fx3 _ _ (by omega)).trans ((fx2 _ _ (by omega)).trans k1)
      have c1 : gi x3 (59 + 5 * u) i = n32 (la x u i) := (fx3 _ _ (by omega)).trans ((fx2 _ _ (by omega)).trans q1)
      have c2 : gi x3 (60 + 5 * u) i = n32 (ll x u i) := (fx3 _ _ (by omega)).trans ((fx2 _ _ (by omega)).trans q2)
      have c3 : gi x3 (61 + 5 * u) i = n32 (lb x u i) := (fx3 _ _ (by omega)).trans ((fx2 _ _ (by omega)).trans q3)
      obtain ⟨z1, z2, z3⟩ := hX.2.2.2.1 i (by omega)
      have d0 : gi y3 26 u = n32 L := (fy3 _ _ (by omega)).trans ((fy2 _ _ (by omega)).trans k2)
      have d1 : gi y3 27 (8 * u + i) = n32 (la x u i) := (fy3 _ _ (by omega)).trans ((fy2 _ _ (by omega)).trans ((tY _ _ (by omega)).symm.trans (z1.trans ((tX _ _ (by omega)).trans q1))))
      have d2 : gi y3 29 (8 * u + i) = n32 (ll x u i) := (fy3 _ _ (by omega)).trans ((fy2 _ _ (by omega)).trans ((tY _ _ (by omega)).symm.trans (z2.trans ((tX _ _ (by omega)).trans q2))))
      have d3 : gi y3 28 (8 * u + i) = n32 (lb x u i) := (fy3 _ _ (by omega)).trans ((fy2 _ _ (by omega)).trans ((tY _ _ (by omega)).symm.trans (z3.trans ((tX _ _ (by omega)).trans q3))))
      have p1 := c_addEdge hC3 (show E + i < 60 by omega) q4 q6 q5
      have p2 := r_adds hC3 (show E + i < 60 by omega) q4 q6 q5
      refine ⟨(adX x3 (E + i) (la x u i) (ll x u i) (lb x u i) (T + 1), n32 (i + 1)), (adY y3 (E + i) (la x u i) (ll x u i) (lb x u i) (T + 1), n32 (8 * u + (i + 1))), ?_, ?_, _, _, rfl, rfl, Cor_add hC3 (show E + i < 60 by omega) q4 q6 q5, fun a j q => ?_, fun a j => fl3 a j, fun a j q => ?_⟩
      · unfold fX10_writeAll_l92
        simp (disch := omega) only [eq_self, n_le, n_lt, n_inj, n_nat, gd_in, n_add, bi_z, bi_1, gd_bi, n_nonneg,  some_bind, lt_e, lit_NV, if_true, if_false, ite_true, ite_false, Option.bind_some, not_true, not_false_iff, lit_0, lit_1, lit_2, lit_3, lit_4, lit_5, lit_6, lit_7, lit_8, lit_12, lit_24, lit_25, lit_30, lit_60, lit_63, lit_96, lit_100, lit_512, lit_240, c0, Nat.not_le.mpr hi, c1, c2, c3, p1]
      · unfold fX11_commit_l221
        simp (disch := omega) only [eq_self, n_le, n_lt, n_inj, n_nat, gd_in, n_add, bi_z, bi_1, gd_bi, n_nonneg,  some_bind, lt_e, lit_NV, if_true, if_false, ite_true, ite_false, Option.bind_some, not_true, not_false_iff, lit_0, lit_1, lit_2, lit_3, lit_4, lit_5, lit_6, lit_7, lit_8, lit_12, lit_24, lit_25, lit_30, lit_60, lit_63, lit_96, lit_100, lit_512, lit_240, d0, n_mul, show ¬ 8 * u + L ≤ 8 * u + i by omega, d1, d2, d3, p2]
        rfl
      · rw [← fx3 a j q]
        unfold adX
        simp (disch := omega) only [gi_no]
      · rw [← fy3 a j q]
        unfold adY
        simp (disch := omega) only [gi_no])
  have s1 := s1 (x3, n32 L) (loopF_end (by
    have c0 : gi x3 (57 + 5 * u) 7 = n32 L := (fx3 _ _ (by omega)).trans ((fx2 _ _ (by omega)).trans k1)
    unfold fX10_writeAll_l92
    simp (disch := omega) only [eq_self, n_le, n_lt, n_inj, n_nat, gd_in, n_add, bi_z, bi_1, gd_bi, n_nonneg,  some_bind, lt_e, lit_NV, if_true, if_false, ite_true, ite_false, Option.bind_some, not_true, not_false_iff, lit_0, lit_1, lit_2, lit_3, lit_4, lit_5, lit_6, lit_7, lit_8, lit_12, lit_24, lit_25, lit_30, lit_60, lit_63, lit_96, lit_100, lit_512, lit_240, c0, Nat.le_refl]))
  have s2 := s2 (y3, n32 (8 * u + L)) (loopF_end (by
    have d0 : gi y3 26 u = n32 L := (fy3 _ _ (by omega)).trans ((fy2 _ _ (by omega)).trans k2)
    unfold fX11_commit_l221
    simp (disch := omega) only [eq_self, n_le, n_lt, n_inj, n_nat, gd_in, n_add, bi_z, bi_1, gd_bi, n_nonneg,  some_bind, lt_e, lit_NV, if_true, if_false, ite_true, ite_false, Option.bind_some, not_true, not_false_iff, lit_0, lit_1, lit_2, lit_3, lit_4, lit_5, lit_6, lit_7, lit_8, lit_12, lit_24, lit_25, lit_30, lit_60, lit_63, lit_96, lit_100, lit_512, lit_240, d0, n_mul, Nat.le_refl]))
  have s2' : ∀ b2, loopF (fX11_commit_l221 y2 (n32 u) b2 (bi ((List.range 60).any (hl (dr x u))))) (y2, n32 (8 * u)) = some (y3, n32 (8 * u + L)) := fun b2 => s2
  have hdl : gl x3 (57 + 5 * u) 8 = dr x u := (fl3 _ _).trans (fl2 _ _)
  have hany : (dr x u = 0) ↔ (List.range 60).any (hl (dr x u)) = false := by
    constructor
    · intro q
      rw [q]
      cases hq : (List.range 60).any (hl 0)
      · rfl
      · obtain ⟨k, -, hk⟩ := any_ex.mp hq
        rw [hl_0] at hk
        cases hk
    · intro q
      apply Classical.byContradiction
      intro hne
      obtain ⟨e, he, hh⟩ := dr_0 (E := E) (x := x) (u := u) hne ((hC0.2.2.2.2.2.2.1) u hu)
      have := any_no q (show e < 60 by omega)
      rw [hh] at this
      cases this
  have hfin : ∃ x4 y4, (if lg_cmp (gl x3 (57 + 5 * u) 8) 0 = 0 then fX10_writeAll_j152 x3 u else (fX4_startAnew x3 (gi x3 1 10)).bind fun v21 => fX10_writeAll_j152 v21 u) = (fX1_inferAnew x4).bind (fun v => some v) ∧ (∀ b2, (if bi ((List.range 60).any (hl (dr x u))) = 0 then fX11_commit_j278 y3 (n32 u) b2 else (fX11_wakes y3).bind fun v43 => fX11_commit_j278 v43 (n32 u) b2) = some (n32 (T + 1), y4)) ∧ Cor N (E + L) (T + 1) (P + cnt (hs (wr x u)) N) R x4 y4 ∧ (∀ a j, (a = 3 ∨ a = 4 ∨ a = 5 ∨ a = 17 ∨ 57 ≤ a) → gi x4 a j = gi x3 a j) ∧ (∀ a j, (a = 0 ∧ j = 50) → gi y4 a j = gi y3 a j) := by
    by_cases h0 : dr x u = 0
    · refine ⟨x3, y3, ?_, fun b2 => ?_, hC3, fun _ _ _ => rfl, fun _ _ _ => rfl⟩
      · rw [if_pos (by rw [hdl, h0]; exact lg_self 0)]
        rfl
      · rw [hany.mp h0, if_pos (show bi false = 0 from rfl)]
        show some (gi y3 0 0, y3) = _
        rw [hC3.2.2.1.2.2]
    · obtain ⟨x4, y4, p1, p2, hC4, p3, p4, p5⟩ := Cor_wake hC3
      refine ⟨x4, y4, ?_, fun b2 => ?_, hC4, fun a j q => p4 a j (by omega), fun a j q => p5 a j (by omega)⟩
      · rw [if_neg (by rw [lg_0, hdl]; exact h0), p1]
        rfl
      · have h1 : (List.range 60).any (hl (dr x u)) = true := by
          cases hq : (List.range 60).any (hl (dr x u))
          · exact absurd (hany.mpr hq) h0
          · rfl
        rw [h1, if_neg (by decide), p2]
        show some (gi y4 0 0, y4) = _
        rw [hC4.2.2.1.2.2]
  obtain ⟨x4, y4, f1, f2, hC4, fx4, fy4⟩ := hfin
  obtain ⟨x5, f5, hC5, hF5, hX5⟩ := Cor_infer hC4
  refine ⟨x5, y4, ?_, fun b2 => ?_, hC5, hF5, fun a j q => ?_, fun k hk => ?_, ?_⟩
  · have e1 : loopF (fX10_writeAll_l12 (ui x 0 11 (n32 (T + 1))) u) (ui x 0 11 (n32 (T + 1)), 0) = _ := e1
    have e2 : loopF (fX10_writeAll_l60 _ u) (_, 0) = some (x2, n32 E) := e2
    have s1 : loopF (fX10_writeAll_l92 x2 u) (x2, 0) = _ := s1
    have ht : gi x 0 11 + 1 = n32 (T + 1) := by
      rw [hC0.2.2.1.2.1]
      exact n_add T 1
    unfold fX10_writeAll
    rw [lt_e, ht, e1, some_bind, e2, some_bind, s1, some_bind, f1, f5]
    rfl
  · have r1 : loopF (fX11_commit_l129 (ui y 0 0 (n32 (T + 1))) (n32 u) b2) (ui y 0 0 (n32 (T + 1)), 0, 0) = _ := r1 b2
    have r2 := r2 b2 (bi ((List.range 60).any (hl (dr x u))))
    have r2 : loopF (fX11_commit_l169 _ (n32 u) b2 (bi ((List.range 60).any (hl (dr x u))))) (_, 0) = some (y2, n32 24) := r2
    have ht : gi y 0 0 + 1 = n32 (T + 1) := by
      rw [hC0.2.2.1.2.2]
      exact n_add T 1
    have h8 : (8 : Int32) * n32 u = n32 (8 * u) := n_mul 8 u
    unfold rtail
    rw [lt_e, ht, r1, some_bind, r2, some_bind, h8, s2' b2, some_bind]
    exact f2 b2
  · rw [hX5.2 _ _ (by omega), fx4 _ _ (by omega), fx3 _ _ (by omega), fx2 _ _ (by omega)]
  · rw [hX5.2 _ _ (by omega), fx4 _ _ (by omega), fx3 _ _ (by omega), hcomm, putX_5, endX_o (by omega), tX _ _ (by omega)]
    unfold lvl
    cases hs (wr x u) k <;> simp [hk]
  · rw [fy4 _ _ ⟨rfl, rfl⟩, fy3 _ _ (by omega), fy2 _ _ (by omega)]
end WA
