theorem first_ex {p : Nat → Bool} : ∀ {n : Nat}, (∃ k, k < n ∧ p k = true) → ∃ k, k < n ∧ p k = true ∧ ∀ j, j < k → p j = false
  | 0, ⟨k, h, _⟩ => absurd h (Nat.not_lt_zero k)
  | n + 1, ⟨k, hk, h⟩ => by
    by_cases e : ∃ j, j < n ∧ p j = true
    · obtain ⟨j, h1, h2, h3⟩ := first_ex e
      exact ⟨j, by omega, h2, h3⟩
    · have hkn : k = n := by
        apply Classical.byContradiction
        intro q
        exact e ⟨k, by omega, h⟩
      subst hkn
      refine ⟨k, Nat.lt_succ_self k, h, fun j hj => ?_⟩
      cases hp : p j
      · rfl
      · exact absurd ⟨j, hj, hp⟩ e
theorem c_neigh {N E : Nat} {x y : St} (hN : N ≤ 24) (h : RE N E x y) (s : Int32) : fX0_neighbours x s = some (onw E x s ||| gat (fun e => le x e && hs s (tt x e)) (fun e => bit1 (fr x e)) E) := by
  have hE := h.1
  have hc := h.2.1
  unfold fX0_neighbours
  rw [c_onward hN h, some_bind, lit_0, loop_gat0 E (fun e => le x e && hs s (tt x e)) (fun e => bit1 (fr x e)) _ (fun k a hk => ?_) (fun a => ?_)]
  · rfl
  · obtain ⟨h1, h2, -, h4, h5, -⟩ := RE_at h hN hk
    unfold fX0_neighbours_l8 fX0_neighbours_j49
    simp (disch := omega) only [eq_self, n_le, n_lt, n_inj, n_nat, gd_in, n_add, bi_z, bi_1, gd_bi, n_nonneg,  some_bind, lt_e, lit_NV, if_true, if_false, ite_true, ite_false, Option.bind_some, not_true, not_false_iff, lit_0, lit_1, lit_2, lit_3, lit_4, lit_5, lit_6, lit_7, lit_8, lit_12, lit_24, lit_25, lit_30, lit_60, lit_63, lit_96, lit_100, lit_512, lit_240, hc, c_isThereE hc hE, ed_n hE hk, Nat.not_le.mpr hk, h1, h2, c_bit, c_has s (show tt x k < 32 by omega)]
    cases le x k <;> cases hs s (tt x k) <;> simp
  · unfold fX0_neighbours_l8
    simp (disch := omega) only [eq_self, n_le, n_lt, n_inj, n_nat, gd_in, n_add, bi_z, bi_1, gd_bi, n_nonneg,  some_bind, lt_e, lit_NV, if_true, if_false, ite_true, ite_false, Option.bind_some, not_true, not_false_iff, lit_0, lit_1, lit_2, lit_3, lit_4, lit_5, lit_6, lit_7, lit_8, lit_12, lit_24, lit_25, lit_30, lit_60, lit_63, lit_96, lit_100, lit_512, lit_240, hc, Nat.le_refl]
/-- the first node of a set -/
theorem c_lowest {x : St} {s : Int32} {k : Nat} (hk : k < 24) (h1 : hs s k = true) (h2 : ∀ j, j < k → hs s j = false) : fX10_lowest x s = some (n32 k) := by
  unfold fX10_lowest
  have : loopF (fX10_lowest_l2 x s) (n32 0) = some (.inr (n32 k)) := by
    refine loopF_seq (fun j => n32 j) k (fun j hj => ?_) ?_
    · unfold fX10_lowest_l2
      simp (disch := omega) only [eq_self, n_le, n_lt, n_inj, n_nat, gd_in, n_add, bi_z, bi_1, gd_bi, n_nonneg,  some_bind, lt_e, lit_NV, if_true, if_false, ite_true, ite_false, Option.bind_some, not_true, not_false_iff, lit_0, lit_1, lit_2, lit_3, lit_4, lit_5, lit_6, lit_7, lit_8, lit_12, lit_24, lit_25, lit_30, lit_60, lit_63, lit_96, lit_100, lit_512, lit_240, c_has s (show j < 32 by omega), h2 j hj, show ¬ 24 ≤ j by omega]
    · unfold fX10_lowest_l2
      simp (disch := omega) only [eq_self, n_le, n_lt, n_inj, n_nat, gd_in, n_add, bi_z, bi_1, gd_bi, n_nonneg,  some_bind, lt_e, lit_NV, if_true, if_false, ite_true, ite_false, Option.bind_some, not_true, not_false_iff, lit_0, lit_1, lit_2, lit_3, lit_4, lit_5, lit_6, lit_7, lit_8, lit_12, lit_24, lit_25, lit_30, lit_60, lit_63, lit_96, lit_100, lit_512, lit_240, c_has s (show k < 32 by omega), h1, show ¬ 24 ≤ k by omega, Bool.true_eq_false]
  rw [lit_0, this]
  rfl
theorem r_lowest {y : St} {a s : Int32} {k : Nat} (hk : k < 24) (h1 : hs s k = true) (h2 : ∀ j, j < k → hs s j = false) : loopF (fX11_least_l135 y a s) (n32 0) = some (n32 k) := by
  refine loopF_seq (fun j => n32 j) k (fun j hj => ?_) ?_
  · unfold fX11_least_l135
    simp (disch := omega) only [eq_self, n_le, n_lt, n_inj, n_nat, gd_in, n_add, bi_z, bi_1, gd_bi, n_nonneg,  some_bind, lt_e, lit_NV, if_true, if_false, ite_true, ite_false, Option.bind_some, not_true, not_false_iff, lit_0, lit_1, lit_2, lit_3, lit_4, lit_5, lit_6, lit_7, lit_8, lit_12, lit_24, lit_25, lit_30, lit_60, lit_63, lit_96, lit_100, lit_512, lit_240, r_has s (show j < 32 by omega), h2 j hj]
  · unfold fX11_least_l135
    simp (disch := omega) only [eq_self, n_le, n_lt, n_inj, n_nat, gd_in, n_add, bi_z, bi_1, gd_bi, n_nonneg,  some_bind, lt_e, lit_NV, if_true, if_false, ite_true, ite_false, Option.bind_some, not_true, not_false_iff, lit_0, lit_1, lit_2, lit_3, lit_4, lit_5, lit_6, lit_7, lit_8, lit_12, lit_24, lit_25, lit_30, lit_60, lit_63, lit_96, lit_100, lit_512, lit_240, r_has s (show k < 32 by omega), h1, Bool.true_eq_false]
theorem q_least {N E : Nat} {x y : St} {v : Int64} (hR : RN N x y) (h : RE N E x y) (a : Int32) : agQ (fL_least x v a) (fX11_least y a) x y := by
  obtain ⟨hN, hc, -⟩ := id hR
  have hE := h.1
  unfold fL_least fX10_least fX11_least fX11_least_j14
  rw [c_reqNode hc hN, r_isNode hR]
  cases h1 : nd N x a
  · exact ⟨1, v, 0, rfl, rfl, fun h => absurd h (by decide)⟩
  · obtain ⟨k, hk, rfl, -⟩ := nd_ex hN h1
    have hk24 : k < 24 := by omega
    have c_loop : loopF (fX10_least_l12 x (n32 k)) (bit1 k, n32 0) = some (fold (fun _ a => lsc E x a) (bit1 k) 24, n32 24) :=
      (loop_fold (step := fX10_least_l12 x (n32 k)) 24 (fun a j => (a, n32 j)) (fun _ a => lsc E x a) (fun _ _ => True) (a0 := bit1 k) (out := fun a => (a, n32 24)) trivial
        (fun j a hj _ => ⟨by
          unfold fX10_least_l12
          simp (disch := omega) only [eq_self, n_le, n_lt, n_inj, n_nat, gd_in, n_add, bi_z, bi_1, gd_bi, n_nonneg,  some_bind, lt_e, lit_NV, if_true, if_false, ite_true, ite_false, Option.bind_some, not_true, not_false_iff, lit_0, lit_1, lit_2, lit_3, lit_4, lit_5, lit_6, lit_7, lit_8, lit_12, lit_24, lit_25, lit_30, lit_60, lit_63, lit_96, lit_100, lit_512, lit_240, Nat.not_le.mpr hj, c_neigh hN h]
          rfl, trivial⟩)
        (fun a _ => by
          unfold fX10_least_l12
          simp (disch := omega) only [eq_self, n_le, n_lt, n_inj, n_nat, gd_in, n_add, bi_z, bi_1, gd_bi, n_nonneg,  some_bind, lt_e, lit_NV, if_true, if_false, ite_true, ite_false, Option.bind_some, not_true, not_false_iff, lit_0, lit_1, lit_2, lit_3, lit_4, lit_5, lit_6, lit_7, lit_8, lit_12, lit_24, lit_25, lit_30, lit_60, lit_63, lit_96, lit_100, lit_512, lit_240, Nat.le_refl])).1
    have r_loop : ∀ y : St, RE N E x y → loopF (fX11_least_l28 y (n32 k)) (bit1 k, n32 0) = some (fold (fun _ a => lsr E x a) (bit1 k) 24, n32 24) := fun y h => by
      obtain ⟨-, -, hc, hf, ht, -⟩ := id h
      exact (loop_fold (step := fX11_least_l28 y (n32 k)) 24 (fun a j => (a, n32 j)) (fun _ a => lsr E x a) (fun _ _ => True) (a0 := bit1 k) (out := fun a => (a, n32 24)) trivial
        (fun j a hj _ => ⟨by
          unfold fX11_least_l28
          simp (disch := omega) only [eq_self, n_le, n_lt, n_inj, n_nat, gd_in, n_add, bi_z, bi_1, gd_bi, n_nonneg,  some_bind, lt_e, lit_NV, if_true, if_false, ite_true, ite_false, Option.bind_some, not_true, not_false_iff, lit_0, lit_1, lit_2, lit_3, lit_4, lit_5, lit_6, lit_7, lit_8, lit_12, lit_24, lit_25, lit_30, lit_60, lit_63, lit_96, lit_100, lit_512, lit_240, Nat.not_le.mpr hj]
          have := (loop_fold (step := fX11_least_l37 y (n32 k) (n32 j)) E (fun a j => (a, n32 j)) (lsb x) (fun _ _ => True) (a0 := a) (out := fun a => (a, n32 E)) trivial
            (fun q b hq _ => ⟨by
              obtain ⟨h1, h2, -, h4, h5, -⟩ := RE_at h hN hq
              unfold fX11_least_l37 fX11_least_j87 fX11_least_j83 fX11_least_j88 fX11_least_j119 lsb
              simp (disch := omega) only [eq_self, n_le, n_lt, n_inj, n_nat, gd_in, n_add, bi_z, bi_1, gd_bi, n_nonneg,  some_bind, lt_e, lit_NV, if_true, if_false, ite_true, ite_false, Option.bind_some, not_true, not_false_iff, lit_0, lit_1, lit_2, lit_3, lit_4, lit_5, lit_6, lit_7, lit_8, lit_12, lit_24, lit_25, lit_30, lit_60, lit_63, lit_96, lit_100, lit_512, lit_240, hc, r_isEdge h, ed_n hE hq, Nat.not_le.mpr hq, hf, ht, h1, h2, r_has b (show fr x q < 32 by omega), r_has b (show tt x q < 32 by omega), or_z]
              cases le x q <;> cases hs b (fr x q) <;> cases hs b (tt x q) <;> simp [bit1, n32, n_inj]
              , trivial⟩)
            (fun b _ => by
              unfold fX11_least_l37
              simp (disch := omega) only [eq_self, n_le, n_lt, n_inj, n_nat, gd_in, n_add, bi_z, bi_1, gd_bi, n_nonneg,  some_bind, lt_e, lit_NV, if_true, if_false, ite_true, ite_false, Option.bind_some, not_true, not_false_iff, lit_0, lit_1, lit_2, lit_3, lit_4, lit_5, lit_6, lit_7, lit_8, lit_12, lit_24, lit_25, lit_30, lit_60, lit_63, lit_96, lit_100, lit_512, lit_240, hc, Nat.le_refl])).1
          rw [this]
          rfl, trivial⟩)
        (fun a _ => by
          unfold fX11_least_l28
          simp (disch := omega) only [eq_self, n_le, n_lt, n_inj, n_nat, gd_in, n_add, bi_z, bi_1, gd_bi, n_nonneg,  some_bind, lt_e, lit_NV, if_true, if_false, ite_true, ite_false, Option.bind_some, not_true, not_false_iff, lit_0, lit_1, lit_2, lit_3, lit_4, lit_5, lit_6, lit_7, lit_8, lit_12, lit_24, lit_25, lit_30, lit_60, lit_63, lit_96, lit_100, lit_512, lit_240, Nat.le_refl])).1
    have e9 := ls_same hN h hk24
    have hin : hs (fold (fun _ a => lsc E x a) (bit1 k) 24) k = true := iter_up (fun s => sbs_or _ _) (bit1 k) 24 k (by omega) (hs_own (by omega))
    obtain ⟨j, hj, hj1, hj2⟩ := first_ex ⟨k, hk24, hin⟩
    refine ⟨0, _, n32 j, ?_, ?_, fun _ => rfl⟩
    · simp (disch := omega) only [eq_self, n_le, n_lt, n_inj, n_nat, gd_in, n_add, bi_z, bi_1, gd_bi, n_nonneg,  some_bind, lt_e, lit_NV, if_true, if_false, ite_true, ite_false, Option.bind_some, not_true, not_false_iff, lit_0, lit_1, lit_2, lit_3, lit_4, lit_5, lit_6, lit_7, lit_8, lit_12, lit_24, lit_25, lit_30, lit_60, lit_63, lit_96, lit_100, lit_512, lit_240, Sum.elim_inl, c_bit, c_loop, c_lowest hj hj1 hj2]
    · simp (disch := omega) only [eq_self, n_le, n_lt, n_inj, n_nat, gd_in, n_add, bi_z, bi_1, gd_bi, n_nonneg,  some_bind, lt_e, lit_NV, if_true, if_false, ite_true, ite_false, Option.bind_some, not_true, not_false_iff, lit_0, lit_1, lit_2, lit_3, lit_4, lit_5, lit_6, lit_7, lit_8, lit_12, lit_24, lit_25, lit_30, lit_60, lit_63, lit_96, lit_100, lit_512, lit_240, r_fails0, Bool.true_eq_false]
      have := r_loop _ (RE_th (c := n32 0) h)
      rw [e9] at this
      show ((loopF (fX11_least_l28 (th y (n32 0)) (n32 k)) (bit1 k, n32 0)).bind _) = _
      rw [this, some_bind]
      show ((loopF (fX11_least_l135 (th y (n32 0)) (n32 k) (fold (fun _ a => lsc E x a) (bit1 k) 24)) (n32 0)).bind _) = _
      rw [r_lowest hj hj1 hj2]
      rfl
