/-- is the node k gone not yet (the class's cells) -/
def lv (σ : St) (k : Nat) : Bool := decide (gi σ 3 k = NV)
theorem c_isThereN {σ : St} {N k : Nat} (hN : gi σ 1 2 = n32 N) (h : N ≤ 24) (hk : k < N) : fX7_isThereN σ (n32 k) = some (bi (lv σ k)) := by
  unfold fX7_isThereN fX7_isThereN_j27
  simp (disch := omega) only [n_le, n_lt, n_inj, n_nat, gd_in, n_add, bi_z, bi_1, gd_bi, n_nonneg,  some_bind, lt_e, lit_NV, if_true, if_false, ite_true, ite_false, Option.bind_some, not_true, not_false_iff, lit_0, lit_1, lit_2, lit_3, lit_4, lit_5, lit_6, lit_7, lit_8, lit_12, lit_24, lit_25, lit_30, lit_60, lit_63, lit_96, lit_100, lit_512, lit_240, hN]
  rw [if_neg (by omega), if_neg (by omega), ite_bi]
  rfl
theorem c_load {σ : St} {N : Nat} (hN : gi σ 1 2 = n32 N) (h : N ≤ 24) (m : Int32) : fX3_load σ m = some (n32 (cnt (fun k => lv σ k && decide (gi σ 21 k = m)) N)) := by
  have := loop_fold (step := fX3_load_l4 σ m) N (fun a k => (n32 a, n32 k)) (fun k a => if (lv σ k && decide (gi σ 21 k = m)) then a + 1 else a) (fun _ _ => True) (a0 := 0) (out := fun a => (n32 a, n32 N)) trivial
    (fun k a hk _ => ⟨by
      unfold fX3_load_l4 fX3_load_j39
      simp (disch := omega) only [n_le, n_lt, n_inj, n_nat, gd_in, n_add, bi_z, bi_1, gd_bi, n_nonneg,  some_bind, lt_e, lit_NV, if_true, if_false, ite_true, ite_false, Option.bind_some, not_true, not_false_iff, lit_0, lit_1, lit_2, lit_3, lit_4, lit_5, lit_6, lit_7, lit_8, lit_12, lit_24, lit_25, lit_30, lit_60, lit_63, lit_96, lit_100, lit_512, lit_240, hN, c_isThereN hN h hk, Nat.not_le.mpr hk]
      cases h1 : lv σ k <;> by_cases h2 : gi σ 21 k = m <;> simp [h2], trivial⟩)
    (fun a _ => by
      unfold fX3_load_l4
      simp (disch := omega) only [n_le, n_lt, n_inj, n_nat, gd_in, n_add, bi_z, bi_1, gd_bi, n_nonneg,  some_bind, lt_e, lit_NV, if_true, if_false, ite_true, ite_false, Option.bind_some, not_true, not_false_iff, lit_0, lit_1, lit_2, lit_3, lit_4, lit_5, lit_6, lit_7, lit_8, lit_12, lit_24, lit_25, lit_30, lit_60, lit_63, lit_96, lit_100, lit_512, lit_240, hN, Nat.le_refl])
  unfold fX3_load
  simp (disch := omega) only [n_le, n_lt, n_inj, n_nat, gd_in, n_add, bi_z, bi_1, gd_bi, n_nonneg,  some_bind, lt_e, lit_NV, if_true, if_false, ite_true, ite_false, Option.bind_some, not_true, not_false_iff, lit_0, lit_1, lit_2, lit_3, lit_4, lit_5, lit_6, lit_7, lit_8, lit_12, lit_24, lit_25, lit_30, lit_60, lit_63, lit_96, lit_100, lit_512, lit_240, this.1]
  rfl
