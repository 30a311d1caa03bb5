/-! ### toggle, move, time, sizeAt -/
/-- what a call may do to the machines -/
def mM (N : Nat) (x y x' y' : St) (c : Int32) : Prop := (x' = x ∧ y' = th y c) ∨ (∃ k m : Nat, k < N ∧ m < 3 ∧ x' = mvd x k m ∧ y' = ui (th y c) 3 k (n32 m)) ∨ ∃ (m : Nat) (b : Bool), m < 3 ∧ x' = ui x 22 m (bi b) ∧ y' = ui (th y c) 21 m (bi !b)
theorem gd_11 {α : Type} {d : Decidable (n32 1 &&& n32 1 = n32 1)} {z : Option α} : @gd α (n32 1 &&& n32 1 = n32 1) d z = z := if_pos rfl
theorem gd_00 {α : Type} {d : Decidable (n32 0 &&& n32 1 = n32 0)} {z : Option α} : @gd α (n32 0 &&& n32 1 = n32 0) d z = z := if_pos rfl
theorem n10 : (n32 1 = n32 0) = False := by rw [n_inj (by decide) (by decide)]; simp
theorem bi_t1 : bi true = (1 : Int32) := rfl
theorem bi_f0 : bi false = (0 : Int32) := rfl
theorem q_toggle {N : Nat} {x y : St} {v : Int64} (hM : RM N x y) (a : Int32) : agZ (fL_toggle x v a) (fX11_toggle y a) (fun x' y' => ∃ c, mM N x y x' y' c) := by
  unfold fL_toggle fX10_toggle fX11_toggle fX11_toggle_j13
  rw [c_reqMachine, r_isMachine]
  cases h1 : bw 3 a
  · exact ⟨1, x, v, false, th y 1, rfl, rfl, rfl, fun h => absurd h (by decide), 1, Or.inl ⟨rfl, rfl⟩⟩
  · obtain ⟨m, hm, rfl⟩ := bw_ex (by decide) h1
    obtain ⟨e1, e2⟩ := RM_up hM hm
    have e3 : gi (th y (n32 0)) 21 m = bi (!up x m) := by rw [th_ne (Or.inl (by decide))]; exact e2
    refine ⟨0, ui x 22 m (bi !up x m), (if !up x m then 1 else 0), !up x m, ui (th y 0) 21 m (bi (up x m)), ?_, ?_, rfl, fun _ => rfl, 0, Or.inr (Or.inr ⟨m, !up x m, hm, rfl, by rw [Bool.not_not]⟩)⟩
    · unfold fX10_toggle_j29
      simp (disch := omega) only [eq_self, n_le, n_lt, n_inj, n_nat, gd_in, n_add, bi_z, bi_1, gd_bi, n_nonneg,  some_bind, lt_e, lit_NV, if_true, if_false, ite_true, ite_false, Option.bind_some, not_true, not_false_iff, lit_0, lit_1, lit_2, lit_3, lit_4, lit_5, lit_6, lit_7, lit_8, lit_12, lit_24, lit_25, lit_30, lit_60, lit_63, lit_96, lit_100, lit_512, lit_240, Sum.elim_inl, e1]
      cases up x m <;> simp (disch := omega) only [eq_self, n_le, n_lt, n_inj, n_nat, gd_in, n_add, bi_z, bi_1, gd_bi, n_nonneg,  some_bind, lt_e, lit_NV, if_true, if_false, ite_true, ite_false, Option.bind_some, not_true, not_false_iff, lit_0, lit_1, lit_2, lit_3, lit_4, lit_5, lit_6, lit_7, lit_8, lit_12, lit_24, lit_25, lit_30, lit_60, lit_63, lit_96, lit_100, lit_512, lit_240, gi_ui_eq, Sum.elim_inl, Bool.not_false, Bool.not_true, gd_11, gd_00, n10, bi_t, bi_f, Bool.true_eq_false, Bool.false_eq_true] <;> rfl
    · unfold fX11_toggle_j40
      simp (disch := omega) only [eq_self, n_le, n_lt, n_inj, n_nat, gd_in, n_add, bi_z, bi_1, gd_bi, n_nonneg,  some_bind, lt_e, lit_NV, if_true, if_false, ite_true, ite_false, Option.bind_some, not_true, not_false_iff, lit_0, lit_1, lit_2, lit_3, lit_4, lit_5, lit_6, lit_7, lit_8, lit_12, lit_24, lit_25, lit_30, lit_60, lit_63, lit_96, lit_100, lit_512, lit_240, r_fails0, e3]
      cases up x m <;> simp (disch := omega) only [eq_self, n_le, n_lt, n_inj, n_nat, gd_in, n_add, bi_z, bi_1, gd_bi, n_nonneg,  some_bind, lt_e, lit_NV, if_true, if_false, ite_true, ite_false, Option.bind_some, not_true, not_false_iff, lit_0, lit_1, lit_2, lit_3, lit_4, lit_5, lit_6, lit_7, lit_8, lit_12, lit_24, lit_25, lit_30, lit_60, lit_63, lit_96, lit_100, lit_512, lit_240, gi_ui_eq, Bool.not_false, Bool.not_true, gd_11, gd_00, n10, bi_t, bi_f, Bool.true_eq_false, Bool.false_eq_true] <;> rfl
theorem q_move {N : Nat} {x y : St} {v : Int64} (hR : RN N x y) (hM : RM N x y) (a b : Int32) : agI (fL_move x v a b) (fX11_move y a b) (fun x' y' => ∃ c, mM N x y x' y' c) := by
  obtain ⟨hN, hc, -⟩ := id hR
  unfold fL_move fX10_move fX11_move fX11_move_j19 fX11_move_j20
  rw [c_reqNode hc hN, r_isNode hR]
  cases h1 : nd N x a
  · exact ⟨1, x, v, 0, th y 1, rfl, rfl, rfl, fun h => absurd h (by decide), 1, Or.inl ⟨rfl, rfl⟩⟩
  · obtain ⟨k, hk, rfl, -⟩ := nd_ex hN h1
    simp (disch := omega) only [eq_self, n_le, n_lt, n_inj, n_nat, gd_in, n_add, bi_z, bi_1, gd_bi, n_nonneg,  some_bind, lt_e, lit_NV, if_true, if_false, ite_true, ite_false, Option.bind_some, not_true, not_false_iff, lit_0, lit_1, lit_2, lit_3, lit_4, lit_5, lit_6, lit_7, lit_8, lit_12, lit_24, lit_25, lit_30, lit_60, lit_63, lit_96, lit_100, lit_512, lit_240, Sum.elim_inl, c_reqMachine, r_isMachine]
    cases h2 : bw 3 b
    · exact ⟨1, x, v, 0, th y 1, rfl, rfl, rfl, fun h => absurd h (by decide), 1, Or.inl ⟨rfl, rfl⟩⟩
    · obtain ⟨m, hm, rfl⟩ := bw_ex (by decide) h2
      obtain ⟨e1, e2⟩ := RM_ho hM hk
      obtain ⟨f1, f2⟩ := RM_up hM hm
      obtain ⟨g1, g2⟩ := RM_up hM e2
      simp (disch := omega) only [eq_self, n_le, n_lt, n_inj, n_nat, gd_in, n_add, bi_z, bi_1, gd_bi, n_nonneg,  some_bind, lt_e, lit_NV, if_true, if_false, ite_true, ite_false, Option.bind_some, not_true, not_false_iff, lit_0, lit_1, lit_2, lit_3, lit_4, lit_5, lit_6, lit_7, lit_8, lit_12, lit_24, lit_25, lit_30, lit_60, lit_63, lit_96, lit_100, lit_512, lit_240, Sum.elim_inl, hM.1, e1, f1, f2, g1, g2, Bool.true_eq_false]
      cases up x (ho x k) <;> cases up x m
      · exact ⟨2, x, v, 0, th y 2, rfl, rfl, rfl, fun h => absurd h (by decide), 2, Or.inl ⟨rfl, rfl⟩⟩
      · exact ⟨2, x, v, 0, th y 2, rfl, rfl, rfl, fun h => absurd h (by decide), 2, Or.inl ⟨rfl, rfl⟩⟩
      · exact ⟨2, x, v, 0, th y 2, rfl, rfl, rfl, fun h => absurd h (by decide), 2, Or.inl ⟨rfl, rfl⟩⟩
      · refine ⟨0, mvd x k m, (n32 (ho x k)).toInt64, n32 (ho x k), ui (th y 0) 3 k (n32 m), ?_, ?_, rfl, fun _ => rfl, 0, Or.inr (Or.inl ⟨k, m, hk, hm, rfl, rfl⟩)⟩
        · simp (disch := omega) only [eq_self, n_le, n_lt, n_inj, n_nat, gd_in, n_add, bi_z, bi_1, gd_bi, n_nonneg,  some_bind, lt_e, lit_NV, if_true, if_false, ite_true, ite_false, Option.bind_some, not_true, not_false_iff, lit_0, lit_1, lit_2, lit_3, lit_4, lit_5, lit_6, lit_7, lit_8, lit_12, lit_24, lit_25, lit_30, lit_60, lit_63, lit_96, lit_100, lit_512, lit_240, Sum.elim_inl]
          rfl
        · unfold fX11_move_j58
          simp (disch := omega) only [eq_self, n_le, n_lt, n_inj, n_nat, gd_in, n_add, bi_z, bi_1, gd_bi, n_nonneg,  some_bind, lt_e, lit_NV, if_true, if_false, ite_true, ite_false, Option.bind_some, not_true, not_false_iff, lit_0, lit_1, lit_2, lit_3, lit_4, lit_5, lit_6, lit_7, lit_8, lit_12, lit_24, lit_25, lit_30, lit_60, lit_63, lit_96, lit_100, lit_512, lit_240, r_fails0, th_ne, hM.1, e1]
          rfl
