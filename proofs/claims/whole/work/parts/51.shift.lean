theorem gi_ui_ne {x : St} {a k : Nat} {v : Int32} {b j : Nat} (h : b ≠ a ∨ j ≠ k) : gi (ui x a k v) b j = gi x b j := by
  rw [gi_ui, if_neg (fun q => by rcases h with h | h; exact h q.1; exact h q.2)]
theorem gi_ui_eq {x : St} {a k : Nat} {v : Int32} : gi (ui x a k v) a k = v := by rw [gi_ui, if_pos ⟨rfl, rfl⟩]
theorem ui_back {x : St} {a k : Nat} {v : Int32} : ui (ui x a k v) a k (gi x a k) = x := by
  refine Prod.ext (funext fun b => funext fun j => ?_) rfl
  show (if b = a ∧ j = k then gi x a k else if b = a ∧ j = k then v else x.1 b j) = x.1 b j
  by_cases h : b = a ∧ j = k
  · rw [if_pos h, h.1, h.2]; rfl
  · rw [if_neg h, if_neg h]

theorem or_z' (a : Int32) : a + n32 0 = a := Int32.add_zero a
def mvd (x : St) (k m : Nat) : St := ui x 21 k (n32 m)
theorem le_mvd (x : St) (k m e : Nat) : le (mvd x k m) e = le x e := by unfold le mvd; rw [gi_ui_ne (Or.inl (by decide))]
theorem fr_mvd (x : St) (k m e : Nat) : fr (mvd x k m) e = fr x e := by unfold fr mvd; rw [gi_ui_ne (Or.inl (by decide))]
theorem tt_mvd (x : St) (k m e : Nat) : tt (mvd x k m) e = tt x e := by unfold tt mvd; rw [gi_ui_ne (Or.inl (by decide))]
theorem ho_mvd (x : St) (k m j : Nat) : gi (mvd x k m) 21 j = if j = k then n32 m else gi x 21 j := by
  unfold mvd
  rw [gi_ui]
  by_cases h : j = k <;> simp [h]
theorem ct_mvd (x : St) (k m e : Nat) : ctE (mvd x k m) e = (le x e && !decide ((if fr x e = k then n32 m else gi x 21 (fr x e)) = (if tt x e = k then n32 m else gi x 21 (tt x e)))) := by
  unfold ctE
  rw [le_mvd, fr_mvd, tt_mvd, ho_mvd, ho_mvd]
/-- how many fewer edges are cut with the node k on the machine m -/
def gn (E : Nat) (x : St) (k m : Nat) : Int32 := n32 (cnt (ctE x) E) - n32 (cnt (ctE (mvd x k m)) E)
theorem i_4 (a b c d : Int32) : a - b + (c - d) = (a + c) - (b + d) := by
  simp only [Int32.sub_eq_add_neg, Int32.neg_add]
  ac_rfl
theorem c_fewer {N E : Nat} {x y : St} (hN : N ≤ 24) (h : RE N E x y) {k m : Nat} (hk : k < N) : fX3_cutFewer x (n32 k) (n32 m) = some (gn E x k m) := by
  have hE := h.1
  have hc := h.2.1
  have : loopF (fX3_cutFewer_l5 x (n32 k) (n32 m)) (n32 (cnt (ctE x) 0) - n32 (cnt (ctE (mvd x k m)) 0), n32 0) = some (gn E x k m, n32 E) := by
    refine loopF_seq (fun j => (n32 (cnt (ctE x) j) - n32 (cnt (ctE (mvd x k m)) j), n32 j)) E (fun j hj => ?_) ?_
    · obtain ⟨h1, h2, -, h4, h5, -⟩ := RE_at h hN hj
      have step : n32 (cnt (ctE x) (j + 1)) - n32 (cnt (ctE (mvd x k m)) (j + 1)) = (n32 (cnt (ctE x) j) - n32 (cnt (ctE (mvd x k m)) j)) + (bi (ctE x j) - bi (ctE (mvd x k m) j)) := by
        have e9 : ∀ (p : Nat → Bool), n32 (cnt p (j + 1)) = n32 (cnt p j) + bi (p j) := fun p => by
          show n32 (if p j then cnt p j + 1 else cnt p j) = _
          cases p j
          · exact (or_z' _).symm
          · exact (n_add _ 1).symm
        rw [e9, e9, i_4]
      have stay : ctE x j = ctE (mvd x k m) j → (n32 (cnt (ctE x) (j + 1)) - n32 (cnt (ctE (mvd x k m)) (j + 1))) = n32 (cnt (ctE x) j) - n32 (cnt (ctE (mvd x k m)) j) := fun e => by
        rw [step, e, Int32.sub_self, Int32.add_zero]
      have hfk : (n32 (fr x j) = n32 k) = (fr x j = k) := n_inj (by omega) (by omega)
      have htk : (n32 (tt x j) = n32 k) = (tt x j = k) := n_inj (by omega) (by omega)
      unfold fX3_cutFewer_l5
      simp (disch := omega) only [eq_self, n_le, n_lt, n_inj, n_nat, gd_in, n_add, bi_z, bi_1, gd_bi, n_nonneg,  some_bind, lt_e, lit_NV, if_true, if_false, ite_true, ite_false, Option.bind_some, not_true, not_false_iff, lit_0, lit_1, lit_2, lit_3, lit_4, lit_5, lit_6, lit_7, lit_8, lit_12, lit_24, lit_25, lit_30, lit_60, lit_63, lit_96, lit_100, lit_512, lit_240, hc, Nat.not_le.mpr hj, h1]
      by_cases h6 : fr x j = k <;> by_cases h7 : tt x j = k
      · have e : ctE x j = ctE (mvd x k m) j := by rw [ct_mvd]; unfold ctE; rw [h6, h7]; simp
        rw [stay e, if_pos h6]
        unfold fX3_cutFewer_j36
        simp (disch := omega) only [eq_self, n_le, n_lt, n_inj, n_nat, gd_in, n_add, bi_z, bi_1, gd_bi, n_nonneg,  some_bind, lt_e, lit_NV, if_true, if_false, ite_true, ite_false, Option.bind_some, not_true, not_false_iff, lit_0, lit_1, lit_2, lit_3, lit_4, lit_5, lit_6, lit_7, lit_8, lit_12, lit_24, lit_25, lit_30, lit_60, lit_63, lit_96, lit_100, lit_512, lit_240, h2]
        rw [if_pos h7]
        unfold fX3_cutFewer_j57 fX3_cutFewer_j144
        simp (disch := omega) only [eq_self, n_le, n_lt, n_inj, n_nat, gd_in, n_add, bi_z, bi_1, gd_bi, n_nonneg,  some_bind, lt_e, lit_NV, if_true, if_false, ite_true, ite_false, Option.bind_some, not_true, not_false_iff, lit_0, lit_1, lit_2, lit_3, lit_4, lit_5, lit_6, lit_7, lit_8, lit_12, lit_24, lit_25, lit_30, lit_60, lit_63, lit_96, lit_100, lit_512, lit_240, c_isThereE hc hE, ed_n hE hj]
        cases le x j <;> simp
      · rw [if_pos h6]
        unfold fX3_cutFewer_j36
        simp (disch := omega) only [eq_self, n_le, n_lt, n_inj, n_nat, gd_in, n_add, bi_z, bi_1, gd_bi, n_nonneg,  some_bind, lt_e, lit_NV, if_true, if_false, ite_true, ite_false, Option.bind_some, not_true, not_false_iff, lit_0, lit_1, lit_2, lit_3, lit_4, lit_5, lit_6, lit_7, lit_8, lit_12, lit_24, lit_25, lit_30, lit_60, lit_63, lit_96, lit_100, lit_512, lit_240, h2]
        rw [if_neg h7]
        unfold fX3_cutFewer_j57 fX3_cutFewer_j144 fX3_cutFewer_j110 fX3_cutFewer_j130 fX3_cutFewer_j141 fX3_cutFewer_j144
        simp (disch := omega) only [eq_self, n_le, n_lt, n_inj, n_nat, gd_in, n_add, bi_z, bi_1, gd_bi, n_nonneg,  some_bind, lt_e, lit_NV, if_true, if_false, ite_true, ite_false, Option.bind_some, not_true, not_false_iff, lit_0, lit_1, lit_2, lit_3, lit_4, lit_5, lit_6, lit_7, lit_8, lit_12, lit_24, lit_25, lit_30, lit_60, lit_63, lit_96, lit_100, lit_512, lit_240, c_isThereE hc hE, ed_n hE hj, h2]
        rw [step, ct_mvd]
        unfold ctE
        cases le x j
        · simp [bi, Int32.sub_self, Int32.add_zero]
        · have s8 : (gi x 21 k = gi x 21 (tt x j)) = (gi x 21 (tt x j) = gi x 21 k) := propext eq_comm
          have s9 : (n32 m = gi x 21 (tt x j)) = (gi x 21 (tt x j) = n32 m) := propext eq_comm
          rcases (Classical.propComplete (gi x 21 (tt x j) = gi x 21 k)) with h8 | h8 <;> rcases (Classical.propComplete (gi x 21 (tt x j) = n32 m)) with h9 | h9 <;> simp [h6, h7, s8, s9, h8, h9, bi, n_inj]
      · rw [if_neg h6]
        unfold fX3_cutFewer_j36
        simp (disch := omega) only [eq_self, n_le, n_lt, n_inj, n_nat, gd_in, n_add, bi_z, bi_1, gd_bi, n_nonneg,  some_bind, lt_e, lit_NV, if_true, if_false, ite_true, ite_false, Option.bind_some, not_true, not_false_iff, lit_0, lit_1, lit_2, lit_3, lit_4, lit_5, lit_6, lit_7, lit_8, lit_12, lit_24, lit_25, lit_30, lit_60, lit_63, lit_96, lit_100, lit_512, lit_240, h2]
        rw [if_pos h7]
        unfold fX3_cutFewer_j57 fX3_cutFewer_j144 fX3_cutFewer_j110 fX3_cutFewer_j130 fX3_cutFewer_j141 fX3_cutFewer_j144
        simp (disch := omega) only [eq_self, n_le, n_lt, n_inj, n_nat, gd_in, n_add, bi_z, bi_1, gd_bi, n_nonneg,  some_bind, lt_e, lit_NV, if_true, if_false, ite_true, ite_false, Option.bind_some, not_true, not_false_iff, lit_0, lit_1, lit_2, lit_3, lit_4, lit_5, lit_6, lit_7, lit_8, lit_12, lit_24, lit_25, lit_30, lit_60, lit_63, lit_96, lit_100, lit_512, lit_240, c_isThereE hc hE, ed_n hE hj, h1]
        rw [step, ct_mvd]
        unfold ctE
        cases le x j
        · simp [bi, Int32.sub_self, Int32.add_zero]
        · have s8 : (gi x 21 k = gi x 21 (fr x j)) = (gi x 21 (fr x j) = gi x 21 k) := propext eq_comm
          have s9 : (n32 m = gi x 21 (fr x j)) = (gi x 21 (fr x j) = n32 m) := propext eq_comm
          rcases (Classical.propComplete (gi x 21 (fr x j) = gi x 21 k)) with h8 | h8 <;> rcases (Classical.propComplete (gi x 21 (fr x j) = n32 m)) with h9 | h9 <;> simp [h6, h7, s8, s9, h8, h9, bi, n_inj]
      · have e : ctE x j = ctE (mvd x k m) j := by rw [ct_mvd]; unfold ctE; rw [if_neg h6, if_neg h7]
        rw [stay e, if_neg h6]
        unfold fX3_cutFewer_j36
        simp (disch := omega) only [eq_self, n_le, n_lt, n_inj, n_nat, gd_in, n_add, bi_z, bi_1, gd_bi, n_nonneg,  some_bind, lt_e, lit_NV, if_true, if_false, ite_true, ite_false, Option.bind_some, not_true, not_false_iff, lit_0, lit_1, lit_2, lit_3, lit_4, lit_5, lit_6, lit_7, lit_8, lit_12, lit_24, lit_25, lit_30, lit_60, lit_63, lit_96, lit_100, lit_512, lit_240, h2]
        rw [if_neg h7]
        unfold fX3_cutFewer_j57 fX3_cutFewer_j144
        simp (disch := omega) only [eq_self, n_le, n_lt, n_inj, n_nat, gd_in, n_add, bi_z, bi_1, gd_bi, n_nonneg,  some_bind, lt_e, lit_NV, if_true, if_false, ite_true, ite_false, Option.bind_some, not_true, not_false_iff, lit_0, lit_1, lit_2, lit_3, lit_4, lit_5, lit_6, lit_7, lit_8, lit_12, lit_24, lit_25, lit_30, lit_60, lit_63, lit_96, lit_100, lit_512, lit_240, c_isThereE hc hE, ed_n hE hj]
        cases le x j <;> simp
    · unfold fX3_cutFewer_l5
      simp (disch := omega) only [eq_self, n_le, n_lt, n_inj, n_nat, gd_in, n_add, bi_z, bi_1, gd_bi, n_nonneg,  some_bind, lt_e, lit_NV, if_true, if_false, ite_true, ite_false, Option.bind_some, not_true, not_false_iff, lit_0, lit_1, lit_2, lit_3, lit_4, lit_5, lit_6, lit_7, lit_8, lit_12, lit_24, lit_25, lit_30, lit_60, lit_63, lit_96, lit_100, lit_512, lit_240, hc, Nat.le_refl]
      rfl
  have z : n32 (cnt (ctE x) 0) - n32 (cnt (ctE (mvd x k m)) 0) = n32 0 := Int32.sub_self _
  rw [z] at this
  unfold fX3_cutFewer
  rw [lit_0, this]
  rfl
