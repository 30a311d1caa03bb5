/-- one edge's part of the nodes that a machine has copies of -/
def cpb (x : St) (m : Int32) (e : Nat) (a : Int32) : Int32 :=
  if ctE x e then (if gi x 21 (tt x e) = m then (if gi x 21 (fr x e) = m then a ||| bit1 (tt x e) else a) ||| bit1 (fr x e) else (if gi x 21 (fr x e) = m then a ||| bit1 (tt x e) else a)) else a
def cpy (E : Nat) (x : St) (m : Int32) : Int32 := fold (cpb x m) (n32 0) E
theorem cpb_sml {x : St} {m : Int32} {e : Nat} {a : Int32} (h1 : fr x e < 24) (h2 : tt x e < 24) (h : sml a) : sml (cpb x m e a) := by
  unfold cpb
  split
  · split <;> split
    · exact sml_or (sml_or h (sml_bit h2)) (sml_bit h1)
    · exact sml_or h (sml_bit h1)
    · exact sml_or h (sml_bit h2)
    · exact h
  · exact h
theorem c_copied {N E : Nat} {x y : St} (hN : N ≤ 24) (h : RE N E x y) (m : Int32) : fX3_copied x m = some (cpy E x m) ∧ sml (cpy E x m) := by
  have hE := h.1
  have hc := h.2.1
  have := loop_fold (step := fX3_copied_l4 x m) E (fun a k => (a, n32 k)) (cpb x m) (fun _ a => sml a) (a0 := n32 0) (out := fun a => (a, n32 E)) (fun i _ => hs_0 i)
    (fun k a hk ha => by
      obtain ⟨h1, h2, -, h4, h5, -⟩ := RE_at h hN hk
      refine ⟨?_, cpb_sml (by omega) (by omega) ha⟩
      unfold fX3_copied_l4 fX3_copied_j75 fX3_copied_j94 cpb ctE
      simp (disch := omega) only [eq_self, n_le, n_lt, n_inj, n_nat, gd_in, n_add, bi_z, bi_1, gd_bi, n_nonneg,  some_bind, lt_e, lit_NV, if_true, if_false, ite_true, ite_false, Option.bind_some, not_true, not_false_iff, lit_0, lit_1, lit_2, lit_3, lit_4, lit_5, lit_6, lit_7, lit_8, lit_12, lit_24, lit_25, lit_30, lit_60, lit_63, lit_96, lit_100, lit_512, lit_240, hc, c_isThereE hc hE, ed_n hE hk, Nat.not_le.mpr hk, h1, h2, c_bit, c_isCut hN h hk]
      cases le x k <;> by_cases h3 : gi x 21 (fr x k) = gi x 21 (tt x k) <;> simp [h3]
      · by_cases h6 : gi x 21 (fr x k) = m <;> by_cases h7 : gi x 21 (tt x k) = m <;> simp [h6, h7])
    (fun a _ => by
      unfold fX3_copied_l4
      simp (disch := omega) only [eq_self, n_le, n_lt, n_inj, n_nat, gd_in, n_add, bi_z, bi_1, gd_bi, n_nonneg,  some_bind, lt_e, lit_NV, if_true, if_false, ite_true, ite_false, Option.bind_some, not_true, not_false_iff, lit_0, lit_1, lit_2, lit_3, lit_4, lit_5, lit_6, lit_7, lit_8, lit_12, lit_24, lit_25, lit_30, lit_60, lit_63, lit_96, lit_100, lit_512, lit_240, hc, Nat.le_refl])
  refine ⟨?_, this.2⟩
  unfold fX3_copied
  rw [lit_0, this.1]
  rfl
theorem r_copied {N E : Nat} {x y : St} (hN : N ≤ 24) (h : RE N E x y) (hm : ∀ k, gi y 3 k = gi x 21 k) (m : Int32) : loopF (fX11_copies_l25 y m) (n32 0, n32 0) = some (cpy E x m, n32 E) := by
  have hE := h.1
  obtain ⟨-, -, hc, hf, ht, -⟩ := id h
  exact (loop_fold (step := fX11_copies_l25 y m) E (fun a k => (a, n32 k)) (cpb x m) (fun _ _ => True) (a0 := n32 0) (out := fun a => (a, n32 E)) trivial
    (fun k a hk _ => ⟨by
      obtain ⟨h1, h2, -, h4, h5, -⟩ := RE_at h hN hk
      unfold fX11_copies_l25 fX11_copies_j83 fX11_copies_j84 fX11_copies_j128 fX11_copies_j129 fX11_copies_j131 cpb ctE
      simp (disch := omega) only [eq_self, n_le, n_lt, n_inj, n_nat, gd_in, n_add, bi_z, bi_1, gd_bi, n_nonneg,  some_bind, lt_e, lit_NV, if_true, if_false, ite_true, ite_false, Option.bind_some, not_true, not_false_iff, lit_0, lit_1, lit_2, lit_3, lit_4, lit_5, lit_6, lit_7, lit_8, lit_12, lit_24, lit_25, lit_30, lit_60, lit_63, lit_96, lit_100, lit_512, lit_240, hc, r_isEdge h, ed_n hE hk, Nat.not_le.mpr hk, hf, ht, h1, h2, hm, or_z]
      cases le x k
      · simp
      · by_cases h6 : gi x 21 (fr x k) = m <;> by_cases h7 : gi x 21 (tt x k) = m <;> simp [h6, h7, bit1, n32, Bool.true_eq_false]
        · intro q
          exact absurd q.symm h7, trivial⟩)
    (fun a _ => by
      unfold fX11_copies_l25
      simp (disch := omega) only [eq_self, n_le, n_lt, n_inj, n_nat, gd_in, n_add, bi_z, bi_1, gd_bi, n_nonneg,  some_bind, lt_e, lit_NV, if_true, if_false, ite_true, ite_false, Option.bind_some, not_true, not_false_iff, lit_0, lit_1, lit_2, lit_3, lit_4, lit_5, lit_6, lit_7, lit_8, lit_12, lit_24, lit_25, lit_30, lit_60, lit_63, lit_96, lit_100, lit_512, lit_240, hc, Nat.le_refl])).1
theorem q_copies {N E : Nat} {x y : St} {v : Int64} (hR : RN N x y) (h : RE N E x y) (hM : RM N x y) (a : Int32) : agQ (fL_copies x v a) (fX11_copies y a) x y := by
  obtain ⟨hN, hc, -⟩ := id hR
  unfold fL_copies fX10_copies fX11_copies fX11_copies_j13
  rw [c_reqMachine, r_isMachine]
  cases h1 : bw 3 a
  · exact ⟨1, v, 0, rfl, rfl, fun h => absurd h (by decide)⟩
  · obtain ⟨h2, h3⟩ := c_copied hN h a
    refine ⟨0, _, n32 (cnt (hs (cpy E x a)) 24), ?_, ?_, fun _ => rfl⟩
    · simp (disch := omega) only [eq_self, n_le, n_lt, n_inj, n_nat, gd_in, n_add, bi_z, bi_1, gd_bi, n_nonneg,  some_bind, lt_e, lit_NV, if_true, if_false, ite_true, ite_false, Option.bind_some, not_true, not_false_iff, lit_0, lit_1, lit_2, lit_3, lit_4, lit_5, lit_6, lit_7, lit_8, lit_12, lit_24, lit_25, lit_30, lit_60, lit_63, lit_96, lit_100, lit_512, lit_240, Sum.elim_inl, h2, c_bitCount h3]
    · simp (disch := omega) only [eq_self, n_le, n_lt, n_inj, n_nat, gd_in, n_add, bi_z, bi_1, gd_bi, n_nonneg,  some_bind, lt_e, lit_NV, if_true, if_false, ite_true, ite_false, Option.bind_some, not_true, not_false_iff, lit_0, lit_1, lit_2, lit_3, lit_4, lit_5, lit_6, lit_7, lit_8, lit_12, lit_24, lit_25, lit_30, lit_60, lit_63, lit_96, lit_100, lit_512, lit_240, r_fails0, Bool.true_eq_false, r_copied hN (RE_th h) (RM_th hM).1, r_size]
