/-! ### writes: set, edge, dropEdge, dropNode, node -/
theorem RC9_put {c P : Nat} {x : St} (h : RC9 c P x) : RC9 (c + 1) (P + 1) x := by
  obtain ⟨w, w1, w2⟩ := h
  exact ⟨w, w1, by omega⟩
theorem RC9_le {c P : Nat} {x : St} (h : RC9 c P x) : P ≤ c := by
  obtain ⟨w, w1, w2⟩ := h
  omega
theorem RL_lab {N : Nat} {x : St} (h : RQ N x) {k : Nat} (hk : k < N) : ∃ l : Nat, l < 4 ∧ gi x 4 k = n32 l := h.1 k hk
theorem owes_2 : owes fLaw_c2 := fun c x y v p1 p2 p3 p4 h hc => by
  obtain ⟨N, E, T, P, R, hC, hT, hF, hQ, hB⟩ := Cor_of h
  obtain ⟨h2, h3, h4, h5, h6, h7, h8, h9, h10, h11, h13⟩ := id hC
  have hN := h2.1
  refine law_I (Q := fun x' y' => Rel (c + 1) x' y') ?_
  unfold fL_set fX10_set fX11_set fX11_set_j35
  rw [c_reqNode h2.2.1 hN, r_isNode h2]
  cases w1 : nd N x p1
  · exact ⟨1, x, v, 0, th y 1, rfl, rfl, rfl, fun h => absurd h (by decide), Rel_th h hc 1⟩
  obtain ⟨k, hk, rfl, hlk⟩ := nd_ex hN w1
  obtain ⟨l, hl, hl4⟩ := RL_lab hQ hk
  have e1 := c_isTaken h2 h6 hl p2 (n32 k)
  have e2 := r_breaksKey h2 h6 hl p2 (n32 k)
  have g1 : gi y 1 k = n32 l := (h2.2.2.2.1 k).trans hl4
  cases ht : ky x l && tkn N x (n32 l) p2 (n32 k)
  · rw [ht] at e1 e2
    have hP : P < 512 := by
      have := RC9_le hB
      omega
    have hC1 := Cor_tick (Cor_th (n32 0) hC) (by omega)
    have hC2 := Cor_put (k := k) (v := p2) hC1 hP
    have f1 : fX6_put (ui x 0 11 (n32 (T + 1))) (n32 k) p2 (n32 (T + 1)) = some (ptX (ui x 0 11 (n32 (T + 1))) k p2 (T + 1) P) := c_put hC1.2.2.2.2.2.1.2.1 hP (by omega)
    have f2 : fX11_notes (ui (th y (n32 0)) 0 0 (n32 (T + 1))) (n32 k) p2 = some (ptY (ui (th y (n32 0)) 0 0 (n32 (T + 1))) k p2 (T + 1) P) := r_notes hC1.2.2.2.2.2.1.2.2.1 hP (by omega) hC1.2.2.1.2.2
    refine ⟨0, _, (gi x 5 k).toInt64, gi x 5 k, _, ?_, ?_, ?_, fun _ => rfl, Rel_of hC2 (by omega) (by omega) ?_ ?_ ?_⟩
    · simp (disch := omega) only [eq_self, n_le, n_lt, n_inj, n_nat, gd_in, n_add, bi_z, bi_1, gd_bi, n_nonneg,  some_bind, lt_e, lit_NV, if_true, if_false, ite_true, ite_false, Option.bind_some, not_true, not_false_iff, lit_0, lit_1, lit_2, lit_3, lit_4, lit_5, lit_6, lit_7, lit_8, lit_12, lit_24, lit_25, lit_30, lit_60, lit_63, lit_96, lit_100, lit_512, lit_240, Sum.elim_inl, hl4, e1, h4.2.1, gi_yes, f1]
    · simp (disch := omega) only [eq_self, n_le, n_lt, n_inj, n_nat, gd_in, n_add, bi_z, bi_1, gd_bi, n_nonneg,  some_bind, lt_e, lit_NV, if_true, if_false, ite_true, ite_false, Option.bind_some, not_true, not_false_iff, lit_0, lit_1, lit_2, lit_3, lit_4, lit_5, lit_6, lit_7, lit_8, lit_12, lit_24, lit_25, lit_30, lit_60, lit_63, lit_96, lit_100, lit_512, lit_240, Bool.true_eq_false, g1, e2, r_fails0, th_ne, h2.2.2.2.2.1, h4.2.2, f2]
    · rw [ptY_o (by omega), gi_no (by omega)]
      rfl
    · exact RF_fr (fun a j q => by rw [ptX_o (by omega), gi_no (by omega)]) hF
    · obtain ⟨z1, z2⟩ := hQ
      have hlv : lv (ptX (ui x 0 11 (n32 (T + 1))) k p2 (T + 1) P) = lv x := lv_cg fun j => by rw [ptX_o (by omega), gi_no (by omega)]
      have h5e : ∀ j, gi (ptX (ui x 0 11 (n32 (T + 1))) k p2 (T + 1) P) 5 j = if j = k then p2 else gi x 5 j := fun j => by
        unfold ptX
        by_cases e : j = k
        · rw [if_pos e]
          simp (disch := omega) only [gi_no, gi_yes]
        · rw [if_neg e]
          simp (disch := omega) only [gi_no]
      have h4e : ∀ j, gi (ptX (ui x 0 11 (n32 (T + 1))) k p2 (T + 1) P) 4 j = gi x 4 j := fun j => by rw [ptX_o (by omega), gi_no (by omega)]
      have h17e : ∀ j, gi (ptX (ui x 0 11 (n32 (T + 1))) k p2 (T + 1) P) 17 j = gi x 17 j := fun j => by rw [ptX_o (by omega), gi_no (by omega)]
      have hno : ∀ j, j < N → j ≠ k → ky x l = true → gi x 4 j = n32 l → lv x j = true → gi x 5 j ≠ p2 := fun j hj hjk hky q4 ql q5 => by
        rw [hky, Bool.true_and] at ht
        have := any_no ht hj
        unfold tkk at this
        have hn : ¬ n32 j = n32 k := by
          rw [n_inj (by omega) (by omega)]
          exact hjk
        rw [ql, q4, q5] at this
        simp [hn] at this
      refine ⟨fun j hj => by rw [h4e]; exact z1 j hj, fun l' a b hl' hab hb hk17 ha4 hb4 hla hlb => ?_⟩
      rw [hlv] at hla hlb
      rw [h4e] at ha4 hb4
      rw [h17e] at hk17
      rw [h5e, h5e]
      by_cases q1 : a = k
      · subst q1
        have hll : l' = l := by
          rw [hl4, n_inj (by omega) (by omega)] at ha4
          exact ha4.symm
        subst hll
        rw [if_pos rfl, if_neg (by omega)]
        exact (hno b hb (by omega) (decide_eq_true hk17) hb4 hlb).symm
      · rw [if_neg q1]
        by_cases q2 : b = k
        · subst q2
          have hll : l' = l := by
            rw [hl4, n_inj (by omega) (by omega)] at hb4
            exact hb4.symm
          subst hll
          rw [if_pos rfl]
          exact hno a (by omega) q1 (decide_eq_true hk17) ha4 hla
        · rw [if_neg q2]
          exact z2 l' a b hl' hab hb hk17 ha4 hb4 hla hlb
    · exact RC9_put (RC9_fr (fun a j q => by rw [ptX_o (by omega), gi_no (by omega)]) hB)
  · rw [ht] at e1 e2
    refine ⟨2, x, v, 0, th y 2, ?_, ?_, rfl, fun h => absurd h (by decide), Rel_th h hc 2⟩
    · simp (disch := omega) only [eq_self, n_le, n_lt, n_inj, n_nat, gd_in, n_add, bi_z, bi_1, gd_bi, n_nonneg,  some_bind, lt_e, lit_NV, if_true, if_false, ite_true, ite_false, Option.bind_some, not_true, not_false_iff, lit_0, lit_1, lit_2, lit_3, lit_4, lit_5, lit_6, lit_7, lit_8, lit_12, lit_24, lit_25, lit_30, lit_60, lit_63, lit_96, lit_100, lit_512, lit_240, Sum.elim_inl, hl4, e1, Bool.true_eq_false, Sum.elim_inr]
      rfl
    · simp (disch := omega) only [eq_self, n_le, n_lt, n_inj, n_nat, gd_in, n_add, bi_z, bi_1, gd_bi, n_nonneg,  some_bind, lt_e, lit_NV, if_true, if_false, ite_true, ite_false, Option.bind_some, not_true, not_false_iff, lit_0, lit_1, lit_2, lit_3, lit_4, lit_5, lit_6, lit_7, lit_8, lit_12, lit_24, lit_25, lit_30, lit_60, lit_63, lit_96, lit_100, lit_512, lit_240, Bool.true_eq_false, g1, e2, r_fails2, Nat.one_ne_zero]
theorem c_isAllowed {N : Nat} {x y : St} (h2 : RN N x y) (h6 : RW x y) {a b l : Nat} (ha : a < N) (hb : b < N) (hl : l < 4) : ∃ q : Bool, fX2_isAllowed x (n32 a) (n32 l) (n32 b) = some (bi q) ∧ fX11_fitsShape y (n32 l) (n32 a) (n32 b) = some (bi q) := by
  have hN := h2.1
  obtain ⟨-, w2, w3⟩ := h6
  have g4 := h2.2.2.2.1
  have w2l := w2 l
  unfold fX2_isAllowed fX2_isAllowed_j46 fX2_isAllowed_j50 fX11_fitsShape fX11_fitsShape_j40 fX11_fitsShape_j44
  by_cases q1 : gi x 18 l = -n32 1
  · refine ⟨true, ?_, ?_⟩
    · simp (disch := omega) only [eq_self, n_le, n_lt, n_inj, n_nat, gd_in, n_add, bi_z, bi_1, gd_bi, n_nonneg,  some_bind, lt_e, lit_NV, if_true, if_false, ite_true, ite_false, Option.bind_some, not_true, not_false_iff, lit_0, lit_1, lit_2, lit_3, lit_4, lit_5, lit_6, lit_7, lit_8, lit_12, lit_24, lit_25, lit_30, lit_60, lit_63, lit_96, lit_100, lit_512, lit_240, q1]
      rfl
    · simp (disch := omega) only [eq_self, n_le, n_lt, n_inj, n_nat, gd_in, n_add, bi_z, bi_1, gd_bi, n_nonneg,  some_bind, lt_e, lit_NV, if_true, if_false, ite_true, ite_false, Option.bind_some, not_true, not_false_iff, lit_0, lit_1, lit_2, lit_3, lit_4, lit_5, lit_6, lit_7, lit_8, lit_12, lit_24, lit_25, lit_30, lit_60, lit_63, lit_96, lit_100, lit_512, lit_240, w2, q1]
      rfl
  · have w3l := w3 l q1
    refine ⟨decide (gi x 4 a = gi x 18 l) && decide (gi x 4 b = gi x 19 l), ?_, ?_⟩
    · simp (disch := omega) only [eq_self, n_le, n_lt, n_inj, n_nat, gd_in, n_add, bi_z, bi_1, gd_bi, n_nonneg,  some_bind, lt_e, lit_NV, if_true, if_false, ite_true, ite_false, Option.bind_some, not_true, not_false_iff, lit_0, lit_1, lit_2, lit_3, lit_4, lit_5, lit_6, lit_7, lit_8, lit_12, lit_24, lit_25, lit_30, lit_60, lit_63, lit_96, lit_100, lit_512, lit_240, q1]
      by_cases z1 : gi x 4 a = gi x 18 l <;> by_cases z2 : gi x 4 b = gi x 19 l <;> simp [z1, z2, bi]
    · simp (disch := omega) only [eq_self, n_le, n_lt, n_inj, n_nat, gd_in, n_add, bi_z, bi_1, gd_bi, n_nonneg,  some_bind, lt_e, lit_NV, if_true, if_false, ite_true, ite_false, Option.bind_some, not_true, not_false_iff, lit_0, lit_1, lit_2, lit_3, lit_4, lit_5, lit_6, lit_7, lit_8, lit_12, lit_24, lit_25, lit_30, lit_60, lit_63, lit_96, lit_100, lit_512, lit_240, w2, q1, w3l, g4]
      by_cases z1 : gi x 4 a = gi x 18 l <;> by_cases z2 : gi x 4 b = gi x 19 l <;> simp [z1, z2, bi]
theorem owes_1 : owes fLaw_c1 := fun c x y v p1 p2 p3 p4 h hc => by
  obtain ⟨N, E, T, P, R, hC, hT, hF, hQ, hB⟩ := Cor_of h
  obtain ⟨h2, h3, h4, h5, h6, h7, h8, h9, h10, h11, h13⟩ := id hC
  have hN := h2.1
  have hE := h3.1
  refine law_I (Q := fun x' y' => Rel (c + 1) x' y') ?_
  unfold fL_edge fX10_edge fX11_edge fX11_edge_j27 fX11_edge_j28 fX11_edge_j59 fX11_edge_j64
  rw [c_reqNode h2.2.1 hN, r_isNode h2]
  cases w1 : nd N x p1
  · exact ⟨1, x, v, 0, th y 1, rfl, rfl, rfl, fun h => absurd h (by decide), Rel_th h hc 1⟩
  rw [c_reqNode h2.2.1 hN, r_isNode h2]
  cases w2 : nd N x p3
  · exact ⟨1, x, v, 0, th y 1, rfl, rfl, rfl, fun h => absurd h (by decide), Rel_th h hc 1⟩
  rw [c_reqLabel, r_isLabel]
  cases w3 : bw 4 p2
  · exact ⟨1, x, v, 0, th y 1, rfl, rfl, rfl, fun h => absurd h (by decide), Rel_th h hc 1⟩
  obtain ⟨a, ha, rfl, -⟩ := nd_ex hN w1
  obtain ⟨b, hb, rfl, -⟩ := nd_ex hN w2
  obtain ⟨l, hl, rfl⟩ := bw_ex (by decide) w3
  by_cases hE60 : E = 60
  · refine ⟨2, x, v, 0, th y 2, ?_, ?_, rfl, fun h => absurd h (by decide), Rel_th h hc 2⟩
    · simp (disch := omega) only [eq_self, n_le, n_lt, n_inj, n_nat, gd_in, n_add, bi_z, bi_1, gd_bi, n_nonneg,  some_bind, lt_e, lit_NV, if_true, if_false, ite_true, ite_false, Option.bind_some, not_true, not_false_iff, lit_0, lit_1, lit_2, lit_3, lit_4, lit_5, lit_6, lit_7, lit_8, lit_12, lit_24, lit_25, lit_30, lit_60, lit_63, lit_96, lit_100, lit_512, lit_240, Sum.elim_inl, h3.2.1, show ¬ E < 60 by omega, Sum.elim_inr]
      rfl
    · simp (disch := omega) only [eq_self, n_le, n_lt, n_inj, n_nat, gd_in, n_add, bi_z, bi_1, gd_bi, n_nonneg,  some_bind, lt_e, lit_NV, if_true, if_false, ite_true, ite_false, Option.bind_some, not_true, not_false_iff, lit_0, lit_1, lit_2, lit_3, lit_4, lit_5, lit_6, lit_7, lit_8, lit_12, lit_24, lit_25, lit_30, lit_60, lit_63, lit_96, lit_100, lit_512, lit_240, Bool.true_eq_false, h3.2.2.1, hE60, r_fails2, Nat.one_ne_zero]
  · obtain ⟨q, e1, e2⟩ := c_isAllowed h2 h6 ha hb hl
    cases q
    · refine ⟨2, x, v, 0, th y 2, ?_, ?_, rfl, fun h => absurd h (by decide), Rel_th h hc 2⟩
      · simp (disch := omega) only [eq_self, n_le, n_lt, n_inj, n_nat, gd_in, n_add, bi_z, bi_1, gd_bi, n_nonneg,  some_bind, lt_e, lit_NV, if_true, if_false, ite_true, ite_false, Option.bind_some, not_true, not_false_iff, lit_0, lit_1, lit_2, lit_3, lit_4, lit_5, lit_6, lit_7, lit_8, lit_12, lit_24, lit_25, lit_30, lit_60, lit_63, lit_96, lit_100, lit_512, lit_240, Sum.elim_inl, h3.2.1, show E < 60 by omega, e1, Sum.elim_inr]
        rfl
      · simp (disch := omega) only [eq_self, n_le, n_lt, n_inj, n_nat, gd_in, n_add, bi_z, bi_1, gd_bi, n_nonneg,  some_bind, lt_e, lit_NV, if_true, if_false, ite_true, ite_false, Option.bind_some, not_true, not_false_iff, lit_0, lit_1, lit_2, lit_3, lit_4, lit_5, lit_6, lit_7, lit_8, lit_12, lit_24, lit_25, lit_30, lit_60, lit_63, lit_96, lit_100, lit_512, lit_240, Bool.true_eq_false, h3.2.2.1, hE60, e2, r_fails2, Nat.one_ne_zero]
    · have hC1 := Cor_tick (Cor_th (n32 0) hC) (by omega)
      have hC2 := Cor_add hC1 (show E < 60 by omega) ha hb hl
      have f1 := c_addEdge hC1 (show E < 60 by omega) ha hb hl
      have f2 := r_adds hC1 (show E < 60 by omega) ha hb hl
      obtain ⟨x2, f3, hC3, hF3, hX3⟩ := Cor_infer hC2
      have hx : ∀ a' k, a' < 5 ∧ ¬ (a' = 0 ∧ k = 11) ∨ (15 < a' ∧ a' < 29) ∨ (53 < a') → gi x2 a' k = gi x a' k := fun a' k hq => by
        rw [hX3.2 _ _ (by omega)]
        unfold adX
        simp (disch := omega) only [gi_no]
      have hx5 : ∀ k, gi x2 5 k = gi x 5 k := fun k => by
        rw [hX3.2 _ _ (by omega)]
        unfold adX
        simp (disch := omega) only [gi_no]
      refine ⟨0, x2, (n32 E).toInt64, n32 E, _, ?_, ?_, ?_, fun _ => rfl, Rel_of hC3 (by omega) (by omega) hF3 ?_ ?_⟩
      · simp (disch := omega) only [eq_self, n_le, n_lt, n_inj, n_nat, gd_in, n_add, bi_z, bi_1, gd_bi, n_nonneg,  some_bind, lt_e, lit_NV, if_true, if_false, ite_true, ite_false, Option.bind_some, not_true, not_false_iff, lit_0, lit_1, lit_2, lit_3, lit_4, lit_5, lit_6, lit_7, lit_8, lit_12, lit_24, lit_25, lit_30, lit_60, lit_63, lit_96, lit_100, lit_512, lit_240, Sum.elim_inl, h3.2.1, show E < 60 by omega, e1, Bool.true_eq_false, h4.2.1, f1, f3]
      · simp (disch := omega) only [eq_self, n_le, n_lt, n_inj, n_nat, gd_in, n_add, bi_z, bi_1, gd_bi, n_nonneg,  some_bind, lt_e, lit_NV, if_true, if_false, ite_true, ite_false, Option.bind_some, not_true, not_false_iff, lit_0, lit_1, lit_2, lit_3, lit_4, lit_5, lit_6, lit_7, lit_8, lit_12, lit_24, lit_25, lit_30, lit_60, lit_63, lit_96, lit_100, lit_512, lit_240, Bool.true_eq_false, h3.2.2.1, hE60, e2, r_fails0, Nat.one_ne_zero, th_ne, h4.2.2, f2]
      · unfold adY
        simp (disch := omega) only [gi_no]
        rfl
      · exact RQ_fr (fun a k q => by
          rcases q with q | q
          · by_cases z : a = 5
            · subst z
              exact hx5 k
            · exact hx _ _ (by omega)
          · exact hx _ _ (by omega)) hQ
      · exact RC9_up (RC9_fr (fun a k q => hx _ _ (by omega)) hB)
theorem owes_3 : owes fLaw_c3 := fun c x y v p1 p2 p3 p4 h hc => by
  obtain ⟨N, E, T, P, R, hC, hT, hF, hQ, hB⟩ := Cor_of h
  obtain ⟨h2, h3, h4, h5, h6, h7, h8, h9, h10, h11, h13⟩ := id hC
  have hN := h2.1
  have hE := h3.1
  refine law_I (Q := fun x' y' => Rel (c + 1) x' y') ?_
  unfold fL_dropEdge fX10_dropEdge fX10_requireEdge fX10_startAnew fX11_dropEdge fX11_dropEdge_j14
  rw [c_isThereE h3.2.1 hE, r_isEdge h3]
  cases w1 : ed E x p1
  · exact ⟨1, x, v, 0, th y 1, rfl, rfl, rfl, fun h => absurd h (by decide), Rel_th h hc 1⟩
  obtain ⟨e, he, rfl, -⟩ := ed_ex hE w1
  have hC1 := Cor_tick (Cor_th (n32 0) hC) (by omega)
  have f1 := c_end hC1 he
  have f2 := r_drops hC1 he
  have hC2 := Cor_end hC1 (fr (ui x 0 11 (n32 (T + 1))) e) (tt (ui x 0 11 (n32 (T + 1))) e) e
  obtain ⟨x3, y3, f3, f4, hC3, hl3, hx3, hy3⟩ := Cor_wake hC2
  obtain ⟨x4, f5, hC4, hF4, hX4⟩ := Cor_infer hC3
  have hx : ∀ a' k, a' < 6 ∧ ¬ (a' = 0 ∧ k = 11) ∨ (12 < a' ∧ a' < 29) ∨ (54 < a') → gi x4 a' k = gi x a' k := fun a' k hq => by
    rw [hX4.2 _ _ (by omega), hx3 _ _ (by omega)]
    unfold enX
    simp (disch := omega) only [gi_no]
  have h50 : gi y3 0 50 = 0 := by
    rw [hy3 _ _ (by omega)]
    unfold enY
    simp (disch := omega) only [gi_no]
    rfl
  refine ⟨0, x4, (n32 (T + 1)).toInt64, n32 (T + 1), y3, ?_, ?_, h50, fun _ => rfl, Rel_of hC4 (by omega) (by omega) hF4 ?_ ?_⟩
  · simp (disch := omega) only [eq_self, n_le, n_lt, n_inj, n_nat, gd_in, n_add, bi_z, bi_1, gd_bi, n_nonneg,  some_bind, lt_e, lit_NV, if_true, if_false, ite_true, ite_false, Option.bind_some, not_true, not_false_iff, lit_0, lit_1, lit_2, lit_3, lit_4, lit_5, lit_6, lit_7, lit_8, lit_12, lit_24, lit_25, lit_30, lit_60, lit_63, lit_96, lit_100, lit_512, lit_240, Bool.true_eq_false, Sum.elim_inl, h4.2.1, f1, f3, f5, hC4.2.2.1.2.1]
  · simp (disch := omega) only [eq_self, n_le, n_lt, n_inj, n_nat, gd_in, n_add, bi_z, bi_1, gd_bi, n_nonneg,  some_bind, lt_e, lit_NV, if_true, if_false, ite_true, ite_false, Option.bind_some, not_true, not_false_iff, lit_0, lit_1, lit_2, lit_3, lit_4, lit_5, lit_6, lit_7, lit_8, lit_12, lit_24, lit_25, lit_30, lit_60, lit_63, lit_96, lit_100, lit_512, lit_240, Bool.true_eq_false, r_fails0, th_ne, h4.2.2, f2, f4, hC3.2.2.1.2.2]
  · exact RQ_fr (fun a k q => hx _ _ (by omega)) hQ
  · exact RC9_up (RC9_fr (fun a k q => hx _ _ (by omega)) hB)
