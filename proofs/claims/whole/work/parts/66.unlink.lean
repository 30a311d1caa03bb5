theorem r_seesEdge {N E : Nat} {x y : St} (h : RE N E x y) (hX : ∀ u, u < 4 → RX N E x y u) {u : Nat} (hu : u < 4) (ho : op x u = true) (b : Int32) : fX11_seesEdge y (n32 u) b = some (bi (we E x b (gi x (57 + 5 * u) 5) && !hl (gl x (57 + 5 * u) 8) b.toNatClampNeg)) := by
  obtain ⟨hE, -, hc, hf, ht, -, hb, hg, -⟩ := id h
  obtain ⟨-, hbg, -, -, -, -, hdr, -⟩ := hX u hu
  have htx : tx x (n32 u) = true := by
    unfold tx bw
    rw [n_nat (by omega), ho, decide_eq_true ⟨n_nonneg (by omega), by rw [n_lt (by omega) (by decide)]; exact hu⟩]; rfl
  unfold fX11_seesEdge fX11_seesEdge_j64
  simp (disch := omega) only [eq_self, n_le, n_lt, n_inj, n_nat, gd_in, n_add, bi_z, bi_1, gd_bi, n_nonneg,  some_bind, lt_e, lit_NV, if_true, if_false, ite_true, ite_false, Option.bind_some, not_true, not_false_iff, lit_0, lit_1, lit_2, lit_3, lit_4, lit_5, lit_6, lit_7, lit_8, lit_12, lit_24, lit_25, lit_30, lit_60, lit_63, lit_96, lit_100, lit_512, lit_240, r_isTx hX, htx, hc, show fX11_isIn y b (n32 0) (n32 E - n32 1) = some (bi (bw E b)) from r_isIn (y := y) (a := b) (n := E) (by omega), Bool.true_eq_false]
  cases h2 : bw E b
  · have hw : ∀ t, we E x b t = false := fun t => by
      unfold we
      unfold bw at h2
      rw [h2]; rfl
    rw [hw]
    rfl
  · obtain ⟨e, he, rfl⟩ := bw_ex (by omega) h2
    have hwe : we E x (n32 e) (gi x (57 + 5 * u) 5) = (decide (¬ gi x (57 + 5 * u) 5 < gi x 11 e) && decide (¬ gi x 12 e ≤ gi x (57 + 5 * u) 5)) := by
      unfold we
      unfold bw at h2
      rw [h2, n_nat (by omega), Bool.true_and]
    simp (disch := omega) only [eq_self, n_le, n_lt, n_inj, n_nat, gd_in, n_add, bi_z, bi_1, gd_bi, n_nonneg,  some_bind, lt_e, lit_NV, if_true, if_false, ite_true, ite_false, Option.bind_some, not_true, not_false_iff, lit_0, lit_1, lit_2, lit_3, lit_4, lit_5, lit_6, lit_7, lit_8, lit_12, lit_24, lit_25, lit_30, lit_60, lit_63, lit_96, lit_100, lit_512, lit_240, hb, hg, hbg, r_wasThere, n_mul, hdr e (show e < 60 by omega), Bool.true_eq_false, ← hwe]
    cases we E x (n32 e) (gi x (57 + 5 * u) 5) <;> cases hl (gl x (57 + 5 * u) 8) e <;> rfl
def unX (x : St) (u e : Nat) : St := ul x (57 + 5 * u) 8 (gl x (57 + 5 * u) 8 ||| bit6 e)
theorem RX_un {N E u e : Nat} {x y : St} (hE : E ≤ 60) (he : e < E) {q : Nat} (hu : u < 4) (hq : q < 4) (h : RX N E x y q) : RX N E (unX x u e) (ui y 30 (60 * u + e) (n32 1)) q := by
  obtain ⟨h1, h2, h3, h4, h5, h6, h7, h8⟩ := h
  have o : ∀ a j, gi (unX x u e) a j = gi x a j := fun a j => rfl
  have oy : ∀ a j, ¬ (a = 30 ∧ j = 60 * u + e) → gi (ui y 30 (60 * u + e) (n32 1)) a j = gi y a j := fun a j h => by rw [gi_ui, if_neg h]
  have s8 : ∀ j, hl (gl (unX x u e) (57 + 5 * q) 8) j = (hl (gl x (57 + 5 * q) 8) j || (decide (q = u) && hl (bit6 e) j)) := fun j => by
    unfold unX
    rw [gl_ul]
    by_cases c : q = u
    · subst c; rw [if_pos ⟨rfl, rfl⟩, hl_or]; simp
    · rw [if_neg (fun z => c (by omega))]; simp [c]
  refine ⟨?_, ?_, ?_, ?_, ?_, ?_, fun j hj => ?_, fun j hj => ?_⟩
  · simpa (disch := omega) only [o, oy] using h1
  · simpa (disch := omega) only [o, oy] using h2
  · simpa (disch := omega) only [o, oy] using h3
  · simpa (disch := omega) only [o, oy] using h4
  · simpa (disch := omega) only [o, oy] using h5
  · simpa (disch := omega) only [o, oy] using h6
  · rw [s8, hl_bit6 e (by omega) j (by omega)]
    by_cases c : q = u ∧ j = e
    · obtain ⟨rfl, rfl⟩ := c
      rw [gi_ui_eq]
      simp [bi]
    · rw [oy _ _ (by omega), h7 j hj]
      by_cases c1 : q = u
      · have c2 : ¬ j = e := fun c2 => c ⟨c1, c2⟩
        simp [c2]
      · simp [c1]
  · rw [s8, h8 j hj]
    by_cases hj64 : j < 64
    · rw [hl_bit6 e (by omega) j hj64, decide_eq_false (show ¬ j = e by omega)]; simp
    · have : hl (bit6 e) j = false := BitVec.getLsbD_of_ge _ _ (by omega)
      rw [this]; simp
theorem owes_16 : owes fLaw_c16 := fun c x y v p1 p2 p3 p4 h hc => by
  obtain ⟨N, E, T, P, R, -, -, h2, h3, h4, h5, h6, h7, h8, -⟩ := id h
  have hE := h3.1
  refine law_V (Q := fun x' y' => Rel (c + 1) x' y') ?_
  unfold fL_unlink fX10_unlink fX10_unlink_j35 fX11_unlink fX11_unlink_j15
  rw [c_reqTx h8]
  cases h9 : tx x p1
  · have e : fX11_seesEdge y p1 p2 = some (n32 0) := by
      unfold fX11_seesEdge fX11_seesEdge_j64
      rw [r_isTx h8, h9]
      rfl
    rw [e]
    exact ⟨1, x, v, th y 1, rfl, rfl, rfl, Rel_th h hc 1⟩
  · obtain ⟨u, hu, rfl, ho⟩ := tx_ex h9
    rw [r_seesEdge h3 h8 hu ho]
    simp (disch := omega) only [eq_self, n_le, n_lt, n_inj, n_nat, gd_in, n_add, bi_z, bi_1, gd_bi, n_nonneg,  some_bind, lt_e, lit_NV, if_true, if_false, ite_true, ite_false, Option.bind_some, not_true, not_false_iff, lit_0, lit_1, lit_2, lit_3, lit_4, lit_5, lit_6, lit_7, lit_8, lit_12, lit_24, lit_25, lit_30, lit_60, lit_63, lit_96, lit_100, lit_512, lit_240, Sum.elim_inl, c_wasThereE h3.2.1 hE]
    cases hw : we E x p2 (gi x (57 + 5 * u) 5)
    · exact ⟨1, x, v, th y 1, rfl, rfl, rfl, Rel_th h hc 1⟩
    · have hw2 := hw
      unfold we at hw2
      simp only [Bool.and_eq_true, decide_eq_true_eq] at hw2
      obtain ⟨e, he, rfl⟩ := n_below (by omega) hw2.1
      simp (disch := omega) only [eq_self, n_le, n_lt, n_inj, n_nat, gd_in, n_add, bi_z, bi_1, gd_bi, n_nonneg,  some_bind, lt_e, lit_NV, if_true, if_false, ite_true, ite_false, Option.bind_some, not_true, not_false_iff, lit_0, lit_1, lit_2, lit_3, lit_4, lit_5, lit_6, lit_7, lit_8, lit_12, lit_24, lit_25, lit_30, lit_60, lit_63, lit_96, lit_100, lit_512, lit_240, c_drops (show e < 60 by omega), Bool.true_eq_false, Bool.true_and]
      cases hd : hl (gl x (57 + 5 * u) 8) e
      · refine ⟨0, unX x u e, v, ui (th y 0) 30 (60 * u + e) (n32 1), ?_, ?_, rfl, ?_⟩
        · rfl
        · have hidx : 60 * u + e < 240 := by omega
          simp (disch := omega) only [eq_self, n_le, n_lt, n_inj, n_nat, gd_in, n_add, bi_z, bi_1, gd_bi, n_nonneg,  some_bind, lt_e, lit_NV, if_true, if_false, ite_true, ite_false, Option.bind_some, not_true, not_false_iff, lit_0, lit_1, lit_2, lit_3, lit_4, lit_5, lit_6, lit_7, lit_8, lit_12, lit_24, lit_25, lit_30, lit_60, lit_63, lit_96, lit_100, lit_512, lit_240, Bool.not_false, Bool.true_eq_false, r_fails0, n_mul]
        · refine Rel_X h hc (fun a j ha => rfl) (fun a j ha h0 => ?_) (fun M F hM hF hRM hX q hq => ?_) (fun P9 hC => RC9_up hC)
          · rw [gi_ui_ne (Or.inl (by omega)), gi_th, if_neg h0]
          · have e9 := hF.2.1.symm.trans h3.2.1
            have b1 := hF.1
            rw [n_inj (by omega) (by omega)] at e9
            subst e9
            exact RX_un hF.1 he hu hq (RX_th (hX q hq))
      · exact ⟨1, x, v, th y 1, rfl, rfl, rfl, Rel_th h hc 1⟩
