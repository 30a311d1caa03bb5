theorem n_mul (a b : Nat) : n32 a * n32 b = n32 (a * b) := (Int32.ofNat_mul a b).symm
theorem q_read {N E P : Nat} {x y : St} {v : Int64} (hR : RN N x y) (hG : RG N P x y) (hX : ∀ u, u < 4 → RX N E x y u) (a b : Int32) : agQ (fL_read x v a b) (fX11_read y a b) x y := by
  obtain ⟨hN, -⟩ := id hR
  unfold fL_read fX10_read fX11_read fX11_read_j15
  rw [c_reqSeen hR hX, r_seesNode hR hX]
  cases h : sn N x a b
  · exact ⟨1, v, 0, rfl, rfl, fun h => absurd h (by decide)⟩
  · obtain ⟨u, k, hu, hk, rfl, rfl, -, hw⟩ := sn_ex hN h
    obtain ⟨-, hbg, -, -, hwr, -⟩ := hX u hu
    obtain ⟨w1, w2⟩ := hwr k (by omega)
    have hidx : 24 * u + k < 96 := by omega
    cases hs9 : hs (gi x (57 + 5 * u) 6) k
    · obtain ⟨r, e1, -⟩ := val_same hN hG hw hk
      obtain ⟨r', e3, e2⟩ := val_same hN (RG_th (c := n32 0) hG) hw hk
      cases e1.symm.trans e3
      refine ⟨0, r.toInt64, r, ?_, ?_, fun _ => rfl⟩
      · simp (disch := omega) only [eq_self, n_le, n_lt, n_inj, n_nat, gd_in, n_add, bi_z, bi_1, gd_bi, n_nonneg,  some_bind, lt_e, lit_NV, if_true, if_false, ite_true, ite_false, Option.bind_some, not_true, not_false_iff, lit_0, lit_1, lit_2, lit_3, lit_4, lit_5, lit_6, lit_7, lit_8, lit_12, lit_24, lit_25, lit_30, lit_60, lit_63, lit_96, lit_100, lit_512, lit_240, Bool.true_eq_false, Sum.elim_inl, c_has (gi x (57 + 5 * u) 6) (show k < 32 by omega), hs9, e1]
      · simp (disch := omega) only [eq_self, n_le, n_lt, n_inj, n_nat, gd_in, n_add, bi_z, bi_1, gd_bi, n_nonneg,  some_bind, lt_e, lit_NV, if_true, if_false, ite_true, ite_false, Option.bind_some, not_true, not_false_iff, lit_0, lit_1, lit_2, lit_3, lit_4, lit_5, lit_6, lit_7, lit_8, lit_12, lit_24, lit_25, lit_30, lit_60, lit_63, lit_96, lit_100, lit_512, lit_240, Bool.true_eq_false, r_fails0, n_mul, th_ne, w1, hs9, hbg, e2]
    · refine ⟨0, (gi x (58 + 5 * u) k).toInt64, gi x (58 + 5 * u) k, ?_, ?_, fun _ => rfl⟩
      · simp (disch := omega) only [eq_self, n_le, n_lt, n_inj, n_nat, gd_in, n_add, bi_z, bi_1, gd_bi, n_nonneg,  some_bind, lt_e, lit_NV, if_true, if_false, ite_true, ite_false, Option.bind_some, not_true, not_false_iff, lit_0, lit_1, lit_2, lit_3, lit_4, lit_5, lit_6, lit_7, lit_8, lit_12, lit_24, lit_25, lit_30, lit_60, lit_63, lit_96, lit_100, lit_512, lit_240, Bool.true_eq_false, Sum.elim_inl, c_has (gi x (57 + 5 * u) 6) (show k < 32 by omega), hs9]
      · simp (disch := omega) only [eq_self, n_le, n_lt, n_inj, n_nat, gd_in, n_add, bi_z, bi_1, gd_bi, n_nonneg,  some_bind, lt_e, lit_NV, if_true, if_false, ite_true, ite_false, Option.bind_some, not_true, not_false_iff, lit_0, lit_1, lit_2, lit_3, lit_4, lit_5, lit_6, lit_7, lit_8, lit_12, lit_24, lit_25, lit_30, lit_60, lit_63, lit_96, lit_100, lit_512, lit_240, Bool.true_eq_false, r_fails0, n_mul, th_ne, w1, hs9, w2]
theorem owes_17 : owes fLaw_c17 := fun c x y v p1 p2 p3 p4 h hc => by
  obtain ⟨N, E, T, P, R, -, -, h2, h3, h4, h5, h6, h7, h8, -⟩ := id h
  exact owes_Q h hc (q_read h2 h7 h8 p1 p2)
