def wrX (x : St) (u k : Nat) (v : Int32) : St := ui (ui x (57 + 5 * u) 6 (gi x (57 + 5 * u) 6 ||| bit1 k)) (58 + 5 * u) k v
def wrY (y : St) (u k : Nat) (v : Int32) : St := ui (ui y 24 (24 * u + k) (n32 1)) 25 (24 * u + k) v
theorem wrX_o {x : St} {u k : Nat} {v : Int32} {a j : Nat} (h1 : ¬ (a = 58 + 5 * u ∧ j = k)) (h2 : ¬ (a = 57 + 5 * u ∧ j = 6)) : gi (wrX x u k v) a j = gi x a j := by
  unfold wrX
  rw [gi_ui, if_neg h1, gi_ui, if_neg h2]
theorem wrX_6 {x : St} {u k : Nat} {v : Int32} : gi (wrX x u k v) (57 + 5 * u) 6 = gi x (57 + 5 * u) 6 ||| bit1 k := by
  unfold wrX
  rw [gi_ui_ne (Or.inl (by omega)), gi_ui_eq]
theorem wrY_o {y : St} {u k : Nat} {v : Int32} {a j : Nat} (h1 : ¬ (a = 24 ∧ j = 24 * u + k)) (h2 : ¬ (a = 25 ∧ j = 24 * u + k)) : gi (wrY y u k v) a j = gi y a j := by
  unfold wrY
  rw [gi_ui, if_neg h2, gi_ui, if_neg h1]
theorem RX_wr {N E u k : Nat} {x y : St} {v : Int32} (hN : N ≤ 24) (hk : k < N) {q : Nat} (hu : u < 4) (hq : q < 4) (h : RX N E x y q) : RX N E (wrX x u k v) (wrY y u k v) q := by
  obtain ⟨h1, h2, h3, h4, h5, h6, h7, h8⟩ := h
  have o : ∀ a j, ¬ (a = 58 + 5 * u ∧ j = k) → ¬ (a = 57 + 5 * u ∧ j = 6) → gi (wrX x u k v) a j = gi x a j := fun a j => wrX_o
  have oy : ∀ a j, ¬ (a = 24 ∧ j = 24 * u + k) → ¬ (a = 25 ∧ j = 24 * u + k) → gi (wrY y u k v) a j = gi y a j := fun a j => wrY_o
  have ol : ∀ a j, gl (wrX x u k v) a j = gl x a j := fun a j => rfl
  have s6 : ∀ j, hs (gi (wrX x u k v) (57 + 5 * q) 6) j = (hs (gi x (57 + 5 * q) 6) j || (decide (q = u) && hs (bit1 k) j)) := fun j => by
    by_cases e : q = u
    · subst e; rw [wrX_6, hs_or]; simp
    · rw [o _ _ (by omega) (by omega)]; simp [e]
  refine ⟨?_, ?_, ?_, ?_, fun j hj => ⟨?_, ?_⟩, fun j hj => ?_, ?_, ?_⟩
  · simpa (disch := omega) only [o, oy] using h1
  · simpa (disch := omega) only [o, oy] using h2
  · simpa (disch := omega) only [o, oy] using h3
  · simpa (disch := omega) only [o, oy] using h4
  · rw [s6]
    by_cases e : q = u ∧ j = k
    · obtain ⟨rfl, rfl⟩ := e
      rw [hs_own (by omega)]
      unfold wrY
      rw [gi_ui_ne (Or.inl (by decide)), gi_ui_eq]
      simp [bi]
    · rw [oy _ _ (by omega) (by omega), (h5 j hj).1]
      by_cases e1 : q = u
      · have e2 : ¬ j = k := fun e2 => e ⟨e1, e2⟩
        rw [hs_bit1 k (by omega) j (by omega)]
        simp [e2]
      · simp [e1]
  · by_cases e : q = u ∧ j = k
    · obtain ⟨rfl, rfl⟩ := e
      unfold wrX wrY
      rw [gi_ui_eq, gi_ui_eq]
    · rw [oy _ _ (by omega) (by omega), o _ _ (by omega) (by omega)]
      exact (h5 j hj).2
  · rw [s6, h6 j hj]
    by_cases hj32 : j < 32
    · rw [hs_bit1 k (by omega) j hj32, decide_eq_false (show ¬ j = k by omega)]; simp
    · rw [hs_big (x := bit1 k) (by omega)]; simp
  · simpa (disch := omega) only [oy, ol] using h7
  · simpa (disch := omega) only [ol] using h8
theorem owes_14 : owes fLaw_c14 := fun c x y v p1 p2 p3 p4 h hc => by
  obtain ⟨N, E, T, P, R, -, -, h2, h3, h4, h5, h6, h7, h8, -⟩ := id h
  have hN := h2.1
  refine law_V (Q := fun x' y' => Rel (c + 1) x' y') ?_
  unfold fL_write fX10_write fX11_write fX11_write_j15
  rw [c_reqSeen h2 h8, r_seesNode h2 h8]
  cases h9 : sn N x p1 p2
  · exact ⟨1, x, v, th y 1, rfl, rfl, rfl, Rel_th h hc 1⟩
  · obtain ⟨u, k, hu, hk, rfl, rfl, -, -⟩ := sn_ex hN h9
    have hidx : 24 * u + k < 96 := by omega
    refine ⟨0, wrX x u k p3, v, wrY (th y 0) u k p3, ?_, ?_, rfl, ?_⟩
    · unfold fX9_putValue
      simp (disch := omega) only [eq_self, n_le, n_lt, n_inj, n_nat, gd_in, n_add, bi_z, bi_1, gd_bi, n_nonneg,  some_bind, lt_e, lit_NV, if_true, if_false, ite_true, ite_false, Option.bind_some, not_true, not_false_iff, lit_0, lit_1, lit_2, lit_3, lit_4, lit_5, lit_6, lit_7, lit_8, lit_12, lit_24, lit_25, lit_30, lit_60, lit_63, lit_96, lit_100, lit_512, lit_240, Bool.true_eq_false, Sum.elim_inl, c_bit]
      rfl
    · simp (disch := omega) only [eq_self, n_le, n_lt, n_inj, n_nat, gd_in, n_add, bi_z, bi_1, gd_bi, n_nonneg,  some_bind, lt_e, lit_NV, if_true, if_false, ite_true, ite_false, Option.bind_some, not_true, not_false_iff, lit_0, lit_1, lit_2, lit_3, lit_4, lit_5, lit_6, lit_7, lit_8, lit_12, lit_24, lit_25, lit_30, lit_60, lit_63, lit_96, lit_100, lit_512, lit_240, Bool.true_eq_false, r_fails0, n_mul]
      rfl
    · refine Rel_X h hc (fun a j ha => wrX_o (by omega) (by omega)) (fun a j ha h0 => ?_) (fun M F hM _ hRM hX q hq => ?_) (fun P9 hC => ?_)
      · rw [wrY_o (by omega) (by omega), gi_th, if_neg h0]
      · have e := RN_one h2 hRM
        subst e
        exact RX_wr hM hk hu hq (RX_th (hX q hq))
      · obtain ⟨w, w1, w2⟩ := hC
        refine ⟨fun q => if q = u then w q + 1 else w q, fun q hq ho => ?_, ?_⟩
        · rw [wrX_o (by omega) (by omega)] at ho
          have := w1 q hq ho
          by_cases e : q = u
          · subst e
            rw [wrX_6]
            show _ ≤ (if q = q then w q + 1 else w q)
            rw [if_pos rfl]
            have := cnt_or1 (gi x (57 + 5 * q) 6) (show k < 32 by omega)
            omega
          · rw [wrX_o (by omega) (by omega)]
            show _ ≤ (if q = u then w q + 1 else w q)
            rw [if_neg e]
            exact this
        · have e4 : u = 0 ∨ u = 1 ∨ u = 2 ∨ u = 3 := by omega
          rcases e4 with rfl | rfl | rfl | rfl <;> simp <;> omega
