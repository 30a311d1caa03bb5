theorem Cor_scr {N E T P R : Nat} {x x' y : St} (h : Cor N E T P R x y) (hl9 : ∀ a j, gl x' a j = gl x a j) (hx : ∀ a j, a ≠ 120 → gi x' a j = gi x a j) : Cor N E T P R x' y := by
  obtain ⟨a1, a2, a3, a4, a5, a6, a7, a8, a9, a10, a11⟩ := h
  have hy : ∀ a j : Nat, a < a + 1 → gi y a j = gi y a j := fun _ _ _ => rfl
  refine ⟨?_, ?_, ?_, ?_, ?_, ?_, fun u hu => ?_, ?_, ?_, ?_, ?_⟩
  · exact RN_fr (fun a k q => hx _ _ (by omega)) (fun a k q => hy _ _ (by omega)) a1
  · exact RE_fr (fun a k q => hx _ _ (by omega)) (fun a k q => hy _ _ (by omega)) (by omega) a2
  · exact RT_fr (hx _ _ (by omega)) (hy _ _ (by omega)) a3
  · exact RM_fr (fun a k q => hx _ _ (by omega)) (fun a k q => hy _ _ (by omega)) a4
  · exact RW_fr (fun a k q => hx _ _ (by omega)) (fun a k q => hy _ _ (by omega)) a5
  · exact RG_fr (fun a k q => hx _ _ (by omega)) (fun a k q => hy _ _ (by omega)) a6
  · exact RX_fr hu (fun a k q => hx _ _ (by omega)) (fun a k q => hl9 _ _) (fun a k q => hy _ _ (by omega)) (by omega) (by omega) (a7 u hu)
  · exact RK_fr (fun a k q => hx _ _ (by omega)) (fun a k q => hy _ _ (by omega)) a8
  · exact RS_fr (fun a k q => hx _ _ (by omega)) a9
  · exact RR_fr (fun a k q => hx _ _ (by omega)) (fun a k q => hy _ _ (by omega)) a10
  · exact RP_fr (fun a k q => hx _ _ (by omega)) (fun a k q => hy _ _ (by omega)) a11
/-- a transaction is over -/
theorem Cor_close {N E T P R u : Nat} {x y : St} (h : Cor N E T P R x y) (hu : u < 4) : Cor N E T P R (ui x (57 + 5 * u) 4 (n32 0)) (ui y 22 u (n32 0)) := by
  obtain ⟨a1, a2, a3, a4, a5, a6, a7, a8, a9, a10, a11⟩ := h
  have hx : ∀ a j, ¬ (a = 57 + 5 * u ∧ j = 4) → gi (ui x (57 + 5 * u) 4 (n32 0)) a j = gi x a j := fun a j q => gi_no q
  have hy : ∀ a j, ¬ (a = 22 ∧ j = u) → gi (ui y 22 u (n32 0)) a j = gi y a j := fun a j q => gi_no q
  have hl9 : ∀ a j, gl (ui x (57 + 5 * u) 4 (n32 0)) a j = gl x a j := fun _ _ => rfl
  refine ⟨?_, ?_, ?_, ?_, ?_, ?_, fun q hq => ?_, ?_, ?_, ?_, ?_⟩
  · exact RN_fr (fun a k q => hx _ _ (by omega)) (fun a k q => hy _ _ (by omega)) a1
  · exact RE_fr (fun a k q => hx _ _ (by omega)) (fun a k q => hy _ _ (by omega)) (by omega) a2
  · exact RT_fr (hx _ _ (by omega)) (hy _ _ (by omega)) a3
  · exact RM_fr (fun a k q => hx _ _ (by omega)) (fun a k q => hy _ _ (by omega)) a4
  · exact RW_fr (fun a k q => hx _ _ (by omega)) (fun a k q => hy _ _ (by omega)) a5
  · exact RG_fr (fun a k q => hx _ _ (by omega)) (fun a k q => hy _ _ (by omega)) a6
  · obtain ⟨g1, g2, g3, g4, g5, g6, g7, g8⟩ := a7 q hq
    refine ⟨?_, ?_, ?_, fun i hi => ?_, fun k hk => ?_, fun k hk => ?_, fun k hk => ?_, fun k hk => ?_⟩
    · by_cases e : q = u
      · subst e
        exact ⟨false, gi_ui_eq, gi_ui_eq⟩
      · rw [hx _ _ (by omega), hy _ _ (by omega)]
        exact g1
    · rw [hx _ _ (by omega), hy _ _ (by omega)]
      exact g2
    · obtain ⟨L, q1, q2, q3, q4⟩ := g3
      refine ⟨L, q1, ?_, ?_, fun i hi => ?_⟩
      · rw [hx _ _ (by omega), q2]
      · rw [hy _ _ (by omega), q3]
      · rw [hx _ _ (by omega), hx _ _ (by omega), hx _ _ (by omega)]
        exact q4 i hi
    · rw [hx _ _ (by omega), hx _ _ (by omega), hx _ _ (by omega), hy _ _ (by omega), hy _ _ (by omega), hy _ _ (by omega)]
      exact g4 i hi
    · rw [hx _ _ (by omega), hx _ _ (by omega), hy _ _ (by omega), hy _ _ (by omega)]
      exact g5 k hk
    · rw [hx _ _ (by omega)]
      exact g6 k hk
    · rw [hl9, hy _ _ (by omega)]
      exact g7 k hk
    · rw [hl9]
      exact g8 k hk
  · exact RK_fr (fun a k q => hx _ _ (by omega)) (fun a k q => hy _ _ (by omega)) a8
  · exact RS_fr (fun a k q => hx _ _ (by omega)) a9
  · exact RR_fr (fun a k q => hx _ _ (by omega)) (fun a k q => hy _ _ (by omega)) a10
  · exact RP_fr (fun a k q => hx _ _ (by omega)) (fun a k q => hy _ _ (by omega)) a11
theorem q_commit {c : Nat} {x y : St} {v : Int64} (h : Rel c x y) (hc : c < 512) (p1 a2 : Int32) : agI (fL_commit x v p1 a2) (fX11_commit y p1 a2) (fun x' y' => Rel (c + 1) x' y') := by
  obtain ⟨N, E, T, P, R, hC, hT, hF, hQ, hB⟩ := Cor_of h
  have hX := hC.2.2.2.2.2.2.1
  have hN := hC.1.1
  unfold fL_commit fX10_commit fX10_commit_j28 fX11_commit fX11_commit_j14 fX11_commit_j43
  rw [c_reqTx hX, r_isTx hX]
  cases w1 : tx x p1
  · exact ⟨1, x, v, 0, th y 1, rfl, rfl, rfl, fun h => absurd h (by decide), Rel_th h hc 1⟩
  obtain ⟨u, hu, rfl, ho⟩ := tx_ex w1
  have hC5 := Cor_close (Cor_th (n32 0) hC) hu
  have hF5 : RF R E (ui x (57 + 5 * u) 4 (n32 0)) := RF_fr (fun a j q => gi_no (by omega)) hF
  have hQ5 : RQ N (ui x (57 + 5 * u) 4 (n32 0)) := RQ_fr (fun a j q => gi_no (by omega)) hQ
  have hwr : wr (ui x (57 + 5 * u) 4 (n32 0)) u = wr x u := gi_no (by omega)
  have hB5 : RC9 c (P + cnt (hs (wr x u)) 24) (ui x (57 + 5 * u) 4 (n32 0)) := by
    obtain ⟨w, b1, b2⟩ := hB
    have hcu : cnt (hs (wr x u)) 24 ≤ w u := b1 u hu (of_decide_eq_true ho)
    refine ⟨fun q => if q = u then 0 else w q, fun q hq hop => ?_, ?_⟩
    · show _ ≤ (if q = u then 0 else w q)
      by_cases e : q = u
      · subst e
        rw [gi_ui_eq, n_inj (by omega) (by omega)] at hop
        cases hop
      · rw [gi_no (by omega)] at hop
        rw [if_neg e, gi_no (by omega)]
        exact b1 q hq hop
    · have e4 : u = 0 ∨ u = 1 ∨ u = 2 ∨ u = 3 := by omega
      rcases e4 with rfl | rfl | rfl | rfl <;> simp <;> omega
  have hB6 : RC9 c P (ui x (57 + 5 * u) 4 (n32 0)) := by
    obtain ⟨w, b1, b2⟩ := hB5
    exact ⟨w, b1, by omega⟩
  have hR5 : Rel c (ui x (57 + 5 * u) 4 (n32 0)) (ui (th y (n32 0)) 22 u (n32 0)) := Rel_of hC5 hT (by omega) hF5 hQ5 hB6
  have hX5 := hC5.2.2.2.2.2.2.1 u hu
  obtain ⟨L, hK⟩ := RX_LK hN hX5
  have hL := hK.1
  obtain ⟨b, e1, e2⟩ := c_hasWrites hN hC5.2.1 hX5 hK
  have e3 := r_touches hN hC5.2.1 hX5 hu hK
  have h50 : gi (ui (th y (n32 0)) 22 u (n32 0)) 0 50 = 0 := by
    rw [gi_no (by omega)]
    rfl
  have t1 : gi (ui x (57 + 5 * u) 4 (n32 0)) 0 11 = n32 T := hC5.2.2.1.2.1
  have t2 : gi (ui (th y (n32 0)) 22 u (n32 0)) 0 0 = n32 T := hC5.2.2.1.2.2
  by_cases ha : a2 = n32 0
  · subst ha
    refine ⟨0, ui x (57 + 5 * u) 4 (n32 0), (n32 T).toInt64, n32 T, ui (th y (n32 0)) 22 u (n32 0), ?_, ?_, h50, fun _ => rfl, Rel_up hR5 hc⟩
    · simp (disch := omega) only [eq_self, n_le, n_lt, n_inj, n_nat, gd_in, n_add, bi_z, bi_1, gd_bi, n_nonneg,  some_bind, lt_e, lit_NV, if_true, if_false, ite_true, ite_false, Option.bind_some, not_true, not_false_iff, lit_0, lit_1, lit_2, lit_3, lit_4, lit_5, lit_6, lit_7, lit_8, lit_12, lit_24, lit_25, lit_30, lit_60, lit_63, lit_96, lit_100, lit_512, lit_240, Sum.elim_inl]
      rw [t1]
    · simp (disch := omega) only [eq_self, n_le, n_lt, n_inj, n_nat, gd_in, n_add, bi_z, bi_1, gd_bi, n_nonneg,  some_bind, lt_e, lit_NV, if_true, if_false, ite_true, ite_false, Option.bind_some, not_true, not_false_iff, lit_0, lit_1, lit_2, lit_3, lit_4, lit_5, lit_6, lit_7, lit_8, lit_12, lit_24, lit_25, lit_30, lit_60, lit_63, lit_96, lit_100, lit_512, lit_240, Bool.true_eq_false, r_fails0, e3]
      rw [t2]
  · cases b
    · have e4 := e2.mp rfl
      rw [e4] at e3
      refine ⟨0, ui x (57 + 5 * u) 4 (n32 0), (n32 T).toInt64, n32 T, ui (th y (n32 0)) 22 u (n32 0), ?_, ?_, h50, fun _ => rfl, Rel_up hR5 hc⟩
      · simp (disch := omega) only [eq_self, n_le, n_lt, n_inj, n_nat, gd_in, n_add, bi_z, bi_1, gd_bi, n_nonneg,  some_bind, lt_e, lit_NV, if_true, if_false, ite_true, ite_false, Option.bind_some, not_true, not_false_iff, lit_0, lit_1, lit_2, lit_3, lit_4, lit_5, lit_6, lit_7, lit_8, lit_12, lit_24, lit_25, lit_30, lit_60, lit_63, lit_96, lit_100, lit_512, lit_240, Sum.elim_inl, ha, e1]
        rw [t1]
      · simp (disch := omega) only [eq_self, n_le, n_lt, n_inj, n_nat, gd_in, n_add, bi_z, bi_1, gd_bi, n_nonneg,  some_bind, lt_e, lit_NV, if_true, if_false, ite_true, ite_false, Option.bind_some, not_true, not_false_iff, lit_0, lit_1, lit_2, lit_3, lit_4, lit_5, lit_6, lit_7, lit_8, lit_12, lit_24, lit_25, lit_30, lit_60, lit_63, lit_96, lit_100, lit_512, lit_240, Bool.true_eq_false, r_fails0, e3, ha]
        rw [t2]
    · have e4 : ¬ tS E L (ui x (57 + 5 * u) 4 (n32 0)) u = n32 0 := fun q => by cases e2.mpr q
      have e5 := c_clashes hC5.1 hC5.2.1 hK
      have e6 := r_clashes hC5.1 hX5 hu (tS E L (ui x (57 + 5 * u) 4 (n32 0)) u) a2
      cases hcl : (List.range N).any (cl9 (tS E L (ui x (57 + 5 * u) 4 (n32 0)) u) (ui x (57 + 5 * u) 4 (n32 0)) u)
      · rw [hcl] at e5 e6
        simp only [Bool.false_eq_true, if_false] at e6
        obtain ⟨b9, x6, e7, f1, f2, f3⟩ := c_breaks hC5.1 hC5.2.1 hC5.2.2.2.2.1 hK hQ5
        obtain ⟨b8, e8, f4⟩ := r_breaks hC5.1 hC5.2.1 hC5.2.2.2.2.1 hX5 hu hK hQ5
        have hbb : b8 = b9 := by
          rw [Bool.eq_iff_iff, f4, f3]
        subst hbb
        cases b8
        · have hno : ¬ (60 < E + L ∨ (List.range L).any (sh9 (ui x (57 + 5 * u) 4 (n32 0)) u) = true ∨ brK N (ui x (57 + 5 * u) 4 (n32 0)) u) := fun q => by cases f3.mpr q
          have hC6 := Cor_scr hC5 f1 f2
          have hwr6 : wr x6 u = wr x u := (f2 _ _ (by omega)).trans hwr
          have hK6 : LK N L x6 (ui (th y (n32 0)) 22 u (n32 0)) u := by
            obtain ⟨L', hK'⟩ := RX_LK hN (hC6.2.2.2.2.2.2.1 u hu)
            have hLL : L' = L := by
              have := hK'.2.2.1.symm.trans hK.2.2.1
              have hL' := hK'.1
              rw [n_inj (by omega) (by omega)] at this
              exact this
            subst hLL
            exact hK'
          have hcm : cnt (hs (wr x u)) N ≤ cnt (hs (wr x u)) 24 := by
            have : ∀ m, cnt (hs (wr x u)) N ≤ cnt (hs (wr x u)) (N + m) := fun m => by
              induction m with
              | zero => exact Nat.le_refl _
              | succ m ih2 =>
                refine Nat.le_trans ih2 ?_
                show cnt (hs (wr x u)) (N + m) ≤ cnt (hs (wr x u)) (N + m + 1)
                rw [cnt_succ _ (N + m)]
                split <;> omega
            have := this (24 - N)
            rwa [show N + (24 - N) = 24 by omega] at this
          have hPc := RC9_le hB5
          obtain ⟨x7, y7, g1, g2, hC7, hF7, gx, g5, gy⟩ := write_both hC6 (by omega) hu hK6 (by omega) (by rw [hwr6]; omega)
          have hfin : Rel (c + 1) x7 y7 := by
            refine Rel_of hC7 (by omega) (by omega) hF7 ?_ ?_
            · obtain ⟨z1, z2⟩ := hQ5
              refine ⟨fun k hk => ?_, fun l a d hl had hd hk17 ha4 hd4 hla hld => ?_⟩
              · rw [gx _ _ (by omega), f2 _ _ (by omega)]
                exact z1 k hk
              · rw [gx _ _ (by omega), f2 _ _ (by omega)] at hk17 ha4 hd4
                have hlv : lv x7 = lv (ui x (57 + 5 * u) 4 (n32 0)) := lv_cg fun k => by rw [gx _ _ (by omega), f2 _ _ (by omega)]
                rw [hlv] at hla hld
                rw [g5 a (by omega), g5 d hd]
                have hlvl : ∀ k, lvl x6 u k = lvl (ui x (57 + 5 * u) 4 (n32 0)) u k := fun k => by
                  unfold lvl wr
                  rw [f2 _ _ (by omega), f2 _ _ (by omega), f2 _ _ (by omega)]
                rw [hlvl, hlvl]
                exact fun q => hno (Or.inr (Or.inr ⟨a, d, had, hd, hla, hld, ha4.trans hd4.symm, by rw [kyv_at hl ha4]; exact decide_eq_true hk17, q⟩))
            · rw [hwr6]
              obtain ⟨w, b1, b2⟩ := hB5
              refine ⟨w, fun q hq hop => ?_, by omega⟩
              rw [gx _ _ (by omega), f2 _ _ (by omega)] at hop ⊢
              exact b1 q hq hop
          refine ⟨0, x7, (n32 (T + 1)).toInt64, n32 (T + 1), y7, ?_, ?_, gy.trans h50, fun _ => rfl, hfin⟩
          · simp (disch := omega) only [eq_self, n_le, n_lt, n_inj, n_nat, gd_in, n_add, bi_z, bi_1, gd_bi, n_nonneg,  some_bind, lt_e, lit_NV, if_true, if_false, ite_true, ite_false, Option.bind_some, not_true, not_false_iff, lit_0, lit_1, lit_2, lit_3, lit_4, lit_5, lit_6, lit_7, lit_8, lit_12, lit_24, lit_25, lit_30, lit_60, lit_63, lit_96, lit_100, lit_512, lit_240, Sum.elim_inl, ha, e1, Bool.true_eq_false, e5, e7, g1]
            rw [hC7.2.2.1.2.1]
          · have g2 := g2 a2
            unfold rtail at g2
            have ha' : ¬ a2 = 0 := ha
            have e4' : ¬ tS E L (ui x (57 + 5 * u) 4 (n32 0)) u = 0 := e4
            have e6 : loopF (fX11_commit_l51 (ui (th y (n32 0)) 22 u (n32 0)) (n32 u) a2 (tS E L (ui x (57 + 5 * u) 4 (n32 0)) u)) 0 = some (.inl (n32 N)) := e6
            have e9 : fX11_fails y 0 = some (0, th y 0) := rfl
            have hin : inb (n32 u) 4 := n_inb hu (by decide)
            rw [some_bind, if_neg (by decide), e9, some_bind, if_pos rfl, gd_t hin, lt_e, n_nat (by omega)]
            show (fX11_touches (ui (th y (n32 0)) 22 u (n32 0)) (n32 u)).bind _ = _
            rw [e3, some_bind, if_neg ha', if_neg e4']
            show (loopF (fX11_commit_l51 (ui (th y (n32 0)) 22 u (n32 0)) (n32 u) a2 (tS E L (ui x (57 + 5 * u) 4 (n32 0)) u)) 0).bind _ = _
            rw [e6, some_bind]
            show (fX11_breaks (ui (th y (n32 0)) 22 u (n32 0)) (n32 u)).bind _ = _
            rw [e8, some_bind, if_pos (by rfl)]
            exact g2
        · have hR6 : Rel (c + 1) x6 (ui (th y (n32 0)) 22 u (n32 0)) := Rel_scr hR5 hc (fun a j q => f2 a j (by omega)) f1 (fun _ _ _ _ _ => rfl)
          refine ⟨0, x6, (-n32 2).toInt64, -n32 2, ui (th y (n32 0)) 22 u (n32 0), ?_, ?_, h50, fun _ => rfl, hR6⟩
          · simp (disch := omega) only [eq_self, n_le, n_lt, n_inj, n_nat, gd_in, n_add, bi_z, bi_1, gd_bi, n_nonneg,  some_bind, lt_e, lit_NV, if_true, if_false, ite_true, ite_false, Option.bind_some, not_true, not_false_iff, lit_0, lit_1, lit_2, lit_3, lit_4, lit_5, lit_6, lit_7, lit_8, lit_12, lit_24, lit_25, lit_30, lit_60, lit_63, lit_96, lit_100, lit_512, lit_240, Sum.elim_inl, ha, e1, Bool.true_eq_false, e5, e7]
          · simp (disch := omega) only [eq_self, n_le, n_lt, n_inj, n_nat, gd_in, n_add, bi_z, bi_1, gd_bi, n_nonneg,  some_bind, lt_e, lit_NV, if_true, if_false, ite_true, ite_false, Option.bind_some, not_true, not_false_iff, lit_0, lit_1, lit_2, lit_3, lit_4, lit_5, lit_6, lit_7, lit_8, lit_12, lit_24, lit_25, lit_30, lit_60, lit_63, lit_96, lit_100, lit_512, lit_240, Bool.true_eq_false, r_fails0, e3, ha, e4, e6, Sum.elim_inl, e8]
      · rw [hcl] at e5 e6
        simp only [if_true] at e6
        refine ⟨0, ui x (57 + 5 * u) 4 (n32 0), (-n32 1).toInt64, -n32 1, ui (th y (n32 0)) 22 u (n32 0), ?_, ?_, h50, fun _ => rfl, Rel_up hR5 hc⟩
        · simp (disch := omega) only [eq_self, n_le, n_lt, n_inj, n_nat, gd_in, n_add, bi_z, bi_1, gd_bi, n_nonneg,  some_bind, lt_e, lit_NV, if_true, if_false, ite_true, ite_false, Option.bind_some, not_true, not_false_iff, lit_0, lit_1, lit_2, lit_3, lit_4, lit_5, lit_6, lit_7, lit_8, lit_12, lit_24, lit_25, lit_30, lit_60, lit_63, lit_96, lit_100, lit_512, lit_240, Sum.elim_inl, ha, e1, Bool.true_eq_false, e5]
        · simp (disch := omega) only [eq_self, n_le, n_lt, n_inj, n_nat, gd_in, n_add, bi_z, bi_1, gd_bi, n_nonneg,  some_bind, lt_e, lit_NV, if_true, if_false, ite_true, ite_false, Option.bind_some, not_true, not_false_iff, lit_0, lit_1, lit_2, lit_3, lit_4, lit_5, lit_6, lit_7, lit_8, lit_12, lit_24, lit_25, lit_30, lit_60, lit_63, lit_96, lit_100, lit_512, lit_240, Bool.true_eq_false, r_fails0, e3, ha, e4, e6, Sum.elim_inr]
theorem owes_19 : owes fLaw_c19 := fun c x y v p1 p2 p3 p4 h hc => by
  unfold fLaw_c19
  by_cases hp : p2 = 0
  · rw [if_pos hp]
    exact law_I (Q := fun x' y' => Rel (c + 1) x' y') (q_commit h hc p1 0)
  · rw [if_neg hp]
    exact law_I (Q := fun x' y' => Rel (c + 1) x' y') (q_commit h hc p1 1)
