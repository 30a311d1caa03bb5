/-! ### rounds of messages -/
/-- two loops side by side, of which the first may have come to rest -/
theorem loop2s {X Y E F : Type} {sc : X → Option (X ⊕ E)} {sr : Y → Option (Y ⊕ F)} {x0 : X} {y0 : Y} (I : Nat → X → Y → Prop) (h0 : I 0 x0 y0) : ∀ (N : Nat), (∀ k x y, k < N → I k x y → (∃ x' y', sc x = some (.inl x') ∧ sr y = some (.inl y') ∧ I (k + 1) x' y') ∨ ∃ y', sr y = some (.inl y') ∧ I (k + 1) x y') → ∃ x' y', (∀ e, loopF sc x' = some e → loopF sc x0 = some e) ∧ (∀ e, loopF sr y' = some e → loopF sr y0 = some e) ∧ I N x' y'
  | 0, _ => ⟨x0, y0, fun _ h => h, fun _ h => h, h0⟩
  | N + 1, hb => by
    obtain ⟨x, y, h1, h2, h3⟩ := loop2s I h0 N fun k x y hk => hb k x y (by omega)
    rcases hb N x y (by omega) h3 with ⟨x', y', e1, e2, h4⟩ | ⟨y', e2, h4⟩
    · exact ⟨x', y', fun e h => h1 e (loopF_go e1 h), fun e h => h2 e (loopF_go e2 h), h4⟩
    · exact ⟨x, y', h1, fun e h => h2 e (loopF_go e2 h), h4⟩
def FMx (x x' : St) : Prop := (∀ a j, gl x' a j = gl x a j) ∧ ∀ a j, a ≠ 54 ∧ a ≠ 55 ∧ ¬ (a = 53 ∧ j = 3) → gi x' a j = gi x a j
def FMy (y y' : St) : Prop := ∀ a j, a ≠ 7 ∧ a ≠ 8 ∧ a ≠ 9 ∧ a ≠ 42 → gi y' a j = gi y a j
theorem FMx.tr {x y z : St} (h1 : FMx x y) (h2 : FMx y z) : FMx x z := ⟨fun a j => (h2.1 a j).trans (h1.1 a j), fun a j h => (h2.2 a j h).trans (h1.2 a j h)⟩
theorem FMy.tr {x y z : St} (h1 : FMy x y) (h2 : FMy y z) : FMy x z := fun a j h => (h2 a j h).trans (h1 a j h)
theorem FMx.up {x z : St} {a k : Nat} {v : Int32} (h : FMx x z) (ha : a = 54 ∨ a = 55 ∨ (a = 53 ∧ k = 3)) : FMx x (ui z a k v) := ⟨h.1, fun b j hb => by rw [gi_no (by omega)]; exact h.2 b j hb⟩
theorem FMy.up {x z : St} {a k : Nat} {v : Int32} (h : FMy x z) (ha : a = 7 ∨ a = 8 ∨ a = 9 ∨ a = 42) : FMy x (ui z a k v) := fun b j hb => by rw [gi_no (by omega)]; exact h b j hb
theorem FMx.rf (x : St) : FMx x x := ⟨fun _ _ => rfl, fun _ _ _ => rfl⟩
theorem FMy.rf (y : St) : FMy y y := fun _ _ _ => rfl
/-- in the middle of a round: s have sent -/
def MM (N : Nat) (s : Int32) (x y : St) : Prop := (∀ k, k < N → gi x 54 k = gi y 42 k ∧ gi y 9 k = bi (hs (gi x 53 3) k) ∧ gi x 55 k = gi y 7 k ∧ gi y 8 k = bi (hs s k)) ∧ ∀ k, N ≤ k → hs (gi x 53 3) k = false
theorem give_both {N a b : Nat} {s : Int32} {x y : St} (hN : N ≤ 24) (h : MM N s x y) (ha : a < N) (hb : b < N) : ∃ x' y', fX4_sendAlong x s (n32 a) (n32 b) = some x' ∧ fX11_gives y (n32 a) (n32 b) = some y' ∧ MM N s x' y' ∧ FMx x x' ∧ FMy y y' := by
  obtain ⟨h1, h2⟩ := id h
  obtain ⟨a1, a2, a3, a4⟩ := h1 a ha
  obtain ⟨b1, b2, b3, b4⟩ := h1 b hb
  cases hq : hs s a
  · rw [hq] at a4
    have a4 : gi y 8 a = n32 0 := a4
    refine ⟨x, y, ?_, ?_, h, FMx.rf x, FMy.rf y⟩
    · unfold fX4_sendAlong
      simp (disch := omega) only [eq_self, n_le, n_lt, n_inj, n_nat, gd_in, n_add, bi_z, bi_1, gd_bi, n_nonneg,  some_bind, lt_e, lit_NV, if_true, if_false, ite_true, ite_false, Option.bind_some, not_true, not_false_iff, lit_0, lit_1, lit_2, lit_3, lit_4, lit_5, lit_6, lit_7, lit_8, lit_12, lit_24, lit_25, lit_30, lit_60, lit_63, lit_96, lit_100, lit_512, lit_240, c_has s (show a < 32 by omega), hq]
    · unfold fX11_gives
      simp (disch := omega) only [eq_self, n_le, n_lt, n_inj, n_nat, gd_in, n_add, bi_z, bi_1, gd_bi, n_nonneg,  some_bind, lt_e, lit_NV, if_true, if_false, ite_true, ite_false, Option.bind_some, not_true, not_false_iff, lit_0, lit_1, lit_2, lit_3, lit_4, lit_5, lit_6, lit_7, lit_8, lit_12, lit_24, lit_25, lit_30, lit_60, lit_63, lit_96, lit_100, lit_512, lit_240, a4]
  · rw [hq] at a4
    have a4 : gi y 8 a = n32 1 := a4
    by_cases hle : gi y 42 b ≤ gi y 7 a
    · refine ⟨x, y, ?_, ?_, h, FMx.rf x, FMy.rf y⟩
      · unfold fX4_sendAlong
        simp (disch := omega) only [eq_self, n_le, n_lt, n_inj, n_nat, gd_in, n_add, bi_z, bi_1, gd_bi, n_nonneg,  some_bind, lt_e, lit_NV, if_true, if_false, ite_true, ite_false, Option.bind_some, not_true, not_false_iff, lit_0, lit_1, lit_2, lit_3, lit_4, lit_5, lit_6, lit_7, lit_8, lit_12, lit_24, lit_25, lit_30, lit_60, lit_63, lit_96, lit_100, lit_512, lit_240, c_has s (show a < 32 by omega), hq, Bool.true_eq_false, b1, a3, hle]
      · unfold fX11_gives
        simp (disch := omega) only [eq_self, n_le, n_lt, n_inj, n_nat, gd_in, n_add, bi_z, bi_1, gd_bi, n_nonneg,  some_bind, lt_e, lit_NV, if_true, if_false, ite_true, ite_false, Option.bind_some, not_true, not_false_iff, lit_0, lit_1, lit_2, lit_3, lit_4, lit_5, lit_6, lit_7, lit_8, lit_12, lit_24, lit_25, lit_30, lit_60, lit_63, lit_96, lit_100, lit_512, lit_240, a4, Nat.one_ne_zero, hle]
    · refine ⟨ui (ui x 54 b (gi y 7 a)) 53 3 (gi x 53 3 ||| bit1 b), ui (ui y 42 b (gi y 7 a)) 9 b (n32 1), ?_, ?_, ⟨fun k hk => ?_, fun k hk => ?_⟩, ((FMx.rf x).up (Or.inl rfl)).up (Or.inr (Or.inr ⟨rfl, rfl⟩)), ((FMy.rf y).up (by omega)).up (by omega)⟩
      · unfold fX4_sendAlong
        simp (disch := omega) only [eq_self, n_le, n_lt, n_inj, n_nat, gd_in, n_add, bi_z, bi_1, gd_bi, n_nonneg,  some_bind, lt_e, lit_NV, if_true, if_false, ite_true, ite_false, Option.bind_some, not_true, not_false_iff, lit_0, lit_1, lit_2, lit_3, lit_4, lit_5, lit_6, lit_7, lit_8, lit_12, lit_24, lit_25, lit_30, lit_60, lit_63, lit_96, lit_100, lit_512, lit_240, c_has s (show a < 32 by omega), hq, Bool.true_eq_false, b1, a3, hle, c_bit, gi_no]
      · unfold fX11_gives
        simp (disch := omega) only [eq_self, n_le, n_lt, n_inj, n_nat, gd_in, n_add, bi_z, bi_1, gd_bi, n_nonneg,  some_bind, lt_e, lit_NV, if_true, if_false, ite_true, ite_false, Option.bind_some, not_true, not_false_iff, lit_0, lit_1, lit_2, lit_3, lit_4, lit_5, lit_6, lit_7, lit_8, lit_12, lit_24, lit_25, lit_30, lit_60, lit_63, lit_96, lit_100, lit_512, lit_240, a4, Nat.one_ne_zero, hle]
      · obtain ⟨k1, k2, k3, k4⟩ := h1 k hk
        refine ⟨?_, ?_, ?_, ?_⟩
        · by_cases e : k = b
          · simp (disch := omega) only [gi_no, gi_yes]
          · simp (disch := omega) only [gi_no, k1]
        · rw [gi_ui_eq, hs_or, hs_bit1 b (by omega) k (by omega)]
          by_cases e : k = b
          · simp (disch := omega) only [gi_yes]
            simp [e, bi]
          · simp (disch := omega) only [gi_no, k2]
            simp [e]
        · simp (disch := omega) only [gi_no, k3]
        · simp (disch := omega) only [gi_no, k4]
      · rw [gi_ui_eq, hs_or, h2 k hk, Bool.false_or]
        by_cases h32 : k < 32
        · rw [hs_bit1 b (by omega) k h32, decide_eq_false (by omega)]
        · exact hs_big (by omega)
section ROUND
variable {N E : Nat} {x y : St}
theorem RE_FM {x' y' : St} (h : RE N E x y) (hx : FMx x x') (hy : FMy y y') : RE N E x' y' := RE_fr (fun a k q => hx.2 _ _ (by omega)) (fun a k q => hy _ _ (by omega)) (Nat.le_refl N) h
theorem RN_FM {x' y' : St} (h : RN N x y) (hx : FMx x x') (hy : FMy y y') : RN N x' y' := RN_fr (fun a k q => hx.2 _ _ (by omega)) (fun a k q => hy _ _ (by omega)) h
theorem r_pre (h : RN N x y) : ∃ y1 y2, loopF (fX11_rounds_l2 y) (y, n32 0) = some (y1, n32 N) ∧ loopF (fX11_rounds_l25 y1) (y1, n32 0) = some (y2, n32 N) ∧ (∀ a j, a ≠ 9 ∧ a ≠ 42 → gi y2 a j = gi y a j) ∧ ∀ k, k < N → gi y2 9 k = n32 0 ∧ gi y2 42 k = gi y 7 k := by
  have hN := h.1
  have hc := h.2.2.1
  obtain ⟨y1, e1, f1, g1⟩ := loop_st (step := fX11_rounds_l2 y) N (fun k z => (∀ a j, a ≠ 9 → gi z a j = gi y a j) ∧ ∀ j, j < k → gi z 9 j = n32 0) (x0 := y) ⟨fun _ _ _ => rfl, fun j h => absurd h (Nat.not_lt_zero j)⟩ (fun k z hk hz => by
      have c1 : gi z 0 1 = n32 N := (hz.1 _ _ (by omega)).trans hc
      refine ⟨ui z 9 k (n32 0), ?_, fun a j ha => ?_, fun j hj => ?_⟩
      · unfold fX11_rounds_l2
        simp (disch := omega) only [eq_self, n_le, n_lt, n_inj, n_nat, gd_in, n_add, bi_z, bi_1, gd_bi, n_nonneg,  some_bind, lt_e, lit_NV, if_true, if_false, ite_true, ite_false, Option.bind_some, not_true, not_false_iff, lit_0, lit_1, lit_2, lit_3, lit_4, lit_5, lit_6, lit_7, lit_8, lit_12, lit_24, lit_25, lit_30, lit_60, lit_63, lit_96, lit_100, lit_512, lit_240, c1, Nat.not_le.mpr hk]
      · rw [gi_no (by omega)]
        exact hz.1 a j ha
      · by_cases e : j = k
        · rw [gi_yes ⟨rfl, e⟩]
        · rw [gi_no (by omega)]
          exact hz.2 j (by omega))
    (fun z hz => by
      have c1 : gi z 0 1 = n32 N := (hz.1 _ _ (by omega)).trans hc
      unfold fX11_rounds_l2
      simp (disch := omega) only [eq_self, n_le, n_lt, n_inj, n_nat, gd_in, n_add, bi_z, bi_1, gd_bi, n_nonneg,  some_bind, lt_e, lit_NV, if_true, if_false, ite_true, ite_false, Option.bind_some, not_true, not_false_iff, lit_0, lit_1, lit_2, lit_3, lit_4, lit_5, lit_6, lit_7, lit_8, lit_12, lit_24, lit_25, lit_30, lit_60, lit_63, lit_96, lit_100, lit_512, lit_240, c1, Nat.le_refl])
  obtain ⟨y2, e2, f2, g2⟩ := loop_st (step := fX11_rounds_l25 y1) N (fun k z => (∀ a j, a ≠ 42 → gi z a j = gi y1 a j) ∧ ∀ j, j < k → gi z 42 j = gi y1 7 j) (x0 := y1) ⟨fun _ _ _ => rfl, fun j h => absurd h (Nat.not_lt_zero j)⟩ (fun k z hk hz => by
      have c1 : gi z 0 1 = n32 N := (hz.1 _ _ (by omega)).trans ((f1 _ _ (by omega)).trans hc)
      have c2 : gi z 7 k = gi y1 7 k := hz.1 _ _ (by omega)
      refine ⟨ui z 42 k (gi y1 7 k), ?_, fun a j ha => ?_, fun j hj => ?_⟩
      · unfold fX11_rounds_l25
        simp (disch := omega) only [eq_self, n_le, n_lt, n_inj, n_nat, gd_in, n_add, bi_z, bi_1, gd_bi, n_nonneg,  some_bind, lt_e, lit_NV, if_true, if_false, ite_true, ite_false, Option.bind_some, not_true, not_false_iff, lit_0, lit_1, lit_2, lit_3, lit_4, lit_5, lit_6, lit_7, lit_8, lit_12, lit_24, lit_25, lit_30, lit_60, lit_63, lit_96, lit_100, lit_512, lit_240, c1, Nat.not_le.mpr hk, c2]
      · rw [gi_no (by omega)]
        exact hz.1 a j ha
      · by_cases e : j = k
        · rw [gi_yes ⟨rfl, e⟩, e]
        · rw [gi_no (by omega)]
          exact hz.2 j (by omega))
    (fun z hz => by
      have c1 : gi z 0 1 = n32 N := (hz.1 _ _ (by omega)).trans ((f1 _ _ (by omega)).trans hc)
      unfold fX11_rounds_l25
      simp (disch := omega) only [eq_self, n_le, n_lt, n_inj, n_nat, gd_in, n_add, bi_z, bi_1, gd_bi, n_nonneg,  some_bind, lt_e, lit_NV, if_true, if_false, ite_true, ite_false, Option.bind_some, not_true, not_false_iff, lit_0, lit_1, lit_2, lit_3, lit_4, lit_5, lit_6, lit_7, lit_8, lit_12, lit_24, lit_25, lit_30, lit_60, lit_63, lit_96, lit_100, lit_512, lit_240, c1, Nat.le_refl])
  refine ⟨y1, y2, e1, e2, fun a j q => ?_, fun k hk => ⟨?_, ?_⟩⟩
  · rw [f2 _ _ q.2, f1 _ _ q.1]
  · rw [f2 _ _ (by omega)]
    exact g1 k hk
  · rw [g2 k hk, f1 _ _ (by omega)]
theorem r_post (hN : N ≤ 24) (hc : gi y 0 1 = n32 N) (hb : ∀ k, k < N → ∃ b : Bool, gi y 9 k = bi b) : ∃ y', loopF (fX11_rounds_l109 y) (y, n32 0) = some (y', n32 N) ∧ (∀ a j, a ≠ 7 ∧ a ≠ 8 → gi y' a j = gi y a j) ∧ ∀ k, k < N → gi y' 8 k = gi y 9 k ∧ gi y' 7 k = gi y 42 k := by
  obtain ⟨y1, e1, f1, g1⟩ := loop_st (step := fX11_rounds_l109 y) N (fun k z => (∀ a j, a ≠ 7 ∧ a ≠ 8 → gi z a j = gi y a j) ∧ ∀ j, j < k → gi z 8 j = gi y 9 j ∧ gi z 7 j = gi y 42 j) (x0 := y) ⟨fun _ _ _ => rfl, fun j h => absurd h (Nat.not_lt_zero j)⟩ (fun k z hk hz => by
      have c1 : gi z 0 1 = n32 N := (hz.1 _ _ (by omega)).trans hc
      have c2 : gi z 9 k = gi y 9 k := hz.1 _ _ (by omega)
      have c3 : gi z 42 k = gi y 42 k := hz.1 _ _ (by omega)
      obtain ⟨b, hb9⟩ := hb k hk
      refine ⟨ui (ui z 8 k (gi y 9 k)) 7 k (gi y 42 k), ?_, fun a j ha => ?_, fun j hj => ?_⟩
      · unfold fX11_rounds_l109
        simp (disch := omega) only [eq_self, n_le, n_lt, n_inj, n_nat, gd_in, n_add, bi_z, bi_1, gd_bi, n_nonneg,  some_bind, lt_e, lit_NV, if_true, if_false, ite_true, ite_false, Option.bind_some, not_true, not_false_iff, lit_0, lit_1, lit_2, lit_3, lit_4, lit_5, lit_6, lit_7, lit_8, lit_12, lit_24, lit_25, lit_30, lit_60, lit_63, lit_96, lit_100, lit_512, lit_240, c1, Nat.not_le.mpr hk, c2, c3, hb9, gi_no]
      · rw [gi_no (by omega), gi_no (by omega)]
        exact hz.1 a j ha
      · by_cases e : j = k
        · subst e
          rw [gi_no (a := 7) (b := 8) (by omega), gi_ui_eq, gi_ui_eq]
          exact ⟨rfl, rfl⟩
        · rw [gi_no (by omega), gi_no (by omega), gi_no (by omega), gi_no (by omega)]
          exact hz.2 j (by omega))
    (fun z hz => by
      have c1 : gi z 0 1 = n32 N := (hz.1 _ _ (by omega)).trans hc
      unfold fX11_rounds_l109
      simp (disch := omega) only [eq_self, n_le, n_lt, n_inj, n_nat, gd_in, n_add, bi_z, bi_1, gd_bi, n_nonneg,  some_bind, lt_e, lit_NV, if_true, if_false, ite_true, ite_false, Option.bind_some, not_true, not_false_iff, lit_0, lit_1, lit_2, lit_3, lit_4, lit_5, lit_6, lit_7, lit_8, lit_12, lit_24, lit_25, lit_30, lit_60, lit_63, lit_96, lit_100, lit_512, lit_240, c1, Nat.le_refl])
  exact ⟨y1, e1, f1, g1⟩
theorem round_both (h2 : RN N x y) (h3 : RE N E x y) (hK : RK N x y) : ∃ x' y', fX4_sendAll x = some x' ∧ fX11_rounds y = some y' ∧ RK N x' y' ∧ FMx x x' ∧ FMy y y' := by
  have hN := h2.1
  have hE := h3.1
  obtain ⟨k1, k2⟩ := hK
  obtain ⟨x1, e1, f1, g1⟩ := loop_st (step := fX4_sendAll_l12 (ui x 53 3 (n32 0)) (gi x 53 3)) 24 (fun k z => FMx (ui x 53 3 (n32 0)) z ∧ (∀ j, gi z 54 j = gi x 54 j) ∧ gi z 53 3 = n32 0 ∧ ∀ j, j < k → gi z 55 j = gi x 54 j) (x0 := ui x 53 3 (n32 0)) ⟨FMx.rf _, fun j => gi_no (by omega), gi_ui_eq, fun j h => absurd h (Nat.not_lt_zero j)⟩ (fun k z hk hz => by
      refine ⟨ui z 55 k (gi x 54 k), ?_, hz.1.up (by omega), fun j => ?_, ?_, fun j hj => ?_⟩
      · unfold fX4_sendAll_l12
        simp (disch := omega) only [eq_self, n_le, n_lt, n_inj, n_nat, gd_in, n_add, bi_z, bi_1, gd_bi, n_nonneg,  some_bind, lt_e, lit_NV, if_true, if_false, ite_true, ite_false, Option.bind_some, not_true, not_false_iff, lit_0, lit_1, lit_2, lit_3, lit_4, lit_5, lit_6, lit_7, lit_8, lit_12, lit_24, lit_25, lit_30, lit_60, lit_63, lit_96, lit_100, lit_512, lit_240, Nat.not_le.mpr hk, hz.2.1]
      · rw [gi_no (by omega)]
        exact hz.2.1 j
      · rw [gi_no (by omega)]
        exact hz.2.2.1
      · by_cases e : j = k
        · rw [gi_yes ⟨rfl, e⟩, e]
        · rw [gi_no (by omega)]
          exact hz.2.2.2 j (by omega))
    (fun z hz => by
      unfold fX4_sendAll_l12
      simp (disch := omega) only [eq_self, n_le, n_lt, n_inj, n_nat, gd_in, n_add, bi_z, bi_1, gd_bi, n_nonneg,  some_bind, lt_e, lit_NV, if_true, if_false, ite_true, ite_false, Option.bind_some, not_true, not_false_iff, lit_0, lit_1, lit_2, lit_3, lit_4, lit_5, lit_6, lit_7, lit_8, lit_12, lit_24, lit_25, lit_30, lit_60, lit_63, lit_96, lit_100, lit_512, lit_240, Nat.le_refl])
  obtain ⟨g54, g53, g55⟩ := g1
  have fx1 : FMx x x1 := FMx.tr ((FMx.rf x).up (Or.inr (Or.inr ⟨rfl, rfl⟩))) f1
  obtain ⟨y1, y2, e2, e3, f2, g2⟩ := r_pre h2
  have fy2 : FMy y y2 := fun a j q => f2 a j ⟨q.2.2.1, q.2.2.2⟩
  have hM : MM N (gi x 53 3) x1 y2 := by
    refine ⟨fun k hk => ⟨?_, ?_, ?_, ?_⟩, fun k hk => ?_⟩
    · rw [g54, (g2 k hk).2, (k1 k hk).1]
    · rw [(g2 k hk).1, g53, hs_0]
      rfl
    · rw [g55 k (by omega), f2 _ _ (by omega), (k1 k hk).1]
    · rw [f2 _ _ (by omega), (k1 k hk).2]
    · rw [g53, hs_0]
  obtain ⟨X, Y, s1, s2, x3, y3, rfl, rfl, hM3, fx3, fy3⟩ := loop2 (sc := fX4_sendAll_l38 x1 (gi x 53 3)) (sr := fX11_rounds_l53 y2) (x0 := (x1, n32 0)) (y0 := (y2, n32 0))
    (fun e X Y => ∃ x3 y3, X = (x3, n32 e) ∧ Y = (y3, n32 e) ∧ MM N (gi x 53 3) x3 y3 ∧ FMx x x3 ∧ FMy y y3)
    ⟨x1, y2, rfl, rfl, hM, fx1, fy2⟩ E (fun e X Y he hXY => by
      obtain ⟨x3, y3, rfl, rfl, hM3, fx3, fy3⟩ := hXY
      have h3' := RE_FM h3 fx3 fy3
      obtain ⟨q1, q2, q3, q4, q5, q6⟩ := RE_at h3' hN he
      obtain ⟨-, -, hc, p1, p2, -⟩ := id h3'
      cases hl : le x3 e
      · refine ⟨(x3, n32 (e + 1)), (y3, n32 (e + 1)), ?_, ?_, x3, y3, rfl, rfl, hM3, fx3, fy3⟩
        · unfold fX4_sendAll_l38 fX4_sendAll_j106
          simp (disch := omega) only [eq_self, n_le, n_lt, n_inj, n_nat, gd_in, n_add, bi_z, bi_1, gd_bi, n_nonneg,  some_bind, lt_e, lit_NV, if_true, if_false, ite_true, ite_false, Option.bind_some, not_true, not_false_iff, lit_0, lit_1, lit_2, lit_3, lit_4, lit_5, lit_6, lit_7, lit_8, lit_12, lit_24, lit_25, lit_30, lit_60, lit_63, lit_96, lit_100, lit_512, lit_240, h3'.2.1, Nat.not_le.mpr he, c_isThereE h3'.2.1 hE, ed_n hE he, hl]
        · unfold fX11_rounds_l53 fX11_rounds_j101
          simp (disch := omega) only [eq_self, n_le, n_lt, n_inj, n_nat, gd_in, n_add, bi_z, bi_1, gd_bi, n_nonneg,  some_bind, lt_e, lit_NV, if_true, if_false, ite_true, ite_false, Option.bind_some, not_true, not_false_iff, lit_0, lit_1, lit_2, lit_3, lit_4, lit_5, lit_6, lit_7, lit_8, lit_12, lit_24, lit_25, lit_30, lit_60, lit_63, lit_96, lit_100, lit_512, lit_240, hc, Nat.not_le.mpr he, r_isEdge h3', ed_n hE he, hl]
      · obtain ⟨x4, y4, r1, r2, hM4, fx4, fy4⟩ := give_both hN hM3 q4 q5
        obtain ⟨x5, y5, r3, r4, hM5, fx5, fy5⟩ := give_both hN hM4 q5 q4
        have c1 : gi x4 13 e = n32 (fr x3 e) := (fx4.2 _ _ (by omega)).trans q1
        have c2 : gi x4 15 e = n32 (tt x3 e) := (fx4.2 _ _ (by omega)).trans q2
        have d1 : gi y4 13 e = n32 (fr x3 e) := (fy4 _ _ (by omega)).trans ((p1 e).trans q1)
        have d2 : gi y4 14 e = n32 (tt x3 e) := (fy4 _ _ (by omega)).trans ((p2 e).trans q2)
        refine ⟨(x5, n32 (e + 1)), (y5, n32 (e + 1)), ?_, ?_, x5, y5, rfl, rfl, hM5, (fx3.tr fx4).tr fx5, (fy3.tr fy4).tr fy5⟩
        · unfold fX4_sendAll_l38 fX4_sendAll_j106
          simp (disch := omega) only [eq_self, n_le, n_lt, n_inj, n_nat, gd_in, n_add, bi_z, bi_1, gd_bi, n_nonneg,  some_bind, lt_e, lit_NV, if_true, if_false, ite_true, ite_false, Option.bind_some, not_true, not_false_iff, lit_0, lit_1, lit_2, lit_3, lit_4, lit_5, lit_6, lit_7, lit_8, lit_12, lit_24, lit_25, lit_30, lit_60, lit_63, lit_96, lit_100, lit_512, lit_240, h3'.2.1, Nat.not_le.mpr he, c_isThereE h3'.2.1 hE, ed_n hE he, hl, Bool.true_eq_false, q1, q2, r1, c1, c2, r3]
        · unfold fX11_rounds_l53 fX11_rounds_j101
          simp (disch := omega) only [eq_self, n_le, n_lt, n_inj, n_nat, gd_in, n_add, bi_z, bi_1, gd_bi, n_nonneg,  some_bind, lt_e, lit_NV, if_true, if_false, ite_true, ite_false, Option.bind_some, not_true, not_false_iff, lit_0, lit_1, lit_2, lit_3, lit_4, lit_5, lit_6, lit_7, lit_8, lit_12, lit_24, lit_25, lit_30, lit_60, lit_63, lit_96, lit_100, lit_512, lit_240, hc, Nat.not_le.mpr he, r_isEdge h3', ed_n hE he, hl, Bool.true_eq_false, p1, p2, q1, q2, r2, d1, d2, r4])
  have h3' := RE_FM h3 fx3 fy3
  have s1 := s1 (x3, n32 E) (loopF_end (by
    unfold fX4_sendAll_l38
    simp (disch := omega) only [eq_self, n_le, n_lt, n_inj, n_nat, gd_in, n_add, bi_z, bi_1, gd_bi, n_nonneg,  some_bind, lt_e, lit_NV, if_true, if_false, ite_true, ite_false, Option.bind_some, not_true, not_false_iff, lit_0, lit_1, lit_2, lit_3, lit_4, lit_5, lit_6, lit_7, lit_8, lit_12, lit_24, lit_25, lit_30, lit_60, lit_63, lit_96, lit_100, lit_512, lit_240, h3'.2.1, Nat.le_refl]))
  have s2 := s2 (y3, n32 E) (loopF_end (by
    unfold fX11_rounds_l53
    simp (disch := omega) only [eq_self, n_le, n_lt, n_inj, n_nat, gd_in, n_add, bi_z, bi_1, gd_bi, n_nonneg,  some_bind, lt_e, lit_NV, if_true, if_false, ite_true, ite_false, Option.bind_some, not_true, not_false_iff, lit_0, lit_1, lit_2, lit_3, lit_4, lit_5, lit_6, lit_7, lit_8, lit_12, lit_24, lit_25, lit_30, lit_60, lit_63, lit_96, lit_100, lit_512, lit_240, h3'.2.2.1, Nat.le_refl]))
  obtain ⟨y4, e4, f4, g4⟩ := r_post (y := y3) hN (RN_FM h2 fx3 fy3).2.2.1 (fun k hk => ⟨_, (hM3.1 k hk).2.1⟩)
  refine ⟨x3, y4, ?_, ?_, ⟨fun k hk => ⟨?_, ?_⟩, hM3.2⟩, fx3, fy3.tr fun a j q => f4 a j (by omega)⟩
  · have e1 : loopF (fX4_sendAll_l12 (ui x 53 3 0) (gi x 53 3)) (ui x 53 3 0, 0) = some (x1, n32 24) := e1
    have s1 : loopF (fX4_sendAll_l38 x1 (gi x 53 3)) (x1, 0) = some (x3, n32 E) := s1
    unfold fX4_sendAll
    rw [lt_e, e1, some_bind, s1]
    rfl
  · have e2 : loopF (fX11_rounds_l2 y) (y, 0) = some (y1, n32 N) := e2
    have e3 : loopF (fX11_rounds_l25 y1) (y1, 0) = some (y2, n32 N) := e3
    have s2 : loopF (fX11_rounds_l53 y2) (y2, 0) = some (y3, n32 E) := s2
    have e4 : loopF (fX11_rounds_l109 y3) (y3, 0) = some (y4, n32 N) := e4
    unfold fX11_rounds
    rw [e2, some_bind, e3, some_bind, s2, some_bind, e4]
    rfl
  · rw [(g4 k hk).2, (hM3.1 k hk).1]
  · rw [(g4 k hk).1, (hM3.1 k hk).2.1]
theorem round_idle (h2 : RN N x y) (h3 : RE N E x y) (hK : RK N x y) (h0 : gi x 53 3 = n32 0) : ∃ y', fX11_rounds y = some y' ∧ RK N x y' ∧ FMy y y' := by
  have hN := h2.1
  have hE := h3.1
  obtain ⟨k1, k2⟩ := hK
  obtain ⟨y1, y2, e2, e3, f2, g2⟩ := r_pre h2
  have fy2 : FMy y y2 := fun a j q => f2 a j ⟨q.2.2.1, q.2.2.2⟩
  have h3' := RE_FM h3 (FMx.rf x) fy2
  have h8 : ∀ k, k < N → gi y2 8 k = n32 0 := fun k hk => by
    rw [f2 _ _ (by omega), (k1 k hk).2, h0, hs_0]
    rfl
  have s2 : loopF (fX11_rounds_l53 y2) (y2, n32 0) = some (y2, n32 E) := loopF_seq (step := fX11_rounds_l53 y2) (fun k => (y2, n32 k)) E (fun e he => by
      obtain ⟨q1, q2, q3, q4, q5, q6⟩ := RE_at h3' hN he
      obtain ⟨-, -, hc, p1, p2, -⟩ := id h3'
      have r1 : fX11_gives y2 (n32 (fr x e)) (n32 (tt x e)) = some y2 := by
        unfold fX11_gives
        simp (disch := omega) only [eq_self, n_le, n_lt, n_inj, n_nat, gd_in, n_add, bi_z, bi_1, gd_bi, n_nonneg,  some_bind, lt_e, lit_NV, if_true, if_false, ite_true, ite_false, Option.bind_some, not_true, not_false_iff, lit_0, lit_1, lit_2, lit_3, lit_4, lit_5, lit_6, lit_7, lit_8, lit_12, lit_24, lit_25, lit_30, lit_60, lit_63, lit_96, lit_100, lit_512, lit_240, h8 _ q4]
      have r2 : fX11_gives y2 (n32 (tt x e)) (n32 (fr x e)) = some y2 := by
        unfold fX11_gives
        simp (disch := omega) only [eq_self, n_le, n_lt, n_inj, n_nat, gd_in, n_add, bi_z, bi_1, gd_bi, n_nonneg,  some_bind, lt_e, lit_NV, if_true, if_false, ite_true, ite_false, Option.bind_some, not_true, not_false_iff, lit_0, lit_1, lit_2, lit_3, lit_4, lit_5, lit_6, lit_7, lit_8, lit_12, lit_24, lit_25, lit_30, lit_60, lit_63, lit_96, lit_100, lit_512, lit_240, h8 _ q5]
      unfold fX11_rounds_l53 fX11_rounds_j101
      simp (disch := omega) only [eq_self, n_le, n_lt, n_inj, n_nat, gd_in, n_add, bi_z, bi_1, gd_bi, n_nonneg,  some_bind, lt_e, lit_NV, if_true, if_false, ite_true, ite_false, Option.bind_some, not_true, not_false_iff, lit_0, lit_1, lit_2, lit_3, lit_4, lit_5, lit_6, lit_7, lit_8, lit_12, lit_24, lit_25, lit_30, lit_60, lit_63, lit_96, lit_100, lit_512, lit_240, hc, Nat.not_le.mpr he, r_isEdge h3', ed_n hE he, p1, p2, q1, q2, r1, r2]
      cases le x e <;> simp)
    (by
      unfold fX11_rounds_l53
      simp (disch := omega) only [eq_self, n_le, n_lt, n_inj, n_nat, gd_in, n_add, bi_z, bi_1, gd_bi, n_nonneg,  some_bind, lt_e, lit_NV, if_true, if_false, ite_true, ite_false, Option.bind_some, not_true, not_false_iff, lit_0, lit_1, lit_2, lit_3, lit_4, lit_5, lit_6, lit_7, lit_8, lit_12, lit_24, lit_25, lit_30, lit_60, lit_63, lit_96, lit_100, lit_512, lit_240, h3'.2.2.1, Nat.le_refl])
  obtain ⟨y4, e4, f4, g4⟩ := r_post (y := y2) hN (RN_FM h2 (FMx.rf x) fy2).2.2.1 (fun k hk => ⟨false, (g2 k hk).1⟩)
  refine ⟨y4, ?_, ⟨fun k hk => ⟨?_, ?_⟩, k2⟩, fy2.tr fun a j q => f4 a j (by omega)⟩
  · have e2 : loopF (fX11_rounds_l2 y) (y, 0) = some (y1, n32 N) := e2
    have e3 : loopF (fX11_rounds_l25 y1) (y1, 0) = some (y2, n32 N) := e3
    have s2 : loopF (fX11_rounds_l53 y2) (y2, 0) = some (y2, n32 E) := s2
    have e4 : loopF (fX11_rounds_l109 y2) (y2, 0) = some (y4, n32 N) := e4
    unfold fX11_rounds
    rw [e2, some_bind, e3, some_bind, s2, some_bind, e4]
    rfl
  · rw [(g4 k hk).2, (g2 k hk).2, (k1 k hk).1]
  · rw [(g4 k hk).1, (g2 k hk).1, h0, hs_0]
    rfl
end ROUND
theorem owes_35 : owes fLaw_c35 := fun c x y v p1 p2 p3 p4 h hc => by
  obtain ⟨N, E, T, P, R, hT, -, h2, h3, h4, h5, h6, h7, h8, h9, h10, h11, h12, h13, h14, h15⟩ := id h
  have hN := h2.1
  refine law_I (Q := fun x' y' => Rel (c + 1) x' y') ?_
  have hin : fX11_isIn y p1 1 30 = some (bi (decide (¬ p1 < n32 1 ∧ p1 ≤ n32 30))) := by
    unfold fX11_isIn fX11_isIn_j14
    have k9 : ((30 : Int32) < p1) = ¬ p1 ≤ n32 30 := nle_lt.symm
    rw [show (1 : Int32) = n32 1 from rfl]
    simp only [k9]
    by_cases q1 : p1 < n32 1
    · rw [if_pos q1, decide_eq_false (fun q => q.1 q1)]; rfl
    · rw [if_neg q1]
      by_cases q2 : p1 ≤ n32 30
      · rw [if_neg (fun q => q q2), decide_eq_true ⟨q1, q2⟩]; rfl
      · rw [if_pos q2, decide_eq_false (fun q => q2 q.2)]; rfl
  unfold fL_round fX10_round fX10_round_j11 fX11_round fX11_round_j16
  rw [hin]
  by_cases q : ¬ p1 < n32 1 ∧ p1 ≤ n32 30
  · rw [decide_eq_true q]
    have hp : ¬ p1 < 0 := fun q9 => q.1 (by
      rw [Int32.lt_iff_toInt_lt] at q9 ⊢
      rw [n_toInt (by decide)]
      have : (0 : Int32).toInt = 0 := rfl
      omega)
    obtain ⟨e9, hlt⟩ := n_of hp
    generalize p1.toNatClampNeg = n at e9 hlt
    subst e9
    have hn : n ≤ 30 := by
      have := q.2
      rwa [n_le hlt (by decide)] at this
    obtain ⟨X, Y, s1, s2, x3, y3, j, rfl, rfl, hK3, fx3, fy3, hj⟩ := loop2s (sc := fX10_round_l24 x (n32 n)) (sr := fX11_round_l26 (th y (n32 0)) (n32 n)) (x0 := (x, n32 0)) (y0 := (th y (n32 0), n32 0))
      (fun k X Y => ∃ x3 y3, ∃ j : Nat, X = (x3, n32 j) ∧ Y = (y3, n32 k) ∧ RK N x3 y3 ∧ FMx x x3 ∧ FMy (th y (n32 0)) y3 ∧ (j = k ∨ (j ≤ k ∧ gi x3 53 3 = n32 0)))
      ⟨x, th y (n32 0), 0, rfl, rfl, RK_th h9, FMx.rf x, FMy.rf _, Or.inl rfl⟩ n (fun k X Y hk hXY => by
        obtain ⟨x3, y3, j, rfl, rfl, hK3, fx3, fy3, hj⟩ := hXY
        have hRN := RN_FM (RN_th (c := n32 0) h2) fx3 fy3
        have hRE := RE_FM (RE_th (c := n32 0) h3) fx3 fy3
        by_cases h0 : gi x3 53 3 = n32 0
        · obtain ⟨y4, r1, r2, r3⟩ := round_idle hRN hRE hK3 h0
          refine Or.inr ⟨(y4, n32 (k + 1)), ?_, x3, y4, j, rfl, rfl, r2, fx3, fy3.tr r3, Or.inr ⟨by omega, h0⟩⟩
          unfold fX11_round_l26
          simp (disch := omega) only [eq_self, n_le, n_lt, n_inj, n_nat, gd_in, n_add, bi_z, bi_1, gd_bi, n_nonneg,  some_bind, lt_e, lit_NV, if_true, if_false, ite_true, ite_false, Option.bind_some, not_true, not_false_iff, lit_0, lit_1, lit_2, lit_3, lit_4, lit_5, lit_6, lit_7, lit_8, lit_12, lit_24, lit_25, lit_30, lit_60, lit_63, lit_96, lit_100, lit_512, lit_240, Nat.not_le.mpr hk, r1]
        · have hjk : j = k := by
            rcases hj with q | q
            · exact q
            · exact absurd q.2 h0
          subst hjk
          obtain ⟨x4, y4, r1, r2, r3, r4, r5⟩ := round_both hRN hRE hK3
          refine Or.inl ⟨(x4, n32 (j + 1)), (y4, n32 (j + 1)), ?_, ?_, x4, y4, j + 1, rfl, rfl, r3, fx3.tr r4, fy3.tr r5, Or.inl rfl⟩
          · unfold fX10_round_l24
            simp (disch := omega) only [eq_self, n_le, n_lt, n_inj, n_nat, gd_in, n_add, bi_z, bi_1, gd_bi, n_nonneg,  some_bind, lt_e, lit_NV, if_true, if_false, ite_true, ite_false, Option.bind_some, not_true, not_false_iff, lit_0, lit_1, lit_2, lit_3, lit_4, lit_5, lit_6, lit_7, lit_8, lit_12, lit_24, lit_25, lit_30, lit_60, lit_63, lit_96, lit_100, lit_512, lit_240, Nat.not_le.mpr hk, h0, r1]
          · unfold fX11_round_l26
            simp (disch := omega) only [eq_self, n_le, n_lt, n_inj, n_nat, gd_in, n_add, bi_z, bi_1, gd_bi, n_nonneg,  some_bind, lt_e, lit_NV, if_true, if_false, ite_true, ite_false, Option.bind_some, not_true, not_false_iff, lit_0, lit_1, lit_2, lit_3, lit_4, lit_5, lit_6, lit_7, lit_8, lit_12, lit_24, lit_25, lit_30, lit_60, lit_63, lit_96, lit_100, lit_512, lit_240, Nat.not_le.mpr hk, r2])
    have s1 := s1 (x3, n32 j) (loopF_end (by
      unfold fX10_round_l24
      rcases hj with q | q
      · simp (disch := omega) only [eq_self, n_le, n_lt, n_inj, n_nat, gd_in, n_add, bi_z, bi_1, gd_bi, n_nonneg,  some_bind, lt_e, lit_NV, if_true, if_false, ite_true, ite_false, Option.bind_some, not_true, not_false_iff, lit_0, lit_1, lit_2, lit_3, lit_4, lit_5, lit_6, lit_7, lit_8, lit_12, lit_24, lit_25, lit_30, lit_60, lit_63, lit_96, lit_100, lit_512, lit_240, q, Nat.le_refl]
      · simp (disch := omega) only [eq_self, n_le, n_lt, n_inj, n_nat, gd_in, n_add, bi_z, bi_1, gd_bi, n_nonneg,  some_bind, lt_e, lit_NV, if_true, if_false, ite_true, ite_false, Option.bind_some, not_true, not_false_iff, lit_0, lit_1, lit_2, lit_3, lit_4, lit_5, lit_6, lit_7, lit_8, lit_12, lit_24, lit_25, lit_30, lit_60, lit_63, lit_96, lit_100, lit_512, lit_240, q.2]
        by_cases q9 : n ≤ j <;> simp [q9]))
    have s2 := s2 (y3, n32 n) (loopF_end (by
      unfold fX11_round_l26
      simp (disch := omega) only [eq_self, n_le, n_lt, n_inj, n_nat, gd_in, n_add, bi_z, bi_1, gd_bi, n_nonneg,  some_bind, lt_e, lit_NV, if_true, if_false, ite_true, ite_false, Option.bind_some, not_true, not_false_iff, lit_0, lit_1, lit_2, lit_3, lit_4, lit_5, lit_6, lit_7, lit_8, lit_12, lit_24, lit_25, lit_30, lit_60, lit_63, lit_96, lit_100, lit_512, lit_240, Nat.le_refl]))
    have hRN := RN_FM (RN_th (c := n32 0) h2) fx3 fy3
    have hcnt : cnt (hs (gi x3 53 3)) 24 = cnt (hs (gi x3 53 3)) N := by
      have : ∀ m, cnt (hs (gi x3 53 3)) (N + m) = cnt (hs (gi x3 53 3)) N := fun m => by
        induction m with
        | zero => rfl
        | succ m ih =>
          show cnt (hs (gi x3 53 3)) (N + m + 1) = _
          rw [cnt_succ, hK3.2 (N + m) (by omega)]
          exact ih
      have := this (24 - N)
      rwa [show N + (24 - N) = 24 by omega] at this
    have s3 : loopF (fX11_round_l45 y3 (n32 n)) (n32 0, n32 0) = some (n32 (cnt (hs (gi x3 53 3)) N), n32 N) := by
      refine loop_cnt N (hs (gi x3 53 3)) (fun k a hk ha => ?_) (fun a ha => ?_)
      · unfold fX11_round_l45 fX11_round_j68
        simp (disch := omega) only [eq_self, n_le, n_lt, n_inj, n_nat, gd_in, n_add, bi_z, bi_1, gd_bi, n_nonneg,  some_bind, lt_e, lit_NV, if_true, if_false, ite_true, ite_false, Option.bind_some, not_true, not_false_iff, lit_0, lit_1, lit_2, lit_3, lit_4, lit_5, lit_6, lit_7, lit_8, lit_12, lit_24, lit_25, lit_30, lit_60, lit_63, lit_96, lit_100, lit_512, lit_240, hRN.2.2.1, Nat.not_le.mpr hk, (hK3.1 k hk).2]
        cases hs (gi x3 53 3) k <;> simp
      · unfold fX11_round_l45
        simp (disch := omega) only [eq_self, n_le, n_lt, n_inj, n_nat, gd_in, n_add, bi_z, bi_1, gd_bi, n_nonneg,  some_bind, lt_e, lit_NV, if_true, if_false, ite_true, ite_false, Option.bind_some, not_true, not_false_iff, lit_0, lit_1, lit_2, lit_3, lit_4, lit_5, lit_6, lit_7, lit_8, lit_12, lit_24, lit_25, lit_30, lit_60, lit_63, lit_96, lit_100, lit_512, lit_240, hRN.2.2.1, Nat.le_refl]
    have s4 : fJ6_bitCount x3 (gi x3 53 3) = some (n32 (cnt (hs (gi x3 53 3)) 24)) := c_bitCount fun i hi => hK3.2 i (by omega)
    have hx := fx3.2
    have hl9 := fx3.1
    have hy : ∀ a j, a ≠ 7 ∧ a ≠ 8 ∧ a ≠ 9 ∧ a ≠ 42 ∧ ¬ (a = 0 ∧ j = 50) → gi y3 a j = gi y a j := fun a j q => by rw [fy3 _ _ (by omega), th_ne (by omega)]
    refine ⟨0, x3, (n32 (cnt (hs (gi x3 53 3)) N)).toInt64, n32 (cnt (hs (gi x3 53 3)) N), y3, ?_, ?_, ?_, fun _ => rfl, ?_⟩
    · have q1 := q.1
      rw [n_lt hlt (by decide)] at q1
      simp (disch := omega) only [eq_self, n_le, n_lt, n_inj, n_nat, gd_in, n_add, bi_z, bi_1, gd_bi, n_nonneg,  some_bind, lt_e, lit_NV, if_true, if_false, ite_true, ite_false, Option.bind_some, not_true, not_false_iff, lit_0, lit_1, lit_2, lit_3, lit_4, lit_5, lit_6, lit_7, lit_8, lit_12, lit_24, lit_25, lit_30, lit_60, lit_63, lit_96, lit_100, lit_512, lit_240, q1, hn, s1, s4, hcnt, Sum.elim_inl]
    · have e0 : fX11_fails y 0 = some (0, th y (n32 0)) := rfl
      have s2 : loopF (fX11_round_l26 (th y (n32 0)) (n32 n)) (th y (n32 0), 0) = some (y3, n32 n) := s2
      have s3 : loopF (fX11_round_l45 y3 (n32 n)) (0, 0) = some (n32 (cnt (hs (gi x3 53 3)) N), n32 N) := s3
      rw [some_bind, if_neg (by decide), e0, some_bind, if_pos rfl, s2, some_bind, s3]
      rfl
    · rw [fy3 _ _ (by omega)]
      rfl
    · refine ⟨N, E, T, P, R, by omega, by omega, ?_, ?_, ?_, ?_, ?_, ?_, fun u hu => ?_, hK3, ?_, ?_, ?_, ?_, ?_, ?_⟩
      · exact RN_fr (fun a k q => hx _ _ (by omega)) (fun a k q => hy _ _ (by omega)) h2
      · exact RE_fr (fun a k q => hx _ _ (by omega)) (fun a k q => hy _ _ (by omega)) (by omega) h3
      · exact RT_fr (hx _ _ (by omega)) (hy _ _ (by omega)) h4
      · exact RM_fr (fun a k q => hx _ _ (by omega)) (fun a k q => hy _ _ (by omega)) h5
      · exact RW_fr (fun a k q => hx _ _ (by omega)) (fun a k q => hy _ _ (by omega)) h6
      · exact RG_fr (fun a k q => hx _ _ (by omega)) (fun a k q => hy _ _ (by omega)) h7
      · exact RX_fr hu (fun a k q => hx _ _ (by omega)) (fun a k q => hl9 _ _) (fun a k q => hy _ _ (by omega)) (by omega) (by omega) (h8 u hu)
      · exact RS_fr (fun a k q => hx _ _ (by omega)) h10
      · exact RR_fr (fun a k q => hx _ _ (by omega)) (fun a k q => hy _ _ (by omega)) h11
      · exact RF_fr (fun a k q => hx _ _ (by omega)) h12
      · exact RP_fr (fun a k q => hx _ _ (by omega)) (fun a k q => hy _ _ (by omega)) h13
      · exact RQ_fr (fun a k q => hx _ _ (by omega)) h14
      · exact RC9_up (RC9_fr (fun a k q => hx _ _ (by omega)) h15)
  · rw [decide_eq_false q]
    refine ⟨1, x, v, 0, th y 1, ?_, rfl, rfl, fun h => absurd h (by decide), Rel_th h hc 1⟩
    by_cases q1 : p1 < n32 1
    · rw [if_pos (show p1 < 1 from q1)]
      rfl
    · rw [if_neg (show ¬ p1 < 1 from q1), if_neg (fun q2 : p1 ≤ 30 => q ⟨q1, q2⟩)]
      rfl
