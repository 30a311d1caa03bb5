/-! ### begin, link -/
def bgX (x : St) (u T : Nat) : St := ul (ui (ui (ui (ui x (57 + 5 * u) 4 (n32 1)) (57 + 5 * u) 5 (n32 T)) (57 + 5 * u) 6 (n32 0)) (57 + 5 * u) 7 (n32 0)) (57 + 5 * u) 8 0
theorem bgX_o {x : St} {u T a j : Nat} (h : ¬ (a = 57 + 5 * u ∧ 4 ≤ j ∧ j ≤ 7)) : gi (bgX x u T) a j = gi x a j := by
  unfold bgX
  rw [gi_ul]
  simp (disch := omega) only [gi_no]
theorem bgX_l {x : St} {u T a j : Nat} : gl (bgX x u T) a j = if a = 57 + 5 * u ∧ j = 8 then 0 else gl x a j := rfl
section BEG
variable {N E T : Nat} {x y : St}
theorem c_begin (hX : ∀ u, u < 4 → RX N E x y u) (hT : RT T x y) {u : Nat} (hu : u < 4) (h1 : ∀ j, j < u → op x j = true) (h2 : op x u = false) : fX10_begin x = some (.inl (n32 u, bgX x u T)) := by
  have e := loopF_seq (step := fX10_begin_l2 x) (fun j => (x, n32 j)) u (e := .inr (n32 u, bgX x u T)) (fun j hj => by
      unfold fX10_begin_l2
      simp (disch := omega) only [eq_self, n_le, n_lt, n_inj, n_nat, gd_in, n_add, bi_z, bi_1, gd_bi, n_nonneg,  some_bind, lt_e, lit_NV, if_true, if_false, ite_true, ite_false, Option.bind_some, not_true, not_false_iff, lit_0, lit_1, lit_2, lit_3, lit_4, lit_5, lit_6, lit_7, lit_8, lit_12, lit_24, lit_25, lit_30, lit_60, lit_63, lit_96, lit_100, lit_512, lit_240, show ¬ 4 ≤ j by omega, (RX_op (hX j (by omega))).1, h1 j hj, Bool.true_eq_false])
    (by
      unfold fX10_begin_l2 fX9_openAt bgX
      simp (disch := omega) only [eq_self, n_le, n_lt, n_inj, n_nat, gd_in, n_add, bi_z, bi_1, gd_bi, n_nonneg,  some_bind, lt_e, lit_NV, if_true, if_false, ite_true, ite_false, Option.bind_some, not_true, not_false_iff, lit_0, lit_1, lit_2, lit_3, lit_4, lit_5, lit_6, lit_7, lit_8, lit_12, lit_24, lit_25, lit_30, lit_60, lit_63, lit_96, lit_100, lit_512, lit_240, show ¬ 4 ≤ u by omega, (RX_op (hX u hu)).1, h2, hT.2.1])
  have e : loopF (fX10_begin_l2 x) (x, 0) = _ := e
  unfold fX10_begin
  rw [e]
  rfl
theorem c_beginNo (hX : ∀ u, u < 4 → RX N E x y u) (h1 : ∀ j, j < 4 → op x j = true) : fX10_begin x = some (.inr (2, x)) := by
  have e := loopF_seq (step := fX10_begin_l2 x) (fun j => (x, n32 j)) 4 (e := .inl (x, n32 4)) (fun j hj => by
      unfold fX10_begin_l2
      simp (disch := omega) only [eq_self, n_le, n_lt, n_inj, n_nat, gd_in, n_add, bi_z, bi_1, gd_bi, n_nonneg,  some_bind, lt_e, lit_NV, if_true, if_false, ite_true, ite_false, Option.bind_some, not_true, not_false_iff, lit_0, lit_1, lit_2, lit_3, lit_4, lit_5, lit_6, lit_7, lit_8, lit_12, lit_24, lit_25, lit_30, lit_60, lit_63, lit_96, lit_100, lit_512, lit_240, show ¬ 4 ≤ j by omega, (RX_op (hX j (by omega))).1, h1 j hj, Bool.true_eq_false])
    (by
      unfold fX10_begin_l2
      simp (disch := omega) only [eq_self, n_le, n_lt, n_inj, n_nat, gd_in, n_add, bi_z, bi_1, gd_bi, n_nonneg,  some_bind, lt_e, lit_NV, if_true, if_false, ite_true, ite_false, Option.bind_some, not_true, not_false_iff, lit_0, lit_1, lit_2, lit_3, lit_4, lit_5, lit_6, lit_7, lit_8, lit_12, lit_24, lit_25, lit_30, lit_60, lit_63, lit_96, lit_100, lit_512, lit_240, Nat.le_refl])
  have e : loopF (fX10_begin_l2 x) (x, 0) = _ := e
  unfold fX10_begin
  rw [e]
  rfl
def fro (x : St) (j : Nat) : Option Nat := fold (fun j o => if op x (3 - j) then o else some (3 - j)) none j
theorem r_free (hX : ∀ u, u < 4 → RX N E x y u) : ∃ z, loopF (fX11_begin_l4 y) (-n32 1, n32 3) = some (oi (fro x 4), z) := by
  refine ⟨-n32 1, loopF_seq (step := fX11_begin_l4 y) (fun j => (oi (fro x j), if j ≤ 3 then n32 (3 - j) else -n32 1)) 4 (fun j hj => ?_) ?_⟩
  · have e9 : (if j + 1 ≤ 3 then n32 (3 - (j + 1)) else -n32 1) = n32 (3 - j) + -n32 1 := by
      have : j = 0 ∨ j = 1 ∨ j = 2 ∨ j = 3 := by omega
      rcases this with rfl | rfl | rfl | rfl <;> rfl
    have hb := (RX_op (hX (3 - j) (by omega))).2
    rw [e9, if_pos (by omega)]
    unfold fX11_begin_l4 fX11_begin_j22
    simp (disch := omega) only [eq_self, n_le, n_lt, n_inj, n_nat, gd_in, n_add, bi_z, bi_1, gd_bi, n_nonneg,  some_bind, lt_e, lit_NV, if_true, if_false, ite_true, ite_false, Option.bind_some, not_true, not_false_iff, lit_0, lit_1, lit_2, lit_3, lit_4, lit_5, lit_6, lit_7, lit_8, lit_12, lit_24, lit_25, lit_30, lit_60, lit_63, lit_96, lit_100, lit_512, lit_240, hb, Nat.not_lt_zero]
    show _ = some (Sum.inl (oi (if op x (3 - j) then fro x j else some (3 - j)), n32 (3 - j) + -n32 1))
    cases op x (3 - j) <;> simp [oi]
  · rfl
theorem fro_some {u : Nat} (hu : u < 4) (h1 : ∀ j, j < u → op x j = true) (h2 : op x u = false) : fro x 4 = some u := by
  have : ∀ m, 3 - u + 1 + m ≤ 4 → fro x (3 - u + 1 + m) = some u := fun m => by
    induction m with
    | zero =>
      intro _
      show (if op x (3 - (3 - u)) then fro x (3 - u) else some (3 - (3 - u))) = some u
      rw [show 3 - (3 - u) = u by omega, h2]
      rfl
    | succ m ih =>
      intro hm
      show (if op x (3 - (3 - u + 1 + m)) then fro x (3 - u + 1 + m) else some (3 - (3 - u + 1 + m))) = some u
      rw [h1 _ (by omega), if_pos rfl]
      exact ih (by omega)
  have h := this u (by omega)
  rwa [show 3 - u + 1 + u = 4 by omega] at h
theorem fro_none (h1 : ∀ j, j < 4 → op x j = true) : fro x 4 = none := fold_fix fun j hj => by rw [h1 _ (by omega)]; rfl
/-- the reference's row of a new transaction -/
theorem r_open {u : Nat} (hu : u < 4) (z : St) : ∃ z1 z2, loopF (fX11_begin_l74 z (n32 u)) (z, n32 0) = some (z1, n32 24) ∧ loopF (fX11_begin_l100 z1 (n32 u)) (z1, n32 0) = some (z2, n32 60) ∧ (∀ a j, ¬ (a = 24 ∧ 24 * u ≤ j ∧ j < 24 * u + 24) ∧ ¬ (a = 30 ∧ 60 * u ≤ j ∧ j < 60 * u + 60) → gi z2 a j = gi z a j) ∧ (∀ k, k < 24 → gi z2 24 (24 * u + k) = n32 0) ∧ ∀ k, k < 60 → gi z2 30 (60 * u + k) = n32 0 := by
  obtain ⟨z1, e1, f1, g1⟩ := loop_st (step := fX11_begin_l74 z (n32 u)) 24 (fun k w => (∀ a j, ¬ (a = 24 ∧ 24 * u ≤ j ∧ j < 24 * u + 24) → gi w a j = gi z a j) ∧ ∀ j, j < k → gi w 24 (24 * u + j) = n32 0) (x0 := z) ⟨fun _ _ _ => rfl, fun j h => absurd h (Nat.not_lt_zero j)⟩ (fun k w hk hw => by
      have hi : 24 * u + k < 96 := by omega
      refine ⟨ui w 24 (24 * u + k) (n32 0), ?_, fun a j h => ?_, fun j hj => ?_⟩
      · unfold fX11_begin_l74
        simp (disch := omega) only [eq_self, n_le, n_lt, n_inj, n_nat, gd_in, n_add, bi_z, bi_1, gd_bi, n_nonneg,  some_bind, lt_e, lit_NV, if_true, if_false, ite_true, ite_false, Option.bind_some, not_true, not_false_iff, lit_0, lit_1, lit_2, lit_3, lit_4, lit_5, lit_6, lit_7, lit_8, lit_12, lit_24, lit_25, lit_30, lit_60, lit_63, lit_96, lit_100, lit_512, lit_240, Nat.not_le.mpr hk, n_mul]
      · rw [gi_no (by omega)]
        exact hw.1 a j h
      · by_cases e : j = k
        · rw [gi_yes ⟨rfl, by omega⟩]
        · rw [gi_no (by omega)]
          exact hw.2 j (by omega))
    (fun w hw => by
      unfold fX11_begin_l74
      simp (disch := omega) only [eq_self, n_le, n_lt, n_inj, n_nat, gd_in, n_add, bi_z, bi_1, gd_bi, n_nonneg,  some_bind, lt_e, lit_NV, if_true, if_false, ite_true, ite_false, Option.bind_some, not_true, not_false_iff, lit_0, lit_1, lit_2, lit_3, lit_4, lit_5, lit_6, lit_7, lit_8, lit_12, lit_24, lit_25, lit_30, lit_60, lit_63, lit_96, lit_100, lit_512, lit_240, Nat.le_refl])
  obtain ⟨z2, e2, f2, g2⟩ := loop_st (step := fX11_begin_l100 z1 (n32 u)) 60 (fun k w => (∀ a j, ¬ (a = 30 ∧ 60 * u ≤ j ∧ j < 60 * u + 60) → gi w a j = gi z1 a j) ∧ ∀ j, j < k → gi w 30 (60 * u + j) = n32 0) (x0 := z1) ⟨fun _ _ _ => rfl, fun j h => absurd h (Nat.not_lt_zero j)⟩ (fun k w hk hw => by
      have hi : 60 * u + k < 240 := by omega
      refine ⟨ui w 30 (60 * u + k) (n32 0), ?_, fun a j h => ?_, fun j hj => ?_⟩
      · unfold fX11_begin_l100
        simp (disch := omega) only [eq_self, n_le, n_lt, n_inj, n_nat, gd_in, n_add, bi_z, bi_1, gd_bi, n_nonneg,  some_bind, lt_e, lit_NV, if_true, if_false, ite_true, ite_false, Option.bind_some, not_true, not_false_iff, lit_0, lit_1, lit_2, lit_3, lit_4, lit_5, lit_6, lit_7, lit_8, lit_12, lit_24, lit_25, lit_30, lit_60, lit_63, lit_96, lit_100, lit_512, lit_240, Nat.not_le.mpr hk, n_mul]
      · rw [gi_no (by omega)]
        exact hw.1 a j h
      · by_cases e : j = k
        · rw [gi_yes ⟨rfl, by omega⟩]
        · rw [gi_no (by omega)]
          exact hw.2 j (by omega))
    (fun w hw => by
      unfold fX11_begin_l100
      simp (disch := omega) only [eq_self, n_le, n_lt, n_inj, n_nat, gd_in, n_add, bi_z, bi_1, gd_bi, n_nonneg,  some_bind, lt_e, lit_NV, if_true, if_false, ite_true, ite_false, Option.bind_some, not_true, not_false_iff, lit_0, lit_1, lit_2, lit_3, lit_4, lit_5, lit_6, lit_7, lit_8, lit_12, lit_24, lit_25, lit_30, lit_60, lit_63, lit_96, lit_100, lit_512, lit_240, Nat.le_refl])
  refine ⟨z1, z2, e1, e2, fun a j h => ?_, fun k hk => ?_, fun k hk => g2 k hk⟩
  · rw [f2 a j h.2, f1 a j h.1]
  · rw [f2 _ _ (by omega)]
    exact g1 k hk
end BEG
theorem oi_some (u : Nat) : oi (some u) = n32 u := rfl
theorem cnt_0 (n : Nat) : cnt (hs (n32 0)) n = 0 := by
  have : ∀ n, cnt (hs (n32 0)) n = 0 := fun n => by
    induction n with
    | zero => rfl
    | succ n ih =>
      show (if hs (n32 0) n then cnt (hs (n32 0)) n + 1 else cnt (hs (n32 0)) n) = 0
      rw [hs_0, ih]
      rfl
  exact this n
theorem owes_13 : owes fLaw_c13 := fun c x y v p1 p2 p3 p4 h hc => by
  obtain ⟨N, E, T, P, R, hT9, -, h2, h3, h4, h5, h6, h7, h8, -⟩ := id h
  refine law_I (Q := fun x' y' => Rel (c + 1) x' y') ?_
  obtain ⟨z, e⟩ := r_free h8
  have e : loopF (fX11_begin_l4 y) (-1, 3) = some (oi (fro x 4), z) := e
  have key : (∃ u, u < 4 ∧ (∀ j, j < u → op x j = true) ∧ op x u = false) ∨ ∀ j, j < 4 → op x j = true := by
    have : ∀ n, (∃ u, u < n ∧ (∀ j, j < u → op x j = true) ∧ op x u = false) ∨ ∀ j, j < n → op x j = true := fun n => by
      induction n with
      | zero => exact Or.inr fun j hj => absurd hj (Nat.not_lt_zero j)
      | succ n ih =>
        rcases ih with ⟨u, h1, h2, h3⟩ | h1
        · exact Or.inl ⟨u, by omega, h2, h3⟩
        · cases ho : op x n
          · exact Or.inl ⟨n, by omega, h1, ho⟩
          · refine Or.inr fun j hj => ?_
            by_cases q : j = n
            · rw [q, ho]
            · exact h1 j (by omega)
    exact this 4
  unfold fL_begin fX11_begin fX11_begin_j40
  rw [e]
  rcases key with ⟨u, hu, h9, ho⟩ | h9
  · rw [fro_some hu h9 ho, c_begin h8 h4 hu h9 ho]
    have hu1 : ¬ n32 u = -n32 1 := n_ne_m1 (by omega)
    obtain ⟨z1, z2, s1, s2, s3, s4, s5⟩ := r_open hu (ui (ui (ui (th y (n32 0)) 22 u (n32 1)) 23 u (n32 T)) 26 u (n32 0))
    have hy : ∀ a j, ¬ (a = 24 ∧ 24 * u ≤ j ∧ j < 24 * u + 24) ∧ ¬ (a = 30 ∧ 60 * u ≤ j ∧ j < 60 * u + 60) ∧ ¬ ((a = 22 ∨ a = 23 ∨ a = 26) ∧ j = u) ∧ ¬ (a = 0 ∧ j = 50) → gi z2 a j = gi y a j := fun a j q => by
      rw [s3 a j (by omega)]
      simp (disch := omega) only [gi_no, th_ne]
    refine ⟨0, bgX x u T, (n32 u).toInt64, n32 u, z2, rfl, ?_, ?_, fun _ => rfl, ?_⟩
    · show (if n32 u = -n32 1 then _ else _) = _
      simp (disch := omega) only [eq_self, n_le, n_lt, n_inj, n_nat, gd_in, n_add, bi_z, bi_1, gd_bi, n_nonneg,  some_bind, lt_e, lit_NV, if_true, if_false, ite_true, ite_false, Option.bind_some, not_true, not_false_iff, lit_0, lit_1, lit_2, lit_3, lit_4, lit_5, lit_6, lit_7, lit_8, lit_12, lit_24, lit_25, lit_30, lit_60, lit_63, lit_96, lit_100, lit_512, lit_240, oi_some, hu1, r_fails0, gi_no, th_ne, h4.2.2, s1, s2]
    · rw [s3 _ _ (by omega)]
      simp (disch := omega) only [gi_no]
      rfl
    · refine Rel_X h hc (fun a j q => bgX_o (by omega)) (fun a j q q0 => hy a j (by omega)) (fun M F hM hRE hRN hRX q hq => ?_) (fun P9 hC => ?_)
      · obtain ⟨g1, g2, g3, g4, g5, g6, g7, g8⟩ := hRX q hq
        by_cases eq : q = u
        · subst eq
          have b4 : gi (bgX x q T) (57 + 5 * q) 4 = n32 1 := by
            unfold bgX
            rw [gi_ul]
            simp (disch := omega) only [gi_no, gi_yes]
          have b5 : gi (bgX x q T) (57 + 5 * q) 5 = n32 T := by
            unfold bgX
            rw [gi_ul]
            simp (disch := omega) only [gi_no, gi_yes]
          have b6 : gi (bgX x q T) (57 + 5 * q) 6 = n32 0 := by
            unfold bgX
            rw [gi_ul]
            simp (disch := omega) only [gi_no, gi_yes]
          have b7 : gi (bgX x q T) (57 + 5 * q) 7 = n32 0 := by
            unfold bgX
            rw [gi_ul]
            simp (disch := omega) only [gi_no, gi_yes]
          refine ⟨⟨true, b4, ?_⟩, ?_, ⟨0, by omega, b7, ?_, fun i hi => absurd hi (Nat.not_lt_zero i)⟩, fun i hi => ?_, fun k hk => ⟨?_, ?_⟩, fun k hk => ?_, fun k hk => ?_, fun k hk => ?_⟩
          · rw [s3 _ _ (by omega)]
            simp (disch := omega) only [gi_no, gi_yes]
            rfl
          · rw [b5, s3 _ _ (by omega)]
            simp (disch := omega) only [gi_no, gi_yes]
          · rw [s3 _ _ (by omega)]
            simp (disch := omega) only [gi_yes]
          · rw [bgX_o (by omega), bgX_o (by omega), bgX_o (by omega), hy _ _ (by omega), hy _ _ (by omega), hy _ _ (by omega)]
            exact g4 i hi
          · rw [s4 k hk, b6, hs_0]
            rfl
          · rw [bgX_o (by omega), hy _ _ (by omega)]
            exact (g5 k hk).2
          · rw [b6, hs_0]
          · rw [s5 k hk, bgX_l, if_pos ⟨rfl, rfl⟩, hl_0]
            rfl
          · rw [bgX_l, if_pos ⟨rfl, rfl⟩, hl_0]
        · have o : ∀ a j, 57 + 5 * q ≤ a ∧ a ≤ 61 + 5 * q → gi (bgX x u T) a j = gi x a j := fun a j q => bgX_o (by omega)
          have ol : ∀ a j, 57 + 5 * q ≤ a ∧ a ≤ 61 + 5 * q → gl (bgX x u T) a j = gl x a j := fun a j q => by rw [bgX_l, if_neg (by omega)]
          refine ⟨?_, ?_, ?_, fun i hi => ?_, fun k hk => ?_, fun k hk => ?_, fun k hk => ?_, fun k hk => ?_⟩
          · rw [o _ _ (by omega), hy _ _ (by omega)]
            exact g1
          · rw [o _ _ (by omega), hy _ _ (by omega)]
            exact g2
          · obtain ⟨L, q1, q2, q3, q4⟩ := g3
            refine ⟨L, q1, ?_, ?_, fun i hi => ?_⟩
            · rw [o _ _ (by omega), q2]
            · rw [hy _ _ (by omega), q3]
            · rw [o _ _ (by omega), o _ _ (by omega), o _ _ (by omega)]
              exact q4 i hi
          · rw [o _ _ (by omega), o _ _ (by omega), o _ _ (by omega), hy _ _ (by omega), hy _ _ (by omega), hy _ _ (by omega)]
            exact g4 i hi
          · rw [o _ _ (by omega), o _ _ (by omega), hy _ _ (by omega), hy _ _ (by omega)]
            exact g5 k hk
          · rw [o _ _ (by omega)]
            exact g6 k hk
          · rw [ol _ _ (by omega), hy _ _ (by omega)]
            exact g7 k hk
          · rw [ol _ _ (by omega)]
            exact g8 k hk
      · obtain ⟨w, w1, w2⟩ := hC
        refine ⟨fun q => if q = u then 0 else w q, fun q hq ho => ?_, ?_⟩
        · show _ ≤ (if q = u then 0 else w q)
          by_cases e : q = u
          · subst e
            have b6 : gi (bgX x q T) (57 + 5 * q) 6 = n32 0 := by
              unfold bgX
              rw [gi_ul]
              simp (disch := omega) only [gi_no, gi_yes]
            rw [if_pos rfl, b6, cnt_0]
            exact Nat.le_refl _
          · rw [bgX_o (by omega)] at ho
            rw [if_neg e, bgX_o (by omega)]
            exact w1 q hq ho
        · have e4 : u = 0 ∨ u = 1 ∨ u = 2 ∨ u = 3 := by omega
          rcases e4 with rfl | rfl | rfl | rfl <;> simp <;> omega
  · rw [fro_none h9, c_beginNo h8 h9]
    exact ⟨1, x, v, 0, th y 1, rfl, rfl, rfl, fun h => absurd h (by decide), Rel_th h hc 1⟩
def lkX (x : St) (u L a l b : Nat) : St := ui (ui (ui (ui x (59 + 5 * u) L (n32 a)) (60 + 5 * u) L (n32 l)) (61 + 5 * u) L (n32 b)) (57 + 5 * u) 7 (n32 (L + 1))
def lkY (y : St) (u L a l b : Nat) : St := ui (ui (ui (ui y 27 (8 * u + L) (n32 a)) 28 (8 * u + L) (n32 b)) 29 (8 * u + L) (n32 l)) 26 u (n32 (L + 1))
theorem owes_15 : owes fLaw_c15 := fun c x y v p1 p2 p3 p4 h hc => by
  obtain ⟨N, E, T, P, R, hT9, -, h2, h3, h4, h5, h6, h7, h8, -⟩ := id h
  have hN := h2.1
  refine law_I (Q := fun x' y' => Rel (c + 1) x' y') ?_
  unfold fL_link fX10_link fX11_link fX11_link_j30 fX11_link_j31 fX11_link_j59
  rw [c_reqSeen h2 h8, r_seesNode h2 h8]
  cases w1 : sn N x p1 p2
  · exact ⟨1, x, v, 0, th y 1, rfl, rfl, rfl, fun h => absurd h (by decide), Rel_th h hc 1⟩
  rw [c_reqSeen h2 h8, r_seesNode h2 h8]
  cases w2 : sn N x p1 p4
  · exact ⟨1, x, v, 0, th y 1, rfl, rfl, rfl, fun h => absurd h (by decide), Rel_th h hc 1⟩
  rw [c_reqLabel, r_isLabel]
  cases w3 : bw 4 p3
  · exact ⟨1, x, v, 0, th y 1, rfl, rfl, rfl, fun h => absurd h (by decide), Rel_th h hc 1⟩
  obtain ⟨u, a, hu, ha, rfl, rfl, -, -⟩ := sn_ex hN w1
  obtain ⟨u', b, hu', hb, -, rfl, -, -⟩ := sn_ex hN w2
  obtain ⟨l, hl, rfl⟩ := bw_ex (by decide) w3
  obtain ⟨L, hL, hLx, hLy, -⟩ := (h8 u hu).2.2.1
  by_cases hL8 : L = 8
  · refine ⟨2, x, v, 0, th y 2, ?_, ?_, rfl, fun h => absurd h (by decide), Rel_th h hc 2⟩
    · simp (disch := omega) only [eq_self, n_le, n_lt, n_inj, n_nat, gd_in, n_add, bi_z, bi_1, gd_bi, n_nonneg,  some_bind, lt_e, lit_NV, if_true, if_false, ite_true, ite_false, Option.bind_some, not_true, not_false_iff, lit_0, lit_1, lit_2, lit_3, lit_4, lit_5, lit_6, lit_7, lit_8, lit_12, lit_24, lit_25, lit_30, lit_60, lit_63, lit_96, lit_100, lit_512, lit_240, Sum.elim_inl, hLx, show ¬ L < 8 by omega, Sum.elim_inr]
      rfl
    · simp (disch := omega) only [eq_self, n_le, n_lt, n_inj, n_nat, gd_in, n_add, bi_z, bi_1, gd_bi, n_nonneg,  some_bind, lt_e, lit_NV, if_true, if_false, ite_true, ite_false, Option.bind_some, not_true, not_false_iff, lit_0, lit_1, lit_2, lit_3, lit_4, lit_5, lit_6, lit_7, lit_8, lit_12, lit_24, lit_25, lit_30, lit_60, lit_63, lit_96, lit_100, lit_512, lit_240, Bool.true_eq_false, hLy, hL8, r_fails2, Nat.one_ne_zero]
  · have hi : 8 * u + L < 32 := by omega
    have o : ∀ a' j, ¬ ((a' = 59 + 5 * u ∨ a' = 60 + 5 * u ∨ a' = 61 + 5 * u) ∧ j = L) ∧ ¬ (a' = 57 + 5 * u ∧ j = 7) → gi (lkX x u L a l b) a' j = gi x a' j := fun a' j h => by
      unfold lkX
      simp (disch := omega) only [gi_no]
    have oy : ∀ a' j, ¬ ((a' = 27 ∨ a' = 28 ∨ a' = 29) ∧ j = 8 * u + L) ∧ ¬ (a' = 26 ∧ j = u) ∧ ¬ (a' = 0 ∧ j = 50) → gi (lkY (th y (n32 0)) u L a l b) a' j = gi y a' j := fun a' j h => by
      unfold lkY
      simp (disch := omega) only [gi_no, th_ne]
    refine ⟨0, lkX x u L a l b, (n32 (L + 1)).toInt64, n32 (L + 1), lkY (th y (n32 0)) u L a l b, ?_, ?_, ?_, fun _ => rfl, ?_⟩
    · unfold fX9_putLink lkX
      simp (disch := omega) only [eq_self, n_le, n_lt, n_inj, n_nat, gd_in, n_add, bi_z, bi_1, gd_bi, n_nonneg,  some_bind, lt_e, lit_NV, if_true, if_false, ite_true, ite_false, Option.bind_some, not_true, not_false_iff, lit_0, lit_1, lit_2, lit_3, lit_4, lit_5, lit_6, lit_7, lit_8, lit_12, lit_24, lit_25, lit_30, lit_60, lit_63, lit_96, lit_100, lit_512, lit_240, Sum.elim_inl, hLx, show L < 8 by omega, gi_no, gi_yes]
    · unfold lkY
      simp (disch := omega) only [eq_self, n_le, n_lt, n_inj, n_nat, gd_in, n_add, bi_z, bi_1, gd_bi, n_nonneg,  some_bind, lt_e, lit_NV, if_true, if_false, ite_true, ite_false, Option.bind_some, not_true, not_false_iff, lit_0, lit_1, lit_2, lit_3, lit_4, lit_5, lit_6, lit_7, lit_8, lit_12, lit_24, lit_25, lit_30, lit_60, lit_63, lit_96, lit_100, lit_512, lit_240, Bool.true_eq_false, hLy, hL8, r_fails0, Nat.one_ne_zero, th_ne, n_mul, gi_no, gi_yes]
    · unfold lkY
      simp (disch := omega) only [gi_no]
      rfl
    · refine Rel_X h hc (fun a' j q => o _ _ (by omega)) (fun a' j q q0 => oy _ _ (by omega)) (fun M F hM hRE hRN hRX q hq => ?_) (fun P9 hC => ?_)
      · have eM := RN_one h2 hRN
        subst eM
        obtain ⟨g1, g2, g3, g4, g5, g6, g7, g8⟩ := hRX q hq
        have ol : ∀ a' j, gl (lkX x u L a l b) a' j = gl x a' j := fun _ _ => rfl
        refine ⟨?_, ?_, ?_, fun i hi => ?_, fun k hk => ?_, fun k hk => ?_, fun k hk => ?_, fun k hk => ?_⟩
        · rw [o _ _ (by omega), oy _ _ (by omega)]
          exact g1
        · rw [o _ _ (by omega), oy _ _ (by omega)]
          exact g2
        · obtain ⟨L', q1, q2, q3, q4⟩ := g3
          by_cases eq : q = u
          · subst eq
            have hLL : L' = L := by
              have := q2.symm.trans hLx
              rw [n_inj (by omega) (by omega)] at this
              exact this
            subst hLL
            refine ⟨L' + 1, by omega, ?_, ?_, fun i hi => ?_⟩
            · unfold lkX
              rw [gi_ui_eq]
            · unfold lkY
              rw [gi_ui_eq]
            · by_cases ei : i = L'
              · refine ⟨a, b, l, ha, hb, hl, ?_, ?_, ?_⟩ <;> unfold lkX <;> simp (disch := omega) only [gi_no, gi_yes]
              · rw [o _ _ (by omega), o _ _ (by omega), o _ _ (by omega)]
                exact q4 i (by omega)
          · refine ⟨L', q1, ?_, ?_, fun i hi => ?_⟩
            · rw [o _ _ (by omega), q2]
            · rw [oy _ _ (by omega), q3]
            · rw [o _ _ (by omega), o _ _ (by omega), o _ _ (by omega)]
              exact q4 i hi
        · by_cases ei : q = u ∧ i = L
          · obtain ⟨rfl, rfl⟩ := ei
            unfold lkX lkY
            refine ⟨?_, ?_, ?_⟩ <;> simp (disch := omega) only [gi_no, gi_yes]
          · rw [o _ _ (by omega), o _ _ (by omega), o _ _ (by omega), oy _ _ (by omega), oy _ _ (by omega), oy _ _ (by omega)]
            exact g4 i hi
        · rw [o _ _ (by omega), o _ _ (by omega), oy _ _ (by omega), oy _ _ (by omega)]
          exact g5 k hk
        · rw [o _ _ (by omega)]
          exact g6 k hk
        · rw [ol, oy _ _ (by omega)]
          exact g7 k hk
        · rw [ol]
          exact g8 k hk
      · obtain ⟨w, w1, w2⟩ := hC
        refine ⟨w, fun q hq ho => ?_, by omega⟩
        rw [o _ _ (by omega)] at ho ⊢
        exact w1 q hq ho
