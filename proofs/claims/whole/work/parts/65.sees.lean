/-- an edge that a transaction sees, and that leaves the node k -/
def se (E : Nat) (x : St) (u k e : Nat) : Bool := we E x (n32 e) (gi x (57 + 5 * u) 5) && (decide (fr x e = k) && !hl (gl x (57 + 5 * u) 8) e)
def sl (x : St) (u k i : Nat) : Bool := decide (gi x (59 + 5 * u) i = n32 k)
theorem loop_cnt0 {step : Int32 × Int32 → Option ((Int32 × Int32) ⊕ (Int32 × Int32))} (s0 j0 N : Nat) (p : Nat → Bool) (hb : ∀ k a, k < N → step (n32 (s0 + a), n32 (j0 + k)) = some (.inl (n32 (s0 + (if p k then a + 1 else a)), n32 (j0 + (k + 1))))) (he : ∀ a, step (n32 (s0 + a), n32 (j0 + N)) = some (.inr (n32 (s0 + a), n32 (j0 + N)))) : loopF step (n32 s0, n32 j0) = some (n32 (s0 + cnt p N), n32 (j0 + N)) :=
  (loop_fold (step := step) N (fun a k => (n32 (s0 + a), n32 (j0 + k))) (fun k a => if p k then a + 1 else a) (fun _ _ => True) (a0 := 0) (out := fun a => (n32 (s0 + a), n32 (j0 + N))) trivial (fun k a hk _ => ⟨hb k a hk, trivial⟩) (fun a _ => he a)).1
theorem q_sees {N E : Nat} {x y : St} {v : Int64} (hR : RN N x y) (h : RE N E x y) (hX : ∀ u, u < 4 → RX N E x y u) (a b : Int32) : agQ (fL_sees x v a b) (fX11_sees y a b) x y := by
  obtain ⟨hN, -⟩ := id hR
  obtain ⟨hE, hcE, -⟩ := id h
  unfold fL_sees fX10_sees fX11_sees fX11_sees_j15
  rw [c_reqSeen hR hX, r_seesNode hR hX]
  cases h9 : sn N x a b
  · exact ⟨1, v, 0, rfl, rfl, fun h => absurd h (by decide)⟩
  · obtain ⟨u, k, hu, hk, rfl, rfl, ho, -⟩ := sn_ex hN h9
    obtain ⟨L, hL, hLx, hLy, -⟩ := (hX u hu).2.2.1
    have cl : fX9_linksFrom x u (n32 k) = some (n32 (cnt (sl x u k) L)) := by
      unfold fX9_linksFrom
      rw [lit_0, loop_cnt L (sl x u k) (fun i s hi hs => ?_) (fun s hs => ?_)]
      · rfl
      · unfold fX9_linksFrom_l4 fX9_linksFrom_j25 sl
        simp (disch := omega) only [eq_self, n_le, n_lt, n_inj, n_nat, gd_in, n_add, bi_z, bi_1, gd_bi, n_nonneg,  some_bind, lt_e, lit_NV, if_true, if_false, ite_true, ite_false, Option.bind_some, not_true, not_false_iff, lit_0, lit_1, lit_2, lit_3, lit_4, lit_5, lit_6, lit_7, lit_8, lit_12, lit_24, lit_25, lit_30, lit_60, lit_63, lit_96, lit_100, lit_512, lit_240, hLx, Nat.not_le.mpr hi]
        by_cases e : gi x (59 + 5 * u) i = n32 k <;> simp [e]
      · unfold fX9_linksFrom_l4
        simp (disch := omega) only [eq_self, n_le, n_lt, n_inj, n_nat, gd_in, n_add, bi_z, bi_1, gd_bi, n_nonneg,  some_bind, lt_e, lit_NV, if_true, if_false, ite_true, ite_false, Option.bind_some, not_true, not_false_iff, lit_0, lit_1, lit_2, lit_3, lit_4, lit_5, lit_6, lit_7, lit_8, lit_12, lit_24, lit_25, lit_30, lit_60, lit_63, lit_96, lit_100, lit_512, lit_240, hLx, Nat.le_refl]
    have ce : ∀ s0 : Nat, loopF (fX10_sees_l23 x (n32 u) (n32 k) u) (n32 s0, n32 0) = some (n32 (s0 + cnt (se E x u k) E), n32 (0 + E)) := fun s0 => by
      refine loop_cnt0 s0 0 E (se E x u k) (fun i s hi => ?_) (fun s => ?_)
      · obtain ⟨h1, h2, -, h4, h5, -⟩ := RE_at h hN hi
        unfold fX10_sees_l23 fX10_sees_j77 se
        simp only [Nat.zero_add]
        simp (disch := omega) only [eq_self, n_le, n_lt, n_inj, n_nat, gd_in, n_add, bi_z, bi_1, gd_bi, n_nonneg,  some_bind, lt_e, lit_NV, if_true, if_false, ite_true, ite_false, Option.bind_some, not_true, not_false_iff, lit_0, lit_1, lit_2, lit_3, lit_4, lit_5, lit_6, lit_7, lit_8, lit_12, lit_24, lit_25, lit_30, lit_60, lit_63, lit_96, lit_100, lit_512, lit_240, hcE, Nat.not_le.mpr hi, c_wasThereE hcE hE, h1, c_drops (show i < 60 by omega)]
        cases we E x (n32 i) (gi x (57 + 5 * u) 5) <;> cases hl (gl x (57 + 5 * u) 8) i <;> by_cases e : fr x i = k <;> simp [e, Nat.add_assoc]
      · unfold fX10_sees_l23
        simp only [Nat.zero_add]
        simp (disch := omega) only [eq_self, n_le, n_lt, n_inj, n_nat, gd_in, n_add, bi_z, bi_1, gd_bi, n_nonneg,  some_bind, lt_e, lit_NV, if_true, if_false, ite_true, ite_false, Option.bind_some, not_true, not_false_iff, lit_0, lit_1, lit_2, lit_3, lit_4, lit_5, lit_6, lit_7, lit_8, lit_12, lit_24, lit_25, lit_30, lit_60, lit_63, lit_96, lit_100, lit_512, lit_240, hcE, Nat.le_refl]
    have re : ∀ y, RN N x y → RE N E x y → (∀ u, u < 4 → RX N E x y u) → loopF (fX11_sees_l28 y (n32 u) (n32 k)) (n32 0, n32 0) = some (n32 (cnt (se E x u k) E), n32 E) := fun y hR h hX => by
      obtain ⟨-, -, hc, hf, ht, -, hb, hg, -⟩ := id h
      refine loop_cnt E (se E x u k) (fun i s hi hs => ?_) (fun s hs => ?_)
      · obtain ⟨h1, h2, -, h4, h5, -⟩ := RE_at h hN hi
        obtain ⟨-, hbg, -, -, -, -, hdr, -⟩ := hX u hu
        have htx : tx x (n32 u) = true := by
          unfold tx bw
          rw [n_nat (by omega), ho, decide_eq_true ⟨n_nonneg (by omega), by rw [n_lt (by omega) (by decide)]; exact hu⟩]; rfl
        have hwe : we E x (n32 i) (gi x (57 + 5 * u) 5) = (decide (¬ gi x (57 + 5 * u) 5 < gi x 11 i) && decide (¬ gi x 12 i ≤ gi x (57 + 5 * u) 5)) := by
          unfold we
          rw [n_nat (by omega), decide_eq_true ⟨n_nonneg (by omega), by rw [n_lt (by omega) (by omega)]; exact hi⟩, Bool.true_and]
        have hbw : bw E (n32 i) = true := decide_eq_true ⟨n_nonneg (by omega), by rw [n_lt (by omega) (by omega)]; exact hi⟩
        have hin : fX11_isIn y (n32 i) (n32 0) (n32 E - n32 1) = some (bi true) := by
          rw [← hbw]
          exact r_isIn (y := y) (a := n32 i) (n := E) (by omega)
        unfold fX11_sees_l28 fX11_sees_j63 fX11_sees_j64 fX11_seesEdge fX11_seesEdge_j64 se
        simp (disch := omega) only [eq_self, n_le, n_lt, n_inj, n_nat, gd_in, n_add, bi_z, bi_1, gd_bi, n_nonneg,  some_bind, lt_e, lit_NV, if_true, if_false, ite_true, ite_false, Option.bind_some, not_true, not_false_iff, lit_0, lit_1, lit_2, lit_3, lit_4, lit_5, lit_6, lit_7, lit_8, lit_12, lit_24, lit_25, lit_30, lit_60, lit_63, lit_96, lit_100, lit_512, lit_240, hc, Nat.not_le.mpr hi, hf, h1, r_isTx hX, htx, hin, hb, hg, hbg, r_wasThere, n_mul, hdr i (show i < 60 by omega), Bool.true_eq_false, ← hwe]
        cases we E x (n32 i) (gi x (57 + 5 * u) 5) <;> cases hl (gl x (57 + 5 * u) 8) i <;> by_cases e : fr x i = k <;> simp [e, n_inj]
      · unfold fX11_sees_l28
        simp (disch := omega) only [eq_self, n_le, n_lt, n_inj, n_nat, gd_in, n_add, bi_z, bi_1, gd_bi, n_nonneg,  some_bind, lt_e, lit_NV, if_true, if_false, ite_true, ite_false, Option.bind_some, not_true, not_false_iff, lit_0, lit_1, lit_2, lit_3, lit_4, lit_5, lit_6, lit_7, lit_8, lit_12, lit_24, lit_25, lit_30, lit_60, lit_63, lit_96, lit_100, lit_512, lit_240, hc, Nat.le_refl]
    have rl : ∀ y, (∀ u, u < 4 → RX N E x y u) → ∀ s0 : Nat, loopF (fX11_sees_l78 y (n32 u) (n32 k)) (n32 s0, n32 (8 * u)) = some (n32 (s0 + cnt (sl x u k) L), n32 (8 * u + L)) := fun y hX s0 => by
      obtain ⟨L', hL', hLx', hLy', -⟩ := (hX u hu).2.2.1
      have e9 : L' = L := by
        have := hLx'.symm.trans hLx
        rw [n_inj (by omega) (by omega)] at this
        exact this
      subst e9
      obtain ⟨-, -, -, har, -⟩ := hX u hu
      refine loop_cnt0 s0 (8 * u) L' (sl x u k) (fun i s hi => ?_) (fun s => ?_)
      · unfold fX11_sees_l78 fX11_sees_j111 sl
        simp (disch := omega) only [eq_self, n_le, n_lt, n_inj, n_nat, gd_in, n_add, bi_z, bi_1, gd_bi, n_nonneg,  some_bind, lt_e, lit_NV, if_true, if_false, ite_true, ite_false, Option.bind_some, not_true, not_false_iff, lit_0, lit_1, lit_2, lit_3, lit_4, lit_5, lit_6, lit_7, lit_8, lit_12, lit_24, lit_25, lit_30, lit_60, lit_63, lit_96, lit_100, lit_512, lit_240, hLy', n_mul, (har i (show i < 8 by omega)).1, show ¬ 8 * u + L' ≤ 8 * u + i by omega]
        by_cases e : gi x (59 + 5 * u) i = n32 k <;> simp [e, Nat.add_assoc]
      · unfold fX11_sees_l78
        simp (disch := omega) only [eq_self, n_le, n_lt, n_inj, n_nat, gd_in, n_add, bi_z, bi_1, gd_bi, n_nonneg,  some_bind, lt_e, lit_NV, if_true, if_false, ite_true, ite_false, Option.bind_some, not_true, not_false_iff, lit_0, lit_1, lit_2, lit_3, lit_4, lit_5, lit_6, lit_7, lit_8, lit_12, lit_24, lit_25, lit_30, lit_60, lit_63, lit_96, lit_100, lit_512, lit_240, hLy', n_mul, Nat.le_refl]
    refine ⟨0, (n32 (cnt (sl x u k) L + cnt (se E x u k) E)).toInt64, n32 (cnt (se E x u k) E + cnt (sl x u k) L), ?_, ?_, fun _ => by rw [Nat.add_comm]⟩
    · simp (disch := omega) only [eq_self, n_le, n_lt, n_inj, n_nat, gd_in, n_add, bi_z, bi_1, gd_bi, n_nonneg,  some_bind, lt_e, lit_NV, if_true, if_false, ite_true, ite_false, Option.bind_some, not_true, not_false_iff, lit_0, lit_1, lit_2, lit_3, lit_4, lit_5, lit_6, lit_7, lit_8, lit_12, lit_24, lit_25, lit_30, lit_60, lit_63, lit_96, lit_100, lit_512, lit_240, Bool.true_eq_false, Sum.elim_inl, cl, ce]
    · simp (disch := omega) only [eq_self, n_le, n_lt, n_inj, n_nat, gd_in, n_add, bi_z, bi_1, gd_bi, n_nonneg,  some_bind, lt_e, lit_NV, if_true, if_false, ite_true, ite_false, Option.bind_some, not_true, not_false_iff, lit_0, lit_1, lit_2, lit_3, lit_4, lit_5, lit_6, lit_7, lit_8, lit_12, lit_24, lit_25, lit_30, lit_60, lit_63, lit_96, lit_100, lit_512, lit_240, Bool.true_eq_false, r_fails0, re _ (RN_th hR) (RE_th h) (fun u hu => RX_th (hX u hu)), n_mul, rl _ (fun u hu => RX_th (hX u hu))]
theorem owes_18 : owes fLaw_c18 := fun c x y v p1 p2 p3 p4 h hc => by
  obtain ⟨N, E, T, P, R, -, -, h2, h3, h4, h5, h6, h7, h8, -⟩ := id h
  exact owes_Q h hc (q_sees h2 h3 h8 p1 p2)
/-- a call of no kind -/
theorem Rel_up {c : Nat} {x y : St} (h : Rel c x y) (hc : c < 512) : Rel (c + 1) x y := by
  obtain ⟨N, E, T, P, R, h1, -, h2, h3, h4, h5, h6, h7, h8, h9, h10, h11, h12, h13, h14, h15⟩ := h
  exact ⟨N, E, T, P, R, by omega, by omega, h2, h3, h4, h5, h6, h7, h8, h9, h10, h11, h12, h13, h14, RC9_up h15⟩
