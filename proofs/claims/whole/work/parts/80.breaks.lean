/-! ### whether a transaction breaks a law -/
def lvl (x : St) (u k : Nat) : Int32 := if hs (wr x u) k then gi x (58 + 5 * u) k else gi x 5 k
def al (x : St) (a l b : Nat) : Bool := decide (gi x 18 l = -n32 1) || (decide (gi x 4 a = gi x 18 l) && decide (gi x 4 b = gi x 19 l))
def sh9 (x : St) (u i : Nat) : Bool := !al x (la x u i) (ll x u i) (lb x u i)
def kyv (x : St) (v : Int32) : Bool := decide (gi x 17 v.toNatClampNeg = n32 1)
def tb9 (x : St) (u a b : Nat) : Bool := !decide (a = b) && (lv x a && (lv x b && (hs (wr x u) a && (kyv x (gi x 4 a) && (decide (gi x 4 a = gi x 4 b) && decide (lvl x u a = lvl x u b))))))
/-- two nodes of a label with a key would have the same value -/
def brK (N : Nat) (x : St) (u : Nat) : Prop := ∃ a b, a < b ∧ b < N ∧ lv x a = true ∧ lv x b = true ∧ gi x 4 a = gi x 4 b ∧ kyv x (gi x 4 a) = true ∧ lvl x u a = lvl x u b
section BREAKS
variable {N E L u : Nat} {x y : St}
theorem al_both (h2 : RN N x y) (h6 : RW x y) {a b l : Nat} (ha : a < N) (hb : b < N) (hl : l < 4) : fX2_isAllowed x (n32 a) (n32 l) (n32 b) = some (bi (al x a l b)) ∧ fX11_fitsShape y (n32 l) (n32 a) (n32 b) = some (bi (al x a l b)) := by
  have hN := h2.1
  obtain ⟨-, w2, w3⟩ := h6
  have g4 := h2.2.2.2.1
  have w2l := w2 l
  unfold fX2_isAllowed fX2_isAllowed_j46 fX2_isAllowed_j50 fX11_fitsShape fX11_fitsShape_j40 fX11_fitsShape_j44 al
  by_cases q1 : gi x 18 l = -n32 1
  · refine ⟨?_, ?_⟩
    · simp (disch := omega) only [eq_self, n_le, n_lt, n_inj, n_nat, gd_in, n_add, bi_z, bi_1, gd_bi, n_nonneg,  some_bind, lt_e, lit_NV, if_true, if_false, ite_true, ite_false, Option.bind_some, not_true, not_false_iff, lit_0, lit_1, lit_2, lit_3, lit_4, lit_5, lit_6, lit_7, lit_8, lit_12, lit_24, lit_25, lit_30, lit_60, lit_63, lit_96, lit_100, lit_512, lit_240, q1]
      simp [bi]
    · simp (disch := omega) only [eq_self, n_le, n_lt, n_inj, n_nat, gd_in, n_add, bi_z, bi_1, gd_bi, n_nonneg,  some_bind, lt_e, lit_NV, if_true, if_false, ite_true, ite_false, Option.bind_some, not_true, not_false_iff, lit_0, lit_1, lit_2, lit_3, lit_4, lit_5, lit_6, lit_7, lit_8, lit_12, lit_24, lit_25, lit_30, lit_60, lit_63, lit_96, lit_100, lit_512, lit_240, w2, q1]
      simp [bi]
  · have w3l := w3 l q1
    refine ⟨?_, ?_⟩
    · simp (disch := omega) only [eq_self, n_le, n_lt, n_inj, n_nat, gd_in, n_add, bi_z, bi_1, gd_bi, n_nonneg,  some_bind, lt_e, lit_NV, if_true, if_false, ite_true, ite_false, Option.bind_some, not_true, not_false_iff, lit_0, lit_1, lit_2, lit_3, lit_4, lit_5, lit_6, lit_7, lit_8, lit_12, lit_24, lit_25, lit_30, lit_60, lit_63, lit_96, lit_100, lit_512, lit_240, q1]
      by_cases z1 : gi x 4 a = gi x 18 l <;> by_cases z2 : gi x 4 b = gi x 19 l <;> simp [z1, z2, bi, q1]
    · simp (disch := omega) only [eq_self, n_le, n_lt, n_inj, n_nat, gd_in, n_add, bi_z, bi_1, gd_bi, n_nonneg,  some_bind, lt_e, lit_NV, if_true, if_false, ite_true, ite_false, Option.bind_some, not_true, not_false_iff, lit_0, lit_1, lit_2, lit_3, lit_4, lit_5, lit_6, lit_7, lit_8, lit_12, lit_24, lit_25, lit_30, lit_60, lit_63, lit_96, lit_100, lit_512, lit_240, w2, q1, w3l, g4]
      by_cases z1 : gi x 4 a = gi x 18 l <;> by_cases z2 : gi x 4 b = gi x 19 l <;> simp [z1, z2, bi, q1]
theorem c_breaksShape (h2 : RN N x y) (h6 : RW x y) (hK : LK N L x y u) : fX10_breaksShape x u = some (bi ((List.range L).any (sh9 x u))) := by
  obtain ⟨hL, k1, k2, k3⟩ := hK
  have e := loop_any (step := fX10_breaksShape_l2 x u) L n32 (sh9 x u) (r := .inr (n32 1)) (e := .inl (n32 L)) (fun i hi => by
      obtain ⟨q1, q2, q3, q4, q5, q6⟩ := k3 i hi
      have hal := (al_both h2 h6 q4 q6 q5).1
      unfold fX10_breaksShape_l2 sh9
      simp (disch := omega) only [eq_self, n_le, n_lt, n_inj, n_nat, gd_in, n_add, bi_z, bi_1, gd_bi, n_nonneg,  some_bind, lt_e, lit_NV, if_true, if_false, ite_true, ite_false, Option.bind_some, not_true, not_false_iff, lit_0, lit_1, lit_2, lit_3, lit_4, lit_5, lit_6, lit_7, lit_8, lit_12, lit_24, lit_25, lit_30, lit_60, lit_63, lit_96, lit_100, lit_512, lit_240, k1, Nat.not_le.mpr hi, q1, q2, q3, hal]
      cases al x (la x u i) (ll x u i) (lb x u i) <;> simp)
    (by
      unfold fX10_breaksShape_l2
      simp (disch := omega) only [eq_self, n_le, n_lt, n_inj, n_nat, gd_in, n_add, bi_z, bi_1, gd_bi, n_nonneg,  some_bind, lt_e, lit_NV, if_true, if_false, ite_true, ite_false, Option.bind_some, not_true, not_false_iff, lit_0, lit_1, lit_2, lit_3, lit_4, lit_5, lit_6, lit_7, lit_8, lit_12, lit_24, lit_25, lit_30, lit_60, lit_63, lit_96, lit_100, lit_512, lit_240, k1, Nat.le_refl])
  have e : loopF (fX10_breaksShape_l2 x u) 0 = _ := e
  unfold fX10_breaksShape
  rw [e]
  cases (List.range L).any (sh9 x u) <;> rfl
theorem kyv_at {a l : Nat} (hl : l < 4) (h : gi x 4 a = n32 l) : kyv x (gi x 4 a) = ky x l := by
  unfold kyv ky
  rw [h, n_nat (by omega)]
theorem c_breaksKey (h2 : RN N x y) (h6 : RW x y) (hQ : RQ N x) : ∃ (b : Bool) (x' : St), fX10_breaksKey x u = some (bi b, x') ∧ (∀ a j, gl x' a j = gl x a j) ∧ (∀ a j, a ≠ 120 → gi x' a j = gi x a j) ∧ (b = true ↔ brK N x u) := by
  have hN := h2.1
  have hc := h2.2.1
  have n57 : ∀ u, 57 + 5 * u ≠ 120 := fun u => by omega
  have n58 : ∀ v, 58 + 5 * v ≠ 120 := fun v => by omega
  obtain ⟨x8, e1, f1, f2, f3⟩ := loop_st (step := fX10_breaksKey_l2 x u) N (fun k z => (∀ a j, gl z a j = gl x a j) ∧ (∀ a j, a ≠ 120 → gi z a j = gi x a j) ∧ ∀ j, j < k → gi z 120 j = lvl x u j) (x0 := x) ⟨fun _ _ => rfl, fun _ _ _ => rfl, fun j h => absurd h (Nat.not_lt_zero j)⟩ (fun k z hk hz => by
      obtain ⟨z1, z2, z3⟩ := hz
      have c1 : gi z 1 2 = n32 N := (z2 _ _ (by decide)).trans hc
      have c2 : gi z (57 + 5 * u) 6 = wr x u := z2 _ _ (n57 u)
      have c3 : gi z (58 + 5 * u) k = gi x (58 + 5 * u) k := z2 _ _ (n58 u)
      have c4 : gi z 5 k = gi x 5 k := z2 _ _ (by decide)
      refine ⟨ui z 120 k (lvl x u k), ?_, z1, fun a j ha => ?_, fun j hj => ?_⟩
      · unfold fX10_breaksKey_l2 fX10_breaksKey_j47 lvl
        simp (disch := omega) only [eq_self, n_le, n_lt, n_inj, n_nat, gd_in, n_add, bi_z, bi_1, gd_bi, n_nonneg,  some_bind, lt_e, lit_NV, if_true, if_false, ite_true, ite_false, Option.bind_some, not_true, not_false_iff, lit_0, lit_1, lit_2, lit_3, lit_4, lit_5, lit_6, lit_7, lit_8, lit_12, lit_24, lit_25, lit_30, lit_60, lit_63, lit_96, lit_100, lit_512, lit_240, c1, Nat.not_le.mpr hk, c2, c3, c4, c_has (wr x u) (show k < 32 by omega)]
        cases hs (wr x u) k <;> simp
      · rw [gi_no (by omega)]
        exact z2 a j ha
      · by_cases e : j = k
        · rw [gi_yes ⟨rfl, e⟩, e]
        · rw [gi_no (by omega)]
          exact z3 j (by omega))
    (fun z hz => by
      have c1 : gi z 1 2 = n32 N := (hz.2.1 _ _ (by decide)).trans hc
      unfold fX10_breaksKey_l2
      simp (disch := omega) only [eq_self, n_le, n_lt, n_inj, n_nat, gd_in, n_add, bi_z, bi_1, gd_bi, n_nonneg,  some_bind, lt_e, lit_NV, if_true, if_false, ite_true, ite_false, Option.bind_some, not_true, not_false_iff, lit_0, lit_1, lit_2, lit_3, lit_4, lit_5, lit_6, lit_7, lit_8, lit_12, lit_24, lit_25, lit_30, lit_60, lit_63, lit_96, lit_100, lit_512, lit_240, c1, Nat.le_refl])
  have hc8 : gi x8 1 2 = n32 N := (f2 _ _ (by decide)).trans hc
  obtain ⟨tb, htb⟩ := Classical.axiomOfChoice fun l : Nat => c_hasTwins hc8 hN (n32 l) 120
  have e2 := loop_any (step := fX10_breaksKey_l56 x8 u) 4 n32 (fun l => ky x l && tb l) (r := .inr (n32 1, x8)) (e := .inl (n32 4)) (fun l hl => by
      have c1 : gi x8 17 l = bi (ky x l) := (f2 _ _ (by decide)).trans (RW_ky h6 hl).1
      unfold fX10_breaksKey_l56 fX10_breaksKey_j90
      simp (disch := omega) only [eq_self, n_le, n_lt, n_inj, n_nat, gd_in, n_add, bi_z, bi_1, gd_bi, n_nonneg,  some_bind, lt_e, lit_NV, if_true, if_false, ite_true, ite_false, Option.bind_some, not_true, not_false_iff, lit_0, lit_1, lit_2, lit_3, lit_4, lit_5, lit_6, lit_7, lit_8, lit_12, lit_24, lit_25, lit_30, lit_60, lit_63, lit_96, lit_100, lit_512, lit_240, Nat.not_le.mpr hl, c1, (htb l).1]
      cases ky x l <;> cases tb l <;> simp)
    (by
      unfold fX10_breaksKey_l56
      simp (disch := omega) only [eq_self, n_le, n_lt, n_inj, n_nat, gd_in, n_add, bi_z, bi_1, gd_bi, n_nonneg,  some_bind, lt_e, lit_NV, if_true, if_false, ite_true, ite_false, Option.bind_some, not_true, not_false_iff, lit_0, lit_1, lit_2, lit_3, lit_4, lit_5, lit_6, lit_7, lit_8, lit_12, lit_24, lit_25, lit_30, lit_60, lit_63, lit_96, lit_100, lit_512, lit_240, Nat.le_refl])
  have e1 : loopF (fX10_breaksKey_l2 x u) (x, 0) = _ := e1
  have e2 : loopF (fX10_breaksKey_l56 x8 u) 0 = _ := e2
  refine ⟨(List.range 4).any (fun l => ky x l && tb l), x8, ?_, f1, f2, ?_⟩
  · unfold fX10_breaksKey
    rw [e1, some_bind, e2]
    cases (List.range 4).any (fun l => ky x l && tb l) <;> rfl
  · have hlv : lv x8 = lv x := lv_cg fun k => f2 _ _ (by decide)
    rw [any_ex]
    constructor
    · rintro ⟨l, hl, hq⟩
      simp only [Bool.and_eq_true] at hq
      obtain ⟨a, b, q1, q2, q3, q4, q5, q6, q7⟩ := (htb l).2.mp hq.2
      rw [hlv] at q3 q4
      rw [f2 _ _ (by decide)] at q5 q6
      rw [f3 a (by omega), f3 b q2] at q7
      exact ⟨a, b, q1, q2, q3, q4, q5.trans q6.symm, by rw [kyv_at hl q5]; exact hq.1, q7⟩
    · rintro ⟨a, b, q1, q2, q3, q4, q5, q6, q7⟩
      obtain ⟨l, hl, hla⟩ := hQ.1 a (by omega)
      rw [kyv_at hl hla] at q6
      refine ⟨l, hl, ?_⟩
      rw [q6, Bool.true_and]
      refine (htb l).2.mpr ⟨a, b, q1, q2, ?_, ?_, ?_, ?_, ?_⟩
      · rw [hlv]; exact q3
      · rw [hlv]; exact q4
      · rw [f2 _ _ (by decide)]; exact hla
      · rw [f2 _ _ (by decide), ← q5]; exact hla
      · rw [f3 a (by omega), f3 b q2]; exact q7
theorem c_breaks (h2 : RN N x y) (h3 : RE N E x y) (h6 : RW x y) (hK : LK N L x y u) (hQ : RQ N x) : ∃ (b : Bool) (x' : St), fX10_breaksLaws x u = some (bi b, x') ∧ (∀ a j, gl x' a j = gl x a j) ∧ (∀ a j, a ≠ 120 → gi x' a j = gi x a j) ∧ (b = true ↔ 60 < E + L ∨ (List.range L).any (sh9 x u) = true ∨ brK N x u) := by
  have hE := h3.1
  have hL := hK.1
  unfold fX10_breaksLaws fX10_breaksLaws_j33
  rw [h3.2.1, hK.2.1, c_breaksShape h2 h6 hK]
  by_cases q1 : 60 < E + L
  · refine ⟨true, x, ?_, fun _ _ => rfl, fun _ _ _ => rfl, fun _ => Or.inl q1, fun _ => rfl⟩
    simp (disch := omega) only [eq_self, n_le, n_lt, n_inj, n_nat, gd_in, n_add, bi_z, bi_1, gd_bi, n_nonneg,  some_bind, lt_e, lit_NV, if_true, if_false, ite_true, ite_false, Option.bind_some, not_true, not_false_iff, lit_0, lit_1, lit_2, lit_3, lit_4, lit_5, lit_6, lit_7, lit_8, lit_12, lit_24, lit_25, lit_30, lit_60, lit_63, lit_96, lit_100, lit_512, lit_240, q1]
    rfl
  · cases q2 : (List.range L).any (sh9 x u)
    · obtain ⟨b, x', e, f1, f2, f3⟩ := c_breaksKey (u := u) h2 h6 hQ
      refine ⟨b, x', ?_, f1, f2, ?_⟩
      · simp (disch := omega) only [eq_self, n_le, n_lt, n_inj, n_nat, gd_in, n_add, bi_z, bi_1, gd_bi, n_nonneg,  some_bind, lt_e, lit_NV, if_true, if_false, ite_true, ite_false, Option.bind_some, not_true, not_false_iff, lit_0, lit_1, lit_2, lit_3, lit_4, lit_5, lit_6, lit_7, lit_8, lit_12, lit_24, lit_25, lit_30, lit_60, lit_63, lit_96, lit_100, lit_512, lit_240, q1, e]
        cases b <;> rfl
      · rw [f3]
        constructor
        · exact fun h => Or.inr (Or.inr h)
        · rintro (h | h | h)
          · exact absurd h q1
          · cases h
          · exact h
    · refine ⟨true, x, ?_, fun _ _ => rfl, fun _ _ _ => rfl, fun _ => Or.inr (Or.inl rfl), fun _ => rfl⟩
      simp (disch := omega) only [eq_self, n_le, n_lt, n_inj, n_nat, gd_in, n_add, bi_z, bi_1, gd_bi, n_nonneg,  some_bind, lt_e, lit_NV, if_true, if_false, ite_true, ite_false, Option.bind_some, not_true, not_false_iff, lit_0, lit_1, lit_2, lit_3, lit_4, lit_5, lit_6, lit_7, lit_8, lit_12, lit_24, lit_25, lit_30, lit_60, lit_63, lit_96, lit_100, lit_512, lit_240, q1, Bool.true_eq_false]
      rfl
theorem r_later (h2 : RN N x y) (hX : RX N E x y u) (hu : u < 4) {k : Nat} (hk : k < N) : fX11_laterValue y (n32 u) (n32 k) = some (lvl x u k) := by
  have hN := h2.1
  obtain ⟨q1, q2⟩ := hX.2.2.2.2.1 k (by omega)
  have hi : 24 * u + k < 96 := by omega
  unfold fX11_laterValue lvl wr
  simp (disch := omega) only [eq_self, n_le, n_lt, n_inj, n_nat, gd_in, n_add, bi_z, bi_1, gd_bi, n_nonneg,  some_bind, lt_e, lit_NV, if_true, if_false, ite_true, ite_false, Option.bind_some, not_true, not_false_iff, lit_0, lit_1, lit_2, lit_3, lit_4, lit_5, lit_6, lit_7, lit_8, lit_12, lit_24, lit_25, lit_30, lit_60, lit_63, lit_96, lit_100, lit_512, lit_240, n_mul, q1, q2, h2.2.2.2.2.1]
  cases hs (gi x (57 + 5 * u) 6) k <;> simp
theorem r_breaks (h2 : RN N x y) (h3 : RE N E x y) (h6 : RW x y) (hX : RX N E x y u) (hu : u < 4) (hK : LK N L x y u) (hQ : RQ N x) : ∃ b : Bool, fX11_breaks y (n32 u) = some (bi b) ∧ (b = true ↔ 60 < E + L ∨ (List.range L).any (sh9 x u) = true ∨ brK N x u) := by
  have hN := h2.1
  have hE := h3.1
  obtain ⟨hL, k1, k2, k3⟩ := id hK
  have x4 := hX.2.2.2.1
  have e1 : ∀ b : Bool, loopF (fX11_breaks_l27 y (n32 u)) (bi b, n32 (8 * u)) = some (bi (b || (List.range L).any (sh9 x u)), n32 (8 * u + L)) := fun b => by
    have := loopF_seq (step := fX11_breaks_l27 y (n32 u)) (fun i => (bi (b || (List.range i).any (sh9 x u)), n32 (8 * u + i))) L (fun i hi => by
        show fX11_breaks_l27 y (n32 u) (bi (b || (List.range i).any (sh9 x u)), n32 (8 * u + i)) = some (Sum.inl (bi (b || (List.range (i + 1)).any (sh9 x u)), n32 (8 * u + (i + 1))))
        rw [any_succ, ← Bool.or_assoc]
        generalize (b || (List.range i).any (sh9 x u)) = d
        obtain ⟨q1, q2, q3, q4, q5, q6⟩ := k3 i hi
        obtain ⟨z1, z2, z3⟩ := x4 i (by omega)
        have hi2 : 8 * u + i < 32 := by omega
        have hal := (al_both h2 h6 q4 q6 q5).2
        unfold fX11_breaks_l27 fX11_breaks_j71 fX11_breaks_j76 sh9
        simp (disch := omega) only [eq_self, n_le, n_lt, n_inj, n_nat, gd_in, n_add, bi_z, bi_1, gd_bi, n_nonneg,  some_bind, lt_e, lit_NV, if_true, if_false, ite_true, ite_false, Option.bind_some, not_true, not_false_iff, lit_0, lit_1, lit_2, lit_3, lit_4, lit_5, lit_6, lit_7, lit_8, lit_12, lit_24, lit_25, lit_30, lit_60, lit_63, lit_96, lit_100, lit_512, lit_240, k2, n_mul, show ¬ 8 * u + L ≤ 8 * u + i by omega, z1, z2, z3, q1, q2, q3, hal]
        cases d
        · cases al x (la x u i) (ll x u i) (lb x u i) <;> simp [bi, Nat.add_assoc]
        · simp [bi, Nat.add_assoc])
      (e := (bi (b || (List.range L).any (sh9 x u)), n32 (8 * u + L))) (by
        unfold fX11_breaks_l27
        simp (disch := omega) only [eq_self, n_le, n_lt, n_inj, n_nat, gd_in, n_add, bi_z, bi_1, gd_bi, n_nonneg,  some_bind, lt_e, lit_NV, if_true, if_false, ite_true, ite_false, Option.bind_some, not_true, not_false_iff, lit_0, lit_1, lit_2, lit_3, lit_4, lit_5, lit_6, lit_7, lit_8, lit_12, lit_24, lit_25, lit_30, lit_60, lit_63, lit_96, lit_100, lit_512, lit_240, k2, n_mul, Nat.le_refl])
    simpa using this
  have e2 : ∀ a, a < N → ∀ b : Bool, loopF (fX11_breaks_l96 y (n32 u) (n32 a)) (bi b, n32 0) = some (bi (b || (List.range N).any (tb9 x u a)), n32 N) := fun a ha b => by
    refine loop_flag (step := fX11_breaks_l96 y (n32 u) (n32 a)) N (tb9 x u a) (fun k d hk => ?_) (fun d => ?_) b
    · obtain ⟨l, hl, hla⟩ := hQ.1 a ha
      have c1 : gi y 1 a = n32 l := (h2.2.2.2.1 a).trans hla
      have c2 := (RW_ky h6 hl).2
      have hi : 24 * u + a < 96 := by omega
      have c3 := (hX.2.2.2.2.1 a (by omega)).1
      have c4 : gi y 1 k = gi x 4 k := h2.2.2.2.1 k
      have j0 : fX11_breaks_j177 y (n32 u) (n32 a) (bi d) (n32 k) (n32 0) = some (.inl (bi d, n32 (k + 1))) := by
        unfold fX11_breaks_j177 fX11_breaks_j204 fX11_breaks_j208 fX11_breaks_j209
        simp (disch := omega) only [eq_self, n_le, n_lt, n_inj, n_nat, gd_in, n_add, bi_z, bi_1, gd_bi, n_nonneg,  some_bind, lt_e, lit_NV, if_true, if_false, ite_true, ite_false, Option.bind_some, not_true, not_false_iff, lit_0, lit_1, lit_2, lit_3, lit_4, lit_5, lit_6, lit_7, lit_8, lit_12, lit_24, lit_25, lit_30, lit_60, lit_63, lit_96, lit_100, lit_512, lit_240]
        cases d <;> rfl
      have j1 : fX11_breaks_j177 y (n32 u) (n32 a) (bi d) (n32 k) (n32 1) = some (.inl (bi (d || decide (lvl x u a = lvl x u k)), n32 (k + 1))) := by
        unfold fX11_breaks_j177 fX11_breaks_j204 fX11_breaks_j208 fX11_breaks_j209
        simp (disch := omega) only [eq_self, n_le, n_lt, n_inj, n_nat, gd_in, n_add, bi_z, bi_1, gd_bi, n_nonneg,  some_bind, lt_e, lit_NV, if_true, if_false, ite_true, ite_false, Option.bind_some, not_true, not_false_iff, lit_0, lit_1, lit_2, lit_3, lit_4, lit_5, lit_6, lit_7, lit_8, lit_12, lit_24, lit_25, lit_30, lit_60, lit_63, lit_96, lit_100, lit_512, lit_240, r_later h2 hX hu ha, r_later h2 hX hu hk]
        cases d
        · by_cases z3 : lvl x u a = lvl x u k <;> simp [z3, bi, n_inj]
        · simp [bi]
      unfold fX11_breaks_l96 fX11_breaks_j176 tb9
      rw [kyv_at hl hla, show hs (wr x u) a = hs (gi x (57 + 5 * u) 6) a from rfl]
      simp (disch := omega) only [eq_self, n_le, n_lt, n_inj, n_nat, gd_in, n_add, bi_z, bi_1, gd_bi, n_nonneg,  some_bind, lt_e, lit_NV, if_true, if_false, ite_true, ite_false, Option.bind_some, not_true, not_false_iff, lit_0, lit_1, lit_2, lit_3, lit_4, lit_5, lit_6, lit_7, lit_8, lit_12, lit_24, lit_25, lit_30, lit_60, lit_63, lit_96, lit_100, lit_512, lit_240, h2.2.2.1, Nat.not_le.mpr hk, r_isNode h2, nd_n hN ha, nd_n hN hk, n_mul, c1, c2, c3, c4, j0, j1, hla]
      by_cases z1 : a = k
      · simp [z1]
      · cases lv x a <;> cases lv x k <;> cases hs (gi x (57 + 5 * u) 6) a <;> cases ky x l <;> by_cases z2 : n32 l = gi x 4 k <;> simp [z1, z2]
    · unfold fX11_breaks_l96
      simp (disch := omega) only [eq_self, n_le, n_lt, n_inj, n_nat, gd_in, n_add, bi_z, bi_1, gd_bi, n_nonneg,  some_bind, lt_e, lit_NV, if_true, if_false, ite_true, ite_false, Option.bind_some, not_true, not_false_iff, lit_0, lit_1, lit_2, lit_3, lit_4, lit_5, lit_6, lit_7, lit_8, lit_12, lit_24, lit_25, lit_30, lit_60, lit_63, lit_96, lit_100, lit_512, lit_240, h2.2.2.1, Nat.le_refl]
  have e3 : ∀ b : Bool, loopF (fX11_breaks_l85 y (n32 u)) (bi b, n32 0) = some (bi (b || (List.range N).any (fun a => (List.range N).any (tb9 x u a))), n32 N) := fun b => by
    refine loop_flag (step := fX11_breaks_l85 y (n32 u)) N (fun a => (List.range N).any (tb9 x u a)) (fun k d hk => ?_) (fun d => ?_) b
    · unfold fX11_breaks_l85
      simp (disch := omega) only [eq_self, n_le, n_lt, n_inj, n_nat, gd_in, n_add, bi_z, bi_1, gd_bi, n_nonneg,  some_bind, lt_e, lit_NV, if_true, if_false, ite_true, ite_false, Option.bind_some, not_true, not_false_iff, lit_0, lit_1, lit_2, lit_3, lit_4, lit_5, lit_6, lit_7, lit_8, lit_12, lit_24, lit_25, lit_30, lit_60, lit_63, lit_96, lit_100, lit_512, lit_240, h2.2.2.1, Nat.not_le.mpr hk, e2 k hk]
    · unfold fX11_breaks_l85
      simp (disch := omega) only [eq_self, n_le, n_lt, n_inj, n_nat, gd_in, n_add, bi_z, bi_1, gd_bi, n_nonneg,  some_bind, lt_e, lit_NV, if_true, if_false, ite_true, ite_false, Option.bind_some, not_true, not_false_iff, lit_0, lit_1, lit_2, lit_3, lit_4, lit_5, lit_6, lit_7, lit_8, lit_12, lit_24, lit_25, lit_30, lit_60, lit_63, lit_96, lit_100, lit_512, lit_240, h2.2.2.1, Nat.le_refl]
  have hkey : (List.range N).any (fun a => (List.range N).any (tb9 x u a)) = true ↔ brK N x u := by
    rw [any_ex]
    constructor
    · rintro ⟨a, ha, h⟩
      obtain ⟨b, hb, h⟩ := any_ex.mp h
      unfold tb9 at h
      simp only [Bool.and_eq_true, decide_eq_true_eq, Bool.not_eq_true', decide_eq_false_iff_not] at h
      obtain ⟨w1, w2, w3, w4, w5, w6, w7⟩ := h
      rcases Nat.lt_or_gt_of_ne w1 with q | q
      · exact ⟨a, b, q, hb, w2, w3, w6, w5, w7⟩
      · exact ⟨b, a, q, ha, w3, w2, w6.symm, by rw [← w6]; exact w5, w7.symm⟩
    · rintro ⟨a, b, q1, q2, q3, q4, q5, q6, q7⟩
      have hw : hs (wr x u) a = true ∨ hs (wr x u) b = true := by
        cases w1 : hs (wr x u) a
        · cases w2 : hs (wr x u) b
          · exfalso
            unfold lvl at q7
            rw [w1, w2] at q7
            obtain ⟨l, hl, hla⟩ := hQ.1 a (by omega)
            rw [kyv_at hl hla] at q6
            exact hQ.2 l a b hl q1 q2 (of_decide_eq_true q6) hla (by rw [← q5]; exact hla) q3 q4 q7
          · exact Or.inr rfl
        · exact Or.inl rfl
      rcases hw with w | w
      · refine ⟨a, by omega, any_ex.mpr ⟨b, q2, ?_⟩⟩
        unfold tb9
        simp only [Bool.and_eq_true, decide_eq_true_eq, Bool.not_eq_true', decide_eq_false_iff_not]
        exact ⟨by omega, q3, q4, w, q6, q5, q7⟩
      · refine ⟨b, q2, any_ex.mpr ⟨a, by omega, ?_⟩⟩
        unfold tb9
        simp only [Bool.and_eq_true, decide_eq_true_eq, Bool.not_eq_true', decide_eq_false_iff_not]
        exact ⟨by omega, q4, q3, w, by rw [← q5]; exact q6, q5.symm, q7.symm⟩
  refine ⟨(decide (60 < E + L) || (List.range L).any (sh9 x u)) || (List.range N).any (fun a => (List.range N).any (tb9 x u a)), ?_, ?_⟩
  · have key : ∀ b : Bool, fX11_breaks_j21 y (n32 u) (bi b) = some (bi ((b || (List.range L).any (sh9 x u)) || (List.range N).any (fun a => (List.range N).any (tb9 x u a)))) := fun b => by
      unfold fX11_breaks_j21
      simp (disch := omega) only [eq_self, n_le, n_lt, n_inj, n_nat, gd_in, n_add, bi_z, bi_1, gd_bi, n_nonneg,  some_bind, lt_e, lit_NV, if_true, if_false, ite_true, ite_false, Option.bind_some, not_true, not_false_iff, lit_0, lit_1, lit_2, lit_3, lit_4, lit_5, lit_6, lit_7, lit_8, lit_12, lit_24, lit_25, lit_30, lit_60, lit_63, lit_96, lit_100, lit_512, lit_240, n_mul, e1, e3]
      exact gd_bi
    unfold fX11_breaks
    simp (disch := omega) only [eq_self, n_le, n_lt, n_inj, n_nat, gd_in, n_add, bi_z, bi_1, gd_bi, n_nonneg,  some_bind, lt_e, lit_NV, if_true, if_false, ite_true, ite_false, Option.bind_some, not_true, not_false_iff, lit_0, lit_1, lit_2, lit_3, lit_4, lit_5, lit_6, lit_7, lit_8, lit_12, lit_24, lit_25, lit_30, lit_60, lit_63, lit_96, lit_100, lit_512, lit_240, h3.2.2.1, k2]
    by_cases q : 60 < E + L
    · rw [if_neg (by omega), decide_eq_true q]
      exact key true
    · rw [if_pos (by omega), decide_eq_false q]
      exact key false
  · rw [Bool.or_eq_true, Bool.or_eq_true, hkey, decide_eq_true_eq, or_assoc]
end BREAKS
