theorem bi_z0 (b : Bool) : (bi b = (0 : Int32)) = (b = false) := bi_z b
theorem r_isNode {x y : St} {N : Nat} (hR : RN N x y) (a : Int32) : fX11_isNode y a = some (bi (nd N x a)) := by
  obtain ⟨h, -, hN, -, -, -, hg, -⟩ := hR
  unfold fX11_isNode fX11_isNode_j29 nd lv
  rw [hN, show fX11_isIn y a 0 (n32 N - 1) = _ from r_isIn (by omega), some_bind]
  by_cases h1 : ¬ a < 0 ∧ a < n32 N
  · simp only [bi_z0, decide_eq_true h1, Bool.true_and, if_false, Bool.true_eq_false]
    rw [gd_t (inb_of h1 (by omega) (by decide)), hg]
    exact ite_bi
  · simp only [bi_z0, decide_eq_false h1, Bool.false_and, if_true]
    rfl
theorem r_isEdge {x y : St} {N E : Nat} (hR : RE N E x y) (a : Int32) : fX11_isEdge y a = some (bi (ed E x a)) := by
  obtain ⟨h, -, hN, -, -, -, -, hg, -⟩ := hR
  unfold fX11_isEdge fX11_isEdge_j29 ed le
  rw [hN, show fX11_isIn y a 0 (n32 E - 1) = _ from r_isIn (by omega), some_bind]
  by_cases h1 : ¬ a < 0 ∧ a < n32 E
  · simp only [bi_z0, decide_eq_true h1, Bool.true_and, if_false, Bool.true_eq_false]
    rw [gd_t (inb_of h1 (by omega) (by decide)), hg]
    exact ite_bi
  · simp only [bi_z0, decide_eq_false h1, Bool.false_and, if_true]
    rfl
theorem c_wasThereN {x : St} {N : Nat} (hN : gi x 1 2 = n32 N) (h : N ≤ 24) (a t : Int32) : fX7_wasThereN x a t = some (bi (wn N x a t)) := by
  unfold fX7_wasThereN fX7_wasThereN_j36 wn
  rw [hN]
  by_cases h1 : a < 0
  · rw [if_pos h1, decide_eq_false (fun q => q.1 h1)]; rfl
  rw [if_neg h1]
  by_cases h2 : a < n32 N
  · have hi : inb a 60 := inb_of ⟨h1, h2⟩ (by omega) (by decide)
    rw [if_neg (by rw [nle_lt]; exact h2), gd_t hi, decide_eq_true ⟨h1, h2⟩]
    by_cases h3 : t < gi x 2 a.toNatClampNeg
    · rw [if_pos h3, decide_eq_false (fun q => q h3)]; rfl
    · rw [if_neg h3, gd_t hi, decide_eq_true h3]
      by_cases h4 : gi x 3 a.toNatClampNeg ≤ t
      · rw [if_pos h4, decide_eq_false (fun q => q h4)]; rfl
      · rw [if_neg h4, decide_eq_true h4]; rfl
  · rw [if_pos (by rw [← nlt_le]; exact h2), decide_eq_false (fun q => h2 q.2)]; rfl
theorem c_wasThereE {x : St} {E : Nat} (hE : gi x 10 2 = n32 E) (h : E ≤ 60) (a t : Int32) : fX7_wasThereE x a t = some (bi (we E x a t)) := by
  unfold fX7_wasThereE fX7_wasThereE_j36 we
  rw [hE]
  by_cases h1 : a < 0
  · rw [if_pos h1, decide_eq_false (fun q => q.1 h1)]; rfl
  rw [if_neg h1]
  by_cases h2 : a < n32 E
  · have hi : inb a 60 := inb_of ⟨h1, h2⟩ (by omega) (by decide)
    rw [if_neg (by rw [nle_lt]; exact h2), gd_t hi, decide_eq_true ⟨h1, h2⟩]
    by_cases h3 : t < gi x 11 a.toNatClampNeg
    · rw [if_pos h3, decide_eq_false (fun q => q h3)]; rfl
    · rw [if_neg h3, gd_t hi, decide_eq_true h3]
      by_cases h4 : gi x 12 a.toNatClampNeg ≤ t
      · rw [if_pos h4, decide_eq_false (fun q => q h4)]; rfl
      · rw [if_neg h4, decide_eq_true h4]; rfl
  · rw [if_pos (by rw [← nlt_le]; exact h2), decide_eq_false (fun q => h2 q.2)]; rfl
theorem r_wasThere {y : St} (b g t : Int32) : fX11_wasThere y b g t = some (bi (decide (¬ t < b) && decide (¬ g ≤ t))) := by
  unfold fX11_wasThere fX11_wasThere_j14
  by_cases h3 : t < b
  · rw [if_pos h3, decide_eq_false (fun q => q h3)]; rfl
  · rw [if_neg h3, decide_eq_true h3]
    by_cases h4 : g ≤ t
    · rw [if_pos h4, decide_eq_false (fun q => q h4)]; rfl
    · rw [if_neg h4, decide_eq_true h4]; rfl
/-- a counting loop: the place and the sum -/
theorem loop_cnt {step : Int32 × Int32 → Option ((Int32 × Int32) ⊕ (Int32 × Int32))} (N : Nat) (p : Nat → Bool) (hb : ∀ k a, k < N → a ≤ k → step (n32 a, n32 k) = some (.inl (n32 (if p k then a + 1 else a), n32 (k + 1)))) (he : ∀ a, a ≤ N → step (n32 a, n32 N) = some (.inr (n32 a, n32 N))) : loopF step (n32 0, n32 0) = some (n32 (cnt p N), n32 N) :=
  (loop_fold (step := step) N (fun a k => (n32 a, n32 k)) (fun k a => if p k then a + 1 else a) (fun k a => a ≤ k) (a0 := 0) (out := fun a => (n32 a, n32 N)) (Nat.le_refl _) (fun k a hk ha => ⟨hb k a hk ha, by show (if p k then a + 1 else a) ≤ k + 1; split <;> omega⟩) he).1
theorem c_countN {x : St} {N : Nat} (hN : gi x 1 2 = n32 N) (h : N ≤ 24) (t : Int32) : fX7_countAsOfN x t = some (n32 (cnt (fun k => wn N x (n32 k) t) N)) := by
  unfold fX7_countAsOfN
  rw [lit_0, loop_cnt N (fun k => wn N x (n32 k) t) (fun k a hk ha => ?_) (fun a ha => ?_)]
  · rfl
  · unfold fX7_countAsOfN_l4 fX7_countAsOfN_j24
    simp (disch := omega) only [eq_self, n_le, n_lt, n_inj, n_nat, gd_in, n_add, bi_z, bi_1, gd_bi, n_nonneg,  some_bind, lt_e, lit_NV, if_true, if_false, ite_true, ite_false, Option.bind_some, not_true, not_false_iff, lit_0, lit_1, lit_2, lit_3, lit_4, lit_5, lit_6, lit_7, lit_8, lit_12, lit_24, lit_25, lit_30, lit_60, lit_63, lit_96, lit_100, lit_512, lit_240, hN, c_wasThereN hN h, Nat.not_le.mpr hk]
    cases wn N x (n32 k) t <;> rfl
  · unfold fX7_countAsOfN_l4
    simp (disch := omega) only [eq_self, n_le, n_lt, n_inj, n_nat, gd_in, n_add, bi_z, bi_1, gd_bi, n_nonneg,  some_bind, lt_e, lit_NV, if_true, if_false, ite_true, ite_false, Option.bind_some, not_true, not_false_iff, lit_0, lit_1, lit_2, lit_3, lit_4, lit_5, lit_6, lit_7, lit_8, lit_12, lit_24, lit_25, lit_30, lit_60, lit_63, lit_96, lit_100, lit_512, lit_240, hN, Nat.le_refl]
theorem c_countE {x : St} {E : Nat} (hN : gi x 10 2 = n32 E) (h : E ≤ 60) (t : Int32) : fX7_countAsOfE x t = some (n32 (cnt (fun k => we E x (n32 k) t) E)) := by
  unfold fX7_countAsOfE
  rw [lit_0, loop_cnt E (fun k => we E x (n32 k) t) (fun k a hk ha => ?_) (fun a ha => ?_)]
  · rfl
  · unfold fX7_countAsOfE_l4 fX7_countAsOfE_j24
    simp (disch := omega) only [eq_self, n_le, n_lt, n_inj, n_nat, gd_in, n_add, bi_z, bi_1, gd_bi, n_nonneg,  some_bind, lt_e, lit_NV, if_true, if_false, ite_true, ite_false, Option.bind_some, not_true, not_false_iff, lit_0, lit_1, lit_2, lit_3, lit_4, lit_5, lit_6, lit_7, lit_8, lit_12, lit_24, lit_25, lit_30, lit_60, lit_63, lit_96, lit_100, lit_512, lit_240, hN, c_wasThereE hN h, Nat.not_le.mpr hk]
    cases we E x (n32 k) t <;> rfl
  · unfold fX7_countAsOfE_l4
    simp (disch := omega) only [eq_self, n_le, n_lt, n_inj, n_nat, gd_in, n_add, bi_z, bi_1, gd_bi, n_nonneg,  some_bind, lt_e, lit_NV, if_true, if_false, ite_true, ite_false, Option.bind_some, not_true, not_false_iff, lit_0, lit_1, lit_2, lit_3, lit_4, lit_5, lit_6, lit_7, lit_8, lit_12, lit_24, lit_25, lit_30, lit_60, lit_63, lit_96, lit_100, lit_512, lit_240, hN, Nat.le_refl]
/-- how many nodes are on the machine m -/
def ld (N : Nat) (x : St) (m : Int32) : Nat := cnt (fun k => lv x k && decide (gi x 21 k = m)) N
theorem ld_le (N : Nat) (x : St) (m : Int32) : ld N x m ≤ N := cnt_le _ _
theorem c_load {x : St} {N : Nat} (hN : gi x 1 2 = n32 N) (h : N ≤ 24) (m : Int32) : fX3_load x m = some (n32 (ld N x m)) := by
  unfold fX3_load ld
  rw [lit_0, loop_cnt N (fun k => lv x k && decide (gi x 21 k = m)) (fun k a hk ha => ?_) (fun a ha => ?_)]
  · rfl
  · unfold fX3_load_l4 fX3_load_j39
    simp (disch := omega) only [eq_self, n_le, n_lt, n_inj, n_nat, gd_in, n_add, bi_z, bi_1, gd_bi, n_nonneg,  some_bind, lt_e, lit_NV, if_true, if_false, ite_true, ite_false, Option.bind_some, not_true, not_false_iff, lit_0, lit_1, lit_2, lit_3, lit_4, lit_5, lit_6, lit_7, lit_8, lit_12, lit_24, lit_25, lit_30, lit_60, lit_63, lit_96, lit_100, lit_512, lit_240, hN, c_isThereN hN h, nd_n h hk, Nat.not_le.mpr hk]
    cases h1 : lv x k <;> by_cases h2 : gi x 21 k = m <;> simp [h2]
  · unfold fX3_load_l4
    simp (disch := omega) only [eq_self, n_le, n_lt, n_inj, n_nat, gd_in, n_add, bi_z, bi_1, gd_bi, n_nonneg,  some_bind, lt_e, lit_NV, if_true, if_false, ite_true, ite_false, Option.bind_some, not_true, not_false_iff, lit_0, lit_1, lit_2, lit_3, lit_4, lit_5, lit_6, lit_7, lit_8, lit_12, lit_24, lit_25, lit_30, lit_60, lit_63, lit_96, lit_100, lit_512, lit_240, hN, Nat.le_refl]
theorem r_nodesOn {x y : St} {N : Nat} (hR : RN N x y) (hm : ∀ k, gi y 3 k = gi x 21 k) (m : Int32) : fX11_nodesOn y m = some (n32 (ld N x m)) := by
  obtain ⟨h, -, hN, -⟩ := id hR
  unfold fX11_nodesOn ld
  rw [lit_0, loop_cnt N (fun k => lv x k && decide (gi x 21 k = m)) (fun k a hk ha => ?_) (fun a ha => ?_)]
  · rfl
  · unfold fX11_nodesOn_l4 fX11_nodesOn_j36 fX11_nodesOn_j35 fX11_nodesOn_j36
    simp (disch := omega) only [eq_self, n_le, n_lt, n_inj, n_nat, gd_in, n_add, bi_z, bi_1, gd_bi, n_nonneg,  some_bind, lt_e, lit_NV, if_true, if_false, ite_true, ite_false, Option.bind_some, not_true, not_false_iff, lit_0, lit_1, lit_2, lit_3, lit_4, lit_5, lit_6, lit_7, lit_8, lit_12, lit_24, lit_25, lit_30, lit_60, lit_63, lit_96, lit_100, lit_512, lit_240, hN, r_isNode hR, nd_n h hk, Nat.not_le.mpr hk, hm]
    cases h1 : lv x k <;> by_cases h2 : gi x 21 k = m <;> simp [h2]
  · unfold fX11_nodesOn_l4
    simp (disch := omega) only [eq_self, n_le, n_lt, n_inj, n_nat, gd_in, n_add, bi_z, bi_1, gd_bi, n_nonneg,  some_bind, lt_e, lit_NV, if_true, if_false, ite_true, ite_false, Option.bind_some, not_true, not_false_iff, lit_0, lit_1, lit_2, lit_3, lit_4, lit_5, lit_6, lit_7, lit_8, lit_12, lit_24, lit_25, lit_30, lit_60, lit_63, lit_96, lit_100, lit_512, lit_240, hN, Nat.le_refl]
