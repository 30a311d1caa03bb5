/-! ### transactions -/
def op (x : St) (u : Nat) : Bool := decide (gi x (57 + 5 * u) 4 = n32 1)
theorem RX_op {N E u : Nat} {x y : St} (h : RX N E x y u) : gi x (57 + 5 * u) 4 = bi (op x u) ∧ gi y 22 u = bi (op x u) := by
  obtain ⟨⟨b, h1, h2⟩, -⟩ := h
  have : op x u = b := by
    unfold op
    rw [h1]
    cases b <;> decide
  rw [this]
  exact ⟨h1, h2⟩
/-- an int is an open transaction -/
def tx (x : St) (a : Int32) : Bool := bw 4 a && op x a.toNatClampNeg
theorem tx_ex {x : St} {a : Int32} (h : tx x a = true) : ∃ u, u < 4 ∧ a = n32 u ∧ op x u = true := by
  unfold tx at h
  simp only [Bool.and_eq_true] at h
  obtain ⟨u, h1, rfl⟩ := bw_ex (by decide) h.1
  have := h.2
  rw [n_nat (by omega)] at this
  exact ⟨u, h1, rfl, this⟩
theorem c_reqTx {N E : Nat} {x y : St} (hX : ∀ u, u < 4 → RX N E x y u) (a : Int32) : fX10_requireTransaction x a = some (if tx x a then .inl () else .inr 0) := by
  unfold fX10_requireTransaction fX10_requireTransaction_j21 tx
  cases h : bw 4 a
  · unfold bw at h
    by_cases h1 : a < 0
    · rw [if_pos h1]; rfl
    · rw [if_neg h1]
      by_cases h2 : a < n32 4
      · rw [decide_eq_true ⟨h1, h2⟩] at h; cases h
      · rw [if_pos (by rw [← nlt_le]; exact h2)]; rfl
  · obtain ⟨u, hu, rfl⟩ := bw_ex (by decide) h
    simp (disch := omega) only [eq_self, n_le, n_lt, n_inj, n_nat, gd_in, n_add, bi_z, bi_1, gd_bi, n_nonneg,  some_bind, lt_e, lit_NV, if_true, if_false, ite_true, ite_false, Option.bind_some, not_true, not_false_iff, lit_0, lit_1, lit_2, lit_3, lit_4, lit_5, lit_6, lit_7, lit_8, lit_12, lit_24, lit_25, lit_30, lit_60, lit_63, lit_96, lit_100, lit_512, lit_240, (RX_op (hX u hu)).1, Nat.not_le.mpr hu]
    rw [if_neg (Nat.not_lt_zero _)]
    cases op x u <;> rfl
theorem r_isTx {N E : Nat} {x y : St} (hX : ∀ u, u < 4 → RX N E x y u) (a : Int32) : fX11_isTransaction y a = some (bi (tx x a)) := by
  unfold fX11_isTransaction fX11_isTransaction_j22 tx
  rw [show fX11_isIn y a 0 3 = _ from r_isIn (y := y) (a := a) (n := 4) (by decide), some_bind]
  show (if bi (bw 4 a) = 0 then _ else _) = _
  cases h : bw 4 a
  · rfl
  · obtain ⟨u, hu, rfl⟩ := bw_ex (by decide) h
    simp (disch := omega) only [eq_self, n_le, n_lt, n_inj, n_nat, gd_in, n_add, bi_z, bi_1, gd_bi, n_nonneg,  some_bind, lt_e, lit_NV, if_true, if_false, ite_true, ite_false, Option.bind_some, not_true, not_false_iff, lit_0, lit_1, lit_2, lit_3, lit_4, lit_5, lit_6, lit_7, lit_8, lit_12, lit_24, lit_25, lit_30, lit_60, lit_63, lit_96, lit_100, lit_512, lit_240, (RX_op (hX u hu)).2, Bool.true_eq_false]
    cases op x u <;> rfl
/-- what a transaction sees of a node -/
def sn (N : Nat) (x : St) (a b : Int32) : Bool := tx x a && wn N x b (gi x (57 + 5 * a.toNatClampNeg) 5)
theorem c_reqSeen {N E : Nat} {x y : St} (hR : RN N x y) (hX : ∀ u, u < 4 → RX N E x y u) (a b : Int32) : fX10_requireSeen x a b = some (if sn N x a b then .inl () else .inr 0) := by
  unfold fX10_requireSeen sn
  rw [c_reqTx hX, some_bind]
  cases h : tx x a
  · rfl
  · obtain ⟨u, hu, rfl, -⟩ := tx_ex h
    simp (disch := omega) only [eq_self, n_le, n_lt, n_inj, n_nat, gd_in, n_add, bi_z, bi_1, gd_bi, n_nonneg,  some_bind, lt_e, lit_NV, if_true, if_false, ite_true, ite_false, Option.bind_some, not_true, not_false_iff, lit_0, lit_1, lit_2, lit_3, lit_4, lit_5, lit_6, lit_7, lit_8, lit_12, lit_24, lit_25, lit_30, lit_60, lit_63, lit_96, lit_100, lit_512, lit_240, Sum.elim_inl, c_wasThereN hR.2.1 hR.1]
    cases wn N x b (gi x (57 + 5 * u) 5) <;> rfl
theorem r_seesNode {N E : Nat} {x y : St} (hR : RN N x y) (hX : ∀ u, u < 4 → RX N E x y u) (a b : Int32) : fX11_seesNode y a b = some (bi (sn N x a b)) := by
  obtain ⟨hN, -, hcr, -, -, hbo, hgo, -⟩ := id hR
  unfold fX11_seesNode fX11_seesNode_j50 sn
  rw [r_isTx hX, some_bind]
  cases h : tx x a
  · rfl
  · obtain ⟨u, hu, rfl, -⟩ := tx_ex h
    simp (disch := omega) only [eq_self, n_le, n_lt, n_inj, n_nat, gd_in, n_add, bi_z, bi_1, gd_bi, n_nonneg,  some_bind, lt_e, lit_NV, if_true, if_false, ite_true, ite_false, Option.bind_some, not_true, not_false_iff, lit_0, lit_1, lit_2, lit_3, lit_4, lit_5, lit_6, lit_7, lit_8, lit_12, lit_24, lit_25, lit_30, lit_60, lit_63, lit_96, lit_100, lit_512, lit_240, hcr, show fX11_isIn y b (n32 0) (n32 N - n32 1) = some (bi (bw N b)) from r_isIn (y := y) (a := b) (n := N) (by omega), (hX u hu).2.1, Bool.true_eq_false]
    cases h2 : bw N b
    · have hw : ∀ t, wn N x b t = false := fun t => by
        unfold wn
        unfold bw at h2
        rw [h2]; rfl
      rw [hw]
      rfl
    · obtain ⟨k, hk, rfl⟩ := bw_ex (by omega) h2
      have hwn : ∀ t, wn N x (n32 k) t = (decide (¬ t < gi x 2 k) && decide (¬ gi x 3 k ≤ t)) := fun t => by
        unfold wn
        unfold bw at h2
        rw [h2, n_nat (by omega), Bool.true_and]
      simp (disch := omega) only [eq_self, n_le, n_lt, n_inj, n_nat, gd_in, n_add, bi_z, bi_1, gd_bi, n_nonneg,  some_bind, lt_e, lit_NV, if_true, if_false, ite_true, ite_false, Option.bind_some, not_true, not_false_iff, lit_0, lit_1, lit_2, lit_3, lit_4, lit_5, lit_6, lit_7, lit_8, lit_12, lit_24, lit_25, lit_30, lit_60, lit_63, lit_96, lit_100, lit_512, lit_240, hbo, hgo, r_wasThere, Bool.true_eq_false, ← hwn]
      cases wn N x (n32 k) (gi x (57 + 5 * u) 5) <;> rfl
theorem sn_ex {N : Nat} {x : St} {a b : Int32} (hN : N ≤ 24) (h : sn N x a b = true) : ∃ u k, u < 4 ∧ k < N ∧ a = n32 u ∧ b = n32 k ∧ op x u = true ∧ wn N x (n32 k) (gi x (57 + 5 * u) 5) = true := by
  unfold sn at h
  simp only [Bool.and_eq_true] at h
  obtain ⟨u, hu, rfl, ho⟩ := tx_ex h.1
  have h2 := h.2
  rw [n_nat (by omega)] at h2
  have h3 := h2
  unfold wn at h3
  simp only [Bool.and_eq_true, decide_eq_true_eq] at h3
  obtain ⟨k, hk, rfl⟩ := n_below (by omega) h3.1
  exact ⟨u, k, hu, hk, rfl, rfl, ho, h2⟩
