theorem m1_toInt : (-n32 1 : Int32).toInt = -1 := by decide
theorem r_isInM {y : St} (a : Int32) : fX11_isIn y a (-n32 1) (n32 3) = some (bi (decide (a = -n32 1) || bw 4 a)) := by
  have k1 : (a < -n32 1) = (a.toInt < -1) := by rw [eq_iff_iff, Int32.lt_iff_toInt_lt, m1_toInt]
  have k2 : (n32 3 < a) = (3 < a.toInt) := by rw [eq_iff_iff, Int32.lt_iff_toInt_lt, n_toInt (by decide)]; omega
  have k3 : (a = -n32 1) = (a.toInt = -1) := by rw [eq_iff_iff, ← Int32.toInt_inj, m1_toInt]
  have k4 : bw 4 a = decide (0 ≤ a.toInt ∧ a.toInt < 4) := by
    unfold bw
    rw [decide_eq_decide, Int32.lt_iff_toInt_lt, Int32.lt_iff_toInt_lt, n_toInt (by decide)]
    have : (0 : Int32).toInt = 0 := rfl
    rw [this]
    omega
  unfold fX11_isIn fX11_isIn_j14
  simp only [k1, k2, k3, k4]
  by_cases q1 : a.toInt < -1
  · rw [if_pos q1, decide_eq_false (by omega), decide_eq_false (by omega)]; rfl
  · rw [if_neg q1]
    by_cases q2 : 3 < a.toInt
    · rw [if_pos q2, decide_eq_false (by omega), decide_eq_false (by omega)]; rfl
    · rw [if_neg q2]
      by_cases q3 : a.toInt = -1
      · rw [decide_eq_true q3]; rfl
      · rw [decide_eq_true (show 0 ≤ a.toInt ∧ a.toInt < 4 by omega), Bool.or_true]; rfl
/-- an edge with the label l that is not of this shape -/
def shd (x : St) (l : Nat) (a b : Int32) (k : Nat) : Bool := le x k && (decide (kl x k = l) && !(decide (gi x 4 (fr x k) = a) && decide (gi x 4 (tt x k) = b)))
theorem c_areShaped {N E : Nat} {x y : St} (hN : N ≤ 24) (h : RE N E x y) (l : Nat) (hl : l < 4) (a b : Int32) : fX10_areShaped x (n32 l) a b = some (bi !((List.range E).any (shd x l a b))) := by
  have hE := h.1
  have hc := h.2.1
  have e := loop_any (step := fX10_areShaped_l3 x (n32 l) a b) E n32 (shd x l a b) (r := .inr (n32 0)) (e := .inl (n32 E)) (fun k hk => by
      obtain ⟨q1, q2, q3, q4, q5, q6⟩ := RE_at h hN hk
      unfold fX10_areShaped_l3 fX10_areShaped_j85 fX10_areShaped_j87 shd
      simp (disch := omega) only [eq_self, n_le, n_lt, n_inj, n_nat, gd_in, n_add, bi_z, bi_1, gd_bi, n_nonneg,  some_bind, lt_e, lit_NV, if_true, if_false, ite_true, ite_false, Option.bind_some, not_true, not_false_iff, lit_0, lit_1, lit_2, lit_3, lit_4, lit_5, lit_6, lit_7, lit_8, lit_12, lit_24, lit_25, lit_30, lit_60, lit_63, lit_96, lit_100, lit_512, lit_240, hc, Nat.not_le.mpr hk, c_isThereE hc hE, ed_n hE hk, q1, q2, q3]
      cases le x k <;> by_cases z1 : kl x k = l <;> by_cases z2 : gi x 4 (fr x k) = a <;> by_cases z3 : gi x 4 (tt x k) = b <;> simp [z1, z2, z3])
    (by
      unfold fX10_areShaped_l3
      simp (disch := omega) only [eq_self, n_le, n_lt, n_inj, n_nat, gd_in, n_add, bi_z, bi_1, gd_bi, n_nonneg,  some_bind, lt_e, lit_NV, if_true, if_false, ite_true, ite_false, Option.bind_some, not_true, not_false_iff, lit_0, lit_1, lit_2, lit_3, lit_4, lit_5, lit_6, lit_7, lit_8, lit_12, lit_24, lit_25, lit_30, lit_60, lit_63, lit_96, lit_100, lit_512, lit_240, hc, Nat.le_refl])
  have e : loopF (fX10_areShaped_l3 x (n32 l) a b) 0 = _ := e
  unfold fX10_areShaped
  rw [e]
  cases (List.range E).any (shd x l a b) <;> rfl
theorem r_shapeLoop {N E : Nat} {x y : St} (h2 : RN N x y) (h : RE N E x y) (l : Nat) (hl : l < 4) (a b : Int32) (ha : a ≠ -n32 1) : loopF (fX11_shape_l41 y (n32 l) a b (n32 1)) (n32 1, n32 0) = some (bi !((List.range E).any (shd x l a b)), n32 E) := by
  have hN := h2.1
  have hE := h.1
  obtain ⟨-, -, hc, g1, g2, g3, -⟩ := id h
  have g4 := h2.2.2.2.1
  have := loopF_seq (step := fX11_shape_l41 y (n32 l) a b (n32 1)) (fun k => (bi (!(List.range k).any (shd x l a b)), n32 k)) E (fun k hk => by
      show fX11_shape_l41 y (n32 l) a b (n32 1) (bi (!(List.range k).any (shd x l a b)), n32 k) = some (.inl (bi (!(List.range (k + 1)).any (shd x l a b)), n32 (k + 1)))
      rw [any_succ, Bool.not_or]
      generalize (!(List.range k).any (shd x l a b)) = d
      obtain ⟨q1, q2, q3, q4, q5, q6⟩ := RE_at h hN hk
      unfold fX11_shape_l41 fX11_shape_j117 fX11_shape_j121 fX11_shape_j122 shd
      simp (disch := omega) only [eq_self, n_le, n_lt, n_inj, n_nat, gd_in, n_add, bi_z, bi_1, gd_bi, n_nonneg,  some_bind, lt_e, lit_NV, if_true, if_false, ite_true, ite_false, Option.bind_some, not_true, not_false_iff, lit_0, lit_1, lit_2, lit_3, lit_4, lit_5, lit_6, lit_7, lit_8, lit_12, lit_24, lit_25, lit_30, lit_60, lit_63, lit_96, lit_100, lit_512, lit_240, hc, Nat.not_le.mpr hk, ha, Nat.one_ne_zero, r_isEdge h, ed_n hE hk, g1, g2, g3, g4, q1, q2, q3]
      cases d
      · simp [bi]
      · cases le x k <;> by_cases z1 : kl x k = l <;> by_cases z2 : gi x 4 (fr x k) = a <;> by_cases z3 : gi x 4 (tt x k) = b <;> simp [z1, z2, z3, bi])
    (e := (bi (!(List.range E).any (shd x l a b)), n32 E)) (by
      unfold fX11_shape_l41
      simp (disch := omega) only [eq_self, n_le, n_lt, n_inj, n_nat, gd_in, n_add, bi_z, bi_1, gd_bi, n_nonneg,  some_bind, lt_e, lit_NV, if_true, if_false, ite_true, ite_false, Option.bind_some, not_true, not_false_iff, lit_0, lit_1, lit_2, lit_3, lit_4, lit_5, lit_6, lit_7, lit_8, lit_12, lit_24, lit_25, lit_30, lit_60, lit_63, lit_96, lit_100, lit_512, lit_240, hc, Nat.le_refl])
  exact this
theorem r_shapeOut {y : St} (a b d t : Int32) (ht : t = n32 0 ∨ b = -n32 1) : loopF (fX11_shape_l41 y a b d t) (n32 1, n32 0) = some (n32 1, n32 0) := by
  refine loopF_end ?_
  unfold fX11_shape_l41
  rcases ht with rfl | rfl
  · simp (disch := omega) only [eq_self, n_le, n_lt, n_inj, n_nat, gd_in, n_add, bi_z, bi_1, gd_bi, n_nonneg,  some_bind, lt_e, lit_NV, if_true, if_false, ite_true, ite_false, Option.bind_some, not_true, not_false_iff, lit_0, lit_1, lit_2, lit_3, lit_4, lit_5, lit_6, lit_7, lit_8, lit_12, lit_24, lit_25, lit_30, lit_60, lit_63, lit_96, lit_100, lit_512, lit_240]
    simp
  · simp (disch := omega) only [eq_self, n_le, n_lt, n_inj, n_nat, gd_in, n_add, bi_z, bi_1, gd_bi, n_nonneg,  some_bind, lt_e, lit_NV, if_true, if_false, ite_true, ite_false, Option.bind_some, not_true, not_false_iff, lit_0, lit_1, lit_2, lit_3, lit_4, lit_5, lit_6, lit_7, lit_8, lit_12, lit_24, lit_25, lit_30, lit_60, lit_63, lit_96, lit_100, lit_512, lit_240]
    simp
theorem owes_6 : owes fLaw_c6 := fun c x y v p1 p2 p3 p4 h hc => by
  obtain ⟨N, E, T, P, R, h1, -, h2, h3, h4, h5, h6, h7, h8, h9, h10, h11, h12, h13, h14, h15⟩ := id h
  refine law_V (Q := fun x' y' => Rel (c + 1) x' y') ?_
  have lout : ∀ z b d, loopF (fX11_shape_l41 z p1 b d (n32 0)) (n32 1, n32 0) = some (n32 1, n32 0) := fun z b d => r_shapeOut p1 b d _ (Or.inl rfl)
  unfold fL_shape fX10_shape fX11_shape fX11_shape_j32 fX11_shape_j28 fX11_shape_j33 fX11_shape_j150
  have hm : ∀ z, fX11_isIn z p2 (-1) 3 = some (bi (decide (p2 = -n32 1) || bw 4 p2)) := fun z => r_isInM p2
  rw [c_reqLabel, r_isLabel, hm]
  have bad : ∀ (z : Option (Int32 × LX)), z = some (1, x, v) → agV z ((loopF (fX11_shape_l41 y p1 p2 p3 (0 : Int32)) ((1 : Int32), (0 : Int32))).bind fun x17 => if (0 : Int32) = 0 then (fX11_fails y 1).bind fun v20 => if v20.1 = 0 then gd (inb p1 4) (lt (ui v20.2 19 p1.toNatClampNeg p2) fun σ23 => gd (inb p1 4) (lt (ui σ23 20 p1.toNatClampNeg p3) fun σ25 => some σ25)) else some v20.2 else if x17.1 = 0 then (fX11_fails y 2).bind fun v20 => if v20.1 = 0 then gd (inb p1 4) (lt (ui v20.2 19 p1.toNatClampNeg p2) fun σ23 => gd (inb p1 4) (lt (ui σ23 20 p1.toNatClampNeg p3) fun σ25 => some σ25)) else some v20.2 else (fX11_fails y 0).bind fun v20 => if v20.1 = 0 then gd (inb p1 4) (lt (ui v20.2 19 p1.toNatClampNeg p2) fun σ23 => gd (inb p1 4) (lt (ui σ23 20 p1.toNatClampNeg p3) fun σ25 => some σ25)) else some v20.2) (fun x' y' => Rel (c + 1) x' y') := fun z hz => by
    refine ⟨1, x, v, th y 1, hz, ?_, rfl, Rel_th h hc 1⟩
    have := lout y p2 p3
    have this : loopF (fX11_shape_l41 y p1 p2 p3 0) (1, 0) = some (n32 1, n32 0) := this
    rw [this]
    rfl
  cases w1 : bw 4 p1
  · exact bad _ rfl
  obtain ⟨l, hl, rfl⟩ := bw_ex (by decide) w1
  by_cases q2 : p2 = -n32 1
  · subst q2
    refine ⟨0, ui x 18 l (-n32 1), v, ui (ui (th y 0) 19 l (-n32 1)) 20 l p3, ?_, ?_, rfl, ?_⟩
    · simp (disch := omega) only [eq_self, n_le, n_lt, n_inj, n_nat, gd_in, n_add, bi_z, bi_1, gd_bi, n_nonneg,  some_bind, lt_e, lit_NV, if_true, if_false, ite_true, ite_false, Option.bind_some, not_true, not_false_iff, lit_0, lit_1, lit_2, lit_3, lit_4, lit_5, lit_6, lit_7, lit_8, lit_12, lit_24, lit_25, lit_30, lit_60, lit_63, lit_96, lit_100, lit_512, lit_240, Sum.elim_inl]
    · have := r_shapeOut (y := y) (n32 l) (-n32 1) p3 (n32 1) (Or.inr rfl)
      simp (disch := omega) only [eq_self, n_le, n_lt, n_inj, n_nat, gd_in, n_add, bi_z, bi_1, gd_bi, n_nonneg,  some_bind, lt_e, lit_NV, if_true, if_false, ite_true, ite_false, Option.bind_some, not_true, not_false_iff, lit_0, lit_1, lit_2, lit_3, lit_4, lit_5, lit_6, lit_7, lit_8, lit_12, lit_24, lit_25, lit_30, lit_60, lit_63, lit_96, lit_100, lit_512, lit_240, Bool.true_eq_false, decide_true, Bool.true_or, this, Nat.one_ne_zero, r_fails0]
    · refine Rel_W h hc (fun a k q => gi_no (by omega)) (fun _ _ => rfl) (fun a k q => by rw [gi_no (by omega), gi_no (by omega), th_ne (by omega)]) (fun hW => ?_) (fun M hM hQ => RQ_fr (fun a k q => gi_no (by omega)) hQ)
      obtain ⟨z1, z2, z3⟩ := hW
      refine ⟨fun j hj => ?_, fun j => ?_, fun j hj => ?_⟩
      · rw [gi_no (by omega), gi_no (by omega), gi_no (by omega), th_ne (by omega)]
        exact z1 j hj
      · rw [gi_no (by omega)]
        by_cases e : j = l
        · rw [gi_yes ⟨rfl, e⟩, gi_yes ⟨rfl, e⟩]
        · rw [gi_no (by omega), gi_no (by omega), th_ne (by omega), z2]
      · by_cases e : j = l
        · rw [gi_yes ⟨rfl, e⟩] at hj
          exact absurd rfl hj
        · rw [gi_no (by omega)] at hj
          rw [gi_no (by omega), gi_no (by omega), gi_no (by omega), th_ne (by omega)]
          exact z3 j hj
  · cases w2 : bw 4 p2
    · rw [decide_eq_false q2, Bool.false_or]
      refine bad _ ?_
      simp (disch := omega) only [eq_self, n_le, n_lt, n_inj, n_nat, gd_in, n_add, bi_z, bi_1, gd_bi, n_nonneg,  some_bind, lt_e, lit_NV, if_true, if_false, ite_true, ite_false, Option.bind_some, not_true, not_false_iff, lit_0, lit_1, lit_2, lit_3, lit_4, lit_5, lit_6, lit_7, lit_8, lit_12, lit_24, lit_25, lit_30, lit_60, lit_63, lit_96, lit_100, lit_512, lit_240, Sum.elim_inl, q2, c_reqLabel, w2]
      rfl
    · cases w3 : bw 4 p3
      · rw [decide_eq_false q2, Bool.false_or, r_isLabel, w3]
        have bad := bad (some (1, x, v)) rfl
        obtain ⟨c9, x9, v9, y9, e1, e2, e3, e4⟩ := bad
        refine ⟨c9, x9, v9, y9, ?_, ?_, e3, e4⟩
        · rw [← e1]
          simp (disch := omega) only [eq_self, n_le, n_lt, n_inj, n_nat, gd_in, n_add, bi_z, bi_1, gd_bi, n_nonneg,  some_bind, lt_e, lit_NV, if_true, if_false, ite_true, ite_false, Option.bind_some, not_true, not_false_iff, lit_0, lit_1, lit_2, lit_3, lit_4, lit_5, lit_6, lit_7, lit_8, lit_12, lit_24, lit_25, lit_30, lit_60, lit_63, lit_96, lit_100, lit_512, lit_240, Sum.elim_inl, q2, c_reqLabel, w2, w3]
          rfl
        · rw [← e2]
          have q2' : ¬ p2 = -1 := q2
          simp only [some_bind, bi_z0, Bool.true_eq_false, if_false, if_true, q2']
      · obtain ⟨a, ha, rfl⟩ := bw_ex (by decide) w2
        obtain ⟨b, hb, rfl⟩ := bw_ex (by decide) w3
        have hcs := c_areShaped h2.1 h3 l hl (n32 a) (n32 b)
        have hrs := r_shapeLoop h2 h3 l hl (n32 a) (n32 b) q2
        rw [decide_eq_false q2, Bool.false_or]
        cases hs9 : (List.range E).any (shd x l (n32 a) (n32 b))
        · rw [hs9] at hcs hrs
          refine ⟨0, ui (ui x 18 l (n32 a)) 19 l (n32 b), v, ui (ui (th y 0) 19 l (n32 a)) 20 l (n32 b), ?_, ?_, rfl, ?_⟩
          · simp (disch := omega) only [eq_self, n_le, n_lt, n_inj, n_nat, gd_in, n_add, bi_z, bi_1, gd_bi, n_nonneg,  some_bind, lt_e, lit_NV, if_true, if_false, ite_true, ite_false, Option.bind_some, not_true, not_false_iff, lit_0, lit_1, lit_2, lit_3, lit_4, lit_5, lit_6, lit_7, lit_8, lit_12, lit_24, lit_25, lit_30, lit_60, lit_63, lit_96, lit_100, lit_512, lit_240, Sum.elim_inl, q2, c_reqLabel, w2, w3, hcs, Bool.not_false, Bool.true_eq_false]
          · have q2' : ¬ n32 a = -1 := q2
            simp (disch := omega) only [eq_self, n_le, n_lt, n_inj, n_nat, gd_in, n_add, bi_z, bi_1, gd_bi, n_nonneg,  some_bind, lt_e, lit_NV, if_true, if_false, ite_true, ite_false, Option.bind_some, not_true, not_false_iff, lit_0, lit_1, lit_2, lit_3, lit_4, lit_5, lit_6, lit_7, lit_8, lit_12, lit_24, lit_25, lit_30, lit_60, lit_63, lit_96, lit_100, lit_512, lit_240, Bool.true_eq_false, q2, r_isLabel, w3, hrs, Bool.not_false, Nat.one_ne_zero, r_fails0]
          · refine Rel_W h hc (fun a k q => by rw [gi_no (by omega), gi_no (by omega)]) (fun _ _ => rfl) (fun a k q => by rw [gi_no (by omega), gi_no (by omega), th_ne (by omega)]) (fun hW => ?_) (fun M hM hQ => RQ_fr (fun a k q => by rw [gi_no (by omega), gi_no (by omega)]) hQ)
            obtain ⟨z1, z2, z3⟩ := hW
            refine ⟨fun j hj => ?_, fun j => ?_, fun j hj => ?_⟩
            · rw [gi_no (by omega), gi_no (by omega), gi_no (by omega), gi_no (by omega), th_ne (by omega)]
              exact z1 j hj
            · rw [gi_no (a := 20) (by omega), gi_no (a := 19) (b := 18) (by omega)]
              by_cases e : j = l
              · rw [gi_yes ⟨rfl, e⟩, gi_yes ⟨rfl, e⟩]
              · rw [gi_no (by omega), gi_no (by omega), th_ne (by omega), z2]
            · by_cases e : j = l
              · rw [gi_yes ⟨rfl, e⟩, gi_yes ⟨rfl, e⟩]
              · rw [gi_no (by omega), gi_no (by omega)] at hj
                rw [gi_no (by omega), gi_no (by omega), gi_no (by omega), gi_no (by omega), th_ne (by omega)]
                exact z3 j hj
        · rw [hs9] at hcs hrs
          refine ⟨2, x, v, th y 2, ?_, ?_, rfl, Rel_th h hc 2⟩
          · simp (disch := omega) only [eq_self, n_le, n_lt, n_inj, n_nat, gd_in, n_add, bi_z, bi_1, gd_bi, n_nonneg,  some_bind, lt_e, lit_NV, if_true, if_false, ite_true, ite_false, Option.bind_some, not_true, not_false_iff, lit_0, lit_1, lit_2, lit_3, lit_4, lit_5, lit_6, lit_7, lit_8, lit_12, lit_24, lit_25, lit_30, lit_60, lit_63, lit_96, lit_100, lit_512, lit_240, Sum.elim_inl, q2, c_reqLabel, w2, w3, hcs, Bool.not_true]
            rfl
          · simp (disch := omega) only [eq_self, n_le, n_lt, n_inj, n_nat, gd_in, n_add, bi_z, bi_1, gd_bi, n_nonneg,  some_bind, lt_e, lit_NV, if_true, if_false, ite_true, ite_false, Option.bind_some, not_true, not_false_iff, lit_0, lit_1, lit_2, lit_3, lit_4, lit_5, lit_6, lit_7, lit_8, lit_12, lit_24, lit_25, lit_30, lit_60, lit_63, lit_96, lit_100, lit_512, lit_240, Bool.true_eq_false, q2, r_isLabel, w3, hrs, Bool.not_true, Nat.one_ne_zero, r_fails2]
