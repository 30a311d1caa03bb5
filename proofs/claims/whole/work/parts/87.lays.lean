/-! ### the reference's relations, block by block -/
theorem lit_48 : (48 : Int32) = n32 48 := rfl
theorem lit_288 : (288 : Int32) = n32 288 := rfl
def FLy (y y' : St) : Prop := ∀ a j, a ≠ 42 → gi y' a j = gi y a j
theorem FLy.up {x z : St} {k : Nat} {v : Int32} (h : FLy x z) : FLy x (ui z 42 k v) := fun b j hb => by rw [gi_no (by omega)]; exact h b j hb
/-- the block p of the stack holds a vector -/
def BWk (z : St) (p : Nat) (v : Nat → Int32) : Prop := ∀ n, n < 24 → gi z 42 (24 * p + n) = v n
/-- outside of the block p nothing is changed -/
def OB (p : Nat) (z z' : St) : Prop := ∀ a j, ¬ (a = 42 ∧ 24 * p ≤ j ∧ j < 24 * p + 24) → gi z' a j = gi z a j
theorem OB.rf (p : Nat) (z : St) : OB p z z := fun _ _ _ => rfl
theorem OB.tr {p : Nat} {x y z : St} (h1 : OB p x y) (h2 : OB p y z) : OB p x z := fun a j h => (h2 a j h).trans (h1 a j h)
theorem OB.up {p n : Nat} {v : Int32} {x z : St} (h : OB p x z) (hn : n < 24) : OB p x (ui z 42 (24 * p + n) v) := fun a j q => by
  rw [gi_no (by omega)]
  exact h a j q
theorem OB_BWk {p p' : Nat} {z z' : St} {v : Nat → Int32} (h : OB p z z') (hp : p' ≠ p) (hb : BWk z p' v) : BWk z' p' v := fun n hn => by
  rw [h _ _ (by omega)]
  exact hb n hn
section LAYS
variable {N u c h : Nat} {x y z : St} {K : Nat → Nat → Int32} {W : Int32}
theorem r_joins {p q : Nat} {va vb : Nat → Int32} (hp : p < 11) (ha : BWk z p va) (hb : BWk z (p + 1) vb) (hq : q = 3 ∨ q = 4) : ∃ z', fX11_joins z (n32 q) (n32 (24 * p)) = some z' ∧ OB p z z' ∧ BWk z' p (fun n => if q = 3 then gat (hs (va n)) vb 24 else va n ||| vb n) := by
  obtain ⟨z', e, f1, f2, f3⟩ := loop_st (step := fX11_joins_l2 z (n32 q) (n32 (24 * p))) 24 (fun n w => OB p z w ∧ (∀ m, n ≤ m → m < 24 → gi w 42 (24 * p + m) = va m) ∧ ∀ m, m < n → gi w 42 (24 * p + m) = if q = 3 then gat (hs (va m)) vb 24 else va m ||| vb m) (x0 := z) ⟨OB.rf p z, fun m _ hm => ha m hm, fun m hm => absurd hm (Nat.not_lt_zero m)⟩ (fun n w hn hw => by
      obtain ⟨w1, w2, w3⟩ := hw
      have c1 : gi w 42 (24 * p + n) = va n := w2 n (Nat.le_refl n) hn
      have c2 : ∀ m, m < 24 → gi w 42 (24 * p + 24 + m) = vb m := fun m hm => by
        rw [w1 _ _ (by omega), show 24 * p + 24 + m = 24 * (p + 1) + m by omega]
        exact hb m hm
      have i1 : 24 * p + n < 288 := by omega
      have i2 : ∀ m, m < 24 → 24 * p + 24 + m < 288 := fun m hm => by omega
      have e1 : loopF (fX11_joins_l41 w (n32 q) (n32 (24 * p)) (n32 n)) (n32 0, n32 0) = some (gat (hs (va n)) vb 24, n32 24) := by
        refine loop_gat 24 (hs (va n)) vb (fun m s hm => ?_) (fun s => ?_)
        · have i3 := i2 m hm
          unfold fX11_joins_l41 fX11_joins_j82
          simp (disch := omega) only [eq_self, n_le, n_lt, n_inj, n_nat, gd_in, n_add, bi_z, bi_1, gd_bi, n_nonneg,  some_bind, lt_e, lit_NV, if_true, if_false, ite_true, ite_false, Option.bind_some, not_true, not_false_iff, lit_0, lit_1, lit_2, lit_3, lit_4, lit_5, lit_6, lit_7, lit_8, lit_12, lit_24, lit_25, lit_30, lit_60, lit_63, lit_96, lit_100, lit_512, lit_240, Nat.not_le.mpr hm, c1, c2 m hm, r_has (va n) (show m < 32 by omega)]
          cases hs (va n) m <;> simp [or_z]
        · unfold fX11_joins_l41
          simp (disch := omega) only [eq_self, n_le, n_lt, n_inj, n_nat, gd_in, n_add, bi_z, bi_1, gd_bi, n_nonneg,  some_bind, lt_e, lit_NV, if_true, if_false, ite_true, ite_false, Option.bind_some, not_true, not_false_iff, lit_0, lit_1, lit_2, lit_3, lit_4, lit_5, lit_6, lit_7, lit_8, lit_12, lit_24, lit_25, lit_30, lit_60, lit_63, lit_96, lit_100, lit_512, lit_240, Nat.le_refl]
      have fin : ∀ v : Int32, v = (if q = 3 then gat (hs (va n)) vb 24 else va n ||| vb n) → OB p z (ui w 42 (24 * p + n) v) ∧ (∀ m, n + 1 ≤ m → m < 24 → gi (ui w 42 (24 * p + n) v) 42 (24 * p + m) = va m) ∧ ∀ m, m < n + 1 → gi (ui w 42 (24 * p + n) v) 42 (24 * p + m) = if q = 3 then gat (hs (va m)) vb 24 else va m ||| vb m := fun v hv => by
        refine ⟨w1.up hn, fun m m1 m2 => ?_, fun m hm => ?_⟩
        · rw [gi_no (by omega)]
          exact w2 m (by omega) m2
        · by_cases e : m = n
          · rw [gi_yes ⟨rfl, by omega⟩, e, hv]
          · rw [gi_no (by omega)]
            exact w3 m (by omega)
      have i3 := i2 n hn
      rcases hq with rfl | rfl
      · refine ⟨ui w 42 (24 * p + n) (gat (hs (va n)) vb 24), ?_, fin _ rfl⟩
        unfold fX11_joins_l2 fX11_joins_j91
        simp (disch := omega) only [eq_self, n_le, n_lt, n_inj, n_nat, gd_in, n_add, bi_z, bi_1, gd_bi, n_nonneg,  some_bind, lt_e, lit_NV, if_true, if_false, ite_true, ite_false, Option.bind_some, not_true, not_false_iff, lit_0, lit_1, lit_2, lit_3, lit_4, lit_5, lit_6, lit_7, lit_8, lit_12, lit_24, lit_25, lit_30, lit_60, lit_63, lit_96, lit_100, lit_512, lit_240, Nat.not_le.mpr hn, c1, c2 n hn, e1]
      · refine ⟨ui w 42 (24 * p + n) (vb n ||| va n), ?_, fin _ (by rw [if_neg (by omega)]; exact Int32.or_comm _ _)⟩
        unfold fX11_joins_l2 fX11_joins_j91
        simp (disch := omega) only [eq_self, n_le, n_lt, n_inj, n_nat, gd_in, n_add, bi_z, bi_1, gd_bi, n_nonneg,  some_bind, lt_e, lit_NV, if_true, if_false, ite_true, ite_false, Option.bind_some, not_true, not_false_iff, lit_0, lit_1, lit_2, lit_3, lit_4, lit_5, lit_6, lit_7, lit_8, lit_12, lit_24, lit_25, lit_30, lit_60, lit_63, lit_96, lit_100, lit_512, lit_240, Nat.not_le.mpr hn, c1, c2 n hn, show ¬ 4 = 3 by omega])
    (fun w hw => by
      unfold fX11_joins_l2
      simp (disch := omega) only [eq_self, n_le, n_lt, n_inj, n_nat, gd_in, n_add, bi_z, bi_1, gd_bi, n_nonneg,  some_bind, lt_e, lit_NV, if_true, if_false, ite_true, ite_false, Option.bind_some, not_true, not_false_iff, lit_0, lit_1, lit_2, lit_3, lit_4, lit_5, lit_6, lit_7, lit_8, lit_12, lit_24, lit_25, lit_30, lit_60, lit_63, lit_96, lit_100, lit_512, lit_240, Nat.le_refl])
  have e : loopF (fX11_joins_l2 z (n32 q) (n32 (24 * p))) (z, 0) = some (z', n32 24) := e
  refine ⟨z', ?_, f1, f3⟩
  unfold fX11_joins
  rw [e]
  rfl
theorem r_closes {p : Nat} {va : Nat → Int32} (hp : p < 12) (ha : BWk z p va) : ∃ z', fX11_closes z (n32 (24 * p)) W = some z' ∧ OB p z z' ∧ BWk z' p (rep va W) := by
  obtain ⟨z1, e1, f1, f2, f3⟩ := loop_st (step := fX11_closes_l2 z (n32 (24 * p)) W) 24 (fun n w => OB p z w ∧ (∀ m, n ≤ m → m < 24 → gi w 42 (24 * p + m) = va m) ∧ ∀ m, m < n → gi w 42 (24 * p + m) = rep0 va W m) (x0 := z) ⟨OB.rf p z, fun m _ hm => ha m hm, fun m hm => absurd hm (Nat.not_lt_zero m)⟩ (fun n w hn hw => by
      obtain ⟨w1, w2, w3⟩ := hw
      have c1 : gi w 42 (24 * p + n) = va n := w2 n (Nat.le_refl n) hn
      have i1 : 24 * p + n < 288 := by omega
      refine ⟨ui w 42 (24 * p + n) (rep0 va W n), ?_, w1.up hn, fun m m1 m2 => ?_, fun m hm => ?_⟩
      · have hst := start_in (u := W) (k := n) (by omega)
        unfold fX11_closes_l2 fX11_closes_j32 rep0
        rw [← hst]
        simp (disch := omega) only [eq_self, n_le, n_lt, n_inj, n_nat, gd_in, n_add, bi_z, bi_1, gd_bi, n_nonneg,  some_bind, lt_e, lit_NV, if_true, if_false, ite_true, ite_false, Option.bind_some, not_true, not_false_iff, lit_0, lit_1, lit_2, lit_3, lit_4, lit_5, lit_6, lit_7, lit_8, lit_12, lit_24, lit_25, lit_30, lit_60, lit_63, lit_96, lit_100, lit_512, lit_240, Nat.not_le.mpr hn, c1, r_has W (show n < 32 by omega)]
        cases hs W n
        · simp
        · simp
          rfl
      · rw [gi_no (by omega)]
        exact w2 m (by omega) m2
      · by_cases e : m = n
        · rw [gi_yes ⟨rfl, by omega⟩, e]
        · rw [gi_no (by omega)]
          exact w3 m (by omega))
    (fun w hw => by
      unfold fX11_closes_l2
      simp (disch := omega) only [eq_self, n_le, n_lt, n_inj, n_nat, gd_in, n_add, bi_z, bi_1, gd_bi, n_nonneg,  some_bind, lt_e, lit_NV, if_true, if_false, ite_true, ite_false, Option.bind_some, not_true, not_false_iff, lit_0, lit_1, lit_2, lit_3, lit_4, lit_5, lit_6, lit_7, lit_8, lit_12, lit_24, lit_25, lit_30, lit_60, lit_63, lit_96, lit_100, lit_512, lit_240, Nat.le_refl])
  obtain ⟨z2, e2, g1, g2⟩ := loop_st (step := fX11_closes_l42 z1 (n32 (24 * p)) W) 24 (fun o w => OB p z w ∧ BWk w p (fold (fun over v => rpp over v) (rep0 va W) o)) (x0 := z1) ⟨f1, f3⟩ (fun o w ho hw => by
      obtain ⟨w', e, k1, k2⟩ := loop_st (step := fX11_closes_l51 w (n32 (24 * p)) W (n32 o)) 24 (fun n w => OB p z w ∧ BWk w p (fold (fun n v => rpo o n v) (fold (fun over v => rpp over v) (rep0 va W) o) n)) (x0 := w) hw (fun n s hn hs9 => by
          obtain ⟨s1, s3⟩ := hs9
          show ∃ x', _ ∧ _ ∧ BWk x' p (rpo o n (fold (fun n v => rpo o n v) (fold (fun over v => rpp over v) (rep0 va W) o) n))
          revert s3
          generalize fold (fun n v => rpo o n v) (fold (fun over v => rpp over v) (rep0 va W) o) n = v
          intro s3
          have c1 := s3 n hn
          have c2 := s3 o ho
          have i1 : 24 * p + n < 288 := by omega
          have i2 : 24 * p + o < 288 := by omega
          refine ⟨ui s 42 (24 * p + n) (if hs (v n) o then v n ||| v o else v n), ?_, s1.up hn, fun m hm => ?_⟩
          · unfold fX11_closes_l51 fX11_closes_j96
            simp (disch := omega) only [eq_self, n_le, n_lt, n_inj, n_nat, gd_in, n_add, bi_z, bi_1, gd_bi, n_nonneg,  some_bind, lt_e, lit_NV, if_true, if_false, ite_true, ite_false, Option.bind_some, not_true, not_false_iff, lit_0, lit_1, lit_2, lit_3, lit_4, lit_5, lit_6, lit_7, lit_8, lit_12, lit_24, lit_25, lit_30, lit_60, lit_63, lit_96, lit_100, lit_512, lit_240, Nat.not_le.mpr hn, c1, c2, r_has (v n) (show o < 32 by omega)]
            cases hs (v n) o <;> simp [or_z]
          · unfold rpo
            by_cases q : m = n
            · rw [gi_yes ⟨rfl, by omega⟩, if_pos q]
            · rw [gi_no (by omega), if_neg q]
              exact s3 m hm)
        (fun s hs9 => by
          unfold fX11_closes_l51
          simp (disch := omega) only [eq_self, n_le, n_lt, n_inj, n_nat, gd_in, n_add, bi_z, bi_1, gd_bi, n_nonneg,  some_bind, lt_e, lit_NV, if_true, if_false, ite_true, ite_false, Option.bind_some, not_true, not_false_iff, lit_0, lit_1, lit_2, lit_3, lit_4, lit_5, lit_6, lit_7, lit_8, lit_12, lit_24, lit_25, lit_30, lit_60, lit_63, lit_96, lit_100, lit_512, lit_240, Nat.le_refl])
      refine ⟨w', ?_, k1, k2⟩
      unfold fX11_closes_l42
      simp (disch := omega) only [eq_self, n_le, n_lt, n_inj, n_nat, gd_in, n_add, bi_z, bi_1, gd_bi, n_nonneg,  some_bind, lt_e, lit_NV, if_true, if_false, ite_true, ite_false, Option.bind_some, not_true, not_false_iff, lit_0, lit_1, lit_2, lit_3, lit_4, lit_5, lit_6, lit_7, lit_8, lit_12, lit_24, lit_25, lit_30, lit_60, lit_63, lit_96, lit_100, lit_512, lit_240, Nat.not_le.mpr ho, e])
    (fun w hw => by
      unfold fX11_closes_l42
      simp (disch := omega) only [eq_self, n_le, n_lt, n_inj, n_nat, gd_in, n_add, bi_z, bi_1, gd_bi, n_nonneg,  some_bind, lt_e, lit_NV, if_true, if_false, ite_true, ite_false, Option.bind_some, not_true, not_false_iff, lit_0, lit_1, lit_2, lit_3, lit_4, lit_5, lit_6, lit_7, lit_8, lit_12, lit_24, lit_25, lit_30, lit_60, lit_63, lit_96, lit_100, lit_512, lit_240, Nat.le_refl])
  refine ⟨z2, ?_, g1, g2⟩
  have e1 : loopF (fX11_closes_l2 z (n32 (24 * p)) W) (z, 0) = some (z1, n32 24) := e1
  have e2 : loopF (fX11_closes_l42 z1 (n32 (24 * p)) W) (z1, 0) = some (z2, n32 24) := e2
  unfold fX11_closes
  rw [e1, some_bind, e2]
  rfl
theorem jn_one (K : Nat → Nat → Int32) (l : Nat) {n : Nat} (hn : n < 24) : jn K l (bit1 n) = K l n := by
  refine hs_ext fun i hi => ?_
  unfold jn
  rw [hs_gat, Bool.eq_iff_iff, any_ex]
  constructor
  · rintro ⟨k, hk, q⟩
    simp only [Bool.and_eq_true] at q
    have := hs_one (by omega) (by omega) q.1
    rw [← this]
    exact q.2
  · intro q
    exact ⟨n, hn, by rw [hs_own (by omega), q]; rfl⟩
theorem jn_0 (K : Nat → Nat → Int32) (l : Nat) : jn K l (n32 0) = n32 0 := by
  unfold jn
  rw [gat_stop (Nat.zero_le 24) fun i _ _ => hs_0 i]
  rfl
theorem bk_0 (K : Nat → Nat → Int32) (l : Nat) : bk K l (n32 0) = n32 0 := by
  unfold bk
  have h0 : ∀ a : Int32, a &&& n32 0 = n32 0 := fun a => Int32.and_zero
  rw [gat_stop (Nat.zero_le 24) fun i _ _ => by simp [h0]]
  rfl
theorem z_and (a : Int32) : n32 0 &&& a = n32 0 := Int32.zero_and
/-- what the reference lays for a step of the first three kinds -/
def bgv (x : St) (K : Nat → Nat → Int32) (W : Int32) (q l n : Nat) : Int32 :=
  if q = 0 then (if hs W n then K l n &&& W else n32 0) else if q = 2 then (if hs W n then (if gi x 4 n = n32 l then bit1 n else n32 0) else n32 0) else gat (fun m => hs W m && (hs W n && hs (K l m) n)) bit1 24
theorem bgv_one (hN : N ≤ 24) (hW : ∀ n, hs W n = true → n < N ∧ lv x n = true) {q l n : Nat} (hq : q < 3) (hn : n < 24) : bgv x K W q l n = one K (fun l => lbd N x (n32 l)) q l (bit1 n &&& W) &&& W := by
  have hst := start_in (u := W) (k := n) (by omega)
  rw [← hst]
  unfold bgv one
  have : q = 0 ∨ q = 1 ∨ q = 2 := by omega
  rcases this with rfl | rfl | rfl
  · simp only [if_true]
    cases hs W n
    · simp only [if_false, Bool.false_eq_true, jn_0, z_and]
    · simp only [if_true, jn_one K l hn]
  · simp only [show ¬ (1 : Nat) = 0 by omega, show ¬ (1 : Nat) = 2 by omega, if_false, if_true]
    refine hs_ext fun i hi => ?_
    rw [hs_gb hi (by decide), hs_and]
    cases hw : hs W n
    · simp only [if_false, Bool.false_eq_true, bk_0, hs_0, Bool.false_and, Bool.and_false]
    · simp only [if_true, Bool.true_and]
      unfold bk
      rw [hs_gb hi (by decide)]
      simp only [and_bit1 _ (show n < 32 by omega)]
      cases decide (i < 24) <;> cases hs W i <;> cases hs (K l i) n <;> rfl
  · simp only [show ¬ (2 : Nat) = 0 by omega, show ¬ (2 : Nat) = 1 by omega, if_false, if_true]
    refine hs_ext fun i hi => ?_
    cases hw : hs W n
    · simp only [if_false, Bool.false_eq_true, z_and]
    · obtain ⟨w1, w2⟩ := hW n hw
      simp only [if_true]
      rw [hs_and, hs_and, hs_bit1 n (by omega) i hi]
      by_cases e : i = n
      · subst e
        unfold lbd
        rw [hw, hs_gb hi (by omega), decide_eq_true w1, w2]
        by_cases q9 : gi x 4 i = n32 l
        · rw [if_pos q9, hs_own (by omega)]
          simp [q9]
        · rw [if_neg q9, hs_0]
          simp [q9]
      · rw [decide_eq_false e]
        by_cases q9 : gi x 4 n = n32 l
        · rw [if_pos q9, hs_bit1 n (by omega) i hi, decide_eq_false e]
          rfl
        · rw [if_neg q9, hs_0]
          rfl
theorem r_begins {p q l kk : Nat} (hp : p < 12) (hkk : kk < 72) (hq : q < 3) (hl : l < 4) (h34 : gi z 34 kk = n32 q) (h35 : gi z 35 kk = n32 l) (hK : KnY z K) (h1 : ∀ k, gi z 1 k = gi x 4 k) : ∃ z', fX11_begins z (n32 kk) (n32 (24 * p)) W = some z' ∧ OB p z z' ∧ BWk z' p (bgv x K W q l) := by
  obtain ⟨z1, e1, f1, f2⟩ := loop_st (step := fX11_begins_l11 z (n32 kk) (n32 (24 * p)) W (n32 l)) 24 (fun n w => OB p z w ∧ ∀ m, m < n → gi w 42 (24 * p + m) = n32 0) (x0 := z) ⟨OB.rf p z, fun m hm => absurd hm (Nat.not_lt_zero m)⟩ (fun n w hn hw => by
      have i1 : 24 * p + n < 288 := by omega
      refine ⟨ui w 42 (24 * p + n) (n32 0), ?_, hw.1.up hn, fun m hm => ?_⟩
      · unfold fX11_begins_l11
        simp (disch := omega) only [eq_self, n_le, n_lt, n_inj, n_nat, gd_in, n_add, bi_z, bi_1, gd_bi, n_nonneg,  some_bind, lt_e, lit_NV, if_true, if_false, ite_true, ite_false, Option.bind_some, not_true, not_false_iff, lit_0, lit_1, lit_2, lit_3, lit_4, lit_5, lit_6, lit_7, lit_8, lit_12, lit_24, lit_25, lit_30, lit_60, lit_63, lit_96, lit_100, lit_512, lit_240, Nat.not_le.mpr hn]
      · by_cases e : m = n
        · rw [gi_yes ⟨rfl, by omega⟩]
        · rw [gi_no (by omega)]
          exact hw.2 m (by omega))
    (fun w hw => by
      unfold fX11_begins_l11
      simp (disch := omega) only [eq_self, n_le, n_lt, n_inj, n_nat, gd_in, n_add, bi_z, bi_1, gd_bi, n_nonneg,  some_bind, lt_e, lit_NV, if_true, if_false, ite_true, ite_false, Option.bind_some, not_true, not_false_iff, lit_0, lit_1, lit_2, lit_3, lit_4, lit_5, lit_6, lit_7, lit_8, lit_12, lit_24, lit_25, lit_30, lit_60, lit_63, lit_96, lit_100, lit_512, lit_240, Nat.le_refl])
  have key : ∃ z2, loopF (fX11_begins_l37 z1 (n32 kk) (n32 (24 * p)) W (n32 l)) (z1, n32 0) = some (z2, n32 24) ∧ OB p z z2 ∧ BWk z2 p (bgv x K W q l) := by
    by_cases q1 : q = 1
    · subst q1
      obtain ⟨z2, e2, g1, g2⟩ := loop_st (step := fX11_begins_l37 z1 (n32 kk) (n32 (24 * p)) W (n32 l)) 24 (fun k w => OB p z w ∧ BWk w p (fun n => gat (fun m => hs W m && (hs W n && hs (K l m) n)) bit1 k)) (x0 := z1) ⟨f1, f2⟩ (fun k w hk hw => by
          obtain ⟨w1, w2⟩ := hw
          have c1 : gi w 34 kk = n32 1 := (w1 _ _ (by omega)).trans h34
          have c2 : gi w 41 (24 * l + k) = K l k := (w1 _ _ (by omega)).trans (hK l k hl hk)
          have i2 : 24 * l + k < 96 := by omega
          cases hw9 : hs W k
          · refine ⟨w, ?_, w1, fun n hn => ?_⟩
            · unfold fX11_begins_l37 fX11_begins_j89 fX11_begins_j140 fX11_begins_j215
              simp (disch := omega) only [eq_self, n_le, n_lt, n_inj, n_nat, gd_in, n_add, bi_z, bi_1, gd_bi, n_nonneg,  some_bind, lt_e, lit_NV, if_true, if_false, ite_true, ite_false, Option.bind_some, not_true, not_false_iff, lit_0, lit_1, lit_2, lit_3, lit_4, lit_5, lit_6, lit_7, lit_8, lit_12, lit_24, lit_25, lit_30, lit_60, lit_63, lit_96, lit_100, lit_512, lit_240, Nat.not_le.mpr hk, r_has W (show k < 32 by omega), hw9]
            · rw [w2 n hn]
              show _ = gat (fun m => hs W m && (hs W n && hs (K l m) n)) bit1 (k + 1)
              rw [gat_succ, hw9]
              rfl
          · obtain ⟨w', e, k1, k2, k3⟩ := loop_st (step := fX11_begins_l152 w (n32 kk) (n32 (24 * p)) W (n32 l) (n32 k)) 24 (fun n s => OB p z s ∧ (∀ m, n ≤ m → m < 24 → gi s 42 (24 * p + m) = gat (fun j => hs W j && (hs W m && hs (K l j) m)) bit1 k) ∧ ∀ m, m < n → gi s 42 (24 * p + m) = gat (fun j => hs W j && (hs W m && hs (K l j) m)) bit1 (k + 1)) (x0 := w) ⟨w1, fun m _ hm => w2 m hm, fun m hm => absurd hm (Nat.not_lt_zero m)⟩ (fun n s hn hs9 => by
                obtain ⟨s1, s2, s3⟩ := hs9
                have d1 : gi s 42 (24 * p + n) = gat (fun j => hs W j && (hs W n && hs (K l j) n)) bit1 k := s2 n (Nat.le_refl n) hn
                have d2 : gi s 41 (24 * l + k) = K l k := (s1 _ _ (by omega)).trans (hK l k hl hk)
                have i1 : 24 * p + n < 288 := by omega
                refine ⟨ui s 42 (24 * p + n) (gat (fun j => hs W j && (hs W n && hs (K l j) n)) bit1 (k + 1)), ?_, s1.up hn, fun m m1 m2 => ?_, fun m hm => ?_⟩
                · rw [gat_succ]
                  unfold fX11_begins_l152 fX11_begins_j206 fX11_begins_j207
                  simp (disch := omega) only [eq_self, n_le, n_lt, n_inj, n_nat, gd_in, n_add, bi_z, bi_1, gd_bi, n_nonneg,  some_bind, lt_e, lit_NV, if_true, if_false, ite_true, ite_false, Option.bind_some, not_true, not_false_iff, lit_0, lit_1, lit_2, lit_3, lit_4, lit_5, lit_6, lit_7, lit_8, lit_12, lit_24, lit_25, lit_30, lit_60, lit_63, lit_96, lit_100, lit_512, lit_240, Nat.not_le.mpr hn, d1, d2, n_mul, r_has W (show n < 32 by omega), r_has (K l k) (show n < 32 by omega), hw9]
                  cases hs W n
                  · simp [or_z]
                  · cases hs (K l k) n
                    · simp [or_z]
                    · simp
                      rfl
                · rw [gi_no (by omega)]
                  exact s2 m (by omega) m2
                · by_cases e : m = n
                  · rw [gi_yes ⟨rfl, by omega⟩, e]
                  · rw [gi_no (by omega)]
                    exact s3 m (by omega))
              (fun s hs9 => by
                unfold fX11_begins_l152
                simp (disch := omega) only [eq_self, n_le, n_lt, n_inj, n_nat, gd_in, n_add, bi_z, bi_1, gd_bi, n_nonneg,  some_bind, lt_e, lit_NV, if_true, if_false, ite_true, ite_false, Option.bind_some, not_true, not_false_iff, lit_0, lit_1, lit_2, lit_3, lit_4, lit_5, lit_6, lit_7, lit_8, lit_12, lit_24, lit_25, lit_30, lit_60, lit_63, lit_96, lit_100, lit_512, lit_240, Nat.le_refl])
            refine ⟨w', ?_, k1, k3⟩
            unfold fX11_begins_l37 fX11_begins_j89 fX11_begins_j140 fX11_begins_j215
            simp (disch := omega) only [eq_self, n_le, n_lt, n_inj, n_nat, gd_in, n_add, bi_z, bi_1, gd_bi, n_nonneg,  some_bind, lt_e, lit_NV, if_true, if_false, ite_true, ite_false, Option.bind_some, not_true, not_false_iff, lit_0, lit_1, lit_2, lit_3, lit_4, lit_5, lit_6, lit_7, lit_8, lit_12, lit_24, lit_25, lit_30, lit_60, lit_63, lit_96, lit_100, lit_512, lit_240, Nat.not_le.mpr hk, r_has W (show k < 32 by omega), hw9, Bool.true_eq_false, c1, Nat.one_ne_zero, show ¬ 1 = 2 by omega, e])
        (fun w hw => by
          unfold fX11_begins_l37
          simp (disch := omega) only [eq_self, n_le, n_lt, n_inj, n_nat, gd_in, n_add, bi_z, bi_1, gd_bi, n_nonneg,  some_bind, lt_e, lit_NV, if_true, if_false, ite_true, ite_false, Option.bind_some, not_true, not_false_iff, lit_0, lit_1, lit_2, lit_3, lit_4, lit_5, lit_6, lit_7, lit_8, lit_12, lit_24, lit_25, lit_30, lit_60, lit_63, lit_96, lit_100, lit_512, lit_240, Nat.le_refl])
      exact ⟨z2, e2, g1, g2⟩
    · have q02 : q = 0 ∨ q = 2 := by omega
      obtain ⟨z2, e2, g1, g2, g3⟩ := loop_st (step := fX11_begins_l37 z1 (n32 kk) (n32 (24 * p)) W (n32 l)) 24 (fun n w => OB p z w ∧ (∀ m, n ≤ m → m < 24 → gi w 42 (24 * p + m) = n32 0) ∧ ∀ m, m < n → gi w 42 (24 * p + m) = bgv x K W q l m) (x0 := z1) ⟨f1, fun m _ hm => f2 m hm, fun m hm => absurd hm (Nat.not_lt_zero m)⟩ (fun n w hn hw => by
          obtain ⟨w1, w2, w3⟩ := hw
          have c1 : gi w 34 kk = n32 q := (w1 _ _ (by omega)).trans h34
          have c2 : gi w 41 (24 * l + n) = K l n := (w1 _ _ (by omega)).trans (hK l n hl hn)
          have c3 : gi w 1 n = gi x 4 n := (w1 _ _ (by omega)).trans (h1 n)
          have i1 : 24 * p + n < 288 := by omega
          have i2 : 24 * l + n < 96 := by omega
          cases hw9 : hs W n
          · have hv : bgv x K W q l n = n32 0 := by
              unfold bgv
              rcases q02 with rfl | rfl
              · simp [hw9]
              · simp [hw9]
            refine ⟨w, ?_, w1, fun m m1 m2 => w2 m (by omega) m2, fun m hm => ?_⟩
            · unfold fX11_begins_l37 fX11_begins_j89 fX11_begins_j140 fX11_begins_j215
              simp (disch := omega) only [eq_self, n_le, n_lt, n_inj, n_nat, gd_in, n_add, bi_z, bi_1, gd_bi, n_nonneg,  some_bind, lt_e, lit_NV, if_true, if_false, ite_true, ite_false, Option.bind_some, not_true, not_false_iff, lit_0, lit_1, lit_2, lit_3, lit_4, lit_5, lit_6, lit_7, lit_8, lit_12, lit_24, lit_25, lit_30, lit_60, lit_63, lit_96, lit_100, lit_512, lit_240, Nat.not_le.mpr hn, r_has W (show n < 32 by omega), hw9]
            · by_cases e : m = n
              · rw [e, hv]
                exact w2 n (Nat.le_refl n) hn
              · exact w3 m (by omega)
          · refine ⟨ui w 42 (24 * p + n) (bgv x K W q l n), ?_, w1.up hn, fun m m1 m2 => ?_, fun m hm => ?_⟩
            · unfold bgv
              rcases q02 with rfl | rfl
              · unfold fX11_begins_l37 fX11_begins_j215
                simp (disch := omega) only [eq_self, n_le, n_lt, n_inj, n_nat, gd_in, n_add, bi_z, bi_1, gd_bi, n_nonneg,  some_bind, lt_e, lit_NV, if_true, if_false, ite_true, ite_false, Option.bind_some, not_true, not_false_iff, lit_0, lit_1, lit_2, lit_3, lit_4, lit_5, lit_6, lit_7, lit_8, lit_12, lit_24, lit_25, lit_30, lit_60, lit_63, lit_96, lit_100, lit_512, lit_240, Nat.not_le.mpr hn, r_has W (show n < 32 by omega), hw9, Bool.true_eq_false, c1, c2, n_mul]
              · unfold fX11_begins_l37 fX11_begins_j89 fX11_begins_j136 fX11_begins_j215
                simp (disch := omega) only [eq_self, n_le, n_lt, n_inj, n_nat, gd_in, n_add, bi_z, bi_1, gd_bi, n_nonneg,  some_bind, lt_e, lit_NV, if_true, if_false, ite_true, ite_false, Option.bind_some, not_true, not_false_iff, lit_0, lit_1, lit_2, lit_3, lit_4, lit_5, lit_6, lit_7, lit_8, lit_12, lit_24, lit_25, lit_30, lit_60, lit_63, lit_96, lit_100, lit_512, lit_240, Nat.not_le.mpr hn, r_has W (show n < 32 by omega), hw9, Bool.true_eq_false, c1, show ¬ 2 = 0 by omega, c3]
                by_cases q9 : gi x 4 n = n32 l
                · simp [q9]
                  rfl
                · simp [q9]
            · rw [gi_no (by omega)]
              exact w2 m (by omega) m2
            · by_cases e : m = n
              · rw [gi_yes ⟨rfl, by omega⟩, e]
              · rw [gi_no (by omega)]
                exact w3 m (by omega))
        (fun w hw => by
          unfold fX11_begins_l37
          simp (disch := omega) only [eq_self, n_le, n_lt, n_inj, n_nat, gd_in, n_add, bi_z, bi_1, gd_bi, n_nonneg,  some_bind, lt_e, lit_NV, if_true, if_false, ite_true, ite_false, Option.bind_some, not_true, not_false_iff, lit_0, lit_1, lit_2, lit_3, lit_4, lit_5, lit_6, lit_7, lit_8, lit_12, lit_24, lit_25, lit_30, lit_60, lit_63, lit_96, lit_100, lit_512, lit_240, Nat.le_refl])
      exact ⟨z2, e2, g1, g3⟩
  obtain ⟨z2, e2, g1, g2⟩ := key
  have e1 : loopF (fX11_begins_l11 z (n32 kk) (n32 (24 * p)) W (n32 l)) (z, 0) = some (z1, n32 24) := e1
  have e2 : loopF (fX11_begins_l37 z1 (n32 kk) (n32 (24 * p)) W (n32 l)) (z1, 0) = some (z2, n32 24) := e2
  refine ⟨z2, ?_, g1, g2⟩
  unfold fX11_begins
  rw [gd_t (n_inb hkk (by decide)), lt_e, n_nat (by omega), h35, e1, some_bind, e2]
  rfl
/-- the reference's blocks hold the relations that lie on the stack -/
def RLy (x : St) (u : Nat) (W : Int32) (K : Nat → Nat → Int32) (D : Nat → Int32) (y z : St) (k : Nat) : Prop := FLy y z ∧ ∀ p, p < (stk x u k).length → ∃ s, (stk x u k)[(stk x u k).length - 1 - p]? = some s ∧ BWk z p (rels x u W K D k s)
theorem FLy_OB {p : Nat} {y z z' : St} (h : FLy y z) (ho : OB p z z') : FLy y z' := fun a j ha => (ho a j (by omega)).trans (h a j ha)
theorem r_layStep (hN : N ≤ 24) (hW : ∀ n, hs W n = true → n < N ∧ lv x n = true) (hp : RPc x u c h) (hu : u < 6) (hK : KnY y K) (h1 : ∀ k, gi y 1 k = gi x 4 k) (h33 : gi y 33 u = n32 c) (hst : ∀ i, i < c → gi y 34 (12 * u + i) = gi x (79 + 6 * u) i ∧ gi y 35 (12 * u + i) = gi x (80 + 6 * u) i) {k : Nat} (hk : k < c) (hz : RLy x u W K (fun l => lbd N x (n32 l)) y z k) (a2 : Int32) : ∃ z', fX11_lays_l19 y (n32 u) a2 W (z, n32 (stk x u k).length, n32 (12 * u + k)) = some (.inl (z', n32 (stk x u (k + 1)).length, n32 (12 * u + (k + 1)))) ∧ RLy x u W K (fun l => lbd N x (n32 l)) y z' (k + 1) := by
  obtain ⟨hf, hb⟩ := hz
  have hc := hp.1
  obtain ⟨q1, q2, q3, q4, q5, q6, q7, q8, q9⟩ := RPc_at hp hk
  have hlen : ∀ i, (stk x u i).length ≤ i := fun i => by
    induction i with
    | zero => exact Nat.le_refl _
    | succ i ih =>
      show (i :: (stk x u i).drop _).length ≤ i + 1
      rw [List.length_cons, List.length_drop]
      omega
  have hl := hlen k
  have es := stk_at (x := x) (u := u) (i := k) (q := kq x u k) (by omega) q1
  have c1 : gi z 33 u = n32 c := (hf _ _ (by omega)).trans h33
  have c2 : gi z 34 (12 * u + k) = n32 (kq x u k) := (hf _ _ (by omega)).trans ((hst k hk).1.trans q1)
  have i1 : 12 * u + k < 72 := by omega
  have nle : ¬ 12 * u + c ≤ 12 * u + k := by omega
  generalize hL : (stk x u k).length = L at hb hl
  -- the elements below the changed block
  have old : ∀ (t : Nat) (z' : St), t ≤ L → (stk x u (k + 1)) = k :: (stk x u k).drop t → OB (L - t) z z' → BWk z' (L - t) (stR x u W K (fun l => lbd N x (n32 l)) (rels x u W K (fun l => lbd N x (n32 l)) k) k) → RLy x u W K (fun l => lbd N x (n32 l)) y z' (k + 1) := fun t z' ht es ho hbw => by
    refine ⟨FLy_OB hf ho, fun p hp9 => ?_⟩
    rw [es, List.length_cons, List.length_drop, hL] at hp9 ⊢
    by_cases e : p = L - t
    · refine ⟨k, by rw [show L - t + 1 - 1 - p = 0 by omega]; rfl, fun n hn => ?_⟩
      rw [rels_at, e]
      exact hbw n hn
    · obtain ⟨s, s1, s2⟩ := hb p (by omega)
      have hs9 := stk_lt (List.mem_of_getElem? s1)
      refine ⟨s, ?_, fun n hn => ?_⟩
      · rw [show L - t + 1 - 1 - p = (L - t - 1 - p) + 1 by omega, List.getElem?_cons_succ, List.getElem?_drop, show t + (L - t - 1 - p) = L - 1 - p by omega]
        exact s1
      · rw [rels_lt _ _ _ _ _ _ hs9]
        exact OB_BWk ho (by omega) s2 n hn
  by_cases k3 : kq x u k < 3
  · obtain ⟨q10, q11⟩ := q7 k3
    have c3 : gi z 35 (12 * u + k) = n32 (kb x u k) := (hf _ _ (by omega)).trans ((hst k hk).2.trans q10)
    have hKz : KnY z K := fun l n h1 h2 => (hf _ _ (by omega)).trans (hK l n h1 h2)
    obtain ⟨z', e, g1, g2⟩ := r_begins (z := z) (x := x) (K := K) (W := W) (p := L) (by omega) i1 k3 q11 c2 c3 hKz (fun k => (hf _ _ (by omega)).trans (h1 k))
    have et : tkq (kq x u k) = 0 := by
      unfold tkq
      rw [if_neg (by omega), if_neg (by omega)]
    rw [et] at es
    refine ⟨z', ?_, old 0 z' (by omega) es (by rw [Nat.sub_zero]; exact g1) (by
      rw [Nat.sub_zero]
      intro n hn
      rw [g2 n hn, bgv_one hN hW k3 hn]
      unfold stR
      rw [if_neg (by omega), if_neg (by omega), if_neg (by omega)])⟩
    rw [es, List.length_cons, List.length_drop, hL]
    unfold fX11_lays_l19 fX11_lays_j111
    simp (disch := omega) only [eq_self, n_le, n_lt, n_inj, n_nat, gd_in, n_add, bi_z, bi_1, gd_bi, n_nonneg,  some_bind, lt_e, lit_NV, if_true, if_false, ite_true, ite_false, Option.bind_some, not_true, not_false_iff, lit_0, lit_1, lit_2, lit_3, lit_4, lit_5, lit_6, lit_7, lit_8, lit_12, lit_24, lit_25, lit_30, lit_60, lit_63, lit_96, lit_100, lit_512, lit_240, c1, n_mul, nle, c2, show ¬ 3 ≤ kq x u k by omega, e]
    rw [show L - 0 + 1 = L + 1 by omega]
    rfl
  · by_cases k5 : kq x u k = 5
    · have m := q8 k5
      have et : tkq (kq x u k) = 1 := by rw [k5]; rfl
      rw [et] at es
      have hL1 : 1 ≤ L := by
        rcases Nat.eq_zero_or_pos L with q | q
        · exfalso
          rw [List.getElem?_eq_none (by omega)] at m
          cases m
        · exact q
      obtain ⟨s, s1, s2⟩ := hb (L - 1) (by omega)
      rw [show L - 1 - (L - 1) = 0 by omega, m] at s1
      cases s1
      obtain ⟨z', e, g1, g2⟩ := r_closes (W := W) (p := L - 1) (by omega) s2
      refine ⟨z', ?_, old 1 z' hL1 es g1 (by
        intro n hn
        rw [g2 n hn]
        unfold stR
        rw [if_neg (by omega), if_neg (by omega), if_pos k5])⟩
      rw [es, List.length_cons, List.length_drop, hL]
      have m1 : n32 (24 * L) - n32 24 = n32 (24 * (L - 1)) := by rw [n_sub (by omega), show 24 * L - 24 = 24 * (L - 1) by omega]
      unfold fX11_lays_l19 fX11_lays_j111
      simp (disch := omega) only [eq_self, n_le, n_lt, n_inj, n_nat, gd_in, n_add, bi_z, bi_1, gd_bi, n_nonneg,  some_bind, lt_e, lit_NV, if_true, if_false, ite_true, ite_false, Option.bind_some, not_true, not_false_iff, lit_0, lit_1, lit_2, lit_3, lit_4, lit_5, lit_6, lit_7, lit_8, lit_12, lit_24, lit_25, lit_30, lit_60, lit_63, lit_96, lit_100, lit_512, lit_240, c1, n_mul, nle, c2, show 3 ≤ kq x u k by omega, k5, m1, e]
      rw [show L - 1 + 1 = L by omega, Nat.add_assoc]
      simp
    · have k34 : kq x u k = 3 ∨ kq x u k = 4 := by omega
      obtain ⟨m, m'⟩ := q9 k34
      have et : tkq (kq x u k) = 2 := by
        rcases k34 with e | e <;> rw [e] <;> rfl
      rw [et] at es
      have hL2 : 2 ≤ L := by
        rcases Nat.lt_or_ge L 2 with q | q
        · exfalso
          rw [List.getElem?_eq_none (by omega)] at m'
          cases m'
        · exact q
      obtain ⟨s, s1, s2⟩ := hb (L - 1) (by omega)
      rw [show L - 1 - (L - 1) = 0 by omega, m] at s1
      cases s1
      obtain ⟨s, s1, s3⟩ := hb (L - 2) (by omega)
      rw [show L - 1 - (L - 2) = 1 by omega, m'] at s1
      cases s1
      rw [show L - 1 = L - 2 + 1 by omega] at s2
      obtain ⟨z', e, g1, g2⟩ := r_joins (p := L - 2) (by omega) s3 s2 k34
      refine ⟨z', ?_, old 2 z' hL2 es g1 (by
        intro n hn
        rw [g2 n hn]
        unfold stR
        rcases k34 with e | e
        · simp [e]
        · simp [e])⟩
      rw [es, List.length_cons, List.length_drop, hL]
      have m1 : n32 (24 * L) - n32 48 = n32 (24 * (L - 2)) := by rw [n_sub (by omega), show 24 * L - 48 = 24 * (L - 2) by omega]
      have m2 : n32 L + -n32 1 = n32 (L - 1) := by rw [← Int32.sub_eq_add_neg, n_sub (by omega)]
      unfold fX11_lays_l19 fX11_lays_j111
      simp (disch := omega) only [eq_self, n_le, n_lt, n_inj, n_nat, gd_in, n_add, bi_z, bi_1, gd_bi, n_nonneg,  some_bind, lt_e, lit_NV, if_true, if_false, ite_true, ite_false, Option.bind_some, not_true, not_false_iff, lit_0, lit_1, lit_2, lit_3, lit_4, lit_5, lit_6, lit_7, lit_8, lit_12, lit_24, lit_25, lit_30, lit_60, lit_63, lit_96, lit_100, lit_512, lit_240, c1, n_mul, nle, c2, show 3 ≤ kq x u k by omega, show ¬ kq x u k = 5 by omega, lit_48, m1, m2, e]
      rw [show L - 2 + 1 = L - 1 by omega, Nat.add_assoc]
end LAYS
