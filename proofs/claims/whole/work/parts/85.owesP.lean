/-- a change of the patterns' cells alone -/
theorem Rel_P {x x' y y' : St} {c : Nat} (h : Rel c x y) (hc : c < 512) (hx : ∀ a k, a < 78 ∧ ¬ (a = 0 ∧ k = 10) ∨ 120 ≤ a → gi x' a k = gi x a k) (hl9 : ∀ a k, gl x' a k = gl x a k) (hy : ∀ a k, (a < 31 ∨ 35 < a) ∧ ¬ (a = 0 ∧ (k = 34 ∨ k = 35 ∨ k = 38 ∨ k = 50)) → gi y' a k = gi y a k) (hP : RP x y → RP x' y') : Rel (c + 1) x' y' := by
  obtain ⟨N, E, T, P, R, h1, -, h2, h3, h4, h5, h6, h7, h8, h9, h10, h11, h12, h13, h14, h15⟩ := h
  refine ⟨N, E, T, P, R, by omega, by omega, ?_, ?_, ?_, ?_, ?_, ?_, fun u hu => ?_, ?_, ?_, ?_, ?_, hP h13, ?_, ?_⟩
  · exact RN_fr (fun a k q => hx _ _ (by omega)) (fun a k q => hy _ _ (by omega)) h2
  · exact RE_fr (fun a k q => hx _ _ (by omega)) (fun a k q => hy _ _ (by omega)) (by omega) h3
  · exact RT_fr (hx _ _ (by omega)) (hy _ _ (by omega)) h4
  · exact RM_fr (fun a k q => hx _ _ (by omega)) (fun a k q => hy _ _ (by omega)) h5
  · exact RW_fr (fun a k q => hx _ _ (by omega)) (fun a k q => hy _ _ (by omega)) h6
  · exact RG_fr (fun a k q => hx _ _ (by omega)) (fun a k q => hy _ _ (by omega)) h7
  · exact RX_fr hu (fun a k q => hx _ _ (by omega)) (fun a k q => hl9 _ _) (fun a k q => hy _ _ (by omega)) (by omega) (by omega) (h8 u hu)
  · exact RK_fr (fun a k q => hx _ _ (by omega)) (fun a k q => hy _ _ (by omega)) h9
  · exact RS_fr (fun a k q => hx _ _ (by omega)) h10
  · exact RR_fr (fun a k q => hx _ _ (by omega)) (fun a k q => hy _ _ (by omega)) h11
  · exact RF_fr (fun a k q => hx _ _ (by omega)) h12
  · exact RQ_fr (fun a k q => hx _ _ (by omega)) h14
  · exact RC9_up (RC9_fr (fun a k q => hx _ _ (by omega)) h15)
theorem RPc_len {x : St} {u c h : Nat} (hp : RPc x u c h) : h ≤ c := by
  obtain ⟨-, -, -, h4, -⟩ := hp
  have hlen : ∀ i, (stk x u i).length ≤ i := fun i => by
    induction i with
    | zero => exact Nat.le_refl _
    | succ i ih =>
      show (i :: (stk x u i).drop _).length ≤ i + 1
      rw [List.length_cons, List.length_drop]
      omega
  rw [h4]
  exact hlen c
theorem tkq_n {q : Nat} (hq : q < 6) {z : St} : fX8_taken z (n32 q) = some (n32 (tkq q)) ∧ fX11_needed z (n32 q) = some (n32 (tkq q)) := by
  have : q = 0 ∨ q = 1 ∨ q = 2 ∨ q = 3 ∨ q = 4 ∨ q = 5 := by omega
  rcases this with rfl | rfl | rfl | rfl | rfl | rfl <;> exact ⟨rfl, rfl⟩
/-- the reference's draft with a step more -/
def stY (y : St) (c q l h' : Nat) : St := ui (ui (ui (ui y 31 c (n32 q)) 32 c (n32 l)) 0 34 (n32 (c + 1))) 0 35 (n32 h')
theorem r_step94 {y : St} {c h q l : Nat} (hq : q < 6) (hc : c < 12) (ht : tkq q ≤ h) (hh : h ≤ 12) (h34 : gi y 0 34 = n32 c) (h35 : gi y 0 35 = n32 h) : fX11_step_j94 y (n32 q) (n32 l) (n32 0) = some (n32 (h - tkq q + 1), stY (th y (n32 0)) c q l (h - tkq q + 1)) := by
  have m1 : n32 h + -n32 1 = n32 h - n32 1 := (Int32.sub_eq_add_neg _ _).symm
  unfold fX11_step_j94 fX11_step_j156 stY
  have : q < 3 ∨ q = 5 ∨ q = 3 ∨ q = 4 := by omega
  rcases this with z | rfl | rfl | rfl
  · have e : tkq q = 0 := by
      unfold tkq
      rw [if_neg (by omega), if_neg (by omega)]
    simp (disch := omega) only [eq_self, n_le, n_lt, n_inj, n_nat, gd_in, n_add, bi_z, bi_1, gd_bi, n_nonneg,  some_bind, lt_e, lit_NV, if_true, if_false, ite_true, ite_false, Option.bind_some, not_true, not_false_iff, lit_0, lit_1, lit_2, lit_3, lit_4, lit_5, lit_6, lit_7, lit_8, lit_12, lit_24, lit_25, lit_30, lit_60, lit_63, lit_96, lit_100, lit_512, lit_240, r_fails0, th_ne, h34, h35, gi_no, gi_yes, show ¬ 3 ≤ q by omega, e]
    rfl
  · have e : tkq 5 = 1 := rfl
    rw [e] at ht ⊢
    simp (disch := omega) only [eq_self, n_le, n_lt, n_inj, n_nat, gd_in, n_add, bi_z, bi_1, gd_bi, n_nonneg,  some_bind, lt_e, lit_NV, if_true, if_false, ite_true, ite_false, Option.bind_some, not_true, not_false_iff, lit_0, lit_1, lit_2, lit_3, lit_4, lit_5, lit_6, lit_7, lit_8, lit_12, lit_24, lit_25, lit_30, lit_60, lit_63, lit_96, lit_100, lit_512, lit_240, r_fails0, th_ne, h34, h35, gi_no, gi_yes, show 3 ≤ 5 by omega]
    rw [show h - 1 + 1 = h by omega]
    simp
  · have e : tkq 3 = 2 := rfl
    rw [e] at ht ⊢
    simp (disch := omega) only [eq_self, n_le, n_lt, n_inj, n_nat, gd_in, n_add, bi_z, bi_1, gd_bi, n_nonneg,  some_bind, lt_e, lit_NV, if_true, if_false, ite_true, ite_false, Option.bind_some, not_true, not_false_iff, lit_0, lit_1, lit_2, lit_3, lit_4, lit_5, lit_6, lit_7, lit_8, lit_12, lit_24, lit_25, lit_30, lit_60, lit_63, lit_96, lit_100, lit_512, lit_240, r_fails0, th_ne, h34, h35, gi_no, gi_yes, show 3 ≤ 3 by omega, show ¬ 3 = 5 by omega]
    rw [m1, n_dec (by omega) (by omega), show h - 2 + 1 = h - 1 by omega]
  · have e : tkq 4 = 2 := rfl
    rw [e] at ht ⊢
    simp (disch := omega) only [eq_self, n_le, n_lt, n_inj, n_nat, gd_in, n_add, bi_z, bi_1, gd_bi, n_nonneg,  some_bind, lt_e, lit_NV, if_true, if_false, ite_true, ite_false, Option.bind_some, not_true, not_false_iff, lit_0, lit_1, lit_2, lit_3, lit_4, lit_5, lit_6, lit_7, lit_8, lit_12, lit_24, lit_25, lit_30, lit_60, lit_63, lit_96, lit_100, lit_512, lit_240, r_fails0, th_ne, h34, h35, gi_no, gi_yes, show 3 ≤ 4 by omega, show ¬ 4 = 5 by omega]
    rw [m1, n_dec (by omega) (by omega), show h - 2 + 1 = h - 1 by omega]
theorem r_step94f {y : St} {a b : Int32} {t : Nat} (h1 : 0 < t) (ht : t < 4) : fX11_step_j94 y a b (n32 t) = some (n32 0, th y (n32 t)) := by
  unfold fX11_step_j94
  have : t = 1 ∨ t = 2 ∨ t = 3 := by omega
  rcases this with rfl | rfl | rfl <;> rfl
theorem owes_23 : owes fLaw_c23 := fun c x y v p1 p2 p3 p4 h hc => by
  obtain ⟨N, E, T, P, R, hT, -, h2, h3, h4, h5, h6, h7, h8, h9, h10, h11, h12, h13, h14, h15⟩ := id h
  refine law_I (Q := fun x' y' => Rel (c + 1) x' y') ?_
  have bad : ∀ (t : Nat) (z1 : Option (Int32 × LX)) (z2 : Option (Int32 × St)), 0 < t → t < 4 → z1 = some (n32 t, x, v) → z2 = some (n32 0, th y (n32 t)) → agI z1 z2 (fun x' y' => Rel (c + 1) x' y') := fun t z1 z2 t1 t2 e1 e2 => by
    refine ⟨n32 t, x, v, n32 0, th y (n32 t), e1, e2, rfl, fun q => ?_, Rel_th h hc (n32 t)⟩
    have q : n32 t = n32 0 := q
    rw [n_inj (by omega) (by omega)] at q
    omega
  obtain ⟨Pc, hPc, g1, g2, g3, ⟨d, hh, g4, g5, g6, g7⟩, g8⟩ := id h13
  have hd := g4.1
  have hhd := RPc_len g4
  have hin : fX11_isIn y p1 0 5 = some (bi (bw 6 p1)) := r_isIn (y := y) (a := p1) (n := 6) (by decide)
  -- the common end: kind q, label l
  have fin : ∀ q l : Nat, q < 6 → l < 4 → (q < 3 ∨ l = 0) → agI ((fX10_step_j47 x (n32 q) (n32 l)).bind fun z => Sum.elim (fun w => some ((0 : Int32), w.2, w.1.toInt64)) (fun n => if n.1 = 0 then some ((1 : Int32), n.2, v) else if n.1 = 1 then some ((2 : Int32), n.2, v) else if n.1 = 2 then some ((3 : Int32), n.2, v) else none) z) (fX11_step_j40 y (n32 q) (n32 l) (n32 1) (n32 1) (n32 1)) (fun x' y' => Rel (c + 1) x' y') := fun q l hq hl hql => by
    obtain ⟨tk1, -⟩ := tkq_n hq (z := x)
    obtain ⟨-, tk2⟩ := tkq_n hq (z := y)
    have tkl := tkq_le q
    by_cases hd12 : d = 12
    · refine bad 3 _ _ (by omega) (by omega) ?_ ?_
      · unfold fX10_step_j47
        simp (disch := omega) only [eq_self, n_le, n_lt, n_inj, n_nat, gd_in, n_add, bi_z, bi_1, gd_bi, n_nonneg,  some_bind, lt_e, lit_NV, if_true, if_false, ite_true, ite_false, Option.bind_some, not_true, not_false_iff, lit_0, lit_1, lit_2, lit_3, lit_4, lit_5, lit_6, lit_7, lit_8, lit_12, lit_24, lit_25, lit_30, lit_60, lit_63, lit_96, lit_100, lit_512, lit_240, g1, g4.2.1, show ¬ d < 12 by omega, Sum.elim_inr]
        rfl
      · unfold fX11_step_j40 fX11_step_j89
        simp (disch := omega) only [eq_self, n_le, n_lt, n_inj, n_nat, gd_in, n_add, bi_z, bi_1, gd_bi, n_nonneg,  some_bind, lt_e, lit_NV, if_true, if_false, ite_true, ite_false, Option.bind_some, not_true, not_false_iff, lit_0, lit_1, lit_2, lit_3, lit_4, lit_5, lit_6, lit_7, lit_8, lit_12, lit_24, lit_25, lit_30, lit_60, lit_63, lit_96, lit_100, lit_512, lit_240, g5, hd12, Nat.one_ne_zero]
        exact r_step94f (t := 3) (by omega) (by omega)
    · by_cases htk : tkq q ≤ hh
      · obtain ⟨x', e1, f0, f1, f2, f3, f4, f5, f6, f7, f8⟩ := c_put8 (l := l) g4 (by omega) (by omega) hq htk
        have e2 := r_step94 (l := l) hq (show d < 12 by omega) htk (by omega) g5 g6
        have hRPc := RPc_put g4 (by omega) hq hl htk f2 f3 f4 f5 f6 f7 f8
        refine ⟨0, x', (n32 (hh - tkq q + 1)).toInt64, n32 (hh - tkq q + 1), stY (th y (n32 0)) d q l (hh - tkq q + 1), ?_, ?_, ?_, fun _ => rfl, ?_⟩
        · unfold fX10_step_j47
          simp (disch := omega) only [eq_self, n_le, n_lt, n_inj, n_nat, gd_in, n_add, bi_z, bi_1, gd_bi, n_nonneg,  some_bind, lt_e, lit_NV, if_true, if_false, ite_true, ite_false, Option.bind_some, not_true, not_false_iff, lit_0, lit_1, lit_2, lit_3, lit_4, lit_5, lit_6, lit_7, lit_8, lit_12, lit_24, lit_25, lit_30, lit_60, lit_63, lit_96, lit_100, lit_512, lit_240, g1, g4.2.1, g4.2.2.1, show d < 12 by omega, tk1, htk, e1, f8, Sum.elim_inl]
        · unfold fX11_step_j40
          simp (disch := omega) only [eq_self, n_le, n_lt, n_inj, n_nat, gd_in, n_add, bi_z, bi_1, gd_bi, n_nonneg,  some_bind, lt_e, lit_NV, if_true, if_false, ite_true, ite_false, Option.bind_some, not_true, not_false_iff, lit_0, lit_1, lit_2, lit_3, lit_4, lit_5, lit_6, lit_7, lit_8, lit_12, lit_24, lit_25, lit_30, lit_60, lit_63, lit_96, lit_100, lit_512, lit_240, g5, g6, hd12, Nat.one_ne_zero, tk2, htk]
          exact e2
        · unfold stY
          simp (disch := omega) only [gi_no]
          rfl
        · refine Rel_P h hc (fun a k q => f1 a k (by omega)) f0 (fun a k q => ?_) (fun _ => ⟨Pc, hPc, ?_, ?_, fun u hu => ?_, ⟨d + 1, hh - tkq q + 1, hRPc, ?_, ?_, fun i hi => ?_⟩, fun u hu hu7 => ?_⟩)
          · unfold stY
            simp (disch := omega) only [gi_no, th_ne]
          · rw [f1 _ _ (by omega), g1]
          · unfold stY
            simp (disch := omega) only [gi_no, th_ne, g2]
          · obtain ⟨c9, r1, r2, r3⟩ := g3 u hu
            refine ⟨c9, RPc_cg (fun a k ha => f1 a k (by omega)) r1, ?_, fun i hi => ?_⟩
            · unfold stY
              simp (disch := omega) only [gi_no, th_ne, r2]
            · rw [f1 _ _ (by omega), f1 _ _ (by omega)]
              unfold stY
              simp (disch := omega) only [gi_no, th_ne]
              exact r3 i hi
          · unfold stY
            simp (disch := omega) only [gi_no, gi_yes]
          · unfold stY
            simp (disch := omega) only [gi_yes]
          · rw [f2, f3]
            unfold stY
            by_cases e : i = d
            · rw [if_pos e, if_pos e]
              simp (disch := omega) only [gi_no, gi_yes]
              exact ⟨trivial, trivial⟩
            · rw [if_neg e, if_neg e]
              simp (disch := omega) only [gi_no, th_ne]
              exact g7 i (by omega)
          · exact RPc_cg (fun a k ha => f1 a k (by omega)) (g8 u hu hu7)
      · refine bad 3 _ _ (by omega) (by omega) ?_ ?_
        · unfold fX10_step_j47
          simp (disch := omega) only [eq_self, n_le, n_lt, n_inj, n_nat, gd_in, n_add, bi_z, bi_1, gd_bi, n_nonneg,  some_bind, lt_e, lit_NV, if_true, if_false, ite_true, ite_false, Option.bind_some, not_true, not_false_iff, lit_0, lit_1, lit_2, lit_3, lit_4, lit_5, lit_6, lit_7, lit_8, lit_12, lit_24, lit_25, lit_30, lit_60, lit_63, lit_96, lit_100, lit_512, lit_240, g1, g4.2.1, g4.2.2.1, show d < 12 by omega, tk1, htk, Sum.elim_inr]
          rfl
        · unfold fX11_step_j40 fX11_step_j89
          simp (disch := omega) only [eq_self, n_le, n_lt, n_inj, n_nat, gd_in, n_add, bi_z, bi_1, gd_bi, n_nonneg,  some_bind, lt_e, lit_NV, if_true, if_false, ite_true, ite_false, Option.bind_some, not_true, not_false_iff, lit_0, lit_1, lit_2, lit_3, lit_4, lit_5, lit_6, lit_7, lit_8, lit_12, lit_24, lit_25, lit_30, lit_60, lit_63, lit_96, lit_100, lit_512, lit_240, g5, g6, hd12, Nat.one_ne_zero, tk2, htk]
          exact r_step94f (t := 3) (by omega) (by omega)
  unfold fL_step fX10_step fX10_step_j9 fX11_step fX11_step_j19 fX11_step_j24 fX11_step_j35
  rw [hin]
  cases w1 : bw 6 p1
  · -- no such kind
    have hz1 : ∀ (A B : Option ((Int32 × St) ⊕ (Nat × St))), (if p1 < 0 then A else if p1 ≤ 5 then B else A) = A := fun A B => by
      have w1 : decide (¬ p1 < 0 ∧ p1 < n32 6) = false := w1
      by_cases q1 : p1 < 0
      · rw [if_pos q1]
      · rw [if_neg q1]
        by_cases q2 : p1 ≤ 5
        · exfalso
          have q3 : p1 < n32 6 := by
            rw [Int32.lt_iff_toInt_lt, n_toInt (by decide)]
            rw [Int32.le_iff_toInt_le] at q2
            have : (5 : Int32).toInt = 5 := rfl
            omega
          rw [decide_eq_true ⟨q1, q3⟩] at w1
          cases w1
        · rw [if_neg q2]
    rw [hz1]
    refine bad 2 _ _ (by omega) (by omega) rfl ?_
    have hj : ∀ t t' : Int32, fX11_step_j40 y p1 p2 (bi false) t t' = some (n32 0, th y (n32 2)) := fun t t' => by
      unfold fX11_step_j40
      rw [if_pos (show bi false = 0 from rfl)]
      exact r_step94f (t := 2) (by omega) (by omega)
    rw [some_bind]
    simp only [hj]
    split
    · split
      · rfl
      · split <;> rfl
    · rw [r_isLabel, some_bind]
      split
      · split
        · rfl
        · split <;> rfl
      · split
        · rfl
        · split <;> rfl
  · obtain ⟨q, hq, rfl⟩ := bw_ex (by decide) w1
    have n0 : ¬ n32 q < 0 := n_nonneg (by omega)
    have n5 : n32 q ≤ 5 := by
      show n32 q ≤ n32 5
      rw [n_le (by omega) (by omega)]
      omega
    rw [if_neg n0, if_pos n5]
    by_cases hq3 : q < 3
    · have m2 : ¬ (2 : Int32) < n32 q := by
        show ¬ n32 2 < n32 q
        rw [n_lt (by omega) (by omega)]
        omega
      have m3 : ¬ (3 : Int32) ≤ n32 q := by
        show ¬ n32 3 ≤ n32 q
        rw [n_le (by omega) (by omega)]
        omega
      have m4 : n32 q < 3 := by
        show n32 q < n32 3
        rw [n_lt (by omega) (by omega)]
        omega
      rw [if_neg m2, some_bind, if_neg m3, c_reqLabel, r_isLabel]
      cases w2 : bw 4 p2
      · refine bad 1 _ _ (by omega) (by omega) rfl ?_
        rw [some_bind, if_pos (show bi false = 0 from rfl), if_pos m4]
        unfold fX11_step_j40
        exact r_step94f (a := n32 q) (b := p2) (t := 1) (by omega) (by omega)
      · obtain ⟨l, hl, rfl⟩ := bw_ex (by decide) w2
        have := fin q l hq hl (Or.inl hq3)
        rw [some_bind, some_bind, if_neg (show ¬ bi true = 0 by decide), if_pos m4]
        exact this
    · have m2 : (2 : Int32) < n32 q := by
        show n32 2 < n32 q
        rw [n_lt (by omega) (by omega)]
        omega
      have m3 : (3 : Int32) ≤ n32 q := by
        show n32 3 ≤ n32 q
        rw [n_le (by omega) (by omega)]
        omega
      have m4 : ¬ n32 q < 3 := by
        show ¬ n32 q < n32 3
        rw [n_lt (by omega) (by omega)]
        omega
      rw [if_pos m2, some_bind, if_pos m3, if_neg m4]
      by_cases h0 : p2 = 0
      · subst h0
        rw [if_pos rfl, if_pos rfl]
        exact fin q 0 hq (by omega) (Or.inr rfl)
      · rw [if_neg h0, if_neg h0]
        refine bad 2 _ _ (by omega) (by omega) rfl ?_
        unfold fX11_step_j40
        exact r_step94f (a := n32 q) (b := p2) (t := 2) (by omega) (by omega)
theorem owes_24 : owes fLaw_c24 := fun c x y v p1 p2 p3 p4 h hc => by
  obtain ⟨N, E, T, P, R, hT, -, h2, h3, h4, h5, h6, h7, h8, h9, h10, h11, h12, h13, h14, h15⟩ := id h
  refine law_I (Q := fun x' y' => Rel (c + 1) x' y') ?_
  obtain ⟨Pc, hPc, g1, g2, g3, ⟨d, hh, g4, g5, g6, g7⟩, g8⟩ := id h13
  have hd := g4.1
  have hhd := RPc_len g4
  unfold fL_pattern fX10_pattern fX11_pattern fX11_pattern_j18
  have bad : (Pc = 6 ∨ hh ≠ 1) → agI ((if (gi x 0 10) < (6 : Int32) then gd (inb (gi x 0 10) 7) (if (gi x (78 + 6 * (gi x 0 10).toNatClampNeg) 6) = (1 : Int32) then lt (ui x 0 10 ((gi x 0 10) + (1 : Int32))) fun σ4 => some (Sum.inl ((gi x 0 10), σ4)) else some (.inr (2, x))) else some (.inr (2, x))).bind fun z => Sum.elim (fun w => some ((0 : Int32), w.2, w.1.toInt64)) (fun n => if n.1 = 2 then some ((1 : Int32), n.2, v) else none) z) (if (gi y 0 35) = (1 : Int32) then (if (gi y 0 38) = (6 : Int32) then fX11_pattern_j23 y 1 else fX11_pattern_j23 y (0 : Int32)) else fX11_pattern_j23 y 1) (fun x' y' => Rel (c + 1) x' y') := fun hb => by
    refine ⟨1, x, v, 0, th y 1, ?_, ?_, rfl, fun h => absurd h (by decide), Rel_th h hc 1⟩
    · simp (disch := omega) only [eq_self, n_le, n_lt, n_inj, n_nat, gd_in, n_add, bi_z, bi_1, gd_bi, n_nonneg,  some_bind, lt_e, lit_NV, if_true, if_false, ite_true, ite_false, Option.bind_some, not_true, not_false_iff, lit_0, lit_1, lit_2, lit_3, lit_4, lit_5, lit_6, lit_7, lit_8, lit_12, lit_24, lit_25, lit_30, lit_60, lit_63, lit_96, lit_100, lit_512, lit_240, g1, g4.2.2.1]
      by_cases e1 : Pc < 6
      · have e2 : ¬ hh = 1 := by omega
        simp (disch := omega) only [eq_self, n_le, n_lt, n_inj, n_nat, gd_in, n_add, bi_z, bi_1, gd_bi, n_nonneg,  some_bind, lt_e, lit_NV, if_true, if_false, ite_true, ite_false, Option.bind_some, not_true, not_false_iff, lit_0, lit_1, lit_2, lit_3, lit_4, lit_5, lit_6, lit_7, lit_8, lit_12, lit_24, lit_25, lit_30, lit_60, lit_63, lit_96, lit_100, lit_512, lit_240, e1, e2, Sum.elim_inr]
      · simp (disch := omega) only [eq_self, n_le, n_lt, n_inj, n_nat, gd_in, n_add, bi_z, bi_1, gd_bi, n_nonneg,  some_bind, lt_e, lit_NV, if_true, if_false, ite_true, ite_false, Option.bind_some, not_true, not_false_iff, lit_0, lit_1, lit_2, lit_3, lit_4, lit_5, lit_6, lit_7, lit_8, lit_12, lit_24, lit_25, lit_30, lit_60, lit_63, lit_96, lit_100, lit_512, lit_240, e1, Sum.elim_inr]
    · have hj : fX11_pattern_j23 y 1 = some (0, th y 1) := rfl
      rw [hj, g2, g6]
      by_cases e1 : hh = 1
      · have e2 : Pc = 6 := by omega
        subst e1
        subst e2
        rfl
      · rw [if_neg (show ¬ n32 hh = 1 from fun q => e1 (by
          have q : n32 hh = n32 1 := q
          rwa [n_inj (by omega) (by omega)] at q))]
  by_cases hb : Pc = 6 ∨ hh ≠ 1
  · exact bad hb
  · have hP6 : Pc < 6 := by omega
    have hh1 : hh = 1 := by omega
    subst hh1
    obtain ⟨y1, e1, f1, f2⟩ := loop_st (step := fX11_pattern_l33 (th y (n32 0))) d (fun k z => (∀ a j, ¬ ((a = 34 ∨ a = 35) ∧ 12 * Pc ≤ j ∧ j < 12 * Pc + 12) → gi z a j = gi (th y (n32 0)) a j) ∧ ∀ j, j < k → gi z 34 (12 * Pc + j) = gi y 31 j ∧ gi z 35 (12 * Pc + j) = gi y 32 j) (x0 := th y (n32 0)) ⟨fun _ _ _ => rfl, fun j h => absurd h (Nat.not_lt_zero j)⟩ (fun k z hk hz => by
        have c1 : gi z 0 34 = n32 d := (hz.1 _ _ (by omega)).trans ((th_ne (by omega)).trans g5)
        have c2 : gi z 0 38 = n32 Pc := (hz.1 _ _ (by omega)).trans ((th_ne (by omega)).trans g2)
        have c3 : gi z 31 k = gi y 31 k := (hz.1 _ _ (by omega)).trans (th_ne (by omega))
        have c4 : gi z 32 k = gi y 32 k := (hz.1 _ _ (by omega)).trans (th_ne (by omega))
        have hi : 12 * Pc + k < 72 := by omega
        refine ⟨ui (ui z 34 (12 * Pc + k) (gi y 31 k)) 35 (12 * Pc + k) (gi y 32 k), ?_, fun a j ha => ?_, fun j hj => ?_⟩
        · unfold fX11_pattern_l33
          simp (disch := omega) only [eq_self, n_le, n_lt, n_inj, n_nat, gd_in, n_add, bi_z, bi_1, gd_bi, n_nonneg,  some_bind, lt_e, lit_NV, if_true, if_false, ite_true, ite_false, Option.bind_some, not_true, not_false_iff, lit_0, lit_1, lit_2, lit_3, lit_4, lit_5, lit_6, lit_7, lit_8, lit_12, lit_24, lit_25, lit_30, lit_60, lit_63, lit_96, lit_100, lit_512, lit_240, c1, Nat.not_le.mpr hk, c2, n_mul, c3, c4, gi_no]
        · rw [gi_no (by omega), gi_no (by omega)]
          exact hz.1 a j ha
        · by_cases e : j = k
          · subst e
            rw [gi_no (a := 35) (b := 34) (by omega), gi_ui_eq, gi_ui_eq]
            exact ⟨rfl, rfl⟩
          · rw [gi_no (by omega), gi_no (by omega), gi_no (by omega), gi_no (by omega)]
            exact hz.2 j (by omega))
      (fun z hz => by
        have c1 : gi z 0 34 = n32 d := (hz.1 _ _ (by omega)).trans ((th_ne (by omega)).trans g5)
        unfold fX11_pattern_l33
        simp (disch := omega) only [eq_self, n_le, n_lt, n_inj, n_nat, gd_in, n_add, bi_z, bi_1, gd_bi, n_nonneg,  some_bind, lt_e, lit_NV, if_true, if_false, ite_true, ite_false, Option.bind_some, not_true, not_false_iff, lit_0, lit_1, lit_2, lit_3, lit_4, lit_5, lit_6, lit_7, lit_8, lit_12, lit_24, lit_25, lit_30, lit_60, lit_63, lit_96, lit_100, lit_512, lit_240, c1, Nat.le_refl])
    have d1 : gi y1 0 34 = n32 d := (f1 _ _ (by omega)).trans ((th_ne (by omega)).trans g5)
    have d2 : gi y1 0 38 = n32 Pc := (f1 _ _ (by omega)).trans ((th_ne (by omega)).trans g2)
    have hy : ∀ a j, ¬ ((a = 34 ∨ a = 35) ∧ 12 * Pc ≤ j ∧ j < 12 * Pc + 12) ∧ ¬ (a = 0 ∧ (j = 34 ∨ j = 35 ∨ j = 38 ∨ j = 50)) ∧ ¬ (a = 33 ∧ j = Pc) → gi (ui (ui (ui (ui y1 33 Pc (n32 d)) 0 34 (n32 0)) 0 35 (n32 0)) 0 38 (n32 (Pc + 1))) a j = gi y a j := fun a j q => by
      simp (disch := omega) only [gi_no]
      rw [f1 _ _ (by omega), th_ne (by omega)]
    refine ⟨0, ui x 0 10 (n32 (Pc + 1)), (n32 Pc).toInt64, n32 Pc, ui (ui (ui (ui y1 33 Pc (n32 d)) 0 34 (n32 0)) 0 35 (n32 0)) 0 38 (n32 (Pc + 1)), ?_, ?_, ?_, fun _ => rfl, ?_⟩
    · simp (disch := omega) only [eq_self, n_le, n_lt, n_inj, n_nat, gd_in, n_add, bi_z, bi_1, gd_bi, n_nonneg,  some_bind, lt_e, lit_NV, if_true, if_false, ite_true, ite_false, Option.bind_some, not_true, not_false_iff, lit_0, lit_1, lit_2, lit_3, lit_4, lit_5, lit_6, lit_7, lit_8, lit_12, lit_24, lit_25, lit_30, lit_60, lit_63, lit_96, lit_100, lit_512, lit_240, g1, g4.2.2.1, hP6, Sum.elim_inl]
    · unfold fX11_pattern_j23
      simp (disch := omega) only [eq_self, n_le, n_lt, n_inj, n_nat, gd_in, n_add, bi_z, bi_1, gd_bi, n_nonneg,  some_bind, lt_e, lit_NV, if_true, if_false, ite_true, ite_false, Option.bind_some, not_true, not_false_iff, lit_0, lit_1, lit_2, lit_3, lit_4, lit_5, lit_6, lit_7, lit_8, lit_12, lit_24, lit_25, lit_30, lit_60, lit_63, lit_96, lit_100, lit_512, lit_240, g6, g2, show ¬ Pc = 6 by omega, r_fails0, e1, d1, d2, gi_no, gi_yes]
      rw [n_dec (by omega) (by omega)]
      rfl
    · simp (disch := omega) only [gi_no]
      rw [f1 _ _ (by omega)]
      rfl
    · refine Rel_P h hc (fun a k q => gi_no (by omega)) (fun _ _ => rfl) (fun a k q => hy a k (by omega)) (fun _ => ⟨Pc + 1, by omega, gi_ui_eq, gi_ui_eq, fun u hu => ?_, ⟨0, 0, RPc_cg (fun a k ha => gi_no (by omega)) (g8 (Pc + 1) (by omega) (by omega)), ?_, ?_, fun i hi => absurd hi (Nat.not_lt_zero i)⟩, fun u hu hu7 => RPc_cg (fun a k ha => gi_no (by omega)) (g8 u (by omega) hu7)⟩)
      · by_cases e : u = Pc
        · subst e
          refine ⟨d, RPc_cg (fun a k ha => gi_no (by omega)) g4, ?_, fun i hi => ?_⟩
          · simp (disch := omega) only [gi_no, gi_yes]
          · obtain ⟨r1, r2⟩ := f2 i hi
            obtain ⟨r3, r4⟩ := g7 i hi
            simp (disch := omega) only [gi_no]
            exact ⟨r1.trans r3, r2.trans r4⟩
        · obtain ⟨c9, r1, r2, r3⟩ := g3 u (by omega)
          refine ⟨c9, RPc_cg (fun a k ha => gi_no (by omega)) r1, ?_, fun i hi => ?_⟩
          · rw [hy _ _ (by omega), r2]
          · have hc9 := r1.1
            rw [hy _ _ (by omega), hy _ _ (by omega), gi_no (by omega), gi_no (by omega)]
            exact r3 i hi
      · simp (disch := omega) only [gi_no, gi_yes]
      · simp (disch := omega) only [gi_no, gi_yes]
