theorem owes_30 : owes fLaw_c30 := fun c x y v p1 p2 p3 p4 h hc => by
  obtain ⟨N, E, T, P, R, h1, -, h2, h3, h4, h5, h6, h7, h8, h9, h10, h11, h12, h13, h14, h15⟩ := id h
  have hR6 := h11.1
  have hR7 := h11.2.1
  have hR42 := h11.2.2.1
  refine law_I (Q := fun x' y' => Rel (c + 1) x' y') ?_
  unfold fL_dropRule fX10_dropRule fX10_dropRule_j27 fX11_dropRule fX11_dropRule_j28 fX11_dropRule_j29
  have hin : fX11_isIn y p1 0 (n32 R - 1) = some (bi (bw R p1)) := r_isIn (y := y) (a := p1) (n := R) (by omega)
  rw [hR42, hin, some_bind, hR7]
  cases w1 : bw R p1
  · have w1 : decide (¬ p1 < 0 ∧ p1 < n32 R) = false := w1
    refine ⟨1, x, v, 0, th y 1, ?_, rfl, rfl, fun h => absurd h (by decide), Rel_th h hc 1⟩
    by_cases q1 : p1 < 0
    · rw [if_pos q1]
      rfl
    · rw [if_neg q1]
      by_cases q2 : p1 < n32 R
      · rw [decide_eq_true ⟨q1, q2⟩] at w1
        cases w1
      · rw [if_pos (by rw [← nlt_le]; exact q2)]
        rfl
  · obtain ⟨k, hk, rfl⟩ := bw_ex (by omega) w1
    obtain ⟨b, hb, hby⟩ := h11.2.2.2.2.2.2.2 k (by omega)
    rw [if_neg (n_nonneg (by omega))]
    cases b
    · have hb : gi x 27 k = n32 0 := hb
      have hby : gi y 39 k = n32 0 := hby
      have hS := SM_kno h2.1 h3 h11
      obtain ⟨y1, e1, f1⟩ := r_infNow h2.1 (RE_th (c := 0) h3) (RR_th (c := 0) h11)
      have hRR' : RR R (ui x 27 k (n32 1)) (ui y1 39 k (n32 1)) := by
        have h9 := RR_FY (RR_th (c := 0) h11) f1
        obtain ⟨g1, g2, g3, g4, g5, g6, g7, g8⟩ := h9
        refine ⟨g1, ?_, ?_, fun j => ?_, fun j => ?_, fun j => ?_, fun r hr => ?_, fun r hr => ?_⟩
        · rw [gi_no (by omega), g2]
        · rw [gi_no (by omega), g3]
        · rw [gi_no (by omega), gi_no (by omega), g4]
        · rw [gi_no (by omega), gi_no (by omega), g5]
        · rw [gi_no (by omega), gi_no (by omega), g6]
        · obtain ⟨a', b', c', q1, q2, q3, q4, q5, q6⟩ := g7 r hr
          exact ⟨a', b', c', q1, q2, q3, by rw [gi_no (by omega), q4], by rw [gi_no (by omega), q5], by rw [gi_no (by omega), q6]⟩
        · by_cases e : r = k
          · exact ⟨true, by rw [gi_yes ⟨rfl, e⟩]; rfl, by rw [gi_yes ⟨rfl, e⟩]; rfl⟩
          · rw [gi_no (by omega), gi_no (by omega)]
            exact g8 r hr
      have hE1 : RE N E (ui x 27 k (n32 1)) (ui y1 39 k (n32 1)) := RE_fr (fun q j hq => gi_no (by omega)) (fun q j hq => gi_no (by omega)) (Nat.le_refl N) (RE_FY (RE_th (c := 0) h3) f1)
      obtain ⟨x2, e2, f2, t2, k2⟩ := c_inferAnew h2.1 hE1 hRR'
      obtain ⟨y2, e3, f3⟩ := r_infNow h2.1 hE1 hRR'
      have hx : ∀ q j, q < 27 ∨ q = 28 ∨ q = 33 ∨ 37 < q → gi x2 q j = gi x q j := fun q j hq => (f2.2 q j (by omega)).trans (gi_no (by omega))
      have hy : ∀ q j, q ≠ 39 → q ≠ 40 → q ≠ 41 → ¬ (q = 0 ∧ j = 50) → gi y2 q j = gi y q j := fun q j q1 q2 q3 q4 => (f3 q j q2 q3).trans ((gi_no (by omega)).trans ((f1 q j q2 q3).trans (th_ne (by omega))))
      have hl9 : ∀ q j, gl x2 q j = gl x q j := fun q j => f2.1 q j
      have e4 := c_countInf t2 k2 (SM_kno h2.1 hE1 hRR')
      have e5 := c_countInf (RF_T h12) (RF_K h12) hS
      refine ⟨0, x2, _, n32 (tot (tol E x) (kno R E x) 96) - n32 (tot (tol E (ui x 27 k (n32 1))) (kno R E (ui x 27 k (n32 1))) 96), y2, ?_, ?_, ?_, fun _ => rfl, ?_⟩
      · simp (disch := omega) only [eq_self, n_le, n_lt, n_inj, n_nat, gd_in, n_add, bi_z, bi_1, gd_bi, n_nonneg,  some_bind, lt_e, lit_NV, if_true, if_false, ite_true, ite_false, Option.bind_some, not_true, not_false_iff, lit_0, lit_1, lit_2, lit_3, lit_4, lit_5, lit_6, lit_7, lit_8, lit_12, lit_24, lit_25, lit_30, lit_60, lit_63, lit_96, lit_100, lit_512, lit_240, hb, Nat.not_le.mpr hk, e5, e2, e4, Sum.elim_inl]
      · have e1 : fX11_inferredNow (th y (n32 0)) = some (n32 (tot (tol E x) (kno R E x) 96), y1) := e1
        simp (disch := omega) only [eq_self, n_le, n_lt, n_inj, n_nat, gd_in, n_add, bi_z, bi_1, gd_bi, n_nonneg,  some_bind, lt_e, lit_NV, if_true, if_false, ite_true, ite_false, Option.bind_some, not_true, not_false_iff, lit_0, lit_1, lit_2, lit_3, lit_4, lit_5, lit_6, lit_7, lit_8, lit_12, lit_24, lit_25, lit_30, lit_60, lit_63, lit_96, lit_100, lit_512, lit_240, Bool.true_eq_false, hby, r_fails0, e1, e3]
      · rw [f3 _ _ (by decide) (by decide), gi_no (by omega), f1 _ _ (by decide) (by decide)]
        rfl
      · refine ⟨N, E, T, P, R, by omega, by omega, ?_, ?_, ?_, ?_, ?_, ?_, fun u hu => ?_, ?_, ?_, ?_, RF_of f2 t2 k2, ?_, ?_, ?_⟩
        · exact RN_fr (fun a k q => hx _ _ (by omega)) (fun a k q => hy _ _ (by omega) (by omega) (by omega) (by omega)) h2
        · exact RE_fr (fun a k q => hx _ _ (by omega)) (fun a k q => hy _ _ (by omega) (by omega) (by omega) (by omega)) (Nat.le_refl N) h3
        · exact RT_fr (hx _ _ (by omega)) (hy _ _ (by omega) (by omega) (by omega) (by omega)) h4
        · exact RM_fr (fun a k q => hx _ _ (by omega)) (fun a k q => hy _ _ (by omega) (by omega) (by omega) (by omega)) h5
        · exact RW_fr (fun a k q => hx _ _ (by omega)) (fun a k q => hy _ _ (by omega) (by omega) (by omega) (by omega)) h6
        · exact RG_fr (fun a k q => hx _ _ (by omega)) (fun a k q => hy _ _ (by omega) (by omega) (by omega) (by omega)) h7
        · exact RX_fr hu (fun a k q => hx _ _ (by omega)) (fun a k q => hl9 _ _) (fun a k q => hy _ _ (by omega) (by omega) (by omega) (by omega)) (Nat.le_refl N) (Nat.le_refl E) (h8 u hu)
        · exact RK_fr (fun a k q => hx _ _ (by omega)) (fun a k q => hy _ _ (by omega) (by omega) (by omega) (by omega)) h9
        · exact RS_fr (fun a k q => hx _ _ (by omega)) h10
        · exact RR_fr (fun a k q => f2.2 _ _ (by omega)) (fun a k q => f3 _ _ (by omega) (by omega)) hRR'
        · exact RP_fr (fun a k q => hx _ _ (by omega)) (fun a k q => hy _ _ (by omega) (by omega) (by omega) (by omega)) h13
        · exact RQ_fr (fun a k q => hx _ _ (by omega)) h14
        · exact RC9_up (RC9_fr (fun a k q => hx _ _ (by omega)) h15)
    · have hb : gi x 27 k = n32 1 := hb
      have hby : gi y 39 k = n32 1 := hby
      refine ⟨1, x, v, 0, th y 1, ?_, ?_, rfl, fun h => absurd h (by decide), Rel_th h hc 1⟩
      · simp (disch := omega) only [eq_self, n_le, n_lt, n_inj, n_nat, gd_in, n_add, bi_z, bi_1, gd_bi, n_nonneg,  some_bind, lt_e, lit_NV, if_true, if_false, ite_true, ite_false, Option.bind_some, not_true, not_false_iff, lit_0, lit_1, lit_2, lit_3, lit_4, lit_5, lit_6, lit_7, lit_8, lit_12, lit_24, lit_25, lit_30, lit_60, lit_63, lit_96, lit_100, lit_512, lit_240, hb, Nat.not_le.mpr hk, Nat.one_ne_zero, Sum.elim_inr]
      · simp (disch := omega) only [eq_self, n_le, n_lt, n_inj, n_nat, gd_in, n_add, bi_z, bi_1, gd_bi, n_nonneg,  some_bind, lt_e, lit_NV, if_true, if_false, ite_true, ite_false, Option.bind_some, not_true, not_false_iff, lit_0, lit_1, lit_2, lit_3, lit_4, lit_5, lit_6, lit_7, lit_8, lit_12, lit_24, lit_25, lit_30, lit_60, lit_63, lit_96, lit_100, lit_512, lit_240, Bool.true_eq_false, hby, r_fails1, Nat.one_ne_zero]
/-! ### reasons -/
theorem hs_gb {p : Nat → Bool} {y : Nat} (hy : y < 32) : ∀ {n : Nat}, n ≤ 32 → hs (gat p bit1 n) y = (decide (y < n) && p y)
  | 0, _ => by rw [decide_eq_false (Nat.not_lt_zero y)]; exact hs_0 y
  | n + 1, hn => by
    rw [gat_succ]
    by_cases e : y = n
    · subst e
      have ih := hs_gb (p := p) hy (n := y) (by omega)
      rw [decide_eq_false (Nat.lt_irrefl y), Bool.false_and] at ih
      rw [decide_eq_true (Nat.lt_succ_self y), Bool.true_and]
      cases h : p y
      · simpa using ih
      · simp only [if_true]
        rw [hs_or, ih, hs_own hy]; rfl
    · have ih := hs_gb (p := p) hy (n := n) (by omega)
      rw [show decide (y < n + 1) = decide (y < n) by rw [decide_eq_decide]; omega, ← ih]
      cases h : p n
      · simp
      · simp only [if_true]
        rw [hs_or, hs_bit1 n (by omega) y hy, decide_eq_false e, Bool.or_false]
def bk (K : Nat → Nat → Int32) (l : Nat) (s : Int32) : Int32 := gat (fun n => !decide (K l n &&& s = n32 0)) bit1 24
theorem c_back {z : St} {K : Nat → Nat → Int32} (hK : KnC z K) {l : Nat} (hl : l < 4) (s : Int32) : fX1_backwards z (n32 l) s = some (bk K l s) := by
  unfold fX1_backwards bk
  rw [lit_0, loop_gat 24 (fun n => !decide (K l n &&& s = n32 0)) bit1 (fun k a hk => ?_) (fun a => ?_)]
  · rfl
  · unfold fX1_backwards_l5 fX1_backwards_j34
    simp (disch := omega) only [eq_self, n_le, n_lt, n_inj, n_nat, gd_in, n_add, bi_z, bi_1, gd_bi, n_nonneg,  some_bind, lt_e, lit_NV, if_true, if_false, ite_true, ite_false, Option.bind_some, not_true, not_false_iff, lit_0, lit_1, lit_2, lit_3, lit_4, lit_5, lit_6, lit_7, lit_8, lit_12, lit_24, lit_25, lit_30, lit_60, lit_63, lit_96, lit_100, lit_512, lit_240, Nat.not_le.mpr hk, hK l k hl hk, c_bit]
    by_cases q : K l k &&& s = n32 0 <;> simp [q]
  · unfold fX1_backwards_l5
    simp (disch := omega) only [eq_self, n_le, n_lt, n_inj, n_nat, gd_in, n_add, bi_z, bi_1, gd_bi, n_nonneg,  some_bind, lt_e, lit_NV, if_true, if_false, ite_true, ite_false, Option.bind_some, not_true, not_false_iff, lit_0, lit_1, lit_2, lit_3, lit_4, lit_5, lit_6, lit_7, lit_8, lit_12, lit_24, lit_25, lit_30, lit_60, lit_63, lit_96, lit_100, lit_512, lit_240, Nat.le_refl]
theorem and_bit1 (s : Int32) {b : Nat} (hb : b < 32) : (s &&& bit1 b = n32 0) = (hs s b = false) := by
  rw [eq_iff_iff]
  constructor
  · intro h
    have := congrArg (fun q => hs q b) h
    simp only [hs_and, hs_own hb, hs_0, Bool.and_true] at this
    exact this
  · intro h
    refine hs_ext fun i hi => ?_
    rw [hs_and, hs_bit1 b hb i hi, hs_0]
    by_cases e : i = b
    · subst e; rw [h]; rfl
    · simp [e]
/-- an edge like another -/
def lk (x : St) (a l b e : Nat) : Bool := le x e && (decide (fr x e = a) && (decide (kl x e = l) && decide (tt x e = b)))
/-- the ways of a rule from a to b -/
def wy (K : Nat → Nat → Int32) (x : St) (a b r y : Nat) : Bool := hs (K (rA x r) a) y && hs (K (rB x r) y) b
def wyr (K : Nat → Nat → Int32) (x : St) (a l b r : Nat) : Nat := if gi x 27 r = n32 0 ∧ rC x r = l then cnt (wy K x a b r) 24 else 0
def wyc (K : Nat → Nat → Int32) (x : St) (a l b R : Nat) : Nat := fold (fun r s => s + wyr K x a l b r) 0 R
theorem q_reasons {N E R : Nat} {x y : St} {v : Int64} (h2 : RN N x y) (h3 : RE N E x y) (h11 : RR R x y) (h12 : RF R E x) (p1 p2 p3 : Int32) : ∃ (c : Int32) (v' : Int64) (r : Int32) (y' : St), fL_reasons x v p1 p2 p3 = some (c, x, v') ∧ fX11_reasons y p1 p2 p3 = some (r, y') ∧ gi y' 0 50 = c ∧ (c = 0 → v' = r.toInt64) ∧ FYy (th y c) y' := by
  have hN := h2.1
  have hE := h3.1
  have hR6 := h11.1
  unfold fL_reasons fX10_reasons fX11_reasons fX11_reasons_j27 fX11_reasons_j28 fX11_reasons_j41
  rw [c_reqNode h2.2.1 hN, r_isNode h2]
  cases w1 : nd N x p1
  · exact ⟨1, v, 0, th y 1, rfl, rfl, rfl, fun h => absurd h (by decide), FYy.rf _⟩
  rw [c_reqNode h2.2.1 hN, r_isNode h2]
  cases w2 : nd N x p3
  · exact ⟨1, v, 0, th y 1, rfl, rfl, rfl, fun h => absurd h (by decide), FYy.rf _⟩
  rw [c_reqLabel, r_isLabel]
  cases w3 : bw 4 p2
  · exact ⟨1, v, 0, th y 1, rfl, rfl, rfl, fun h => absurd h (by decide), FYy.rf _⟩
  obtain ⟨a, ha, rfl, -⟩ := nd_ex hN w1
  obtain ⟨b, hb, rfl, -⟩ := nd_ex hN w2
  obtain ⟨l, hl, rfl⟩ := bw_ex (by decide) w3
  obtain ⟨y', e1, f1, t1, k1⟩ := r_infers hN (RE_th (c := 0) h3) (RR_th (c := 0) h11)
  have hK : KnC x (kno R E x) := RF_K h12
  have hS := SM_kno hN h3 h11
  have h3' := RE_FY (RE_th (c := 0) h3) f1
  have h11' := RR_FY (RR_th (c := 0) h11) f1
  generalize kno R E x = K at hK hS k1
  have cl : fX0_countLike x (n32 a) (n32 l) (n32 b) = some (n32 (cnt (lk x a l b) E)) := by
    unfold fX0_countLike
    rw [lit_0, loop_cnt E (lk x a l b) (fun k s hk hs => ?_) (fun s hs => ?_)]
    · rfl
    · obtain ⟨q1, q2, q3, q4, q5, q6⟩ := RE_at h3 hN hk
      unfold fX0_countLike_l6 fX0_countLike_j60 lk
      simp (disch := omega) only [eq_self, n_le, n_lt, n_inj, n_nat, gd_in, n_add, bi_z, bi_1, gd_bi, n_nonneg,  some_bind, lt_e, lit_NV, if_true, if_false, ite_true, ite_false, Option.bind_some, not_true, not_false_iff, lit_0, lit_1, lit_2, lit_3, lit_4, lit_5, lit_6, lit_7, lit_8, lit_12, lit_24, lit_25, lit_30, lit_60, lit_63, lit_96, lit_100, lit_512, lit_240, h3.2.1, Nat.not_le.mpr hk, c_isThereE h3.2.1 hE, ed_n hE hk, q1, q2, q3]
      cases le x k <;> by_cases z1 : fr x k = a <;> by_cases z2 : kl x k = l <;> by_cases z3 : tt x k = b <;> simp [z1, z2, z3]
    · unfold fX0_countLike_l6
      simp (disch := omega) only [eq_self, n_le, n_lt, n_inj, n_nat, gd_in, n_add, bi_z, bi_1, gd_bi, n_nonneg,  some_bind, lt_e, lit_NV, if_true, if_false, ite_true, ite_false, Option.bind_some, not_true, not_false_iff, lit_0, lit_1, lit_2, lit_3, lit_4, lit_5, lit_6, lit_7, lit_8, lit_12, lit_24, lit_25, lit_30, lit_60, lit_63, lit_96, lit_100, lit_512, lit_240, h3.2.1, Nat.le_refl]
  have rl : loopF (fX11_reasons_l59 y' (n32 a) (n32 l) (n32 b)) (n32 0, n32 0) = some (n32 (cnt (lk x a l b) E), n32 E) := by
    refine loop_cnt E (lk x a l b) (fun k s hk hs => ?_) (fun s hs => ?_)
    · obtain ⟨q1, q2, q3, q4, q5, q6⟩ := RE_at h3 hN hk
      obtain ⟨-, -, hc, g1, g2, g3, -⟩ := id h3'
      unfold fX11_reasons_l59 fX11_reasons_j116 fX11_reasons_j117 lk
      simp (disch := omega) only [eq_self, n_le, n_lt, n_inj, n_nat, gd_in, n_add, bi_z, bi_1, gd_bi, n_nonneg,  some_bind, lt_e, lit_NV, if_true, if_false, ite_true, ite_false, Option.bind_some, not_true, not_false_iff, lit_0, lit_1, lit_2, lit_3, lit_4, lit_5, lit_6, lit_7, lit_8, lit_12, lit_24, lit_25, lit_30, lit_60, lit_63, lit_96, lit_100, lit_512, lit_240, hc, Nat.not_le.mpr hk, r_isEdge h3', ed_n hE hk, g1, g2, g3, q1, q2, q3]
      cases le x k <;> by_cases z1 : fr x k = a <;> by_cases z2 : kl x k = l <;> by_cases z3 : tt x k = b <;> simp [z1, z2, z3]
    · unfold fX11_reasons_l59
      simp (disch := omega) only [eq_self, n_le, n_lt, n_inj, n_nat, gd_in, n_add, bi_z, bi_1, gd_bi, n_nonneg,  some_bind, lt_e, lit_NV, if_true, if_false, ite_true, ite_false, Option.bind_some, not_true, not_false_iff, lit_0, lit_1, lit_2, lit_3, lit_4, lit_5, lit_6, lit_7, lit_8, lit_12, lit_24, lit_25, lit_30, lit_60, lit_63, lit_96, lit_100, lit_512, lit_240, h3'.2.2.1, Nat.le_refl]
  have cw : fX1_countWays x (n32 a) (n32 l) (n32 b) = some (n32 (wyc K x a l b R)) := by
    have e := loop_ia (step := fX1_countWays_l6 x (n32 a) (n32 l) (n32 b)) R (fun r => wyc K x a l b r) (fun r hr => by
        obtain ⟨q1, q2, q3, q4, q5, q6⟩ := RR_at h11 hr
        obtain ⟨d, hd, -⟩ := h11.2.2.2.2.2.2.2 r (by omega)
        show _ = some (Sum.inl (n32 (wyc K x a l b r + wyr K x a l b r), n32 (r + 1)))
        have hcnt : cnt (hs (K (rA x r) a &&& bk K (rB x r) (bit1 b))) 24 = cnt (wy K x a b r) 24 := cnt_cg fun i hi => by
          unfold wy bk
          rw [hs_and, hs_gb (show i < 32 by omega) (by decide), decide_eq_true hi, Bool.true_and]
          simp only [and_bit1 _ (show b < 32 by omega)]
          cases hs (K (rB x r) i) b <;> simp
        unfold fX1_countWays_l6 fX1_countWays_j74 wyr
        simp (disch := omega) only [eq_self, n_le, n_lt, n_inj, n_nat, gd_in, n_add, bi_z, bi_1, gd_bi, n_nonneg,  some_bind, lt_e, lit_NV, if_true, if_false, ite_true, ite_false, Option.bind_some, not_true, not_false_iff, lit_0, lit_1, lit_2, lit_3, lit_4, lit_5, lit_6, lit_7, lit_8, lit_12, lit_24, lit_25, lit_30, lit_60, lit_63, lit_96, lit_100, lit_512, lit_240, h11.2.1, Nat.not_le.mpr hr, hd, q1, q2, q3, c_bit, c_back hK q5, hK _ a q4 (show a < 24 by omega), c_bitCount (sml_and (t := bk K (rB x r) (bit1 b)) (hS (rA x r) a)), hcnt]
        cases d <;> by_cases z : rC x r = l <;> simp [z])
      (by
        unfold fX1_countWays_l6
        simp (disch := omega) only [eq_self, n_le, n_lt, n_inj, n_nat, gd_in, n_add, bi_z, bi_1, gd_bi, n_nonneg,  some_bind, lt_e, lit_NV, if_true, if_false, ite_true, ite_false, Option.bind_some, not_true, not_false_iff, lit_0, lit_1, lit_2, lit_3, lit_4, lit_5, lit_6, lit_7, lit_8, lit_12, lit_24, lit_25, lit_30, lit_60, lit_63, lit_96, lit_100, lit_512, lit_240, h11.2.1, Nat.le_refl])
    have e : loopF (fX1_countWays_l6 x (n32 a) (n32 l) (n32 b)) (0, 0) = some (n32 (wyc K x a l b R), n32 R) := e
    unfold fX1_countWays
    rw [e]
    rfl
  have rw9 : ∀ s0 : Nat, loopF (fX11_reasons_l129 y' (n32 a) (n32 l) (n32 b)) (n32 s0, n32 0) = some (n32 (s0 + wyc K x a l b R), n32 R) := fun s0 => by
    have hc : gi y' 0 42 = n32 R := h11'.2.2.1
    refine loop_ia (step := fX11_reasons_l129 y' (n32 a) (n32 l) (n32 b)) R (fun r => s0 + wyc K x a l b r) (fun r hr => ?_) ?_
    · obtain ⟨q1, q2, q3, q4, q5, q6⟩ := RR_at h11 hr
      obtain ⟨-, -, -, r1, r2, r3, -, r5⟩ := id h11'
      obtain ⟨d, hd, hdy⟩ := r5 r (by omega)
      have g1 : gi y' 36 r = n32 (rA x r) := (r1 r).trans q1
      have g2 : gi y' 37 r = n32 (rB x r) := (r2 r).trans q2
      have g3 : gi y' 38 r = n32 (rC x r) := (r3 r).trans q3
      have i1 : 24 * rA x r + a < 96 := by omega
      have key : ∃ j, loopF (fX11_reasons_l141 y' (n32 a) (n32 l) (n32 b) (n32 r)) (n32 (s0 + wyc K x a l b r), n32 0) = some (n32 (s0 + wyc K x a l b r + wyr K x a l b r), j) := by
        generalize s0 + wyc K x a l b r = s1
        unfold wyr
        by_cases z : d = false ∧ rC x r = l
        · obtain ⟨rfl, z⟩ := z
          have hd : gi x 27 r = n32 0 := hd
          have hdy : gi y' 39 r = n32 0 := hdy
          rw [if_pos ⟨hd, z⟩]
          refine ⟨n32 24, loop_ia (step := fX11_reasons_l141 y' (n32 a) (n32 l) (n32 b) (n32 r)) 24 (fun i => s1 + cnt (wy K x a b r) i) (fun i hi => ?_) ?_⟩
          · have i2 : 24 * rB x r + i < 96 := by omega
            show _ = some (Sum.inl (n32 (s1 + (if wy K x a b r i then cnt (wy K x a b r) i + 1 else cnt (wy K x a b r) i)), n32 (i + 1)))
            unfold fX11_reasons_l141 fX11_reasons_j225 fX11_reasons_j226 wy
            simp (disch := omega) only [eq_self, n_le, n_lt, n_inj, n_nat, gd_in, n_add, bi_z, bi_1, gd_bi, n_nonneg,  some_bind, lt_e, lit_NV, if_true, if_false, ite_true, ite_false, Option.bind_some, not_true, not_false_iff, lit_0, lit_1, lit_2, lit_3, lit_4, lit_5, lit_6, lit_7, lit_8, lit_12, lit_24, lit_25, lit_30, lit_60, lit_63, lit_96, lit_100, lit_512, lit_240, Nat.not_le.mpr hi, hdy, g1, g2, g3, z, n_mul, k1 _ a q4 (show a < 24 by omega), k1 _ i q5 hi, r_has (K (rA x r) a) (show i < 32 by omega), r_has (K (rB x r) i) (show b < 32 by omega)]
            cases hs (K (rA x r) a) i <;> cases hs (K (rB x r) i) b <;> simp [Nat.add_assoc]
          · unfold fX11_reasons_l141
            simp (disch := omega) only [eq_self, n_le, n_lt, n_inj, n_nat, gd_in, n_add, bi_z, bi_1, gd_bi, n_nonneg,  some_bind, lt_e, lit_NV, if_true, if_false, ite_true, ite_false, Option.bind_some, not_true, not_false_iff, lit_0, lit_1, lit_2, lit_3, lit_4, lit_5, lit_6, lit_7, lit_8, lit_12, lit_24, lit_25, lit_30, lit_60, lit_63, lit_96, lit_100, lit_512, lit_240, Nat.le_refl]
        · rw [if_neg (fun q => z ⟨by rw [hd, bi_z] at q; exact q.1, q.2⟩)]
          refine ⟨n32 0, loopF_end ?_⟩
          unfold fX11_reasons_l141
          simp (disch := omega) only [eq_self, n_le, n_lt, n_inj, n_nat, gd_in, n_add, bi_z, bi_1, gd_bi, n_nonneg,  some_bind, lt_e, lit_NV, if_true, if_false, ite_true, ite_false, Option.bind_some, not_true, not_false_iff, lit_0, lit_1, lit_2, lit_3, lit_4, lit_5, lit_6, lit_7, lit_8, lit_12, lit_24, lit_25, lit_30, lit_60, lit_63, lit_96, lit_100, lit_512, lit_240, hdy, g3]
          cases d
          · have z : ¬ rC x r = l := fun q => z ⟨rfl, q⟩
            simp [z]
          · simp
      obtain ⟨j, e⟩ := key
      show _ = some (Sum.inl (n32 (s0 + (wyc K x a l b r + wyr K x a l b r)), n32 (r + 1)))
      unfold fX11_reasons_l129
      simp (disch := omega) only [eq_self, n_le, n_lt, n_inj, n_nat, gd_in, n_add, bi_z, bi_1, gd_bi, n_nonneg,  some_bind, lt_e, lit_NV, if_true, if_false, ite_true, ite_false, Option.bind_some, not_true, not_false_iff, lit_0, lit_1, lit_2, lit_3, lit_4, lit_5, lit_6, lit_7, lit_8, lit_12, lit_24, lit_25, lit_30, lit_60, lit_63, lit_96, lit_100, lit_512, lit_240, hc, Nat.not_le.mpr hr, e]
      rw [Nat.add_assoc]
    · unfold fX11_reasons_l129
      simp (disch := omega) only [eq_self, n_le, n_lt, n_inj, n_nat, gd_in, n_add, bi_z, bi_1, gd_bi, n_nonneg,  some_bind, lt_e, lit_NV, if_true, if_false, ite_true, ite_false, Option.bind_some, not_true, not_false_iff, lit_0, lit_1, lit_2, lit_3, lit_4, lit_5, lit_6, lit_7, lit_8, lit_12, lit_24, lit_25, lit_30, lit_60, lit_63, lit_96, lit_100, lit_512, lit_240, hc, Nat.le_refl]
  refine ⟨0, _, n32 (cnt (lk x a l b) E + wyc K x a l b R), y', ?_, ?_, ?_, fun _ => rfl, f1⟩
  · simp (disch := omega) only [eq_self, n_le, n_lt, n_inj, n_nat, gd_in, n_add, bi_z, bi_1, gd_bi, n_nonneg,  some_bind, lt_e, lit_NV, if_true, if_false, ite_true, ite_false, Option.bind_some, not_true, not_false_iff, lit_0, lit_1, lit_2, lit_3, lit_4, lit_5, lit_6, lit_7, lit_8, lit_12, lit_24, lit_25, lit_30, lit_60, lit_63, lit_96, lit_100, lit_512, lit_240, Sum.elim_inl, cl, cw]
  · have e1 : fX11_infers (th y (n32 0)) = some y' := e1
    simp (disch := omega) only [eq_self, n_le, n_lt, n_inj, n_nat, gd_in, n_add, bi_z, bi_1, gd_bi, n_nonneg,  some_bind, lt_e, lit_NV, if_true, if_false, ite_true, ite_false, Option.bind_some, not_true, not_false_iff, lit_0, lit_1, lit_2, lit_3, lit_4, lit_5, lit_6, lit_7, lit_8, lit_12, lit_24, lit_25, lit_30, lit_60, lit_63, lit_96, lit_100, lit_512, lit_240, Bool.true_eq_false, Nat.one_ne_zero, r_fails0, e1, rl, rw9]
  · rw [f1 _ _ (by decide) (by decide)]
    rfl
theorem owes_32 : owes fLaw_c32 := fun c x y v p1 p2 p3 p4 h hc => by
  obtain ⟨N, E, T, P, R, h1, -, h2, h3, h4, h5, h6, h7, h8, h9, h10, h11, h12, -⟩ := id h
  refine law_I (Q := fun x' y' => Rel (c + 1) x' y') ?_
  obtain ⟨q, v', r, y', e1, e2, e3, e4, f⟩ := q_reasons (v := v) h2 h3 h11 h12 p1 p2 p3
  exact ⟨q, x, v', r, y', e1, e2, e3, e4, Rel_Y h hc q f⟩
