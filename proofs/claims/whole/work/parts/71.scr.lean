/-! ### scratch rows: nothing of the relation lies there -/
theorem Rel_scr {x x' y y' : St} {c : Nat} (h : Rel c x y) (hc : c < 512) (hx : ∀ a j, a < 40 ∨ (52 < a ∧ a ≠ 55 ∧ a ≠ 120) → gi x' a j = gi x a j) (hl9 : ∀ a j, gl x' a j = gl x a j) (hy : ∀ a j, a ≠ 9 → (a < 40 ∨ 42 < a) → ¬ (a = 0 ∧ j = 50) → gi y' a j = gi y a j) : Rel (c + 1) x' y' := by
  obtain ⟨N, E, T, P, R, h1, -, h2, h3, h4, h5, h6, h7, h8, h9, h10, h11, h12, h13, h14, h15⟩ := h
  refine ⟨N, E, T, P, R, by omega, by omega, ?_, ?_, ?_, ?_, ?_, ?_, fun u hu => ?_, ?_, ?_, ?_, ?_, ?_, ?_, ?_⟩
  · exact RN_fr (fun a k q => hx _ _ (by omega)) (fun a k q => hy _ _ (by omega) (by omega) (by omega)) h2
  · exact RE_fr (fun a k q => hx _ _ (by omega)) (fun a k q => hy _ _ (by omega) (by omega) (by omega)) (Nat.le_refl N) h3
  · exact RT_fr (hx _ _ (by omega)) (hy _ _ (by omega) (by omega) (by omega)) h4
  · exact RM_fr (fun a k q => hx _ _ (by omega)) (fun a k q => hy _ _ (by omega) (by omega) (by omega)) h5
  · exact RW_fr (fun a k q => hx _ _ (by omega)) (fun a k q => hy _ _ (by omega) (by omega) (by omega)) h6
  · exact RG_fr (fun a k q => hx _ _ (by omega)) (fun a k q => hy _ _ (by omega) (by omega) (by omega)) h7
  · exact RX_fr hu (fun a k q => hx _ _ (by omega)) (fun a k q => hl9 _ _) (fun a k q => hy _ _ (by omega) (by omega) (by omega)) (Nat.le_refl N) (Nat.le_refl E) (h8 u hu)
  · exact RK_fr (fun a k q => hx _ _ (by omega)) (fun a k q => hy _ _ (by omega) (by omega) (by omega)) h9
  · exact RS_fr (fun a k q => hx _ _ (by omega)) h10
  · exact RR_fr (fun a k q => hx _ _ (by omega)) (fun a k q => hy _ _ (by omega) (by omega) (by omega)) h11
  · exact RF_fr (fun a k q => hx _ _ (by omega)) h12
  · exact RP_fr (fun a k q => hx _ _ (by omega)) (fun a k q => hy _ _ (by omega) (by omega) (by omega)) h13
  · exact RQ_fr (fun a k q => hx _ _ (by omega)) h14
  · exact RC9_up (RC9_fr (fun a k q => hx _ _ (by omega)) h15)
theorem Rel_Y {x y y' : St} {c : Nat} (h : Rel c x y) (hc : c < 512) (q : Int32) (hf : FYy (th y q) y') : Rel (c + 1) x y' :=
  Rel_scr h hc (fun _ _ _ => rfl) (fun _ _ => rfl) fun a j h1 h2 h3 => by rw [hf a j (by omega) (by omega), th_ne (by omega)]
/-! ### the count of what is inferred -/
theorem loop_ia {step : Int32 × Int32 → Option ((Int32 × Int32) ⊕ (Int32 × Int32))} (N : Nat) (v : Nat → Nat) (hb : ∀ k, k < N → step (n32 (v k), n32 k) = some (.inl (n32 (v (k + 1)), n32 (k + 1)))) (he : step (n32 (v N), n32 N) = some (.inr (n32 (v N), n32 N))) : loopF step (n32 (v 0), n32 0) = some (n32 (v N), n32 N) := loopF_seq (fun k => (n32 (v k), n32 k)) N hb he
def df (T K : Nat → Nat → Int32) (l n : Nat) : Int32 := K l n &&& (T l n ^^^ -n32 1)
def tot (T K : Nat → Nat → Int32) (m : Nat) : Nat := fold (fun k a => a + cnt (hs (df T K (k / 24) (k % 24))) 24) 0 m
theorem tot_at (T K : Nat → Nat → Int32) (l : Nat) {k : Nat} (hk : k < 24) : tot T K (24 * l + (k + 1)) = tot T K (24 * l + k) + cnt (hs (df T K l k)) 24 := by
  show tot T K (24 * l + k) + cnt (hs (df T K ((24 * l + k) / 24) ((24 * l + k) % 24))) 24 = _
  rw [show (24 * l + k) / 24 = l by omega, show (24 * l + k) % 24 = k by omega]
theorem sml_and {s t : Int32} (h : sml s) : sml (s &&& t) := fun i hi => by rw [hs_and, h i hi]; rfl
theorem c_countInf {z : St} {T K : Nat → Nat → Int32} (hT : TnC z T) (hK : KnC z K) (hS : SM K) : fX1_countInferred z = some (n32 (tot T K 96)) := by
  have e := loop_ia (step := fX1_countInferred_l4 z) 4 (fun l => tot T K (24 * l)) (fun l hl => by
      have e := loop_ia (step := fX1_countInferred_l11 z (n32 l)) 24 (fun k => tot T K (24 * l + k)) (fun k hk => by
          show _ = some (Sum.inl (n32 (tot T K (24 * l + (k + 1))), n32 (k + 1)))
          rw [tot_at T K l hk]
          unfold fX1_countInferred_l11
          simp (disch := omega) only [eq_self, n_le, n_lt, n_inj, n_nat, gd_in, n_add, bi_z, bi_1, gd_bi, n_nonneg,  some_bind, lt_e, lit_NV, if_true, if_false, ite_true, ite_false, Option.bind_some, not_true, not_false_iff, lit_0, lit_1, lit_2, lit_3, lit_4, lit_5, lit_6, lit_7, lit_8, lit_12, lit_24, lit_25, lit_30, lit_60, lit_63, lit_96, lit_100, lit_512, lit_240, Nat.not_le.mpr hk, hT l k hl hk, hK l k hl hk, c_bitCount (sml_and (t := T l k ^^^ -n32 1) (hS l k))]
          rfl)
        (by
          unfold fX1_countInferred_l11
          simp (disch := omega) only [eq_self, n_le, n_lt, n_inj, n_nat, gd_in, n_add, bi_z, bi_1, gd_bi, n_nonneg,  some_bind, lt_e, lit_NV, if_true, if_false, ite_true, ite_false, Option.bind_some, not_true, not_false_iff, lit_0, lit_1, lit_2, lit_3, lit_4, lit_5, lit_6, lit_7, lit_8, lit_12, lit_24, lit_25, lit_30, lit_60, lit_63, lit_96, lit_100, lit_512, lit_240, Nat.le_refl])
      have e : loopF (fX1_countInferred_l11 z (n32 l)) (n32 (tot T K (24 * l)), n32 0) = some (n32 (tot T K (24 * l + 24)), n32 24) := e
      unfold fX1_countInferred_l4
      simp (disch := omega) only [eq_self, n_le, n_lt, n_inj, n_nat, gd_in, n_add, bi_z, bi_1, gd_bi, n_nonneg,  some_bind, lt_e, lit_NV, if_true, if_false, ite_true, ite_false, Option.bind_some, not_true, not_false_iff, lit_0, lit_1, lit_2, lit_3, lit_4, lit_5, lit_6, lit_7, lit_8, lit_12, lit_24, lit_25, lit_30, lit_60, lit_63, lit_96, lit_100, lit_512, lit_240, Nat.not_le.mpr hl, e]
      rw [show 24 * (l + 1) = 24 * l + 24 by omega])
    (by
      unfold fX1_countInferred_l4
      simp (disch := omega) only [eq_self, n_le, n_lt, n_inj, n_nat, gd_in, n_add, bi_z, bi_1, gd_bi, n_nonneg,  some_bind, lt_e, lit_NV, if_true, if_false, ite_true, ite_false, Option.bind_some, not_true, not_false_iff, lit_0, lit_1, lit_2, lit_3, lit_4, lit_5, lit_6, lit_7, lit_8, lit_12, lit_24, lit_25, lit_30, lit_60, lit_63, lit_96, lit_100, lit_512, lit_240, Nat.le_refl])
  have e : loopF (fX1_countInferred_l4 z) (0, 0) = some (n32 (tot T K 96), n32 4) := e
  unfold fX1_countInferred
  rw [e]
  rfl
theorem r_infNow {N E R : Nat} {x y : St} (hN : N ≤ 24) (h : RE N E x y) (hR : RR R x y) : ∃ y', fX11_inferredNow y = some (n32 (tot (tol E x) (kno R E x) 96), y') ∧ FYy y y' := by
  obtain ⟨y', e, f, hT, hK⟩ := r_infers hN h hR
  refine ⟨y', ?_, f⟩
  have e2 := loop_ia (step := fX11_inferredNow_l8 y') 96 (fun k => tot (tol E x) (kno R E x) k) (fun k hk => by
      have q1 := hT (k / 24) (k % 24) (by omega) (by omega)
      have q2 := hK (k / 24) (k % 24) (by omega) (by omega)
      rw [show 24 * (k / 24) + k % 24 = k by omega] at q1 q2
      unfold fX11_inferredNow_l8
      simp (disch := omega) only [eq_self, n_le, n_lt, n_inj, n_nat, gd_in, n_add, bi_z, bi_1, gd_bi, n_nonneg,  some_bind, lt_e, lit_NV, if_true, if_false, ite_true, ite_false, Option.bind_some, not_true, not_false_iff, lit_0, lit_1, lit_2, lit_3, lit_4, lit_5, lit_6, lit_7, lit_8, lit_12, lit_24, lit_25, lit_30, lit_60, lit_63, lit_96, lit_100, lit_512, lit_240, Nat.not_le.mpr hk, q1, q2, r_size]
      rfl)
    (by
      unfold fX11_inferredNow_l8
      simp (disch := omega) only [eq_self, n_le, n_lt, n_inj, n_nat, gd_in, n_add, bi_z, bi_1, gd_bi, n_nonneg,  some_bind, lt_e, lit_NV, if_true, if_false, ite_true, ite_false, Option.bind_some, not_true, not_false_iff, lit_0, lit_1, lit_2, lit_3, lit_4, lit_5, lit_6, lit_7, lit_8, lit_12, lit_24, lit_25, lit_30, lit_60, lit_63, lit_96, lit_100, lit_512, lit_240, Nat.le_refl])
  have e2 : loopF (fX11_inferredNow_l8 y') (0, 0) = some (n32 (tot (tol E x) (kno R E x) 96), n32 96) := e2
  unfold fX11_inferredNow
  rw [e, some_bind, e2]
  rfl
theorem RF_T {R E : Nat} {x : St} (h : RF R E x) : TnC x (tol E x) := fun l n hl hn => (h l n hl hn).1
theorem RF_K {R E : Nat} {x : St} (h : RF R E x) : KnC x (kno R E x) := fun l n hl hn => (h l n hl hn).2
theorem RF_of {R E : Nat} {x x' : St} (hf : FXx x x') (hT : TnC x' (tol E x)) (hK : KnC x' (kno R E x)) : RF R E x' := fun l n hl hn => by
  rw [tol_cg (fun k => hf.2 _ _ (by omega)) (fun k => hf.2 _ _ (by omega)) (fun k => hf.2 _ _ (by omega)) (fun k => hf.2 _ _ (by omega)), kno_cg (fun k => hf.2 _ _ (by omega)) (fun k => hf.2 _ _ (by omega)) (fun k => hf.2 _ _ (by omega)) (fun k => hf.2 _ _ (by omega)) (fun k => hf.2 _ _ (by omega)) (fun k => hf.2 _ _ (by omega)) (fun k => hf.2 _ _ (by omega)) (fun k => hf.2 _ _ (by omega))]
  exact ⟨hT l n hl hn, hK l n hl hn⟩
theorem SM_kno {N R E : Nat} {x y : St} (hN : N ≤ 24) (h : RE N E x y) (hR : RR R x y) : SM (kno R E x) := SM_wys hN h hR 2305
theorem owes_31 : owes fLaw_c31 := fun c x y v p1 p2 p3 p4 h hc => by
  obtain ⟨N, E, T, P, R, -, -, h2, h3, h4, h5, h6, h7, h8, h9, h10, h11, h12, -⟩ := id h
  obtain ⟨y', e, f⟩ := r_infNow h2.1 (RE_th (c := 0) h3) (RR_th (c := 0) h11)
  refine ⟨(x, y', v), ?_, Rel_Y h hc 0 f⟩
  have e : fX11_inferredNow (ui y 0 50 0) = some _ := e
  unfold fLaw_c31 fX10_inferred fX11_inferred
  rw [c_countInf (RF_T h12) (RF_K h12) (SM_kno h2.1 h3 h11), lt_e, e]
  show (if n32 _ = n32 _ then _ else _) = _
  rw [if_pos rfl]
/-! ### rules come and go -/
def ruX (x : St) (R a b c : Nat) : St := ui (ui (ui (ui x 23 7 (n32 (R + 1))) 24 R (n32 a)) 25 R (n32 b)) 26 R (n32 c)
def ruY (y : St) (R a b c : Nat) : St := ui (ui (ui (ui y 36 R (n32 a)) 37 R (n32 b)) 38 R (n32 c)) 0 42 (n32 (R + 1))
theorem ruX_o {x : St} {R a b c q j : Nat} (h : (q < 23 ∨ 26 < q)) : gi (ruX x R a b c) q j = gi x q j := by
  unfold ruX
  simp (disch := omega) only [gi_no]
theorem ruY_o {y : St} {R a b c q j : Nat} (h : (q < 36 ∨ 38 < q) ∧ ¬ (q = 0 ∧ j = 42)) : gi (ruY y R a b c) q j = gi y q j := by
  unfold ruY
  simp (disch := omega) only [gi_no]
theorem RR_ru {R a b c : Nat} {x y : St} (hR : RR R x y) (h6 : R < 6) (ha : a < 4) (hb : b < 4) (hc : c < 4) : RR (R + 1) (ruX x R a b c) (ruY y R a b c) := by
  obtain ⟨h1, h2, h3, h4, h5, h7, h8, h9⟩ := hR
  refine ⟨by omega, ?_, ?_, fun k => ?_, fun k => ?_, fun k => ?_, fun r hr => ?_, fun r hr => ?_⟩
  · unfold ruX
    simp (disch := omega) only [gi_no, gi_yes]
  · unfold ruY
    simp (disch := omega) only [gi_yes]
  · unfold ruX ruY
    by_cases e : k = R
    · simp (disch := omega) only [gi_no, gi_yes]
    · simp (disch := omega) only [gi_no, h4]
  · unfold ruX ruY
    by_cases e : k = R
    · simp (disch := omega) only [gi_no, gi_yes]
    · simp (disch := omega) only [gi_no, h5]
  · unfold ruX ruY
    by_cases e : k = R
    · simp (disch := omega) only [gi_no, gi_yes]
    · simp (disch := omega) only [gi_no, h7]
  · by_cases e : r = R
    · refine ⟨a, b, c, ha, hb, hc, ?_, ?_, ?_⟩ <;> unfold ruX <;> simp (disch := omega) only [gi_no, gi_yes]
    · obtain ⟨a', b', c', q1, q2, q3, q4, q5, q6⟩ := h8 r (by omega)
      refine ⟨a', b', c', q1, q2, q3, ?_, ?_, ?_⟩ <;> unfold ruX <;> simp (disch := omega) only [gi_no, q4, q5, q6]
  · rw [ruX_o (by omega), ruY_o (by omega)]
    exact h9 r hr
theorem owes_29 : owes fLaw_c29 := fun c x y v p1 p2 p3 p4 h hc => by
  obtain ⟨N, E, T, P, R, h1, -, h2, h3, h4, h5, h6, h7, h8, h9, h10, h11, h12, h13, h14, h15⟩ := id h
  have hR6 := h11.1
  have hR7 := h11.2.1
  have hR42 := h11.2.2.1
  refine law_I (Q := fun x' y' => Rel (c + 1) x' y') ?_
  unfold fL_rule fX10_rule fX11_rule fX11_rule_j25 fX11_rule_j26 fX11_rule_j52
  rw [c_reqLabel, r_isLabel]
  cases w1 : bw 4 p1
  · exact ⟨1, x, v, 0, th y 1, rfl, rfl, rfl, fun h => absurd h (by decide), Rel_th h hc 1⟩
  rw [c_reqLabel, r_isLabel]
  cases w2 : bw 4 p2
  · exact ⟨1, x, v, 0, th y 1, rfl, rfl, rfl, fun h => absurd h (by decide), Rel_th h hc 1⟩
  rw [c_reqLabel, r_isLabel]
  cases w3 : bw 4 p3
  · exact ⟨1, x, v, 0, th y 1, rfl, rfl, rfl, fun h => absurd h (by decide), Rel_th h hc 1⟩
  obtain ⟨a, ha, rfl⟩ := bw_ex (by decide) w1
  obtain ⟨b, hb, rfl⟩ := bw_ex (by decide) w2
  obtain ⟨d, hd, rfl⟩ := bw_ex (by decide) w3
  by_cases hR : R = 6
  · subst hR
    refine ⟨2, x, v, 0, th y 2, ?_, ?_, rfl, fun h => absurd h (by decide), Rel_th h hc 2⟩
    · simp (disch := omega) only [eq_self, n_le, n_lt, n_inj, n_nat, gd_in, n_add, bi_z, bi_1, gd_bi, n_nonneg,  some_bind, lt_e, lit_NV, if_true, if_false, ite_true, ite_false, Option.bind_some, not_true, not_false_iff, lit_0, lit_1, lit_2, lit_3, lit_4, lit_5, lit_6, lit_7, lit_8, lit_12, lit_24, lit_25, lit_30, lit_60, lit_63, lit_96, lit_100, lit_512, lit_240, Sum.elim_inl, hR7, Nat.lt_irrefl, Sum.elim_inr]
      rfl
    · simp (disch := omega) only [eq_self, n_le, n_lt, n_inj, n_nat, gd_in, n_add, bi_z, bi_1, gd_bi, n_nonneg,  some_bind, lt_e, lit_NV, if_true, if_false, ite_true, ite_false, Option.bind_some, not_true, not_false_iff, lit_0, lit_1, lit_2, lit_3, lit_4, lit_5, lit_6, lit_7, lit_8, lit_12, lit_24, lit_25, lit_30, lit_60, lit_63, lit_96, lit_100, lit_512, lit_240, Bool.true_eq_false, hR42, r_fails2, Nat.one_ne_zero]
  · have hR5 : R < 6 := by omega
    have hE' : RE N E (ruX x R a b d) (ruY (th y 0) R a b d) := RE_fr (fun q k hq => ruX_o (by omega)) (fun q k hq => ruY_o (by omega)) (Nat.le_refl N) (RE_th h3)
    have hRR' : RR (R + 1) (ruX x R a b d) (ruY (th y 0) R a b d) := RR_ru (RR_th h11) hR5 ha hb hd
    obtain ⟨x2, e2, f2, t2, k2⟩ := c_inferAnew h2.1 hE' hRR'
    have hx : ∀ q k, q < 23 ∨ q = 28 ∨ q = 33 ∨ 37 < q → gi x2 q k = gi x q k := fun q k hq => (f2.2 q k (by omega)).trans (ruX_o (by omega))
    have hy : ∀ q k, q < 36 ∨ 38 < q → ¬ (q = 0 ∧ (k = 42 ∨ k = 50)) → gi (ruY (th y 0) R a b d) q k = gi y q k := fun q k hq hk => by rw [ruY_o (by omega), th_ne (by omega)]
    have hl9 : ∀ q k, gl x2 q k = gl x q k := fun q k => f2.1 q k
    refine ⟨0, x2, (n32 R).toInt64, n32 R, ruY (th y 0) R a b d, ?_, ?_, rfl, fun _ => rfl, ?_⟩
    · have e2 : fX1_inferAnew (ui (ui (ui (ui x 23 7 (n32 (R + 1))) 24 R (n32 a)) 25 R (n32 b)) 26 R (n32 d)) = some x2 := e2
      unfold fX1_addRule
      simp (disch := omega) only [eq_self, n_le, n_lt, n_inj, n_nat, gd_in, n_add, bi_z, bi_1, gd_bi, n_nonneg,  some_bind, lt_e, lit_NV, if_true, if_false, ite_true, ite_false, Option.bind_some, not_true, not_false_iff, lit_0, lit_1, lit_2, lit_3, lit_4, lit_5, lit_6, lit_7, lit_8, lit_12, lit_24, lit_25, lit_30, lit_60, lit_63, lit_96, lit_100, lit_512, lit_240, Sum.elim_inl, hR7, hR5, e2]
    · unfold ruY
      simp (disch := omega) only [eq_self, n_le, n_lt, n_inj, n_nat, gd_in, n_add, bi_z, bi_1, gd_bi, n_nonneg,  some_bind, lt_e, lit_NV, if_true, if_false, ite_true, ite_false, Option.bind_some, not_true, not_false_iff, lit_0, lit_1, lit_2, lit_3, lit_4, lit_5, lit_6, lit_7, lit_8, lit_12, lit_24, lit_25, lit_30, lit_60, lit_63, lit_96, lit_100, lit_512, lit_240, Bool.true_eq_false, hR42, hR, r_fails0, th_ne, gi_no, gi_yes]
      rw [n_dec (by omega) (by omega)]
      rfl
    · refine ⟨N, E, T, P, R + 1, by omega, by omega, ?_, ?_, ?_, ?_, ?_, ?_, fun u hu => ?_, ?_, ?_, ?_, RF_of f2 t2 k2, ?_, ?_, ?_⟩
      · exact RN_fr (fun a k q => hx _ _ (by omega)) (fun a k q => hy _ _ (by omega) (by omega)) h2
      · exact RE_fr (fun a k q => hx _ _ (by omega)) (fun a k q => hy _ _ (by omega) (by omega)) (Nat.le_refl N) h3
      · exact RT_fr (hx _ _ (by omega)) (hy _ _ (by omega) (by omega)) h4
      · exact RM_fr (fun a k q => hx _ _ (by omega)) (fun a k q => hy _ _ (by omega) (by omega)) h5
      · exact RW_fr (fun a k q => hx _ _ (by omega)) (fun a k q => hy _ _ (by omega) (by omega)) h6
      · exact RG_fr (fun a k q => hx _ _ (by omega)) (fun a k q => hy _ _ (by omega) (by omega)) h7
      · exact RX_fr hu (fun a k q => hx _ _ (by omega)) (fun a k q => hl9 _ _) (fun a k q => hy _ _ (by omega) (by omega)) (Nat.le_refl N) (Nat.le_refl E) (h8 u hu)
      · exact RK_fr (fun a k q => hx _ _ (by omega)) (fun a k q => hy _ _ (by omega) (by omega)) h9
      · exact RS_fr (fun a k q => hx _ _ (by omega)) h10
      · exact RR_fr (fun a k q => f2.2 _ _ (by omega)) (fun _ _ _ => rfl) hRR'
      · exact RP_fr (fun a k q => hx _ _ (by omega)) (fun a k q => hy _ _ (by omega) (by omega)) h13
      · exact RQ_fr (fun a k q => hx _ _ (by omega)) h14
      · exact RC9_up (RC9_fr (fun a k q => hx _ _ (by omega)) h15)
