/-! ### answer, pairs, isWhole -/
def FY4 (y y' : St) : Prop := ∀ a j, a < 40 ∨ 42 < a → gi y' a j = gi y a j
theorem sbs_gat {p : Nat → Bool} {f : Nat → Int32} {t : Int32} {n : Nat} (h : ∀ k, k < n → sbs (f k) t) : sbs (gat p f n) t := fun i hi q => by
  rw [hs_gat] at q
  obtain ⟨k, hk, q⟩ := any_ex.mp q
  simp only [Bool.and_eq_true] at q
  exact h k hk i hi q.2
theorem sbs_or2 {s t w : Int32} (h1 : sbs s w) (h2 : sbs t w) : sbs (s ||| t) w := fun i hi q => by
  rw [hs_or, Bool.or_eq_true] at q
  rcases q with q | q
  · exact h1 i hi q
  · exact h2 i hi q
theorem sbs_and2 (s w : Int32) : sbs (s &&& w) w := fun i hi q => by
  rw [hs_and, Bool.and_eq_true] at q
  exact q.2
theorem sbs_0 (w : Int32) : sbs (n32 0) w := fun i hi q => by
  rw [hs_0] at q
  cases q
theorem rep_in {f : Nat → Int32} {W : Int32} (h : ∀ n, sbs (f n) W) (n : Nat) : sbs (rep f W n) W := by
  have h1 : ∀ o n (v : Nat → Int32), (∀ m, sbs (v m) W) → ∀ m, sbs (rpo o n v m) W := fun o n v hv m => by
    unfold rpo
    split
    · split
      · exact sbs_or2 (hv _) (hv _)
      · exact hv _
    · exact hv m
  have h2 : ∀ o (v : Nat → Int32), (∀ m, sbs (v m) W) → ∀ k m, sbs (fold (fun n v => rpo o n v) v k m) W := fun o v hv k => by
    induction k with
    | zero => exact hv
    | succ k ih => exact h1 o k _ ih
  have h3 : ∀ k m, sbs (fold (fun over v => rpp over v) (rep0 f W) k m) W := fun k => by
    induction k with
    | zero => exact fun m => sbs_or2 (h m) (sbs_and2 _ _)
    | succ k ih => exact fun m => h2 k _ ih 24 m
  exact h3 24 n
theorem stR_in {x : St} {u : Nat} {W : Int32} {K : Nat → Nat → Int32} {D : Nat → Int32} {F : Nat → Nat → Int32} (h : ∀ i n, sbs (F i n) W) (i n : Nat) : sbs (stR x u W K D F i n) W := by
  unfold stR
  split
  · exact sbs_gat fun k _ => h _ k
  · split
    · exact sbs_or2 (h _ _) (h _ _)
    · split
      · exact rep_in (h _) n
      · exact sbs_and2 _ _
theorem rels_in (x : St) (u : Nat) (W : Int32) (K : Nat → Nat → Int32) (D : Nat → Int32) : ∀ k i n, sbs (rels x u W K D k i n) W
  | 0, _, _ => sbs_0 W
  | k + 1, i, n => by
    show sbs (if i = k then stR x u W K D (rels x u W K D k) k n else rels x u W K D k i n) W
    split
    · exact stR_in (rels_in x u W K D k) k n
    · exact rels_in x u W K D k i n
theorem sml_sbs {s w : Int32} (h : sbs s w) (hw : sml w) : sml s := fun i hi => by
  by_cases h32 : i < 32
  · cases q : hs s i
    · rfl
    · have := h i h32 q
      rw [hw i hi] at this
      cases this
  · exact hs_big (by omega)
theorem rels_cg {x z : St} {u : Nat} (hx : ∀ a j, 78 + 6 * u ≤ a ∧ a ≤ 83 + 6 * u → gi z a j = gi x a j) (W : Int32) (K : Nat → Nat → Int32) (D : Nat → Int32) : ∀ k, rels z u W K D k = rels x u W K D k
  | 0 => rfl
  | k + 1 => by
    have ih := rels_cg hx W K D k
    have e : stR z u W K D = stR x u W K D := funext fun F => funext fun i => by
      unfold stR kq kb lf rt
      rw [hx _ _ (by omega), hx _ _ (by omega), hx _ _ (by omega), hx _ _ (by omega)]
    funext i n
    show (if i = k then stR z u W K D (rels z u W K D k) k n else rels z u W K D k i n) = _
    rw [ih, e]
    rfl
theorem rc_in {N : Nat} {x : St} {all : Bool} (hN : N ≤ 24) (n : Nat) (h : hs (rc all N x) n = true) : n < N ∧ lv x n = true := by
  by_cases h32 : n < 32
  · unfold rc at h
    rw [hs_gb h32 (by omega)] at h
    simp only [Bool.and_eq_true, decide_eq_true_eq] at h
    exact ⟨h.1, h.2.1⟩
  · rw [hs_big (by omega)] at h
    cases h
theorem rc_sml {N : Nat} {x : St} {all : Bool} (hN : N ≤ 24) : sml (rc all N x) := fun i hi => by
  cases q : hs (rc all N x) i
  · rfl
  · have := (rc_in hN i q).1
    omega
theorem rc_all {N : Nat} {x : St} (h : RS N x) : gi x 1 10 = rc true N x := by
  unfold RS at h
  rw [h]
  unfold rc
  exact gat_cg (fun k _ => by simp) (fun k _ _ => rfl)
theorem stk_head {x : St} {u c : Nat} (h : 0 < c) : (stk x u c)[0]? = some (c - 1) := by
  obtain ⟨k, rfl⟩ : ∃ k, c = k + 1 := ⟨c - 1, by omega⟩
  rfl
/-- the reference's laying, whole -/
theorem r_lays {N E R u c : Nat} {x y : St} (h2 : RN N x y) (h3 : RE N E x y) (h5 : RM N x y) (h11 : RR R x y) (hp : RPc x u c 1) (hu : u < 6) (h33 : gi y 33 u = n32 c) (hst : ∀ i, i < c → gi y 34 (12 * u + i) = gi x (79 + 6 * u) i ∧ gi y 35 (12 * u + i) = gi x (80 + 6 * u) i) (all : Bool) : ∃ z, fX11_lays y (n32 u) (bi all) = some z ∧ FY4 y z ∧ BWk z 0 (rels x u (rc all N x) (kno R E x) (fun l => lbd N x (n32 l)) c (c - 1)) := by
  have hN := h2.1
  have hc := hp.1
  have hc0 := RPc_len hp
  obtain ⟨y1, e1, f1, t1, k1⟩ := r_infers hN h3 h11
  have e2 := r_reached (RN_FY h2 f1) (RM_FY h5 f1) all
  obtain ⟨e, e3, f3, g3⟩ := loop_gen (step := fX11_lays_l19 y1 (n32 u) (bi all) (rc all N x)) c (fun k e => ∃ z, e = (z, n32 (stk x u k).length, n32 (12 * u + k)) ∧ RLy x u (rc all N x) (kno R E x) (fun l => lbd N x (n32 l)) y1 z k) (Q := fun e => FLy y1 e.1 ∧ BWk e.1 0 (rels x u (rc all N x) (kno R E x) (fun l => lbd N x (n32 l)) c (c - 1))) (x0 := (y1, n32 0, n32 (12 * u))) ⟨y1, rfl, fun _ _ _ => rfl, fun p hp9 => absurd hp9 (Nat.not_lt_zero p)⟩ (fun k e hk he => by
    obtain ⟨z, rfl, hz⟩ := he
    by_cases q : k = c
    · subst q
      have c1 : gi z 33 u = n32 k := (hz.1 _ _ (by omega)).trans ((f1 _ _ (by omega) (by omega)).trans h33)
      refine Or.inl ⟨(z, n32 (stk x u k).length, n32 (12 * u + k)), ?_, hz.1, ?_⟩
      · unfold fX11_lays_l19
        simp (disch := omega) only [eq_self, n_le, n_lt, n_inj, n_nat, gd_in, n_add, bi_z, bi_1, gd_bi, n_nonneg,  some_bind, lt_e, lit_NV, if_true, if_false, ite_true, ite_false, Option.bind_some, not_true, not_false_iff, lit_0, lit_1, lit_2, lit_3, lit_4, lit_5, lit_6, lit_7, lit_8, lit_12, lit_24, lit_25, lit_30, lit_60, lit_63, lit_96, lit_100, lit_512, lit_240, c1, n_mul, Nat.le_refl]
      · have hl : (stk x u k).length = 1 := hp.2.2.2.1.symm
        obtain ⟨s, s1, s2⟩ := hz.2 0 (by rw [hl]; omega)
        rw [hl, show 1 - 1 - 0 = 0 by omega, stk_head (by omega)] at s1
        cases s1
        exact s2
    · obtain ⟨z', e9, g9⟩ := r_layStep hN (fun n hn => rc_in hN n hn) hp hu k1 (fun k => (f1 _ _ (by omega) (by omega)).trans (h2.2.2.2.1 k)) ((f1 _ _ (by omega) (by omega)).trans h33) (fun i hi => by
        rw [f1 _ _ (by omega) (by omega), f1 _ _ (by omega) (by omega)]
        exact hst i hi) (show k < c by omega) hz (bi all)
      exact Or.inr ⟨by omega, _, e9, z', rfl, g9⟩)
  refine ⟨e.1, ?_, fun a j ha => (f3 a j (by omega)).trans (f1 a j (by omega) (by omega)), g3⟩
  have h12 : (12 : Int32) * n32 u = n32 (12 * u) := n_mul 12 u
  have e3 : loopF (fX11_lays_l19 y1 (n32 u) (bi all) (rc all N x)) (y1, 0, n32 (12 * u)) = some e := e3
  unfold fX11_lays
  rw [e1, some_bind, e2, some_bind, h12, e3]
  rfl
section ANS
variable {N E R Pc : Nat} {x y : St}
theorem c_reqPattern (hPc : Pc ≤ 6) (h : gi x 0 10 = n32 Pc) (a : Int32) : fX10_requirePattern x a = some (if bw Pc a then .inl () else .inr 0) := by
  unfold fX10_requirePattern fX10_requirePattern_j12 bw
  rw [h]
  by_cases h1 : a < 0
  · rw [if_pos h1, decide_eq_false (fun q => q.1 h1)]; rfl
  · rw [if_neg h1]
    by_cases h2 : a < n32 Pc
    · rw [if_pos h2, decide_eq_true ⟨h1, h2⟩]; rfl
    · rw [if_neg h2, decide_eq_false (fun q => h2 q.2)]; rfl
theorem r_isPat (hPc : Pc ≤ 6) (h : gi y 0 38 = n32 Pc) (a : Int32) : fX11_isIn y a 0 (gi y 0 38 - 1) = some (bi (bw Pc a)) := by
  rw [h]
  exact r_isIn (y := y) (a := a) (n := Pc) (by omega)
theorem r_isAsked (h2 : RN N x y) (hPc : Pc ≤ 6) (h : gi y 0 38 = n32 Pc) (a b : Int32) : fX11_isAsked y a b = some (bi (bw Pc a && nd N x b)) := by
  unfold fX11_isAsked fX11_isAsked_j26
  rw [r_isPat hPc h, some_bind]
  cases bw Pc a
  · rfl
  · rw [if_neg (by decide), r_isNode h2, some_bind]
    cases nd N x b <;> rfl
theorem RN_F4 {y' : St} (h : RN N x y) (hf : FY4 y y') : RN N x y' := RN_fr (fun _ _ _ => rfl) (fun a k ha => hf a k (by omega)) h
theorem RE_F4 {y' : St} (h : RE N E x y) (hf : FY4 y y') : RE N E x y' := RE_fr (fun _ _ _ => rfl) (fun a k ha => hf a k (by omega)) (Nat.le_refl N) h
theorem RM_F4 {y' : St} (h : RM N x y) (hf : FY4 y y') : RM N x y' := RM_fr (fun _ _ _ => rfl) (fun a k ha => hf a k (by omega)) h
theorem RR_F4 {y' : St} (h : RR R x y) (hf : FY4 y y') : RR R x y' := RR_fr (fun _ _ _ => rfl) (fun a k ha => hf a k (by omega)) h
theorem Rel_R4 {x' y' : St} {c : Nat} (h : Rel c x y) (hc : c < 512) (hf : FRx x x') (hy : FY4 (th y (n32 0)) y') : Rel (c + 1) x' y' :=
  Rel_scr h hc (fun a j q => hf.2 a j (by omega)) hf.1 (fun a j q1 q2 q3 => by rw [hy a j (by omega), th_ne (by omega)])
end ANS
theorem owes_25 : owes fLaw_c25 := fun c x y v p1 p2 p3 p4 h hc => by
  obtain ⟨N, E, T, P, R, hT, -, h2, h3, h4, h5, h6, h7, h8, h9, h10, h11, h12, h13, h14, h15⟩ := id h
  have hN := h2.1
  refine law_I (Q := fun x' y' => Rel (c + 1) x' y') ?_
  obtain ⟨Pc, hPc, g1, g2, g3, -, -⟩ := id h13
  unfold fL_answer fX10_answer fX11_answer fX11_answer_j15
  rw [c_reqPattern hPc g1, r_isAsked h2 hPc g2]
  cases w1 : bw Pc p1
  · exact ⟨1, x, v, 0, th y 1, rfl, rfl, rfl, fun h => absurd h (by decide), Rel_th h hc 1⟩
  rw [c_reqNode h2.2.1 hN]
  cases w2 : nd N x p2
  · exact ⟨1, x, v, 0, th y 1, rfl, rfl, rfl, fun h => absurd h (by decide), Rel_th h hc 1⟩
  obtain ⟨u, hu, rfl⟩ := bw_ex (by omega) w1
  obtain ⟨n, hn, rfl, -⟩ := nd_ex hN w2
  obtain ⟨d, hp, h33, hst⟩ := g3 u hu
  have hd0 := RPc_len hp
  have hd := hp.1
  obtain ⟨z, e1, f1, r1⟩ := c_relate h2 (RF_K h12) hp (by omega) (rc false N x)
  obtain ⟨w, e2, f2, r2⟩ := r_lays (RN_th (c := n32 0) h2) (RE_th h3) (RM_th h5) (RR_th h11) hp (by omega) ((th_ne (by omega)).trans h33) (fun i hi => by rw [th_ne (by omega), th_ne (by omega)]; exact hst i hi) false
  refine ⟨0, z, (rels x u (rc false N x) (kno R E x) (fun l => lbd N x (n32 l)) d (d - 1) n).toInt64, rels x u (rc false N x) (kno R E x) (fun l => lbd N x (n32 l)) d (d - 1) n, w, ?_, ?_, ?_, fun _ => rfl, Rel_R4 h hc f1 f2⟩
  · simp (disch := omega) only [eq_self, n_le, n_lt, n_inj, n_nat, gd_in, n_add, bi_z, bi_1, gd_bi, n_nonneg,  some_bind, lt_e, lit_NV, if_true, if_false, ite_true, ite_false, Option.bind_some, not_true, not_false_iff, lit_0, lit_1, lit_2, lit_3, lit_4, lit_5, lit_6, lit_7, lit_8, lit_12, lit_24, lit_25, lit_30, lit_60, lit_63, lit_96, lit_100, lit_512, lit_240, Sum.elim_inl, c_reach h2 h5, e1, gd_t, r1 n (show n < 24 by omega)]
  · have e2 : fX11_lays (th y (n32 0)) (n32 u) (n32 0) = some w := e2
    have r2 := r2 n (by omega)
    rw [show 24 * 0 + n = n by omega] at r2
    simp (disch := omega) only [eq_self, n_le, n_lt, n_inj, n_nat, gd_in, n_add, bi_z, bi_1, gd_bi, n_nonneg,  some_bind, lt_e, lit_NV, if_true, if_false, ite_true, ite_false, Option.bind_some, not_true, not_false_iff, lit_0, lit_1, lit_2, lit_3, lit_4, lit_5, lit_6, lit_7, lit_8, lit_12, lit_24, lit_25, lit_30, lit_60, lit_63, lit_96, lit_100, lit_512, lit_240, Bool.and_true, Bool.true_eq_false, r_fails0, e2, r2]
  · rw [f2 _ _ (by omega)]
    rfl
/-- how many pairs a vector holds -/
def tsum (v : Nat → Int32) (k : Nat) : Nat := fold (fun n a => a + cnt (hs (v n)) 24) 0 k
theorem owes_27 : owes fLaw_c27 := fun c x y v p1 p2 p3 p4 h hc => by
  obtain ⟨N, E, T, P, R, hT, -, h2, h3, h4, h5, h6, h7, h8, h9, h10, h11, h12, h13, h14, h15⟩ := id h
  have hN := h2.1
  refine law_I (Q := fun x' y' => Rel (c + 1) x' y') ?_
  obtain ⟨Pc, hPc, g1, g2, g3, -, -⟩ := id h13
  unfold fL_pairs fX10_pairs fX11_pairs fX11_pairs_j20
  rw [c_reqPattern hPc g1, r_isPat hPc g2]
  cases w1 : bw Pc p1
  · exact ⟨1, x, v, 0, th y 1, rfl, rfl, rfl, fun h => absurd h (by decide), Rel_th h hc 1⟩
  obtain ⟨u, hu, rfl⟩ := bw_ex (by omega) w1
  obtain ⟨d, hp, h33, hst⟩ := g3 u hu
  have hd0 := RPc_len hp
  have hd := hp.1
  obtain ⟨z, e1, f1, r1⟩ := c_relate h2 (RF_K h12) hp (by omega) (rc false N x)
  obtain ⟨w, e2, f2, r2⟩ := r_lays (RN_th (c := n32 0) h2) (RE_th h3) (RM_th h5) (RR_th h11) hp (by omega) ((th_ne (by omega)).trans h33) (fun i hi => by rw [th_ne (by omega), th_ne (by omega)]; exact hst i hi) false
  have hsm : ∀ n, sml (rels x u (rc false N x) (kno R E x) (fun l => lbd N x (n32 l)) d (d - 1) n) := fun n => sml_sbs (rels_in _ _ _ _ _ _ _ _) (rc_sml hN)
  generalize rels x u (rc false N x) (kno R E x) (fun l => lbd N x (n32 l)) d (d - 1) = F at r1 r2 hsm
  have e3 := loop_ia (step := fX10_pairs_l31 z (n32 u) (d - 1)) 24 (fun k => tsum F k) (fun n hn => by
      show _ = some (Sum.inl (n32 (tsum F n + cnt (hs (F n)) 24), n32 (n + 1)))
      unfold fX10_pairs_l31
      simp (disch := omega) only [eq_self, n_le, n_lt, n_inj, n_nat, gd_in, n_add, bi_z, bi_1, gd_bi, n_nonneg,  some_bind, lt_e, lit_NV, if_true, if_false, ite_true, ite_false, Option.bind_some, not_true, not_false_iff, lit_0, lit_1, lit_2, lit_3, lit_4, lit_5, lit_6, lit_7, lit_8, lit_12, lit_24, lit_25, lit_30, lit_60, lit_63, lit_96, lit_100, lit_512, lit_240, Nat.not_le.mpr hn, r1 n hn, c_bitCount (hsm n)])
    (by
      unfold fX10_pairs_l31
      simp (disch := omega) only [eq_self, n_le, n_lt, n_inj, n_nat, gd_in, n_add, bi_z, bi_1, gd_bi, n_nonneg,  some_bind, lt_e, lit_NV, if_true, if_false, ite_true, ite_false, Option.bind_some, not_true, not_false_iff, lit_0, lit_1, lit_2, lit_3, lit_4, lit_5, lit_6, lit_7, lit_8, lit_12, lit_24, lit_25, lit_30, lit_60, lit_63, lit_96, lit_100, lit_512, lit_240, Nat.le_refl])
  have e3 : loopF (fX10_pairs_l31 z (n32 u) (d - 1)) (n32 0, n32 0) = some (n32 (tsum F 24), n32 24) := e3
  have e4 := loop_ia (step := fX11_pairs_l38 w (n32 u)) 24 (fun k => tsum F k) (fun n hn => by
      have r2 := r2 n hn
      rw [show 24 * 0 + n = n by omega] at r2
      show _ = some (Sum.inl (n32 (tsum F n + cnt (hs (F n)) 24), n32 (n + 1)))
      unfold fX11_pairs_l38
      simp (disch := omega) only [eq_self, n_le, n_lt, n_inj, n_nat, gd_in, n_add, bi_z, bi_1, gd_bi, n_nonneg,  some_bind, lt_e, lit_NV, if_true, if_false, ite_true, ite_false, Option.bind_some, not_true, not_false_iff, lit_0, lit_1, lit_2, lit_3, lit_4, lit_5, lit_6, lit_7, lit_8, lit_12, lit_24, lit_25, lit_30, lit_60, lit_63, lit_96, lit_100, lit_512, lit_240, lit_288, Nat.not_le.mpr hn, r2, r_size])
    (by
      unfold fX11_pairs_l38
      simp (disch := omega) only [eq_self, n_le, n_lt, n_inj, n_nat, gd_in, n_add, bi_z, bi_1, gd_bi, n_nonneg,  some_bind, lt_e, lit_NV, if_true, if_false, ite_true, ite_false, Option.bind_some, not_true, not_false_iff, lit_0, lit_1, lit_2, lit_3, lit_4, lit_5, lit_6, lit_7, lit_8, lit_12, lit_24, lit_25, lit_30, lit_60, lit_63, lit_96, lit_100, lit_512, lit_240, Nat.le_refl])
  have e4 : loopF (fX11_pairs_l38 w (n32 u)) (n32 0, n32 0) = some (n32 (tsum F 24), n32 24) := e4
  refine ⟨0, z, (n32 (tsum F 24)).toInt64, n32 (tsum F 24), w, ?_, ?_, ?_, fun _ => rfl, Rel_R4 h hc f1 f2⟩
  · simp (disch := omega) only [eq_self, n_le, n_lt, n_inj, n_nat, gd_in, n_add, bi_z, bi_1, gd_bi, n_nonneg,  some_bind, lt_e, lit_NV, if_true, if_false, ite_true, ite_false, Option.bind_some, not_true, not_false_iff, lit_0, lit_1, lit_2, lit_3, lit_4, lit_5, lit_6, lit_7, lit_8, lit_12, lit_24, lit_25, lit_30, lit_60, lit_63, lit_96, lit_100, lit_512, lit_240, Sum.elim_inl, c_reach h2 h5, e1, gd_t, e3]
  · have e2 : fX11_lays (th y (n32 0)) (n32 u) (n32 0) = some w := e2
    simp (disch := omega) only [eq_self, n_le, n_lt, n_inj, n_nat, gd_in, n_add, bi_z, bi_1, gd_bi, n_nonneg,  some_bind, lt_e, lit_NV, if_true, if_false, ite_true, ite_false, Option.bind_some, not_true, not_false_iff, lit_0, lit_1, lit_2, lit_3, lit_4, lit_5, lit_6, lit_7, lit_8, lit_12, lit_24, lit_25, lit_30, lit_60, lit_63, lit_96, lit_100, lit_512, lit_240, Bool.true_eq_false, r_fails0, e2, e4]
  · rw [f2 _ _ (by omega)]
    rfl
theorem owes_28 : owes fLaw_c28 := fun c x y v p1 p2 p3 p4 h hc => by
  obtain ⟨N, E, T, P, R, hT, -, h2, h3, h4, h5, h6, h7, h8, h9, h10, h11, h12, h13, h14, h15⟩ := id h
  have hN := h2.1
  refine law_Z (Q := fun x' y' => Rel (c + 1) x' y') ?_
  obtain ⟨Pc, hPc, g1, g2, g3, -, -⟩ := id h13
  unfold fL_isWhole fX10_isWhole fX11_isWhole fX11_isWhole_j15
  rw [c_reqPattern hPc g1, r_isAsked h2 hPc g2]
  cases w1 : bw Pc p1
  · exact ⟨1, x, v, false, th y 1, rfl, rfl, rfl, fun h => absurd h (by decide), Rel_th h hc 1⟩
  rw [c_reqNode h2.2.1 hN]
  cases w2 : nd N x p2
  · exact ⟨1, x, v, false, th y 1, rfl, rfl, rfl, fun h => absurd h (by decide), Rel_th h hc 1⟩
  obtain ⟨u, hu, rfl⟩ := bw_ex (by omega) w1
  obtain ⟨n, hn, rfl, -⟩ := nd_ex hN w2
  obtain ⟨d, hp, h33, hst⟩ := g3 u hu
  have hd0 := RPc_len hp
  have hd := hp.1
  obtain ⟨z, e1, f1, r1⟩ := c_relate h2 (RF_K h12) hp (by omega) (rc false N x)
  have h2z : RN N z y := RN_fr (fun a k q => f1.2 _ _ (by omega)) (fun _ _ _ => rfl) h2
  have hKz : KnC z (kno R E x) := fun l m hl hm => (f1.2 _ _ (by omega)).trans (RF_K h12 l m hl hm)
  have hpz : RPc z u d 1 := RPc_cg (fun a k q => f1.2 _ _ (by omega)) hp
  obtain ⟨z2, e5, f5, r5⟩ := c_relate h2z hKz hpz (by omega) (rc true N x)
  have hD : (fun l : Nat => lbd N z (n32 l)) = fun l => lbd N x (n32 l) := funext fun l => by
    unfold lbd
    have hlv : lv z = lv x := lv_cg fun k => f1.2 _ _ (by omega)
    rw [hlv]
    exact gat_cg (fun k _ => by rw [f1.2 _ _ (by omega)]) (fun k _ _ => rfl)
  rw [hD, rels_cg (fun a j q => f1.2 _ _ (by omega))] at r5
  have h10z : gi z 1 10 = rc true N x := (f1.2 _ _ (by omega)).trans (rc_all h10)
  obtain ⟨w, e2, f2, r2⟩ := r_lays (RN_th (c := n32 0) h2) (RE_th h3) (RM_th h5) (RR_th h11) hp (by omega) ((th_ne (by omega)).trans h33) (fun i hi => by rw [th_ne (by omega), th_ne (by omega)]; exact hst i hi) false
  obtain ⟨w', e6, f6, r6⟩ := r_lays (RN_F4 (RN_th (c := n32 0) h2) f2) (RE_F4 (RE_th h3) f2) (RM_F4 (RM_th h5) f2) (RR_F4 (RR_th h11) f2) hp (by omega) ((f2 _ _ (by omega)).trans ((th_ne (by omega)).trans h33)) (fun i hi => by rw [f2 _ _ (by omega), f2 _ _ (by omega), th_ne (by omega), th_ne (by omega)]; exact hst i hi) true
  generalize rels x u (rc false N x) (kno R E x) (fun l => lbd N x (n32 l)) d (d - 1) = F at r1 r2
  generalize rels x u (rc true N x) (kno R E x) (fun l => lbd N x (n32 l)) d (d - 1) = G at r5 r6
  refine ⟨0, z2, if decide (F n = G n) then 1 else 0, decide (F n = G n), w', ?_, ?_, ?_, fun _ => rfl, Rel_R4 h hc (f1.tr f5) (fun a j q => (f6 a j q).trans (f2 a j q))⟩
  · simp (disch := omega) only [eq_self, n_le, n_lt, n_inj, n_nat, gd_in, n_add, bi_z, bi_1, gd_bi, n_nonneg,  some_bind, lt_e, lit_NV, if_true, if_false, ite_true, ite_false, Option.bind_some, not_true, not_false_iff, lit_0, lit_1, lit_2, lit_3, lit_4, lit_5, lit_6, lit_7, lit_8, lit_12, lit_24, lit_25, lit_30, lit_60, lit_63, lit_96, lit_100, lit_512, lit_240, Sum.elim_inl, c_reach h2 h5, e1, gd_t, r1 n (show n < 24 by omega), h10z, e5, r5 n (show n < 24 by omega)]
    by_cases q : F n = G n
    · simp [q, n_inj]
    · simp [q]
  · have e2 : fX11_lays (th y (n32 0)) (n32 u) (n32 0) = some w := e2
    have e6 : fX11_lays w (n32 u) (n32 1) = some w' := e6
    have r2 := r2 n (by omega)
    have r6 := r6 n (by omega)
    rw [show 24 * 0 + n = n by omega] at r2 r6
    simp (disch := omega) only [eq_self, n_le, n_lt, n_inj, n_nat, gd_in, n_add, bi_z, bi_1, gd_bi, n_nonneg,  some_bind, lt_e, lit_NV, if_true, if_false, ite_true, ite_false, Option.bind_some, not_true, not_false_iff, lit_0, lit_1, lit_2, lit_3, lit_4, lit_5, lit_6, lit_7, lit_8, lit_12, lit_24, lit_25, lit_30, lit_60, lit_63, lit_96, lit_100, lit_512, lit_240, Bool.and_true, Bool.true_eq_false, r_fails0, e2, r2, e6, r6, lit_288]
    by_cases q : F n = G n
    · simp [q, bi]
    · simp [q, bi]
  · rw [f6 _ _ (by omega), f2 _ _ (by omega)]
    rfl
