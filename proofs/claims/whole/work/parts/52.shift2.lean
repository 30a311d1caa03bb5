/-- may the node k go to the machine m, when at most mo nodes may be there -/
def mayG (N : Nat) (x : St) (mo k m : Nat) : Bool := lv x k && up x (ho x k) && up x m && !decide (ho x k = m) && decide (ld N x (n32 m) + 1 ≤ mo)
/-- the best move as far as machine m of node k: the node, the machine, the gain -/
def shb (N E : Nat) (x : St) (mo k m : Nat) (t : Int32 × Int32 × Int32) : Int32 × Int32 × Int32 := if mayG N x mo k m then (if gn E x k m ≤ t.2.2 then t else (n32 k, n32 m, gn E x k m)) else t
def shP (N : Nat) (t : Int32 × Int32 × Int32) : Prop := ¬ t.2.2 < 0 ∧ (t.1 = -n32 1 ∨ ∃ k m : Nat, k < N ∧ m < 3 ∧ t.1 = n32 k ∧ t.2.1 = n32 m)
theorem shb_P {N E : Nat} {x : St} {mo k m : Nat} {t : Int32 × Int32 × Int32} (hk : k < N) (hm : m < 3) (h : shP N t) : shP N (shb N E x mo k m t) := by
  unfold shb
  split
  · split
    · exact h
    · next hg =>
      refine ⟨fun q => hg ?_, Or.inr ⟨k, m, hk, hm, rfl, rfl⟩⟩
      have h1 := h.1
      rw [Int32.lt_iff_toInt_lt] at q h1
      rw [Int32.le_iff_toInt_le]
      have q' : (gn E x k m).toInt < (0 : Int32).toInt := q
      omega
  · exact h
def shK (N E : Nat) (x : St) (mo k : Nat) (t : Int32 × Int32 × Int32) : Int32 × Int32 × Int32 := fold (fun m t => shb N E x mo k m t) t 3
theorem shK_P {N E : Nat} {x : St} {mo k : Nat} {t : Int32 × Int32 × Int32} (hk : k < N) (h : shP N t) : shP N (shK N E x mo k t) := by
  have : ∀ n, n ≤ 3 → shP N (fold (fun m t => shb N E x mo k m t) t n) := fun n => by
    induction n with
    | zero => intro _; exact h
    | succ n ih => intro hn; exact shb_P hk (by omega) (ih (by omega))
  exact this 3 (by decide)
theorem hs_rc {N : Nat} {x : St} (hN : N ≤ 24) {k : Nat} (hk : k < N) : hs (rc false N x) k = (lv x k && up x (ho x k)) := by
  unfold rc
  rw [hs_gat, Bool.eq_iff_iff]
  simp only [List.any_eq_true, List.mem_range, Bool.and_eq_true, Bool.false_or]
  constructor
  · rintro ⟨j, hj, h1, h2⟩
    have := hs_one (by omega) (by omega) h2
    subst this
    exact h1
  · intro h
    exact ⟨k, hk, h, hs_own (by omega)⟩
theorem c_mvIn {N E : Nat} {x y : St} (hR : RN N x y) (h : RE N E x y) (hM : RM N x y) {mo k : Nat} (hmo : mo < 100) (hk : k < N) {t : Int32 × Int32 × Int32} (ht : shP N t) : loopF (fX3_moveBest_l52 x (n32 mo) (rc false N x) (n32 k)) (t.1, t.2.1, t.2.2, n32 0) = some ((shK N E x mo k t).1, (shK N E x mo k t).2.1, (shK N E x mo k t).2.2, n32 3) := by
  obtain ⟨hN, hc, -⟩ := id hR
  refine (loop_fold (step := fX3_moveBest_l52 x (n32 mo) (rc false N x) (n32 k)) 3 (fun t m => (t.1, t.2.1, t.2.2, n32 m)) (fun m t => shb N E x mo k m t) (fun _ t => shP N t) (a0 := t) (out := fun t => (t.1, t.2.1, t.2.2, n32 3)) ht (fun m t hm ht => ⟨?_, shb_P hk hm ht⟩) (fun t _ => ?_)).1
  · obtain ⟨h1, h2⟩ := RM_ho hM hk
    have hl := ld_le N x (n32 m)
    have h0 : n32 0 ≤ t.2.2 := by rw [← nlt_le]; exact ht.1
    have e1 : (n32 m = n32 (ho x k)) = (ho x k = m) := by rw [n_inj (by omega) (by omega)]; exact propext eq_comm
    unfold fX3_moveBest_l52 fX3_moveBest_j105 fX3_moveBest_j106 fX3_moveBest_j125 fX3_moveBest_j146 shb mayG
    simp (disch := omega) only [eq_self, n_le, n_lt, n_inj, n_nat, gd_in, n_add, bi_z, bi_1, gd_bi, n_nonneg,  some_bind, lt_e, lit_NV, if_true, if_false, ite_true, ite_false, Option.bind_some, not_true, not_false_iff, lit_0, lit_1, lit_2, lit_3, lit_4, lit_5, lit_6, lit_7, lit_8, lit_12, lit_24, lit_25, lit_30, lit_60, lit_63, lit_96, lit_100, lit_512, lit_240, Nat.not_le.mpr hm, c_has _ (show k < 32 by omega), hs_rc hN hk, h1, (RM_up hM hm).1, c_load hc hN, c_fewer hN h hk, h0]
    cases lv x k <;> cases up x (ho x k) <;> cases up x m <;> simp
    by_cases h3 : ho x k = m
    · simp [h3]
    · have h3' : ¬ m = ho x k := fun q => h3 q.symm
      by_cases h4 : mo < ld N x (n32 m) + 1
      · simp [h3, h3', h4, show ¬ ld N x (n32 m) + 1 ≤ mo by omega]
      · simp [h3, h3', h4, show ld N x (n32 m) + 1 ≤ mo by omega, n_inj]
        split <;> rfl
  · unfold fX3_moveBest_l52
    simp (disch := omega) only [eq_self, n_le, n_lt, n_inj, n_nat, gd_in, n_add, bi_z, bi_1, gd_bi, n_nonneg,  some_bind, lt_e, lit_NV, if_true, if_false, ite_true, ite_false, Option.bind_some, not_true, not_false_iff, lit_0, lit_1, lit_2, lit_3, lit_4, lit_5, lit_6, lit_7, lit_8, lit_12, lit_24, lit_25, lit_30, lit_60, lit_63, lit_96, lit_100, lit_512, lit_240, Nat.le_refl]
def shA (N E : Nat) (x : St) (mo : Nat) : Int32 × Int32 × Int32 := fold (fun k t => shK N E x mo k t) (-n32 1, -n32 1, n32 0) N
theorem shA_0 {N : Nat} : shP N (-n32 1, -n32 1, n32 0) := ⟨by decide, Or.inl rfl⟩
theorem c_mvOut {N E : Nat} {x y : St} (hR : RN N x y) (h : RE N E x y) (hM : RM N x y) {mo : Nat} (hmo : mo < 100) : loopF (fX3_moveBest_l37 x (n32 mo) (rc false N x)) (-n32 1, -n32 1, n32 0, n32 0) = some ((shA N E x mo).1, (shA N E x mo).2.1, (shA N E x mo).2.2, n32 N) ∧ shP N (shA N E x mo) := by
  obtain ⟨hN, hc, -⟩ := id hR
  refine loop_fold (step := fX3_moveBest_l37 x (n32 mo) (rc false N x)) N (fun t k => (t.1, t.2.1, t.2.2, n32 k)) (fun k t => shK N E x mo k t) (fun _ t => shP N t) (a0 := (-n32 1, -n32 1, n32 0)) (out := fun t => (t.1, t.2.1, t.2.2, n32 N)) shA_0 (fun k t hk ht => ⟨?_, shK_P hk ht⟩) (fun t _ => ?_)
  · unfold fX3_moveBest_l37
    simp (disch := omega) only [eq_self, n_le, n_lt, n_inj, n_nat, gd_in, n_add, bi_z, bi_1, gd_bi, n_nonneg,  some_bind, lt_e, lit_NV, if_true, if_false, ite_true, ite_false, Option.bind_some, not_true, not_false_iff, lit_0, lit_1, lit_2, lit_3, lit_4, lit_5, lit_6, lit_7, lit_8, lit_12, lit_24, lit_25, lit_30, lit_60, lit_63, lit_96, lit_100, lit_512, lit_240, hc, Nat.not_le.mpr hk, c_mvIn hR h hM hmo hk ht]
  · unfold fX3_moveBest_l37
    simp (disch := omega) only [eq_self, n_le, n_lt, n_inj, n_nat, gd_in, n_add, bi_z, bi_1, gd_bi, n_nonneg,  some_bind, lt_e, lit_NV, if_true, if_false, ite_true, ite_false, Option.bind_some, not_true, not_false_iff, lit_0, lit_1, lit_2, lit_3, lit_4, lit_5, lit_6, lit_7, lit_8, lit_12, lit_24, lit_25, lit_30, lit_60, lit_63, lit_96, lit_100, lit_512, lit_240, hc, Nat.le_refl]
theorem RM_mvd {N : Nat} {x y : St} (hM : RM N x y) (k m : Nat) (hm : m < 3) : RM N (mvd x k m) (ui y 3 k (n32 m)) := by
  refine ⟨fun j => ?_, fun j hj => ?_, fun q hq => ?_⟩
  · rw [ho_mvd, gi_ui, hM.1]
    by_cases h : j = k <;> simp [h]
  · rw [ho_mvd]
    by_cases h : j = k
    · exact ⟨m, hm, if_pos h⟩
    · rw [if_neg h]; exact hM.2.1 j hj
  · unfold mvd
    rw [gi_ui_ne (Or.inl (by decide)), gi_ui_ne (Or.inl (by decide))]
    exact hM.2.2 q hq
theorem RN_mvd {N : Nat} {x y : St} (hR : RN N x y) (k m : Nat) : RN N (mvd x k m) (ui y 3 k (n32 m)) := by
  unfold RN mvd at *
  simpa [gi_ui] using hR
theorem RE_mvd {N E : Nat} {x y : St} (h : RE N E x y) (k m : Nat) : RE N E (mvd x k m) (ui y 3 k (n32 m)) := by
  unfold RE mvd at *
  simpa [gi_ui] using h
theorem r_shIn {N E : Nat} {x y : St} (hR : RN N x y) (h : RE N E x y) (hM : RM N x y) {fw k : Nat} (hfw : fw ≤ 24) (hk : k < N) (t : Int32 × Int32 × Int32) : loopF (fX11_shift_l54 y (n32 (cnt (ctE x) E)) (n32 fw) (n32 k)) (y, t.1, t.2.1, t.2.2, n32 0) = some (y, (shK N E x (fw + 2) k t).1, (shK N E x (fw + 2) k t).2.1, (shK N E x (fw + 2) k t).2.2, n32 3) := by
  obtain ⟨hN, -, hc, -⟩ := id hR
  refine (loop_fold (step := fX11_shift_l54 y (n32 (cnt (ctE x) E)) (n32 fw) (n32 k)) 3 (fun t m => (y, t.1, t.2.1, t.2.2, n32 m)) (fun m t => shb N E x (fw + 2) k m t) (fun _ t => True) (a0 := t) (out := fun t => (y, t.1, t.2.1, t.2.2, n32 3)) trivial (fun m t hm _ => ⟨?_, trivial⟩) (fun t _ => ?_)).1
  · obtain ⟨h1, h2⟩ := RM_ho hM hk
    have hl := ld_le N x (n32 m)
    have hcut := r_cuts hN (RE_mvd h k m) (RM_mvd hM k m hm).1
    have hbk : ui (ui y 3 k (n32 m)) 3 k (n32 (ho x k)) = y := by
      rw [← h1, ← hM.1]; exact ui_back
    unfold fX11_shift_l54 fX11_shift_j173 shb mayG
    simp (disch := omega) only [eq_self, n_le, n_lt, n_inj, n_nat, gd_in, n_add, bi_z, bi_1, gd_bi, n_nonneg,  some_bind, lt_e, lit_NV, if_true, if_false, ite_true, ite_false, Option.bind_some, not_true, not_false_iff, lit_0, lit_1, lit_2, lit_3, lit_4, lit_5, lit_6, lit_7, lit_8, lit_12, lit_24, lit_25, lit_30, lit_60, lit_63, lit_96, lit_100, lit_512, lit_240, Nat.not_le.mpr hm, r_isNode hR, nd_n hN hk, hM.1, h1, (RM_up hM hm).2, (RM_up hM h2).2, r_nodesOn hR hM.1, hcut, hbk]
    cases lv x k <;> cases up x (ho x k) <;> cases up x m <;> simp
    by_cases h3 : ho x k = m
    · simp [h3]
    · by_cases h4 : fw + 2 < ld N x (n32 m) + 1
      · simp [h3, h4, show ¬ ld N x (n32 m) ≤ fw + 1 by omega]
      · simp [h3, h4, show ld N x (n32 m) ≤ fw + 1 by omega]
        show (if gn E x k m ≤ t.2.2 then _ else _) = _
        split <;> rfl
  · unfold fX11_shift_l54
    simp (disch := omega) only [eq_self, n_le, n_lt, n_inj, n_nat, gd_in, n_add, bi_z, bi_1, gd_bi, n_nonneg,  some_bind, lt_e, lit_NV, if_true, if_false, ite_true, ite_false, Option.bind_some, not_true, not_false_iff, lit_0, lit_1, lit_2, lit_3, lit_4, lit_5, lit_6, lit_7, lit_8, lit_12, lit_24, lit_25, lit_30, lit_60, lit_63, lit_96, lit_100, lit_512, lit_240, Nat.le_refl]
theorem r_shOut {N E : Nat} {x y : St} (hR : RN N x y) (h : RE N E x y) (hM : RM N x y) {fw : Nat} (hfw : fw ≤ 24) : loopF (fX11_shift_l42 y (n32 (cnt (ctE x) E)) (n32 fw)) (y, -n32 1, -n32 1, n32 0, n32 0) = some (y, (shA N E x (fw + 2)).1, (shA N E x (fw + 2)).2.1, (shA N E x (fw + 2)).2.2, n32 N) := by
  obtain ⟨hN, -, hc, -⟩ := id hR
  refine (loop_fold (step := fX11_shift_l42 y (n32 (cnt (ctE x) E)) (n32 fw)) N (fun t k => (y, t.1, t.2.1, t.2.2, n32 k)) (fun k t => shK N E x (fw + 2) k t) (fun _ t => True) (a0 := (-n32 1, -n32 1, n32 0)) (out := fun t => (y, t.1, t.2.1, t.2.2, n32 N)) trivial (fun k t hk _ => ⟨?_, trivial⟩) (fun t _ => ?_)).1
  · unfold fX11_shift_l42
    simp (disch := omega) only [eq_self, n_le, n_lt, n_inj, n_nat, gd_in, n_add, bi_z, bi_1, gd_bi, n_nonneg,  some_bind, lt_e, lit_NV, if_true, if_false, ite_true, ite_false, Option.bind_some, not_true, not_false_iff, lit_0, lit_1, lit_2, lit_3, lit_4, lit_5, lit_6, lit_7, lit_8, lit_12, lit_24, lit_25, lit_30, lit_60, lit_63, lit_96, lit_100, lit_512, lit_240, hc, Nat.not_le.mpr hk, r_shIn hR h hM hfw hk t]
  · unfold fX11_shift_l42
    simp (disch := omega) only [eq_self, n_le, n_lt, n_inj, n_nat, gd_in, n_add, bi_z, bi_1, gd_bi, n_nonneg,  some_bind, lt_e, lit_NV, if_true, if_false, ite_true, ite_false, Option.bind_some, not_true, not_false_iff, lit_0, lit_1, lit_2, lit_3, lit_4, lit_5, lit_6, lit_7, lit_8, lit_12, lit_24, lit_25, lit_30, lit_60, lit_63, lit_96, lit_100, lit_512, lit_240, hc, Nat.le_refl]
theorem RE_upd {N E : Nat} {x y : St} {c : Int32} (h : RE N E x y) : RE N E x (ui y 0 50 c) := RE_th h
theorem sh_stay {N E : Nat} {x : St} {mo k : Nat} (hup : ∀ m, m < 3 → up x m = false) (t : Int32 × Int32 × Int32) : shK N E x mo k t = t := by
  have : ∀ n, n ≤ 3 → fold (fun m t => shb N E x mo k m t) t n = t := fun n => by
    induction n with
    | zero => intro _; rfl
    | succ n ih =>
      intro hn
      show shb N E x mo k n (fold (fun m t => shb N E x mo k m t) t n) = t
      rw [ih (by omega)]
      unfold shb mayG
      rw [hup n (by omega)]
      simp
  exact this 3 (by decide)
theorem emp_none {N : Nat} {x : St} (h : emp N x = none) : ∀ m, m < 3 → up x m = false := by
  have key : ∀ n o, fold (emb N x) none n = o → o = none → ∀ m, m < n → up x m = false := fun n => by
    induction n with
    | zero => intro o _ _ m hm; exact absurd hm (Nat.not_lt_zero m)
    | succ n ih =>
      intro o ho hn m hm
      subst hn
      have ho : emb N x n (fold (emb N x) none n) = none := ho
      cases hu : up x n with
      | false =>
        have hq : fold (emb N x) none n = none := by
          unfold emb at ho
          rw [hu] at ho
          exact ho
        by_cases e : m = n
        · subst e; exact hu
        · exact ih _ hq rfl m (by omega)
      | true =>
        exfalso
        unfold emb at ho
        rw [hu] at ho
        cases hq : fold (emb N x) none n with
        | none => unfold emb at hq; rw [hq] at ho; cases ho
        | some b =>
          unfold emb at hq
          rw [hq] at ho
          by_cases hl : ld N x (n32 n) < ld N x (n32 b)
          · rw [if_pos (by simp [hl])] at ho; cases ho
          · rw [if_neg (by simp [hl])] at ho; cases ho
  exact key 3 _ h rfl
theorem q_shift {N E : Nat} {x y : St} (hR : RN N x y) (h : RE N E x y) (hM : RM N x y) : ∃ (r : Int32) (x' y' : St), fX10_shift x = some (r, x') ∧ fX11_shift y = some (r, y') ∧ ((x' = x ∧ y' = th y 0) ∨ ∃ k m : Nat, k < N ∧ m < 3 ∧ x' = mvd x k m ∧ y' = ui (th y 0) 3 k (n32 m)) := by
  obtain ⟨hN, hc, -⟩ := id hR
  have hR' := RN_th (c := 0) hR
  have hE' := RE_th (c := 0) h
  have hM' := RM_th (c := 0) hM
  have hcuts := r_cuts hN hE' hM'.1
  have hem := r_emptiest hR' hM'
  have hcem := c_emptiest hR hM
  have e0 : fX11_shift y = ((fX11_cuts (th y 0)).bind fun v2 => (fX11_emptiest (th y 0)).bind fun v3 => if v3 = -1 then fX11_shift_j37 (th y 0) v2 (-1) (-1) 0 0 else (fX11_emptiest (th y 0)).bind fun v5 => (fX11_nodesOn (th y 0) v5).bind fun v6 => fX11_shift_j37 (th y 0) v2 (-1) (-1) 0 v6) := rfl
  have rj : ∀ (fw : Nat) (t : Int32 × Int32 × Int32), loopF (fX11_shift_l42 (th y 0) (n32 (cnt (ctE x) E)) (n32 fw)) (th y 0, -n32 1, -n32 1, n32 0, n32 0) = some (th y 0, t.1, t.2.1, t.2.2, n32 N) → fX11_shift_j37 (th y 0) (n32 (cnt (ctE x) E)) (-1) (-1) 0 (n32 fw) = if t.1 = -1 then some (t.1, th y 0) else gd (inb t.1 24) (some (t.1, ui (th y 0) 3 t.1.toNatClampNeg t.2.1)) := fun fw t ht => by
    unfold fX11_shift_j37
    have ht' : loopF (fX11_shift_l42 (th y 0) (n32 (cnt (ctE x) E)) (n32 fw)) (th y 0, -1, -1, 0, 0) = _ := ht
    rw [ht']
    rfl
  rw [e0, hcuts, some_bind, hem, some_bind]
  cases he : emp N x with
  | none =>
    have hst : shA N E x 2 = (-n32 1, -n32 1, n32 0) := by
      have : ∀ n, fold (fun k t => shK N E x 2 k t) (-n32 1, -n32 1, n32 0) n = (-n32 1, -n32 1, n32 0) := fun n => by
        induction n with
        | zero => rfl
        | succ n ih =>
          show shK N E x 2 n (fold (fun k t => shK N E x 2 k t) (-n32 1, -n32 1, n32 0) n) = _
          rw [ih, sh_stay (emp_none he)]
      exact this N
    have hlp := r_shOut hR' hE' hM' (fw := 0) (by decide)
    rw [show 0 + 2 = 2 from rfl, hst] at hlp
    refine ⟨-n32 1, x, th y 0, ?_, ?_, Or.inl ⟨rfl, rfl⟩⟩
    · unfold fX10_shift fX3_moveBest
      rw [hcem, he]
      rfl
    · rw [if_pos (show oi none = -1 from rfl)]
      exact (rj 0 _ hlp).trans rfl
  | some b =>
    have hb := emp_lt 3 b he
    have hl := ld_le N x (n32 b)
    obtain ⟨hm1, hm2⟩ := c_mvOut hR h hM (mo := ld N x (n32 b) + 2) (by omega)
    have hlp := r_shOut hR' hE' hM' (fw := ld N x (n32 b)) (by omega)
    have hne : ¬ n32 b = -1 := n_ne_m1 (by omega)
    have hnod := r_nodesOn hR' hM'.1 (n32 b)
    have hrj := rj _ _ hlp
    rw [if_neg (show ¬ oi (some b) = -1 from hne)]
    have cj : fX10_shift x = ((if (shA N E x (ld N x (n32 b) + 2)).1 = -1 then some ((shA N E x (ld N x (n32 b) + 2)).1, x) else gd (inb (shA N E x (ld N x (n32 b) + 2)).1 24) (some ((shA N E x (ld N x (n32 b) + 2)).1, ui x 21 (shA N E x (ld N x (n32 b) + 2)).1.toNatClampNeg (shA N E x (ld N x (n32 b) + 2)).2.1))).bind fun v1 => some (v1.1, v1.2)) := by
      unfold fX10_shift fX3_moveBest
      rw [hcem, he, some_bind, if_neg (show ¬ oi (some b) = -1 from hne), show fX3_load x (oi (some b)) = _ from c_load hc hN (n32 b), some_bind, c_reach hR hM, some_bind]
      have hm1' : loopF (fX3_moveBest_l37 x (n32 (ld N x (n32 b)) + 2) (rc false N x)) (-1, -1, 0, 0) = _ := (show (n32 (ld N x (n32 b)) + 2) = n32 (ld N x (n32 b) + 2) from n_add _ 2) ▸ hm1
      rw [hm1']
      rfl
    rw [cj]
    show ∃ r x' y', _ ∧ ((fX11_nodesOn (th y 0) (n32 b)).bind fun v6 => fX11_shift_j37 (th y 0) (n32 (cnt (ctE x) E)) (-1) (-1) 0 v6) = _ ∧ _
    rw [hnod, some_bind, hrj]
    rcases hm2.2 with e | ⟨k, m, hk, hm, e1, e2⟩
    · have e : (shA N E x (ld N x (n32 b) + 2)).1 = -1 := e
      refine ⟨-n32 1, x, th y 0, ?_, ?_, Or.inl ⟨rfl, rfl⟩⟩
      · rw [if_pos e, e]; rfl
      · rw [if_pos e, e]; rfl
    · refine ⟨n32 k, mvd x k m, ui (th y 0) 3 k (n32 m), ?_, ?_, Or.inr ⟨k, m, hk, hm, rfl, rfl⟩⟩
      · rw [e1, if_neg (show ¬ n32 k = -1 from n_ne_m1 (by omega)), e2]
        simp (disch := omega) only [eq_self, n_le, n_lt, n_inj, n_nat, gd_in, n_add, bi_z, bi_1, gd_bi, n_nonneg,  some_bind, lt_e, lit_NV, if_true, if_false, ite_true, ite_false, Option.bind_some, not_true, not_false_iff, lit_0, lit_1, lit_2, lit_3, lit_4, lit_5, lit_6, lit_7, lit_8, lit_12, lit_24, lit_25, lit_30, lit_60, lit_63, lit_96, lit_100, lit_512, lit_240]
        rfl
      · rw [e1, if_neg (show ¬ n32 k = -1 from n_ne_m1 (by omega)), e2]
        simp (disch := omega) only [eq_self, n_le, n_lt, n_inj, n_nat, gd_in, n_add, bi_z, bi_1, gd_bi, n_nonneg,  some_bind, lt_e, lit_NV, if_true, if_false, ite_true, ite_false, Option.bind_some, not_true, not_false_iff, lit_0, lit_1, lit_2, lit_3, lit_4, lit_5, lit_6, lit_7, lit_8, lit_12, lit_24, lit_25, lit_30, lit_60, lit_63, lit_96, lit_100, lit_512, lit_240]
