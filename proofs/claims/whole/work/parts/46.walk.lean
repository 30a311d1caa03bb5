theorem or_z (a : Int32) : a ||| n32 0 = a := Int32.or_zero
theorem z_or (a : Int32) : n32 0 ||| a = a := Int32.zero_or
theorem fold_or (p : Nat → Bool) (f : Nat → Int32) (a : Int32) : ∀ n, fold (fun k s => if p k then s ||| f k else s) a n = a ||| gat p f n
  | 0 => (or_z a).symm
  | n + 1 => by
    show (if p n then fold _ a n ||| f n else fold _ a n) = a ||| (if p n then gat p f n ||| f n else gat p f n)
    rw [fold_or p f a n]
    cases p n
    · rfl
    · exact Int32.or_assoc _ _ _
/-- a gathering loop that begins with a set -/
theorem loop_gat0 {step : Int32 × Int32 → Option ((Int32 × Int32) ⊕ (Int32 × Int32))} (N : Nat) (p : Nat → Bool) (f : Nat → Int32) (a0 : Int32) (hb : ∀ k a, k < N → step (a, n32 k) = some (.inl (if p k then a ||| f k else a, n32 (k + 1)))) (he : ∀ a, step (a, n32 N) = some (.inr (a, n32 N))) : loopF step (a0, n32 0) = some (a0 ||| gat p f N, n32 N) := by
  rw [← fold_or]
  exact (loop_fold (step := step) N (fun a k => (a, n32 k)) (fun k a => if p k then a ||| f k else a) (fun _ _ => True) (a0 := a0) (out := fun a => (a, n32 N)) trivial (fun k a hk _ => ⟨hb k a hk, trivial⟩) (fun a _ => he a)).1
/-- where edges lead from a set -/
def onw (E : Nat) (x : St) (s : Int32) : Int32 := gat (fun e => le x e && hs s (fr x e)) (fun e => bit1 (tt x e)) E
theorem c_onward {N E : Nat} {x y : St} (hN : N ≤ 24) (h : RE N E x y) (s : Int32) : fX0_onward x s = some (onw E x s) := by
  have hE := h.1
  have hc := h.2.1
  unfold fX0_onward onw
  rw [lit_0, loop_gat E (fun e => le x e && hs s (fr x e)) (fun e => bit1 (tt x e)) (fun k a hk => ?_) (fun a => ?_)]
  · rfl
  · obtain ⟨h1, h2, -, h4, h5, -⟩ := RE_at h hN hk
    unfold fX0_onward_l4 fX0_onward_j45
    simp (disch := omega) only [eq_self, n_le, n_lt, n_inj, n_nat, gd_in, n_add, bi_z, bi_1, gd_bi, n_nonneg,  some_bind, lt_e, lit_NV, if_true, if_false, ite_true, ite_false, Option.bind_some, not_true, not_false_iff, lit_0, lit_1, lit_2, lit_3, lit_4, lit_5, lit_6, lit_7, lit_8, lit_12, lit_24, lit_25, lit_30, lit_60, lit_63, lit_96, lit_100, lit_512, lit_240, hc, c_isThereE hc hE, ed_n hE hk, Nat.not_le.mpr hk, h1, h2, c_bit, c_has s (show fr x k < 32 by omega)]
    cases h1 : le x k <;> cases h2 : hs s (fr x k) <;> simp
  · unfold fX0_onward_l4
    simp (disch := omega) only [eq_self, n_le, n_lt, n_inj, n_nat, gd_in, n_add, bi_z, bi_1, gd_bi, n_nonneg,  some_bind, lt_e, lit_NV, if_true, if_false, ite_true, ite_false, Option.bind_some, not_true, not_false_iff, lit_0, lit_1, lit_2, lit_3, lit_4, lit_5, lit_6, lit_7, lit_8, lit_12, lit_24, lit_25, lit_30, lit_60, lit_63, lit_96, lit_100, lit_512, lit_240, hc, Nat.le_refl]
/-- a walk of n steps from a set, within the set u -/
def wlk (E : Nat) (x : St) (u s : Int32) (n : Nat) : Int32 := fold (fun _ a => a ||| (onw E x a &&& u)) s n
theorem onw_in {N E : Nat} {x y : St} (hN : N ≤ 24) (h : RE N E x y) (s u : Int32) : onw E x s &&& u = gat (fun e => le x e && (hs s (fr x e) && hs u (tt x e))) (fun e => bit1 (tt x e)) E := by
  refine hs_ext fun i hi => ?_
  unfold onw
  rw [hs_and, hs_gat, hs_gat, Bool.eq_iff_iff]
  simp only [Bool.and_eq_true, List.any_eq_true, List.mem_range]
  constructor
  · rintro ⟨⟨e, he, ⟨h1, h2⟩, h3⟩, h4⟩
    obtain ⟨-, -, -, -, h5, -⟩ := RE_at h hN he
    have h6 : i = tt x e := by
      rw [hs_bit1 _ (by omega) i hi] at h3
      exact of_decide_eq_true h3
    exact ⟨e, he, ⟨h1, h2, by rw [← h6]; exact h4⟩, h3⟩
  · rintro ⟨e, he, ⟨h1, h2, h3⟩, h4⟩
    obtain ⟨-, -, -, -, h5, -⟩ := RE_at h hN he
    have h6 : i = tt x e := by
      rw [hs_bit1 _ (by omega) i hi] at h4
      exact of_decide_eq_true h4
    exact ⟨⟨e, he, ⟨h1, h2⟩, h4⟩, by rw [h6]; exact h3⟩
theorem start_in {u : Int32} {k : Nat} (hk : k < 32) : (if hs u k then bit1 k else n32 0) = bit1 k &&& u := by
  refine hs_ext fun i hi => ?_
  rw [hs_and, hs_bit1 k hk i hi]
  by_cases e : i = k
  · subst e
    cases h : hs u i
    · simp [hs_0]
    · simp [hs_bit1 i hk i hk]
  · cases h : hs u k
    · simp [e, hs_0]
    · simp [e, hs_bit1 k hk i hi]
theorem c_walked {N E : Nat} {x y : St} (hR : RN N x y) (h : RE N E x y) (hM : RM N x y) {k n : Nat} (hn : n ≤ 30) : fX10_walkedFrom x (n32 k) (n32 n) = some (wlk E x (rc false N x) (bit1 k &&& rc false N x) n) := by
  have hN := hR.1
  unfold fX10_walkedFrom wlk
  rw [c_reach hR hM, some_bind, c_bit, some_bind]
  have := loop_fold (step := fX10_walkedFrom_l19 x (n32 k) (n32 n) (rc false N x)) n (fun a j => (a, n32 j)) (fun _ a => a ||| (onw E x a &&& rc false N x)) (fun _ _ => True) (a0 := bit1 k &&& rc false N x) (out := fun a => (a, n32 n)) trivial
    (fun j a hj _ => ⟨by
      unfold fX10_walkedFrom_l19
      simp (disch := omega) only [eq_self, n_le, n_lt, n_inj, n_nat, gd_in, n_add, bi_z, bi_1, gd_bi, n_nonneg,  some_bind, lt_e, lit_NV, if_true, if_false, ite_true, ite_false, Option.bind_some, not_true, not_false_iff, lit_0, lit_1, lit_2, lit_3, lit_4, lit_5, lit_6, lit_7, lit_8, lit_12, lit_24, lit_25, lit_30, lit_60, lit_63, lit_96, lit_100, lit_512, lit_240, Nat.not_le.mpr hj, c_onward hN h], trivial⟩)
    (fun a _ => by
      unfold fX10_walkedFrom_l19
      simp (disch := omega) only [eq_self, n_le, n_lt, n_inj, n_nat, gd_in, n_add, bi_z, bi_1, gd_bi, n_nonneg,  some_bind, lt_e, lit_NV, if_true, if_false, ite_true, ite_false, Option.bind_some, not_true, not_false_iff, lit_0, lit_1, lit_2, lit_3, lit_4, lit_5, lit_6, lit_7, lit_8, lit_12, lit_24, lit_25, lit_30, lit_60, lit_63, lit_96, lit_100, lit_512, lit_240, Nat.le_refl])
  rw [lit_0, this.1]
  rfl
theorem r_comes {N E : Nat} {x y : St} (hR : RN N x y) (h : RE N E x y) (hM : RM N x y) {k n : Nat} (hk : k < 24) (hn : n ≤ 30) : fX11_comes y (n32 k) (n32 n) = some (wlk E x (rc false N x) (bit1 k &&& rc false N x) n) := by
  have hN := hR.1
  have hE := h.1
  obtain ⟨-, -, hc, hf, ht, -⟩ := id h
  unfold fX11_comes
  rw [show fX11_reached y 0 = _ from r_reached hR hM false, some_bind, r_has _ (show k < 32 by omega), some_bind]
  have key : fX11_comes_j21 y (n32 k) (n32 n) (rc false N x) (bit1 k &&& rc false N x) = some (wlk E x (rc false N x) (bit1 k &&& rc false N x) n) := by
    unfold fX11_comes_j21 wlk
    have := loop_fold (step := fX11_comes_l26 y (n32 k) (n32 n) (rc false N x)) n (fun a j => (a, n32 j)) (fun _ a => a ||| (onw E x a &&& rc false N x)) (fun _ _ => True) (a0 := bit1 k &&& rc false N x) (out := fun a => (a, n32 n)) trivial
      (fun j a hj _ => ⟨by
        unfold fX11_comes_l26
        simp (disch := omega) only [eq_self, n_le, n_lt, n_inj, n_nat, gd_in, n_add, bi_z, bi_1, gd_bi, n_nonneg,  some_bind, lt_e, lit_NV, if_true, if_false, ite_true, ite_false, Option.bind_some, not_true, not_false_iff, lit_0, lit_1, lit_2, lit_3, lit_4, lit_5, lit_6, lit_7, lit_8, lit_12, lit_24, lit_25, lit_30, lit_60, lit_63, lit_96, lit_100, lit_512, lit_240, Nat.not_le.mpr hj]
        rw [loop_gat0 E (fun e => le x e && (hs a (fr x e) && hs (rc false N x) (tt x e))) (fun e => bit1 (tt x e)) a (fun q b hq => ?_) (fun b => ?_), onw_in hN h]
        · rfl
        · obtain ⟨h1, h2, -, h4, h5, -⟩ := RE_at h hN hq
          unfold fX11_comes_l39 fX11_comes_j100 fX11_comes_j101
          simp (disch := omega) only [eq_self, n_le, n_lt, n_inj, n_nat, gd_in, n_add, bi_z, bi_1, gd_bi, n_nonneg,  some_bind, lt_e, lit_NV, if_true, if_false, ite_true, ite_false, Option.bind_some, not_true, not_false_iff, lit_0, lit_1, lit_2, lit_3, lit_4, lit_5, lit_6, lit_7, lit_8, lit_12, lit_24, lit_25, lit_30, lit_60, lit_63, lit_96, lit_100, lit_512, lit_240, hc, r_isEdge h, ed_n hE hq, Nat.not_le.mpr hq, hf, ht, h1, h2, r_has a (show fr x q < 32 by omega), r_has (rc false N x) (show tt x q < 32 by omega), or_z]
          cases le x q <;> cases hs a (fr x q) <;> cases hs (rc false N x) (tt x q) <;> simp [bit1, n32]
        · unfold fX11_comes_l39
          simp (disch := omega) only [eq_self, n_le, n_lt, n_inj, n_nat, gd_in, n_add, bi_z, bi_1, gd_bi, n_nonneg,  some_bind, lt_e, lit_NV, if_true, if_false, ite_true, ite_false, Option.bind_some, not_true, not_false_iff, lit_0, lit_1, lit_2, lit_3, lit_4, lit_5, lit_6, lit_7, lit_8, lit_12, lit_24, lit_25, lit_30, lit_60, lit_63, lit_96, lit_100, lit_512, lit_240, hc, Nat.le_refl], trivial⟩)
      (fun a _ => by
        unfold fX11_comes_l26
        simp (disch := omega) only [eq_self, n_le, n_lt, n_inj, n_nat, gd_in, n_add, bi_z, bi_1, gd_bi, n_nonneg,  some_bind, lt_e, lit_NV, if_true, if_false, ite_true, ite_false, Option.bind_some, not_true, not_false_iff, lit_0, lit_1, lit_2, lit_3, lit_4, lit_5, lit_6, lit_7, lit_8, lit_12, lit_24, lit_25, lit_30, lit_60, lit_63, lit_96, lit_100, lit_512, lit_240, Nat.le_refl])
    rw [lit_0, this.1]
    rfl
  rw [← start_in (show k < 32 by omega)] at key ⊢
  cases h1 : hs (rc false N x) k
  · rw [h1] at key; exact key
  · rw [h1] at key; exact key
theorem c_reqSteps {x : St} (a : Int32) : fX10_requireSteps x a = some (if bw 31 a then .inl () else .inr 1) := by
  unfold fX10_requireSteps fX10_requireSteps_j10 bw
  have h31 : (a ≤ 30) = (a < n32 31) := by
    rw [eq_iff_iff, Int32.lt_iff_toInt_lt, Int32.le_iff_toInt_le]
    have h1 : (30 : Int32).toInt = 30 := by decide
    have h2 : (n32 31).toInt = 31 := by decide
    omega
  by_cases h1 : a < 0
  · rw [if_pos h1, decide_eq_false (fun q => q.1 h1)]; rfl
  · rw [if_neg h1]
    by_cases h2 : a ≤ 30
    · rw [if_pos h2, decide_eq_true ⟨h1, h31 ▸ h2⟩]; rfl
    · rw [if_neg h2, decide_eq_false (fun q => h2 (h31 ▸ q.2))]; rfl
theorem r_isIn30 {y : St} (a : Int32) : fX11_isIn y a 0 30 = some (bi (bw 31 a)) := r_isIn (y := y) (a := a) (n := 31) (by decide)
theorem q_walk {N E : Nat} {x y : St} {v : Int64} (hR : RN N x y) (h : RE N E x y) (hM : RM N x y) (a b : Int32) : agQ (fL_walk x v a b) (fX11_walk y a b) x y := by
  obtain ⟨hN, hc, -⟩ := id hR
  unfold fL_walk fX10_walk fX11_walk fX11_walk_j28
  rw [c_reqNode hc hN, r_isNode hR]
  cases h1 : nd N x a
  · exact ⟨1, v, 0, rfl, rfl, fun h => absurd h (by decide)⟩
  · obtain ⟨k, hk, rfl, -⟩ := nd_ex hN h1
    simp (disch := omega) only [eq_self, n_le, n_lt, n_inj, n_nat, gd_in, n_add, bi_z, bi_1, gd_bi, n_nonneg,  some_bind, lt_e, lit_NV, if_true, if_false, ite_true, ite_false, Option.bind_some, not_true, not_false_iff, lit_0, lit_1, lit_2, lit_3, lit_4, lit_5, lit_6, lit_7, lit_8, lit_12, lit_24, lit_25, lit_30, lit_60, lit_63, lit_96, lit_100, lit_512, lit_240, Sum.elim_inl, c_reqSteps, show ∀ y : St, fX11_isIn y b (n32 0) (n32 30) = _ from fun y => r_isIn30 b]
    cases h2 : bw 31 b
    · exact ⟨2, v, 0, rfl, rfl, fun h => absurd h (by decide)⟩
    · obtain ⟨n, hn, rfl⟩ := bw_ex (by decide) h2
      refine ⟨0, _, wlk E x (rc false N x) (bit1 k &&& rc false N x) n, ?_, ?_, fun _ => rfl⟩
      · simp (disch := omega) only [eq_self, n_le, n_lt, n_inj, n_nat, gd_in, n_add, bi_z, bi_1, gd_bi, n_nonneg,  some_bind, lt_e, lit_NV, if_true, if_false, ite_true, ite_false, Option.bind_some, not_true, not_false_iff, lit_0, lit_1, lit_2, lit_3, lit_4, lit_5, lit_6, lit_7, lit_8, lit_12, lit_24, lit_25, lit_30, lit_60, lit_63, lit_96, lit_100, lit_512, lit_240, Sum.elim_inl, c_walked hR h hM (show n ≤ 30 by omega)]
      · simp (disch := omega) only [eq_self, n_le, n_lt, n_inj, n_nat, gd_in, n_add, bi_z, bi_1, gd_bi, n_nonneg,  some_bind, lt_e, lit_NV, if_true, if_false, ite_true, ite_false, Option.bind_some, not_true, not_false_iff, lit_0, lit_1, lit_2, lit_3, lit_4, lit_5, lit_6, lit_7, lit_8, lit_12, lit_24, lit_25, lit_30, lit_60, lit_63, lit_96, lit_100, lit_512, lit_240, r_fails0, r_comes (RN_th hR) (RE_th h) (RM_th hM) (show k < 24 by omega) (show n ≤ 30 by omega), Bool.true_eq_false]
theorem n_dec {n : Nat} (h : 0 < n) (hn : n < 2 ^ 31) : n32 n - n32 1 = n32 (n - 1) := by
  rw [← Int32.toInt_inj, n_toInt (by omega)]
  have h5 : n32 n - n32 1 = Int32.ofInt ((n : Int) - 1) := by rw [Int32.ofInt_sub]; rfl
  rw [h5, Int32.toInt_ofInt_of_le (by omega) (by omega)]
  omega
/-- the edges that leave a set and lie between two machines -/
def crs (E : Nat) (x : St) (s : Int32) : Nat := cnt (fun e => le x e && (hs s (fr x e) && !decide (gi x 21 (fr x e) = gi x 21 (tt x e)))) E
theorem q_crossings {N E : Nat} {x y : St} {v : Int64} (hR : RN N x y) (h : RE N E x y) (hM : RM N x y) (a b : Int32) : agQ (fL_crossings x v a b) (fX11_crossings y a b) x y := by
  obtain ⟨hN, hc, -⟩ := id hR
  have hE := h.1
  have hcE := h.2.1
  have c_loop : ∀ (a b s : Int32), loopF (fX10_crossings_l30 x a b s) (n32 0, n32 0) = some (n32 (crs E x s), n32 E) := fun a b s => by
    unfold crs
    refine loop_cnt E (fun e => le x e && (hs s (fr x e) && !decide (gi x 21 (fr x e) = gi x 21 (tt x e)))) (fun k c hk hc9 => ?_) (fun c hc9 => ?_)
    · obtain ⟨h1, h2, -, h4, h5, -⟩ := RE_at h hN hk
      unfold fX10_crossings_l30 fX10_crossings_j86
      simp (disch := omega) only [eq_self, n_le, n_lt, n_inj, n_nat, gd_in, n_add, bi_z, bi_1, gd_bi, n_nonneg,  some_bind, lt_e, lit_NV, if_true, if_false, ite_true, ite_false, Option.bind_some, not_true, not_false_iff, lit_0, lit_1, lit_2, lit_3, lit_4, lit_5, lit_6, lit_7, lit_8, lit_12, lit_24, lit_25, lit_30, lit_60, lit_63, lit_96, lit_100, lit_512, lit_240, hcE, c_isThereE hcE hE, ed_n hE hk, Nat.not_le.mpr hk, h1, c_has s (show fr x k < 32 by omega), c_isCut hN h hk]
      cases le x k <;> cases hs s (fr x k) <;> by_cases h3 : gi x 21 (fr x k) = gi x 21 (tt x k) <;> simp [h3]
    · unfold fX10_crossings_l30
      simp (disch := omega) only [eq_self, n_le, n_lt, n_inj, n_nat, gd_in, n_add, bi_z, bi_1, gd_bi, n_nonneg,  some_bind, lt_e, lit_NV, if_true, if_false, ite_true, ite_false, Option.bind_some, not_true, not_false_iff, lit_0, lit_1, lit_2, lit_3, lit_4, lit_5, lit_6, lit_7, lit_8, lit_12, lit_24, lit_25, lit_30, lit_60, lit_63, lit_96, lit_100, lit_512, lit_240, hcE, Nat.le_refl]
  have r_loop : ∀ (y : St), RE N E x y → (∀ k, gi y 3 k = gi x 21 k) → ∀ (a b s : Int32), loopF (fX11_crossings_l59 y a b s) (n32 0, n32 0) = some (n32 (crs E x s), n32 E) := fun y h hm a b s => by
    obtain ⟨-, -, hc, hf, ht, -⟩ := id h
    unfold crs
    refine loop_cnt E (fun e => le x e && (hs s (fr x e) && !decide (gi x 21 (fr x e) = gi x 21 (tt x e)))) (fun k c hk hc9 => ?_) (fun c hc9 => ?_)
    · obtain ⟨h1, h2, -, h4, h5, -⟩ := RE_at h hN hk
      unfold fX11_crossings_l59 fX11_crossings_j124 fX11_crossings_j125
      simp (disch := omega) only [eq_self, n_le, n_lt, n_inj, n_nat, gd_in, n_add, bi_z, bi_1, gd_bi, n_nonneg,  some_bind, lt_e, lit_NV, if_true, if_false, ite_true, ite_false, Option.bind_some, not_true, not_false_iff, lit_0, lit_1, lit_2, lit_3, lit_4, lit_5, lit_6, lit_7, lit_8, lit_12, lit_24, lit_25, lit_30, lit_60, lit_63, lit_96, lit_100, lit_512, lit_240, hc, r_isEdge h, ed_n hE hk, Nat.not_le.mpr hk, hf, ht, h1, h2, hm, r_has s (show fr x k < 32 by omega)]
      cases le x k <;> cases hs s (fr x k) <;> by_cases h3 : gi x 21 (fr x k) = gi x 21 (tt x k) <;> simp [h3]
    · unfold fX11_crossings_l59
      simp (disch := omega) only [eq_self, n_le, n_lt, n_inj, n_nat, gd_in, n_add, bi_z, bi_1, gd_bi, n_nonneg,  some_bind, lt_e, lit_NV, if_true, if_false, ite_true, ite_false, Option.bind_some, not_true, not_false_iff, lit_0, lit_1, lit_2, lit_3, lit_4, lit_5, lit_6, lit_7, lit_8, lit_12, lit_24, lit_25, lit_30, lit_60, lit_63, lit_96, lit_100, lit_512, lit_240, hc, Nat.le_refl]
  unfold fL_crossings fX10_crossings fX11_crossings fX11_crossings_j28 fX11_crossings_j52
  rw [c_reqNode hc hN, r_isNode hR]
  cases h1 : nd N x a
  · exact ⟨1, v, 0, rfl, rfl, fun h => absurd h (by decide)⟩
  · obtain ⟨k, hk, rfl, -⟩ := nd_ex hN h1
    simp (disch := omega) only [eq_self, n_le, n_lt, n_inj, n_nat, gd_in, n_add, bi_z, bi_1, gd_bi, n_nonneg,  some_bind, lt_e, lit_NV, if_true, if_false, ite_true, ite_false, Option.bind_some, not_true, not_false_iff, lit_0, lit_1, lit_2, lit_3, lit_4, lit_5, lit_6, lit_7, lit_8, lit_12, lit_24, lit_25, lit_30, lit_60, lit_63, lit_96, lit_100, lit_512, lit_240, Sum.elim_inl, c_reqSteps, show ∀ y : St, fX11_isIn y b (n32 0) (n32 30) = _ from fun y => r_isIn30 b]
    cases h2 : bw 31 b
    · exact ⟨2, v, 0, rfl, rfl, fun h => absurd h (by decide)⟩
    · obtain ⟨n, hn, rfl⟩ := bw_ex (by decide) h2
      cases n with
      | zero =>
        have h0 : crs E x (n32 0) = 0 := by
          unfold crs
          rw [cnt_cg (q := fun _ => false) (fun k _ => by rw [hs_0]; simp)]
          have : ∀ n, cnt (fun _ => false) n = 0 := fun n => by
            induction n with
            | zero => rfl
            | succ n ih => exact ih
          exact this E
        refine ⟨0, _, n32 0, ?_, ?_, fun _ => rfl⟩
        · simp (disch := omega) only [eq_self, n_le, n_lt, n_inj, n_nat, gd_in, n_add, bi_z, bi_1, gd_bi, n_nonneg,  some_bind, lt_e, lit_NV, if_true, if_false, ite_true, ite_false, Option.bind_some, not_true, not_false_iff, lit_0, lit_1, lit_2, lit_3, lit_4, lit_5, lit_6, lit_7, lit_8, lit_12, lit_24, lit_25, lit_30, lit_60, lit_63, lit_96, lit_100, lit_512, lit_240, Sum.elim_inl]
        · simp (disch := omega) only [eq_self, n_le, n_lt, n_inj, n_nat, gd_in, n_add, bi_z, bi_1, gd_bi, n_nonneg,  some_bind, lt_e, lit_NV, if_true, if_false, ite_true, ite_false, Option.bind_some, not_true, not_false_iff, lit_0, lit_1, lit_2, lit_3, lit_4, lit_5, lit_6, lit_7, lit_8, lit_12, lit_24, lit_25, lit_30, lit_60, lit_63, lit_96, lit_100, lit_512, lit_240, r_fails0, Bool.true_eq_false, r_loop _ (RE_th h) (RM_th hM).1, h0]
      | succ n =>
        refine ⟨0, _, n32 (crs E x (wlk E x (rc false N x) (bit1 k &&& rc false N x) n)), ?_, ?_, fun _ => rfl⟩
        · simp (disch := omega) only [eq_self, n_le, n_lt, n_inj, n_nat, gd_in, n_add, bi_z, bi_1, gd_bi, n_nonneg,  some_bind, lt_e, lit_NV, if_true, if_false, ite_true, ite_false, Option.bind_some, not_true, not_false_iff, lit_0, lit_1, lit_2, lit_3, lit_4, lit_5, lit_6, lit_7, lit_8, lit_12, lit_24, lit_25, lit_30, lit_60, lit_63, lit_96, lit_100, lit_512, lit_240, Sum.elim_inl, Bool.true_eq_false, Nat.succ_ne_zero, n_dec, Nat.add_sub_cancel, c_walked hR h hM (show n ≤ 30 by omega), c_loop]
        · simp (disch := omega) only [eq_self, n_le, n_lt, n_inj, n_nat, gd_in, n_add, bi_z, bi_1, gd_bi, n_nonneg,  some_bind, lt_e, lit_NV, if_true, if_false, ite_true, ite_false, Option.bind_some, not_true, not_false_iff, lit_0, lit_1, lit_2, lit_3, lit_4, lit_5, lit_6, lit_7, lit_8, lit_12, lit_24, lit_25, lit_30, lit_60, lit_63, lit_96, lit_100, lit_512, lit_240, r_fails0, Bool.true_eq_false, Nat.succ_ne_zero, n_dec, Nat.add_sub_cancel, r_comes (RN_th hR) (RE_th h) (RM_th hM) (show k < 24 by omega) (show n ≤ 30 by omega), r_loop _ (RE_th h) (RM_th hM).1]
