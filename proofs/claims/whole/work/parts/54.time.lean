/-! ### what was when: the log of values -/
def RG (N P : Nat) (x y : St) : Prop := P ≤ 512 ∧ gi x 1 9 = n32 P ∧ gi y 0 11 = n32 P ∧ (∀ i, gi y 10 i = gi x 7 i) ∧ (∀ i, gi y 11 i = gi x 9 i) ∧ (∀ i, gi y 12 i = gi x 8 i) ∧ ∀ k, k < N → ∃ i, i < P ∧ gi x 7 i = n32 k ∧ ¬ gi x 2 k < gi x 9 i
theorem RG_th {N P : Nat} {x y : St} {c : Int32} (h : RG N P x y) : RG N P x (th y c) := by
  unfold RG at *
  simpa [gi_th] using h
def lgc (x : St) (a t : Int32) (i : Nat) : Bool := decide (gi x 7 i = a) && !decide (t < gi x 9 i)
theorem last_ex {p : Nat → Bool} : ∀ {n : Nat}, (∃ k, k < n ∧ p k = true) → ∃ k, k < n ∧ p k = true ∧ ∀ j, k < j → j < n → p j = false
  | 0, ⟨k, h, _⟩ => absurd h (Nat.not_lt_zero k)
  | n + 1, ⟨k, hk, h⟩ => by
    cases hp : p n with
    | true => exact ⟨n, Nat.lt_succ_self n, hp, fun j h1 h2 => absurd h1 (by omega)⟩
    | false =>
      have hkn : k < n := by
        apply Classical.byContradiction
        intro q
        have : k = n := by omega
        subst this
        rw [h] at hp; cases hp
      obtain ⟨j, h1, h2, h3⟩ := last_ex ⟨k, hkn, h⟩
      refine ⟨j, by omega, h2, fun i hi hn => ?_⟩
      by_cases e : i = n
      · subst e; exact hp
      · exact h3 i hi (by omega)
theorem n_pred {k : Nat} : n32 (k + 1) + -n32 1 = n32 k := by
  rw [← n_add, ← Int32.sub_eq_add_neg, Int32.add_sub_cancel]
theorem c_valAs {P k : Nat} {x : St} {a t : Int32} (hP : P ≤ 512) (hp : gi x 1 9 = n32 P) (hk : k < P) (h1 : lgc x a t k = true) (h2 : ∀ j, k < j → j < P → lgc x a t j = false) : fX6_valueAsOf x a t = some (gi x 8 k) := by
  have hl : loopF (fX6_valueAsOf_l7 x a t) (n32 (P - 1 - 0)) = some (.inr (gi x 8 k)) := by
    refine loopF_seq (fun j => n32 (P - 1 - j)) (P - 1 - k) (fun j hj => ?_) ?_
    · obtain ⟨q, hq⟩ : ∃ q, P - 1 - j = q + 1 := ⟨P - 1 - j - 1, by omega⟩
      have h3 := h2 (q + 1) (by omega) (by omega)
      unfold lgc at h3
      unfold fX6_valueAsOf_l7 fX6_valueAsOf_j38
      rw [hq, show P - 1 - (j + 1) = q by omega]
      simp (disch := omega) only [eq_self, n_le, n_lt, n_inj, n_nat, gd_in, n_add, bi_z, bi_1, gd_bi, n_nonneg,  some_bind, lt_e, lit_NV, if_true, if_false, ite_true, ite_false, Option.bind_some, not_true, not_false_iff, lit_0, lit_1, lit_2, lit_3, lit_4, lit_5, lit_6, lit_7, lit_8, lit_12, lit_24, lit_25, lit_30, lit_60, lit_63, lit_96, lit_100, lit_512, lit_240, n_pred]
      rw [if_neg (Nat.not_lt_zero _)]
      by_cases e1 : gi x 7 (q + 1) = a
      · by_cases e2 : t < gi x 9 (q + 1)
        · simp [e1, e2]
        · simp [e1, e2] at h3
      · simp [e1]
    · show fX6_valueAsOf_l7 x a t (n32 (P - 1 - (P - 1 - k))) = _
      rw [show P - 1 - (P - 1 - k) = k by omega]
      unfold lgc at h1
      unfold fX6_valueAsOf_l7
      simp only [Bool.and_eq_true, decide_eq_true_eq, Bool.not_eq_true', decide_eq_false_iff_not] at h1
      simp (disch := omega) only [eq_self, n_le, n_lt, n_inj, n_nat, gd_in, n_add, bi_z, bi_1, gd_bi, n_nonneg,  some_bind, lt_e, lit_NV, if_true, if_false, ite_true, ite_false, Option.bind_some, not_true, not_false_iff, lit_0, lit_1, lit_2, lit_3, lit_4, lit_5, lit_6, lit_7, lit_8, lit_12, lit_24, lit_25, lit_30, lit_60, lit_63, lit_96, lit_100, lit_512, lit_240]
      rw [if_neg (Nat.not_lt_zero _)]
      simp [h1.1, h1.2]
  unfold fX6_valueAsOf
  rw [lt_e, hp]
  have e : n32 P - 1 = n32 (P - 1 - 0) := n_dec (by omega) (by omega)
  rw [e, hl]
  rfl
theorem r_valThen {N P k : Nat} {x y : St} {a t : Int32} (hG : RG N P x y) (hk : k < P) (h1 : lgc x a t k = true) (h2 : ∀ j, k < j → j < P → lgc x a t j = false) : fX11_valueThen y a t = some (gi x 8 k) := by
  obtain ⟨hP, -, hp, g1, g2, g3, -⟩ := hG
  have hl := (loop_fold (step := fX11_valueThen_l5 y a t) P (fun v i => (v, n32 i)) (fun i v => if lgc x a t i then gi x 8 i else v) (fun _ _ => True) (a0 := n32 0) (out := fun v => (v, n32 P)) trivial
    (fun i v hi _ => ⟨by
      unfold fX11_valueThen_l5 fX11_valueThen_j46 fX11_valueThen_j47 lgc
      simp (disch := omega) only [eq_self, n_le, n_lt, n_inj, n_nat, gd_in, n_add, bi_z, bi_1, gd_bi, n_nonneg,  some_bind, lt_e, lit_NV, if_true, if_false, ite_true, ite_false, Option.bind_some, not_true, not_false_iff, lit_0, lit_1, lit_2, lit_3, lit_4, lit_5, lit_6, lit_7, lit_8, lit_12, lit_24, lit_25, lit_30, lit_60, lit_63, lit_96, lit_100, lit_512, lit_240, hp, Nat.not_le.mpr hi, g1, g2, g3]
      by_cases e1 : gi x 7 i = a <;> by_cases e2 : t < gi x 9 i <;> simp [e1, e2], trivial⟩)
    (fun v _ => by
      unfold fX11_valueThen_l5
      simp (disch := omega) only [eq_self, n_le, n_lt, n_inj, n_nat, gd_in, n_add, bi_z, bi_1, gd_bi, n_nonneg,  some_bind, lt_e, lit_NV, if_true, if_false, ite_true, ite_false, Option.bind_some, not_true, not_false_iff, lit_0, lit_1, lit_2, lit_3, lit_4, lit_5, lit_6, lit_7, lit_8, lit_12, lit_24, lit_25, lit_30, lit_60, lit_63, lit_96, lit_100, lit_512, lit_240, hp, Nat.le_refl])).1
  have hv : ∀ n, k < n → n ≤ P → fold (fun i v => if lgc x a t i then gi x 8 i else v) (n32 0) n = gi x 8 k := fun n => by
    induction n with
    | zero => intro h _; exact absurd h (Nat.not_lt_zero k)
    | succ n ih =>
      intro h9 hn
      show (if lgc x a t n then gi x 8 n else fold _ (n32 0) n) = gi x 8 k
      by_cases e : k = n
      · subst e; rw [h1]; rfl
      · rw [h2 n (by omega) (by omega), if_neg (by decide)]
        exact ih (by omega) (by omega)
  unfold fX11_valueThen
  rw [lit_0, hl, hv P hk (Nat.le_refl _)]
  rfl
/-- the value of a node at a time at which it was there: both sides find the same -/
theorem val_same {N P : Nat} {x y : St} (hN : N ≤ 24) (hG : RG N P x y) {k : Nat} {t : Int32} (hw : wn N x (n32 k) t = true) (hk : k < N) : ∃ r, fX6_valueAsOf x (n32 k) t = some r ∧ fX11_valueThen y (n32 k) t = some r := by
  obtain ⟨hP, hp, -, -, -, -, hb⟩ := id hG
  obtain ⟨i, hi, e1, e2⟩ := hb k hk
  have hc : lgc x (n32 k) t i = true := by
    unfold wn at hw
    simp only [Bool.and_eq_true, decide_eq_true_eq] at hw
    have h3 := hw.2.1
    rw [n_nat (by omega)] at h3
    unfold lgc
    rw [e1]
    simp only [decide_true, Bool.true_and, Bool.not_eq_true', decide_eq_false_iff_not]
    rw [Int32.lt_iff_toInt_lt] at h3 e2 ⊢
    omega
  obtain ⟨j, hj, h1, h2⟩ := last_ex ⟨i, hi, hc⟩
  exact ⟨gi x 8 j, c_valAs hP hp hj h1 h2, r_valThen hG hj h1 h2⟩
theorem c_reqTime {T : Nat} {x y : St} (hT : RT T x y) (a : Int32) : fX10_requireTime x a = some (if bw (T + 1) a then .inl () else .inr 1) := by
  obtain ⟨h1, h2, -⟩ := hT
  unfold fX10_requireTime fX10_requireTime_j12 bw
  have h31 : (a ≤ n32 T) = (a < n32 (T + 1)) := by
    rw [eq_iff_iff, Int32.lt_iff_toInt_lt, Int32.le_iff_toInt_le, n_toInt (by omega), n_toInt (by omega)]
    omega
  rw [h2]
  by_cases h1 : a < 0
  · rw [if_pos h1, decide_eq_false (fun q => q.1 h1)]; rfl
  · rw [if_neg h1]
    by_cases h2 : a ≤ n32 T
    · rw [if_pos h2, decide_eq_true ⟨h1, h31 ▸ h2⟩]; rfl
    · rw [if_neg h2, decide_eq_false (fun q => h2 (h31 ▸ q.2))]; rfl
theorem r_isInT {T : Nat} {y : St} (hT : T ≤ 512) (a : Int32) : fX11_isIn y a (n32 0) (n32 T) = some (bi (bw (T + 1) a)) := by
  have := r_isIn (y := y) (a := a) (n := T + 1) (by omega)
  rw [n_dec (by omega) (by omega), Nat.add_sub_cancel] at this
  exact this
theorem q_sizeAt {N E T : Nat} {x y : St} {v : Int64} (hR : RN N x y) (h : RE N E x y) (hT : RT T x y) (a : Int32) : agQ (fL_sizeAt x v a) (fX11_sizeAt y a) x y := by
  obtain ⟨hN, hc, hcr, -, -, hb, hg, -⟩ := id hR
  obtain ⟨hE, hcE, hcEr, -, -, -, hbE, hgE, -⟩ := id h
  have hl1 : ∀ y, RN N x y → loopF (fX11_sizeAt_l30 y a) (n32 0, n32 0) = some (n32 (100 * cnt (fun k => wn N x (n32 k) a) N), n32 N) := fun y hR => by
    obtain ⟨hN, hc, hcr, -, -, hb, hg, -⟩ := id hR
    have := (loop_fold (step := fX11_sizeAt_l30 y a) N (fun s i => (n32 (100 * s), n32 i)) (fun k s => if wn N x (n32 k) a then s + 1 else s) (fun _ _ => True) (a0 := 0) (out := fun s => (n32 (100 * s), n32 N)) trivial
      (fun k s hk _ => ⟨by
        unfold fX11_sizeAt_l30 fX11_sizeAt_j64 wn
        simp (disch := omega) only [eq_self, n_le, n_lt, n_inj, n_nat, gd_in, n_add, bi_z, bi_1, gd_bi, n_nonneg,  some_bind, lt_e, lit_NV, if_true, if_false, ite_true, ite_false, Option.bind_some, not_true, not_false_iff, lit_0, lit_1, lit_2, lit_3, lit_4, lit_5, lit_6, lit_7, lit_8, lit_12, lit_24, lit_25, lit_30, lit_60, lit_63, lit_96, lit_100, lit_512, lit_240, hcr, Nat.not_le.mpr hk, hb, hg, r_wasThere]
        have : ¬ n32 k < 0 ∧ True := ⟨n_nonneg (by omega), trivial⟩
        cases hq : (decide (¬ a < gi x 2 k) && decide (¬ gi x 3 k ≤ a)) <;> simp_all [n_add, Nat.mul_add, or_z', not_false_iff], trivial⟩)
      (fun s _ => by
        unfold fX11_sizeAt_l30
        simp (disch := omega) only [eq_self, n_le, n_lt, n_inj, n_nat, gd_in, n_add, bi_z, bi_1, gd_bi, n_nonneg,  some_bind, lt_e, lit_NV, if_true, if_false, ite_true, ite_false, Option.bind_some, not_true, not_false_iff, lit_0, lit_1, lit_2, lit_3, lit_4, lit_5, lit_6, lit_7, lit_8, lit_12, lit_24, lit_25, lit_30, lit_60, lit_63, lit_96, lit_100, lit_512, lit_240, hcr, Nat.le_refl])).1
    exact this
  have hl2 : ∀ y, RE N E x y → ∀ s0 : Nat, loopF (fX11_sizeAt_l74 y a) (n32 s0, n32 0) = some (n32 (s0 + cnt (fun k => we E x (n32 k) a) E), n32 E) := fun y h s0 => by
    obtain ⟨hE, hcE, hcEr, -, -, -, hbE, hgE, -⟩ := id h
    exact (loop_fold (step := fX11_sizeAt_l74 y a) E (fun s i => (n32 (s0 + s), n32 i)) (fun k s => if we E x (n32 k) a then s + 1 else s) (fun _ _ => True) (a0 := 0) (out := fun s => (n32 (s0 + s), n32 E)) trivial
      (fun k s hk _ => ⟨by
        unfold fX11_sizeAt_l74 fX11_sizeAt_j107 we
        simp (disch := omega) only [eq_self, n_le, n_lt, n_inj, n_nat, gd_in, n_add, bi_z, bi_1, gd_bi, n_nonneg,  some_bind, lt_e, lit_NV, if_true, if_false, ite_true, ite_false, Option.bind_some, not_true, not_false_iff, lit_0, lit_1, lit_2, lit_3, lit_4, lit_5, lit_6, lit_7, lit_8, lit_12, lit_24, lit_25, lit_30, lit_60, lit_63, lit_96, lit_100, lit_512, lit_240, hcEr, Nat.not_le.mpr hk, hbE, hgE, r_wasThere]
        cases hq : (decide (¬ a < gi x 11 k) && decide (¬ gi x 12 k ≤ a)) <;> simp_all [n_add, or_z', not_false_iff, Nat.add_assoc], trivial⟩)
      (fun s _ => by
        unfold fX11_sizeAt_l74
        simp (disch := omega) only [eq_self, n_le, n_lt, n_inj, n_nat, gd_in, n_add, bi_z, bi_1, gd_bi, n_nonneg,  some_bind, lt_e, lit_NV, if_true, if_false, ite_true, ite_false, Option.bind_some, not_true, not_false_iff, lit_0, lit_1, lit_2, lit_3, lit_4, lit_5, lit_6, lit_7, lit_8, lit_12, lit_24, lit_25, lit_30, lit_60, lit_63, lit_96, lit_100, lit_512, lit_240, hcEr, Nat.le_refl])).1
  unfold fL_sizeAt fX10_sizeAt fX11_sizeAt fX11_sizeAt_j18
  simp (disch := omega) only [eq_self, n_le, n_lt, n_inj, n_nat, gd_in, n_add, bi_z, bi_1, gd_bi, n_nonneg,  some_bind, lt_e, lit_NV, if_true, if_false, ite_true, ite_false, Option.bind_some, not_true, not_false_iff, lit_0, lit_1, lit_2, lit_3, lit_4, lit_5, lit_6, lit_7, lit_8, lit_12, lit_24, lit_25, lit_30, lit_60, lit_63, lit_96, lit_100, lit_512, lit_240, c_reqTime hT, hT.2.2, show ∀ y : St, fX11_isIn y a (n32 0) (n32 T) = _ from fun y => r_isInT hT.1 a]
  cases h1 : bw (T + 1) a
  · exact ⟨1, v, 0, rfl, rfl, fun h => absurd h (by decide)⟩
  · refine ⟨0, _, n32 (100 * cnt (fun k => wn N x (n32 k) a) N + cnt (fun k => we E x (n32 k) a) E), ?_, ?_, fun _ => rfl⟩
    · simp (disch := omega) only [eq_self, n_le, n_lt, n_inj, n_nat, gd_in, n_add, bi_z, bi_1, gd_bi, n_nonneg,  some_bind, lt_e, lit_NV, if_true, if_false, ite_true, ite_false, Option.bind_some, not_true, not_false_iff, lit_0, lit_1, lit_2, lit_3, lit_4, lit_5, lit_6, lit_7, lit_8, lit_12, lit_24, lit_25, lit_30, lit_60, lit_63, lit_96, lit_100, lit_512, lit_240, Sum.elim_inl, c_countN hc hN, c_countE hcE hE]
      rw [show n32 100 * n32 (cnt (fun k => wn N x (n32 k) a) N) = n32 (100 * cnt (fun k => wn N x (n32 k) a) N) from (Int32.ofNat_mul _ _).symm, n_add]
    · simp (disch := omega) only [eq_self, n_le, n_lt, n_inj, n_nat, gd_in, n_add, bi_z, bi_1, gd_bi, n_nonneg,  some_bind, lt_e, lit_NV, if_true, if_false, ite_true, ite_false, Option.bind_some, not_true, not_false_iff, lit_0, lit_1, lit_2, lit_3, lit_4, lit_5, lit_6, lit_7, lit_8, lit_12, lit_24, lit_25, lit_30, lit_60, lit_63, lit_96, lit_100, lit_512, lit_240, r_fails0, Bool.true_eq_false, hl1 _ (RN_th hR), hl2 _ (RE_th h)]
theorem q_valueAt {N P T : Nat} {x y : St} {v : Int64} (hR : RN N x y) (hG : RG N P x y) (hT : RT T x y) (a b : Int32) : agQ (fL_valueAt x v a b) (fX11_valueAt y a b) x y := by
  obtain ⟨hN, hc, hcr, -, -, hbo, hgo, -⟩ := id hR
  have hnode : ∀ y : St, fX11_isIn y a (n32 0) (n32 N - n32 1) = some (bi (bw N a)) := fun y => r_isIn (y := y) (a := a) (n := N) (by omega)
  unfold fL_valueAt fX10_valueAt fX11_valueAt fX11_valueAt_j47 fX11_valueAt_j48
  simp (disch := omega) only [eq_self, n_le, n_lt, n_inj, n_nat, gd_in, n_add, bi_z, bi_1, gd_bi, n_nonneg,  some_bind, lt_e, lit_NV, if_true, if_false, ite_true, ite_false, Option.bind_some, not_true, not_false_iff, lit_0, lit_1, lit_2, lit_3, lit_4, lit_5, lit_6, lit_7, lit_8, lit_12, lit_24, lit_25, lit_30, lit_60, lit_63, lit_96, lit_100, lit_512, lit_240, c_reqTime hT, hT.2.2, hcr, show ∀ y : St, fX11_isIn y b (n32 0) (n32 T) = _ from fun y => r_isInT hT.1 b, hnode]
  cases h1 : bw (T + 1) b
  · refine ⟨2, v, 0, rfl, ?_, fun h => absurd h (by decide)⟩
    cases h2 : bw N a
    · rfl
    · obtain ⟨k, hk, rfl⟩ := bw_ex (by omega) h2
      simp (disch := omega) only [eq_self, n_le, n_lt, n_inj, n_nat, gd_in, n_add, bi_z, bi_1, gd_bi, n_nonneg,  some_bind, lt_e, lit_NV, if_true, if_false, ite_true, ite_false, Option.bind_some, not_true, not_false_iff, lit_0, lit_1, lit_2, lit_3, lit_4, lit_5, lit_6, lit_7, lit_8, lit_12, lit_24, lit_25, lit_30, lit_60, lit_63, lit_96, lit_100, lit_512, lit_240, hbo, hgo, r_wasThere, Bool.true_eq_false]
      first | rfl | (split <;> rfl)
  · simp (disch := omega) only [eq_self, n_le, n_lt, n_inj, n_nat, gd_in, n_add, bi_z, bi_1, gd_bi, n_nonneg,  some_bind, lt_e, lit_NV, if_true, if_false, ite_true, ite_false, Option.bind_some, not_true, not_false_iff, lit_0, lit_1, lit_2, lit_3, lit_4, lit_5, lit_6, lit_7, lit_8, lit_12, lit_24, lit_25, lit_30, lit_60, lit_63, lit_96, lit_100, lit_512, lit_240, Sum.elim_inl, c_wasThereN hc hN, Bool.true_eq_false]
    cases h2 : bw N a
    · have hw : wn N x a b = false := by
        unfold wn
        unfold bw at h2
        rw [h2]; rfl
      refine ⟨1, v, 0, ?_, rfl, fun h => absurd h (by decide)⟩
      rw [hw]
      rfl
    · obtain ⟨k, hk, rfl⟩ := bw_ex (by omega) h2
      have hwn : wn N x (n32 k) b = (decide (¬ b < gi x 2 k) && decide (¬ gi x 3 k ≤ b)) := by
        unfold wn
        unfold bw at h2
        rw [h2, n_nat (by omega), Bool.true_and]
      simp (disch := omega) only [eq_self, n_le, n_lt, n_inj, n_nat, gd_in, n_add, bi_z, bi_1, gd_bi, n_nonneg,  some_bind, lt_e, lit_NV, if_true, if_false, ite_true, ite_false, Option.bind_some, not_true, not_false_iff, lit_0, lit_1, lit_2, lit_3, lit_4, lit_5, lit_6, lit_7, lit_8, lit_12, lit_24, lit_25, lit_30, lit_60, lit_63, lit_96, lit_100, lit_512, lit_240, hbo, hgo, r_wasThere, Bool.true_eq_false, ← hwn]
      cases hw : wn N x (n32 k) b
      · exact ⟨1, v, 0, rfl, rfl, fun h => absurd h (by decide)⟩
      · obtain ⟨r, e1, -⟩ := val_same hN hG hw hk
        obtain ⟨r', e3, e2⟩ := val_same hN (RG_th (c := n32 0) hG) hw hk
        cases e1.symm.trans e3
        refine ⟨0, r.toInt64, r, ?_, ?_, fun _ => rfl⟩
        · simp (disch := omega) only [eq_self, n_le, n_lt, n_inj, n_nat, gd_in, n_add, bi_z, bi_1, gd_bi, n_nonneg,  some_bind, lt_e, lit_NV, if_true, if_false, ite_true, ite_false, Option.bind_some, not_true, not_false_iff, lit_0, lit_1, lit_2, lit_3, lit_4, lit_5, lit_6, lit_7, lit_8, lit_12, lit_24, lit_25, lit_30, lit_60, lit_63, lit_96, lit_100, lit_512, lit_240, Bool.true_eq_false, e1, Sum.elim_inl]
        · unfold fX11_valueAt_j69
          simp (disch := omega) only [eq_self, n_le, n_lt, n_inj, n_nat, gd_in, n_add, bi_z, bi_1, gd_bi, n_nonneg,  some_bind, lt_e, lit_NV, if_true, if_false, ite_true, ite_false, Option.bind_some, not_true, not_false_iff, lit_0, lit_1, lit_2, lit_3, lit_4, lit_5, lit_6, lit_7, lit_8, lit_12, lit_24, lit_25, lit_30, lit_60, lit_63, lit_96, lit_100, lit_512, lit_240, Bool.true_eq_false, r_fails0, e2, Nat.one_ne_zero]
