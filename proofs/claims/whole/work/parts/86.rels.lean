/-! ### what patterns relate -/
/-- any number of times: the vector of sets, changed in place -/
def rpo (over n : Nat) (v : Nat → Int32) : Nat → Int32 := fun m => if m = n then (if hs (v n) over then v n ||| v over else v n) else v m
def rpp (over : Nat) (v : Nat → Int32) : Nat → Int32 := fold (fun n v => rpo over n v) v 24
def rep0 (f : Nat → Int32) (W : Int32) : Nat → Int32 := fun n => f n ||| (bit1 n &&& W)
def rep (f : Nat → Int32) (W : Int32) : Nat → Int32 := fold (fun over v => rpp over v) (rep0 f W) 24
/-- a step of a pattern: its kind, label, and the steps that it takes -/
def kq (x : St) (u i : Nat) : Nat := (gi x (79 + 6 * u) i).toNatClampNeg
def kb (x : St) (u i : Nat) : Nat := (gi x (80 + 6 * u) i).toNatClampNeg
def lf (x : St) (u i : Nat) : Nat := (gi x (81 + 6 * u) i).toNatClampNeg
def rt (x : St) (u i : Nat) : Nat := (gi x (82 + 6 * u) i).toNatClampNeg
/-- one step from a set -/
def one (K : Nat → Nat → Int32) (D : Nat → Int32) (q l : Nat) (s : Int32) : Int32 := if q = 0 then jn K l s else if q = 1 then bk K l s else s &&& D l
def stR (x : St) (u : Nat) (W : Int32) (K : Nat → Nat → Int32) (D : Nat → Int32) (F : Nat → Nat → Int32) (i : Nat) : Nat → Int32 :=
  if kq x u i = 3 then fun n => gat (hs (F (lf x u i) n)) (F (rt x u i)) 24
  else if kq x u i = 4 then fun n => F (lf x u i) n ||| F (rt x u i) n
  else if kq x u i = 5 then rep (F (lf x u i)) W
  else fun n => one K D (kq x u i) (kb x u i) (bit1 n &&& W) &&& W
def rels (x : St) (u : Nat) (W : Int32) (K : Nat → Nat → Int32) (D : Nat → Int32) : Nat → Nat → Nat → Int32
  | 0 => fun _ _ => n32 0
  | k + 1 => fun i n => if i = k then stR x u W K D (rels x u W K D k) k n else rels x u W K D k i n
theorem rels_at (x : St) (u : Nat) (W : Int32) (K : Nat → Nat → Int32) (D : Nat → Int32) (k n : Nat) : rels x u W K D (k + 1) k n = stR x u W K D (rels x u W K D k) k n := if_pos rfl
theorem rels_lt (x : St) (u : Nat) (W : Int32) (K : Nat → Nat → Int32) (D : Nat → Int32) {k i : Nat} (n : Nat) (h : i < k) : rels x u W K D (k + 1) i n = rels x u W K D k i n := if_neg (by omega)
/-- what a step is, told by the pattern's cells -/
theorem RPc_at {x : St} {u c h i : Nat} (hp : RPc x u c h) (hi : i < c) : gi x (79 + 6 * u) i = n32 (kq x u i) ∧ kq x u i < 6 ∧ gi x (81 + 6 * u) i = n32 (lf x u i) ∧ lf x u i < 12 ∧ gi x (82 + 6 * u) i = n32 (rt x u i) ∧ rt x u i < 12 ∧
    (kq x u i < 3 → gi x (80 + 6 * u) i = n32 (kb x u i) ∧ kb x u i < 4) ∧ (kq x u i = 5 → (stk x u i)[0]? = some (lf x u i)) ∧ (kq x u i = 3 ∨ kq x u i = 4 → (stk x u i)[0]? = some (rt x u i) ∧ (stk x u i)[1]? = some (lf x u i)) := by
  obtain ⟨h1, -, -, -, -, h6, h7⟩ := hp
  obtain ⟨a, b, a1, a2, a3, a4⟩ := h7 i (by omega)
  have e1 : lf x u i = a := by
    unfold lf
    rw [a3, n_nat (by omega)]
  have e2 : rt x u i = b := by
    unfold rt
    rw [a4, n_nat (by omega)]
  have hk : ∀ q, q < 6 → gi x (79 + 6 * u) i = n32 q → kq x u i = q := fun q hq h => by
    unfold kq
    rw [h, n_nat (by omega)]
  rw [e1, e2]
  rcases h6 i hi with ⟨q, l, q1, q2, q3, q4⟩ | ⟨q3, a', q4, q5⟩ | ⟨q3, a', b', q4, q5, q6, q7⟩
  · have e := hk q (by omega) q3
    rw [e]
    refine ⟨q3, by omega, a3, a1, a4, a2, fun _ => ?_, fun z => by omega, fun z => by omega⟩
    unfold kb
    rw [q4, n_nat (by omega)]
    exact ⟨rfl, q2⟩
  · have e := hk 5 (by omega) q3
    rw [e]
    have haa : a' = a := by
      have hlt := stk_lt (List.mem_of_getElem? q4)
      have := q5.symm.trans a3
      rwa [n_inj (by omega) (by omega)] at this
    subst haa
    exact ⟨q3, by omega, a3, a1, a4, a2, fun z => by omega, fun _ => q4, fun z => by omega⟩
  · have hlt := stk_lt (List.mem_of_getElem? q4)
    have hlt2 := stk_lt (List.mem_of_getElem? q5)
    have haa : a' = a := by
      have := q6.symm.trans a3
      rwa [n_inj (by omega) (by omega)] at this
    have hbb : b' = b := by
      have := q7.symm.trans a4
      rwa [n_inj (by omega) (by omega)] at this
    subst haa
    subst hbb
    rcases q3 with q3 | q3
    · have e := hk 3 (by omega) q3
      rw [e]
      exact ⟨q3, by omega, a3, a1, a4, a2, fun z => by omega, fun z => by omega, fun _ => ⟨q4, q5⟩⟩
    · have e := hk 4 (by omega) q3
      rw [e]
      exact ⟨q3, by omega, a3, a1, a4, a2, fun z => by omega, fun z => by omega, fun _ => ⟨q4, q5⟩⟩
/-! ### the class's relations -/
/-- nothing but the rows 40 to 51 is changed -/
def FRx (x x' : St) : Prop := (∀ a j, gl x' a j = gl x a j) ∧ ∀ a j, a < 40 ∨ 51 < a → gi x' a j = gi x a j
theorem FRx.rf (x : St) : FRx x x := ⟨fun _ _ => rfl, fun _ _ _ => rfl⟩
theorem FRx.tr {x y z : St} (h1 : FRx x y) (h2 : FRx y z) : FRx x z := ⟨fun a j => (h2.1 a j).trans (h1.1 a j), fun a j h => (h2.2 a j h).trans (h1.2 a j h)⟩
theorem FRx.up {x z : St} {a k : Nat} {v : Int32} (h : FRx x z) (ha : 40 ≤ a ∧ a ≤ 51) : FRx x (ui z a k v) := ⟨h.1, fun b j hb => by rw [gi_no (by omega)]; exact h.2 b j hb⟩
section REL
variable {N u c h : Nat} {x y : St} {K : Nat → Nat → Int32} {W : Int32}
theorem c_goOne {z : St} (hR : RN N x y) (hf : FRx x z) (hK : KnC x K) (hp : RPc x u c h) {i : Nat} (hi : i < c) (hq : kq x u i < 3) (s : Int32) : fX5_goOneStep z u (n32 i) s = some (one K (fun l => lbd N x (n32 l)) (kq x u i) (kb x u i) s) := by
  obtain ⟨h1, -, -, -, -, -, h7, -⟩ := RPc_at hp hi
  obtain ⟨h8, h9⟩ := h7 hq
  have hc := hp.1
  have hKz : KnC z K := fun l n hl hn => (hf.2 _ _ (by omega)).trans (hK l n hl hn)
  have hNz : gi z 1 2 = n32 N := (hf.2 _ _ (by omega)).trans hR.2.1
  have c1 : gi z (79 + 6 * u) i = n32 (kq x u i) := (hf.2 _ _ (by omega)).trans h1
  have c2 : gi z (80 + 6 * u) i = n32 (kb x u i) := (hf.2 _ _ (by omega)).trans h8
  have hlb : lbd N z (n32 (kb x u i)) = lbd N x (n32 (kb x u i)) := by
    unfold lbd
    have hlv : lv z = lv x := lv_cg fun k => hf.2 _ _ (by omega)
    rw [hlv]
    exact gat_cg (fun k _ => by rw [hf.2 _ _ (by omega)]) (fun k _ _ => rfl)
  unfold fX5_goOneStep one
  simp (disch := omega) only [eq_self, n_le, n_lt, n_inj, n_nat, gd_in, n_add, bi_z, bi_1, gd_bi, n_nonneg,  some_bind, lt_e, lit_NV, if_true, if_false, ite_true, ite_false, Option.bind_some, not_true, not_false_iff, lit_0, lit_1, lit_2, lit_3, lit_4, lit_5, lit_6, lit_7, lit_8, lit_12, lit_24, lit_25, lit_30, lit_60, lit_63, lit_96, lit_100, lit_512, lit_240, c1, c2, c_forth hKz h9, c_back hKz h9, c_labelled hNz hR.1, hlb]
  by_cases q0 : kq x u i = 0
  · simp [q0]
  · by_cases q1 : kq x u i = 1
    · simp [q1]
    · simp [q0, q1]
/-- a row of the class holds a vector -/
def RW9 (z : St) (a : Nat) (v : Nat → Int32) : Prop := ∀ n, n < 24 → gi z a n = v n
theorem c_stepOne (hR : RN N x y) {z : St} (hf : FRx x z) (hK : KnC x K) (hp : RPc x u c h) {i : Nat} (hi : i < c) (hq : kq x u i < 3) (b1 b2 : Nat) : ∃ z', loopF (fX5_relateStep_l129 z u (n32 i) W i b1 b2) (z, n32 0) = some (z', n32 24) ∧ FRx x z' ∧ (∀ a j, a ≠ 40 + i → gi z' a j = gi z a j) ∧ RW9 z' (40 + i) (fun n => one K (fun l => lbd N x (n32 l)) (kq x u i) (kb x u i) (bit1 n &&& W) &&& W) := by
  have hc := hp.1
  obtain ⟨z', e, f1, f2, f3⟩ := loop_st (step := fX5_relateStep_l129 z u (n32 i) W i b1 b2) 24 (fun n w => FRx x w ∧ (∀ a j, a ≠ 40 + i → gi w a j = gi z a j) ∧ ∀ m, m < n → gi w (40 + i) m = one K (fun l => lbd N x (n32 l)) (kq x u i) (kb x u i) (bit1 m &&& W) &&& W) (x0 := z) ⟨hf, fun _ _ _ => rfl, fun m hm => absurd hm (Nat.not_lt_zero m)⟩ (fun n w hn hw => by
      refine ⟨ui w (40 + i) n (one K (fun l => lbd N x (n32 l)) (kq x u i) (kb x u i) (bit1 n &&& W) &&& W), ?_, hw.1.up (by omega), fun a j ha => ?_, fun m hm => ?_⟩
      · unfold fX5_relateStep_l129
        simp (disch := omega) only [eq_self, n_le, n_lt, n_inj, n_nat, gd_in, n_add, bi_z, bi_1, gd_bi, n_nonneg,  some_bind, lt_e, lit_NV, if_true, if_false, ite_true, ite_false, Option.bind_some, not_true, not_false_iff, lit_0, lit_1, lit_2, lit_3, lit_4, lit_5, lit_6, lit_7, lit_8, lit_12, lit_24, lit_25, lit_30, lit_60, lit_63, lit_96, lit_100, lit_512, lit_240, Nat.not_le.mpr hn, c_bit, c_goOne hR hw.1 hK hp hi hq]
      · rw [gi_no (by omega)]
        exact hw.2.1 a j ha
      · by_cases q : m = n
        · rw [gi_yes ⟨rfl, q⟩, q]
        · rw [gi_no (by omega)]
          exact hw.2.2 m (by omega))
    (fun w hw => by
      unfold fX5_relateStep_l129
      simp (disch := omega) only [eq_self, n_le, n_lt, n_inj, n_nat, gd_in, n_add, bi_z, bi_1, gd_bi, n_nonneg,  some_bind, lt_e, lit_NV, if_true, if_false, ite_true, ite_false, Option.bind_some, not_true, not_false_iff, lit_0, lit_1, lit_2, lit_3, lit_4, lit_5, lit_6, lit_7, lit_8, lit_12, lit_24, lit_25, lit_30, lit_60, lit_63, lit_96, lit_100, lit_512, lit_240, Nat.le_refl])
  exact ⟨z', e, f1, f2, f3⟩
theorem c_stepOr {z : St} {i a b : Nat} {va vb : Nat → Int32} (hi : i < 12) (ha : RW9 z (40 + a) va) (hb : RW9 z (40 + b) vb) (hai : a ≠ i) (hbi : b ≠ i) (q1 q2 : Int32) : ∃ z', loopF (fX5_relateStep_l83 z u q1 q2 i a b) (z, n32 0) = some (z', n32 24) ∧ (∀ a j, gl z' a j = gl z a j) ∧ (∀ a j, a ≠ 40 + i → gi z' a j = gi z a j) ∧ RW9 z' (40 + i) (fun n => va n ||| vb n) := by
  obtain ⟨z', e, f1, f2, f3⟩ := loop_st (step := fX5_relateStep_l83 z u q1 q2 i a b) 24 (fun n w => (∀ a j, gl w a j = gl z a j) ∧ (∀ a j, a ≠ 40 + i → gi w a j = gi z a j) ∧ ∀ m, m < n → gi w (40 + i) m = va m ||| vb m) (x0 := z) ⟨fun _ _ => rfl, fun _ _ _ => rfl, fun m hm => absurd hm (Nat.not_lt_zero m)⟩ (fun n w hn hw => by
      have c1 : gi w (40 + a) n = va n := (hw.2.1 _ _ (by omega)).trans (ha n hn)
      have c2 : gi w (40 + b) n = vb n := (hw.2.1 _ _ (by omega)).trans (hb n hn)
      refine ⟨ui w (40 + i) n (va n ||| vb n), ?_, hw.1, fun a j ha => ?_, fun m hm => ?_⟩
      · unfold fX5_relateStep_l83
        simp (disch := omega) only [eq_self, n_le, n_lt, n_inj, n_nat, gd_in, n_add, bi_z, bi_1, gd_bi, n_nonneg,  some_bind, lt_e, lit_NV, if_true, if_false, ite_true, ite_false, Option.bind_some, not_true, not_false_iff, lit_0, lit_1, lit_2, lit_3, lit_4, lit_5, lit_6, lit_7, lit_8, lit_12, lit_24, lit_25, lit_30, lit_60, lit_63, lit_96, lit_100, lit_512, lit_240, Nat.not_le.mpr hn, c1, c2]
      · rw [gi_no (by omega)]
        exact hw.2.1 a j ha
      · by_cases q : m = n
        · rw [gi_yes ⟨rfl, q⟩, q]
        · rw [gi_no (by omega)]
          exact hw.2.2 m (by omega))
    (fun w hw => by
      unfold fX5_relateStep_l83
      simp (disch := omega) only [eq_self, n_le, n_lt, n_inj, n_nat, gd_in, n_add, bi_z, bi_1, gd_bi, n_nonneg,  some_bind, lt_e, lit_NV, if_true, if_false, ite_true, ite_false, Option.bind_some, not_true, not_false_iff, lit_0, lit_1, lit_2, lit_3, lit_4, lit_5, lit_6, lit_7, lit_8, lit_12, lit_24, lit_25, lit_30, lit_60, lit_63, lit_96, lit_100, lit_512, lit_240, Nat.le_refl])
  exact ⟨z', e, f1, f2, f3⟩
theorem c_stepJoin {z : St} {i a b : Nat} {va vb : Nat → Int32} (ha : RW9 z (40 + a) va) (hb : RW9 z (40 + b) vb) (hai : a ≠ i) (hbi : b ≠ i) : ∃ z', fX5_join z (40 + a) (40 + b) (40 + i) = some z' ∧ (∀ a j, gl z' a j = gl z a j) ∧ (∀ a j, a ≠ 40 + i → gi z' a j = gi z a j) ∧ RW9 z' (40 + i) (fun n => gat (hs (va n)) vb 24) := by
  obtain ⟨z', e, f1, f2, f3⟩ := loop_st (step := fX5_join_l2 z (40 + a) (40 + b) (40 + i)) 24 (fun n w => (∀ a j, gl w a j = gl z a j) ∧ (∀ a j, a ≠ 40 + i → gi w a j = gi z a j) ∧ ∀ m, m < n → gi w (40 + i) m = gat (hs (va m)) vb 24) (x0 := z) ⟨fun _ _ => rfl, fun _ _ _ => rfl, fun m hm => absurd hm (Nat.not_lt_zero m)⟩ (fun n w hn hw => by
      have c1 : gi w (40 + a) n = va n := (hw.2.1 _ _ (by omega)).trans (ha n hn)
      have e1 := loop_gat (step := fX5_join_l14 w (40 + a) (40 + b) (40 + i) (n32 n)) 24 (hs (va n)) vb (fun m s hm => by
          have c2 : gi w (40 + b) m = vb m := (hw.2.1 _ _ (by omega)).trans (hb m hm)
          unfold fX5_join_l14 fX5_join_j41
          simp (disch := omega) only [eq_self, n_le, n_lt, n_inj, n_nat, gd_in, n_add, bi_z, bi_1, gd_bi, n_nonneg,  some_bind, lt_e, lit_NV, if_true, if_false, ite_true, ite_false, Option.bind_some, not_true, not_false_iff, lit_0, lit_1, lit_2, lit_3, lit_4, lit_5, lit_6, lit_7, lit_8, lit_12, lit_24, lit_25, lit_30, lit_60, lit_63, lit_96, lit_100, lit_512, lit_240, Nat.not_le.mpr hm, c1, c2, c_has (va n) (show m < 32 by omega)]
          cases hs (va n) m <;> simp)
        (fun s => by
          unfold fX5_join_l14
          simp (disch := omega) only [eq_self, n_le, n_lt, n_inj, n_nat, gd_in, n_add, bi_z, bi_1, gd_bi, n_nonneg,  some_bind, lt_e, lit_NV, if_true, if_false, ite_true, ite_false, Option.bind_some, not_true, not_false_iff, lit_0, lit_1, lit_2, lit_3, lit_4, lit_5, lit_6, lit_7, lit_8, lit_12, lit_24, lit_25, lit_30, lit_60, lit_63, lit_96, lit_100, lit_512, lit_240, Nat.le_refl])
      refine ⟨ui w (40 + i) n (gat (hs (va n)) vb 24), ?_, hw.1, fun a j ha => ?_, fun m hm => ?_⟩
      · unfold fX5_join_l2
        simp (disch := omega) only [eq_self, n_le, n_lt, n_inj, n_nat, gd_in, n_add, bi_z, bi_1, gd_bi, n_nonneg,  some_bind, lt_e, lit_NV, if_true, if_false, ite_true, ite_false, Option.bind_some, not_true, not_false_iff, lit_0, lit_1, lit_2, lit_3, lit_4, lit_5, lit_6, lit_7, lit_8, lit_12, lit_24, lit_25, lit_30, lit_60, lit_63, lit_96, lit_100, lit_512, lit_240, Nat.not_le.mpr hn, e1]
      · rw [gi_no (by omega)]
        exact hw.2.1 a j ha
      · by_cases q : m = n
        · rw [gi_yes ⟨rfl, q⟩, q]
        · rw [gi_no (by omega)]
          exact hw.2.2 m (by omega))
    (fun w hw => by
      unfold fX5_join_l2
      simp (disch := omega) only [eq_self, n_le, n_lt, n_inj, n_nat, gd_in, n_add, bi_z, bi_1, gd_bi, n_nonneg,  some_bind, lt_e, lit_NV, if_true, if_false, ite_true, ite_false, Option.bind_some, not_true, not_false_iff, lit_0, lit_1, lit_2, lit_3, lit_4, lit_5, lit_6, lit_7, lit_8, lit_12, lit_24, lit_25, lit_30, lit_60, lit_63, lit_96, lit_100, lit_512, lit_240, Nat.le_refl])
  refine ⟨z', ?_, f1, f2, f3⟩
  have e : loopF (fX5_join_l2 z (40 + a) (40 + b) (40 + i)) (z, 0) = some (z', n32 24) := e
  unfold fX5_join
  rw [e]
  rfl
theorem c_stepMany {z : St} {i a : Nat} {va : Nat → Int32} (ha : RW9 z (40 + a) va) (hai : a ≠ i) : ∃ z', fX5_repeat z (40 + a) W (40 + i) = some z' ∧ (∀ a j, gl z' a j = gl z a j) ∧ (∀ a j, a ≠ 40 + i → gi z' a j = gi z a j) ∧ RW9 z' (40 + i) (rep va W) := by
  obtain ⟨z1, e1, f1, f2, f3⟩ := loop_st (step := fX5_repeat_l2 z (40 + a) W (40 + i)) 24 (fun n w => (∀ a j, gl w a j = gl z a j) ∧ (∀ a j, a ≠ 40 + i → gi w a j = gi z a j) ∧ ∀ m, m < n → gi w (40 + i) m = rep0 va W m) (x0 := z) ⟨fun _ _ => rfl, fun _ _ _ => rfl, fun m hm => absurd hm (Nat.not_lt_zero m)⟩ (fun n w hn hw => by
      have c1 : gi w (40 + a) n = va n := (hw.2.1 _ _ (by omega)).trans (ha n hn)
      refine ⟨ui w (40 + i) n (rep0 va W n), ?_, hw.1, fun a j ha => ?_, fun m hm => ?_⟩
      · unfold fX5_repeat_l2 rep0
        simp (disch := omega) only [eq_self, n_le, n_lt, n_inj, n_nat, gd_in, n_add, bi_z, bi_1, gd_bi, n_nonneg,  some_bind, lt_e, lit_NV, if_true, if_false, ite_true, ite_false, Option.bind_some, not_true, not_false_iff, lit_0, lit_1, lit_2, lit_3, lit_4, lit_5, lit_6, lit_7, lit_8, lit_12, lit_24, lit_25, lit_30, lit_60, lit_63, lit_96, lit_100, lit_512, lit_240, Nat.not_le.mpr hn, c1, c_bit]
      · rw [gi_no (by omega)]
        exact hw.2.1 a j ha
      · by_cases q : m = n
        · rw [gi_yes ⟨rfl, q⟩, q]
        · rw [gi_no (by omega)]
          exact hw.2.2 m (by omega))
    (fun w hw => by
      unfold fX5_repeat_l2
      simp (disch := omega) only [eq_self, n_le, n_lt, n_inj, n_nat, gd_in, n_add, bi_z, bi_1, gd_bi, n_nonneg,  some_bind, lt_e, lit_NV, if_true, if_false, ite_true, ite_false, Option.bind_some, not_true, not_false_iff, lit_0, lit_1, lit_2, lit_3, lit_4, lit_5, lit_6, lit_7, lit_8, lit_12, lit_24, lit_25, lit_30, lit_60, lit_63, lit_96, lit_100, lit_512, lit_240, Nat.le_refl])
  obtain ⟨z2, e2, g1, g2, g3⟩ := loop_st (step := fX5_repeat_l29 z1 (40 + a) W (40 + i)) 24 (fun o w => (∀ a j, gl w a j = gl z a j) ∧ (∀ a j, a ≠ 40 + i → gi w a j = gi z a j) ∧ RW9 w (40 + i) (fold (fun over v => rpp over v) (rep0 va W) o)) (x0 := z1) ⟨f1, f2, f3⟩ (fun o w ho hw => by
      obtain ⟨w', e, k1, k2, k3⟩ := loop_st (step := fX5_repeat_l38 w (40 + a) W (40 + i) (n32 o)) 24 (fun n w => (∀ a j, gl w a j = gl z a j) ∧ (∀ a j, a ≠ 40 + i → gi w a j = gi z a j) ∧ RW9 w (40 + i) (fold (fun n v => rpo o n v) (fold (fun over v => rpp over v) (rep0 va W) o) n)) (x0 := w) hw (fun n s hn hs9 => by
          obtain ⟨s1, s2, s3⟩ := hs9
          show ∃ x', _ ∧ _ ∧ _ ∧ RW9 x' (40 + i) (rpo o n (fold (fun n v => rpo o n v) (fold (fun over v => rpp over v) (rep0 va W) o) n))
          revert s3
          generalize fold (fun n v => rpo o n v) (fold (fun over v => rpp over v) (rep0 va W) o) n = v
          intro s3
          have c1 := s3 n hn
          have c2 := s3 o ho
          cases hq : hs (v n) o
          · refine ⟨s, ?_, s1, s2, fun m hm => ?_⟩
            · unfold fX5_repeat_l38 fX5_repeat_j66
              simp (disch := omega) only [eq_self, n_le, n_lt, n_inj, n_nat, gd_in, n_add, bi_z, bi_1, gd_bi, n_nonneg,  some_bind, lt_e, lit_NV, if_true, if_false, ite_true, ite_false, Option.bind_some, not_true, not_false_iff, lit_0, lit_1, lit_2, lit_3, lit_4, lit_5, lit_6, lit_7, lit_8, lit_12, lit_24, lit_25, lit_30, lit_60, lit_63, lit_96, lit_100, lit_512, lit_240, Nat.not_le.mpr hn, c1, c_has (v n) (show o < 32 by omega), hq]
            · rw [s3 m hm]
              unfold rpo
              by_cases q : m = n
              · rw [if_pos q, q, hq]
                rfl
              · rw [if_neg q]
          · refine ⟨ui s (40 + i) n (v n ||| v o), ?_, s1, fun a j ha => ?_, fun m hm => ?_⟩
            · unfold fX5_repeat_l38 fX5_repeat_j66
              simp (disch := omega) only [eq_self, n_le, n_lt, n_inj, n_nat, gd_in, n_add, bi_z, bi_1, gd_bi, n_nonneg,  some_bind, lt_e, lit_NV, if_true, if_false, ite_true, ite_false, Option.bind_some, not_true, not_false_iff, lit_0, lit_1, lit_2, lit_3, lit_4, lit_5, lit_6, lit_7, lit_8, lit_12, lit_24, lit_25, lit_30, lit_60, lit_63, lit_96, lit_100, lit_512, lit_240, Nat.not_le.mpr hn, c1, c2, c_has (v n) (show o < 32 by omega), hq, Bool.true_eq_false]
            · rw [gi_no (by omega)]
              exact s2 a j ha
            · unfold rpo
              by_cases q : m = n
              · rw [gi_yes ⟨rfl, q⟩, if_pos q, hq]
                rfl
              · rw [gi_no (by omega), if_neg q]
                exact s3 m hm)
        (fun s hs9 => by
          unfold fX5_repeat_l38
          simp (disch := omega) only [eq_self, n_le, n_lt, n_inj, n_nat, gd_in, n_add, bi_z, bi_1, gd_bi, n_nonneg,  some_bind, lt_e, lit_NV, if_true, if_false, ite_true, ite_false, Option.bind_some, not_true, not_false_iff, lit_0, lit_1, lit_2, lit_3, lit_4, lit_5, lit_6, lit_7, lit_8, lit_12, lit_24, lit_25, lit_30, lit_60, lit_63, lit_96, lit_100, lit_512, lit_240, Nat.le_refl])
      refine ⟨w', ?_, k1, k2, k3⟩
      unfold fX5_repeat_l29
      simp (disch := omega) only [eq_self, n_le, n_lt, n_inj, n_nat, gd_in, n_add, bi_z, bi_1, gd_bi, n_nonneg,  some_bind, lt_e, lit_NV, if_true, if_false, ite_true, ite_false, Option.bind_some, not_true, not_false_iff, lit_0, lit_1, lit_2, lit_3, lit_4, lit_5, lit_6, lit_7, lit_8, lit_12, lit_24, lit_25, lit_30, lit_60, lit_63, lit_96, lit_100, lit_512, lit_240, Nat.not_le.mpr ho, e])
    (fun w hw => by
      unfold fX5_repeat_l29
      simp (disch := omega) only [eq_self, n_le, n_lt, n_inj, n_nat, gd_in, n_add, bi_z, bi_1, gd_bi, n_nonneg,  some_bind, lt_e, lit_NV, if_true, if_false, ite_true, ite_false, Option.bind_some, not_true, not_false_iff, lit_0, lit_1, lit_2, lit_3, lit_4, lit_5, lit_6, lit_7, lit_8, lit_12, lit_24, lit_25, lit_30, lit_60, lit_63, lit_96, lit_100, lit_512, lit_240, Nat.le_refl])
  refine ⟨z2, ?_, g1, g2, g3⟩
  have e1 : loopF (fX5_repeat_l2 z (40 + a) W (40 + i)) (z, 0) = some (z1, n32 24) := e1
  have e2 : loopF (fX5_repeat_l29 z1 (40 + a) W (40 + i)) (z1, 0) = some (z2, n32 24) := e2
  unfold fX5_repeat
  rw [e1, some_bind, e2]
  rfl
/-- the class's rows hold the first k relations -/
def RLx (x : St) (u : Nat) (W : Int32) (K : Nat → Nat → Int32) (D : Nat → Int32) (z : St) (k : Nat) : Prop := FRx x z ∧ ∀ i, i < k → RW9 z (40 + i) (rels x u W K D k i)
theorem c_relateStep (hR : RN N x y) (hK : KnC x K) (hp : RPc x u c h) {z : St} {k : Nat} (hk : k < c) (hz : RLx x u W K (fun l => lbd N x (n32 l)) z k) : ∃ z', fX5_relateStep z u (n32 k) W = some z' ∧ RLx x u W K (fun l => lbd N x (n32 l)) z' (k + 1) := by
  obtain ⟨hf, hrow⟩ := hz
  have hc := hp.1
  obtain ⟨h1, h2, h3, h4, h5, h6, h7, h8, h9⟩ := RPc_at hp hk
  have c1 : gi z (79 + 6 * u) k = n32 (kq x u k) := (hf.2 _ _ (by omega)).trans h1
  have c2 : gi z (81 + 6 * u) k = n32 (lf x u k) := (hf.2 _ _ (by omega)).trans h3
  have c3 : gi z (82 + 6 * u) k = n32 (rt x u k) := (hf.2 _ _ (by omega)).trans h5
  have close : ∀ z', (∀ a j, gl z' a j = gl z a j) → (∀ a j, a ≠ 40 + k → gi z' a j = gi z a j) → RW9 z' (40 + k) (stR x u W K (fun l => lbd N x (n32 l)) (rels x u W K (fun l => lbd N x (n32 l)) k) k) → RLx x u W K (fun l => lbd N x (n32 l)) z' (k + 1) := fun z' g1 g2 g3 => by
    refine ⟨⟨fun a j => (g1 a j).trans (hf.1 a j), fun a j ha => (g2 a j (by omega)).trans (hf.2 a j ha)⟩, fun i hi n hn => ?_⟩
    by_cases e : i = k
    · subst e
      rw [rels_at]
      exact g3 n hn
    · rw [rels_lt _ _ _ _ _ _ (by omega), g2 _ _ (by omega)]
      exact hrow i (by omega) n hn
  unfold fX5_relateStep
  by_cases q3 : kq x u k = 3
  · obtain ⟨m1, m2⟩ := h9 (Or.inl q3)
    have ha := stk_lt (List.mem_of_getElem? m2)
    have hb := stk_lt (List.mem_of_getElem? m1)
    obtain ⟨z', e, g1, g2, g3⟩ := c_stepJoin (i := k) (hrow _ ha) (hrow _ hb) (by omega) (by omega)
    refine ⟨z', ?_, close z' g1 g2 ?_⟩
    · simp (disch := omega) only [eq_self, n_le, n_lt, n_inj, n_nat, gd_in, n_add, bi_z, bi_1, gd_bi, n_nonneg,  some_bind, lt_e, lit_NV, if_true, if_false, ite_true, ite_false, Option.bind_some, not_true, not_false_iff, lit_0, lit_1, lit_2, lit_3, lit_4, lit_5, lit_6, lit_7, lit_8, lit_12, lit_24, lit_25, lit_30, lit_60, lit_63, lit_96, lit_100, lit_512, lit_240, c1, c2, c3, q3, e]
    · unfold stR
      rw [if_pos q3]
      exact g3
  · by_cases q4 : kq x u k = 4
    · obtain ⟨m1, m2⟩ := h9 (Or.inr q4)
      have ha := stk_lt (List.mem_of_getElem? m2)
      have hb := stk_lt (List.mem_of_getElem? m1)
      obtain ⟨z', e, g1, g2, g3⟩ := c_stepOr (u := u) (i := k) (by omega) (hrow _ ha) (hrow _ hb) (by omega) (by omega) (n32 k) W
      refine ⟨z', ?_, close z' g1 g2 ?_⟩
      · simp (disch := omega) only [eq_self, n_le, n_lt, n_inj, n_nat, gd_in, n_add, bi_z, bi_1, gd_bi, n_nonneg,  some_bind, lt_e, lit_NV, if_true, if_false, ite_true, ite_false, Option.bind_some, not_true, not_false_iff, lit_0, lit_1, lit_2, lit_3, lit_4, lit_5, lit_6, lit_7, lit_8, lit_12, lit_24, lit_25, lit_30, lit_60, lit_63, lit_96, lit_100, lit_512, lit_240, c1, c2, c3, q3, q4, e, show ¬ 4 = 3 by omega]
      · unfold stR
        rw [if_neg q3, if_pos q4]
        exact g3
    · by_cases q5 : kq x u k = 5
      · have ha := stk_lt (List.mem_of_getElem? (h8 q5))
        obtain ⟨z', e, g1, g2, g3⟩ := c_stepMany (W := W) (i := k) (hrow _ ha) (by omega)
        refine ⟨z', ?_, close z' g1 g2 ?_⟩
        · simp (disch := omega) only [eq_self, n_le, n_lt, n_inj, n_nat, gd_in, n_add, bi_z, bi_1, gd_bi, n_nonneg,  some_bind, lt_e, lit_NV, if_true, if_false, ite_true, ite_false, Option.bind_some, not_true, not_false_iff, lit_0, lit_1, lit_2, lit_3, lit_4, lit_5, lit_6, lit_7, lit_8, lit_12, lit_24, lit_25, lit_30, lit_60, lit_63, lit_96, lit_100, lit_512, lit_240, c1, c2, c3, q3, q4, q5, e, show ¬ 5 = 3 by omega, show ¬ 5 = 4 by omega]
        · unfold stR
          rw [if_neg q3, if_neg q4, if_pos q5]
          exact g3
      · obtain ⟨z', e, g1, g2, g3⟩ := c_stepOne (W := W) hR hf hK hp hk (by omega) (lf x u k) (rt x u k)
        refine ⟨z', ?_, close z' (fun a j => (g1.1 a j).trans (hf.1 a j).symm) g2 ?_⟩
        · simp (disch := omega) only [eq_self, n_le, n_lt, n_inj, n_nat, gd_in, n_add, bi_z, bi_1, gd_bi, n_nonneg,  some_bind, lt_e, lit_NV, if_true, if_false, ite_true, ite_false, Option.bind_some, not_true, not_false_iff, lit_0, lit_1, lit_2, lit_3, lit_4, lit_5, lit_6, lit_7, lit_8, lit_12, lit_24, lit_25, lit_30, lit_60, lit_63, lit_96, lit_100, lit_512, lit_240, c1, c2, c3, q3, q4, q5, e]
        · unfold stR
          rw [if_neg q3, if_neg q4, if_neg q5]
          exact g3
theorem c_relate (hR : RN N x y) (hK : KnC x K) (hp : RPc x u c h) (h0 : 0 < c) (W : Int32) : ∃ z, fX5_relate x u W = some (c - 1, z) ∧ FRx x z ∧ RW9 z (40 + (c - 1)) (rels x u W K (fun l => lbd N x (n32 l)) c (c - 1)) := by
  have hc := hp.1
  obtain ⟨z, e, f1, f2⟩ := loop_st (step := fX5_relate_l14 x u W) c (fun k z => RLx x u W K (fun l => lbd N x (n32 l)) z k) (x0 := x) ⟨FRx.rf x, fun i hi => absurd hi (Nat.not_lt_zero i)⟩ (fun k z hk hz => by
      obtain ⟨z', e, g⟩ := c_relateStep hR hK hp hk hz
      have c1 : gi z (78 + 6 * u) 5 = n32 c := (hz.1.2 _ _ (by omega)).trans hp.2.1
      refine ⟨z', ?_, g⟩
      unfold fX5_relate_l14
      simp (disch := omega) only [eq_self, n_le, n_lt, n_inj, n_nat, gd_in, n_add, bi_z, bi_1, gd_bi, n_nonneg,  some_bind, lt_e, lit_NV, if_true, if_false, ite_true, ite_false, Option.bind_some, not_true, not_false_iff, lit_0, lit_1, lit_2, lit_3, lit_4, lit_5, lit_6, lit_7, lit_8, lit_12, lit_24, lit_25, lit_30, lit_60, lit_63, lit_96, lit_100, lit_512, lit_240, c1, Nat.not_le.mpr hk, e])
    (fun z hz => by
      have c1 : gi z (78 + 6 * u) 5 = n32 c := (hz.1.2 _ _ (by omega)).trans hp.2.1
      unfold fX5_relate_l14
      simp (disch := omega) only [eq_self, n_le, n_lt, n_inj, n_nat, gd_in, n_add, bi_z, bi_1, gd_bi, n_nonneg,  some_bind, lt_e, lit_NV, if_true, if_false, ite_true, ite_false, Option.bind_some, not_true, not_false_iff, lit_0, lit_1, lit_2, lit_3, lit_4, lit_5, lit_6, lit_7, lit_8, lit_12, lit_24, lit_25, lit_30, lit_60, lit_63, lit_96, lit_100, lit_512, lit_240, c1, Nat.le_refl])
  have c1 : gi z (78 + 6 * u) 5 = n32 c := (f1.2 _ _ (by omega)).trans hp.2.1
  refine ⟨z, ?_, f1, f2 (c - 1) (by omega)⟩
  unfold fX5_relate
  simp (disch := omega) only [eq_self, n_le, n_lt, n_inj, n_nat, gd_in, n_add, bi_z, bi_1, gd_bi, n_nonneg,  some_bind, lt_e, lit_NV, if_true, if_false, ite_true, ite_false, Option.bind_some, not_true, not_false_iff, lit_0, lit_1, lit_2, lit_3, lit_4, lit_5, lit_6, lit_7, lit_8, lit_12, lit_24, lit_25, lit_30, lit_60, lit_63, lit_96, lit_100, lit_512, lit_240, hp.2.1, show ¬ c = 0 by omega, e, c1]
  rw [n_dec (by omega) (by omega)]
  simp (disch := omega) only [eq_self, n_le, n_lt, n_inj, n_nat, gd_in, n_add, bi_z, bi_1, gd_bi, n_nonneg,  some_bind, lt_e, lit_NV, if_true, if_false, ite_true, ite_false, Option.bind_some, not_true, not_false_iff, lit_0, lit_1, lit_2, lit_3, lit_4, lit_5, lit_6, lit_7, lit_8, lit_12, lit_24, lit_25, lit_30, lit_60, lit_63, lit_96, lit_100, lit_512, lit_240]
end REL
