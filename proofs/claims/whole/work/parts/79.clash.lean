/-! ### what a transaction touches, whether it clashes, whether it breaks a law -/
def wr (x : St) (u : Nat) : Int32 := gi x (57 + 5 * u) 6
def dr (x : St) (u : Nat) : Int64 := gl x (57 + 5 * u) 8
def la (x : St) (u i : Nat) : Nat := (gi x (59 + 5 * u) i).toNatClampNeg
def ll (x : St) (u i : Nat) : Nat := (gi x (60 + 5 * u) i).toNatClampNeg
def lb (x : St) (u i : Nat) : Nat := (gi x (61 + 5 * u) i).toNatClampNeg
/-- a transaction's links, L of them -/
def LK (N L : Nat) (x y : St) (u : Nat) : Prop := L ≤ 8 ∧ gi x (57 + 5 * u) 7 = n32 L ∧ gi y 26 u = n32 L ∧ ∀ i, i < L → gi x (59 + 5 * u) i = n32 (la x u i) ∧ gi x (60 + 5 * u) i = n32 (ll x u i) ∧ gi x (61 + 5 * u) i = n32 (lb x u i) ∧ la x u i < N ∧ ll x u i < 4 ∧ lb x u i < N
theorem RX_LK {N E u : Nat} {x y : St} (hN : N ≤ 24) (h : RX N E x y u) : ∃ L, LK N L x y u := by
  obtain ⟨-, -, ⟨L, h1, h2, h3, h4⟩, -⟩ := h
  refine ⟨L, h1, h2, h3, fun i hi => ?_⟩
  obtain ⟨a, b, l, q1, q2, q3, q4, q5, q6⟩ := h4 i hi
  unfold la ll lb
  rw [q4, q5, q6, n_nat (by omega), n_nat (by omega), n_nat (by omega)]
  exact ⟨rfl, rfl, rfl, q1, q3, q2⟩
def tS (E L : Nat) (x : St) (u : Nat) : Int32 := (wr x u ||| gat (fun _ => true) (fun i => bit1 (la x u i) ||| bit1 (lb x u i)) L) ||| gat (hl (dr x u)) (fun e => bit1 (fr x e) ||| bit1 (tt x e)) E
section CLASH
variable {N E L u : Nat} {x y : St}
theorem c_touching (hN : N ≤ 24) (h : RE N E x y) (hK : LK N L x y u) : fX9_touching x u = some (tS E L x u) := by
  have hE := h.1
  obtain ⟨hL, k1, k2, k3⟩ := hK
  have e1 := loop_gat0 (step := fX9_touching_l7 x u) L (fun _ => true) (fun i => bit1 (la x u i) ||| bit1 (lb x u i)) (wr x u) (fun i a hi => by
      obtain ⟨q1, q2, q3, q4, q5, q6⟩ := k3 i hi
      unfold fX9_touching_l7
      simp (disch := omega) only [eq_self, n_le, n_lt, n_inj, n_nat, gd_in, n_add, bi_z, bi_1, gd_bi, n_nonneg,  some_bind, lt_e, lit_NV, if_true, if_false, ite_true, ite_false, Option.bind_some, not_true, not_false_iff, lit_0, lit_1, lit_2, lit_3, lit_4, lit_5, lit_6, lit_7, lit_8, lit_12, lit_24, lit_25, lit_30, lit_60, lit_63, lit_96, lit_100, lit_512, lit_240, k1, Nat.not_le.mpr hi, q1, q3, c_bit])
    (fun a => by
      unfold fX9_touching_l7
      simp (disch := omega) only [eq_self, n_le, n_lt, n_inj, n_nat, gd_in, n_add, bi_z, bi_1, gd_bi, n_nonneg,  some_bind, lt_e, lit_NV, if_true, if_false, ite_true, ite_false, Option.bind_some, not_true, not_false_iff, lit_0, lit_1, lit_2, lit_3, lit_4, lit_5, lit_6, lit_7, lit_8, lit_12, lit_24, lit_25, lit_30, lit_60, lit_63, lit_96, lit_100, lit_512, lit_240, k1, Nat.le_refl])
  have e2 := loop_gat0 (step := fX9_touching_l45 x u) E (hl (dr x u)) (fun e => bit1 (fr x e) ||| bit1 (tt x e)) (wr x u ||| gat (fun _ => true) (fun i => bit1 (la x u i) ||| bit1 (lb x u i)) L) (fun e a he => by
      obtain ⟨q1, q2, q3, q4, q5, q6⟩ := RE_at h hN he
      unfold fX9_touching_l45 fX9_touching_j83 dr
      simp (disch := omega) only [eq_self, n_le, n_lt, n_inj, n_nat, gd_in, n_add, bi_z, bi_1, gd_bi, n_nonneg,  some_bind, lt_e, lit_NV, if_true, if_false, ite_true, ite_false, Option.bind_some, not_true, not_false_iff, lit_0, lit_1, lit_2, lit_3, lit_4, lit_5, lit_6, lit_7, lit_8, lit_12, lit_24, lit_25, lit_30, lit_60, lit_63, lit_96, lit_100, lit_512, lit_240, h.2.1, Nat.not_le.mpr he, c_drops (show e < 60 by omega), q1, q2, c_bit]
      cases hl (gl x (57 + 5 * u) 8) e <;> simp)
    (fun a => by
      unfold fX9_touching_l45
      simp (disch := omega) only [eq_self, n_le, n_lt, n_inj, n_nat, gd_in, n_add, bi_z, bi_1, gd_bi, n_nonneg,  some_bind, lt_e, lit_NV, if_true, if_false, ite_true, ite_false, Option.bind_some, not_true, not_false_iff, lit_0, lit_1, lit_2, lit_3, lit_4, lit_5, lit_6, lit_7, lit_8, lit_12, lit_24, lit_25, lit_30, lit_60, lit_63, lit_96, lit_100, lit_512, lit_240, h.2.1, Nat.le_refl])
  have e1 : loopF (fX9_touching_l7 x u) (gi x (57 + 5 * u) 6, 0) = _ := e1
  have e2 : loopF (fX9_touching_l45 x u) (wr x u ||| gat (fun _ => true) (fun i => bit1 (la x u i) ||| bit1 (lb x u i)) L, 0) = _ := e2
  unfold fX9_touching
  rw [e1, some_bind, e2]
  rfl
theorem wr_gat (hN : N ≤ 24) (h : RX N E x y u) : gat (hs (wr x u)) bit1 24 = wr x u := by
  refine hs_ext fun i hi => ?_
  rw [hs_gb hi (by decide)]
  by_cases e : i < 24
  · rw [decide_eq_true e, Bool.true_and]
  · rw [decide_eq_false e, Bool.false_and]
    exact (h.2.2.2.2.2.1 i (by omega)).symm
theorem r_touches (hN : N ≤ 24) (h : RE N E x y) (hX : RX N E x y u) (hu : u < 4) (hK : LK N L x y u) : fX11_touches y (n32 u) = some (tS E L x u) := by
  have hE := h.1
  obtain ⟨hL, k1, k2, k3⟩ := hK
  obtain ⟨-, -, -, x4, x5, x6, x7, x8⟩ := id hX
  obtain ⟨-, -, -, g1, g2, -⟩ := id h
  have e1 := loop_gat0 (step := fX11_touches_l4 y (n32 u)) 24 (hs (wr x u)) bit1 (n32 0) (fun k a hk => by
      have hi : 24 * u + k < 96 := by omega
      unfold fX11_touches_l4 fX11_touches_j32 wr
      simp (disch := omega) only [eq_self, n_le, n_lt, n_inj, n_nat, gd_in, n_add, bi_z, bi_1, gd_bi, n_nonneg,  some_bind, lt_e, lit_NV, if_true, if_false, ite_true, ite_false, Option.bind_some, not_true, not_false_iff, lit_0, lit_1, lit_2, lit_3, lit_4, lit_5, lit_6, lit_7, lit_8, lit_12, lit_24, lit_25, lit_30, lit_60, lit_63, lit_96, lit_100, lit_512, lit_240, Nat.not_le.mpr hk, n_mul, (x5 k hk).1]
      cases hs (gi x (57 + 5 * u) 6) k
      · simp [or_z]
      · simp
        rfl)
    (fun a => by
      unfold fX11_touches_l4
      simp (disch := omega) only [eq_self, n_le, n_lt, n_inj, n_nat, gd_in, n_add, bi_z, bi_1, gd_bi, n_nonneg,  some_bind, lt_e, lit_NV, if_true, if_false, ite_true, ite_false, Option.bind_some, not_true, not_false_iff, lit_0, lit_1, lit_2, lit_3, lit_4, lit_5, lit_6, lit_7, lit_8, lit_12, lit_24, lit_25, lit_30, lit_60, lit_63, lit_96, lit_100, lit_512, lit_240, Nat.le_refl])
  rw [z_or, wr_gat hN hX] at e1
  have e2 := loopF_seq (step := fX11_touches_l45 y (n32 u)) (fun i => (wr x u ||| gat (fun _ => true) (fun i => bit1 (la x u i) ||| bit1 (lb x u i)) i, n32 (8 * u + i))) L (fun i hi => by
      obtain ⟨q1, q2, q3, q4, q5, q6⟩ := k3 i hi
      obtain ⟨z1, z2, z3⟩ := x4 i (by omega)
      have hi2 : 8 * u + i < 32 := by omega
      show _ = some (Sum.inl (wr x u ||| (gat (fun _ => true) (fun i => bit1 (la x u i) ||| bit1 (lb x u i)) i ||| (bit1 (la x u i) ||| bit1 (lb x u i))), n32 (8 * u + (i + 1))))
      unfold fX11_touches_l45
      simp (disch := omega) only [eq_self, n_le, n_lt, n_inj, n_nat, gd_in, n_add, bi_z, bi_1, gd_bi, n_nonneg,  some_bind, lt_e, lit_NV, if_true, if_false, ite_true, ite_false, Option.bind_some, not_true, not_false_iff, lit_0, lit_1, lit_2, lit_3, lit_4, lit_5, lit_6, lit_7, lit_8, lit_12, lit_24, lit_25, lit_30, lit_60, lit_63, lit_96, lit_100, lit_512, lit_240, k2, n_mul, show ¬ 8 * u + L ≤ 8 * u + i by omega, z1, z3, q1, q3]
      exact congrArg (fun q => some (Sum.inl (q, n32 (8 * u + (i + 1))))) (Int32.or_assoc _ _ _))
    (e := (wr x u ||| gat (fun _ => true) (fun i => bit1 (la x u i) ||| bit1 (lb x u i)) L, n32 (8 * u + L))) (by
      unfold fX11_touches_l45
      simp (disch := omega) only [eq_self, n_le, n_lt, n_inj, n_nat, gd_in, n_add, bi_z, bi_1, gd_bi, n_nonneg,  some_bind, lt_e, lit_NV, if_true, if_false, ite_true, ite_false, Option.bind_some, not_true, not_false_iff, lit_0, lit_1, lit_2, lit_3, lit_4, lit_5, lit_6, lit_7, lit_8, lit_12, lit_24, lit_25, lit_30, lit_60, lit_63, lit_96, lit_100, lit_512, lit_240, k2, n_mul, Nat.le_refl])
  have e3 := loop_gat0 (step := fX11_touches_l88 y (n32 u)) 60 (hl (dr x u)) (fun e => bit1 (fr x e) ||| bit1 (tt x e)) (wr x u ||| gat (fun _ => true) (fun i => bit1 (la x u i) ||| bit1 (lb x u i)) L) (fun e a he => by
      have hi : 60 * u + e < 240 := by omega
      unfold fX11_touches_l88 fX11_touches_j130 dr
      simp (disch := omega) only [eq_self, n_le, n_lt, n_inj, n_nat, gd_in, n_add, bi_z, bi_1, gd_bi, n_nonneg,  some_bind, lt_e, lit_NV, if_true, if_false, ite_true, ite_false, Option.bind_some, not_true, not_false_iff, lit_0, lit_1, lit_2, lit_3, lit_4, lit_5, lit_6, lit_7, lit_8, lit_12, lit_24, lit_25, lit_30, lit_60, lit_63, lit_96, lit_100, lit_512, lit_240, Nat.not_le.mpr he, n_mul, x7 e he]
      cases hd : hl (gl x (57 + 5 * u) 8) e
      · simp [or_z]
      · have heE : e < E := by
          rcases Nat.lt_or_ge e E with q | q
          · exact q
          · rw [x8 e q] at hd
            cases hd
        obtain ⟨q1, q2, q3, q4, q5, q6⟩ := RE_at h hN heE
        simp only [g1, g2, q1, q2, Bool.true_eq_false, if_false, if_true]
        rfl)
    (fun a => by
      unfold fX11_touches_l88
      simp (disch := omega) only [eq_self, n_le, n_lt, n_inj, n_nat, gd_in, n_add, bi_z, bi_1, gd_bi, n_nonneg,  some_bind, lt_e, lit_NV, if_true, if_false, ite_true, ite_false, Option.bind_some, not_true, not_false_iff, lit_0, lit_1, lit_2, lit_3, lit_4, lit_5, lit_6, lit_7, lit_8, lit_12, lit_24, lit_25, lit_30, lit_60, lit_63, lit_96, lit_100, lit_512, lit_240, Nat.le_refl])
  rw [gat_stop (p := hl (dr x u)) hE fun e q1 q2 => x8 e q1] at e3
  unfold fX11_touches
  have e2 : loopF (fX11_touches_l45 y (n32 u)) (wr x u, n32 (8 * u)) = some (wr x u ||| gat (fun _ => true) (fun i => bit1 (la x u i) ||| bit1 (lb x u i)) L, n32 (8 * u + L)) := by
    have z0 : wr x u ||| gat (fun _ => true) (fun i => bit1 (la x u i) ||| bit1 (lb x u i)) 0 = wr x u := or_z _
    have := e2
    simp only [z0, Nat.add_zero] at this
    exact this
  simp (disch := omega) only [eq_self, n_le, n_lt, n_inj, n_nat, gd_in, n_add, bi_z, bi_1, gd_bi, n_nonneg,  some_bind, lt_e, lit_NV, if_true, if_false, ite_true, ite_false, Option.bind_some, not_true, not_false_iff, lit_0, lit_1, lit_2, lit_3, lit_4, lit_5, lit_6, lit_7, lit_8, lit_12, lit_24, lit_25, lit_30, lit_60, lit_63, lit_96, lit_100, lit_512, lit_240, e1, n_mul, e2, e3]
  rfl
theorem dr_0 (h : dr x u ≠ 0) (hX : RX N E x y u) : ∃ e, e < E ∧ hl (dr x u) e = true := by
  apply Classical.byContradiction
  intro hno
  refine h (hl_ext fun i hi => ?_)
  rw [hl_0]
  cases hq : hl (dr x u) i
  · rfl
  · rcases Nat.lt_or_ge i E with q | q
    · exact absurd ⟨i, q, hq⟩ hno
    · have h8 : hl (dr x u) i = false := hX.2.2.2.2.2.2.2 i q
      rw [h8] at hq
      cases hq
theorem or_0 {a b : Int32} (h : a ||| b = n32 0) : a = n32 0 ∧ b = n32 0 := by
  constructor
  · refine hs_ext fun i hi => ?_
    have := congrArg (fun q => hs q i) h
    simp only [hs_or, hs_0, Bool.or_eq_false_iff] at this
    rw [this.1, hs_0]
  · refine hs_ext fun i hi => ?_
    have := congrArg (fun q => hs q i) h
    simp only [hs_or, hs_0, Bool.or_eq_false_iff] at this
    rw [this.2, hs_0]
theorem gat_at {p : Nat → Bool} {f : Nat → Int32} {n k i : Nat} (hk : k < n) (hp : p k = true) (hf : hs (f k) i = true) : hs (gat p f n) i = true := by
  rw [hs_gat]
  exact any_ex.mpr ⟨k, hk, by rw [hp, hf]; rfl⟩
theorem hL0_of {L : Nat} (hL : L ≤ 8) : (n32 L = n32 0) ↔ (L = 0) := by rw [n_inj (by omega) (by omega)]
theorem c_hasWrites (hN : N ≤ 24) (h : RE N E x y) (hX : RX N E x y u) (hK : LK N L x y u) : ∃ b : Bool, fX9_hasWrites x u = some (bi b) ∧ (b = false ↔ tS E L x u = n32 0) := by
  obtain ⟨hL, k1, k2, k3⟩ := hK
  have hE := h.1
  have hyes : (wr x u ≠ n32 0 ∨ L ≠ 0 ∨ dr x u ≠ 0) → ¬ tS E L x u = n32 0 := fun hq h0 => by
    unfold tS at h0
    obtain ⟨h1, h2⟩ := or_0 h0
    obtain ⟨h3, h4⟩ := or_0 h1
    rcases hq with q | q | q
    · exact q h3
    · obtain ⟨-, -, -, q4, -, -⟩ := k3 0 (by omega)
      have := gat_at (p := fun _ => true) (f := fun i => bit1 (la x u i) ||| bit1 (lb x u i)) (n := L) (k := 0) (i := la x u 0) (by omega) rfl (by rw [hs_or, hs_own (by omega)]; rfl)
      rw [h4, hs_0] at this
      cases this
    · obtain ⟨e, he, hd⟩ := dr_0 q hX
      obtain ⟨-, -, -, q4, -, -⟩ := RE_at h hN he
      have := gat_at (p := hl (dr x u)) (f := fun e => bit1 (fr x e) ||| bit1 (tt x e)) (n := E) (k := e) (i := fr x e) he hd (by rw [hs_or, hs_own (by omega)]; rfl)
      rw [h2, hs_0] at this
      cases this
  have hL0 := hL0_of hL
  unfold fX9_hasWrites fX9_hasWrites_j23
  rw [k1, show gi x (57 + 5 * u) 6 = wr x u from rfl, show gl x (57 + 5 * u) 8 = dr x u from rfl]
  by_cases q1 : wr x u = n32 0
  · by_cases q2 : L = 0
    · by_cases q3 : dr x u = 0
      · refine ⟨false, ?_, fun _ => ?_, fun _ => rfl⟩
        · rw [if_pos (show wr x u = 0 from q1), if_pos (show n32 L = 0 from hL0.mpr q2), if_pos (by rw [lg_0]; exact q3)]
          rfl
        · unfold tS
          rw [q1, q2, q3, gat_stop (Nat.zero_le E) fun i _ _ => hl_0 i]
          show n32 0 ||| n32 0 ||| n32 0 = n32 0
          rfl
      · refine ⟨true, ?_, fun q => (by cases q), fun q => absurd q (hyes (Or.inr (Or.inr q3)))⟩
        rw [if_pos (show wr x u = 0 from q1), if_pos (show n32 L = 0 from hL0.mpr q2), if_neg (by rw [lg_0]; exact q3)]
        rfl
    · refine ⟨true, ?_, fun q => (by cases q), fun q => absurd q (hyes (Or.inr (Or.inl q2)))⟩
      rw [if_pos (show wr x u = 0 from q1), if_neg (show ¬ n32 L = 0 from fun q => q2 (hL0.mp q))]
      rfl
  · refine ⟨true, ?_, fun q => (by cases q), fun q => absurd q (hyes (Or.inl q1))⟩
    rw [if_neg (show ¬ wr x u = 0 from q1)]
    rfl
/-- a node that stands against a transaction's writes -/
def cl9 (s : Int32) (x : St) (u k : Nat) : Bool := hs s k && (decide (gi x (57 + 5 * u) 5 < gi x 6 k) || !lv x k)
theorem c_clashes (hR : RN N x y) (h : RE N E x y) (hK : LK N L x y u) : fX10_clashes x u = some (bi ((List.range N).any (cl9 (tS E L x u) x u))) := by
  have hN := hR.1
  have e := loop_any (step := fX10_clashes_l11 x u (tS E L x u)) N n32 (cl9 (tS E L x u) x u) (r := .inr (n32 1)) (e := .inl (n32 N)) (fun k hk => by
      unfold fX10_clashes_l11 fX10_clashes_j57 fX10_clashes_j59 cl9
      simp (disch := omega) only [eq_self, n_le, n_lt, n_inj, n_nat, gd_in, n_add, bi_z, bi_1, gd_bi, n_nonneg,  some_bind, lt_e, lit_NV, if_true, if_false, ite_true, ite_false, Option.bind_some, not_true, not_false_iff, lit_0, lit_1, lit_2, lit_3, lit_4, lit_5, lit_6, lit_7, lit_8, lit_12, lit_24, lit_25, lit_30, lit_60, lit_63, lit_96, lit_100, lit_512, lit_240, hR.2.1, Nat.not_le.mpr hk, c_has (tS E L x u) (show k < 32 by omega), c_isThereN hR.2.1 hN, nd_n hN hk]
      cases hs (tS E L x u) k <;> by_cases q : gi x (57 + 5 * u) 5 < gi x 6 k <;> cases lv x k <;> simp [q])
    (by
      unfold fX10_clashes_l11
      simp (disch := omega) only [eq_self, n_le, n_lt, n_inj, n_nat, gd_in, n_add, bi_z, bi_1, gd_bi, n_nonneg,  some_bind, lt_e, lit_NV, if_true, if_false, ite_true, ite_false, Option.bind_some, not_true, not_false_iff, lit_0, lit_1, lit_2, lit_3, lit_4, lit_5, lit_6, lit_7, lit_8, lit_12, lit_24, lit_25, lit_30, lit_60, lit_63, lit_96, lit_100, lit_512, lit_240, hR.2.1, Nat.le_refl])
  have e : loopF (fX10_clashes_l11 x u (tS E L x u)) 0 = _ := e
  unfold fX10_clashes
  rw [c_touching hN h hK, some_bind, e]
  cases (List.range N).any (cl9 (tS E L x u) x u) <;> rfl
theorem r_clashes (hR : RN N x y) (hX : RX N E x y u) (hu : u < 4) (s a2 : Int32) : loopF (fX11_commit_l51 y (n32 u) a2 s) (n32 0) = some (if (List.range N).any (cl9 s x u) then .inr (-n32 1, y) else .inl (n32 N)) := by
  have hN := hR.1
  obtain ⟨-, -, hc, -, -, -, -, h6⟩ := id hR
  refine loop_any (step := fX11_commit_l51 y (n32 u) a2 s) N n32 (cl9 s x u) (r := .inr (-n32 1, y)) (e := .inl (n32 N)) (fun k hk => ?_) ?_
  · have hq : (gi x 6 k ≤ gi x (57 + 5 * u) 5) = ¬ gi x (57 + 5 * u) 5 < gi x 6 k := nlt_le.symm
    unfold fX11_commit_l51 fX11_commit_j94 fX11_commit_j96 cl9
    simp (disch := omega) only [eq_self, n_le, n_lt, n_inj, n_nat, gd_in, n_add, bi_z, bi_1, gd_bi, n_nonneg,  some_bind, lt_e, lit_NV, if_true, if_false, ite_true, ite_false, Option.bind_some, not_true, not_false_iff, lit_0, lit_1, lit_2, lit_3, lit_4, lit_5, lit_6, lit_7, lit_8, lit_12, lit_24, lit_25, lit_30, lit_60, lit_63, lit_96, lit_100, lit_512, lit_240, hc, Nat.not_le.mpr hk, r_has s (show k < 32 by omega), r_isNode hR, nd_n hN hk, h6, hX.2.1, hq]
    cases hs s k <;> by_cases q : gi x (57 + 5 * u) 5 < gi x 6 k <;> cases lv x k <;> simp [q]
  · unfold fX11_commit_l51
    simp (disch := omega) only [eq_self, n_le, n_lt, n_inj, n_nat, gd_in, n_add, bi_z, bi_1, gd_bi, n_nonneg,  some_bind, lt_e, lit_NV, if_true, if_false, ite_true, ite_false, Option.bind_some, not_true, not_false_iff, lit_0, lit_1, lit_2, lit_3, lit_4, lit_5, lit_6, lit_7, lit_8, lit_12, lit_24, lit_25, lit_30, lit_60, lit_63, lit_96, lit_100, lit_512, lit_240, hc, Nat.le_refl]
end CLASH
