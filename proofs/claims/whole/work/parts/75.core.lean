/-! ### two loops side by side -/
theorem loop2 {X Y E F : Type} {sc : X → Option (X ⊕ E)} {sr : Y → Option (Y ⊕ F)} {x0 : X} {y0 : Y} (I : Nat → X → Y → Prop) (h0 : I 0 x0 y0) : ∀ (N : Nat), (∀ k x y, k < N → I k x y → ∃ x' y', sc x = some (.inl x') ∧ sr y = some (.inl y') ∧ I (k + 1) x' y') → ∃ x' y', (∀ e, loopF sc x' = some e → loopF sc x0 = some e) ∧ (∀ e, loopF sr y' = some e → loopF sr y0 = some e) ∧ I N x' y'
  | 0, _ => ⟨x0, y0, fun _ h => h, fun _ h => h, h0⟩
  | N + 1, hb => by
    obtain ⟨x, y, h1, h2, h3⟩ := loop2 I h0 N fun k x y hk => hb k x y (by omega)
    obtain ⟨x', y', e1, e2, h4⟩ := hb N x y (by omega) h3
    exact ⟨x', y', fun e h => h1 e (loopF_go e1 h), fun e h => h2 e (loopF_go e2 h), h4⟩
/-! ### the core of the relation: all but what is known, the twins and the bound on the log -/
def Cor (N E T P R : Nat) (x y : St) : Prop := RN N x y ∧ RE N E x y ∧ RT T x y ∧ RM N x y ∧ RW x y ∧ RG N P x y ∧ (∀ u, u < 4 → RX N E x y u) ∧ RK N x y ∧ RS N x ∧ RR R x y ∧ RP x y
theorem Rel_of {N E T P R c : Nat} {x y : St} (h : Cor N E T P R x y) (hT : T ≤ c) (hc : c ≤ 512) (h1 : RF R E x) (h2 : RQ N x) (h3 : RC9 c P x) : Rel c x y := by
  obtain ⟨a1, a2, a3, a4, a5, a6, a7, a8, a9, a10, a11⟩ := h
  exact ⟨N, E, T, P, R, hT, hc, a1, a2, a3, a4, a5, a6, a7, a8, a9, a10, h1, a11, h2, h3⟩
theorem Cor_of {c : Nat} {x y : St} (h : Rel c x y) : ∃ N E T P R, Cor N E T P R x y ∧ T ≤ c ∧ RF R E x ∧ RQ N x ∧ RC9 c P x := by
  obtain ⟨N, E, T, P, R, h1, -, h2, h3, h4, h5, h6, h7, h8, h9, h10, h11, h12, h13, h14, h15⟩ := h
  exact ⟨N, E, T, P, R, ⟨h2, h3, h4, h5, h6, h7, h8, h9, h10, h11, h13⟩, h1, h12, h14, h15⟩
section CORE
variable {N E T P R : Nat} {x y : St}
theorem Cor_th (q : Int32) (h : Cor N E T P R x y) : Cor N E T P R x (th y q) := by
  obtain ⟨a1, a2, a3, a4, a5, a6, a7, a8, a9, a10, a11⟩ := h
  exact ⟨RN_th a1, RE_th a2, RT_th a3, RM_th a4, RW_th a5, RG_th a6, fun u hu => RX_th (a7 u hu), RK_th a8, a9, RR_th a10, RP_th a11⟩
/-- the time goes on -/
theorem Cor_tick (h : Cor N E T P R x y) (hT : T < 512) : Cor N E (T + 1) P R (ui x 0 11 (n32 (T + 1))) (ui y 0 0 (n32 (T + 1))) := by
  obtain ⟨a1, a2, a3, a4, a5, a6, a7, a8, a9, a10, a11⟩ := h
  have hx : ∀ a k, ¬ (a = 0 ∧ k = 11) → gi (ui x 0 11 (n32 (T + 1))) a k = gi x a k := fun a k h => gi_no h
  have hy : ∀ a k, ¬ (a = 0 ∧ k = 0) → gi (ui y 0 0 (n32 (T + 1))) a k = gi y a k := fun a k h => gi_no h
  have hl9 : ∀ a k, gl (ui x 0 11 (n32 (T + 1))) a k = gl x a k := fun _ _ => rfl
  refine ⟨?_, ?_, ?_, ?_, ?_, ?_, fun u hu => ?_, ?_, ?_, ?_, ?_⟩
  · exact RN_fr (fun a k q => hx _ _ (by omega)) (fun a k q => hy _ _ (by omega)) a1
  · exact RE_fr (fun a k q => hx _ _ (by omega)) (fun a k q => hy _ _ (by omega)) (by omega) a2
  · exact ⟨by omega, gi_ui_eq, gi_ui_eq⟩
  · exact RM_fr (fun a k q => hx _ _ (by omega)) (fun a k q => hy _ _ (by omega)) a4
  · exact RW_fr (fun a k q => hx _ _ (by omega)) (fun a k q => hy _ _ (by omega)) a5
  · exact RG_fr (fun a k q => hx _ _ (by omega)) (fun a k q => hy _ _ (by omega)) a6
  · exact RX_fr hu (fun a k q => hx _ _ (by omega)) (fun a k q => hl9 _ _) (fun a k q => hy _ _ (by omega)) (by omega) (by omega) (a7 u hu)
  · exact RK_fr (fun a k q => hx _ _ (by omega)) (fun a k q => hy _ _ (by omega)) a8
  · exact RS_fr (fun a k q => hx _ _ (by omega)) a9
  · exact RR_fr (fun a k q => hx _ _ (by omega)) (fun a k q => hy _ _ (by omega)) a10
  · exact RP_fr (fun a k q => hx _ _ (by omega)) (fun a k q => hy _ _ (by omega)) a11
/-- a value is written -/
theorem Cor_put {k : Nat} {v : Int32} (h : Cor N E T P R x y) (hP : P < 512) : Cor N E T (P + 1) R (ptX x k v T P) (ptY y k v T P) := by
  obtain ⟨a1, a2, a3, a4, a5, a6, a7, a8, a9, a10, a11⟩ := h
  have hx : ∀ a k', ¬ (a = 1 ∧ k' = 9) ∧ (a < 5 ∨ 9 < a) → gi (ptX x k v T P) a k' = gi x a k' := fun a k' h => ptX_o h
  have hy : ∀ a k', ¬ (a = 0 ∧ k' = 11) ∧ a ≠ 2 ∧ a ≠ 6 ∧ (a < 10 ∨ 12 < a) → gi (ptY y k v T P) a k' = gi y a k' := fun a k' h => ptY_o h
  have hl9 : ∀ a k', gl (ptX x k v T P) a k' = gl x a k' := fun _ _ => rfl
  refine ⟨RN_pt a1, ?_, ?_, ?_, ?_, (RG_pt a6 hP).1, fun u hu => ?_, ?_, ?_, ?_, ?_⟩
  · exact RE_fr (fun a k q => hx _ _ (by omega)) (fun a k q => hy _ _ (by omega)) (by omega) a2
  · exact RT_fr (hx _ _ (by omega)) (hy _ _ (by omega)) a3
  · exact RM_fr (fun a k q => hx _ _ (by omega)) (fun a k q => hy _ _ (by omega)) a4
  · exact RW_fr (fun a k q => hx _ _ (by omega)) (fun a k q => hy _ _ (by omega)) a5
  · exact RX_fr hu (fun a k q => hx _ _ (by omega)) (fun a k q => hl9 _ _) (fun a k q => hy _ _ (by omega)) (by omega) (by omega) (a7 u hu)
  · exact RK_fr (fun a k q => hx _ _ (by omega)) (fun a k q => hy _ _ (by omega)) a8
  · exact RS_fr (fun a k q => hx _ _ (by omega)) a9
  · exact RR_fr (fun a k q => hx _ _ (by omega)) (fun a k q => hy _ _ (by omega)) a10
  · exact RP_fr (fun a k q => hx _ _ (by omega)) (fun a k q => hy _ _ (by omega)) a11
/-- an edge goes -/
def enX (x : St) (a b e T : Nat) : St := ui (ui (ui x 12 e (n32 T)) 6 a (n32 T)) 6 b (n32 T)
def enY (y : St) (a b e T : Nat) : St := ui (ui (ui y 17 e (n32 T)) 6 a (n32 T)) 6 b (n32 T)
theorem c_end (h : Cor N E T P R x y) {e : Nat} (he : e < E) : fX10_endEdge x (n32 e) = some (enX x (fr x e) (tt x e) e T) := by
  obtain ⟨a1, a2, a3, -⟩ := h
  have hN := a1.1
  have hE := a2.1
  obtain ⟨q1, q2, q3, q4, q5, q6⟩ := RE_at a2 hN he
  unfold fX10_endEdge fX7_endE enX
  simp (disch := omega) only [eq_self, n_le, n_lt, n_inj, n_nat, gd_in, n_add, bi_z, bi_1, gd_bi, n_nonneg,  some_bind, lt_e, lit_NV, if_true, if_false, ite_true, ite_false, Option.bind_some, not_true, not_false_iff, lit_0, lit_1, lit_2, lit_3, lit_4, lit_5, lit_6, lit_7, lit_8, lit_12, lit_24, lit_25, lit_30, lit_60, lit_63, lit_96, lit_100, lit_512, lit_240, gi_no, a3.2.1, q1, q2]
theorem r_drops (h : Cor N E T P R x y) {e : Nat} (he : e < E) : fX11_drops y (n32 e) = some (enY y (fr x e) (tt x e) e T) := by
  obtain ⟨a1, a2, a3, -⟩ := h
  have hN := a1.1
  have hE := a2.1
  obtain ⟨-, -, -, g1, g2, -⟩ := id a2
  obtain ⟨q1, q2, q3, q4, q5, q6⟩ := RE_at a2 hN he
  unfold fX11_drops enY
  simp (disch := omega) only [eq_self, n_le, n_lt, n_inj, n_nat, gd_in, n_add, bi_z, bi_1, gd_bi, n_nonneg,  some_bind, lt_e, lit_NV, if_true, if_false, ite_true, ite_false, Option.bind_some, not_true, not_false_iff, lit_0, lit_1, lit_2, lit_3, lit_4, lit_5, lit_6, lit_7, lit_8, lit_12, lit_24, lit_25, lit_30, lit_60, lit_63, lit_96, lit_100, lit_512, lit_240, gi_no, a3.2.2, g1, g2, q1, q2]
theorem Cor_end (h : Cor N E T P R x y) (a b e : Nat) : Cor N E T P R (enX x a b e T) (enY y a b e T) := by
  obtain ⟨a1, a2, a3, a4, a5, a6, a7, a8, a9, a10, a11⟩ := h
  have hx : ∀ a' k, a' ≠ 12 ∧ a' ≠ 6 → gi (enX x a b e T) a' k = gi x a' k := fun a' k h => by
    unfold enX
    simp (disch := omega) only [gi_no]
  have hy : ∀ a' k, a' ≠ 17 ∧ a' ≠ 6 → gi (enY y a b e T) a' k = gi y a' k := fun a' k h => by
    unfold enY
    simp (disch := omega) only [gi_no]
  have hl9 : ∀ a' k, gl (enX x a b e T) a' k = gl x a' k := fun _ _ => rfl
  refine ⟨?_, ?_, ?_, ?_, ?_, ?_, fun u hu => ?_, ?_, ?_, ?_, ?_⟩
  · obtain ⟨g1, g2, g3, g4, g5, g6, g7, g8⟩ := a1
    refine ⟨g1, ?_, ?_, fun k => ?_, fun k => ?_, fun k => ?_, fun k => ?_, fun k => ?_⟩
    · rw [hx _ _ (by omega), g2]
    · rw [hy _ _ (by omega), g3]
    · rw [hx _ _ (by omega), hy _ _ (by omega), g4]
    · rw [hx _ _ (by omega), hy _ _ (by omega), g5]
    · rw [hx _ _ (by omega), hy _ _ (by omega), g6]
    · rw [hx _ _ (by omega), hy _ _ (by omega), g7]
    · unfold enX enY
      by_cases z1 : k = b
      · simp (disch := omega) only [gi_yes]
      · by_cases z2 : k = a
        · simp (disch := omega) only [gi_yes, gi_no]
        · simp (disch := omega) only [gi_no, g8]
  · obtain ⟨g1, g2, g3, g4, g5, g6, g7, g8, g9⟩ := a2
    refine ⟨g1, ?_, ?_, fun k => ?_, fun k => ?_, fun k => ?_, fun k => ?_, fun k => ?_, fun k hk => ?_⟩
    · rw [hx _ _ (by omega), g2]
    · rw [hy _ _ (by omega), g3]
    · rw [hx _ _ (by omega), hy _ _ (by omega), g4]
    · rw [hx _ _ (by omega), hy _ _ (by omega), g5]
    · rw [hx _ _ (by omega), hy _ _ (by omega), g6]
    · rw [hx _ _ (by omega), hy _ _ (by omega), g7]
    · unfold enX enY
      by_cases z1 : k = e
      · simp (disch := omega) only [gi_yes, gi_no]
      · simp (disch := omega) only [gi_no, g8]
    · rw [hx _ _ (by omega), hx _ _ (by omega), hx _ _ (by omega)]
      exact g9 k hk
  · exact RT_fr (hx _ _ (by omega)) (hy _ _ (by omega)) a3
  · exact RM_fr (fun a k q => hx _ _ (by omega)) (fun a k q => hy _ _ (by omega)) a4
  · exact RW_fr (fun a k q => hx _ _ (by omega)) (fun a k q => hy _ _ (by omega)) a5
  · exact RG_fr (fun a k q => hx _ _ (by omega)) (fun a k q => hy _ _ (by omega)) a6
  · exact RX_fr hu (fun a k q => hx _ _ (by omega)) (fun a k q => hl9 _ _) (fun a k q => hy _ _ (by omega)) (by omega) (by omega) (a7 u hu)
  · exact RK_fr (fun a k q => hx _ _ (by omega)) (fun a k q => hy _ _ (by omega)) a8
  · exact RS_fr (fun a k q => hx _ _ (by omega)) a9
  · exact RR_fr (fun a k q => hx _ _ (by omega)) (fun a k q => hy _ _ (by omega)) a10
  · exact RP_fr (fun a k q => hx _ _ (by omega)) (fun a k q => hy _ _ (by omega)) a11
/-- an edge comes -/
def adX (x : St) (E a l b T : Nat) : St := ui (ui (ui (ui (ui (ui (ui (ui (ui x 10 2 (n32 (E + 1))) 11 E (n32 T)) 12 E NV) 13 E (n32 a)) 14 E (n32 l)) 15 E (n32 b)) 6 a (n32 T)) 6 b (n32 T)) 53 3 (gi x 53 3 ||| (bit1 a ||| bit1 b))
def adY (y : St) (E a l b T : Nat) : St := ui (ui (ui (ui (ui (ui (ui (ui (ui (ui y 13 E (n32 a)) 14 E (n32 b)) 15 E (n32 l)) 16 E (n32 T)) 17 E NV) 0 15 (n32 (E + 1))) 6 a (n32 T)) 6 b (n32 T)) 8 a (n32 1)) 8 b (n32 1)
theorem c_addEdge {a l b : Nat} (h : Cor N E T P R x y) (hE : E < 60) (ha : a < N) (hb : b < N) (hl : l < 4) : fX10_addEdge x (n32 a) (n32 l) (n32 b) = some (n32 E, adX x E a l b T) := by
  obtain ⟨a1, a2, a3, -⟩ := h
  have hN := a1.1
  unfold fX10_addEdge fX0_add fX7_comeE adX
  simp (disch := omega) only [eq_self, n_le, n_lt, n_inj, n_nat, gd_in, n_add, bi_z, bi_1, gd_bi, n_nonneg,  some_bind, lt_e, lit_NV, if_true, if_false, ite_true, ite_false, Option.bind_some, not_true, not_false_iff, lit_0, lit_1, lit_2, lit_3, lit_4, lit_5, lit_6, lit_7, lit_8, lit_12, lit_24, lit_25, lit_30, lit_60, lit_63, lit_96, lit_100, lit_512, lit_240, gi_no, gi_yes, a3.2.1, a2.2.1, c_bit]
theorem r_adds {a l b : Nat} (h : Cor N E T P R x y) (hE : E < 60) (ha : a < N) (hb : b < N) (hl : l < 4) : fX11_adds y (n32 a) (n32 l) (n32 b) = some (n32 E, adY y E a l b T) := by
  obtain ⟨a1, a2, a3, -⟩ := h
  have hN := a1.1
  unfold fX11_adds adY
  simp (disch := omega) only [eq_self, n_le, n_lt, n_inj, n_nat, gd_in, n_add, bi_z, bi_1, gd_bi, n_nonneg,  some_bind, lt_e, lit_NV, if_true, if_false, ite_true, ite_false, Option.bind_some, not_true, not_false_iff, lit_0, lit_1, lit_2, lit_3, lit_4, lit_5, lit_6, lit_7, lit_8, lit_12, lit_24, lit_25, lit_30, lit_60, lit_63, lit_96, lit_100, lit_512, lit_240, gi_no, gi_yes, a3.2.2, a2.2.2.1]
  rw [n_dec (by omega) (by omega)]
  rfl
theorem Cor_add {a l b : Nat} (h : Cor N E T P R x y) (hE : E < 60) (ha : a < N) (hb : b < N) (hl : l < 4) : Cor N (E + 1) T P R (adX x E a l b T) (adY y E a l b T) := by
  obtain ⟨a1, a2, a3, a4, a5, a6, a7, a8, a9, a10, a11⟩ := h
  have hN := a1.1
  have hx : ∀ a' k, ¬ (a' = 10 ∧ k = 2) ∧ (a' < 11 ∨ 15 < a') ∧ a' ≠ 6 ∧ ¬ (a' = 53 ∧ k = 3) → gi (adX x E a l b T) a' k = gi x a' k := fun a' k h => by
    unfold adX
    simp (disch := omega) only [gi_no]
  have hy : ∀ a' k, (a' < 13 ∨ 17 < a') ∧ a' ≠ 6 ∧ a' ≠ 8 ∧ ¬ (a' = 0 ∧ k = 15) → gi (adY y E a l b T) a' k = gi y a' k := fun a' k h => by
    unfold adY
    simp (disch := omega) only [gi_no]
  have hl9 : ∀ a' k, gl (adX x E a l b T) a' k = gl x a' k := fun _ _ => rfl
  refine ⟨?_, ?_, ?_, ?_, ?_, ?_, fun u hu => ?_, ?_, ?_, ?_, ?_⟩
  · obtain ⟨g1, g2, g3, g4, g5, g6, g7, g8⟩ := a1
    refine ⟨g1, ?_, ?_, fun k => ?_, fun k => ?_, fun k => ?_, fun k => ?_, fun k => ?_⟩
    · rw [hx _ _ (by omega), g2]
    · rw [hy _ _ (by omega), g3]
    · rw [hx _ _ (by omega), hy _ _ (by omega), g4]
    · rw [hx _ _ (by omega), hy _ _ (by omega), g5]
    · rw [hx _ _ (by omega), hy _ _ (by omega), g6]
    · rw [hx _ _ (by omega), hy _ _ (by omega), g7]
    · unfold adX adY
      by_cases z1 : k = b
      · simp (disch := omega) only [gi_yes, gi_no]
      · by_cases z2 : k = a
        · simp (disch := omega) only [gi_yes, gi_no]
        · simp (disch := omega) only [gi_no, g8]
  · obtain ⟨g1, g2, g3, g4, g5, g6, g7, g8, g9⟩ := a2
    have hn : ∀ k, k = E ∨ k ≠ E := fun k => by omega
    refine ⟨by omega, ?_, ?_, fun k => ?_, fun k => ?_, fun k => ?_, fun k => ?_, fun k => ?_, fun k hk => ?_⟩
    · unfold adX
      simp (disch := omega) only [gi_yes, gi_no]
    · unfold adY
      simp (disch := omega) only [gi_yes, gi_no]
    · unfold adX adY
      rcases hn k with z | z <;> simp (disch := omega) only [gi_yes, gi_no, g4]
    · unfold adX adY
      rcases hn k with z | z <;> simp (disch := omega) only [gi_yes, gi_no, g5]
    · unfold adX adY
      rcases hn k with z | z <;> simp (disch := omega) only [gi_yes, gi_no, g6]
    · unfold adX adY
      rcases hn k with z | z <;> simp (disch := omega) only [gi_yes, gi_no, g7]
    · unfold adX adY
      rcases hn k with z | z <;> simp (disch := omega) only [gi_yes, gi_no, g8]
    · rcases hn k with z | z
      · refine ⟨a, b, l, ha, hb, hl, ?_, ?_, ?_⟩ <;> unfold adX <;> simp (disch := omega) only [gi_yes, gi_no]
      · obtain ⟨a', b', l', z1, z2, z3, z4, z5, z6⟩ := g9 k (by omega)
        refine ⟨a', b', l', z1, z2, z3, ?_, ?_, ?_⟩ <;> unfold adX <;> simp (disch := omega) only [gi_no, z4, z5, z6]
  · exact RT_fr (hx _ _ (by omega)) (hy _ _ (by omega)) a3
  · exact RM_fr (fun a k q => hx _ _ (by omega)) (fun a k q => hy _ _ (by omega)) a4
  · exact RW_fr (fun a k q => hx _ _ (by omega)) (fun a k q => hy _ _ (by omega)) a5
  · exact RG_fr (fun a k q => hx _ _ (by omega)) (fun a k q => hy _ _ (by omega)) a6
  · exact RX_fr hu (fun a k q => hx _ _ (by omega)) (fun a k q => hl9 _ _) (fun a k q => hy _ _ (by omega)) (by omega) (by omega) (a7 u hu)
  · obtain ⟨g1, g2⟩ := a8
    have e53 : gi (adX x E a l b T) 53 3 = gi x 53 3 ||| (bit1 a ||| bit1 b) := by
      unfold adX
      simp (disch := omega) only [gi_yes]
    have hb1 : ∀ k, k < 32 → hs (gi (adX x E a l b T) 53 3) k = (hs (gi x 53 3) k || (decide (k = a) || decide (k = b))) := fun k hk => by
      rw [e53, hs_or, hs_or, hs_bit1 a (by omega) k hk, hs_bit1 b (by omega) k hk]
    refine ⟨fun k hk => ⟨?_, ?_⟩, fun k hk => ?_⟩
    · rw [hx _ _ (by omega), hy _ _ (by omega), (g1 k hk).1]
    · rw [hb1 k (by omega)]
      unfold adY
      by_cases z1 : k = b
      · simp (disch := omega) only [gi_yes]
        simp [z1, bi]
      · by_cases z2 : k = a
        · simp (disch := omega) only [gi_yes, gi_no]
          simp [z2, bi]
        · simp (disch := omega) only [gi_no, (g1 k hk).2]
          simp [z1, z2]
    · by_cases h32 : k < 32
      · rw [hb1 k h32, g2 k hk]
        simp only [Bool.false_or, Bool.or_eq_false_iff, decide_eq_false_iff_not]
        omega
      · exact hs_big (by omega)
  · exact RS_fr (fun a k q => hx _ _ (by omega)) a9
  · exact RR_fr (fun a k q => hx _ _ (by omega)) (fun a k q => hy _ _ (by omega)) a10
  · exact RP_fr (fun a k q => hx _ _ (by omega)) (fun a k q => hy _ _ (by omega)) a11
/-- all marks as at first, all nodes awake -/
theorem c_marks (s : Int32) : ∃ x', fX4_startAnew x s = some x' ∧ (∀ a k, gl x' a k = gl x a k) ∧ (∀ a k, a ≠ 54 ∧ ¬ (a = 53 ∧ k = 3) → gi x' a k = gi x a k) ∧ (∀ k, k < 24 → gi x' 54 k = n32 k) ∧ gi x' 53 3 = s := by
  obtain ⟨x1, e1, f1, f2, f3⟩ := loop_st (step := fX4_startAnew_l2 x s) 24 (fun k z => (∀ a j, gl z a j = gl x a j) ∧ (∀ a j, a ≠ 54 → gi z a j = gi x a j) ∧ ∀ j, j < k → gi z 54 j = n32 j) (x0 := x) ⟨fun _ _ => rfl, fun _ _ _ => rfl, fun j h => absurd h (Nat.not_lt_zero j)⟩ (fun k z hk hz => by
      refine ⟨ui z 54 k (n32 k), ?_, hz.1, fun a j h => ?_, fun j hj => ?_⟩
      · unfold fX4_startAnew_l2
        simp (disch := omega) only [eq_self, n_le, n_lt, n_inj, n_nat, gd_in, n_add, bi_z, bi_1, gd_bi, n_nonneg,  some_bind, lt_e, lit_NV, if_true, if_false, ite_true, ite_false, Option.bind_some, not_true, not_false_iff, lit_0, lit_1, lit_2, lit_3, lit_4, lit_5, lit_6, lit_7, lit_8, lit_12, lit_24, lit_25, lit_30, lit_60, lit_63, lit_96, lit_100, lit_512, lit_240, Nat.not_le.mpr hk]
      · rw [gi_no (by omega)]
        exact hz.2.1 a j h
      · by_cases e : j = k
        · rw [gi_yes ⟨rfl, e⟩, e]
        · rw [gi_no (by omega)]
          exact hz.2.2 j (by omega))
    (fun z hz => by
      unfold fX4_startAnew_l2
      simp (disch := omega) only [eq_self, n_le, n_lt, n_inj, n_nat, gd_in, n_add, bi_z, bi_1, gd_bi, n_nonneg,  some_bind, lt_e, lit_NV, if_true, if_false, ite_true, ite_false, Option.bind_some, not_true, not_false_iff, lit_0, lit_1, lit_2, lit_3, lit_4, lit_5, lit_6, lit_7, lit_8, lit_12, lit_24, lit_25, lit_30, lit_60, lit_63, lit_96, lit_100, lit_512, lit_240, Nat.le_refl])
  refine ⟨ui x1 53 3 s, ?_, f1, fun a k h => ?_, fun k hk => ?_, gi_ui_eq⟩
  · have e1 : loopF (fX4_startAnew_l2 x s) (x, 0) = some (x1, n32 24) := e1
    unfold fX4_startAnew
    rw [e1]
    rfl
  · rw [gi_no (by omega)]
    exact f2 a k (by omega)
  · rw [gi_no (by omega)]
    exact f3 k hk
theorem r_wakes (h : RN N x y) : ∃ y', fX11_wakes y = some y' ∧ (∀ a k, a ≠ 7 ∧ a ≠ 8 → gi y' a k = gi y a k) ∧ ∀ k, k < N → gi y' 7 k = n32 k ∧ gi y' 8 k = bi (lv x k) := by
  have hN := h.1
  obtain ⟨y1, e1, f1, f2⟩ := loop_st (step := fX11_wakes_l2 y) N (fun k z => (∀ a j, a ≠ 7 ∧ a ≠ 8 → gi z a j = gi y a j) ∧ ∀ j, j < k → gi z 7 j = n32 j ∧ gi z 8 j = bi (lv x j)) (x0 := y) ⟨fun _ _ _ => rfl, fun j h => absurd h (Nat.not_lt_zero j)⟩ (fun k z hk hz => by
      have hz' : RN N x (ui z 7 k (n32 k)) := RN_fr (fun _ _ _ => rfl) (fun a j q => by rw [gi_no (by omega)]; exact hz.1 a j (by omega)) h
      have hc : gi z 0 1 = n32 N := (hz.1 _ _ (by omega)).trans h.2.2.1
      refine ⟨ui (ui z 7 k (n32 k)) 8 k (bi (lv x k)), ?_, fun a j h => ?_, fun j hj => ?_⟩
      · unfold fX11_wakes_l2
        simp (disch := omega) only [eq_self, n_le, n_lt, n_inj, n_nat, gd_in, n_add, bi_z, bi_1, gd_bi, n_nonneg,  some_bind, lt_e, lit_NV, if_true, if_false, ite_true, ite_false, Option.bind_some, not_true, not_false_iff, lit_0, lit_1, lit_2, lit_3, lit_4, lit_5, lit_6, lit_7, lit_8, lit_12, lit_24, lit_25, lit_30, lit_60, lit_63, lit_96, lit_100, lit_512, lit_240, hc, Nat.not_le.mpr hk, r_isNode hz', nd_n hN hk]
      · rw [gi_no (by omega), gi_no (by omega)]
        exact hz.1 a j h
      · by_cases e : j = k
        · subst e
          rw [gi_no (a := 8) (b := 7) (by omega), gi_ui_eq, gi_ui_eq]
          exact ⟨rfl, rfl⟩
        · rw [gi_no (by omega), gi_no (by omega), gi_no (by omega), gi_no (by omega)]
          exact hz.2 j (by omega))
    (fun z hz => by
      have hc : gi z 0 1 = n32 N := (hz.1 _ _ (by omega)).trans h.2.2.1
      unfold fX11_wakes_l2
      simp (disch := omega) only [eq_self, n_le, n_lt, n_inj, n_nat, gd_in, n_add, bi_z, bi_1, gd_bi, n_nonneg,  some_bind, lt_e, lit_NV, if_true, if_false, ite_true, ite_false, Option.bind_some, not_true, not_false_iff, lit_0, lit_1, lit_2, lit_3, lit_4, lit_5, lit_6, lit_7, lit_8, lit_12, lit_24, lit_25, lit_30, lit_60, lit_63, lit_96, lit_100, lit_512, lit_240, hc, Nat.le_refl])
  have e1 : loopF (fX11_wakes_l2 y) (y, 0) = some (y1, n32 N) := e1
  refine ⟨y1, ?_, f1, f2⟩
  unfold fX11_wakes
  rw [e1]
  rfl
theorem RS_hs (h : RS N x) (hN : N ≤ 24) {k : Nat} : hs (gi x 1 10) k = (decide (k < N) && lv x k) := by
  unfold RS at h
  rw [h]
  by_cases hk : k < 32
  · exact hs_gb hk (by omega)
  · rw [hs_big (by omega), decide_eq_false (by omega)]
    rfl
theorem Cor_wake (h : Cor N E T P R x y) : ∃ x' y', fX4_startAnew x (gi x 1 10) = some x' ∧ fX11_wakes y = some y' ∧ Cor N E T P R x' y' ∧ (∀ a k, gl x' a k = gl x a k) ∧ (∀ a k, a ≠ 54 ∧ ¬ (a = 53 ∧ k = 3) → gi x' a k = gi x a k) ∧ ∀ a k, a ≠ 7 ∧ a ≠ 8 → gi y' a k = gi y a k := by
  obtain ⟨a1, a2, a3, a4, a5, a6, a7, a8, a9, a10, a11⟩ := h
  obtain ⟨x', e1, hl9, hx, h54, h53⟩ := c_marks (x := x) (gi x 1 10)
  obtain ⟨y', e2, hy, h78⟩ := r_wakes a1
  refine ⟨x', y', e1, e2, ⟨?_, ?_, ?_, ?_, ?_, ?_, fun u hu => ?_, ?_, ?_, ?_, ?_⟩, hl9, hx, hy⟩
  · exact RN_fr (fun a k q => hx _ _ (by omega)) (fun a k q => hy _ _ (by omega)) a1
  · exact RE_fr (fun a k q => hx _ _ (by omega)) (fun a k q => hy _ _ (by omega)) (by omega) a2
  · exact RT_fr (hx _ _ (by omega)) (hy _ _ (by omega)) a3
  · exact RM_fr (fun a k q => hx _ _ (by omega)) (fun a k q => hy _ _ (by omega)) a4
  · exact RW_fr (fun a k q => hx _ _ (by omega)) (fun a k q => hy _ _ (by omega)) a5
  · exact RG_fr (fun a k q => hx _ _ (by omega)) (fun a k q => hy _ _ (by omega)) a6
  · exact RX_fr hu (fun a k q => hx _ _ (by omega)) (fun a k q => hl9 _ _) (fun a k q => hy _ _ (by omega)) (by omega) (by omega) (a7 u hu)
  · have hN := a1.1
    refine ⟨fun k hk => ⟨?_, ?_⟩, fun k hk => ?_⟩
    · rw [(h78 k hk).1, h54 k (by omega)]
    · rw [(h78 k hk).2, h53, RS_hs a9 hN, decide_eq_true hk, Bool.true_and]
    · rw [h53, RS_hs a9 hN, decide_eq_false (by omega), Bool.false_and]
  · exact RS_fr (fun a k q => hx _ _ (by omega)) a9
  · exact RR_fr (fun a k q => hx _ _ (by omega)) (fun a k q => hy _ _ (by omega)) a10
  · exact RP_fr (fun a k q => hx _ _ (by omega)) (fun a k q => hy _ _ (by omega)) a11
/-- what is known is found anew -/
theorem Cor_infer (h : Cor N E T P R x y) : ∃ x', fX1_inferAnew x = some x' ∧ Cor N E T P R x' y ∧ RF R E x' ∧ FXx x x' := by
  obtain ⟨a1, a2, a3, a4, a5, a6, a7, a8, a9, a10, a11⟩ := h
  obtain ⟨x', e, f, t, k⟩ := c_inferAnew a1.1 a2 a10
  have hx : ∀ a j, a < 29 ∨ a = 33 ∨ 37 < a → gi x' a j = gi x a j := f.2
  have hl9 : ∀ a j, gl x' a j = gl x a j := f.1
  have hy : ∀ a j : Nat, a < a + 1 → gi y a j = gi y a j := fun _ _ _ => rfl
  refine ⟨x', e, ⟨?_, ?_, ?_, ?_, ?_, ?_, fun u hu => ?_, ?_, ?_, ?_, ?_⟩, RF_of f t k, f⟩
  · exact RN_fr (fun a k q => hx _ _ (by omega)) (fun a k q => hy _ _ (by omega)) a1
  · exact RE_fr (fun a k q => hx _ _ (by omega)) (fun a k q => hy _ _ (by omega)) (by omega) a2
  · exact RT_fr (hx _ _ (by omega)) (hy _ _ (by omega)) a3
  · exact RM_fr (fun a k q => hx _ _ (by omega)) (fun a k q => hy _ _ (by omega)) a4
  · exact RW_fr (fun a k q => hx _ _ (by omega)) (fun a k q => hy _ _ (by omega)) a5
  · exact RG_fr (fun a k q => hx _ _ (by omega)) (fun a k q => hy _ _ (by omega)) a6
  · exact RX_fr hu (fun a k q => hx _ _ (by omega)) (fun a k q => hl9 _ _) (fun a k q => hy _ _ (by omega)) (by omega) (by omega) (a7 u hu)
  · exact RK_fr (fun a k q => hx _ _ (by omega)) (fun a k q => hy _ _ (by omega)) a8
  · exact RS_fr (fun a k q => hx _ _ (by omega)) a9
  · exact RR_fr (fun a k q => hx _ _ (by omega)) (fun a k q => hy _ _ (by omega)) a10
  · exact RP_fr (fun a k q => hx _ _ (by omega)) (fun a k q => hy _ _ (by omega)) a11
end CORE
