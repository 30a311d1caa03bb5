/-! ### nodes go and come -/
section NODES
variable {N E T P R : Nat} {x y : St}
def lvX (x : St) (k T : Nat) : St := ui (ui (ui x 3 k (n32 T)) 6 k (n32 T)) 1 10 (gi x 1 10 &&& (bit1 k ^^^ -n32 1))
def lvY (y : St) (k T : Nat) : St := ui (ui y 5 k (n32 T)) 6 k (n32 T)
theorem c_leave (k : Nat) (hk : k < 24) : fX6_leave x (n32 k) (n32 T) = some (lvX x k T) := by
  unfold fX6_leave fX7_endN lvX
  simp (disch := omega) only [eq_self, n_le, n_lt, n_inj, n_nat, gd_in, n_add, bi_z, bi_1, gd_bi, n_nonneg,  some_bind, lt_e, lit_NV, if_true, if_false, ite_true, ite_false, Option.bind_some, not_true, not_false_iff, lit_0, lit_1, lit_2, lit_3, lit_4, lit_5, lit_6, lit_7, lit_8, lit_12, lit_24, lit_25, lit_30, lit_60, lit_63, lit_96, lit_100, lit_512, lit_240, gi_no, c_bit]
theorem n_NV {T : Nat} (hT : T ≤ 512) : ¬ n32 T = NV := by
  show ¬ n32 T = n32 2147483647
  rw [n_inj (by omega) (by omega)]
  omega
theorem lv_lvX {k : Nat} (hT : T ≤ 512) (j : Nat) : lv (lvX x k T) j = (lv x j && !decide (j = k)) := by
  unfold lv lvX
  by_cases e : j = k
  · simp (disch := omega) only [gi_no, gi_yes, n_NV hT]
    simp [e]
  · simp (disch := omega) only [gi_no]
    simp [e]
theorem Cor_leave {k : Nat} (h : Cor N E T P R x y) (hk : k < N) : Cor N E T P R (lvX x k T) (lvY y k T) := by
  obtain ⟨a1, a2, a3, a4, a5, a6, a7, a8, a9, a10, a11⟩ := h
  have hN := a1.1
  have hx : ∀ a' j, a' ≠ 3 ∧ a' ≠ 6 ∧ ¬ (a' = 1 ∧ j = 10) → gi (lvX x k T) a' j = gi x a' j := fun a' j h => by
    unfold lvX
    simp (disch := omega) only [gi_no]
  have hy : ∀ a' j, a' ≠ 5 ∧ a' ≠ 6 → gi (lvY y k T) a' j = gi y a' j := fun a' j h => by
    unfold lvY
    simp (disch := omega) only [gi_no]
  have hl9 : ∀ a' j, gl (lvX x k T) a' j = gl x a' j := fun _ _ => rfl
  refine ⟨?_, ?_, ?_, ?_, ?_, ?_, fun u hu => ?_, ?_, ?_, ?_, ?_⟩
  · obtain ⟨g1, g2, g3, g4, g5, g6, g7, g8⟩ := a1
    refine ⟨g1, ?_, ?_, fun j => ?_, fun j => ?_, fun j => ?_, fun j => ?_, fun j => ?_⟩
    · rw [hx _ _ (by omega), g2]
    · rw [hy _ _ (by omega), g3]
    · rw [hx _ _ (by omega), hy _ _ (by omega), g4]
    · rw [hx _ _ (by omega), hy _ _ (by omega), g5]
    · rw [hx _ _ (by omega), hy _ _ (by omega), g6]
    · unfold lvX lvY
      by_cases z1 : j = k
      · simp (disch := omega) only [gi_yes, gi_no]
      · simp (disch := omega) only [gi_no, g7]
    · unfold lvX lvY
      by_cases z1 : j = k
      · simp (disch := omega) only [gi_yes, gi_no]
      · simp (disch := omega) only [gi_no, g8]
  · exact RE_fr (fun a k q => hx _ _ (by omega)) (fun a k q => hy _ _ (by omega)) (by omega) a2
  · exact RT_fr (hx _ _ (by omega)) (hy _ _ (by omega)) a3
  · exact RM_fr (fun a k q => hx _ _ (by omega)) (fun a k q => hy _ _ (by omega)) a4
  · exact RW_fr (fun a k q => hx _ _ (by omega)) (fun a k q => hy _ _ (by omega)) a5
  · exact RG_fr (fun a k q => hx _ _ (by omega)) (fun a k q => hy _ _ (by omega)) a6
  · exact RX_fr hu (fun a k q => hx _ _ (by omega)) (fun a k q => hl9 _ _) (fun a k q => hy _ _ (by omega)) (by omega) (by omega) (a7 u hu)
  · exact RK_fr (fun a k q => hx _ _ (by omega)) (fun a k q => hy _ _ (by omega)) a8
  · have e10 : gi (lvX x k T) 1 10 = gi x 1 10 &&& (bit1 k ^^^ -n32 1) := by
      unfold lvX
      rw [gi_ui_eq]
    unfold RS
    rw [e10]
    refine hs_ext fun i hi => ?_
    rw [hs_and, show hs (bit1 k ^^^ -n32 1) i = !hs (bit1 k) i from hs_not _ hi, hs_bit1 k (by omega) i hi, RS_hs a9 hN, hs_gb hi (by omega), lv_lvX a3.1]
    cases decide (i < N) <;> cases lv x i <;> cases decide (i = k) <;> rfl
  · exact RR_fr (fun a k q => hx _ _ (by omega)) (fun a k q => hy _ _ (by omega)) a10
  · exact RP_fr (fun a k q => hx _ _ (by omega)) (fun a k q => hy _ _ (by omega)) a11
theorem RQ_less {x x' : St} (h : RQ N x) (h4 : ∀ k, gi x' 4 k = gi x 4 k) (h5 : ∀ k, gi x' 5 k = gi x 5 k) (h17 : ∀ k, gi x' 17 k = gi x 17 k) (hlv : ∀ k, lv x' k = true → lv x k = true) : RQ N x' := by
  obtain ⟨z1, z2⟩ := h
  refine ⟨fun k hk => by rw [h4]; exact z1 k hk, fun l a b hl hab hb hk ha hb4 hla hlb => ?_⟩
  rw [h17] at hk
  rw [h4] at ha hb4
  rw [h5, h5]
  exact z2 l a b hl hab hb hk ha hb4 (hlv a hla) (hlv b hlb)
/-- a node comes -/
def ndX (x : St) (N : Nat) (l v : Int32) (T P m : Nat) : St := ui (ui (ui (ptX (ui (ui (ui (ui (ui x 1 2 (n32 (N + 1))) 2 N (n32 T)) 3 N NV) 4 N l) 1 10 (gi x 1 10 ||| bit1 N)) N v T P) 21 N (n32 m)) 54 N (n32 N)) 53 3 (gi x 53 3 ||| bit1 N)
def ndY (y : St) (N : Nat) (l v : Int32) (T P m : Nat) : St := ptY (ui (ui (ui (ui (ui (ui (ui y 1 N l) 3 N (n32 m)) 4 N (n32 T)) 5 N NV) 7 N (n32 N)) 8 N (n32 1)) 0 1 (n32 (N + 1))) N v T P
theorem Cor_node {l m : Nat} {v : Int32} (h : Cor N E T P R x y) (hN24 : N < 24) (hP : P < 512) (hm : m < 3) : Cor (N + 1) E T (P + 1) R (ndX x N (n32 l) v T P m) (ndY y N (n32 l) v T P m) := by
  obtain ⟨a1, a2, a3, a4, a5, a6, a7, a8, a9, a10, a11⟩ := h
  have hx : ∀ a' j, ¬ (a' = 1 ∧ (j = 2 ∨ j = 9 ∨ j = 10)) ∧ (a' < 2 ∨ 9 < a') ∧ a' ≠ 21 ∧ a' ≠ 54 ∧ ¬ (a' = 53 ∧ j = 3) → gi (ndX x N (n32 l) v T P m) a' j = gi x a' j := fun a' j h => by
    unfold ndX ptX
    simp (disch := omega) only [gi_no]
  have hy : ∀ a' j, (a' < 1 ∨ 8 < a') ∧ (a' < 10 ∨ 12 < a') ∧ ¬ (a' = 0 ∧ (j = 1 ∨ j = 11)) → gi (ndY y N (n32 l) v T P m) a' j = gi y a' j := fun a' j h => by
    unfold ndY ptY
    simp (disch := omega) only [gi_no]
  have hl9 : ∀ a' j, gl (ndX x N (n32 l) v T P m) a' j = gl x a' j := fun _ _ => rfl
  have hn : ∀ k, k = N ∨ k ≠ N := fun k => by omega
  refine ⟨?_, ?_, ?_, ?_, ?_, ?_, fun u hu => ?_, ?_, ?_, ?_, ?_⟩
  · obtain ⟨g1, g2, g3, g4, g5, g6, g7, g8⟩ := a1
    refine ⟨by omega, ?_, ?_, fun k => ?_, fun k => ?_, fun k => ?_, fun k => ?_, fun k => ?_⟩
    · unfold ndX ptX
      simp (disch := omega) only [gi_no, gi_yes]
    · unfold ndY ptY
      simp (disch := omega) only [gi_no, gi_yes]
    · unfold ndX ptX ndY ptY
      rcases hn k with z | z <;> simp (disch := omega) only [gi_yes, gi_no, g4]
    · unfold ndX ptX ndY ptY
      rcases hn k with z | z <;> simp (disch := omega) only [gi_yes, gi_no, g5]
    · unfold ndX ptX ndY ptY
      rcases hn k with z | z <;> simp (disch := omega) only [gi_yes, gi_no, g6]
    · unfold ndX ptX ndY ptY
      rcases hn k with z | z <;> simp (disch := omega) only [gi_yes, gi_no, g7]
    · unfold ndX ptX ndY ptY
      rcases hn k with z | z <;> simp (disch := omega) only [gi_yes, gi_no, g8]
  · exact RE_fr (fun a k q => hx _ _ (by omega)) (fun a k q => hy _ _ (by omega)) (by omega) a2
  · exact RT_fr (hx _ _ (by omega)) (hy _ _ (by omega)) a3
  · obtain ⟨g1, g2, g3⟩ := a4
    refine ⟨fun k => ?_, fun k hk => ?_, fun k hk => ?_⟩
    · unfold ndX ptX ndY ptY
      rcases hn k with z | z <;> simp (disch := omega) only [gi_yes, gi_no, g1]
    · rcases hn k with z | z
      · refine ⟨m, hm, ?_⟩
        unfold ndX ptX
        simp (disch := omega) only [gi_yes, gi_no]
      · obtain ⟨m', q1, q2⟩ := g2 k (by omega)
        refine ⟨m', q1, ?_⟩
        rw [← q2]
        unfold ndX ptX
        simp (disch := omega) only [gi_no]
    · rw [hx _ _ (by omega), hy _ _ (by omega)]
      exact g3 k hk
  · exact RW_fr (fun a k q => hx _ _ (by omega)) (fun a k q => hy _ _ (by omega)) a5
  · obtain ⟨g1, g2, g3, g4, g5, g6, g7⟩ := a6
    have hp : ∀ k, k = P ∨ k ≠ P := fun k => by omega
    refine ⟨by omega, ?_, ?_, fun i => ?_, fun i => ?_, fun i => ?_, fun j hj => ?_⟩
    · unfold ndX ptX
      simp (disch := omega) only [gi_no, gi_yes]
    · unfold ndY ptY
      simp (disch := omega) only [gi_no, gi_yes]
    · unfold ndX ptX ndY ptY
      rcases hp i with z | z <;> simp (disch := omega) only [gi_yes, gi_no, g4]
    · unfold ndX ptX ndY ptY
      rcases hp i with z | z <;> simp (disch := omega) only [gi_yes, gi_no, g5]
    · unfold ndX ptX ndY ptY
      rcases hp i with z | z <;> simp (disch := omega) only [gi_yes, gi_no, g6]
    · rcases hn j with z | z
      · refine ⟨P, by omega, ?_, ?_⟩
        · unfold ndX ptX
          simp (disch := omega) only [gi_no, gi_yes]
          rw [z]
        · unfold ndX ptX
          simp (disch := omega) only [gi_no, gi_yes]
          rw [Int32.lt_iff_toInt_lt]
          omega
      · obtain ⟨i, q1, q2, q3⟩ := g7 j (by omega)
        refine ⟨i, by omega, ?_, ?_⟩
        · rw [← q2]
          unfold ndX ptX
          simp (disch := omega) only [gi_no]
        · unfold ndX ptX
          simp (disch := omega) only [gi_no]
          exact q3
  · exact RX_fr hu (fun a k q => hx _ _ (by omega)) (fun a k q => hl9 _ _) (fun a k q => hy _ _ (by omega)) (by omega) (by omega) (a7 u hu)
  · obtain ⟨g1, g2⟩ := a8
    have e53 : gi (ndX x N (n32 l) v T P m) 53 3 = gi x 53 3 ||| bit1 N := by
      unfold ndX
      rw [gi_ui_eq]
    have hb1 : ∀ k, k < 32 → hs (gi (ndX x N (n32 l) v T P m) 53 3) k = (hs (gi x 53 3) k || decide (k = N)) := fun k hk => by
      rw [e53, hs_or, hs_bit1 N (by omega) k hk]
    refine ⟨fun k hk => ⟨?_, ?_⟩, fun k hk => ?_⟩
    · unfold ndX ptX ndY ptY
      rcases hn k with z | z
      · simp (disch := omega) only [gi_yes, gi_no]
      · simp (disch := omega) only [gi_no, (g1 k (by omega)).1]
    · rw [hb1 k (by omega)]
      unfold ndY ptY
      rcases hn k with z | z
      · simp (disch := omega) only [gi_yes, gi_no]
        simp [z, bi]
      · simp (disch := omega) only [gi_no, (g1 k (by omega)).2]
        simp [z]
    · by_cases h32 : k < 32
      · rw [hb1 k h32, g2 k (by omega)]
        simp only [Bool.false_or, decide_eq_false_iff_not]
        omega
      · exact hs_big (by omega)
  · have e10 : gi (ndX x N (n32 l) v T P m) 1 10 = gi x 1 10 ||| bit1 N := by
      unfold ndX ptX
      simp (disch := omega) only [gi_no, gi_yes]
    have e3 : ∀ k, gi (ndX x N (n32 l) v T P m) 3 k = if k = N then NV else gi x 3 k := fun k => by
      unfold ndX ptX
      rcases hn k with z | z
      · rw [if_pos z]
        simp (disch := omega) only [gi_no, gi_yes]
      · rw [if_neg z]
        simp (disch := omega) only [gi_no]
    unfold RS at a9 ⊢
    rw [e10, a9, gat_succ, show lv (ndX x N (n32 l) v T P m) N = true by unfold lv; rw [e3, if_pos rfl]; rfl, if_pos rfl]
    congr 1
    exact (gat_cg (fun k hk => by unfold lv; rw [e3, if_neg (by omega)]) (fun k hk _ => rfl)).symm
  · exact RR_fr (fun a k q => hx _ _ (by omega)) (fun a k q => hy _ _ (by omega)) a10
  · exact RP_fr (fun a k q => hx _ _ (by omega)) (fun a k q => hy _ _ (by omega)) a11
end NODES
theorem owes_4 : owes fLaw_c4 := fun c x y v p1 p2 p3 p4 h hc => by
  obtain ⟨N, E, T, P, R, hC, hT, hF, hQ, hB⟩ := Cor_of h
  obtain ⟨h2, h3, h4, h5, h6, h7, h8, h9, h10, h11, h13⟩ := id hC
  have hN := h2.1
  have hE := h3.1
  refine law_I (Q := fun x' y' => Rel (c + 1) x' y') ?_
  unfold fL_dropNode fX10_dropNode fX10_startAnew fX11_dropNode fX11_dropNode_j14
  rw [c_reqNode h2.2.1 hN, r_isNode h2]
  cases w1 : nd N x p1
  · exact ⟨1, x, v, 0, th y 1, rfl, rfl, rfl, fun h => absurd h (by decide), Rel_th h hc 1⟩
  obtain ⟨k, hk, rfl, -⟩ := nd_ex hN w1
  have hC1 := Cor_tick (Cor_th (n32 0) hC) (by omega)
  obtain ⟨X, Y, e1, e2, x2, y2, m, rfl, rfl, hC2, hx2, hy2⟩ := loop2 (sc := fX10_dropNode_l19 (ui x 0 11 (n32 (T + 1))) (n32 k)) (sr := fX11_dropNode_l36 (ui (th y (n32 0)) 0 0 (n32 (T + 1))) (n32 k)) (x0 := (ui x 0 11 (n32 (T + 1)), n32 0, n32 0)) (y0 := (ui (th y (n32 0)) 0 0 (n32 (T + 1)), n32 0, n32 0))
    (fun e X Y => ∃ x2 y2 m, X = (x2, n32 m, n32 e) ∧ Y = (y2, n32 m, n32 e) ∧ Cor N E (T + 1) P R x2 y2 ∧ (∀ a j, a ≠ 6 ∧ a ≠ 12 → gi x2 a j = gi (ui x 0 11 (n32 (T + 1))) a j) ∧ (∀ a j, a ≠ 6 ∧ a ≠ 17 → gi y2 a j = gi (ui (th y (n32 0)) 0 0 (n32 (T + 1))) a j))
    ⟨_, _, 0, rfl, rfl, hC1, fun _ _ _ => rfl, fun _ _ _ => rfl⟩ E (fun e X Y he hXY => by
      obtain ⟨x2, y2, m, rfl, rfl, hC2, hx2, hy2⟩ := hXY
      have g3 := hC2.2.1
      obtain ⟨q1, q2, q3, q4, q5, q6⟩ := RE_at g3 hN he
      obtain ⟨-, -, gc, gf, gt, -⟩ := id g3
      have hgo : ∀ b : Bool, (le x2 e && (decide (fr x2 e = k) || decide (tt x2 e = k))) = b → fX10_dropNode_l19 (ui x 0 11 (n32 (T + 1))) (n32 k) (x2, n32 m, n32 e) = (if b then some (.inl (enX x2 (fr x2 e) (tt x2 e) e (T + 1), n32 (m + 1), n32 (e + 1))) else some (.inl (x2, n32 m, n32 (e + 1)))) ∧ fX11_dropNode_l36 (ui (th y (n32 0)) 0 0 (n32 (T + 1))) (n32 k) (y2, n32 m, n32 e) = (if b then some (.inl (enY y2 (fr x2 e) (tt x2 e) e (T + 1), n32 (m + 1), n32 (e + 1))) else some (.inl (y2, n32 m, n32 (e + 1)))) := fun b hb => by
        subst hb
        unfold fX10_dropNode_l19 fX10_dropNode_j67 fX10_dropNode_j75 fX11_dropNode_l36 fX11_dropNode_j72 fX11_dropNode_j80
        simp (disch := omega) only [eq_self, n_le, n_lt, n_inj, n_nat, gd_in, n_add, bi_z, bi_1, gd_bi, n_nonneg,  some_bind, lt_e, lit_NV, if_true, if_false, ite_true, ite_false, Option.bind_some, not_true, not_false_iff, lit_0, lit_1, lit_2, lit_3, lit_4, lit_5, lit_6, lit_7, lit_8, lit_12, lit_24, lit_25, lit_30, lit_60, lit_63, lit_96, lit_100, lit_512, lit_240, g3.2.1, gc, Nat.not_le.mpr he, c_isThereE g3.2.1 hE, r_isEdge g3, ed_n hE he, gf, gt, q1, q2, c_end hC2 he, r_drops hC2 he]
        cases le x2 e <;> by_cases z1 : fr x2 e = k <;> by_cases z2 : tt x2 e = k <;> simp [z1, z2]
      cases hb : le x2 e && (decide (fr x2 e = k) || decide (tt x2 e = k))
      · obtain ⟨s1, s2⟩ := hgo _ hb
        exact ⟨_, _, s1, s2, x2, y2, m, rfl, rfl, hC2, hx2, hy2⟩
      · obtain ⟨s1, s2⟩ := hgo _ hb
        refine ⟨_, _, s1, s2, _, _, m + 1, rfl, rfl, Cor_end hC2 _ _ _, fun a j hq => ?_, fun a j hq => ?_⟩
        · rw [← hx2 a j hq]
          unfold enX
          simp (disch := omega) only [gi_no]
        · rw [← hy2 a j hq]
          unfold enY
          simp (disch := omega) only [gi_no])
  have e1 := e1 (x2, n32 m, n32 E) (loopF_end (by
    unfold fX10_dropNode_l19
    simp (disch := omega) only [eq_self, n_le, n_lt, n_inj, n_nat, gd_in, n_add, bi_z, bi_1, gd_bi, n_nonneg,  some_bind, lt_e, lit_NV, if_true, if_false, ite_true, ite_false, Option.bind_some, not_true, not_false_iff, lit_0, lit_1, lit_2, lit_3, lit_4, lit_5, lit_6, lit_7, lit_8, lit_12, lit_24, lit_25, lit_30, lit_60, lit_63, lit_96, lit_100, lit_512, lit_240, hC2.2.1.2.1, Nat.le_refl]))
  have e2 := e2 (y2, n32 m, n32 E) (loopF_end (by
    unfold fX11_dropNode_l36
    simp (disch := omega) only [eq_self, n_le, n_lt, n_inj, n_nat, gd_in, n_add, bi_z, bi_1, gd_bi, n_nonneg,  some_bind, lt_e, lit_NV, if_true, if_false, ite_true, ite_false, Option.bind_some, not_true, not_false_iff, lit_0, lit_1, lit_2, lit_3, lit_4, lit_5, lit_6, lit_7, lit_8, lit_12, lit_24, lit_25, lit_30, lit_60, lit_63, lit_96, lit_100, lit_512, lit_240, hC2.2.1.2.2.1, Nat.le_refl]))
  have hC3 := Cor_leave hC2 hk
  obtain ⟨x4, y4, f3, f4, hC4, hl4, hx4, hy4⟩ := Cor_wake hC3
  obtain ⟨x5, f5, hC5, hF5, hX5⟩ := Cor_infer hC4
  have hx : ∀ a' j, ((a' = 4 ∨ a' = 5 ∨ a' = 17) ∨ (54 < a')) → gi x5 a' j = gi x a' j := fun a' j hq => by
    rw [hX5.2 _ _ (by omega), hx4 _ _ (by omega)]
    unfold lvX
    simp (disch := omega) only [gi_no]
    rw [hx2 _ _ (by omega), gi_no (by omega)]
  have h50 : gi y4 0 50 = 0 := by
    rw [hy4 _ _ (by omega)]
    unfold lvY
    simp (disch := omega) only [gi_no]
    rw [hy2 _ _ (by omega)]
    simp (disch := omega) only [gi_no]
    rfl
  refine ⟨0, x5, (n32 m).toInt64, n32 m, y4, ?_, ?_, h50, fun _ => rfl, Rel_of hC5 (by omega) (by omega) hF5 ?_ ?_⟩
  · simp (disch := omega) only [eq_self, n_le, n_lt, n_inj, n_nat, gd_in, n_add, bi_z, bi_1, gd_bi, n_nonneg,  some_bind, lt_e, lit_NV, if_true, if_false, ite_true, ite_false, Option.bind_some, not_true, not_false_iff, lit_0, lit_1, lit_2, lit_3, lit_4, lit_5, lit_6, lit_7, lit_8, lit_12, lit_24, lit_25, lit_30, lit_60, lit_63, lit_96, lit_100, lit_512, lit_240, Bool.true_eq_false, Sum.elim_inl, h4.2.1, e1, hC2.2.2.1.2.1, c_leave k (show k < 24 by omega), f3, f5]
  · have f4' : fX11_wakes (ui (ui y2 5 k (n32 (T + 1))) 6 k (n32 (T + 1))) = some y4 := f4
    simp (disch := omega) only [eq_self, n_le, n_lt, n_inj, n_nat, gd_in, n_add, bi_z, bi_1, gd_bi, n_nonneg,  some_bind, lt_e, lit_NV, if_true, if_false, ite_true, ite_false, Option.bind_some, not_true, not_false_iff, lit_0, lit_1, lit_2, lit_3, lit_4, lit_5, lit_6, lit_7, lit_8, lit_12, lit_24, lit_25, lit_30, lit_60, lit_63, lit_96, lit_100, lit_512, lit_240, Bool.true_eq_false, r_fails0, th_ne, h4.2.2, e2, hC2.2.2.1.2.2, gi_no, f4']
  · refine RQ_less hQ (fun j => hx _ _ (by omega)) (fun j => hx _ _ (by omega)) (fun j => hx _ _ (by omega)) fun j hj => ?_
    have z1 : lv x5 j = lv (lvX x2 k (T + 1)) j := by
      unfold lv
      rw [hX5.2 _ _ (by omega), hx4 _ _ (by omega)]
    rw [z1, lv_lvX hC2.2.2.1.1] at hj
    simp only [Bool.and_eq_true] at hj
    have z2 : lv x2 j = lv x j := by
      unfold lv
      rw [hx2 _ _ (by omega), gi_no (by omega)]
    rw [← z2]
    exact hj.1
  · exact RC9_up (RC9_fr (fun a k q => hx _ _ (by omega)) hB)
theorem owes_0 : owes fLaw_c0 := fun c x y v p1 p2 p3 p4 h hc => by
  obtain ⟨N, E, T, P, R, hC, hT, hF, hQ, hB⟩ := Cor_of h
  obtain ⟨h2, h3, h4, h5, h6, h7, h8, h9, h10, h11, h13⟩ := id hC
  have hN := h2.1
  refine law_I (Q := fun x' y' => Rel (c + 1) x' y') ?_
  unfold fL_node fX10_node fX11_node fX11_node_j38 fX11_node_j39 fX11_node_j61
  rw [c_reqLabel, r_isLabel]
  cases w1 : bw 4 p1
  · exact ⟨1, x, v, 0, th y 1, rfl, rfl, rfl, fun h => absurd h (by decide), Rel_th h hc 1⟩
  obtain ⟨l, hl, rfl⟩ := bw_ex (by decide) w1
  by_cases hN24 : N = 24
  · refine ⟨2, x, v, 0, th y 2, ?_, ?_, rfl, fun h => absurd h (by decide), Rel_th h hc 2⟩
    · simp (disch := omega) only [eq_self, n_le, n_lt, n_inj, n_nat, gd_in, n_add, bi_z, bi_1, gd_bi, n_nonneg,  some_bind, lt_e, lit_NV, if_true, if_false, ite_true, ite_false, Option.bind_some, not_true, not_false_iff, lit_0, lit_1, lit_2, lit_3, lit_4, lit_5, lit_6, lit_7, lit_8, lit_12, lit_24, lit_25, lit_30, lit_60, lit_63, lit_96, lit_100, lit_512, lit_240, Sum.elim_inl, h2.2.1, show ¬ N < 24 by omega, Sum.elim_inr]
      rfl
    · simp (disch := omega) only [eq_self, n_le, n_lt, n_inj, n_nat, gd_in, n_add, bi_z, bi_1, gd_bi, n_nonneg,  some_bind, lt_e, lit_NV, if_true, if_false, ite_true, ite_false, Option.bind_some, not_true, not_false_iff, lit_0, lit_1, lit_2, lit_3, lit_4, lit_5, lit_6, lit_7, lit_8, lit_12, lit_24, lit_25, lit_30, lit_60, lit_63, lit_96, lit_100, lit_512, lit_240, Bool.true_eq_false, h2.2.2.1, show 24 ≤ N by omega, r_fails2, Nat.one_ne_zero]
  · have s1 := c_emptiest h2 h5
    have s2 := r_emptiest h2 h5
    have s3 := r_emptiest (RN_th (c := n32 0) h2) (RM_th (c := n32 0) h5)
    cases he : emp N x with
    | none =>
      rw [he] at s1 s2
      have s1 : fX3_emptiest x = some (-n32 1) := s1
      have s2 : fX11_emptiest y = some (-n32 1) := s2
      refine ⟨2, x, v, 0, th y 2, ?_, ?_, rfl, fun h => absurd h (by decide), Rel_th h hc 2⟩
      · simp (disch := omega) only [eq_self, n_le, n_lt, n_inj, n_nat, gd_in, n_add, bi_z, bi_1, gd_bi, n_nonneg,  some_bind, lt_e, lit_NV, if_true, if_false, ite_true, ite_false, Option.bind_some, not_true, not_false_iff, lit_0, lit_1, lit_2, lit_3, lit_4, lit_5, lit_6, lit_7, lit_8, lit_12, lit_24, lit_25, lit_30, lit_60, lit_63, lit_96, lit_100, lit_512, lit_240, Sum.elim_inl, h2.2.1, show N < 24 by omega, s1, Sum.elim_inr]
        rfl
      · simp (disch := omega) only [eq_self, n_le, n_lt, n_inj, n_nat, gd_in, n_add, bi_z, bi_1, gd_bi, n_nonneg,  some_bind, lt_e, lit_NV, if_true, if_false, ite_true, ite_false, Option.bind_some, not_true, not_false_iff, lit_0, lit_1, lit_2, lit_3, lit_4, lit_5, lit_6, lit_7, lit_8, lit_12, lit_24, lit_25, lit_30, lit_60, lit_63, lit_96, lit_100, lit_512, lit_240, Bool.true_eq_false, h2.2.2.1, show ¬ 24 ≤ N by omega, s2, r_fails2, Nat.one_ne_zero]
    | some m =>
      rw [he] at s1 s2 s3
      have s1 : fX3_emptiest x = some (n32 m) := s1
      have s2 : fX11_emptiest y = some (n32 m) := s2
      have s3 : fX11_emptiest (th y (n32 0)) = some (n32 m) := s3
      have hm : m < 3 := (emp_lt 3 m he).1
      have hm1 : ¬ n32 m = -n32 1 := n_ne_m1 (by omega)
      have e1 := c_isTaken h2 h6 hl p2 (-n32 1)
      have e2 := r_breaksKey h2 h6 hl p2 (-n32 1)
      cases ht : ky x l && tkn N x (n32 l) p2 (-n32 1)
      · rw [ht] at e1 e2
        have hP : P < 512 := by
          have := RC9_le hB
          omega
        have hC1 := Cor_tick (Cor_th (n32 0) hC) (by omega)
        have hC2 := Cor_node (l := l) (v := p2) hC1 (by omega) hP hm
        have g1 : gi x 1 9 = n32 P := h7.2.1
        have g2 : gi y 0 11 = n32 P := h7.2.2.1
        have hx : ∀ a' j, ¬ (a' = 1 ∧ (j = 2 ∨ j = 9 ∨ j = 10)) ∧ (a' < 2 ∨ 9 < a') ∧ a' ≠ 21 ∧ a' ≠ 54 ∧ ¬ (a' = 53 ∧ j = 3) ∧ ¬ (a' = 0 ∧ j = 11) → gi (ndX (ui x 0 11 (n32 (T + 1))) N (n32 l) p2 (T + 1) P m) a' j = gi x a' j := fun a' j h => by
          unfold ndX ptX
          simp (disch := omega) only [gi_no]
        have k1 : ∀ z : St, gi z 1 9 = n32 P → fX6_put z (n32 N) p2 (n32 (T + 1)) = some (ptX z N p2 (T + 1) P) := fun z hz => c_put hz hP (by omega)
        have k2 : ∀ z : St, gi z 0 11 = n32 P → gi z 0 0 = n32 (T + 1) → fX11_notes z (n32 N) p2 = some (ptY z N p2 (T + 1) P) := fun z hz h0 => r_notes hz hP (by omega) h0
        refine ⟨0, ndX (ui x 0 11 (n32 (T + 1))) N (n32 l) p2 (T + 1) P m, (n32 N).toInt64, n32 N, ndY (ui (th y (n32 0)) 0 0 (n32 (T + 1))) N (n32 l) p2 (T + 1) P m, ?_, ?_, ?_, fun _ => rfl, Rel_of hC2 (by omega) (by omega) ?_ ?_ ?_⟩
        · unfold fX6_add fX7_comeN fX4_comeTo ndX
          simp (disch := omega) only [eq_self, n_le, n_lt, n_inj, n_nat, gd_in, n_add, bi_z, bi_1, gd_bi, n_nonneg,  some_bind, lt_e, lit_NV, if_true, if_false, ite_true, ite_false, Option.bind_some, not_true, not_false_iff, lit_0, lit_1, lit_2, lit_3, lit_4, lit_5, lit_6, lit_7, lit_8, lit_12, lit_24, lit_25, lit_30, lit_60, lit_63, lit_96, lit_100, lit_512, lit_240, Sum.elim_inl, h2.2.1, show N < 24 by omega, s1, hm1, e1, h4.2.1, gi_no, gi_yes, c_bit]
          rw [k1 _ (by simp (disch := omega) only [gi_no, g1])]
          simp (disch := omega) only [eq_self, n_le, n_lt, n_inj, n_nat, gd_in, n_add, bi_z, bi_1, gd_bi, n_nonneg,  some_bind, lt_e, lit_NV, if_true, if_false, ite_true, ite_false, Option.bind_some, not_true, not_false_iff, lit_0, lit_1, lit_2, lit_3, lit_4, lit_5, lit_6, lit_7, lit_8, lit_12, lit_24, lit_25, lit_30, lit_60, lit_63, lit_96, lit_100, lit_512, lit_240, c_bit, gi_no, ptX_o, Sum.elim_inl]
        · unfold ndY
          simp (disch := omega) only [eq_self, n_le, n_lt, n_inj, n_nat, gd_in, n_add, bi_z, bi_1, gd_bi, n_nonneg,  some_bind, lt_e, lit_NV, if_true, if_false, ite_true, ite_false, Option.bind_some, not_true, not_false_iff, lit_0, lit_1, lit_2, lit_3, lit_4, lit_5, lit_6, lit_7, lit_8, lit_12, lit_24, lit_25, lit_30, lit_60, lit_63, lit_96, lit_100, lit_512, lit_240, Bool.true_eq_false, h2.2.2.1, show ¬ 24 ≤ N by omega, s2, s3, hm1, e2, r_isLabel, w1, r_fails0, Nat.one_ne_zero, th_ne, h4.2.2, gi_no, gi_yes]
          rw [k2 _ (by simp (disch := omega) only [gi_no, th_ne, g2]) (by simp (disch := omega) only [gi_no, gi_yes])]
          rfl
        · unfold ndY
          rw [ptY_o (by omega)]
          simp (disch := omega) only [gi_no]
          rfl
        · exact RF_fr (fun a j q => hx _ _ (by omega)) hF
        · obtain ⟨z1, z2⟩ := hQ
          have hn : ∀ k, k = N ∨ k ≠ N := fun k => by omega
          have h3e : ∀ k, k ≠ N → lv (ndX (ui x 0 11 (n32 (T + 1))) N (n32 l) p2 (T + 1) P m) k = lv x k := fun k z => by
            unfold lv ndX ptX
            simp (disch := omega) only [gi_no]
          have h4e : ∀ k, gi (ndX (ui x 0 11 (n32 (T + 1))) N (n32 l) p2 (T + 1) P m) 4 k = if k = N then n32 l else gi x 4 k := fun k => by
            unfold ndX ptX
            rcases hn k with z | z
            · rw [if_pos z]
              simp (disch := omega) only [gi_no, gi_yes]
            · rw [if_neg z]
              simp (disch := omega) only [gi_no]
          have h5e : ∀ k, gi (ndX (ui x 0 11 (n32 (T + 1))) N (n32 l) p2 (T + 1) P m) 5 k = if k = N then p2 else gi x 5 k := fun k => by
            unfold ndX ptX
            rcases hn k with z | z
            · rw [if_pos z]
              simp (disch := omega) only [gi_no, gi_yes]
            · rw [if_neg z]
              simp (disch := omega) only [gi_no]
          refine ⟨fun k hk => ?_, fun l' a b hl' hab hb hk17 ha4 hb4 hla hlb => ?_⟩
          · rw [h4e]
            rcases hn k with z | z
            · rw [if_pos z]
              exact ⟨l, hl, rfl⟩
            · rw [if_neg z]
              exact z1 k (by omega)
          · rw [hx _ _ (by omega)] at hk17
            rw [h4e, if_neg (by omega)] at ha4
            rw [h3e _ (by omega)] at hla
            rw [h5e, h5e, if_neg (show ¬ a = N by omega)]
            rw [h4e] at hb4
            rcases hn b with z | z
            · rw [if_pos z] at hb4 ⊢
              rw [n_inj (by omega) (by omega)] at hb4
              subst hb4
              intro q5
              rw [show ky x l = true from decide_eq_true hk17, Bool.true_and] at ht
              have := any_no ht (show a < N by omega)
              unfold tkk at this
              have hn1 : ¬ n32 a = -n32 1 := n_ne_m1 (by omega)
              rw [hla, ha4, q5] at this
              simp [hn1] at this
            · rw [if_neg z] at hb4 ⊢
              rw [h3e _ z] at hlb
              exact z2 l' a b hl' hab (by omega) hk17 ha4 hb4 hla hlb
        · exact RC9_put (RC9_fr (fun a j q => hx _ _ (by omega)) hB)
      · rw [ht] at e1 e2
        refine ⟨2, x, v, 0, th y 2, ?_, ?_, rfl, fun h => absurd h (by decide), Rel_th h hc 2⟩
        · simp (disch := omega) only [eq_self, n_le, n_lt, n_inj, n_nat, gd_in, n_add, bi_z, bi_1, gd_bi, n_nonneg,  some_bind, lt_e, lit_NV, if_true, if_false, ite_true, ite_false, Option.bind_some, not_true, not_false_iff, lit_0, lit_1, lit_2, lit_3, lit_4, lit_5, lit_6, lit_7, lit_8, lit_12, lit_24, lit_25, lit_30, lit_60, lit_63, lit_96, lit_100, lit_512, lit_240, Sum.elim_inl, h2.2.1, show N < 24 by omega, s1, hm1, e1, Bool.true_eq_false, Sum.elim_inr]
          rfl
        · simp (disch := omega) only [eq_self, n_le, n_lt, n_inj, n_nat, gd_in, n_add, bi_z, bi_1, gd_bi, n_nonneg,  some_bind, lt_e, lit_NV, if_true, if_false, ite_true, ite_false, Option.bind_some, not_true, not_false_iff, lit_0, lit_1, lit_2, lit_3, lit_4, lit_5, lit_6, lit_7, lit_8, lit_12, lit_24, lit_25, lit_30, lit_60, lit_63, lit_96, lit_100, lit_512, lit_240, Bool.true_eq_false, h2.2.2.1, show ¬ 24 ≤ N by omega, s2, hm1, e2, r_isLabel, w1, r_fails2, Nat.one_ne_zero]
