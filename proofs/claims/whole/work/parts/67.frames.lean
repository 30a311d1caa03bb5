/-! the frame of each group of the relation by itself: what its cells are -/
theorem gi_no {x : St} {a k : Nat} {v : Int32} {b j : Nat} (h : ¬ (b = a ∧ j = k)) : gi (ui x a k v) b j = gi x b j := by rw [gi_ui, if_neg h]
theorem gi_yes {x : St} {a k : Nat} {v : Int32} {b j : Nat} (h : b = a ∧ j = k) : gi (ui x a k v) b j = v := by rw [gi_ui, if_pos h]
theorem gl_no {x : St} {a k : Nat} {v : Int32} {b j : Nat} : gl (ui x a k v) b j = gl x b j := rfl
section FR
variable {x x' y y' : St} {N E T P R : Nat}
theorem RN_fr (hx : ∀ a k, (a = 1 ∧ k = 2) ∨ (2 ≤ a ∧ a ≤ 6) → gi x' a k = gi x a k) (hy : ∀ a k, (a = 0 ∧ k = 1) ∨ (1 ≤ a ∧ a ≤ 6 ∧ a ≠ 3) → gi y' a k = gi y a k) (h : RN N x y) : RN N x' y' := by
  unfold RN at *
  simpa (disch := omega) only [hx, hy] using h
theorem RE_fr {M : Nat} (hx : ∀ a k, (a = 10 ∧ k = 2) ∨ (11 ≤ a ∧ a ≤ 15) → gi x' a k = gi x a k) (hy : ∀ a k, (a = 0 ∧ k = 15) ∨ (13 ≤ a ∧ a ≤ 17) → gi y' a k = gi y a k) (hNM : N ≤ M) (h : RE N E x y) : RE M E x' y' := by
  unfold RE at *
  obtain ⟨h1, h2, h3, h4, h5, h6, h7, h8, h9⟩ := h
  refine ⟨h1, ?_, ?_, ?_, ?_, ?_, ?_, ?_, fun e he => ?_⟩
  · simpa (disch := omega) only [hx, hy] using h2
  · simpa (disch := omega) only [hx, hy] using h3
  · simpa (disch := omega) only [hx, hy] using h4
  · simpa (disch := omega) only [hx, hy] using h5
  · simpa (disch := omega) only [hx, hy] using h6
  · simpa (disch := omega) only [hx, hy] using h7
  · simpa (disch := omega) only [hx, hy] using h8
  · obtain ⟨a, b, l, q1, q2, q3, q4, q5, q6⟩ := h9 e he
    refine ⟨a, b, l, by omega, by omega, q3, ?_, ?_, ?_⟩
    · rw [hx _ _ (by omega), q4]
    · rw [hx _ _ (by omega), q5]
    · rw [hx _ _ (by omega), q6]
theorem RT_fr (hx : gi x' 0 11 = gi x 0 11) (hy : gi y' 0 0 = gi y 0 0) (h : RT T x y) : RT T x' y' := by
  unfold RT at *
  rw [hx, hy]
  exact h
theorem RM_fr (hx : ∀ a k, a = 21 ∨ a = 22 → gi x' a k = gi x a k) (hy : ∀ a k, a = 3 ∨ a = 21 → gi y' a k = gi y a k) (h : RM N x y) : RM N x' y' := by
  unfold RM at *
  simpa (disch := omega) only [hx, hy] using h
theorem RW_fr (hx : ∀ a k, 17 ≤ a ∧ a ≤ 19 → gi x' a k = gi x a k) (hy : ∀ a k, 18 ≤ a ∧ a ≤ 20 → gi y' a k = gi y a k) (h : RW x y) : RW x' y' := by
  unfold RW at *
  simpa (disch := omega) only [hx, hy] using h
theorem RG_fr (hx : ∀ a k, (a = 1 ∧ k = 9) ∨ a = 2 ∨ (7 ≤ a ∧ a ≤ 9) → gi x' a k = gi x a k) (hy : ∀ a k, (a = 0 ∧ k = 11) ∨ (10 ≤ a ∧ a ≤ 12) → gi y' a k = gi y a k) (h : RG N P x y) : RG N P x' y' := by
  unfold RG at *
  simpa (disch := omega) only [hx, hy] using h
theorem RX_fr {M F u : Nat} (hu : u < 4) (hx : ∀ a k, 57 ≤ a ∧ a < 77 → gi x' a k = gi x a k) (hl9 : ∀ a k, 57 ≤ a ∧ a < 77 → gl x' a k = gl x a k) (hy : ∀ a k, 22 ≤ a ∧ a ≤ 30 → gi y' a k = gi y a k) (hN : N ≤ M) (hE : E ≤ F) (h : RX N E x y u) : RX M F x' y' u := by
  unfold RX at *
  obtain ⟨h1, h2, ⟨L, h3, h4, h5, h6⟩, h7, h8, h9, h10, h11⟩ := h
  refine ⟨?_, ?_, ⟨L, h3, ?_, ?_, fun i hi => ?_⟩, ?_, ?_, fun k hk => ?_, ?_, fun e he => ?_⟩
  · simpa (disch := omega) only [hx, hy] using h1
  · simpa (disch := omega) only [hx, hy] using h2
  · rw [hx _ _ (by omega), h4]
  · rw [hy _ _ (by omega), h5]
  · obtain ⟨a, b, l, q1, q2, q3, q4, q5, q6⟩ := h6 i hi
    refine ⟨a, b, l, by omega, by omega, q3, ?_, ?_, ?_⟩
    · rw [hx _ _ (by omega), q4]
    · rw [hx _ _ (by omega), q5]
    · rw [hx _ _ (by omega), q6]
  · simpa (disch := omega) only [hx, hy] using h7
  · simpa (disch := omega) only [hx, hy] using h8
  · rw [hx _ _ (by omega)]
    exact h9 k (by omega)
  · simpa (disch := omega) only [hl9, hy] using h10
  · rw [hl9 _ _ (by omega)]
    exact h11 e (by omega)
theorem RK_fr (hx : ∀ a k, a = 54 ∨ (a = 53 ∧ k = 3) → gi x' a k = gi x a k) (hy : ∀ a k, a = 7 ∨ a = 8 → gi y' a k = gi y a k) (h : RK N x y) : RK N x' y' := by
  unfold RK at *
  simpa (disch := omega) only [hx, hy] using h
theorem RS_fr (hx : ∀ a k, a = 3 ∨ (a = 1 ∧ k = 10) → gi x' a k = gi x a k) (h : RS N x) : RS N x' := by
  have hlv : lv x' = lv x := lv_cg fun k => hx _ _ (by omega)
  unfold RS at *
  rw [hlv]
  simpa (disch := omega) only [hx] using h
theorem RR_fr (hx : ∀ a k, (a = 23 ∧ k = 7) ∨ (24 ≤ a ∧ a ≤ 27) → gi x' a k = gi x a k) (hy : ∀ a k, (a = 0 ∧ k = 42) ∨ (36 ≤ a ∧ a ≤ 39) → gi y' a k = gi y a k) (h : RR R x y) : RR R x' y' := by
  unfold RR at *
  simpa (disch := omega) only [hx, hy] using h
theorem RF_fr (hx : ∀ a k, (12 ≤ a ∧ a ≤ 15) ∨ (24 ≤ a ∧ a ≤ 27) ∨ (29 ≤ a ∧ a ≤ 32) ∨ (34 ≤ a ∧ a ≤ 37) → gi x' a k = gi x a k) (h : RF R E x) : RF R E x' := by
  intro l n hl hn
  rw [tol_cg (fun k => hx _ _ (by omega)) (fun k => hx _ _ (by omega)) (fun k => hx _ _ (by omega)) (fun k => hx _ _ (by omega)), kno_cg (fun k => hx _ _ (by omega)) (fun k => hx _ _ (by omega)) (fun k => hx _ _ (by omega)) (fun k => hx _ _ (by omega)) (fun k => hx _ _ (by omega)) (fun k => hx _ _ (by omega)) (fun k => hx _ _ (by omega)) (fun k => hx _ _ (by omega)), hx _ _ (by omega), hx _ _ (by omega)]
  exact h l n hl hn
theorem RPc_fr {u c h : Nat} (hu : u < 7) (hx : ∀ a k, 78 ≤ a ∧ a < 120 → gi x' a k = gi x a k) (hp : RPc x u c h) : RPc x' u c h := by
  have hs : ∀ i, stk x' u i = stk x u i := fun i => stk_cg u (fun k => hx _ _ (by omega)) i
  unfold RPc at *
  simpa (disch := omega) only [hx, hs] using hp
theorem RP_fr (hx : ∀ a k, (a = 0 ∧ k = 10) ∨ (78 ≤ a ∧ a < 120) → gi x' a k = gi x a k) (hy : ∀ a k, (a = 0 ∧ (k = 34 ∨ k = 35 ∨ k = 38)) ∨ (31 ≤ a ∧ a ≤ 35) → gi y' a k = gi y a k) (h : RP x y) : RP x' y' := by
  obtain ⟨Pc, h1, h2, h3, h4, ⟨c, q, h5, h6, h7, h8⟩, h9⟩ := h
  refine ⟨Pc, h1, ?_, ?_, fun u hu => ?_, ⟨c, q, RPc_fr (by omega) (fun a k ha => hx a k (Or.inr ha)) h5, ?_, ?_, fun i hi => ?_⟩, fun u hu hu7 => RPc_fr hu7 (fun a k ha => hx a k (Or.inr ha)) (h9 u hu hu7)⟩
  · rw [hx _ _ (by omega), h2]
  · rw [hy _ _ (by omega), h3]
  · obtain ⟨c, q1, q2, q3⟩ := h4 u hu
    refine ⟨c, RPc_fr (by omega) (fun a k ha => hx a k (Or.inr ha)) q1, ?_, fun i hi => ?_⟩
    · rw [hy _ _ (by omega), q2]
    · rw [hy _ _ (by omega), hy _ _ (by omega), hx _ _ (by omega), hx _ _ (by omega)]
      exact q3 i hi
  · rw [hy _ _ (by omega), h6]
  · rw [hy _ _ (by omega), h7]
  · rw [hy _ _ (by omega), hy _ _ (by omega), hx _ _ (by omega), hx _ _ (by omega)]
    exact h8 i hi
theorem RQ_fr (hx : ∀ a k, (3 ≤ a ∧ a ≤ 5) ∨ a = 17 → gi x' a k = gi x a k) (h : RQ N x) : RQ N x' := by
  have hlv : lv x' = lv x := lv_cg fun k => hx _ _ (by omega)
  unfold RQ at *
  rw [hlv]
  simpa (disch := omega) only [hx] using h
theorem RC9_fr {c : Nat} (hx : ∀ a k, 57 ≤ a ∧ a < 77 → gi x' a k = gi x a k) (h : RC9 c P x) : RC9 c P x' := by
  obtain ⟨w, w1, w2⟩ := h
  refine ⟨w, fun u hu q => ?_, w2⟩
  rw [hx _ _ (by omega)] at q ⊢
  exact w1 u hu q
end FR
/-! ### a value written -/
def ptX (x : St) (k : Nat) (v : Int32) (T P : Nat) : St := ui (ui (ui (ui (ui (ui x 5 k v) 6 k (n32 T)) 7 P (n32 k)) 8 P v) 9 P (n32 T)) 1 9 (n32 (P + 1))
def ptY (y : St) (k : Nat) (v : Int32) (T P : Nat) : St := ui (ui (ui (ui (ui (ui y 2 k v) 10 P (n32 k)) 11 P (n32 T)) 12 P v) 0 11 (n32 (P + 1))) 6 k (n32 T)
theorem c_put {x : St} {k P T : Nat} {v : Int32} (hP : gi x 1 9 = n32 P) (hP9 : P < 512) (hk : k < 24) : fX6_put x (n32 k) v (n32 T) = some (ptX x k v T P) := by
  unfold fX6_put ptX
  simp (disch := omega) only [eq_self, n_le, n_lt, n_inj, n_nat, gd_in, n_add, bi_z, bi_1, gd_bi, n_nonneg,  some_bind, lt_e, lit_NV, if_true, if_false, ite_true, ite_false, Option.bind_some, not_true, not_false_iff, lit_0, lit_1, lit_2, lit_3, lit_4, lit_5, lit_6, lit_7, lit_8, lit_12, lit_24, lit_25, lit_30, lit_60, lit_63, lit_96, lit_100, lit_512, lit_240, gi_no, gi_yes, hP, show ¬ 512 ≤ P by omega]
theorem r_notes {y : St} {k P T : Nat} {v : Int32} (hP : gi y 0 11 = n32 P) (hP9 : P < 512) (hk : k < 24) (hT : gi y 0 0 = n32 T) : fX11_notes y (n32 k) v = some (ptY y k v T P) := by
  unfold fX11_notes ptY
  simp (disch := omega) only [eq_self, n_le, n_lt, n_inj, n_nat, gd_in, n_add, bi_z, bi_1, gd_bi, n_nonneg,  some_bind, lt_e, lit_NV, if_true, if_false, ite_true, ite_false, Option.bind_some, not_true, not_false_iff, lit_0, lit_1, lit_2, lit_3, lit_4, lit_5, lit_6, lit_7, lit_8, lit_12, lit_24, lit_25, lit_30, lit_60, lit_63, lit_96, lit_100, lit_512, lit_240, gi_no, gi_yes, hP, hT]
theorem ptX_o {x : St} {k T P : Nat} {v : Int32} {a j : Nat} (h : ¬ (a = 1 ∧ j = 9) ∧ (a < 5 ∨ 9 < a)) : gi (ptX x k v T P) a j = gi x a j := by
  unfold ptX
  simp (disch := omega) only [gi_no]
theorem ptY_o {y : St} {k T P : Nat} {v : Int32} {a j : Nat} (h : ¬ (a = 0 ∧ j = 11) ∧ a ≠ 2 ∧ a ≠ 6 ∧ (a < 10 ∨ 12 < a)) : gi (ptY y k v T P) a j = gi y a j := by
  unfold ptY
  simp (disch := omega) only [gi_no]
theorem RN_pt {N k T P : Nat} {x y : St} {v : Int32} (h : RN N x y) : RN N (ptX x k v T P) (ptY y k v T P) := by
  obtain ⟨h1, h2, h3, h4, h5, h6, h7, h8⟩ := h
  refine ⟨h1, ?_, ?_, fun j => ?_, fun j => ?_, fun j => ?_, fun j => ?_, fun j => ?_⟩
  · rw [ptX_o (by omega), h2]
  · rw [ptY_o (by omega), h3]
  · rw [ptX_o (by omega), ptY_o (by omega), h4]
  · unfold ptX ptY
    by_cases e : j = k
    · simp (disch := omega) only [gi_no, gi_yes]
    · simp (disch := omega) only [gi_no, h5]
  · rw [ptX_o (by omega), ptY_o (by omega), h6]
  · rw [ptX_o (by omega), ptY_o (by omega), h7]
  · unfold ptX ptY
    by_cases e : j = k
    · simp (disch := omega) only [gi_no, gi_yes]
    · simp (disch := omega) only [gi_no, h8]
theorem RG_pt {N k T P : Nat} {x y : St} {v : Int32} (h : RG N P x y) (hP : P < 512) : RG N (P + 1) (ptX x k v T P) (ptY y k v T P) ∧ gi (ptX x k v T P) 7 P = n32 k ∧ gi (ptX x k v T P) 9 P = n32 T := by
  have e7 : gi (ptX x k v T P) 7 P = n32 k := by
    unfold ptX
    simp (disch := omega) only [gi_no, gi_yes]
  have e9 : gi (ptX x k v T P) 9 P = n32 T := by
    unfold ptX
    simp (disch := omega) only [gi_no, gi_yes]
  refine ⟨?_, e7, e9⟩
  obtain ⟨h1, h2, h3, h4, h5, h6, h7⟩ := h
  refine ⟨by omega, ?_, ?_, fun i => ?_, fun i => ?_, fun i => ?_, fun j hj => ?_⟩
  · unfold ptX
    simp (disch := omega) only [gi_yes]
  · unfold ptY
    simp (disch := omega) only [gi_no, gi_yes]
  · unfold ptX ptY
    by_cases e : i = P
    · simp (disch := omega) only [gi_no, gi_yes]
    · simp (disch := omega) only [gi_no, h4]
  · unfold ptX ptY
    by_cases e : i = P
    · simp (disch := omega) only [gi_no, gi_yes]
    · simp (disch := omega) only [gi_no, h5]
  · unfold ptX ptY
    by_cases e : i = P
    · simp (disch := omega) only [gi_no, gi_yes]
    · simp (disch := omega) only [gi_no, h6]
  · obtain ⟨i, q1, q2, q3⟩ := h7 j hj
    refine ⟨i, by omega, ?_, ?_⟩
    · rw [← q2]
      unfold ptX
      simp (disch := omega) only [gi_no]
    · rw [ptX_o (by omega)]
      unfold ptX
      simp (disch := omega) only [gi_no]
      exact q3
