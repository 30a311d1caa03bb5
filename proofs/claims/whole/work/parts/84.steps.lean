/-! ### the steps of a pattern -/
theorem RPc_cg {x x' : St} {u c h : Nat} (hx : ∀ a k, 78 + 6 * u ≤ a ∧ a ≤ 83 + 6 * u → gi x' a k = gi x a k) (hp : RPc x u c h) : RPc x' u c h := by
  have hs : ∀ i, stk x' u i = stk x u i := fun i => stk_cg u (fun k => hx _ _ (by omega)) i
  unfold RPc at *
  simpa (disch := omega) only [hx, hs] using hp
theorem stk_eq {x x' : St} {u : Nat} : ∀ {i : Nat}, (∀ k, k < i → gi x' (79 + 6 * u) k = gi x (79 + 6 * u) k) → stk x' u i = stk x u i
  | 0, _ => rfl
  | i + 1, h => by
    unfold stk
    rw [stk_eq fun k hk => h k (by omega), h i (Nat.lt_succ_self i)]
theorem stk_lt {x : St} {u : Nat} : ∀ {i a : Nat}, a ∈ stk x u i → a < i
  | 0, a, h => by cases h
  | i + 1, a, h => by
    unfold stk at h
    rcases List.mem_cons.mp h with q | q
    · omega
    · have := stk_lt (List.mem_of_mem_drop q)
      omega
/-- how many relations a kind of step takes -/
def tkq (q : Nat) : Nat := if q = 5 then 1 else if q = 3 ∨ q = 4 then 2 else 0
theorem stk_at {x : St} {u i q : Nat} (hq : q < 2 ^ 31) (h : gi x (79 + 6 * u) i = n32 q) : stk x u (i + 1) = i :: (stk x u i).drop (tkq q) := by
  have e : stk x u (i + 1) = i :: (stk x u i).drop (if gi x (79 + 6 * u) i = n32 5 then 1 else if gi x (79 + 6 * u) i = n32 3 ∨ gi x (79 + 6 * u) i = n32 4 then 2 else 0) := rfl
  rw [e, h]
  unfold tkq
  simp only [n_inj hq (show 5 < 2 ^ 31 by decide), n_inj hq (show 3 < 2 ^ 31 by decide), n_inj hq (show 4 < 2 ^ 31 by decide)]
theorem tkq_le (q : Nat) : tkq q ≤ 2 := by
  unfold tkq
  split
  · omega
  · split <;> omega
/-- the cell of the stack at the place j -/
theorem RPc_cell {x : St} {u c h j : Nat} (hp : RPc x u c h) (hj : j < h) : ∃ a : Nat, a < 12 ∧ (stk x u c)[h - 1 - j]? = some a ∧ gi x (83 + 6 * u) j = n32 a := by
  obtain ⟨h1, -, -, -, h5, -⟩ := hp
  obtain ⟨q1, q2⟩ := h5 j hj
  have := stk_lt (List.mem_of_getElem? q1)
  exact ⟨_, by omega, q1, (n_of q2).1⟩
/-- a step more: what the cells are then -/
theorem RPc_put {x x' : St} {u c h q l : Nat} (hp : RPc x u c h) (hc : c < 12) (hq : q < 6) (hl : l < 4) (ht : tkq q ≤ h)
    (hx1 : ∀ k, gi x' (79 + 6 * u) k = if k = c then n32 q else gi x (79 + 6 * u) k) (hx2 : ∀ k, gi x' (80 + 6 * u) k = if k = c then n32 l else gi x (80 + 6 * u) k)
    (hx3 : ∀ k, gi x' (81 + 6 * u) k = if k = c ∧ 1 ≤ tkq q then gi x (83 + 6 * u) (h - tkq q) else gi x (81 + 6 * u) k)
    (hx4 : ∀ k, gi x' (82 + 6 * u) k = if k = c ∧ tkq q = 2 then gi x (83 + 6 * u) (h - 1) else gi x (82 + 6 * u) k)
    (hx5 : ∀ k, gi x' (83 + 6 * u) k = if k = h - tkq q then n32 c else gi x (83 + 6 * u) k)
    (hx6 : gi x' (78 + 6 * u) 5 = n32 (c + 1)) (hx7 : gi x' (78 + 6 * u) 6 = n32 (h - tkq q + 1)) : RPc x' u (c + 1) (h - tkq q + 1) := by
  obtain ⟨h1, h2, h3, h4, h5, h6, h7⟩ := id hp
  have es : ∀ i, i ≤ c → stk x' u i = stk x u i := fun i hi => stk_eq fun k hk => by rw [hx1, if_neg (by omega)]
  have ec : stk x' u (c + 1) = c :: (stk x u c).drop (tkq q) := by
    rw [stk_at (q := q) (by omega) (by rw [hx1, if_pos rfl]), es c (Nat.le_refl c)]
  refine ⟨by omega, hx6, hx7, ?_, fun j hj => ?_, fun i hi => ?_, fun i hi => ?_⟩
  · rw [ec, List.length_cons, List.length_drop, h4]
  · rw [ec, hx5]
    by_cases e : j = h - tkq q
    · rw [if_pos e, show h - tkq q + 1 - 1 - j = 0 by omega, n_nat (by omega)]
      exact ⟨rfl, n_nonneg (by omega)⟩
    · rw [if_neg e]
      obtain ⟨q1, q2⟩ := h5 j (by omega)
      refine ⟨?_, q2⟩
      rw [show h - tkq q + 1 - 1 - j = (h - tkq q - 1 - j) + 1 by omega, List.getElem?_cons_succ, List.getElem?_drop, show tkq q + (h - tkq q - 1 - j) = h - 1 - j by omega]
      exact q1
  · by_cases e : i = c
    · subst e
      rw [es i (Nat.le_refl i), hx1, hx2, hx3, hx4, if_pos rfl, if_pos rfl]
      unfold tkq at ht hx3 hx4 ⊢
      have h012 : q < 3 ∨ q = 5 ∨ q = 3 ∨ q = 4 := by omega
      rcases h012 with z | rfl | rfl | rfl
      · exact Or.inl ⟨q, l, z, hl, rfl, rfl⟩
      · refine Or.inr (Or.inl ⟨rfl, ?_⟩)
        simp only [if_true] at ht ⊢
        obtain ⟨a, -, a1, a2⟩ := RPc_cell hp (show h - 1 < h by omega)
        rw [show h - 1 - (h - 1) = 0 by omega] at a1
        exact ⟨a, a1, by simpa using a2⟩
      · refine Or.inr (Or.inr ⟨Or.inl rfl, ?_⟩)
        simp at ht ⊢
        obtain ⟨b, -, b1, b2⟩ := RPc_cell hp (show h - 1 < h by omega)
        obtain ⟨a, -, a1, a2⟩ := RPc_cell hp (show h - 2 < h by omega)
        rw [show h - 1 - (h - 1) = 0 by omega] at b1
        rw [show h - 1 - (h - 2) = 1 by omega] at a1
        exact ⟨a, b, b1, a1, a2, b2⟩
      · refine Or.inr (Or.inr ⟨Or.inr rfl, ?_⟩)
        simp at ht ⊢
        obtain ⟨b, -, b1, b2⟩ := RPc_cell hp (show h - 1 < h by omega)
        obtain ⟨a, -, a1, a2⟩ := RPc_cell hp (show h - 2 < h by omega)
        rw [show h - 1 - (h - 1) = 0 by omega] at b1
        rw [show h - 1 - (h - 2) = 1 by omega] at a1
        exact ⟨a, b, b1, a1, a2, b2⟩
    · rw [es i (by omega), hx1, hx2, hx3, hx4, if_neg e, if_neg e, if_neg (fun z => e z.1), if_neg (fun z => e z.1)]
      exact h6 i (by omega)
  · obtain ⟨a, b, q1, q2, q3, q4⟩ := h7 i hi
    rw [hx3, hx4]
    by_cases e1 : i = c ∧ 1 ≤ tkq q
    · obtain ⟨a', a1, -, a2⟩ := RPc_cell hp (show h - tkq q < h by omega)
      rw [if_pos e1]
      by_cases e2 : i = c ∧ tkq q = 2
      · obtain ⟨b', b1, -, b2⟩ := RPc_cell hp (show h - 1 < h by omega)
        rw [if_pos e2]
        exact ⟨a', b', a1, b1, a2, b2⟩
      · rw [if_neg e2]
        exact ⟨a', b, a1, q2, a2, q4⟩
    · rw [if_neg e1, if_neg (fun z => e1 ⟨z.1, by omega⟩)]
      exact ⟨a, b, q1, q2, q3, q4⟩
/-- the class's put -/
theorem c_put8 {x : St} {u c h q l : Nat} (hp : RPc x u c h) (hc : c < 12) (hh : h ≤ 12) (hq : q < 6) (ht : tkq q ≤ h) : ∃ x', fX8_put x u (n32 q) (n32 l) = some x' ∧ (∀ a k, gl x' a k = gl x a k) ∧ (∀ a k, a < 78 + 6 * u ∨ 83 + 6 * u < a → gi x' a k = gi x a k) ∧
    (∀ k, gi x' (79 + 6 * u) k = if k = c then n32 q else gi x (79 + 6 * u) k) ∧ (∀ k, gi x' (80 + 6 * u) k = if k = c then n32 l else gi x (80 + 6 * u) k) ∧
    (∀ k, gi x' (81 + 6 * u) k = if k = c ∧ 1 ≤ tkq q then gi x (83 + 6 * u) (h - tkq q) else gi x (81 + 6 * u) k) ∧
    (∀ k, gi x' (82 + 6 * u) k = if k = c ∧ tkq q = 2 then gi x (83 + 6 * u) (h - 1) else gi x (82 + 6 * u) k) ∧
    (∀ k, gi x' (83 + 6 * u) k = if k = h - tkq q then n32 c else gi x (83 + 6 * u) k) ∧
    gi x' (78 + 6 * u) 5 = n32 (c + 1) ∧ gi x' (78 + 6 * u) 6 = n32 (h - tkq q + 1) := by
  obtain ⟨h1, h2, h3, h4, -⟩ := hp
  have hd : ∀ m, 0 < m → m ≤ 12 → n32 m - n32 1 = n32 (m - 1) := fun m m1 m2 => n_dec m1 (by omega)
  have h012 : (q < 3 ∧ tkq q = 0) ∨ (q = 5 ∧ tkq q = 1) ∨ ((q = 3 ∨ q = 4) ∧ tkq q = 2) := by
    unfold tkq
    have : q < 3 ∨ q = 5 ∨ q = 3 ∨ q = 4 := by omega
    rcases this with z | rfl | rfl | rfl
    · refine Or.inl ⟨z, ?_⟩
      rw [if_neg (by omega), if_neg (by omega)]
    · exact Or.inr (Or.inl ⟨rfl, rfl⟩)
    · exact Or.inr (Or.inr ⟨Or.inl rfl, rfl⟩)
    · exact Or.inr (Or.inr ⟨Or.inr rfl, rfl⟩)
  rcases h012 with ⟨z, e⟩ | ⟨rfl, e⟩ | ⟨z, e⟩
  · have htk : fX8_taken x (n32 q) = some (n32 0) := by
      unfold fX8_taken fX8_taken_j10
      simp (disch := omega) only [eq_self, n_le, n_lt, n_inj, n_nat, gd_in, n_add, bi_z, bi_1, gd_bi, n_nonneg,  some_bind, lt_e, lit_NV, if_true, if_false, ite_true, ite_false, Option.bind_some, not_true, not_false_iff, lit_0, lit_1, lit_2, lit_3, lit_4, lit_5, lit_6, lit_7, lit_8, lit_12, lit_24, lit_25, lit_30, lit_60, lit_63, lit_96, lit_100, lit_512, lit_240, show ¬ q = 3 by omega, show ¬ q = 4 by omega, show ¬ q = 5 by omega]
    rw [e] at ht ⊢
    by_cases hh12 : h = 12
    · exfalso
      have hlen : ∀ i, (stk x u i).length ≤ i := fun i => by
        induction i with
        | zero => exact Nat.le_refl _
        | succ i ih =>
          show (i :: (stk x u i).drop _).length ≤ i + 1
          rw [List.length_cons, List.length_drop]
          omega
      have := hlen c
      omega
    refine ⟨ui (ui (ui (ui (ui x (79 + 6 * u) c (n32 q)) (80 + 6 * u) c (n32 l)) (83 + 6 * u) h (n32 c)) (78 + 6 * u) 6 (n32 (h + 1))) (78 + 6 * u) 5 (n32 (c + 1)), ?_, fun _ _ => rfl, fun a k ha => ?_, fun k => ?_, fun k => ?_, fun k => ?_, fun k => ?_, fun k => ?_, ?_, ?_⟩
    · unfold fX8_put fX8_put_j76 fX8_put_j109
      simp (disch := omega) only [eq_self, n_le, n_lt, n_inj, n_nat, gd_in, n_add, bi_z, bi_1, gd_bi, n_nonneg,  some_bind, lt_e, lit_NV, if_true, if_false, ite_true, ite_false, Option.bind_some, not_true, not_false_iff, lit_0, lit_1, lit_2, lit_3, lit_4, lit_5, lit_6, lit_7, lit_8, lit_12, lit_24, lit_25, lit_30, lit_60, lit_63, lit_96, lit_100, lit_512, lit_240, htk, h2, h3, Nat.not_le.mpr hc, Nat.zero_le, gi_no]
      simp
    · simp (disch := omega) only [gi_no]
    · by_cases z : k = c
      · rw [if_pos z]; simp (disch := omega) only [gi_no, gi_yes]
      · rw [if_neg z]; simp (disch := omega) only [gi_no]
    · by_cases z : k = c
      · rw [if_pos z]; simp (disch := omega) only [gi_no, gi_yes]
      · rw [if_neg z]; simp (disch := omega) only [gi_no]
    · rw [if_neg (by omega)]; simp (disch := omega) only [gi_no]
    · rw [if_neg (by omega)]; simp (disch := omega) only [gi_no]
    · by_cases z : k = h
      · rw [if_pos (by omega)]; simp (disch := omega) only [gi_no, gi_yes]
      · rw [if_neg (by omega)]; simp (disch := omega) only [gi_no]
    · simp (disch := omega) only [gi_yes]
    · simp (disch := omega) only [gi_no, gi_yes]
      rfl
  · have htk : fX8_taken x (n32 5) = some (n32 1) := by
      unfold fX8_taken fX8_taken_j10
      simp (disch := omega) only [eq_self, n_le, n_lt, n_inj, n_nat, gd_in, n_add, bi_z, bi_1, gd_bi, n_nonneg,  some_bind, lt_e, lit_NV, if_true, if_false, ite_true, ite_false, Option.bind_some, not_true, not_false_iff, lit_0, lit_1, lit_2, lit_3, lit_4, lit_5, lit_6, lit_7, lit_8, lit_12, lit_24, lit_25, lit_30, lit_60, lit_63, lit_96, lit_100, lit_512, lit_240, show ¬ 5 = 3 by omega, show ¬ 5 = 4 by omega]
    rw [e] at ht ⊢
    refine ⟨ui (ui (ui (ui (ui (ui (ui x (79 + 6 * u) c (n32 5)) (80 + 6 * u) c (n32 l)) (78 + 6 * u) 6 (n32 (h - 1))) (81 + 6 * u) c (gi x (83 + 6 * u) (h - 1))) (83 + 6 * u) (h - 1) (n32 c)) (78 + 6 * u) 6 (n32 (h - 1 + 1))) (78 + 6 * u) 5 (n32 (c + 1)), ?_, fun _ _ => rfl, fun a k ha => ?_, fun k => ?_, fun k => ?_, fun k => ?_, fun k => ?_, fun k => ?_, ?_, ?_⟩
    · unfold fX8_put fX8_put_j76 fX8_put_j109
      simp (disch := omega) only [eq_self, n_le, n_lt, n_inj, n_nat, gd_in, n_add, bi_z, bi_1, gd_bi, n_nonneg,  some_bind, lt_e, lit_NV, if_true, if_false, ite_true, ite_false, Option.bind_some, not_true, not_false_iff, lit_0, lit_1, lit_2, lit_3, lit_4, lit_5, lit_6, lit_7, lit_8, lit_12, lit_24, lit_25, lit_30, lit_60, lit_63, lit_96, lit_100, lit_512, lit_240, htk, h2, h3, Nat.not_le.mpr hc, ht, gi_no, gi_yes, hd, show ¬ 1 = 2 by omega, show ¬ 1 < 1 by omega]
    · simp (disch := omega) only [gi_no]
    · by_cases z : k = c
      · rw [if_pos z]; simp (disch := omega) only [gi_no, gi_yes]
      · rw [if_neg z]; simp (disch := omega) only [gi_no]
    · by_cases z : k = c
      · rw [if_pos z]; simp (disch := omega) only [gi_no, gi_yes]
      · rw [if_neg z]; simp (disch := omega) only [gi_no]
    · by_cases z : k = c
      · rw [if_pos ⟨z, by omega⟩]; simp (disch := omega) only [gi_no, gi_yes]
      · rw [if_neg (by omega)]; simp (disch := omega) only [gi_no]
    · rw [if_neg (by omega)]; simp (disch := omega) only [gi_no]
    · by_cases z : k = h - 1
      · rw [if_pos z]; simp (disch := omega) only [gi_no, gi_yes]
      · rw [if_neg z]; simp (disch := omega) only [gi_no]
    · simp (disch := omega) only [gi_yes]
    · simp (disch := omega) only [gi_no, gi_yes]
  · have htk : fX8_taken x (n32 q) = some (n32 2) := by
      unfold fX8_taken fX8_taken_j10
      rcases z with rfl | rfl
      · simp (disch := omega) only [eq_self, n_le, n_lt, n_inj, n_nat, gd_in, n_add, bi_z, bi_1, gd_bi, n_nonneg,  some_bind, lt_e, lit_NV, if_true, if_false, ite_true, ite_false, Option.bind_some, not_true, not_false_iff, lit_0, lit_1, lit_2, lit_3, lit_4, lit_5, lit_6, lit_7, lit_8, lit_12, lit_24, lit_25, lit_30, lit_60, lit_63, lit_96, lit_100, lit_512, lit_240]
      · simp (disch := omega) only [eq_self, n_le, n_lt, n_inj, n_nat, gd_in, n_add, bi_z, bi_1, gd_bi, n_nonneg,  some_bind, lt_e, lit_NV, if_true, if_false, ite_true, ite_false, Option.bind_some, not_true, not_false_iff, lit_0, lit_1, lit_2, lit_3, lit_4, lit_5, lit_6, lit_7, lit_8, lit_12, lit_24, lit_25, lit_30, lit_60, lit_63, lit_96, lit_100, lit_512, lit_240, show ¬ 4 = 3 by omega]
    rw [e] at ht ⊢
    refine ⟨ui (ui (ui (ui (ui (ui (ui (ui (ui x (79 + 6 * u) c (n32 q)) (80 + 6 * u) c (n32 l)) (78 + 6 * u) 6 (n32 (h - 1))) (82 + 6 * u) c (gi x (83 + 6 * u) (h - 1))) (78 + 6 * u) 6 (n32 (h - 1 - 1))) (81 + 6 * u) c (gi x (83 + 6 * u) (h - 1 - 1))) (83 + 6 * u) (h - 1 - 1) (n32 c)) (78 + 6 * u) 6 (n32 (h - 1 - 1 + 1))) (78 + 6 * u) 5 (n32 (c + 1)), ?_, fun _ _ => rfl, fun a k ha => ?_, fun k => ?_, fun k => ?_, fun k => ?_, fun k => ?_, fun k => ?_, ?_, ?_⟩
    · unfold fX8_put fX8_put_j76 fX8_put_j109
      simp (disch := omega) only [eq_self, n_le, n_lt, n_inj, n_nat, gd_in, n_add, bi_z, bi_1, gd_bi, n_nonneg,  some_bind, lt_e, lit_NV, if_true, if_false, ite_true, ite_false, Option.bind_some, not_true, not_false_iff, lit_0, lit_1, lit_2, lit_3, lit_4, lit_5, lit_6, lit_7, lit_8, lit_12, lit_24, lit_25, lit_30, lit_60, lit_63, lit_96, lit_100, lit_512, lit_240, htk, h2, h3, Nat.not_le.mpr hc, ht, gi_no, gi_yes, hd, show ¬ 2 < 1 by omega]
    · simp (disch := omega) only [gi_no]
    · by_cases z : k = c
      · rw [if_pos z]; simp (disch := omega) only [gi_no, gi_yes]
      · rw [if_neg z]; simp (disch := omega) only [gi_no]
    · by_cases z : k = c
      · rw [if_pos z]; simp (disch := omega) only [gi_no, gi_yes]
      · rw [if_neg z]; simp (disch := omega) only [gi_no]
    · by_cases z : k = c
      · rw [if_pos ⟨z, by omega⟩, show h - 2 = h - 1 - 1 by omega]; simp (disch := omega) only [gi_no, gi_yes]
      · rw [if_neg (by omega)]; simp (disch := omega) only [gi_no]
    · by_cases z : k = c
      · rw [if_pos ⟨z, rfl⟩]; simp (disch := omega) only [gi_no, gi_yes]
      · rw [if_neg (by omega)]; simp (disch := omega) only [gi_no]
    · by_cases z : k = h - 1 - 1
      · rw [if_pos (by omega)]; simp (disch := omega) only [gi_no, gi_yes]
      · rw [if_neg (by omega)]; simp (disch := omega) only [gi_no]
    · simp (disch := omega) only [gi_yes]
    · simp (disch := omega) only [gi_no, gi_yes]
      rw [show h - 1 - 1 = h - 2 by omega]
