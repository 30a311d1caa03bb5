/-! ### keys and shapes -/
/-- a change of the laws' cells alone -/
theorem Rel_W {x x' y y' : St} {c : Nat} (h : Rel c x y) (hc : c < 512) (hx : ∀ a k, a < 17 ∨ 19 < a → gi x' a k = gi x a k) (hl9 : ∀ a k, gl x' a k = gl x a k) (hy : ∀ a k, (a < 18 ∨ 20 < a) ∧ ¬ (a = 0 ∧ k = 50) → gi y' a k = gi y a k) (hW : RW x y → RW x' y') (hQ : ∀ N, RN N x y → RQ N x → RQ N x') : Rel (c + 1) x' y' := by
  obtain ⟨N, E, T, P, R, h1, -, h2, h3, h4, h5, h6, h7, h8, h9, h10, h11, h12, h13, h14, h15⟩ := h
  refine ⟨N, E, T, P, R, by omega, by omega, ?_, ?_, ?_, ?_, hW h6, ?_, fun u hu => ?_, ?_, ?_, ?_, ?_, ?_, hQ N h2 h14, ?_⟩
  · exact RN_fr (fun a k q => hx _ _ (by omega)) (fun a k q => hy _ _ (by omega)) h2
  · exact RE_fr (fun a k q => hx _ _ (by omega)) (fun a k q => hy _ _ (by omega)) (by omega) h3
  · exact RT_fr (hx _ _ (by omega)) (hy _ _ (by omega)) h4
  · exact RM_fr (fun a k q => hx _ _ (by omega)) (fun a k q => hy _ _ (by omega)) h5
  · exact RG_fr (fun a k q => hx _ _ (by omega)) (fun a k q => hy _ _ (by omega)) h7
  · exact RX_fr hu (fun a k q => hx _ _ (by omega)) (fun a k q => hl9 _ _) (fun a k q => hy _ _ (by omega)) (by omega) (by omega) (h8 u hu)
  · exact RK_fr (fun a k q => hx _ _ (by omega)) (fun a k q => hy _ _ (by omega)) h9
  · exact RS_fr (fun a k q => hx _ _ (by omega)) h10
  · exact RR_fr (fun a k q => hx _ _ (by omega)) (fun a k q => hy _ _ (by omega)) h11
  · exact RF_fr (fun a k q => hx _ _ (by omega)) h12
  · exact RP_fr (fun a k q => hx _ _ (by omega)) (fun a k q => hy _ _ (by omega)) h13
  · exact RC9_up (RC9_fr (fun a k q => hx _ _ (by omega)) h15)
theorem any_succ (p : Nat → Bool) (n : Nat) : (List.range (n + 1)).any p = ((List.range n).any p || p n) := by
  rw [List.range_succ, List.any_append]
  simp
theorem any_ex {p : Nat → Bool} {n : Nat} : (List.range n).any p = true ↔ ∃ k, k < n ∧ p k = true := by
  rw [List.any_eq_true]
  constructor
  · rintro ⟨k, h1, h2⟩
    exact ⟨k, List.mem_range.mp h1, h2⟩
  · rintro ⟨k, h1, h2⟩
    exact ⟨k, List.mem_range.mpr h1, h2⟩
theorem any_no {p : Nat → Bool} {n : Nat} (h : (List.range n).any p = false) {k : Nat} (hk : k < n) : p k = false := by
  cases h2 : p k
  · rfl
  · rw [any_ex.mpr ⟨k, hk, h2⟩] at h
    cases h
/-- a word that gathers whether any place passed -/
theorem loop_flag {step : Int32 × Int32 → Option ((Int32 × Int32) ⊕ (Int32 × Int32))} (N : Nat) (p : Nat → Bool) (hb : ∀ k b, k < N → step (bi b, n32 k) = some (.inl (bi (b || p k), n32 (k + 1)))) (he : ∀ b, step (bi b, n32 N) = some (.inr (bi b, n32 N))) (b0 : Bool) : loopF step (bi b0, n32 0) = some (bi (b0 || (List.range N).any p), n32 N) := by
  have := loopF_seq (fun k => (bi (b0 || (List.range k).any p), n32 k)) N (fun k hk => by
    show step (bi (b0 || (List.range k).any p), n32 k) = some (.inl (bi (b0 || (List.range (k + 1)).any p), n32 (k + 1)))
    rw [any_succ, ← Bool.or_assoc]
    exact hb k _ hk) (he _)
  simpa using this
/-- the node k is there with this label and value, and isn't the one -/
def tkk (x : St) (l v ex : Int32) (k : Nat) : Bool := !decide (n32 k = ex) && (lv x k && (decide (gi x 4 k = l) && decide (gi x 5 k = v)))
def tkn (N : Nat) (x : St) (l v ex : Int32) : Bool := (List.range N).any (tkk x l v ex)
def ky (x : St) (l : Nat) : Bool := decide (gi x 17 l = n32 1)
theorem RW_ky {x y : St} (h : RW x y) {l : Nat} (hl : l < 4) : gi x 17 l = bi (ky x l) ∧ gi y 18 l = bi (ky x l) := by
  obtain ⟨b, h1, h2⟩ := h.1 l hl
  have : ky x l = b := by
    unfold ky
    rw [h1]
    cases b <;> decide
  rw [this]
  exact ⟨h1, h2⟩
theorem c_isTaken {N : Nat} {x y : St} (hR : RN N x y) (hW : RW x y) {l : Nat} (hl : l < 4) (v ex : Int32) : fX2_isTaken x (n32 l) v ex = some (bi (ky x l && tkn N x (n32 l) v ex)) := by
  obtain ⟨hN, hc, -⟩ := id hR
  have e := loop_any (step := fX2_isTaken_l14 x (n32 l) v ex) N n32 (tkk x (n32 l) v ex) (r := .inr (n32 1)) (e := .inl (n32 N)) (fun k hk => by
      unfold fX2_isTaken_l14 fX2_isTaken_j74 tkk
      simp (disch := omega) only [eq_self, n_le, n_lt, n_inj, n_nat, gd_in, n_add, bi_z, bi_1, gd_bi, n_nonneg,  some_bind, lt_e, lit_NV, if_true, if_false, ite_true, ite_false, Option.bind_some, not_true, not_false_iff, lit_0, lit_1, lit_2, lit_3, lit_4, lit_5, lit_6, lit_7, lit_8, lit_12, lit_24, lit_25, lit_30, lit_60, lit_63, lit_96, lit_100, lit_512, lit_240, hc, Nat.not_le.mpr hk, c_isThereN hc hN, nd_n hN hk]
      by_cases q1 : n32 k = ex
      · simp [q1]
      · cases lv x k <;> by_cases q2 : gi x 4 k = n32 l <;> by_cases q3 : gi x 5 k = v <;> simp [q1, q2, q3])
    (by
      unfold fX2_isTaken_l14
      simp (disch := omega) only [eq_self, n_le, n_lt, n_inj, n_nat, gd_in, n_add, bi_z, bi_1, gd_bi, n_nonneg,  some_bind, lt_e, lit_NV, if_true, if_false, ite_true, ite_false, Option.bind_some, not_true, not_false_iff, lit_0, lit_1, lit_2, lit_3, lit_4, lit_5, lit_6, lit_7, lit_8, lit_12, lit_24, lit_25, lit_30, lit_60, lit_63, lit_96, lit_100, lit_512, lit_240, hc, Nat.le_refl])
  unfold fX2_isTaken
  simp (disch := omega) only [eq_self, n_le, n_lt, n_inj, n_nat, gd_in, n_add, bi_z, bi_1, gd_bi, n_nonneg,  some_bind, lt_e, lit_NV, if_true, if_false, ite_true, ite_false, Option.bind_some, not_true, not_false_iff, lit_0, lit_1, lit_2, lit_3, lit_4, lit_5, lit_6, lit_7, lit_8, lit_12, lit_24, lit_25, lit_30, lit_60, lit_63, lit_96, lit_100, lit_512, lit_240, (RW_ky hW hl).1]
  cases ky x l
  · rfl
  · simp (disch := omega) only [eq_self, n_le, n_lt, n_inj, n_nat, gd_in, n_add, bi_z, bi_1, gd_bi, n_nonneg,  some_bind, lt_e, lit_NV, if_true, if_false, ite_true, ite_false, Option.bind_some, not_true, not_false_iff, lit_0, lit_1, lit_2, lit_3, lit_4, lit_5, lit_6, lit_7, lit_8, lit_12, lit_24, lit_25, lit_30, lit_60, lit_63, lit_96, lit_100, lit_512, lit_240, Bool.true_eq_false, e]
    unfold tkn
    cases (List.range N).any (tkk x (n32 l) v ex) <;> rfl
theorem r_breaksKey {N : Nat} {x y : St} (hR : RN N x y) (hW : RW x y) {l : Nat} (hl : l < 4) (v ex : Int32) : fX11_breaksKey y ex (n32 l) v = some (bi (ky x l && tkn N x (n32 l) v ex)) := by
  obtain ⟨hN, -, hc, g1, g2, -⟩ := id hR
  have e := loop_flag (step := fX11_breaksKey_l6 y ex (n32 l) v) N (tkk x (n32 l) v ex) (fun k b hk => by
      unfold fX11_breaksKey_l6 fX11_breaksKey_j57 fX11_breaksKey_j61 fX11_breaksKey_j62 tkk
      simp (disch := omega) only [eq_self, n_le, n_lt, n_inj, n_nat, gd_in, n_add, bi_z, bi_1, gd_bi, n_nonneg,  some_bind, lt_e, lit_NV, if_true, if_false, ite_true, ite_false, Option.bind_some, not_true, not_false_iff, lit_0, lit_1, lit_2, lit_3, lit_4, lit_5, lit_6, lit_7, lit_8, lit_12, lit_24, lit_25, lit_30, lit_60, lit_63, lit_96, lit_100, lit_512, lit_240, hc, Nat.not_le.mpr hk, r_isNode hR, nd_n hN hk, g1, g2]
      cases b
      · by_cases q1 : n32 k = ex
        · simp [q1, bi]
        · cases lv x k <;> by_cases q2 : gi x 4 k = n32 l <;> by_cases q3 : gi x 5 k = v <;> simp [q1, q2, q3, bi]
      · simp [bi])
    (fun b => by
      unfold fX11_breaksKey_l6
      simp (disch := omega) only [eq_self, n_le, n_lt, n_inj, n_nat, gd_in, n_add, bi_z, bi_1, gd_bi, n_nonneg,  some_bind, lt_e, lit_NV, if_true, if_false, ite_true, ite_false, Option.bind_some, not_true, not_false_iff, lit_0, lit_1, lit_2, lit_3, lit_4, lit_5, lit_6, lit_7, lit_8, lit_12, lit_24, lit_25, lit_30, lit_60, lit_63, lit_96, lit_100, lit_512, lit_240, hc, Nat.le_refl]) false
  have e : loopF (fX11_breaksKey_l6 y ex (n32 l) v) (0, 0) = some (bi (false || tkn N x (n32 l) v ex), n32 N) := e
  unfold fX11_breaksKey fX11_breaksKey_j88
  rw [e, Bool.false_or]
  simp (disch := omega) only [eq_self, n_le, n_lt, n_inj, n_nat, gd_in, n_add, bi_z, bi_1, gd_bi, n_nonneg,  some_bind, lt_e, lit_NV, if_true, if_false, ite_true, ite_false, Option.bind_some, not_true, not_false_iff, lit_0, lit_1, lit_2, lit_3, lit_4, lit_5, lit_6, lit_7, lit_8, lit_12, lit_24, lit_25, lit_30, lit_60, lit_63, lit_96, lit_100, lit_512, lit_240, (RW_ky hW hl).2]
  cases ky x l
  · rfl
  · cases tkn N x (n32 l) v ex <;> rfl
/-- two nodes of a label that are there with the same value in the row u -/
def twin (N : Nat) (x : St) (u : Nat) (l : Int32) : Prop := ∃ a b, a < b ∧ b < N ∧ lv x a = true ∧ lv x b = true ∧ gi x 4 a = l ∧ gi x 4 b = l ∧ gi x u a = gi x u b
def lbd (N : Nat) (x : St) (l : Int32) : Int32 := gat (fun k => lv x k && decide (gi x 4 k = l)) bit1 N
theorem c_labelled {N : Nat} {x : St} (hc : gi x 1 2 = n32 N) (hN : N ≤ 24) (l : Int32) : fX6_labelled x l = some (lbd N x l) := by
  unfold fX6_labelled lbd
  rw [lit_0, loop_gat N (fun k => lv x k && decide (gi x 4 k = l)) bit1 (fun k a hk => ?_) (fun a => ?_)]
  · rfl
  · unfold fX6_labelled_l4 fX6_labelled_j37
    simp (disch := omega) only [eq_self, n_le, n_lt, n_inj, n_nat, gd_in, n_add, bi_z, bi_1, gd_bi, n_nonneg,  some_bind, lt_e, lit_NV, if_true, if_false, ite_true, ite_false, Option.bind_some, not_true, not_false_iff, lit_0, lit_1, lit_2, lit_3, lit_4, lit_5, lit_6, lit_7, lit_8, lit_12, lit_24, lit_25, lit_30, lit_60, lit_63, lit_96, lit_100, lit_512, lit_240, hc, Nat.not_le.mpr hk, c_isThereN hc hN, nd_n hN hk, c_bit]
    cases lv x k <;> by_cases q : gi x 4 k = l <;> simp [q]
  · unfold fX6_labelled_l4
    simp (disch := omega) only [eq_self, n_le, n_lt, n_inj, n_nat, gd_in, n_add, bi_z, bi_1, gd_bi, n_nonneg,  some_bind, lt_e, lit_NV, if_true, if_false, ite_true, ite_false, Option.bind_some, not_true, not_false_iff, lit_0, lit_1, lit_2, lit_3, lit_4, lit_5, lit_6, lit_7, lit_8, lit_12, lit_24, lit_25, lit_30, lit_60, lit_63, lit_96, lit_100, lit_512, lit_240, hc, Nat.le_refl]
theorem c_hasTwins {N : Nat} {x : St} (hc : gi x 1 2 = n32 N) (hN : N ≤ 24) (l : Int32) (u : Nat) : ∃ b : Bool, fX2_hasTwins x l u = some (bi b) ∧ (b = true ↔ twin N x u l) := by
  have hin : ∀ n, n < 24 → loopF (fX2_hasTwins_l29 x l u (lbd N x l) (n32 n)) (n32 0) = some (if (List.range n).any (fun m => hs (lbd N x l) n && (hs (lbd N x l) m && decide (gi x u n = gi x u m))) then .inr (n32 1) else .inl (n32 n)) := fun n hn => by
    refine loop_any (step := fX2_hasTwins_l29 x l u (lbd N x l) (n32 n)) n n32 (fun m => hs (lbd N x l) n && (hs (lbd N x l) m && decide (gi x u n = gi x u m))) (r := .inr (n32 1)) (e := .inl (n32 n)) (fun m hm => ?_) ?_
    · unfold fX2_hasTwins_l29 fX2_hasTwins_j67
      simp (disch := omega) only [eq_self, n_le, n_lt, n_inj, n_nat, gd_in, n_add, bi_z, bi_1, gd_bi, n_nonneg,  some_bind, lt_e, lit_NV, if_true, if_false, ite_true, ite_false, Option.bind_some, not_true, not_false_iff, lit_0, lit_1, lit_2, lit_3, lit_4, lit_5, lit_6, lit_7, lit_8, lit_12, lit_24, lit_25, lit_30, lit_60, lit_63, lit_96, lit_100, lit_512, lit_240, Nat.not_le.mpr hm, c_has (lbd N x l) (show n < 32 by omega), c_has (lbd N x l) (show m < 32 by omega)]
      cases hs (lbd N x l) n <;> cases hs (lbd N x l) m <;> by_cases q : gi x u n = gi x u m <;> simp [q]
    · unfold fX2_hasTwins_l29
      simp (disch := omega) only [eq_self, n_le, n_lt, n_inj, n_nat, gd_in, n_add, bi_z, bi_1, gd_bi, n_nonneg,  some_bind, lt_e, lit_NV, if_true, if_false, ite_true, ite_false, Option.bind_some, not_true, not_false_iff, lit_0, lit_1, lit_2, lit_3, lit_4, lit_5, lit_6, lit_7, lit_8, lit_12, lit_24, lit_25, lit_30, lit_60, lit_63, lit_96, lit_100, lit_512, lit_240, Nat.le_refl]
  have e := loop_any (step := fX2_hasTwins_l12 x l u (lbd N x l)) 24 n32 (fun n => (List.range n).any (fun m => hs (lbd N x l) n && (hs (lbd N x l) m && decide (gi x u n = gi x u m)))) (r := .inr (n32 1)) (e := .inl (n32 24)) (fun n hn => by
      unfold fX2_hasTwins_l12
      simp (disch := omega) only [eq_self, n_le, n_lt, n_inj, n_nat, gd_in, n_add, bi_z, bi_1, gd_bi, n_nonneg,  some_bind, lt_e, lit_NV, if_true, if_false, ite_true, ite_false, Option.bind_some, not_true, not_false_iff, lit_0, lit_1, lit_2, lit_3, lit_4, lit_5, lit_6, lit_7, lit_8, lit_12, lit_24, lit_25, lit_30, lit_60, lit_63, lit_96, lit_100, lit_512, lit_240, Nat.not_le.mpr hn, hin n hn]
      cases (List.range n).any (fun m => hs (lbd N x l) n && (hs (lbd N x l) m && decide (gi x u n = gi x u m))) <;> simp)
    (by
      unfold fX2_hasTwins_l12
      simp (disch := omega) only [eq_self, n_le, n_lt, n_inj, n_nat, gd_in, n_add, bi_z, bi_1, gd_bi, n_nonneg,  some_bind, lt_e, lit_NV, if_true, if_false, ite_true, ite_false, Option.bind_some, not_true, not_false_iff, lit_0, lit_1, lit_2, lit_3, lit_4, lit_5, lit_6, lit_7, lit_8, lit_12, lit_24, lit_25, lit_30, lit_60, lit_63, lit_96, lit_100, lit_512, lit_240, Nat.le_refl])
  have e : loopF (fX2_hasTwins_l12 x l u (lbd N x l)) 0 = _ := e
  unfold fX2_hasTwins
  rw [c_labelled hc hN, some_bind, e]
  have hb : ∀ k, k < 24 → hs (lbd N x l) k = (decide (k < N) && (lv x k && decide (gi x 4 k = l))) := fun k hk => hs_gb (by omega) (by omega)
  refine ⟨(List.range 24).any (fun n => (List.range n).any (fun m => hs (lbd N x l) n && (hs (lbd N x l) m && decide (gi x u n = gi x u m)))), ?_, ?_⟩
  · generalize (List.range 24).any (fun n => (List.range n).any (fun m => hs (lbd N x l) n && (hs (lbd N x l) m && decide (gi x u n = gi x u m)))) = q
    cases q <;> rfl
  · rw [any_ex]
    constructor
    · rintro ⟨n, hn, h⟩
      obtain ⟨m, hm, h⟩ := any_ex.mp h
      rw [hb n hn, hb m (by omega)] at h
      simp only [Bool.and_eq_true, decide_eq_true_eq] at h
      exact ⟨m, n, hm, h.1.1, h.2.1.2.1, h.1.2.1, h.2.1.2.2, h.1.2.2, h.2.2.symm⟩
    · rintro ⟨a, b, h1, h2, h3, h4, h5, h6, h7⟩
      refine ⟨b, by omega, any_ex.mpr ⟨a, h1, ?_⟩⟩
      rw [hb b (by omega), hb a (by omega)]
      simp only [Bool.and_eq_true, decide_eq_true_eq]
      exact ⟨⟨h2, h4, h6⟩, ⟨by omega, h3, h5⟩, h7.symm⟩
theorem r_isUnlike {N : Nat} {x y : St} (hR : RN N x y) (l : Int32) : ∃ b : Bool, fX11_isUnlike y l = some (bi b) ∧ (b = false ↔ twin N x 5 l) := by
  obtain ⟨hN, -, hc, g1, g2, -⟩ := id hR
  have hin : ∀ n b, n < N → loopF (fX11_isUnlike_l15 y l (n32 n)) (bi b, n32 0) = some (bi (b && !(List.range n).any (fun j => lv x n && (lv x j && (decide (gi x 4 n = l) && (decide (gi x 4 j = l) && decide (gi x 5 n = gi x 5 j)))))), n32 n) := fun n b hn => by
    have := loopF_seq (step := fX11_isUnlike_l15 y l (n32 n)) (fun k => (bi (b && !(List.range k).any (fun j => lv x n && (lv x j && (decide (gi x 4 n = l) && (decide (gi x 4 j = l) && decide (gi x 5 n = gi x 5 j)))))), n32 k)) n (fun j hj => by
        show fX11_isUnlike_l15 y l (n32 n) (bi (b && !(List.range j).any (fun j => lv x n && (lv x j && (decide (gi x 4 n = l) && (decide (gi x 4 j = l) && decide (gi x 5 n = gi x 5 j)))))), n32 j) = some (.inl (bi (b && !(List.range (j + 1)).any (fun j => lv x n && (lv x j && (decide (gi x 4 n = l) && (decide (gi x 4 j = l) && decide (gi x 5 n = gi x 5 j)))))), n32 (j + 1)))
        rw [any_succ, Bool.not_or, ← Bool.and_assoc]
        generalize (b && !(List.range j).any (fun j => lv x n && (lv x j && (decide (gi x 4 n = l) && (decide (gi x 4 j = l) && decide (gi x 5 n = gi x 5 j)))))) = d
        unfold fX11_isUnlike_l15 fX11_isUnlike_j79 fX11_isUnlike_j83 fX11_isUnlike_j84
        simp (disch := omega) only [eq_self, n_le, n_lt, n_inj, n_nat, gd_in, n_add, bi_z, bi_1, gd_bi, n_nonneg,  some_bind, lt_e, lit_NV, if_true, if_false, ite_true, ite_false, Option.bind_some, not_true, not_false_iff, lit_0, lit_1, lit_2, lit_3, lit_4, lit_5, lit_6, lit_7, lit_8, lit_12, lit_24, lit_25, lit_30, lit_60, lit_63, lit_96, lit_100, lit_512, lit_240, Nat.not_le.mpr hj, r_isNode hR, nd_n hN hn, nd_n hN (show j < N by omega), g1, g2]
        cases d
        · simp [bi]
        · cases lv x n <;> cases lv x j <;> by_cases q1 : gi x 4 n = l <;> by_cases q2 : gi x 4 j = l <;> by_cases q3 : gi x 5 n = gi x 5 j <;> simp [q1, q2, q3, bi])
      (e := (bi (b && !(List.range n).any (fun j => lv x n && (lv x j && (decide (gi x 4 n = l) && (decide (gi x 4 j = l) && decide (gi x 5 n = gi x 5 j)))))), n32 n)) (by
        unfold fX11_isUnlike_l15
        simp (disch := omega) only [eq_self, n_le, n_lt, n_inj, n_nat, gd_in, n_add, bi_z, bi_1, gd_bi, n_nonneg,  some_bind, lt_e, lit_NV, if_true, if_false, ite_true, ite_false, Option.bind_some, not_true, not_false_iff, lit_0, lit_1, lit_2, lit_3, lit_4, lit_5, lit_6, lit_7, lit_8, lit_12, lit_24, lit_25, lit_30, lit_60, lit_63, lit_96, lit_100, lit_512, lit_240, Nat.le_refl])
    simpa using this
  have e := loopF_seq (step := fX11_isUnlike_l4 y l) (fun k => (bi (!(List.range k).any (fun n => (List.range n).any (fun j => lv x n && (lv x j && (decide (gi x 4 n = l) && (decide (gi x 4 j = l) && decide (gi x 5 n = gi x 5 j))))))), n32 k)) N (fun n hn => by
      show fX11_isUnlike_l4 y l (bi (!(List.range n).any (fun n => (List.range n).any (fun j => lv x n && (lv x j && (decide (gi x 4 n = l) && (decide (gi x 4 j = l) && decide (gi x 5 n = gi x 5 j))))))), n32 n) = some (.inl (bi (!(List.range (n + 1)).any (fun n => (List.range n).any (fun j => lv x n && (lv x j && (decide (gi x 4 n = l) && (decide (gi x 4 j = l) && decide (gi x 5 n = gi x 5 j))))))), n32 (n + 1)))
      rw [any_succ, Bool.not_or]
      unfold fX11_isUnlike_l4
      simp (disch := omega) only [eq_self, n_le, n_lt, n_inj, n_nat, gd_in, n_add, bi_z, bi_1, gd_bi, n_nonneg,  some_bind, lt_e, lit_NV, if_true, if_false, ite_true, ite_false, Option.bind_some, not_true, not_false_iff, lit_0, lit_1, lit_2, lit_3, lit_4, lit_5, lit_6, lit_7, lit_8, lit_12, lit_24, lit_25, lit_30, lit_60, lit_63, lit_96, lit_100, lit_512, lit_240, hc, Nat.not_le.mpr hn, hin n _ hn])
    (e := (bi (!(List.range N).any (fun n => (List.range n).any (fun j => lv x n && (lv x j && (decide (gi x 4 n = l) && (decide (gi x 4 j = l) && decide (gi x 5 n = gi x 5 j))))))), n32 N)) (by
      unfold fX11_isUnlike_l4
      simp (disch := omega) only [eq_self, n_le, n_lt, n_inj, n_nat, gd_in, n_add, bi_z, bi_1, gd_bi, n_nonneg,  some_bind, lt_e, lit_NV, if_true, if_false, ite_true, ite_false, Option.bind_some, not_true, not_false_iff, lit_0, lit_1, lit_2, lit_3, lit_4, lit_5, lit_6, lit_7, lit_8, lit_12, lit_24, lit_25, lit_30, lit_60, lit_63, lit_96, lit_100, lit_512, lit_240, hc, Nat.le_refl])
  have e : loopF (fX11_isUnlike_l4 y l) (1, 0) = _ := e
  unfold fX11_isUnlike
  rw [e]
  refine ⟨_, gd_bi, ?_⟩
  rw [Bool.not_eq_false', any_ex]
  constructor
  · rintro ⟨n, hn, h⟩
    obtain ⟨m, hm, h⟩ := any_ex.mp h
    simp only [Bool.and_eq_true, decide_eq_true_eq] at h
    exact ⟨m, n, hm, hn, h.2.1, h.1, h.2.2.2.1, h.2.2.1, h.2.2.2.2.symm⟩
  · rintro ⟨a, b, h1, h2, h3, h4, h5, h6, h7⟩
    refine ⟨b, by omega, any_ex.mpr ⟨a, h1, ?_⟩⟩
    simp only [Bool.and_eq_true, decide_eq_true_eq]
    exact ⟨h4, h3, h6, h5, h7.symm⟩
theorem RW_ky1 {x y : St} (h : RW x y) {l : Nat} (hl : l < 4) (b : Bool) : RW (ui x 17 l (bi b)) (ui y 18 l (bi b)) := by
  obtain ⟨h1, h2, h3⟩ := h
  refine ⟨fun j hj => ?_, fun j => ?_, fun j hj => ?_⟩
  · by_cases e : j = l
    · subst e
      exact ⟨b, gi_ui_eq, gi_ui_eq⟩
    · rw [gi_no (by omega), gi_no (by omega)]
      exact h1 j hj
  · rw [gi_no (by omega), gi_no (by omega), h2]
  · rw [gi_no (by omega)] at hj
    rw [gi_no (by omega), gi_no (by omega), h3 j hj]
theorem owes_5 : owes fLaw_c5 := fun c x y v p1 p2 p3 p4 h hc => by
  obtain ⟨N, E, T, P, R, h1, -, h2, h3, h4, h5, h6, h7, h8, h9, h10, h11, h12, h13, h14, h15⟩ := id h
  refine law_Z (Q := fun x' y' => Rel (c + 1) x' y') ?_
  unfold fL_key fX10_key fX10_key_j44 fX10_key_j69 fX11_key fX11_key_j29 fX11_key_j34 fX11_key_j61
  rw [c_reqLabel, r_isLabel]
  cases w1 : bw 4 p1
  · exact ⟨1, x, v, false, th y 1, rfl, rfl, rfl, fun h => absurd h (by decide), Rel_th h hc 1⟩
  obtain ⟨l, hl, rfl⟩ := bw_ex (by decide) w1
  obtain ⟨k1, k2⟩ := RW_ky h6 hl
  have fin : ∀ b : Bool, (b = true → ¬ twin N x 5 (n32 l)) → Rel (c + 1) (ui x 17 l (bi b)) (ui (th y 0) 18 l (bi b)) := fun b hb => by
    refine Rel_W h hc (fun a k q => gi_no (by omega)) (fun _ _ => rfl) (fun a k q => by rw [gi_no (by omega), th_ne (by omega)]) (fun hW => RW_ky1 (RW_th hW) hl b) (fun M hM hQ => ?_)
    have e := RN_one h2 hM
    subst e
    obtain ⟨q1, q2⟩ := hQ
    have hlv : lv (ui x 17 l (bi b)) = lv x := lv_cg fun k => gi_no (by omega)
    refine ⟨fun k hk => ?_, fun l' a d hl' had hd hk ha4 hd4 hla hld => ?_⟩
    · rw [gi_no (by omega)]
      exact q1 k hk
    · rw [hlv] at hla hld
      rw [gi_no (by omega)] at ha4 hd4
      rw [gi_no (by omega), gi_no (by omega)]
      by_cases e : l' = l
      · subst e
        rw [gi_ui_eq, bi_1] at hk
        exact fun q => hb hk ⟨a, d, had, hd, hla, hld, ha4, hd4, q⟩
      · rw [gi_no (by omega)] at hk
        exact q2 l' a d hl' had hd hk ha4 hd4 hla hld
  obtain ⟨b1, e1, t1⟩ := c_hasTwins h2.2.1 h2.1 (n32 l) 5
  obtain ⟨b2, e2, t2⟩ := r_isUnlike h2 (n32 l)
  cases hk : ky x l
  · rw [hk] at k1 k2
    have k1 : gi x 17 l = n32 0 := k1
    have k2 : gi y 18 l = n32 0 := k2
    cases b1
    · have hno : ¬ twin N x 5 (n32 l) := fun q => by cases t1.mpr q
      have hb2 : b2 = true := by
        cases b2
        · exact absurd (t2.mp rfl) hno
        · rfl
      subst hb2
      refine ⟨0, ui x 17 l (bi true), 1, true, ui (th y 0) 18 l (bi true), ?_, ?_, rfl, fun _ => rfl, fin true fun _ => hno⟩
      · simp (disch := omega) only [eq_self, n_le, n_lt, n_inj, n_nat, gd_in, n_add, bi_z, bi_1, gd_bi, n_nonneg,  some_bind, lt_e, lit_NV, if_true, if_false, ite_true, ite_false, Option.bind_some, not_true, not_false_iff, lit_0, lit_1, lit_2, lit_3, lit_4, lit_5, lit_6, lit_7, lit_8, lit_12, lit_24, lit_25, lit_30, lit_60, lit_63, lit_96, lit_100, lit_512, lit_240, Sum.elim_inl, k1, e1, gi_yes, gd_t, Nat.one_ne_zero]
        rfl
      · simp (disch := omega) only [eq_self, n_le, n_lt, n_inj, n_nat, gd_in, n_add, bi_z, bi_1, gd_bi, n_nonneg,  some_bind, lt_e, lit_NV, if_true, if_false, ite_true, ite_false, Option.bind_some, not_true, not_false_iff, lit_0, lit_1, lit_2, lit_3, lit_4, lit_5, lit_6, lit_7, lit_8, lit_12, lit_24, lit_25, lit_30, lit_60, lit_63, lit_96, lit_100, lit_512, lit_240, Bool.true_eq_false, k2, e2, r_fails0, gi_yes, gd_t, th_ne]
        rfl
    · have hb2 : b2 = false := t2.mpr (t1.mp rfl)
      subst hb2
      refine ⟨2, x, v, false, th y 2, ?_, ?_, rfl, fun h => absurd h (by decide), Rel_th h hc 2⟩
      · simp (disch := omega) only [eq_self, n_le, n_lt, n_inj, n_nat, gd_in, n_add, bi_z, bi_1, gd_bi, n_nonneg,  some_bind, lt_e, lit_NV, if_true, if_false, ite_true, ite_false, Option.bind_some, not_true, not_false_iff, lit_0, lit_1, lit_2, lit_3, lit_4, lit_5, lit_6, lit_7, lit_8, lit_12, lit_24, lit_25, lit_30, lit_60, lit_63, lit_96, lit_100, lit_512, lit_240, Sum.elim_inl, k1, e1, Bool.true_eq_false, Sum.elim_inr]
        rfl
      · simp (disch := omega) only [eq_self, n_le, n_lt, n_inj, n_nat, gd_in, n_add, bi_z, bi_1, gd_bi, n_nonneg,  some_bind, lt_e, lit_NV, if_true, if_false, ite_true, ite_false, Option.bind_some, not_true, not_false_iff, lit_0, lit_1, lit_2, lit_3, lit_4, lit_5, lit_6, lit_7, lit_8, lit_12, lit_24, lit_25, lit_30, lit_60, lit_63, lit_96, lit_100, lit_512, lit_240, Bool.true_eq_false, k2, e2, r_fails2, Nat.one_ne_zero]
        rfl
  · rw [hk] at k1 k2
    have k1 : gi x 17 l = n32 1 := k1
    have k2 : gi y 18 l = n32 1 := k2
    refine ⟨0, ui x 17 l (bi false), 0, false, ui (th y 0) 18 l (bi false), ?_, ?_, rfl, fun _ => rfl, fin false fun q => by cases q⟩
    · simp (disch := omega) only [eq_self, n_le, n_lt, n_inj, n_nat, gd_in, n_add, bi_z, bi_1, gd_bi, n_nonneg,  some_bind, lt_e, lit_NV, if_true, if_false, ite_true, ite_false, Option.bind_some, not_true, not_false_iff, lit_0, lit_1, lit_2, lit_3, lit_4, lit_5, lit_6, lit_7, lit_8, lit_12, lit_24, lit_25, lit_30, lit_60, lit_63, lit_96, lit_100, lit_512, lit_240, Sum.elim_inl, k1, gi_yes, gd_t, Nat.one_ne_zero]
      rfl
    · simp (disch := omega) only [eq_self, n_le, n_lt, n_inj, n_nat, gd_in, n_add, bi_z, bi_1, gd_bi, n_nonneg,  some_bind, lt_e, lit_NV, if_true, if_false, ite_true, ite_false, Option.bind_some, not_true, not_false_iff, lit_0, lit_1, lit_2, lit_3, lit_4, lit_5, lit_6, lit_7, lit_8, lit_12, lit_24, lit_25, lit_30, lit_60, lit_63, lit_96, lit_100, lit_512, lit_240, Bool.true_eq_false, k2, r_fails0, gi_yes, gd_t, th_ne, Nat.one_ne_zero]
      rfl
