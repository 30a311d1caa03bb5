/-- an edge's ends and label, as naturals -/
def fr (x : St) (e : Nat) : Nat := (gi x 13 e).toNatClampNeg
def tt (x : St) (e : Nat) : Nat := (gi x 15 e).toNatClampNeg
def kl (x : St) (e : Nat) : Nat := (gi x 14 e).toNatClampNeg
theorem RE_at {N E : Nat} {x y : St} (h : RE N E x y) (hN : N ≤ 24) {e : Nat} (he : e < E) : gi x 13 e = n32 (fr x e) ∧ gi x 15 e = n32 (tt x e) ∧ gi x 14 e = n32 (kl x e) ∧ fr x e < N ∧ tt x e < N ∧ kl x e < 4 := by
  obtain ⟨-, -, -, -, -, -, -, -, hh⟩ := h
  obtain ⟨a, b, l, h1, h2, h3, h4, h5, h6⟩ := hh e he
  unfold fr tt kl
  rw [h4, h5, h6, n_nat (by omega), n_nat (by omega), n_nat (by omega)]
  exact ⟨rfl, rfl, rfl, h1, h2, h3⟩
/-- a node's machine, whether a machine is up -/
def ho (x : St) (k : Nat) : Nat := (gi x 21 k).toNatClampNeg
def up (x : St) (m : Nat) : Bool := decide (gi x 22 m = n32 1)
theorem RM_ho {N : Nat} {x y : St} (h : RM N x y) {k : Nat} (hk : k < N) : gi x 21 k = n32 (ho x k) ∧ ho x k < 3 := by
  obtain ⟨m, h1, h2⟩ := h.2.1 k hk
  unfold ho
  rw [h2, n_nat (by omega)]
  exact ⟨rfl, h1⟩
theorem RM_up {N : Nat} {x y : St} (h : RM N x y) {m : Nat} (hm : m < 3) : gi x 22 m = bi (up x m) ∧ gi y 21 m = bi (!up x m) := by
  obtain ⟨b, h1, h2⟩ := h.2.2 m hm
  have : up x m = b := by
    unfold up
    rw [h1]
    cases b <;> decide
  rw [this]
  exact ⟨h1, h2⟩
/-- an edge that is there between two machines -/
def ctE (x : St) (e : Nat) : Bool := le x e && !decide (gi x 21 (fr x e) = gi x 21 (tt x e))
theorem c_isCut {N E : Nat} {x y : St} (hN : N ≤ 24) (h : RE N E x y) {e : Nat} (he : e < E) : fX3_isCut x (n32 e) = some (bi !decide (gi x 21 (fr x e) = gi x 21 (tt x e))) := by
  obtain ⟨h1, h2, -, h4, h5, -⟩ := RE_at h hN he
  have := h.1
  unfold fX3_isCut
  simp (disch := omega) only [eq_self, n_le, n_lt, n_inj, n_nat, gd_in, n_add, bi_z, bi_1, gd_bi, n_nonneg,  some_bind, lt_e, lit_NV, if_true, if_false, ite_true, ite_false, Option.bind_some, not_true, not_false_iff, lit_0, lit_1, lit_2, lit_3, lit_4, lit_5, lit_6, lit_7, lit_8, lit_12, lit_24, lit_25, lit_30, lit_60, lit_63, lit_96, lit_100, lit_512, lit_240, h1, h2]
  split <;> simp_all [bi]
theorem c_cut {N E : Nat} {x y : St} (hN : N ≤ 24) (h : RE N E x y) : fX10_cut x = some (n32 (cnt (ctE x) E)) := by
  have hE := h.1
  have hc := h.2.1
  unfold fX10_cut
  rw [lit_0, loop_cnt E (ctE x) (fun k a hk ha => ?_) (fun a ha => ?_)]
  · rfl
  · unfold fX10_cut_l4 fX10_cut_j40
    simp (disch := omega) only [eq_self, n_le, n_lt, n_inj, n_nat, gd_in, n_add, bi_z, bi_1, gd_bi, n_nonneg,  some_bind, lt_e, lit_NV, if_true, if_false, ite_true, ite_false, Option.bind_some, not_true, not_false_iff, lit_0, lit_1, lit_2, lit_3, lit_4, lit_5, lit_6, lit_7, lit_8, lit_12, lit_24, lit_25, lit_30, lit_60, lit_63, lit_96, lit_100, lit_512, lit_240, hc, c_isThereE hc hE, ed_n hE hk, Nat.not_le.mpr hk, c_isCut hN h hk]
    unfold ctE
    cases h1 : le x k <;> by_cases h2 : gi x 21 (fr x k) = gi x 21 (tt x k) <;> simp [h2]
  · unfold fX10_cut_l4
    simp (disch := omega) only [eq_self, n_le, n_lt, n_inj, n_nat, gd_in, n_add, bi_z, bi_1, gd_bi, n_nonneg,  some_bind, lt_e, lit_NV, if_true, if_false, ite_true, ite_false, Option.bind_some, not_true, not_false_iff, lit_0, lit_1, lit_2, lit_3, lit_4, lit_5, lit_6, lit_7, lit_8, lit_12, lit_24, lit_25, lit_30, lit_60, lit_63, lit_96, lit_100, lit_512, lit_240, hc, Nat.le_refl]
theorem r_cuts {N E : Nat} {x y : St} (hN : N ≤ 24) (h : RE N E x y) (hm : ∀ k, gi y 3 k = gi x 21 k) : fX11_cuts y = some (n32 (cnt (ctE x) E)) := by
  have hE := h.1
  obtain ⟨-, -, hc, hf, ht, -⟩ := id h
  unfold fX11_cuts
  rw [lit_0, loop_cnt E (ctE x) (fun k a hk ha => ?_) (fun a ha => ?_)]
  · rfl
  · obtain ⟨h1, h2, -, h4, h5, -⟩ := RE_at h hN hk
    unfold fX11_cuts_l4 fX11_cuts_j51 fX11_cuts_j50 fX11_cuts_j51
    simp (disch := omega) only [eq_self, n_le, n_lt, n_inj, n_nat, gd_in, n_add, bi_z, bi_1, gd_bi, n_nonneg,  some_bind, lt_e, lit_NV, if_true, if_false, ite_true, ite_false, Option.bind_some, not_true, not_false_iff, lit_0, lit_1, lit_2, lit_3, lit_4, lit_5, lit_6, lit_7, lit_8, lit_12, lit_24, lit_25, lit_30, lit_60, lit_63, lit_96, lit_100, lit_512, lit_240, hc, r_isEdge h, ed_n hE hk, Nat.not_le.mpr hk, hf, ht, h1, h2, hm]
    unfold ctE
    cases h1 : le x k <;> by_cases h2 : gi x 21 (fr x k) = gi x 21 (tt x k) <;> simp [h2]
  · unfold fX11_cuts_l4
    simp (disch := omega) only [eq_self, n_le, n_lt, n_inj, n_nat, gd_in, n_add, bi_z, bi_1, gd_bi, n_nonneg,  some_bind, lt_e, lit_NV, if_true, if_false, ite_true, ite_false, Option.bind_some, not_true, not_false_iff, lit_0, lit_1, lit_2, lit_3, lit_4, lit_5, lit_6, lit_7, lit_8, lit_12, lit_24, lit_25, lit_30, lit_60, lit_63, lit_96, lit_100, lit_512, lit_240, hc, Nat.le_refl]
theorem r_size {y : St} (s : Int32) : fX11_size y s = some (n32 (cnt (hs s) 24)) := by
  unfold fX11_size
  rw [lit_0, loop_cnt 24 (hs s) (fun k a hk ha => ?_) (fun a ha => ?_)]
  · rfl
  · unfold fX11_size_l4 fX11_size_j24
    simp (disch := omega) only [eq_self, n_le, n_lt, n_inj, n_nat, gd_in, n_add, bi_z, bi_1, gd_bi, n_nonneg,  some_bind, lt_e, lit_NV, if_true, if_false, ite_true, ite_false, Option.bind_some, not_true, not_false_iff, lit_0, lit_1, lit_2, lit_3, lit_4, lit_5, lit_6, lit_7, lit_8, lit_12, lit_24, lit_25, lit_30, lit_60, lit_63, lit_96, lit_100, lit_512, lit_240, Nat.not_le.mpr hk, r_has s (show k < 32 by omega)]
    cases h1 : hs s k <;> simp
  · unfold fX11_size_l4
    simp (disch := omega) only [eq_self, n_le, n_lt, n_inj, n_nat, gd_in, n_add, bi_z, bi_1, gd_bi, n_nonneg,  some_bind, lt_e, lit_NV, if_true, if_false, ite_true, ite_false, Option.bind_some, not_true, not_false_iff, lit_0, lit_1, lit_2, lit_3, lit_4, lit_5, lit_6, lit_7, lit_8, lit_12, lit_24, lit_25, lit_30, lit_60, lit_63, lit_96, lit_100, lit_512, lit_240, Nat.le_refl]
/-- the nodes that are there and on machines that are up (all: wherever) -/
def rc (all : Bool) (N : Nat) (x : St) : Int32 := gat (fun k => lv x k && (all || up x (ho x k))) bit1 N
theorem c_reach {N : Nat} {x y : St} (hR : RN N x y) (hM : RM N x y) : fX3_reachable x = some (rc false N x) := by
  obtain ⟨hN, hc, -⟩ := id hR
  unfold fX3_reachable rc
  rw [lit_0, loop_gat N (fun k => lv x k && (false || up x (ho x k))) bit1 (fun k a hk => ?_) (fun a => ?_)]
  · rfl
  · obtain ⟨h1, h2⟩ := RM_ho hM hk
    unfold fX3_reachable_l4 fX3_reachable_j47
    simp (disch := omega) only [eq_self, n_le, n_lt, n_inj, n_nat, gd_in, n_add, bi_z, bi_1, gd_bi, n_nonneg,  some_bind, lt_e, lit_NV, if_true, if_false, ite_true, ite_false, Option.bind_some, not_true, not_false_iff, lit_0, lit_1, lit_2, lit_3, lit_4, lit_5, lit_6, lit_7, lit_8, lit_12, lit_24, lit_25, lit_30, lit_60, lit_63, lit_96, lit_100, lit_512, lit_240, hc, c_isThereN hc hN, nd_n hN hk, Nat.not_le.mpr hk, h1, (RM_up hM h2).1, c_bit]
    cases h1 : lv x k <;> cases h2 : up x (ho x k) <;> simp
  · unfold fX3_reachable_l4
    simp (disch := omega) only [eq_self, n_le, n_lt, n_inj, n_nat, gd_in, n_add, bi_z, bi_1, gd_bi, n_nonneg,  some_bind, lt_e, lit_NV, if_true, if_false, ite_true, ite_false, Option.bind_some, not_true, not_false_iff, lit_0, lit_1, lit_2, lit_3, lit_4, lit_5, lit_6, lit_7, lit_8, lit_12, lit_24, lit_25, lit_30, lit_60, lit_63, lit_96, lit_100, lit_512, lit_240, hc, Nat.le_refl]
theorem r_reached {N : Nat} {x y : St} (hR : RN N x y) (hM : RM N x y) (all : Bool) : fX11_reached y (bi all) = some (rc all N x) := by
  obtain ⟨hN, -, hc, -⟩ := id hR
  unfold fX11_reached rc
  rw [lit_0, loop_gat N (fun k => lv x k && (all || up x (ho x k))) bit1 (fun k a hk => ?_) (fun a => ?_)]
  · rfl
  · obtain ⟨h1, h2⟩ := RM_ho hM hk
    unfold fX11_reached_l4 fX11_reached_j45 fX11_reached_j39 fX11_reached_j46
    simp (disch := omega) only [eq_self, n_le, n_lt, n_inj, n_nat, gd_in, n_add, bi_z, bi_1, gd_bi, n_nonneg,  some_bind, lt_e, lit_NV, if_true, if_false, ite_true, ite_false, Option.bind_some, not_true, not_false_iff, lit_0, lit_1, lit_2, lit_3, lit_4, lit_5, lit_6, lit_7, lit_8, lit_12, lit_24, lit_25, lit_30, lit_60, lit_63, lit_96, lit_100, lit_512, lit_240, hc, r_isNode hR, nd_n hN hk, Nat.not_le.mpr hk, hM.1, h1, (RM_up hM h2).2]
    have h0 : a ||| n32 0 = a := Int32.or_zero
    cases all <;> cases h1 : lv x k <;> cases h2 : up x (ho x k) <;> simp [h0, bit1, n32]
  · unfold fX11_reached_l4
    simp (disch := omega) only [eq_self, n_le, n_lt, n_inj, n_nat, gd_in, n_add, bi_z, bi_1, gd_bi, n_nonneg,  some_bind, lt_e, lit_NV, if_true, if_false, ite_true, ite_false, Option.bind_some, not_true, not_false_iff, lit_0, lit_1, lit_2, lit_3, lit_4, lit_5, lit_6, lit_7, lit_8, lit_12, lit_24, lit_25, lit_30, lit_60, lit_63, lit_96, lit_100, lit_512, lit_240, hc, Nat.le_refl]
/-- the machine that is up with the fewest nodes, from the first k on -/
def emb (N : Nat) (x : St) (k : Nat) (o : Option Nat) : Option Nat := if up x k && (match o with | none => true | some b => decide (ld N x (n32 k) < ld N x (n32 b))) then some k else o
def emp (N : Nat) (x : St) : Option Nat := fold (emb N x) none 3
def oi : Option Nat → Int32
  | none => -n32 1
  | some k => n32 k
theorem emb_spec {N : Nat} {x : St} {k : Nat} {q : Option Nat} {o : Nat} (h : emb N x k q = some o) : (o = k ∧ up x k = true) ∨ q = some o := by
  unfold emb at h
  cases hu : up x k
  · rw [hu] at h
    exact Or.inr h
  · rw [hu] at h
    cases q with
    | none => cases h; exact Or.inl ⟨rfl, rfl⟩
    | some b =>
      by_cases hl : ld N x (n32 k) < ld N x (n32 b)
      · rw [if_pos (by simp [hl])] at h
        cases h; exact Or.inl ⟨rfl, rfl⟩
      · rw [if_neg (by simp [hl])] at h
        exact Or.inr h
theorem emp_lt {N : Nat} {x : St} : ∀ n o, fold (emb N x) none n = some o → o < n ∧ up x o = true
  | 0, o, h => by cases h
  | n + 1, o, h => by
    rcases emb_spec (show emb N x n (fold (emb N x) none n) = some o from h) with ⟨rfl, h2⟩ | h2
    · exact ⟨Nat.lt_succ_self _, h2⟩
    · have := emp_lt n o h2
      exact ⟨by omega, this.2⟩
theorem n_ne_m1 {k : Nat} (h : k < 2 ^ 31) : ¬ n32 k = -n32 1 := fun e => by
  have h1 := congrArg Int32.toInt e
  rw [n_toInt h] at h1
  have : (-n32 1 : Int32).toInt = -1 := by decide
  omega
theorem c_emptiest {N : Nat} {x y : St} (hR : RN N x y) (hM : RM N x y) : fX3_emptiest x = some (oi (emp N x)) := by
  obtain ⟨hN, hc, -⟩ := id hR
  have := loop_fold (step := fX3_emptiest_l7 x) 3 (fun o k => (oi o, (match o with | none => n32 25 | some b => n32 (ld N x (n32 b))), n32 k)) (emb N x) (fun k o => True) (a0 := none) (out := fun o => (oi o, (match o with | none => n32 25 | some b => n32 (ld N x (n32 b))), n32 3)) trivial
    (fun k o hk _ => ⟨by
      unfold fX3_emptiest_l7 fX3_emptiest_j39 emb
      have h1 := ld_le N x (n32 k)
      simp (disch := omega) only [eq_self, n_le, n_lt, n_inj, n_nat, gd_in, n_add, bi_z, bi_1, gd_bi, n_nonneg,  some_bind, lt_e, lit_NV, if_true, if_false, ite_true, ite_false, Option.bind_some, not_true, not_false_iff, lit_0, lit_1, lit_2, lit_3, lit_4, lit_5, lit_6, lit_7, lit_8, lit_12, lit_24, lit_25, lit_30, lit_60, lit_63, lit_96, lit_100, lit_512, lit_240, c_load hc hN, Nat.not_le.mpr hk, (RM_up hM hk).1]
      cases hu : up x k
      · simp
      · cases o with
        | none =>
          simp (disch := omega) only [eq_self, n_le, n_lt, n_inj, n_nat, gd_in, n_add, bi_z, bi_1, gd_bi, n_nonneg,  some_bind, lt_e, lit_NV, if_true, if_false, ite_true, ite_false, Option.bind_some, not_true, not_false_iff, lit_0, lit_1, lit_2, lit_3, lit_4, lit_5, lit_6, lit_7, lit_8, lit_12, lit_24, lit_25, lit_30, lit_60, lit_63, lit_96, lit_100, lit_512, lit_240]
          simp [show ¬ 25 ≤ ld N x (n32 k) by omega]
          rfl
        | some b =>
          have h2 := ld_le N x (n32 b)
          simp (disch := omega) only [eq_self, n_le, n_lt, n_inj, n_nat, gd_in, n_add, bi_z, bi_1, gd_bi, n_nonneg,  some_bind, lt_e, lit_NV, if_true, if_false, ite_true, ite_false, Option.bind_some, not_true, not_false_iff, lit_0, lit_1, lit_2, lit_3, lit_4, lit_5, lit_6, lit_7, lit_8, lit_12, lit_24, lit_25, lit_30, lit_60, lit_63, lit_96, lit_100, lit_512, lit_240]
          by_cases h3 : ld N x (n32 b) ≤ ld N x (n32 k)
          · simp [h3, show ¬ ld N x (n32 k) < ld N x (n32 b) by omega]
          · simp [h3, show ld N x (n32 k) < ld N x (n32 b) by omega]
            rfl, trivial⟩)
    (fun o _ => by
      unfold fX3_emptiest_l7
      simp (disch := omega) only [eq_self, n_le, n_lt, n_inj, n_nat, gd_in, n_add, bi_z, bi_1, gd_bi, n_nonneg,  some_bind, lt_e, lit_NV, if_true, if_false, ite_true, ite_false, Option.bind_some, not_true, not_false_iff, lit_0, lit_1, lit_2, lit_3, lit_4, lit_5, lit_6, lit_7, lit_8, lit_12, lit_24, lit_25, lit_30, lit_60, lit_63, lit_96, lit_100, lit_512, lit_240, Nat.le_refl])
  unfold fX3_emptiest
  have h9 : loopF (fX3_emptiest_l7 x) (-1, 25, 0) = _ := this.1
  rw [h9]
  rfl
theorem r_emptiest {N : Nat} {x y : St} (hR : RN N x y) (hM : RM N x y) : fX11_emptiest y = some (oi (emp N x)) := by
  obtain ⟨hN, hc, -⟩ := id hR
  have := loop_fold (step := fX11_emptiest_l4 y) 3 (fun o k => (oi o, n32 k)) (emb N x) (fun k o => ∀ b, o = some b → b < 3) (a0 := none) (out := fun o => (oi o, n32 3)) (fun b h => by cases h)
    (fun k o hk ho => ⟨by
      unfold fX11_emptiest_l4 fX11_emptiest_j40 fX11_emptiest_j36 fX11_emptiest_j41 emb
      have h1 := ld_le N x (n32 k)
      simp (disch := omega) only [eq_self, n_le, n_lt, n_inj, n_nat, gd_in, n_add, bi_z, bi_1, gd_bi, n_nonneg,  some_bind, lt_e, lit_NV, if_true, if_false, ite_true, ite_false, Option.bind_some, not_true, not_false_iff, lit_0, lit_1, lit_2, lit_3, lit_4, lit_5, lit_6, lit_7, lit_8, lit_12, lit_24, lit_25, lit_30, lit_60, lit_63, lit_96, lit_100, lit_512, lit_240, r_nodesOn hR hM.1, Nat.not_le.mpr hk, (RM_up hM hk).2]
      cases hu : up x k
      · simp
      · cases o with
        | none => simp [oi]
        | some b =>
          have h2 := ld_le N x (n32 b)
          have hb := ho b rfl
          simp (disch := omega) only [eq_self, n_le, n_lt, n_inj, n_nat, gd_in, n_add, bi_z, bi_1, gd_bi, n_nonneg,  some_bind, lt_e, lit_NV, if_true, if_false, ite_true, ite_false, Option.bind_some, not_true, not_false_iff, lit_0, lit_1, lit_2, lit_3, lit_4, lit_5, lit_6, lit_7, lit_8, lit_12, lit_24, lit_25, lit_30, lit_60, lit_63, lit_96, lit_100, lit_512, lit_240, r_nodesOn hR hM.1, oi, n_ne_m1 (show b < 2 ^ 31 by omega), Bool.not_true]
          by_cases h3 : ld N x (n32 b) ≤ ld N x (n32 k)
          · simp [h3, show ¬ ld N x (n32 k) < ld N x (n32 b) by omega]
          · simp [h3, show ld N x (n32 k) < ld N x (n32 b) by omega], fun b h => by
      rcases emb_spec h with ⟨rfl, -⟩ | h2
      · exact hk
      · exact ho b h2⟩)
    (fun o _ => by
      unfold fX11_emptiest_l4
      simp (disch := omega) only [eq_self, n_le, n_lt, n_inj, n_nat, gd_in, n_add, bi_z, bi_1, gd_bi, n_nonneg,  some_bind, lt_e, lit_NV, if_true, if_false, ite_true, ite_false, Option.bind_some, not_true, not_false_iff, lit_0, lit_1, lit_2, lit_3, lit_4, lit_5, lit_6, lit_7, lit_8, lit_12, lit_24, lit_25, lit_30, lit_60, lit_63, lit_96, lit_100, lit_512, lit_240, Nat.le_refl])
  unfold fX11_emptiest
  have h9 : loopF (fX11_emptiest_l4 y) (-1, 0) = _ := this.1
  rw [h9]
  rfl
