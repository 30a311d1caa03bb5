/-- the reference's state with its last exception -/
def th (y : St) (c : Int32) : St := ui y 0 50 c
theorem gi_th (y : St) (c : Int32) (a k : Nat) : gi (th y c) a k = if a = 0 ∧ k = 50 then c else gi y a k := rfl
theorem th_ne {y : St} {c : Int32} {a k : Nat} (h : a ≠ 0 ∨ k ≠ 50) : gi (th y c) a k = gi y a k := by
  rw [gi_th, if_neg (fun q => by rcases h with h | h; exact h q.1; exact h q.2)]
theorem RN_th {N : Nat} {x y : St} {c : Int32} (h : RN N x y) : RN N x (th y c) := by
  unfold RN at *
  simpa [gi_th] using h
theorem RE_th {N E : Nat} {x y : St} {c : Int32} (h : RE N E x y) : RE N E x (th y c) := by
  unfold RE at *
  simpa [gi_th] using h
theorem RT_th {T : Nat} {x y : St} {c : Int32} (h : RT T x y) : RT T x (th y c) := by
  unfold RT at *
  simpa [gi_th] using h
theorem RM_th {N : Nat} {x y : St} {c : Int32} (h : RM N x y) : RM N x (th y c) := by
  unfold RM at *
  simpa [gi_th] using h
theorem RW_th {x y : St} {c : Int32} (h : RW x y) : RW x (th y c) := by
  unfold RW at *
  simpa [gi_th] using h
theorem r_fails (y : St) (c : Int32) : fX11_fails y c = some (if c ≤ 0 then n32 0 else n32 1, th y c) := by
  unfold fX11_fails
  show (if c ≤ 0 then _ else _) = _
  split <;> rfl
theorem r_fails0 (y : St) : fX11_fails y (n32 0) = some (n32 0, th y (n32 0)) := rfl
theorem r_fails1 (y : St) : fX11_fails y (n32 1) = some (n32 1, th y (n32 1)) := rfl
theorem r_fails2 (y : St) : fX11_fails y (n32 2) = some (n32 1, th y (n32 2)) := rfl
theorem r_fails3 (y : St) : fX11_fails y (n32 3) = some (n32 1, th y (n32 3)) := rfl
/-- a helper and the reference agree, for calls that answer an int; the states behind them have Q -/
def agI (zC : Option (Int32 × LX)) (zR : Option (Int32 × St)) (Q : St → St → Prop) : Prop := ∃ (c : Int32) (x' : St) (v' : Int64) (r : Int32) (y' : St), zC = some (c, x', v') ∧ zR = some (r, y') ∧ gi y' 0 50 = c ∧ (c = 0 → v' = r.toInt64) ∧ Q x' y'
theorem lg_self (v : Int64) : lg_cmp v v = 0 := by
  unfold lg_cmp
  simp
theorem law_I {zC : Option (Int32 × LX)} {zR : Option (Int32 × St)} {Q : St → St → Prop} (h : agI zC zR Q) : ∃ z : LL, (zC.bind fun z1 => zR.bind fun z2 => (fX11_thrown z2.2).bind fun z3 => if z3 = z1.1 then if z1.1 = 0 then if lg_cmp z1.2.2 z2.1.toInt64 = 0 then some (z1.2.1, z2.2, z1.2.2) else none else some (z1.2.1, z2.2, z1.2.2) else none) = some z ∧ Q z.1 z.2.1 := by
  obtain ⟨c, x', v', r, y', rfl, rfl, h3, h4, h5⟩ := h
  refine ⟨(x', y', v'), ?_, h5⟩
  show (if gi y' 0 50 = c then if c = 0 then if lg_cmp v' r.toInt64 = 0 then _ else none else _ else none) = _
  rw [if_pos h3]
  by_cases h : c = 0
  · rw [if_pos h, h4 h, lg_self, if_pos rfl]
  · rw [if_neg h]
/-- the same for calls that answer yes or no -/
def agZ (zC : Option (Int32 × LX)) (zR : Option (Int32 × St)) (Q : St → St → Prop) : Prop := ∃ (c : Int32) (x' : St) (v' : Int64) (b : Bool) (y' : St), zC = some (c, x', v') ∧ zR = some (bi b, y') ∧ gi y' 0 50 = c ∧ (c = 0 → v' = if b then 1 else 0) ∧ Q x' y'
theorem law_Z {zC : Option (Int32 × LX)} {zR : Option (Int32 × St)} {Q : St → St → Prop} (h : agZ zC zR Q) : ∃ z : LL, (zC.bind fun z1 => zR.bind fun z2 => (fX11_thrown z2.2).bind fun z3 => if z3 = z1.1 then if z1.1 = 0 then if z2.1 = 0 then if lg_cmp z1.2.2 (0 : Int64) = 0 then some (z1.2.1, z2.2, z1.2.2) else none else if lg_cmp z1.2.2 (1 : Int64) = 0 then some (z1.2.1, z2.2, z1.2.2) else none else some (z1.2.1, z2.2, z1.2.2) else none) = some z ∧ Q z.1 z.2.1 := by
  obtain ⟨c, x', v', b, y', rfl, rfl, h3, h4, h5⟩ := h
  refine ⟨(x', y', v'), ?_, h5⟩
  show (if gi y' 0 50 = c then if c = 0 then if bi b = 0 then if lg_cmp v' 0 = 0 then _ else none else if lg_cmp v' 1 = 0 then _ else none else _ else none) = _
  rw [if_pos h3]
  by_cases h : c = 0
  · rw [if_pos h, h4 h]
    cases b <;> simp [bi_z0, lg_self]
  · rw [if_neg h]
def agV (zC : Option (Int32 × LX)) (zR : Option St) (Q : St → St → Prop) : Prop := ∃ (c : Int32) (x' : St) (v' : Int64) (y' : St), zC = some (c, x', v') ∧ zR = some y' ∧ gi y' 0 50 = c ∧ Q x' y'
theorem law_V {zC : Option (Int32 × LX)} {zR : Option St} {Q : St → St → Prop} (h : agV zC zR Q) : ∃ z : LL, (zC.bind fun z1 => zR.bind fun z2 => (fX11_thrown z2).bind fun z3 => if z3 = z1.1 then some (z1.2.1, z2, z1.2.2) else none) = some z ∧ Q z.1 z.2.1 := by
  obtain ⟨c, x', v', y', rfl, rfl, h3, h5⟩ := h
  refine ⟨(x', y', v'), ?_, h5⟩
  show (if gi y' 0 50 = c then _ else none) = _
  rw [if_pos h3]
/-- a call that changes nothing but the reference's last exception -/
def agQ (zC : Option (Int32 × LX)) (zR : Option (Int32 × St)) (x y : St) : Prop := ∃ (c : Int32) (v' : Int64) (r : Int32), zC = some (c, x, v') ∧ zR = some (r, th y c) ∧ (c = 0 → v' = r.toInt64)
theorem agQ.I {zC : Option (Int32 × LX)} {zR : Option (Int32 × St)} {x y : St} {Q : St → St → Prop} (h : agQ zC zR x y) (hQ : ∀ c, Q x (th y c)) : agI zC zR Q := by
  obtain ⟨c, v', r, h1, h2, h3⟩ := h
  exact ⟨c, x, v', r, th y c, h1, h2, rfl, h3, hQ c⟩
theorem c_reqNode {x : St} {N : Nat} (hc : gi x 1 2 = n32 N) (hN : N ≤ 24) (a : Int32) : fX10_requireNode x a = some (if nd N x a then .inl () else .inr 0) := by
  unfold fX10_requireNode
  rw [c_isThereN hc hN, some_bind]
  cases nd N x a <;> rfl
/-- an int below a number -/
def bw (n : Nat) (a : Int32) : Bool := decide (¬ a < 0 ∧ a < n32 n)
theorem bw_ex {n : Nat} {a : Int32} (hn : n < 2 ^ 31) (h : bw n a = true) : ∃ k, k < n ∧ a = n32 k := n_below hn (of_decide_eq_true h)
theorem c_reqLabel {x : St} (a : Int32) : fX10_requireLabel x a = some (if bw 4 a then .inl () else .inr 0) := by
  unfold fX10_requireLabel fX10_requireLabel_j9 bw
  by_cases h1 : a < 0
  · rw [if_pos h1, decide_eq_false (fun q => q.1 h1)]; rfl
  · rw [if_neg h1]
    by_cases h2 : a < 4
    · rw [if_pos h2, decide_eq_true ⟨h1, h2⟩]; rfl
    · rw [if_neg h2, decide_eq_false (fun q => h2 q.2)]; rfl
theorem c_reqMachine {x : St} (a : Int32) : fX10_requireMachine x a = some (if bw 3 a then .inl () else .inr 0) := by
  unfold fX10_requireMachine fX10_requireMachine_j9 bw
  by_cases h1 : a < 0
  · rw [if_pos h1, decide_eq_false (fun q => q.1 h1)]; rfl
  · rw [if_neg h1]
    by_cases h2 : a < 3
    · rw [if_pos h2, decide_eq_true ⟨h1, h2⟩]; rfl
    · rw [if_neg h2, decide_eq_false (fun q => h2 q.2)]; rfl
theorem r_isLabel {y : St} (a : Int32) : fX11_isLabel y a = some (bi (bw 4 a)) := by
  unfold fX11_isLabel
  rw [show fX11_isIn y a 0 3 = _ from r_isIn (y := y) (a := a) (n := 4) (by decide), some_bind]
  exact gd_bi
theorem r_isMachine {y : St} (a : Int32) : fX11_isMachine y a = some (bi (bw 3 a)) := by
  unfold fX11_isMachine
  rw [show fX11_isIn y a 0 2 = _ from r_isIn (y := y) (a := a) (n := 3) (by decide), some_bind]
  exact gd_bi
/-! ### machine, mark -/
theorem q_machine {N : Nat} {x y : St} {v : Int64} (hR : RN N x y) (hM : RM N x y) (a : Int32) : agQ (fL_machine x v a) (fX11_machine y a) x y := by
  obtain ⟨hN, hc, -⟩ := id hR
  unfold fL_machine fX10_machine fX11_machine fX11_machine_j14
  rw [c_reqNode hc hN, r_isNode hR]
  cases h : nd N x a
  · exact ⟨1, v, 0, rfl, rfl, fun h => absurd h (by decide)⟩
  · obtain ⟨k, hk, rfl, -⟩ := nd_ex hN h
    refine ⟨0, (gi x 21 k).toInt64, gi x 21 k, ?_, ?_, fun _ => rfl⟩
    · simp (disch := omega) only [eq_self, n_le, n_lt, n_inj, n_nat, gd_in, n_add, bi_z, bi_1, gd_bi, n_nonneg,  some_bind, lt_e, lit_NV, if_true, if_false, ite_true, ite_false, Option.bind_some, not_true, not_false_iff, lit_0, lit_1, lit_2, lit_3, lit_4, lit_5, lit_6, lit_7, lit_8, lit_12, lit_24, lit_25, lit_30, lit_60, lit_63, lit_96, lit_100, lit_512, lit_240, Sum.elim_inl]
    · simp (disch := omega) only [eq_self, n_le, n_lt, n_inj, n_nat, gd_in, n_add, bi_z, bi_1, gd_bi, n_nonneg,  some_bind, lt_e, lit_NV, if_true, if_false, ite_true, ite_false, Option.bind_some, not_true, not_false_iff, lit_0, lit_1, lit_2, lit_3, lit_4, lit_5, lit_6, lit_7, lit_8, lit_12, lit_24, lit_25, lit_30, lit_60, lit_63, lit_96, lit_100, lit_512, lit_240, r_fails0, th_ne, hM.1]
      rfl
theorem q_mark {N : Nat} {x y : St} {v : Int64} (hR : RN N x y) (hK : ∀ k, k < N → gi y 7 k = gi x 54 k) (a : Int32) : agQ (fL_mark x v a) (fX11_mark y a) x y := by
  obtain ⟨hN, hc, -⟩ := id hR
  unfold fL_mark fX10_mark fX11_mark fX11_mark_j14
  rw [c_reqNode hc hN, r_isNode hR]
  cases h : nd N x a
  · exact ⟨1, v, 0, rfl, rfl, fun h => absurd h (by decide)⟩
  · obtain ⟨k, hk, rfl, -⟩ := nd_ex hN h
    refine ⟨0, (gi x 54 k).toInt64, gi x 54 k, ?_, ?_, fun _ => rfl⟩
    · simp (disch := omega) only [eq_self, n_le, n_lt, n_inj, n_nat, gd_in, n_add, bi_z, bi_1, gd_bi, n_nonneg,  some_bind, lt_e, lit_NV, if_true, if_false, ite_true, ite_false, Option.bind_some, not_true, not_false_iff, lit_0, lit_1, lit_2, lit_3, lit_4, lit_5, lit_6, lit_7, lit_8, lit_12, lit_24, lit_25, lit_30, lit_60, lit_63, lit_96, lit_100, lit_512, lit_240, Sum.elim_inl]
    · simp (disch := omega) only [eq_self, n_le, n_lt, n_inj, n_nat, gd_in, n_add, bi_z, bi_1, gd_bi, n_nonneg,  some_bind, lt_e, lit_NV, if_true, if_false, ite_true, ite_false, Option.bind_some, not_true, not_false_iff, lit_0, lit_1, lit_2, lit_3, lit_4, lit_5, lit_6, lit_7, lit_8, lit_12, lit_24, lit_25, lit_30, lit_60, lit_63, lit_96, lit_100, lit_512, lit_240, r_fails0, th_ne, hK k hk]
      rfl
