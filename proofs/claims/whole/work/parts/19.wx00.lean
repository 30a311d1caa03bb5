set_option maxHeartbeats 4000000 in
set_option maxRecDepth 100000 in
theorem wX10_requireLabel_j9 {p : Program} {l : Launch} {e : Env} {s : State} {m : MethodId} {args : Array Value} {below : List Frame} {meth : Method} {c : Code} {A : Nat → Prop} {D : DD} {base B : Nat} (hF : KF D base cX10_requireLabel RX10 A 1 1 6 p l e ({ frames := 6, cells := 1, slots := 6, locals := 90 } : Room) s m args below meth c) (hA : ∀ q, RA B shpC q → A q) (hbs : base ≤ B) {σ : St} {a0 : Int32} {z : (Unit ⊕ Nat)} (h : fX10_requireLabel_j9 σ a0 = some z) (hr : meth.sig.returnType = none) (hT : ∀ x ∈ c.exceptionTable.toList, False) (hl : l.stackTraces = false) : KJ (Rep D B shpC) A 1 1 6 (vx_MQ below (QX D B shpC A (Sum.elim (fun v => .inl (none)) (fun n => .inr n) z) σ) (XX D B shpC A (Sum.elim (fun v => .inl (none)) (fun n => .inr n) z) σ) args s 1 6 A) p l e ({ frames := 6, cells := 1, slots := 6, locals := 90 } : Room) s m args below meth c 1 6 9 [some (.int a0)] [] σ := by
  unfold fX10_requireLabel_j9 at h
  cases h
  exact k_throw hF hl hT tw_257_261 ss_393 dX10_requireLabel_9 dX10_requireLabel_12 (.inr ⟨dX10_requireLabel_13, dX10_requireLabel_16, dX10_requireLabel_19⟩) (by decide) (Nat.le_of_ble_eq_true rfl) (by decide) (by decide)
set_option maxHeartbeats 4000000 in
set_option maxRecDepth 100000 in
theorem wX10_requireLabel {p : Program} {l : Launch} {e : Env} {s : State} {m : MethodId} {args : Array Value} {below : List Frame} {meth : Method} {c : Code} {A : Nat → Prop} {D : DD} {base B : Nat} (hF : KF D base cX10_requireLabel RX10 A 1 1 6 p l e ({ frames := 6, cells := 1, slots := 6, locals := 90 } : Room) s m args below meth c) (hA : ∀ q, RA B shpC q → A q) (hbs : base ≤ B) {σ : St} {a0 : Int32} {z : (Unit ⊕ Nat)} (h : fX10_requireLabel σ a0 = some z) (hr : meth.sig.returnType = none) (hT : ∀ x ∈ c.exceptionTable.toList, False) (hl : l.stackTraces = false) : KJ (Rep D B shpC) A 1 1 6 (vx_MQ below (QX D B shpC A (Sum.elim (fun v => .inl (none)) (fun n => .inr n) z) σ) (XX D B shpC A (Sum.elim (fun v => .inl (none)) (fun n => .inr n) z) σ) args s 1 6 A) p l e ({ frames := 6, cells := 1, slots := 6, locals := 90 } : Room) s m args below meth c 1 6 0 [some (.int a0)] [] σ := by
  unfold fX10_requireLabel at h
  refine k_iload_n hF dX10_requireLabel_0 rfl ?_
  refine k_if_lt hF (tgt := 9) dX10_requireLabel_1 (by decide) (fun c1 => ?_) (fun c1 => ?_)
  · replace h := ite_t c1 h
    exact wX10_requireLabel_j9 hF hA hbs h hr hT hl
  · replace h := ite_f c1 h
    refine k_iload_n hF dX10_requireLabel_4 rfl ?_
    refine k_iconst hF dX10_requireLabel_5 ci_4 ?_
    refine k_icmp_lt hF (tgt := 20) dX10_requireLabel_6 (by decide) (fun c2 => ?_) (fun c2 => ?_)
    · replace h := ite_t c2 h
      cases h
      exact k_xvret hF hr dX10_requireLabel_20
    · replace h := ite_f c2 h
      exact wX10_requireLabel_j9 hF hA hbs h hr hT hl
theorem ct_X10_requireLabel {l : Launch} (hl : l.stackTraces = false) {D : DD} {base B : Nat} (hbs : base ≤ B) {σ : St} {a0 : Int32} {r : (Unit ⊕ Nat)} (h : fX10_requireLabel σ a0 = some r) : MetX l D B shpC base yX10_requireLabel cX10_requireLabel 1 none 6 90 1 6 [.int a0] σ (Sum.elim (fun v => .inl (none)) (fun n => .inr n) r) σ :=
  MetX.of (by decide +kernel) (fun v hv => by simp only [List.mem_cons, List.not_mem_nil, or_false] at hv; rcases hv with rfl <;> rfl) (Nat.le_of_ble_eq_true rfl) hbs (fun p e s m args below meth c hF hr hT => wX10_requireLabel hF (fun q hq => hq) hbs h hr hT hl)
set_option maxHeartbeats 4000000 in
set_option maxRecDepth 100000 in
theorem wX10_node {p : Program} {l : Launch} {e : Env} {s : State} {m : MethodId} {args : Array Value} {below : List Frame} {meth : Method} {c : Code} {A : Nat → Prop} {D : DD} {base B : Nat} (hF : KF D base cX10_node RX10 A 5 2 12 p l e ({ frames := 7, cells := 2, slots := 12, locals := 110 } : Room) s m args below meth c) (hA : ∀ q, RA B shpC q → A q) (hbs : base ≤ B) {σ : St} {a1 : Int32} {a2 : Int32} {z : ((Int32 × St) ⊕ (Nat × St))} (h : fX10_node σ a1 a2 = some z) (hr : meth.sig.returnType = (some .int)) (hT : ∀ x ∈ c.exceptionTable.toList, False) (hl : l.stackTraces = false) : KJ (Rep D B shpC) A 5 2 12 (vx_MQ below (QX D B shpC A (Sum.elim (fun v => .inl (some (.int v.1))) (fun n => .inr n.1) z) (Sum.elim (fun v => v.2) (fun n => n.2) z)) (XX D B shpC A (Sum.elim (fun v => .inl (some (.int v.1))) (fun n => .inr n.1) z) (Sum.elim (fun v => v.2) (fun n => n.2) z)) args s 2 12 A) p l e ({ frames := 7, cells := 2, slots := 12, locals := 110 } : Room) s m args below meth c 2 12 0 [some (.ref (B + 0)), some (.int a1), some (.int a2), none, none] [] σ := by
  unfold fX10_node at h
  refine k_iload_n hF dX10_node_0 rfl ?_
  obtain ⟨v1, hv1, h⟩ := bind_some h
  rcases v1 with v2 | n3
  · dsimp only [Sum.elim_inl] at h
    refine k_xS_r hF hA 1 6 (as := [.int a1]) (ct_X10_requireLabel hl hbs hv1) ms_X10_91 rfl rfl ⟨Nat.le_of_ble_eq_true rfl, Nat.le_of_ble_eq_true rfl⟩ (Nat.le_of_ble_eq_true rfl) dX10_node_1 (by decide) (by decide) ?_
    refine k_st (st2 := []) rfl ?_
    refine k_aload_n hF dX10_node_4 rfl ?_
    refine k_get hF (v := .ref (B + 1)) shC_0 fl_X10_19_X10 dX10_node_5 rfl ?_
    refine k_get hF (v := .int (gi σ 1 2)) shC_1 fl_X10_95_X6 dX10_node_8 rfl ?_
    refine k_bipush hF (v := (24 : Int32)) dX10_node_11 (by decide) ?_
    refine k_icmp_lt hF (tgt := 26) dX10_node_13 (by decide) (fun c4 => ?_) (fun c4 => ?_)
    · replace h := ite_t c4 h
      refine k_aload_n hF dX10_node_26 rfl ?_
      refine k_get hF (v := .ref (B + 20)) shC_0 fl_X10_44_X10 dX10_node_27 rfl ?_
      obtain ⟨v5, hv5, h⟩ := bind_some h
      refine k_callV hF hA (as := []) (ct_X3_emptiest hbs hv5) mv_X10_105 shC_20 rfl rfl rfl ⟨Nat.le_of_ble_eq_true rfl, Nat.le_of_ble_eq_true rfl⟩ (Nat.le_of_ble_eq_true rfl) dX10_node_30 ?_
      refine k_st (st2 := [.int v5]) rfl ?_
      refine k_istore_n hF (L' := [some (.ref (B + 0)), some (.int a1), some (.int a2), some (.int v5), none]) dX10_node_33 (by decide) rfl ?_
      refine k_iload_n hF dX10_node_34 rfl ?_
      refine k_iconst hF dX10_node_35 ci_m1 ?_
      refine k_icmp_ne hF (tgt := 49) dX10_node_36 (by decide) (fun c6 => ?_) (fun c6 => ?_)
      · replace h := ite_f c6 h
        refine k_aload_n hF dX10_node_49 rfl ?_
        refine k_get hF (v := .ref (B + 16)) shC_0 fl_X10_35_X10 dX10_node_50 rfl ?_
        refine k_iload_n hF dX10_node_53 rfl ?_
        refine k_iload_n hF dX10_node_54 rfl ?_
        refine k_iconst hF dX10_node_55 ci_m1 ?_
        obtain ⟨v7, hv7, h⟩ := bind_some h
        refine k_callV hF hA (as := [.int a1, .int a2, .int (-1 : Int32)]) (ct_X2_isTaken hbs hv7) mv_X10_111 shC_16 rfl rfl rfl ⟨Nat.le_of_ble_eq_true rfl, Nat.le_of_ble_eq_true rfl⟩ (Nat.le_of_ble_eq_true rfl) dX10_node_56 ?_
        refine k_st (st2 := [.int v7]) rfl ?_
        refine k_if_eq hF (tgt := 72) dX10_node_59 (by decide) (fun c8 => ?_) (fun c8 => ?_)
        · replace h := ite_t c8 h
          refine k_aload_n hF dX10_node_72 rfl ?_
          refine k_dup hF dX10_node_73 rfl ?_
          refine k_get hF (v := .int (gi σ 0 11)) shC_0 fl_X10_13_X10 dX10_node_74 rfl ?_
          refine k_iconst hF dX10_node_77 ci_1 ?_
          refine k_iadd hF dX10_node_78 ?_
          refine k_putI hF hA shC_0 fp_X10_13_X10 dX10_node_79 rfl rfl rfl ?_
          obtain ⟨σ9, hσ9, h⟩ := lt_some h
          refine k_sig hσ9 ?_
          refine k_aload_n hF dX10_node_82 rfl ?_
          refine k_get hF (v := .ref (B + 1)) shC_0 fl_X10_19_X10 dX10_node_83 rfl ?_
          refine k_iload_n hF dX10_node_86 rfl ?_
          refine k_iload_n hF dX10_node_87 rfl ?_
          refine k_aload_n hF dX10_node_88 rfl ?_
          refine k_get hF (v := .int (gi σ9 0 11)) shC_0 fl_X10_13_X10 dX10_node_89 rfl ?_
          obtain ⟨v10, hv10, h⟩ := bind_some h
          refine k_callV hF hA (as := [.int a1, .int a2, .int (gi σ9 0 11)]) (ct_X6_add hbs hv10) mv_X10_117 shC_1 rfl rfl rfl ⟨Nat.le_of_ble_eq_true rfl, Nat.le_of_ble_eq_true rfl⟩ (Nat.le_of_ble_eq_true rfl) dX10_node_92 ?_
          refine k_st (st2 := [.int v10.1]) rfl ?_
          refine k_istore hF (L' := [some (.ref (B + 0)), some (.int a1), some (.int a2), some (.int v5), some (.int v10.1)]) dX10_node_95 (by decide) rfl ?_
          refine k_aload_n hF dX10_node_97 rfl ?_
          refine k_get hF (v := .ref (B + 20)) shC_0 fl_X10_44_X10 dX10_node_98 rfl ?_
          refine k_get hF (v := .ref (B + 21)) shC_20 fl_X10_121_X3 dX10_node_101 rfl ?_
          refine k_iload hF dX10_node_104 rfl ?_
          refine k_iload_n hF dX10_node_106 rfl ?_
          obtain ⟨g11, h⟩ := gd_some h
          refine k_iast hF hA shC_21 dX10_node_107 g11 ?_
          obtain ⟨σ12, hσ12, h⟩ := lt_some h
          refine k_sig hσ12 ?_
          refine k_aload_n hF dX10_node_108 rfl ?_
          refine k_get hF (v := .ref (B + 53)) shC_0 fl_X10_69_X10 dX10_node_109 rfl ?_
          refine k_iload hF dX10_node_112 rfl ?_
          obtain ⟨v13, hv13, h⟩ := bind_some h
          refine k_callV hF hA (as := [.int v10.1]) (ct_X4_comeTo hbs hv13) mv_X10_124 shC_53 rfl rfl rfl ⟨Nat.le_of_ble_eq_true rfl, Nat.le_of_ble_eq_true rfl⟩ (Nat.le_of_ble_eq_true rfl) dX10_node_114 ?_
          refine k_st (st2 := []) rfl ?_
          refine k_iload hF dX10_node_117 rfl ?_
          cases h
          exact k_xiret hF hr rfl dX10_node_119
        · replace h := ite_f c8 h
          cases h
          exact k_throw hF hl hT tw_98_102 ss_115 dX10_node_62 dX10_node_65 (.inl ⟨dX10_node_66, dX10_node_68, dX10_node_71⟩) (by decide) (Nat.le_of_ble_eq_true rfl) (by decide) (by decide)
      · replace h := ite_t c6 h
        cases h
        exact k_throw hF hl hT tw_98_102 ss_109 dX10_node_39 dX10_node_42 (.inl ⟨dX10_node_43, dX10_node_45, dX10_node_48⟩) (by decide) (Nat.le_of_ble_eq_true rfl) (by decide) (by decide)
    · replace h := ite_f c4 h
      cases h
      exact k_throw hF hl hT tw_98_102 ss_100 dX10_node_16 dX10_node_19 (.inl ⟨dX10_node_20, dX10_node_22, dX10_node_25⟩) (by decide) (Nat.le_of_ble_eq_true rfl) (by decide) (by decide)
  · replace h : some (.inr (n3, σ)) = some z := h
    cases h
    exact k_xS_x hF hA hT (as := [.int a1]) (ct_X10_requireLabel hl hbs hv1) ms_X10_91 rfl rfl ⟨Nat.le_of_ble_eq_true rfl, Nat.le_of_ble_eq_true rfl⟩ (Nat.le_of_ble_eq_true rfl) dX10_node_1 (by decide) (by decide)
theorem ct_X10_node {l : Launch} (hl : l.stackTraces = false) {D : DD} {base B : Nat} (hbs : base ≤ B) {σ : St} {a1 : Int32} {a2 : Int32} {r : ((Int32 × St) ⊕ (Nat × St))} (h : fX10_node σ a1 a2 = some r) : MetX l D B shpC base yX10_node cX10_node 5 (some .int) 7 110 2 12 [.ref (B + 0), .int a1, .int a2] σ (Sum.elim (fun v => .inl (some (.int v.1))) (fun n => .inr n.1) r) (Sum.elim (fun v => v.2) (fun n => n.2) r) :=
  MetX.of (by decide +kernel) (fun v hv => by simp only [List.mem_cons, List.not_mem_nil, or_false] at hv; rcases hv with rfl | rfl | rfl <;> rfl) (Nat.le_of_ble_eq_true rfl) hbs (fun p e s m args below meth c hF hr hT => wX10_node hF (fun q hq => hq) hbs h hr hT hl)
set_option maxHeartbeats 4000000 in
set_option maxRecDepth 100000 in
theorem wX10_requireNode {p : Program} {l : Launch} {e : Env} {s : State} {m : MethodId} {args : Array Value} {below : List Frame} {meth : Method} {c : Code} {A : Nat → Prop} {D : DD} {base B : Nat} (hF : KF D base cX10_requireNode RX10 A 2 1 6 p l e ({ frames := 6, cells := 1, slots := 6, locals := 90 } : Room) s m args below meth c) (hA : ∀ q, RA B shpC q → A q) (hbs : base ≤ B) {σ : St} {a1 : Int32} {z : (Unit ⊕ Nat)} (h : fX10_requireNode σ a1 = some z) (hr : meth.sig.returnType = none) (hT : ∀ x ∈ c.exceptionTable.toList, False) (hl : l.stackTraces = false) : KJ (Rep D B shpC) A 2 1 6 (vx_MQ below (QX D B shpC A (Sum.elim (fun v => .inl (none)) (fun n => .inr n) z) σ) (XX D B shpC A (Sum.elim (fun v => .inl (none)) (fun n => .inr n) z) σ) args s 1 6 A) p l e ({ frames := 6, cells := 1, slots := 6, locals := 90 } : Room) s m args below meth c 1 6 0 [some (.ref (B + 0)), some (.int a1)] [] σ := by
  unfold fX10_requireNode at h
  refine k_aload_n hF dX10_requireNode_0 rfl ?_
  refine k_get hF (v := .ref (B + 1)) shC_0 fl_X10_19_X10 dX10_requireNode_1 rfl ?_
  refine k_iload_n hF dX10_requireNode_4 rfl ?_
  obtain ⟨v1, hv1, h⟩ := bind_some h
  refine k_callU hF hA (as := [.int a1]) (ct_X7_isThereN hbs hv1) mu_X10_395 shC_1 rfl rfl rfl ⟨Nat.le_of_ble_eq_true rfl, Nat.le_of_ble_eq_true rfl⟩ (Nat.le_of_ble_eq_true rfl) dX10_requireNode_5 ?_
  refine k_st (st2 := [.int v1]) rfl ?_
  refine k_if_ne hF (tgt := 22) dX10_requireNode_8 (by decide) (fun c2 => ?_) (fun c2 => ?_)
  · replace h := ite_f c2 h
    cases h
    exact k_xvret hF hr dX10_requireNode_22
  · replace h := ite_t c2 h
    cases h
    exact k_throw hF hl hT tw_257_261 ss_396 dX10_requireNode_11 dX10_requireNode_14 (.inr ⟨dX10_requireNode_15, dX10_requireNode_18, dX10_requireNode_21⟩) (by decide) (Nat.le_of_ble_eq_true rfl) (by decide) (by decide)
theorem ct_X10_requireNode {l : Launch} (hl : l.stackTraces = false) {D : DD} {base B : Nat} (hbs : base ≤ B) {σ : St} {a1 : Int32} {r : (Unit ⊕ Nat)} (h : fX10_requireNode σ a1 = some r) : MetX l D B shpC base yX10_requireNode cX10_requireNode 2 none 6 90 1 6 [.ref (B + 0), .int a1] σ (Sum.elim (fun v => .inl (none)) (fun n => .inr n) r) σ :=
  MetX.of (by decide +kernel) (fun v hv => by simp only [List.mem_cons, List.not_mem_nil, or_false] at hv; rcases hv with rfl | rfl <;> rfl) (Nat.le_of_ble_eq_true rfl) hbs (fun p e s m args below meth c hF hr hT => wX10_requireNode hF (fun q hq => hq) hbs h hr hT hl)
set_option maxHeartbeats 4000000 in
set_option maxRecDepth 100000 in
theorem wX10_edge {p : Program} {l : Launch} {e : Env} {s : State} {m : MethodId} {args : Array Value} {below : List Frame} {meth : Method} {c : Code} {A : Nat → Prop} {D : DD} {base B : Nat} (hF : KF D base cX10_edge RX10 A 5 4 24 p l e ({ frames := 7, cells := 4, slots := 24, locals := 111 } : Room) s m args below meth c) (hA : ∀ q, RA B shpC q → A q) (hbs : base ≤ B) {σ : St} {a1 : Int32} {a2 : Int32} {a3 : Int32} {z : ((Int32 × St) ⊕ (Nat × St))} (h : fX10_edge σ a1 a2 a3 = some z) (hr : meth.sig.returnType = (some .int)) (hT : ∀ x ∈ c.exceptionTable.toList, False) (hl : l.stackTraces = false) : KJ (Rep D B shpC) A 5 4 24 (vx_MQ below (QX D B shpC A (Sum.elim (fun v => .inl (some (.int v.1))) (fun n => .inr n.1) z) (Sum.elim (fun v => v.2) (fun n => n.2) z)) (XX D B shpC A (Sum.elim (fun v => .inl (some (.int v.1))) (fun n => .inr n.1) z) (Sum.elim (fun v => v.2) (fun n => n.2) z)) args s 4 24 A) p l e ({ frames := 7, cells := 4, slots := 24, locals := 111 } : Room) s m args below meth c 4 24 0 [some (.ref (B + 0)), some (.int a1), some (.int a2), some (.int a3), none] [] σ := by
  unfold fX10_edge at h
  refine k_aload_n hF dX10_edge_0 rfl ?_
  refine k_iload_n hF dX10_edge_1 rfl ?_
  obtain ⟨v1, hv1, h⟩ := bind_some h
  rcases v1 with v2 | n3
  · dsimp only [Sum.elim_inl] at h
    refine k_xV_r hF hA 3 18 (as := [.int a1]) (ct_X10_requireNode hl hbs hv1) mv_X10_127 shC_0 rfl rfl rfl ⟨Nat.le_of_ble_eq_true rfl, Nat.le_of_ble_eq_true rfl⟩ (Nat.le_of_ble_eq_true rfl) dX10_edge_2 (by decide) (by decide) ?_
    refine k_st (st2 := []) rfl ?_
    refine k_aload_n hF dX10_edge_5 rfl ?_
    refine k_iload_n hF dX10_edge_6 rfl ?_
    obtain ⟨v4, hv4, h⟩ := bind_some h
    rcases v4 with v5 | n6
    · dsimp only [Sum.elim_inl] at h
      refine k_xV_r hF hA 2 12 (as := [.int a3]) (ct_X10_requireNode hl hbs hv4) mv_X10_127 shC_0 rfl rfl rfl ⟨Nat.le_of_ble_eq_true rfl, Nat.le_of_ble_eq_true rfl⟩ (Nat.le_of_ble_eq_true rfl) dX10_edge_7 (by decide) (by decide) ?_
      refine k_st (st2 := []) rfl ?_
      refine k_iload_n hF dX10_edge_10 rfl ?_
      obtain ⟨v7, hv7, h⟩ := bind_some h
      rcases v7 with v8 | n9
      · dsimp only [Sum.elim_inl] at h
        refine k_xS_r hF hA 1 6 (as := [.int a2]) (ct_X10_requireLabel hl hbs hv7) ms_X10_91 rfl rfl ⟨Nat.le_of_ble_eq_true rfl, Nat.le_of_ble_eq_true rfl⟩ (Nat.le_of_ble_eq_true rfl) dX10_edge_11 (by decide) (by decide) ?_
        refine k_st (st2 := []) rfl ?_
        refine k_aload_n hF dX10_edge_14 rfl ?_
        refine k_get hF (v := .ref (B + 10)) shC_0 fl_X10_26_X10 dX10_edge_15 rfl ?_
        refine k_get hF (v := .int (gi σ 10 2)) shC_10 fl_X10_130_X0 dX10_edge_18 rfl ?_
        refine k_bipush hF (v := (60 : Int32)) dX10_edge_21 (by decide) ?_
        refine k_icmp_lt hF (tgt := 36) dX10_edge_23 (by decide) (fun c10 => ?_) (fun c10 => ?_)
        · replace h := ite_t c10 h
          refine k_aload_n hF dX10_edge_36 rfl ?_
          refine k_get hF (v := .ref (B + 16)) shC_0 fl_X10_35_X10 dX10_edge_37 rfl ?_
          refine k_iload_n hF dX10_edge_40 rfl ?_
          refine k_iload_n hF dX10_edge_41 rfl ?_
          refine k_iload_n hF dX10_edge_42 rfl ?_
          obtain ⟨v11, hv11, h⟩ := bind_some h
          refine k_callV hF hA (as := [.int a1, .int a2, .int a3]) (ct_X2_isAllowed hbs hv11) mv_X10_133 shC_16 rfl rfl rfl ⟨Nat.le_of_ble_eq_true rfl, Nat.le_of_ble_eq_true rfl⟩ (Nat.le_of_ble_eq_true rfl) dX10_edge_43 ?_
          refine k_st (st2 := [.int v11]) rfl ?_
          refine k_if_ne hF (tgt := 59) dX10_edge_46 (by decide) (fun c12 => ?_) (fun c12 => ?_)
          · replace h := ite_f c12 h
            refine k_aload_n hF dX10_edge_59 rfl ?_
            refine k_dup hF dX10_edge_60 rfl ?_
            refine k_get hF (v := .int (gi σ 0 11)) shC_0 fl_X10_13_X10 dX10_edge_61 rfl ?_
            refine k_iconst hF dX10_edge_64 ci_1 ?_
            refine k_iadd hF dX10_edge_65 ?_
            refine k_putI hF hA shC_0 fp_X10_13_X10 dX10_edge_66 rfl rfl rfl ?_
            obtain ⟨σ13, hσ13, h⟩ := lt_some h
            refine k_sig hσ13 ?_
            refine k_aload_n hF dX10_edge_69 rfl ?_
            refine k_iload_n hF dX10_edge_70 rfl ?_
            refine k_iload_n hF dX10_edge_71 rfl ?_
            refine k_iload_n hF dX10_edge_72 rfl ?_
            obtain ⟨v14, hv14, h⟩ := bind_some h
            refine k_callV hF hA (as := [.int a1, .int a2, .int a3]) (ct_X10_addEdge hbs hv14) mv_X10_138 shC_0 rfl rfl rfl ⟨Nat.le_of_ble_eq_true rfl, Nat.le_of_ble_eq_true rfl⟩ (Nat.le_of_ble_eq_true rfl) dX10_edge_73 ?_
            refine k_st (st2 := [.int v14.1]) rfl ?_
            refine k_istore hF (L' := [some (.ref (B + 0)), some (.int a1), some (.int a2), some (.int a3), some (.int v14.1)]) dX10_edge_76 (by decide) rfl ?_
            refine k_aload_n hF dX10_edge_78 rfl ?_
            refine k_get hF (v := .ref (B + 23)) shC_0 fl_X10_53_X10 dX10_edge_79 rfl ?_
            obtain ⟨v15, hv15, h⟩ := bind_some h
            refine k_callV hF hA (as := []) (ct_X1_inferAnew hbs hv15) mv_X10_141 shC_23 rfl rfl rfl ⟨Nat.le_of_ble_eq_true rfl, Nat.le_of_ble_eq_true rfl⟩ (Nat.le_of_ble_eq_true rfl) dX10_edge_82 ?_
            refine k_st (st2 := []) rfl ?_
            refine k_iload hF dX10_edge_85 rfl ?_
            cases h
            exact k_xiret hF hr rfl dX10_edge_87
          · replace h := ite_t c12 h
            cases h
            exact k_throw hF hl hT tw_98_102 ss_136 dX10_edge_49 dX10_edge_52 (.inl ⟨dX10_edge_53, dX10_edge_55, dX10_edge_58⟩) (by decide) (Nat.le_of_ble_eq_true rfl) (by decide) (by decide)
        · replace h := ite_f c10 h
          cases h
          exact k_throw hF hl hT tw_98_102 ss_131 dX10_edge_26 dX10_edge_29 (.inl ⟨dX10_edge_30, dX10_edge_32, dX10_edge_35⟩) (by decide) (Nat.le_of_ble_eq_true rfl) (by decide) (by decide)
      · replace h : some (.inr (n9, σ)) = some z := h
        cases h
        exact k_xS_x hF hA hT (as := [.int a2]) (ct_X10_requireLabel hl hbs hv7) ms_X10_91 rfl rfl ⟨Nat.le_of_ble_eq_true rfl, Nat.le_of_ble_eq_true rfl⟩ (Nat.le_of_ble_eq_true rfl) dX10_edge_11 (by decide) (by decide)
    · replace h : some (.inr (n6, σ)) = some z := h
      cases h
      exact k_xV_x hF hA hT (as := [.int a3]) (ct_X10_requireNode hl hbs hv4) mv_X10_127 shC_0 rfl rfl rfl ⟨Nat.le_of_ble_eq_true rfl, Nat.le_of_ble_eq_true rfl⟩ (Nat.le_of_ble_eq_true rfl) dX10_edge_7 (by decide) (by decide)
  · replace h : some (.inr (n3, σ)) = some z := h
    cases h
    exact k_xV_x hF hA hT (as := [.int a1]) (ct_X10_requireNode hl hbs hv1) mv_X10_127 shC_0 rfl rfl rfl ⟨Nat.le_of_ble_eq_true rfl, Nat.le_of_ble_eq_true rfl⟩ (Nat.le_of_ble_eq_true rfl) dX10_edge_2 (by decide) (by decide)
theorem ct_X10_edge {l : Launch} (hl : l.stackTraces = false) {D : DD} {base B : Nat} (hbs : base ≤ B) {σ : St} {a1 : Int32} {a2 : Int32} {a3 : Int32} {r : ((Int32 × St) ⊕ (Nat × St))} (h : fX10_edge σ a1 a2 a3 = some r) : MetX l D B shpC base yX10_edge cX10_edge 5 (some .int) 7 111 4 24 [.ref (B + 0), .int a1, .int a2, .int a3] σ (Sum.elim (fun v => .inl (some (.int v.1))) (fun n => .inr n.1) r) (Sum.elim (fun v => v.2) (fun n => n.2) r) :=
  MetX.of (by decide +kernel) (fun v hv => by simp only [List.mem_cons, List.not_mem_nil, or_false] at hv; rcases hv with rfl | rfl | rfl | rfl <;> rfl) (Nat.le_of_ble_eq_true rfl) hbs (fun p e s m args below meth c hF hr hT => wX10_edge hF (fun q hq => hq) hbs h hr hT hl)
set_option maxHeartbeats 4000000 in
set_option maxRecDepth 100000 in
theorem wX10_set {p : Program} {l : Launch} {e : Env} {s : State} {m : MethodId} {args : Array Value} {below : List Frame} {meth : Method} {c : Code} {A : Nat → Prop} {D : DD} {base B : Nat} (hF : KF D base cX10_set RX10 A 4 2 12 p l e ({ frames := 7, cells := 2, slots := 12, locals := 111 } : Room) s m args below meth c) (hA : ∀ q, RA B shpC q → A q) (hbs : base ≤ B) {σ : St} {a1 : Int32} {a2 : Int32} {z : ((Int32 × St) ⊕ (Nat × St))} (h : fX10_set σ a1 a2 = some z) (hr : meth.sig.returnType = (some .int)) (hT : ∀ x ∈ c.exceptionTable.toList, False) (hl : l.stackTraces = false) : KJ (Rep D B shpC) A 4 2 12 (vx_MQ below (QX D B shpC A (Sum.elim (fun v => .inl (some (.int v.1))) (fun n => .inr n.1) z) (Sum.elim (fun v => v.2) (fun n => n.2) z)) (XX D B shpC A (Sum.elim (fun v => .inl (some (.int v.1))) (fun n => .inr n.1) z) (Sum.elim (fun v => v.2) (fun n => n.2) z)) args s 2 12 A) p l e ({ frames := 7, cells := 2, slots := 12, locals := 111 } : Room) s m args below meth c 2 12 0 [some (.ref (B + 0)), some (.int a1), some (.int a2), none] [] σ := by
  unfold fX10_set at h
  refine k_aload_n hF dX10_set_0 rfl ?_
  refine k_iload_n hF dX10_set_1 rfl ?_
  obtain ⟨v1, hv1, h⟩ := bind_some h
  rcases v1 with v2 | n3
  · dsimp only [Sum.elim_inl] at h
    refine k_xV_r hF hA 1 6 (as := [.int a1]) (ct_X10_requireNode hl hbs hv1) mv_X10_127 shC_0 rfl rfl rfl ⟨Nat.le_of_ble_eq_true rfl, Nat.le_of_ble_eq_true rfl⟩ (Nat.le_of_ble_eq_true rfl) dX10_set_2 (by decide) (by decide) ?_
    refine k_st (st2 := []) rfl ?_
    refine k_aload_n hF dX10_set_5 rfl ?_
    refine k_get hF (v := .ref (B + 16)) shC_0 fl_X10_35_X10 dX10_set_6 rfl ?_
    refine k_aload_n hF dX10_set_9 rfl ?_
    refine k_get hF (v := .ref (B + 1)) shC_0 fl_X10_19_X10 dX10_set_10 rfl ?_
    refine k_get hF (v := .ref (B + 4)) shC_1 fl_X10_144_X6 dX10_set_13 rfl ?_
    refine k_iload_n hF dX10_set_16 rfl ?_
    obtain ⟨g4, h⟩ := gd_some h
    refine k_iald hF shC_4 dX10_set_17 g4 ?_
    refine k_iload_n hF dX10_set_18 rfl ?_
    refine k_iload_n hF dX10_set_19 rfl ?_
    obtain ⟨v5, hv5, h⟩ := bind_some h
    refine k_callV hF hA (as := [.int (gi σ 4 a1.toNatClampNeg), .int a2, .int a1]) (ct_X2_isTaken hbs hv5) mv_X10_111 shC_16 rfl rfl rfl ⟨Nat.le_of_ble_eq_true rfl, Nat.le_of_ble_eq_true rfl⟩ (Nat.le_of_ble_eq_true rfl) dX10_set_20 ?_
    refine k_st (st2 := [.int v5]) rfl ?_
    refine k_if_eq hF (tgt := 36) dX10_set_23 (by decide) (fun c6 => ?_) (fun c6 => ?_)
    · replace h := ite_t c6 h
      refine k_aload_n hF dX10_set_36 rfl ?_
      refine k_get hF (v := .ref (B + 1)) shC_0 fl_X10_19_X10 dX10_set_37 rfl ?_
      refine k_get hF (v := .ref (B + 5)) shC_1 fl_X10_147_X6 dX10_set_40 rfl ?_
      refine k_iload_n hF dX10_set_43 rfl ?_
      obtain ⟨g7, h⟩ := gd_some h
      refine k_iald hF shC_5 dX10_set_44 g7 ?_
      obtain ⟨n8, hn8, h⟩ := lt_some h
      refine k_st (st2 := [.int n8]) (by rw [hn8]) ?_
      refine k_istore_n hF (L' := [some (.ref (B + 0)), some (.int a1), some (.int a2), some (.int n8)]) dX10_set_45 (by decide) rfl ?_
      refine k_aload_n hF dX10_set_46 rfl ?_
      refine k_dup hF dX10_set_47 rfl ?_
      refine k_get hF (v := .int (gi σ 0 11)) shC_0 fl_X10_13_X10 dX10_set_48 rfl ?_
      refine k_iconst hF dX10_set_51 ci_1 ?_
      refine k_iadd hF dX10_set_52 ?_
      refine k_putI hF hA shC_0 fp_X10_13_X10 dX10_set_53 rfl rfl rfl ?_
      obtain ⟨σ9, hσ9, h⟩ := lt_some h
      refine k_sig hσ9 ?_
      refine k_aload_n hF dX10_set_56 rfl ?_
      refine k_get hF (v := .ref (B + 1)) shC_0 fl_X10_19_X10 dX10_set_57 rfl ?_
      refine k_iload_n hF dX10_set_60 rfl ?_
      refine k_iload_n hF dX10_set_61 rfl ?_
      refine k_aload_n hF dX10_set_62 rfl ?_
      refine k_get hF (v := .int (gi σ9 0 11)) shC_0 fl_X10_13_X10 dX10_set_63 rfl ?_
      obtain ⟨v10, hv10, h⟩ := bind_some h
      refine k_callV hF hA (as := [.int a1, .int a2, .int (gi σ9 0 11)]) (ct_X6_put hbs hv10) mv_X10_150 shC_1 rfl rfl rfl ⟨Nat.le_of_ble_eq_true rfl, Nat.le_of_ble_eq_true rfl⟩ (Nat.le_of_ble_eq_true rfl) dX10_set_66 ?_
      refine k_st (st2 := []) rfl ?_
      refine k_iload_n hF dX10_set_69 rfl ?_
      cases h
      exact k_xiret hF hr rfl dX10_set_70
    · replace h := ite_f c6 h
      cases h
      exact k_throw hF hl hT tw_98_102 ss_115 dX10_set_26 dX10_set_29 (.inl ⟨dX10_set_30, dX10_set_32, dX10_set_35⟩) (by decide) (Nat.le_of_ble_eq_true rfl) (by decide) (by decide)
  · replace h : some (.inr (n3, σ)) = some z := h
    cases h
    exact k_xV_x hF hA hT (as := [.int a1]) (ct_X10_requireNode hl hbs hv1) mv_X10_127 shC_0 rfl rfl rfl ⟨Nat.le_of_ble_eq_true rfl, Nat.le_of_ble_eq_true rfl⟩ (Nat.le_of_ble_eq_true rfl) dX10_set_2 (by decide) (by decide)
theorem ct_X10_set {l : Launch} (hl : l.stackTraces = false) {D : DD} {base B : Nat} (hbs : base ≤ B) {σ : St} {a1 : Int32} {a2 : Int32} {r : ((Int32 × St) ⊕ (Nat × St))} (h : fX10_set σ a1 a2 = some r) : MetX l D B shpC base yX10_set cX10_set 4 (some .int) 7 111 2 12 [.ref (B + 0), .int a1, .int a2] σ (Sum.elim (fun v => .inl (some (.int v.1))) (fun n => .inr n.1) r) (Sum.elim (fun v => v.2) (fun n => n.2) r) :=
  MetX.of (by decide +kernel) (fun v hv => by simp only [List.mem_cons, List.not_mem_nil, or_false] at hv; rcases hv with rfl | rfl | rfl <;> rfl) (Nat.le_of_ble_eq_true rfl) hbs (fun p e s m args below meth c hF hr hT => wX10_set hF (fun q hq => hq) hbs h hr hT hl)
set_option maxHeartbeats 4000000 in
set_option maxRecDepth 100000 in
theorem wX10_requireEdge {p : Program} {l : Launch} {e : Env} {s : State} {m : MethodId} {args : Array Value} {below : List Frame} {meth : Method} {c : Code} {A : Nat → Prop} {D : DD} {base B : Nat} (hF : KF D base cX10_requireEdge RX10 A 2 1 6 p l e ({ frames := 6, cells := 1, slots := 6, locals := 90 } : Room) s m args below meth c) (hA : ∀ q, RA B shpC q → A q) (hbs : base ≤ B) {σ : St} {a1 : Int32} {z : (Unit ⊕ Nat)} (h : fX10_requireEdge σ a1 = some z) (hr : meth.sig.returnType = none) (hT : ∀ x ∈ c.exceptionTable.toList, False) (hl : l.stackTraces = false) : KJ (Rep D B shpC) A 2 1 6 (vx_MQ below (QX D B shpC A (Sum.elim (fun v => .inl (none)) (fun n => .inr n) z) σ) (XX D B shpC A (Sum.elim (fun v => .inl (none)) (fun n => .inr n) z) σ) args s 1 6 A) p l e ({ frames := 6, cells := 1, slots := 6, locals := 90 } : Room) s m args below meth c 1 6 0 [some (.ref (B + 0)), some (.int a1)] [] σ := by
  unfold fX10_requireEdge at h
  refine k_aload_n hF dX10_requireEdge_0 rfl ?_
  refine k_get hF (v := .ref (B + 10)) shC_0 fl_X10_26_X10 dX10_requireEdge_1 rfl ?_
  refine k_iload_n hF dX10_requireEdge_4 rfl ?_
  obtain ⟨v1, hv1, h⟩ := bind_some h
  refine k_callU hF hA (as := [.int a1]) (ct_X7_isThereE hbs hv1) mu_X10_163 shC_10 rfl rfl rfl ⟨Nat.le_of_ble_eq_true rfl, Nat.le_of_ble_eq_true rfl⟩ (Nat.le_of_ble_eq_true rfl) dX10_requireEdge_5 ?_
  refine k_st (st2 := [.int v1]) rfl ?_
  refine k_if_ne hF (tgt := 22) dX10_requireEdge_8 (by decide) (fun c2 => ?_) (fun c2 => ?_)
  · replace h := ite_f c2 h
    cases h
    exact k_xvret hF hr dX10_requireEdge_22
  · replace h := ite_t c2 h
    cases h
    exact k_throw hF hl hT tw_257_261 ss_259 dX10_requireEdge_11 dX10_requireEdge_14 (.inr ⟨dX10_requireEdge_15, dX10_requireEdge_18, dX10_requireEdge_21⟩) (by decide) (Nat.le_of_ble_eq_true rfl) (by decide) (by decide)
theorem ct_X10_requireEdge {l : Launch} (hl : l.stackTraces = false) {D : DD} {base B : Nat} (hbs : base ≤ B) {σ : St} {a1 : Int32} {r : (Unit ⊕ Nat)} (h : fX10_requireEdge σ a1 = some r) : MetX l D B shpC base yX10_requireEdge cX10_requireEdge 2 none 6 90 1 6 [.ref (B + 0), .int a1] σ (Sum.elim (fun v => .inl (none)) (fun n => .inr n) r) σ :=
  MetX.of (by decide +kernel) (fun v hv => by simp only [List.mem_cons, List.not_mem_nil, or_false] at hv; rcases hv with rfl | rfl <;> rfl) (Nat.le_of_ble_eq_true rfl) hbs (fun p e s m args below meth c hF hr hT => wX10_requireEdge hF (fun q hq => hq) hbs h hr hT hl)
set_option maxHeartbeats 4000000 in
set_option maxRecDepth 100000 in
theorem wX10_dropEdge {p : Program} {l : Launch} {e : Env} {s : State} {m : MethodId} {args : Array Value} {below : List Frame} {meth : Method} {c : Code} {A : Nat → Prop} {D : DD} {base B : Nat} (hF : KF D base cX10_dropEdge RX10 A 2 1 6 p l e ({ frames := 7, cells := 1, slots := 6, locals := 112 } : Room) s m args below meth c) (hA : ∀ q, RA B shpC q → A q) (hbs : base ≤ B) {σ : St} {a1 : Int32} {z : ((Int32 × St) ⊕ (Nat × St))} (h : fX10_dropEdge σ a1 = some z) (hr : meth.sig.returnType = (some .int)) (hT : ∀ x ∈ c.exceptionTable.toList, False) (hl : l.stackTraces = false) : KJ (Rep D B shpC) A 2 1 6 (vx_MQ below (QX D B shpC A (Sum.elim (fun v => .inl (some (.int v.1))) (fun n => .inr n.1) z) (Sum.elim (fun v => v.2) (fun n => n.2) z)) (XX D B shpC A (Sum.elim (fun v => .inl (some (.int v.1))) (fun n => .inr n.1) z) (Sum.elim (fun v => v.2) (fun n => n.2) z)) args s 1 6 A) p l e ({ frames := 7, cells := 1, slots := 6, locals := 112 } : Room) s m args below meth c 1 6 0 [some (.ref (B + 0)), some (.int a1)] [] σ := by
  unfold fX10_dropEdge at h
  refine k_aload_n hF dX10_dropEdge_0 rfl ?_
  refine k_iload_n hF dX10_dropEdge_1 rfl ?_
  obtain ⟨v1, hv1, h⟩ := bind_some h
  rcases v1 with v2 | n3
  · dsimp only [Sum.elim_inl] at h
    refine k_xV_r hF hA 0 0 (as := [.int a1]) (ct_X10_requireEdge hl hbs hv1) mv_X10_154 shC_0 rfl rfl rfl ⟨Nat.le_of_ble_eq_true rfl, Nat.le_of_ble_eq_true rfl⟩ (Nat.le_of_ble_eq_true rfl) dX10_dropEdge_2 (by decide) (by decide) ?_
    refine k_st (st2 := []) rfl ?_
    refine k_aload_n hF dX10_dropEdge_5 rfl ?_
    refine k_dup hF dX10_dropEdge_6 rfl ?_
    refine k_get hF (v := .int (gi σ 0 11)) shC_0 fl_X10_13_X10 dX10_dropEdge_7 rfl ?_
    refine k_iconst hF dX10_dropEdge_10 ci_1 ?_
    refine k_iadd hF dX10_dropEdge_11 ?_
    refine k_putI hF hA shC_0 fp_X10_13_X10 dX10_dropEdge_12 rfl rfl rfl ?_
    obtain ⟨σ4, hσ4, h⟩ := lt_some h
    refine k_sig hσ4 ?_
    refine k_aload_n hF dX10_dropEdge_15 rfl ?_
    refine k_iload_n hF dX10_dropEdge_16 rfl ?_
    obtain ⟨v5, hv5, h⟩ := bind_some h
    refine k_callV hF hA (as := [.int a1]) (ct_X10_endEdge hbs hv5) mv_X10_157 shC_0 rfl rfl rfl ⟨Nat.le_of_ble_eq_true rfl, Nat.le_of_ble_eq_true rfl⟩ (Nat.le_of_ble_eq_true rfl) dX10_dropEdge_17 ?_
    refine k_st (st2 := []) rfl ?_
    refine k_aload_n hF dX10_dropEdge_20 rfl ?_
    obtain ⟨v6, hv6, h⟩ := bind_some h
    refine k_callV hF hA (as := []) (ct_X10_startAnew hbs hv6) mv_X10_160 shC_0 rfl rfl rfl ⟨Nat.le_of_ble_eq_true rfl, Nat.le_of_ble_eq_true rfl⟩ (Nat.le_of_ble_eq_true rfl) dX10_dropEdge_21 ?_
    refine k_st (st2 := []) rfl ?_
    refine k_aload_n hF dX10_dropEdge_24 rfl ?_
    refine k_get hF (v := .int (gi v6 0 11)) shC_0 fl_X10_13_X10 dX10_dropEdge_25 rfl ?_
    cases h
    exact k_xiret hF hr rfl dX10_dropEdge_28
  · replace h : some (.inr (n3, σ)) = some z := h
    cases h
    exact k_xV_x hF hA hT (as := [.int a1]) (ct_X10_requireEdge hl hbs hv1) mv_X10_154 shC_0 rfl rfl rfl ⟨Nat.le_of_ble_eq_true rfl, Nat.le_of_ble_eq_true rfl⟩ (Nat.le_of_ble_eq_true rfl) dX10_dropEdge_2 (by decide) (by decide)
theorem ct_X10_dropEdge {l : Launch} (hl : l.stackTraces = false) {D : DD} {base B : Nat} (hbs : base ≤ B) {σ : St} {a1 : Int32} {r : ((Int32 × St) ⊕ (Nat × St))} (h : fX10_dropEdge σ a1 = some r) : MetX l D B shpC base yX10_dropEdge cX10_dropEdge 2 (some .int) 7 112 1 6 [.ref (B + 0), .int a1] σ (Sum.elim (fun v => .inl (some (.int v.1))) (fun n => .inr n.1) r) (Sum.elim (fun v => v.2) (fun n => n.2) r) :=
  MetX.of (by decide +kernel) (fun v hv => by simp only [List.mem_cons, List.not_mem_nil, or_false] at hv; rcases hv with rfl | rfl <;> rfl) (Nat.le_of_ble_eq_true rfl) hbs (fun p e s m args below meth c hF hr hT => wX10_dropEdge hF (fun q hq => hq) hbs h hr hT hl)
set_option maxHeartbeats 4000000 in
set_option maxRecDepth 100000 in
theorem wX10_dropNode_j75 {p : Program} {l : Launch} {e : Env} {s : State} {m : MethodId} {args : Array Value} {below : List Frame} {meth : Method} {c : Code} {Q : State → Prop} {A : Nat → Prop} {D : DD} {base B : Nat} (hF : KF D base cX10_dropNode RX10 A 4 1 6 p l e ({ frames := 7, cells := 1, slots := 6, locals := 112 } : Room) s m args below meth c) (hA : ∀ q, RA B shpC q → A q) (hbs : base ≤ B) {σ : St} {a1 : Int32} {b2 : Int32} {b3 : Int32} {z : ((St × Int32 × Int32) ⊕ (St × Int32 × Int32))} (h : fX10_dropNode_j75 σ a1 b2 b3 = some z) (hc : ∀ x, z = .inl x → KJ (Rep D B shpC) A 4 1 6 Q p l e ({ frames := 7, cells := 1, slots := 6, locals := 112 } : Room) s m args below meth c 0 0 19 [some (.ref (B + 0)), some (.int a1), some (.int x.2.1), some (.int x.2.2)] [] x.1) (he : ∀ w, z = .inr w → KJ (Rep D B shpC) A 4 1 6 Q p l e ({ frames := 7, cells := 1, slots := 6, locals := 112 } : Room) s m args below meth c 0 0 81 [some (.ref (B + 0)), some (.int a1), some (.int w.2.1), some (.int w.2.2)] [] w.1) : KJ (Rep D B shpC) A 4 1 6 Q p l e ({ frames := 7, cells := 1, slots := 6, locals := 112 } : Room) s m args below meth c 0 0 75 [some (.ref (B + 0)), some (.int a1), some (.int b2), some (.int b3)] [] σ := by
  unfold fX10_dropNode_j75 at h
  refine k_iinc hF (v := (b3 + (1 : Int32))) (L' := [some (.ref (B + 0)), some (.int a1), some (.int b2), some (.int (b3 + (1 : Int32)))]) dX10_dropNode_75 rfl (by first | rfl | (congr 1)) (by decide) rfl ?_
  refine k_goto hF dX10_dropNode_78 (tgt := 19) (by decide) ?_
  exact hc _ (Option.some.inj h).symm
set_option maxHeartbeats 4000000 in
set_option maxRecDepth 100000 in
theorem wX10_dropNode_j67 {p : Program} {l : Launch} {e : Env} {s : State} {m : MethodId} {args : Array Value} {below : List Frame} {meth : Method} {c : Code} {Q : State → Prop} {A : Nat → Prop} {D : DD} {base B : Nat} (hF : KF D base cX10_dropNode RX10 A 4 1 6 p l e ({ frames := 7, cells := 1, slots := 6, locals := 112 } : Room) s m args below meth c) (hA : ∀ q, RA B shpC q → A q) (hbs : base ≤ B) {σ : St} {a1 : Int32} {b2 : Int32} {b3 : Int32} {z : ((St × Int32 × Int32) ⊕ (St × Int32 × Int32))} (h : fX10_dropNode_j67 σ a1 b2 b3 = some z) (hc : ∀ x, z = .inl x → KJ (Rep D B shpC) A 4 1 6 Q p l e ({ frames := 7, cells := 1, slots := 6, locals := 112 } : Room) s m args below meth c 0 0 19 [some (.ref (B + 0)), some (.int a1), some (.int x.2.1), some (.int x.2.2)] [] x.1) (he : ∀ w, z = .inr w → KJ (Rep D B shpC) A 4 1 6 Q p l e ({ frames := 7, cells := 1, slots := 6, locals := 112 } : Room) s m args below meth c 0 0 81 [some (.ref (B + 0)), some (.int a1), some (.int w.2.1), some (.int w.2.2)] [] w.1) : KJ (Rep D B shpC) A 4 1 6 Q p l e ({ frames := 7, cells := 1, slots := 6, locals := 112 } : Room) s m args below meth c 0 0 67 [some (.ref (B + 0)), some (.int a1), some (.int b2), some (.int b3)] [] σ := by
  unfold fX10_dropNode_j67 at h
  refine k_aload_n hF dX10_dropNode_67 rfl ?_
  refine k_iload_n hF dX10_dropNode_68 rfl ?_
  obtain ⟨v10, hv10, h⟩ := bind_some h
  refine k_callV hF hA (as := [.int b3]) (ct_X10_endEdge hbs hv10) mv_X10_157 shC_0 rfl rfl rfl ⟨Nat.le_of_ble_eq_true rfl, Nat.le_of_ble_eq_true rfl⟩ (Nat.le_of_ble_eq_true rfl) dX10_dropNode_69 ?_
  refine k_st (st2 := []) rfl ?_
  refine k_iinc hF (v := (b2 + (1 : Int32))) (L' := [some (.ref (B + 0)), some (.int a1), some (.int (b2 + (1 : Int32))), some (.int b3)]) dX10_dropNode_72 rfl (by first | rfl | (congr 1)) (by decide) rfl ?_
  exact wX10_dropNode_j75 hF hA hbs h hc he
set_option maxHeartbeats 4000000 in
set_option maxRecDepth 100000 in
theorem wX10_dropNode_l19 {p : Program} {l : Launch} {e : Env} {s : State} {m : MethodId} {args : Array Value} {below : List Frame} {meth : Method} {c : Code} {Q : State → Prop} {A : Nat → Prop} {D : DD} {base B : Nat} (hF : KF D base cX10_dropNode RX10 A 4 1 6 p l e ({ frames := 7, cells := 1, slots := 6, locals := 112 } : Room) s m args below meth c) (hA : ∀ q, RA B shpC q → A q) (hbs : base ≤ B) {σ : St} {a1 : Int32} {x : (St × Int32 × Int32)} {z : ((St × Int32 × Int32) ⊕ (St × Int32 × Int32))} (h : fX10_dropNode_l19 σ a1 x = some z) (hc : ∀ x, z = .inl x → KJ (Rep D B shpC) A 4 1 6 Q p l e ({ frames := 7, cells := 1, slots := 6, locals := 112 } : Room) s m args below meth c 0 0 19 [some (.ref (B + 0)), some (.int a1), some (.int x.2.1), some (.int x.2.2)] [] x.1) (he : ∀ w, z = .inr w → KJ (Rep D B shpC) A 4 1 6 Q p l e ({ frames := 7, cells := 1, slots := 6, locals := 112 } : Room) s m args below meth c 0 0 81 [some (.ref (B + 0)), some (.int a1), some (.int w.2.1), some (.int w.2.2)] [] w.1) : KJ (Rep D B shpC) A 4 1 6 Q p l e ({ frames := 7, cells := 1, slots := 6, locals := 112 } : Room) s m args below meth c 0 0 19 [some (.ref (B + 0)), some (.int a1), some (.int x.2.1), some (.int x.2.2)] [] x.1 := by
  unfold fX10_dropNode_l19 at h
  refine k_iload_n hF dX10_dropNode_19 rfl ?_
  refine k_aload_n hF dX10_dropNode_20 rfl ?_
  refine k_get hF (v := .ref (B + 10)) shC_0 fl_X10_26_X10 dX10_dropNode_21 rfl ?_
  refine k_get hF (v := .int (gi x.1 10 2)) shC_10 fl_X10_130_X0 dX10_dropNode_24 rfl ?_
  refine k_icmp_ge hF (tgt := 81) dX10_dropNode_27 (by decide) (fun c5 => ?_) (fun c5 => ?_)
  · replace h := ite_t c5 h
    exact he _ (Option.some.inj h).symm
  · replace h := ite_f c5 h
    refine k_aload_n hF dX10_dropNode_30 rfl ?_
    refine k_get hF (v := .ref (B + 10)) shC_0 fl_X10_26_X10 dX10_dropNode_31 rfl ?_
    refine k_iload_n hF dX10_dropNode_34 rfl ?_
    obtain ⟨v6, hv6, h⟩ := bind_some h
    refine k_callU hF hA (as := [.int x.2.2]) (ct_X7_isThereE hbs hv6) mu_X10_163 shC_10 rfl rfl rfl ⟨Nat.le_of_ble_eq_true rfl, Nat.le_of_ble_eq_true rfl⟩ (Nat.le_of_ble_eq_true rfl) dX10_dropNode_35 ?_
    refine k_st (st2 := [.int v6]) rfl ?_
    refine k_if_eq hF (tgt := 75) dX10_dropNode_38 (by decide) (fun c7 => ?_) (fun c7 => ?_)
    · replace h := ite_t c7 h
      exact wX10_dropNode_j75 hF hA hbs h hc he
    · replace h := ite_f c7 h
      refine k_aload_n hF dX10_dropNode_41 rfl ?_
      refine k_get hF (v := .ref (B + 10)) shC_0 fl_X10_26_X10 dX10_dropNode_42 rfl ?_
      refine k_get hF (v := .ref (B + 13)) shC_10 fl_X10_167_X0 dX10_dropNode_45 rfl ?_
      refine k_iload_n hF dX10_dropNode_48 rfl ?_
      obtain ⟨g8, h⟩ := gd_some h
      refine k_iald hF shC_13 dX10_dropNode_49 g8 ?_
      refine k_iload_n hF dX10_dropNode_50 rfl ?_
      refine k_icmp_eq hF (tgt := 67) dX10_dropNode_51 (by decide) (fun c9 => ?_) (fun c9 => ?_)
      · replace h := ite_t c9 h
        exact wX10_dropNode_j67 hF hA hbs h hc he
      · replace h := ite_f c9 h
        refine k_aload_n hF dX10_dropNode_54 rfl ?_
        refine k_get hF (v := .ref (B + 10)) shC_0 fl_X10_26_X10 dX10_dropNode_55 rfl ?_
        refine k_get hF (v := .ref (B + 15)) shC_10 fl_X10_170_X0 dX10_dropNode_58 rfl ?_
        refine k_iload_n hF dX10_dropNode_61 rfl ?_
        obtain ⟨g11, h⟩ := gd_some h
        refine k_iald hF shC_15 dX10_dropNode_62 g11 ?_
        refine k_iload_n hF dX10_dropNode_63 rfl ?_
        refine k_icmp_ne hF (tgt := 75) dX10_dropNode_64 (by decide) (fun c12 => ?_) (fun c12 => ?_)
        · replace h := ite_f c12 h
          exact wX10_dropNode_j75 hF hA hbs h hc he
        · replace h := ite_t c12 h
          exact wX10_dropNode_j67 hF hA hbs h hc he
set_option maxHeartbeats 4000000 in
set_option maxRecDepth 100000 in
theorem wX10_dropNode {p : Program} {l : Launch} {e : Env} {s : State} {m : MethodId} {args : Array Value} {below : List Frame} {meth : Method} {c : Code} {A : Nat → Prop} {D : DD} {base B : Nat} (hF : KF D base cX10_dropNode RX10 A 4 1 6 p l e ({ frames := 7, cells := 1, slots := 6, locals := 112 } : Room) s m args below meth c) (hA : ∀ q, RA B shpC q → A q) (hbs : base ≤ B) {σ : St} {a1 : Int32} {z : ((Int32 × St) ⊕ (Nat × St))} (h : fX10_dropNode σ a1 = some z) (hr : meth.sig.returnType = (some .int)) (hT : ∀ x ∈ c.exceptionTable.toList, False) (hl : l.stackTraces = false) : KJ (Rep D B shpC) A 4 1 6 (vx_MQ below (QX D B shpC A (Sum.elim (fun v => .inl (some (.int v.1))) (fun n => .inr n.1) z) (Sum.elim (fun v => v.2) (fun n => n.2) z)) (XX D B shpC A (Sum.elim (fun v => .inl (some (.int v.1))) (fun n => .inr n.1) z) (Sum.elim (fun v => v.2) (fun n => n.2) z)) args s 1 6 A) p l e ({ frames := 7, cells := 1, slots := 6, locals := 112 } : Room) s m args below meth c 1 6 0 [some (.ref (B + 0)), some (.int a1), none, none] [] σ := by
  unfold fX10_dropNode at h
  refine k_aload_n hF dX10_dropNode_0 rfl ?_
  refine k_iload_n hF dX10_dropNode_1 rfl ?_
  obtain ⟨v1, hv1, h⟩ := bind_some h
  rcases v1 with v2 | n3
  · dsimp only [Sum.elim_inl] at h
    refine k_xV_r hF hA 0 0 (as := [.int a1]) (ct_X10_requireNode hl hbs hv1) mv_X10_127 shC_0 rfl rfl rfl ⟨Nat.le_of_ble_eq_true rfl, Nat.le_of_ble_eq_true rfl⟩ (Nat.le_of_ble_eq_true rfl) dX10_dropNode_2 (by decide) (by decide) ?_
    refine k_st (st2 := []) rfl ?_
    refine k_aload_n hF dX10_dropNode_5 rfl ?_
    refine k_dup hF dX10_dropNode_6 rfl ?_
    refine k_get hF (v := .int (gi σ 0 11)) shC_0 fl_X10_13_X10 dX10_dropNode_7 rfl ?_
    refine k_iconst hF dX10_dropNode_10 ci_1 ?_
    refine k_iadd hF dX10_dropNode_11 ?_
    refine k_putI hF hA shC_0 fp_X10_13_X10 dX10_dropNode_12 rfl rfl rfl ?_
    obtain ⟨σ4, hσ4, h⟩ := lt_some h
    refine k_sig hσ4 ?_
    refine k_iconst hF dX10_dropNode_15 ci_0 ?_
    refine k_istore_n hF (L' := [some (.ref (B + 0)), some (.int a1), some (.int (0 : Int32)), none]) dX10_dropNode_16 (by decide) rfl ?_
    refine k_iconst hF dX10_dropNode_17 ci_0 ?_
    refine k_istore_n hF (L' := [some (.ref (B + 0)), some (.int a1), some (.int (0 : Int32)), some (.int (0 : Int32))]) dX10_dropNode_18 (by decide) rfl ?_
    obtain ⟨x13, hx13, h⟩ := bind_some h
    refine k_loop (P := fun xq => KJ (Rep D B shpC) A 4 1 6 (vx_MQ below (QX D B shpC A (Sum.elim (fun v => .inl (some (.int v.1))) (fun n => .inr n.1) z) (Sum.elim (fun v => v.2) (fun n => n.2) z)) (XX D B shpC A (Sum.elim (fun v => .inl (some (.int v.1))) (fun n => .inr n.1) z) (Sum.elim (fun v => v.2) (fun n => n.2) z)) args s 1 6 A) p l e ({ frames := 7, cells := 1, slots := 6, locals := 112 } : Room) s m args below meth c 0 0 19 [some (.ref (B + 0)), some (.int a1), some (.int xq.2.1), some (.int xq.2.2)] [] xq.1) (C := fun xq => KJ (Rep D B shpC) A 4 1 6 (vx_MQ below (QX D B shpC A (Sum.elim (fun v => .inl (some (.int v.1))) (fun n => .inr n.1) z) (Sum.elim (fun v => v.2) (fun n => n.2) z)) (XX D B shpC A (Sum.elim (fun v => .inl (some (.int v.1))) (fun n => .inr n.1) z) (Sum.elim (fun v => v.2) (fun n => n.2) z)) args s 1 6 A) p l e ({ frames := 7, cells := 1, slots := 6, locals := 112 } : Room) s m args below meth c 0 0 81 [some (.ref (B + 0)), some (.int a1), some (.int xq.2.1), some (.int xq.2.2)] [] xq.1) (fun x z hz hc he => wX10_dropNode_l19 hF hA hbs hz hc he) hx13 ?_
    show KJ (Rep D B shpC) A 4 1 6 (vx_MQ below (QX D B shpC A (Sum.elim (fun v => .inl (some (.int v.1))) (fun n => .inr n.1) z) (Sum.elim (fun v => v.2) (fun n => n.2) z)) (XX D B shpC A (Sum.elim (fun v => .inl (some (.int v.1))) (fun n => .inr n.1) z) (Sum.elim (fun v => v.2) (fun n => n.2) z)) args s 1 6 A) p l e ({ frames := 7, cells := 1, slots := 6, locals := 112 } : Room) s m args below meth c 0 0 81 [some (.ref (B + 0)), some (.int a1), some (.int x13.2.1), some (.int x13.2.2)] [] x13.1
    refine k_aload_n hF dX10_dropNode_81 rfl ?_
    refine k_get hF (v := .ref (B + 1)) shC_0 fl_X10_19_X10 dX10_dropNode_82 rfl ?_
    refine k_iload_n hF dX10_dropNode_85 rfl ?_
    refine k_aload_n hF dX10_dropNode_86 rfl ?_
    refine k_get hF (v := .int (gi x13.1 0 11)) shC_0 fl_X10_13_X10 dX10_dropNode_87 rfl ?_
    obtain ⟨v14, hv14, h⟩ := bind_some h
    refine k_callV hF hA (as := [.int a1, .int (gi x13.1 0 11)]) (ct_X6_leave hbs hv14) mv_X10_173 shC_1 rfl rfl rfl ⟨Nat.le_of_ble_eq_true rfl, Nat.le_of_ble_eq_true rfl⟩ (Nat.le_of_ble_eq_true rfl) dX10_dropNode_90 ?_
    refine k_st (st2 := []) rfl ?_
    refine k_aload_n hF dX10_dropNode_93 rfl ?_
    obtain ⟨v15, hv15, h⟩ := bind_some h
    refine k_callV hF hA (as := []) (ct_X10_startAnew hbs hv15) mv_X10_160 shC_0 rfl rfl rfl ⟨Nat.le_of_ble_eq_true rfl, Nat.le_of_ble_eq_true rfl⟩ (Nat.le_of_ble_eq_true rfl) dX10_dropNode_94 ?_
    refine k_st (st2 := []) rfl ?_
    refine k_iload_n hF dX10_dropNode_97 rfl ?_
    cases h
    exact k_xiret hF hr rfl dX10_dropNode_98
  · replace h : some (.inr (n3, σ)) = some z := h
    cases h
    exact k_xV_x hF hA hT (as := [.int a1]) (ct_X10_requireNode hl hbs hv1) mv_X10_127 shC_0 rfl rfl rfl ⟨Nat.le_of_ble_eq_true rfl, Nat.le_of_ble_eq_true rfl⟩ (Nat.le_of_ble_eq_true rfl) dX10_dropNode_2 (by decide) (by decide)
theorem ct_X10_dropNode {l : Launch} (hl : l.stackTraces = false) {D : DD} {base B : Nat} (hbs : base ≤ B) {σ : St} {a1 : Int32} {r : ((Int32 × St) ⊕ (Nat × St))} (h : fX10_dropNode σ a1 = some r) : MetX l D B shpC base yX10_dropNode cX10_dropNode 4 (some .int) 7 112 1 6 [.ref (B + 0), .int a1] σ (Sum.elim (fun v => .inl (some (.int v.1))) (fun n => .inr n.1) r) (Sum.elim (fun v => v.2) (fun n => n.2) r) :=
  MetX.of (by decide +kernel) (fun v hv => by simp only [List.mem_cons, List.not_mem_nil, or_false] at hv; rcases hv with rfl | rfl <;> rfl) (Nat.le_of_ble_eq_true rfl) hbs (fun p e s m args below meth c hF hr hT => wX10_dropNode hF (fun q hq => hq) hbs h hr hT hl)
set_option maxHeartbeats 4000000 in
set_option maxRecDepth 100000 in
theorem wX10_key_j69 {p : Program} {l : Launch} {e : Env} {s : State} {m : MethodId} {args : Array Value} {below : List Frame} {meth : Method} {c : Code} {A : Nat → Prop} {D : DD} {base B : Nat} (hF : KF D base cX10_key RX10 A 2 2 12 p l e ({ frames := 7, cells := 2, slots := 12, locals := 110 } : Room) s m args below meth c) (hA : ∀ q, RA B shpC q → A q) (hbs : base ≤ B) {σ : St} {a1 : Int32} {t0 : Int32} {t1 : Int32} {z : ((Int32 × St) ⊕ (Nat × St))} (h : fX10_key_j69 σ a1 t0 t1 = some z) (hr : meth.sig.returnType = (some .boolean)) (hT : ∀ x ∈ c.exceptionTable.toList, False) (hl : l.stackTraces = false) : KJ (Rep D B shpC) A 2 2 12 (vx_MQ below (QX D B shpC A (Sum.elim (fun v => .inl (some (.int v.1))) (fun n => .inr n.1) z) (Sum.elim (fun v => v.2) (fun n => n.2) z)) (XX D B shpC A (Sum.elim (fun v => .inl (some (.int v.1))) (fun n => .inr n.1) z) (Sum.elim (fun v => v.2) (fun n => n.2) z)) args s 2 12 A) p l e ({ frames := 7, cells := 2, slots := 12, locals := 110 } : Room) s m args below meth c 1 6 69 [some (.ref (B + 0)), some (.int a1)] [.int t0, .int t1, .ref (B + 17)] σ := by
  unfold fX10_key_j69 at h
  obtain ⟨g8, h⟩ := gd_some h
  obtain ⟨g9, h⟩ := gd_some h
  refine k_zast hF hA shC_17 dX10_key_69 g8 (nar_z g9) ?_
  obtain ⟨σ10, hσ10, h⟩ := lt_some h
  refine k_sig hσ10 ?_
  refine k_aload_n hF dX10_key_70 rfl ?_
  refine k_get hF (v := .ref (B + 16)) shC_0 fl_X10_35_X10 dX10_key_71 rfl ?_
  refine k_get hF (v := .ref (B + 17)) shC_16 fl_X10_177_X2 dX10_key_74 rfl ?_
  refine k_iload_n hF dX10_key_77 rfl ?_
  obtain ⟨g11, h⟩ := gd_some h
  refine k_zald hF shC_17 dX10_key_78 g11 ?_
  obtain ⟨g12, h⟩ := gd_some h
  cases h
  exact k_xiret hF hr (nar_z g12) dX10_key_79
set_option maxHeartbeats 4000000 in
set_option maxRecDepth 100000 in
theorem wX10_key_j44 {p : Program} {l : Launch} {e : Env} {s : State} {m : MethodId} {args : Array Value} {below : List Frame} {meth : Method} {c : Code} {A : Nat → Prop} {D : DD} {base B : Nat} (hF : KF D base cX10_key RX10 A 2 2 12 p l e ({ frames := 7, cells := 2, slots := 12, locals := 110 } : Room) s m args below meth c) (hA : ∀ q, RA B shpC q → A q) (hbs : base ≤ B) {σ : St} {a1 : Int32} {z : ((Int32 × St) ⊕ (Nat × St))} (h : fX10_key_j44 σ a1 = some z) (hr : meth.sig.returnType = (some .boolean)) (hT : ∀ x ∈ c.exceptionTable.toList, False) (hl : l.stackTraces = false) : KJ (Rep D B shpC) A 2 2 12 (vx_MQ below (QX D B shpC A (Sum.elim (fun v => .inl (some (.int v.1))) (fun n => .inr n.1) z) (Sum.elim (fun v => v.2) (fun n => n.2) z)) (XX D B shpC A (Sum.elim (fun v => .inl (some (.int v.1))) (fun n => .inr n.1) z) (Sum.elim (fun v => v.2) (fun n => n.2) z)) args s 2 12 A) p l e ({ frames := 7, cells := 2, slots := 12, locals := 110 } : Room) s m args below meth c 1 6 44 [some (.ref (B + 0)), some (.int a1)] [] σ := by
  unfold fX10_key_j44 at h
  refine k_aload_n hF dX10_key_44 rfl ?_
  refine k_get hF (v := .ref (B + 16)) shC_0 fl_X10_35_X10 dX10_key_45 rfl ?_
  refine k_get hF (v := .ref (B + 17)) shC_16 fl_X10_177_X2 dX10_key_48 rfl ?_
  refine k_iload_n hF dX10_key_51 rfl ?_
  refine k_aload_n hF dX10_key_52 rfl ?_
  refine k_get hF (v := .ref (B + 16)) shC_0 fl_X10_35_X10 dX10_key_53 rfl ?_
  refine k_get hF (v := .ref (B + 17)) shC_16 fl_X10_177_X2 dX10_key_56 rfl ?_
  refine k_iload_n hF dX10_key_59 rfl ?_
  obtain ⟨g6, h⟩ := gd_some h
  refine k_zald hF shC_17 dX10_key_60 g6 ?_
  refine k_if_ne hF (tgt := 68) dX10_key_61 (by decide) (fun c7 => ?_) (fun c7 => ?_)
  · replace h := ite_f c7 h
    refine k_iconst hF dX10_key_68 ci_0 ?_
    exact wX10_key_j69 hF hA hbs h hr hT hl
  · replace h := ite_t c7 h
    refine k_iconst hF dX10_key_64 ci_1 ?_
    refine k_goto hF dX10_key_65 (tgt := 69) (by decide) ?_
    exact wX10_key_j69 hF hA hbs h hr hT hl
set_option maxHeartbeats 4000000 in
set_option maxRecDepth 100000 in
theorem wX10_key {p : Program} {l : Launch} {e : Env} {s : State} {m : MethodId} {args : Array Value} {below : List Frame} {meth : Method} {c : Code} {A : Nat → Prop} {D : DD} {base B : Nat} (hF : KF D base cX10_key RX10 A 2 2 12 p l e ({ frames := 7, cells := 2, slots := 12, locals := 110 } : Room) s m args below meth c) (hA : ∀ q, RA B shpC q → A q) (hbs : base ≤ B) {σ : St} {a1 : Int32} {z : ((Int32 × St) ⊕ (Nat × St))} (h : fX10_key σ a1 = some z) (hr : meth.sig.returnType = (some .boolean)) (hT : ∀ x ∈ c.exceptionTable.toList, False) (hl : l.stackTraces = false) : KJ (Rep D B shpC) A 2 2 12 (vx_MQ below (QX D B shpC A (Sum.elim (fun v => .inl (some (.int v.1))) (fun n => .inr n.1) z) (Sum.elim (fun v => v.2) (fun n => n.2) z)) (XX D B shpC A (Sum.elim (fun v => .inl (some (.int v.1))) (fun n => .inr n.1) z) (Sum.elim (fun v => v.2) (fun n => n.2) z)) args s 2 12 A) p l e ({ frames := 7, cells := 2, slots := 12, locals := 110 } : Room) s m args below meth c 2 12 0 [some (.ref (B + 0)), some (.int a1)] [] σ := by
  unfold fX10_key at h
  refine k_iload_n hF dX10_key_0 rfl ?_
  obtain ⟨v1, hv1, h⟩ := bind_some h
  rcases v1 with v2 | n3
  · dsimp only [Sum.elim_inl] at h
    refine k_xS_r hF hA 1 6 (as := [.int a1]) (ct_X10_requireLabel hl hbs hv1) ms_X10_91 rfl rfl ⟨Nat.le_of_ble_eq_true rfl, Nat.le_of_ble_eq_true rfl⟩ (Nat.le_of_ble_eq_true rfl) dX10_key_1 (by decide) (by decide) ?_
    refine k_st (st2 := []) rfl ?_
    refine k_aload_n hF dX10_key_4 rfl ?_
    refine k_get hF (v := .ref (B + 16)) shC_0 fl_X10_35_X10 dX10_key_5 rfl ?_
    refine k_get hF (v := .ref (B + 17)) shC_16 fl_X10_177_X2 dX10_key_8 rfl ?_
    refine k_iload_n hF dX10_key_11 rfl ?_
    obtain ⟨g4, h⟩ := gd_some h
    refine k_zald hF shC_17 dX10_key_12 g4 ?_
    refine k_if_ne hF (tgt := 44) dX10_key_13 (by decide) (fun c5 => ?_) (fun c5 => ?_)
    · replace h := ite_f c5 h
      exact wX10_key_j44 hF hA hbs h hr hT hl
    · replace h := ite_t c5 h
      refine k_aload_n hF dX10_key_16 rfl ?_
      refine k_get hF (v := .ref (B + 16)) shC_0 fl_X10_35_X10 dX10_key_17 rfl ?_
      refine k_iload_n hF dX10_key_20 rfl ?_
      refine k_aload_n hF dX10_key_21 rfl ?_
      refine k_get hF (v := .ref (B + 1)) shC_0 fl_X10_19_X10 dX10_key_22 rfl ?_
      refine k_get hF (v := .ref (B + 5)) shC_1 fl_X10_147_X6 dX10_key_25 rfl ?_
      obtain ⟨v13, hv13, h⟩ := bind_some h
      refine k_callV hF hA (as := [.int a1, .ref (B + 5)]) (ct_X2_hasTwins hbs shC_5 hv13) mv_X10_181 shC_16 rfl rfl rfl ⟨Nat.le_of_ble_eq_true rfl, Nat.le_of_ble_eq_true rfl⟩ (Nat.le_of_ble_eq_true rfl) dX10_key_28 ?_
      refine k_st (st2 := [.int v13]) rfl ?_
      refine k_if_eq hF (tgt := 44) dX10_key_31 (by decide) (fun c14 => ?_) (fun c14 => ?_)
      · replace h := ite_t c14 h
        exact wX10_key_j44 hF hA hbs h hr hT hl
      · replace h := ite_f c14 h
        cases h
        exact k_throw hF hl hT tw_98_102 ss_185 dX10_key_34 dX10_key_37 (.inl ⟨dX10_key_38, dX10_key_40, dX10_key_43⟩) (by decide) (Nat.le_of_ble_eq_true rfl) (by decide) (by decide)
  · replace h : some (.inr (n3, σ)) = some z := h
    cases h
    exact k_xS_x hF hA hT (as := [.int a1]) (ct_X10_requireLabel hl hbs hv1) ms_X10_91 rfl rfl ⟨Nat.le_of_ble_eq_true rfl, Nat.le_of_ble_eq_true rfl⟩ (Nat.le_of_ble_eq_true rfl) dX10_key_1 (by decide) (by decide)
theorem ct_X10_key {l : Launch} (hl : l.stackTraces = false) {D : DD} {base B : Nat} (hbs : base ≤ B) {σ : St} {a1 : Int32} {r : ((Int32 × St) ⊕ (Nat × St))} (h : fX10_key σ a1 = some r) : MetX l D B shpC base yX10_key cX10_key 2 (some .boolean) 7 110 2 12 [.ref (B + 0), .int a1] σ (Sum.elim (fun v => .inl (some (.int v.1))) (fun n => .inr n.1) r) (Sum.elim (fun v => v.2) (fun n => n.2) r) :=
  MetX.of (by decide +kernel) (fun v hv => by simp only [List.mem_cons, List.not_mem_nil, or_false] at hv; rcases hv with rfl | rfl <;> rfl) (Nat.le_of_ble_eq_true rfl) hbs (fun p e s m args below meth c hF hr hT => wX10_key hF (fun q hq => hq) hbs h hr hT hl)
set_option maxHeartbeats 4000000 in
set_option maxRecDepth 100000 in
theorem wX10_shape {p : Program} {l : Launch} {e : Env} {s : State} {m : MethodId} {args : Array Value} {below : List Frame} {meth : Method} {c : Code} {A : Nat → Prop} {D : DD} {base B : Nat} (hF : KF D base cX10_shape RX10 A 4 4 24 p l e ({ frames := 7, cells := 4, slots := 24, locals := 110 } : Room) s m args below meth c) (hA : ∀ q, RA B shpC q → A q) (hbs : base ≤ B) {σ : St} {a1 : Int32} {a2 : Int32} {a3 : Int32} {z : (St ⊕ (Nat × St))} (h : fX10_shape σ a1 a2 a3 = some z) (hr : meth.sig.returnType = none) (hT : ∀ x ∈ c.exceptionTable.toList, False) (hl : l.stackTraces = false) : KJ (Rep D B shpC) A 4 4 24 (vx_MQ below (QX D B shpC A (Sum.elim (fun v => .inl (none)) (fun n => .inr n.1) z) (Sum.elim (fun v => v) (fun n => n.2) z)) (XX D B shpC A (Sum.elim (fun v => .inl (none)) (fun n => .inr n.1) z) (Sum.elim (fun v => v) (fun n => n.2) z)) args s 4 24 A) p l e ({ frames := 7, cells := 4, slots := 24, locals := 110 } : Room) s m args below meth c 4 24 0 [some (.ref (B + 0)), some (.int a1), some (.int a2), some (.int a3)] [] σ := by
  unfold fX10_shape at h
  refine k_iload_n hF dX10_shape_0 rfl ?_
  obtain ⟨v1, hv1, h⟩ := bind_some h
  rcases v1 with v2 | n3
  · dsimp only [Sum.elim_inl] at h
    refine k_xS_r hF hA 3 18 (as := [.int a1]) (ct_X10_requireLabel hl hbs hv1) ms_X10_91 rfl rfl ⟨Nat.le_of_ble_eq_true rfl, Nat.le_of_ble_eq_true rfl⟩ (Nat.le_of_ble_eq_true rfl) dX10_shape_1 (by decide) (by decide) ?_
    refine k_st (st2 := []) rfl ?_
    refine k_iload_n hF dX10_shape_4 rfl ?_
    refine k_iconst hF dX10_shape_5 ci_m1 ?_
    refine k_icmp_ne hF (tgt := 20) dX10_shape_6 (by decide) (fun c4 => ?_) (fun c4 => ?_)
    · replace h := ite_f c4 h
      refine k_iload_n hF dX10_shape_20 rfl ?_
      obtain ⟨v5, hv5, h⟩ := bind_some h
      rcases v5 with v6 | n7
      · dsimp only [Sum.elim_inl] at h
        refine k_xS_r hF hA 2 12 (as := [.int a2]) (ct_X10_requireLabel hl hbs hv5) ms_X10_91 rfl rfl ⟨Nat.le_of_ble_eq_true rfl, Nat.le_of_ble_eq_true rfl⟩ (Nat.le_of_ble_eq_true rfl) dX10_shape_21 (by decide) (by decide) ?_
        refine k_st (st2 := []) rfl ?_
        refine k_iload_n hF dX10_shape_24 rfl ?_
        obtain ⟨v8, hv8, h⟩ := bind_some h
        rcases v8 with v9 | n10
        · dsimp only [Sum.elim_inl] at h
          refine k_xS_r hF hA 1 6 (as := [.int a3]) (ct_X10_requireLabel hl hbs hv8) ms_X10_91 rfl rfl ⟨Nat.le_of_ble_eq_true rfl, Nat.le_of_ble_eq_true rfl⟩ (Nat.le_of_ble_eq_true rfl) dX10_shape_25 (by decide) (by decide) ?_
          refine k_st (st2 := []) rfl ?_
          refine k_aload_n hF dX10_shape_28 rfl ?_
          refine k_iload_n hF dX10_shape_29 rfl ?_
          refine k_iload_n hF dX10_shape_30 rfl ?_
          refine k_iload_n hF dX10_shape_31 rfl ?_
          obtain ⟨v11, hv11, h⟩ := bind_some h
          refine k_callV hF hA (as := [.int a1, .int a2, .int a3]) (ct_X10_areShaped hbs hv11) mv_X10_190 shC_0 rfl rfl rfl ⟨Nat.le_of_ble_eq_true rfl, Nat.le_of_ble_eq_true rfl⟩ (Nat.le_of_ble_eq_true rfl) dX10_shape_32 ?_
          refine k_st (st2 := [.int v11]) rfl ?_
          refine k_if_ne hF (tgt := 48) dX10_shape_35 (by decide) (fun c12 => ?_) (fun c12 => ?_)
          · replace h := ite_f c12 h
            refine k_aload_n hF dX10_shape_48 rfl ?_
            refine k_get hF (v := .ref (B + 16)) shC_0 fl_X10_35_X10 dX10_shape_49 rfl ?_
            refine k_get hF (v := .ref (B + 18)) shC_16 fl_X10_187_X2 dX10_shape_52 rfl ?_
            refine k_iload_n hF dX10_shape_55 rfl ?_
            refine k_iload_n hF dX10_shape_56 rfl ?_
            obtain ⟨g13, h⟩ := gd_some h
            refine k_iast hF hA shC_18 dX10_shape_57 g13 ?_
            obtain ⟨σ14, hσ14, h⟩ := lt_some h
            refine k_sig hσ14 ?_
            refine k_aload_n hF dX10_shape_58 rfl ?_
            refine k_get hF (v := .ref (B + 16)) shC_0 fl_X10_35_X10 dX10_shape_59 rfl ?_
            refine k_get hF (v := .ref (B + 19)) shC_16 fl_X10_195_X2 dX10_shape_62 rfl ?_
            refine k_iload_n hF dX10_shape_65 rfl ?_
            refine k_iload_n hF dX10_shape_66 rfl ?_
            obtain ⟨g15, h⟩ := gd_some h
            refine k_iast hF hA shC_19 dX10_shape_67 g15 ?_
            obtain ⟨σ16, hσ16, h⟩ := lt_some h
            refine k_sig hσ16 ?_
            cases h
            exact k_xvret hF hr dX10_shape_68
          · replace h := ite_t c12 h
            cases h
            exact k_throw hF hl hT tw_98_102 ss_193 dX10_shape_38 dX10_shape_41 (.inl ⟨dX10_shape_42, dX10_shape_44, dX10_shape_47⟩) (by decide) (Nat.le_of_ble_eq_true rfl) (by decide) (by decide)
        · replace h : some (.inr (n10, σ)) = some z := h
          cases h
          exact k_xS_x hF hA hT (as := [.int a3]) (ct_X10_requireLabel hl hbs hv8) ms_X10_91 rfl rfl ⟨Nat.le_of_ble_eq_true rfl, Nat.le_of_ble_eq_true rfl⟩ (Nat.le_of_ble_eq_true rfl) dX10_shape_25 (by decide) (by decide)
      · replace h : some (.inr (n7, σ)) = some z := h
        cases h
        exact k_xS_x hF hA hT (as := [.int a2]) (ct_X10_requireLabel hl hbs hv5) ms_X10_91 rfl rfl ⟨Nat.le_of_ble_eq_true rfl, Nat.le_of_ble_eq_true rfl⟩ (Nat.le_of_ble_eq_true rfl) dX10_shape_21 (by decide) (by decide)
    · replace h := ite_t c4 h
      refine k_aload_n hF dX10_shape_9 rfl ?_
      refine k_get hF (v := .ref (B + 16)) shC_0 fl_X10_35_X10 dX10_shape_10 rfl ?_
      refine k_get hF (v := .ref (B + 18)) shC_16 fl_X10_187_X2 dX10_shape_13 rfl ?_
      refine k_iload_n hF dX10_shape_16 rfl ?_
      refine k_iconst hF dX10_shape_17 ci_m1 ?_
      obtain ⟨g17, h⟩ := gd_some h
      refine k_iast hF hA shC_18 dX10_shape_18 g17 ?_
      obtain ⟨σ18, hσ18, h⟩ := lt_some h
      refine k_sig hσ18 ?_
      cases h
      exact k_xvret hF hr dX10_shape_19
  · replace h : some (.inr (n3, σ)) = some z := h
    cases h
    exact k_xS_x hF hA hT (as := [.int a1]) (ct_X10_requireLabel hl hbs hv1) ms_X10_91 rfl rfl ⟨Nat.le_of_ble_eq_true rfl, Nat.le_of_ble_eq_true rfl⟩ (Nat.le_of_ble_eq_true rfl) dX10_shape_1 (by decide) (by decide)
theorem ct_X10_shape {l : Launch} (hl : l.stackTraces = false) {D : DD} {base B : Nat} (hbs : base ≤ B) {σ : St} {a1 : Int32} {a2 : Int32} {a3 : Int32} {r : (St ⊕ (Nat × St))} (h : fX10_shape σ a1 a2 a3 = some r) : MetX l D B shpC base yX10_shape cX10_shape 4 none 7 110 4 24 [.ref (B + 0), .int a1, .int a2, .int a3] σ (Sum.elim (fun v => .inl (none)) (fun n => .inr n.1) r) (Sum.elim (fun v => v) (fun n => n.2) r) :=
  MetX.of (by decide +kernel) (fun v hv => by simp only [List.mem_cons, List.not_mem_nil, or_false] at hv; rcases hv with rfl | rfl | rfl | rfl <;> rfl) (Nat.le_of_ble_eq_true rfl) hbs (fun p e s m args below meth c hF hr hT => wX10_shape hF (fun q hq => hq) hbs h hr hT hl)
set_option maxHeartbeats 4000000 in
set_option maxRecDepth 100000 in
theorem wX10_requireMachine_j9 {p : Program} {l : Launch} {e : Env} {s : State} {m : MethodId} {args : Array Value} {below : List Frame} {meth : Method} {c : Code} {A : Nat → Prop} {D : DD} {base B : Nat} (hF : KF D base cX10_requireMachine RX10 A 1 1 6 p l e ({ frames := 6, cells := 1, slots := 6, locals := 90 } : Room) s m args below meth c) (hA : ∀ q, RA B shpC q → A q) (hbs : base ≤ B) {σ : St} {a0 : Int32} {z : (Unit ⊕ Nat)} (h : fX10_requireMachine_j9 σ a0 = some z) (hr : meth.sig.returnType = none) (hT : ∀ x ∈ c.exceptionTable.toList, False) (hl : l.stackTraces = false) : KJ (Rep D B shpC) A 1 1 6 (vx_MQ below (QX D B shpC A (Sum.elim (fun v => .inl (none)) (fun n => .inr n) z) σ) (XX D B shpC A (Sum.elim (fun v => .inl (none)) (fun n => .inr n) z) σ) args s 1 6 A) p l e ({ frames := 6, cells := 1, slots := 6, locals := 90 } : Room) s m args below meth c 1 6 9 [some (.int a0)] [] σ := by
  unfold fX10_requireMachine_j9 at h
  cases h
  exact k_throw hF hl hT tw_257_261 ss_398 dX10_requireMachine_9 dX10_requireMachine_12 (.inr ⟨dX10_requireMachine_13, dX10_requireMachine_16, dX10_requireMachine_19⟩) (by decide) (Nat.le_of_ble_eq_true rfl) (by decide) (by decide)
set_option maxHeartbeats 4000000 in
set_option maxRecDepth 100000 in
theorem wX10_requireMachine {p : Program} {l : Launch} {e : Env} {s : State} {m : MethodId} {args : Array Value} {below : List Frame} {meth : Method} {c : Code} {A : Nat → Prop} {D : DD} {base B : Nat} (hF : KF D base cX10_requireMachine RX10 A 1 1 6 p l e ({ frames := 6, cells := 1, slots := 6, locals := 90 } : Room) s m args below meth c) (hA : ∀ q, RA B shpC q → A q) (hbs : base ≤ B) {σ : St} {a0 : Int32} {z : (Unit ⊕ Nat)} (h : fX10_requireMachine σ a0 = some z) (hr : meth.sig.returnType = none) (hT : ∀ x ∈ c.exceptionTable.toList, False) (hl : l.stackTraces = false) : KJ (Rep D B shpC) A 1 1 6 (vx_MQ below (QX D B shpC A (Sum.elim (fun v => .inl (none)) (fun n => .inr n) z) σ) (XX D B shpC A (Sum.elim (fun v => .inl (none)) (fun n => .inr n) z) σ) args s 1 6 A) p l e ({ frames := 6, cells := 1, slots := 6, locals := 90 } : Room) s m args below meth c 1 6 0 [some (.int a0)] [] σ := by
  unfold fX10_requireMachine at h
  refine k_iload_n hF dX10_requireMachine_0 rfl ?_
  refine k_if_lt hF (tgt := 9) dX10_requireMachine_1 (by decide) (fun c1 => ?_) (fun c1 => ?_)
  · replace h := ite_t c1 h
    exact wX10_requireMachine_j9 hF hA hbs h hr hT hl
  · replace h := ite_f c1 h
    refine k_iload_n hF dX10_requireMachine_4 rfl ?_
    refine k_iconst hF dX10_requireMachine_5 ci_3 ?_
    refine k_icmp_lt hF (tgt := 20) dX10_requireMachine_6 (by decide) (fun c2 => ?_) (fun c2 => ?_)
    · replace h := ite_t c2 h
      cases h
      exact k_xvret hF hr dX10_requireMachine_20
    · replace h := ite_f c2 h
      exact wX10_requireMachine_j9 hF hA hbs h hr hT hl
theorem ct_X10_requireMachine {l : Launch} (hl : l.stackTraces = false) {D : DD} {base B : Nat} (hbs : base ≤ B) {σ : St} {a0 : Int32} {r : (Unit ⊕ Nat)} (h : fX10_requireMachine σ a0 = some r) : MetX l D B shpC base yX10_requireMachine cX10_requireMachine 1 none 6 90 1 6 [.int a0] σ (Sum.elim (fun v => .inl (none)) (fun n => .inr n) r) σ :=
  MetX.of (by decide +kernel) (fun v hv => by simp only [List.mem_cons, List.not_mem_nil, or_false] at hv; rcases hv with rfl <;> rfl) (Nat.le_of_ble_eq_true rfl) hbs (fun p e s m args below meth c hF hr hT => wX10_requireMachine hF (fun q hq => hq) hbs h hr hT hl)
set_option maxHeartbeats 4000000 in
set_option maxRecDepth 100000 in
theorem wX10_move_j43 {p : Program} {l : Launch} {e : Env} {s : State} {m : MethodId} {args : Array Value} {below : List Frame} {meth : Method} {c : Code} {A : Nat → Prop} {D : DD} {base B : Nat} (hF : KF D base cX10_move RX10 A 4 3 18 p l e ({ frames := 7, cells := 3, slots := 18, locals := 111 } : Room) s m args below meth c) (hA : ∀ q, RA B shpC q → A q) (hbs : base ≤ B) {σ : St} {a1 : Int32} {a2 : Int32} {z : ((Int32 × St) ⊕ (Nat × St))} (h : fX10_move_j43 σ a1 a2 = some z) (hr : meth.sig.returnType = (some .int)) (hT : ∀ x ∈ c.exceptionTable.toList, False) (hl : l.stackTraces = false) : KJ (Rep D B shpC) A 4 3 18 (vx_MQ below (QX D B shpC A (Sum.elim (fun v => .inl (some (.int v.1))) (fun n => .inr n.1) z) (Sum.elim (fun v => v.2) (fun n => n.2) z)) (XX D B shpC A (Sum.elim (fun v => .inl (some (.int v.1))) (fun n => .inr n.1) z) (Sum.elim (fun v => v.2) (fun n => n.2) z)) args s 3 18 A) p l e ({ frames := 7, cells := 3, slots := 18, locals := 111 } : Room) s m args below meth c 1 6 43 [some (.ref (B + 0)), some (.int a1), some (.int a2), none] [] σ := by
  unfold fX10_move_j43 at h
  cases h
  exact k_throw hF hl hT tw_98_102 ss_204 dX10_move_43 dX10_move_46 (.inl ⟨dX10_move_47, dX10_move_49, dX10_move_52⟩) (by decide) (Nat.le_of_ble_eq_true rfl) (by decide) (by decide)
set_option maxHeartbeats 4000000 in
set_option maxRecDepth 100000 in
theorem wX10_move {p : Program} {l : Launch} {e : Env} {s : State} {m : MethodId} {args : Array Value} {below : List Frame} {meth : Method} {c : Code} {A : Nat → Prop} {D : DD} {base B : Nat} (hF : KF D base cX10_move RX10 A 4 3 18 p l e ({ frames := 7, cells := 3, slots := 18, locals := 111 } : Room) s m args below meth c) (hA : ∀ q, RA B shpC q → A q) (hbs : base ≤ B) {σ : St} {a1 : Int32} {a2 : Int32} {z : ((Int32 × St) ⊕ (Nat × St))} (h : fX10_move σ a1 a2 = some z) (hr : meth.sig.returnType = (some .int)) (hT : ∀ x ∈ c.exceptionTable.toList, False) (hl : l.stackTraces = false) : KJ (Rep D B shpC) A 4 3 18 (vx_MQ below (QX D B shpC A (Sum.elim (fun v => .inl (some (.int v.1))) (fun n => .inr n.1) z) (Sum.elim (fun v => v.2) (fun n => n.2) z)) (XX D B shpC A (Sum.elim (fun v => .inl (some (.int v.1))) (fun n => .inr n.1) z) (Sum.elim (fun v => v.2) (fun n => n.2) z)) args s 3 18 A) p l e ({ frames := 7, cells := 3, slots := 18, locals := 111 } : Room) s m args below meth c 3 18 0 [some (.ref (B + 0)), some (.int a1), some (.int a2), none] [] σ := by
  unfold fX10_move at h
  refine k_aload_n hF dX10_move_0 rfl ?_
  refine k_iload_n hF dX10_move_1 rfl ?_
  obtain ⟨v1, hv1, h⟩ := bind_some h
  rcases v1 with v2 | n3
  · dsimp only [Sum.elim_inl] at h
    refine k_xV_r hF hA 2 12 (as := [.int a1]) (ct_X10_requireNode hl hbs hv1) mv_X10_127 shC_0 rfl rfl rfl ⟨Nat.le_of_ble_eq_true rfl, Nat.le_of_ble_eq_true rfl⟩ (Nat.le_of_ble_eq_true rfl) dX10_move_2 (by decide) (by decide) ?_
    refine k_st (st2 := []) rfl ?_
    refine k_iload_n hF dX10_move_5 rfl ?_
    obtain ⟨v4, hv4, h⟩ := bind_some h
    rcases v4 with v5 | n6
    · dsimp only [Sum.elim_inl] at h
      refine k_xS_r hF hA 1 6 (as := [.int a2]) (ct_X10_requireMachine hl hbs hv4) ms_X10_198 rfl rfl ⟨Nat.le_of_ble_eq_true rfl, Nat.le_of_ble_eq_true rfl⟩ (Nat.le_of_ble_eq_true rfl) dX10_move_6 (by decide) (by decide) ?_
      refine k_st (st2 := []) rfl ?_
      refine k_aload_n hF dX10_move_9 rfl ?_
      refine k_get hF (v := .ref (B + 20)) shC_0 fl_X10_44_X10 dX10_move_10 rfl ?_
      refine k_get hF (v := .ref (B + 21)) shC_20 fl_X10_121_X3 dX10_move_13 rfl ?_
      refine k_iload_n hF dX10_move_16 rfl ?_
      obtain ⟨g7, h⟩ := gd_some h
      refine k_iald hF shC_21 dX10_move_17 g7 ?_
      obtain ⟨n8, hn8, h⟩ := lt_some h
      refine k_st (st2 := [.int n8]) (by rw [hn8]) ?_
      refine k_istore_n hF (L' := [some (.ref (B + 0)), some (.int a1), some (.int a2), some (.int n8)]) dX10_move_18 (by decide) rfl ?_
      refine k_aload_n hF dX10_move_19 rfl ?_
      refine k_get hF (v := .ref (B + 20)) shC_0 fl_X10_44_X10 dX10_move_20 rfl ?_
      refine k_get hF (v := .ref (B + 22)) shC_20 fl_X10_201_X3 dX10_move_23 rfl ?_
      refine k_iload_n hF dX10_move_26 rfl ?_
      obtain ⟨g9, h⟩ := gd_some h
      refine k_zald hF shC_22 dX10_move_27 g9 ?_
      refine k_if_eq hF (tgt := 43) dX10_move_28 (by decide) (fun c10 => ?_) (fun c10 => ?_)
      · replace h := ite_t c10 h
        refine k_kill 3 rfl ?_
        exact wX10_move_j43 hF hA hbs h hr hT hl
      · replace h := ite_f c10 h
        refine k_aload_n hF dX10_move_31 rfl ?_
        refine k_get hF (v := .ref (B + 20)) shC_0 fl_X10_44_X10 dX10_move_32 rfl ?_
        refine k_get hF (v := .ref (B + 22)) shC_20 fl_X10_201_X3 dX10_move_35 rfl ?_
        refine k_iload_n hF dX10_move_38 rfl ?_
        obtain ⟨g11, h⟩ := gd_some h
        refine k_zald hF shC_22 dX10_move_39 g11 ?_
        refine k_if_ne hF (tgt := 53) dX10_move_40 (by decide) (fun c12 => ?_) (fun c12 => ?_)
        · replace h := ite_f c12 h
          refine k_aload_n hF dX10_move_53 rfl ?_
          refine k_get hF (v := .ref (B + 20)) shC_0 fl_X10_44_X10 dX10_move_54 rfl ?_
          refine k_get hF (v := .ref (B + 21)) shC_20 fl_X10_121_X3 dX10_move_57 rfl ?_
          refine k_iload_n hF dX10_move_60 rfl ?_
          refine k_iload_n hF dX10_move_61 rfl ?_
          obtain ⟨g13, h⟩ := gd_some h
          refine k_iast hF hA shC_21 dX10_move_62 g13 ?_
          obtain ⟨σ14, hσ14, h⟩ := lt_some h
          refine k_sig hσ14 ?_
          refine k_iload_n hF dX10_move_63 rfl ?_
          cases h
          exact k_xiret hF hr rfl dX10_move_64
        · replace h := ite_t c12 h
          refine k_kill 3 rfl ?_
          exact wX10_move_j43 hF hA hbs h hr hT hl
    · replace h : some (.inr (n6, σ)) = some z := h
      cases h
      exact k_xS_x hF hA hT (as := [.int a2]) (ct_X10_requireMachine hl hbs hv4) ms_X10_198 rfl rfl ⟨Nat.le_of_ble_eq_true rfl, Nat.le_of_ble_eq_true rfl⟩ (Nat.le_of_ble_eq_true rfl) dX10_move_6 (by decide) (by decide)
  · replace h : some (.inr (n3, σ)) = some z := h
    cases h
    exact k_xV_x hF hA hT (as := [.int a1]) (ct_X10_requireNode hl hbs hv1) mv_X10_127 shC_0 rfl rfl rfl ⟨Nat.le_of_ble_eq_true rfl, Nat.le_of_ble_eq_true rfl⟩ (Nat.le_of_ble_eq_true rfl) dX10_move_2 (by decide) (by decide)
theorem ct_X10_move {l : Launch} (hl : l.stackTraces = false) {D : DD} {base B : Nat} (hbs : base ≤ B) {σ : St} {a1 : Int32} {a2 : Int32} {r : ((Int32 × St) ⊕ (Nat × St))} (h : fX10_move σ a1 a2 = some r) : MetX l D B shpC base yX10_move cX10_move 4 (some .int) 7 111 3 18 [.ref (B + 0), .int a1, .int a2] σ (Sum.elim (fun v => .inl (some (.int v.1))) (fun n => .inr n.1) r) (Sum.elim (fun v => v.2) (fun n => n.2) r) :=
  MetX.of (by decide +kernel) (fun v hv => by simp only [List.mem_cons, List.not_mem_nil, or_false] at hv; rcases hv with rfl | rfl | rfl <;> rfl) (Nat.le_of_ble_eq_true rfl) hbs (fun p e s m args below meth c hF hr hT => wX10_move hF (fun q hq => hq) hbs h hr hT hl)
set_option maxHeartbeats 4000000 in
set_option maxRecDepth 100000 in
theorem wX10_toggle_j29 {p : Program} {l : Launch} {e : Env} {s : State} {m : MethodId} {args : Array Value} {below : List Frame} {meth : Method} {c : Code} {A : Nat → Prop} {D : DD} {base B : Nat} (hF : KF D base cX10_toggle RX10 A 2 1 6 p l e ({ frames := 7, cells := 1, slots := 6, locals := 110 } : Room) s m args below meth c) (hA : ∀ q, RA B shpC q → A q) (hbs : base ≤ B) {σ : St} {a1 : Int32} {t0 : Int32} {t1 : Int32} {z : ((Int32 × St) ⊕ (Nat × St))} (h : fX10_toggle_j29 σ a1 t0 t1 = some z) (hr : meth.sig.returnType = (some .boolean)) (hT : ∀ x ∈ c.exceptionTable.toList, False) (hl : l.stackTraces = false) : KJ (Rep D B shpC) A 2 1 6 (vx_MQ below (QX D B shpC A (Sum.elim (fun v => .inl (some (.int v.1))) (fun n => .inr n.1) z) (Sum.elim (fun v => v.2) (fun n => n.2) z)) (XX D B shpC A (Sum.elim (fun v => .inl (some (.int v.1))) (fun n => .inr n.1) z) (Sum.elim (fun v => v.2) (fun n => n.2) z)) args s 1 6 A) p l e ({ frames := 7, cells := 1, slots := 6, locals := 110 } : Room) s m args below meth c 0 0 29 [some (.ref (B + 0)), some (.int a1)] [.int t0, .int t1, .ref (B + 22)] σ := by
  unfold fX10_toggle_j29 at h
  obtain ⟨g6, h⟩ := gd_some h
  obtain ⟨g7, h⟩ := gd_some h
  refine k_zast hF hA shC_22 dX10_toggle_29 g6 (nar_z g7) ?_
  obtain ⟨σ8, hσ8, h⟩ := lt_some h
  refine k_sig hσ8 ?_
  refine k_aload_n hF dX10_toggle_30 rfl ?_
  refine k_get hF (v := .ref (B + 20)) shC_0 fl_X10_44_X10 dX10_toggle_31 rfl ?_
  refine k_get hF (v := .ref (B + 22)) shC_20 fl_X10_201_X3 dX10_toggle_34 rfl ?_
  refine k_iload_n hF dX10_toggle_37 rfl ?_
  obtain ⟨g9, h⟩ := gd_some h
  refine k_zald hF shC_22 dX10_toggle_38 g9 ?_
  obtain ⟨g10, h⟩ := gd_some h
  cases h
  exact k_xiret hF hr (nar_z g10) dX10_toggle_39
set_option maxHeartbeats 4000000 in
set_option maxRecDepth 100000 in
theorem wX10_toggle {p : Program} {l : Launch} {e : Env} {s : State} {m : MethodId} {args : Array Value} {below : List Frame} {meth : Method} {c : Code} {A : Nat → Prop} {D : DD} {base B : Nat} (hF : KF D base cX10_toggle RX10 A 2 1 6 p l e ({ frames := 7, cells := 1, slots := 6, locals := 110 } : Room) s m args below meth c) (hA : ∀ q, RA B shpC q → A q) (hbs : base ≤ B) {σ : St} {a1 : Int32} {z : ((Int32 × St) ⊕ (Nat × St))} (h : fX10_toggle σ a1 = some z) (hr : meth.sig.returnType = (some .boolean)) (hT : ∀ x ∈ c.exceptionTable.toList, False) (hl : l.stackTraces = false) : KJ (Rep D B shpC) A 2 1 6 (vx_MQ below (QX D B shpC A (Sum.elim (fun v => .inl (some (.int v.1))) (fun n => .inr n.1) z) (Sum.elim (fun v => v.2) (fun n => n.2) z)) (XX D B shpC A (Sum.elim (fun v => .inl (some (.int v.1))) (fun n => .inr n.1) z) (Sum.elim (fun v => v.2) (fun n => n.2) z)) args s 1 6 A) p l e ({ frames := 7, cells := 1, slots := 6, locals := 110 } : Room) s m args below meth c 1 6 0 [some (.ref (B + 0)), some (.int a1)] [] σ := by
  unfold fX10_toggle at h
  refine k_iload_n hF dX10_toggle_0 rfl ?_
  obtain ⟨v1, hv1, h⟩ := bind_some h
  rcases v1 with v2 | n3
  · dsimp only [Sum.elim_inl] at h
    refine k_xS_r hF hA 0 0 (as := [.int a1]) (ct_X10_requireMachine hl hbs hv1) ms_X10_198 rfl rfl ⟨Nat.le_of_ble_eq_true rfl, Nat.le_of_ble_eq_true rfl⟩ (Nat.le_of_ble_eq_true rfl) dX10_toggle_1 (by decide) (by decide) ?_
    refine k_st (st2 := []) rfl ?_
    refine k_aload_n hF dX10_toggle_4 rfl ?_
    refine k_get hF (v := .ref (B + 20)) shC_0 fl_X10_44_X10 dX10_toggle_5 rfl ?_
    refine k_get hF (v := .ref (B + 22)) shC_20 fl_X10_201_X3 dX10_toggle_8 rfl ?_
    refine k_iload_n hF dX10_toggle_11 rfl ?_
    refine k_aload_n hF dX10_toggle_12 rfl ?_
    refine k_get hF (v := .ref (B + 20)) shC_0 fl_X10_44_X10 dX10_toggle_13 rfl ?_
    refine k_get hF (v := .ref (B + 22)) shC_20 fl_X10_201_X3 dX10_toggle_16 rfl ?_
    refine k_iload_n hF dX10_toggle_19 rfl ?_
    obtain ⟨g4, h⟩ := gd_some h
    refine k_zald hF shC_22 dX10_toggle_20 g4 ?_
    refine k_if_ne hF (tgt := 28) dX10_toggle_21 (by decide) (fun c5 => ?_) (fun c5 => ?_)
    · replace h := ite_f c5 h
      refine k_iconst hF dX10_toggle_28 ci_0 ?_
      exact wX10_toggle_j29 hF hA hbs h hr hT hl
    · replace h := ite_t c5 h
      refine k_iconst hF dX10_toggle_24 ci_1 ?_
      refine k_goto hF dX10_toggle_25 (tgt := 29) (by decide) ?_
      exact wX10_toggle_j29 hF hA hbs h hr hT hl
  · replace h : some (.inr (n3, σ)) = some z := h
    cases h
    exact k_xS_x hF hA hT (as := [.int a1]) (ct_X10_requireMachine hl hbs hv1) ms_X10_198 rfl rfl ⟨Nat.le_of_ble_eq_true rfl, Nat.le_of_ble_eq_true rfl⟩ (Nat.le_of_ble_eq_true rfl) dX10_toggle_1 (by decide) (by decide)
theorem ct_X10_toggle {l : Launch} (hl : l.stackTraces = false) {D : DD} {base B : Nat} (hbs : base ≤ B) {σ : St} {a1 : Int32} {r : ((Int32 × St) ⊕ (Nat × St))} (h : fX10_toggle σ a1 = some r) : MetX l D B shpC base yX10_toggle cX10_toggle 2 (some .boolean) 7 110 1 6 [.ref (B + 0), .int a1] σ (Sum.elim (fun v => .inl (some (.int v.1))) (fun n => .inr n.1) r) (Sum.elim (fun v => v.2) (fun n => n.2) r) :=
  MetX.of (by decide +kernel) (fun v hv => by simp only [List.mem_cons, List.not_mem_nil, or_false] at hv; rcases hv with rfl | rfl <;> rfl) (Nat.le_of_ble_eq_true rfl) hbs (fun p e s m args below meth c hF hr hT => wX10_toggle hF (fun q hq => hq) hbs h hr hT hl)
set_option maxHeartbeats 4000000 in
set_option maxRecDepth 100000 in
theorem wX10_machine {p : Program} {l : Launch} {e : Env} {s : State} {m : MethodId} {args : Array Value} {below : List Frame} {meth : Method} {c : Code} {A : Nat → Prop} {D : DD} {base B : Nat} (hF : KF D base cX10_machine RX10 A 2 1 6 p l e ({ frames := 7, cells := 1, slots := 6, locals := 111 } : Room) s m args below meth c) (hA : ∀ q, RA B shpC q → A q) (hbs : base ≤ B) {σ : St} {a1 : Int32} {z : (Int32 ⊕ Nat)} (h : fX10_machine σ a1 = some z) (hr : meth.sig.returnType = (some .int)) (hT : ∀ x ∈ c.exceptionTable.toList, False) (hl : l.stackTraces = false) : KJ (Rep D B shpC) A 2 1 6 (vx_MQ below (QX D B shpC A (Sum.elim (fun v => .inl (some (.int v))) (fun n => .inr n) z) σ) (XX D B shpC A (Sum.elim (fun v => .inl (some (.int v))) (fun n => .inr n) z) σ) args s 1 6 A) p l e ({ frames := 7, cells := 1, slots := 6, locals := 111 } : Room) s m args below meth c 1 6 0 [some (.ref (B + 0)), some (.int a1)] [] σ := by
  unfold fX10_machine at h
  refine k_aload_n hF dX10_machine_0 rfl ?_
  refine k_iload_n hF dX10_machine_1 rfl ?_
  obtain ⟨v1, hv1, h⟩ := bind_some h
  rcases v1 with v2 | n3
  · dsimp only [Sum.elim_inl] at h
    refine k_xV_r hF hA 0 0 (as := [.int a1]) (ct_X10_requireNode hl hbs hv1) mv_X10_127 shC_0 rfl rfl rfl ⟨Nat.le_of_ble_eq_true rfl, Nat.le_of_ble_eq_true rfl⟩ (Nat.le_of_ble_eq_true rfl) dX10_machine_2 (by decide) (by decide) ?_
    refine k_st (st2 := []) rfl ?_
    refine k_aload_n hF dX10_machine_5 rfl ?_
    refine k_get hF (v := .ref (B + 20)) shC_0 fl_X10_44_X10 dX10_machine_6 rfl ?_
    refine k_get hF (v := .ref (B + 21)) shC_20 fl_X10_121_X3 dX10_machine_9 rfl ?_
    refine k_iload_n hF dX10_machine_12 rfl ?_
    obtain ⟨g4, h⟩ := gd_some h
    refine k_iald hF shC_21 dX10_machine_13 g4 ?_
    cases h
    exact k_xiret hF hr rfl dX10_machine_14
  · replace h : some (.inr n3) = some z := h
    cases h
    exact k_xV_x hF hA hT (as := [.int a1]) (ct_X10_requireNode hl hbs hv1) mv_X10_127 shC_0 rfl rfl rfl ⟨Nat.le_of_ble_eq_true rfl, Nat.le_of_ble_eq_true rfl⟩ (Nat.le_of_ble_eq_true rfl) dX10_machine_2 (by decide) (by decide)
theorem ct_X10_machine {l : Launch} (hl : l.stackTraces = false) {D : DD} {base B : Nat} (hbs : base ≤ B) {σ : St} {a1 : Int32} {r : (Int32 ⊕ Nat)} (h : fX10_machine σ a1 = some r) : MetX l D B shpC base yX10_machine cX10_machine 2 (some .int) 7 111 1 6 [.ref (B + 0), .int a1] σ (Sum.elim (fun v => .inl (some (.int v))) (fun n => .inr n) r) σ :=
  MetX.of (by decide +kernel) (fun v hv => by simp only [List.mem_cons, List.not_mem_nil, or_false] at hv; rcases hv with rfl | rfl <;> rfl) (Nat.le_of_ble_eq_true rfl) hbs (fun p e s m args below meth c hF hr hT => wX10_machine hF (fun q hq => hq) hbs h hr hT hl)
set_option maxHeartbeats 4000000 in
set_option maxRecDepth 100000 in
theorem wX10_copies {p : Program} {l : Launch} {e : Env} {s : State} {m : MethodId} {args : Array Value} {below : List Frame} {meth : Method} {c : Code} {A : Nat → Prop} {D : DD} {base B : Nat} (hF : KF D base cX10_copies RX10 A 2 1 6 p l e ({ frames := 7, cells := 1, slots := 6, locals := 110 } : Room) s m args below meth c) (hA : ∀ q, RA B shpC q → A q) (hbs : base ≤ B) {σ : St} {a1 : Int32} {z : (Int32 ⊕ Nat)} (h : fX10_copies σ a1 = some z) (hr : meth.sig.returnType = (some .int)) (hT : ∀ x ∈ c.exceptionTable.toList, False) (hl : l.stackTraces = false) : KJ (Rep D B shpC) A 2 1 6 (vx_MQ below (QX D B shpC A (Sum.elim (fun v => .inl (some (.int v))) (fun n => .inr n) z) σ) (XX D B shpC A (Sum.elim (fun v => .inl (some (.int v))) (fun n => .inr n) z) σ) args s 1 6 A) p l e ({ frames := 7, cells := 1, slots := 6, locals := 110 } : Room) s m args below meth c 1 6 0 [some (.ref (B + 0)), some (.int a1)] [] σ := by
  unfold fX10_copies at h
  refine k_iload_n hF dX10_copies_0 rfl ?_
  obtain ⟨v1, hv1, h⟩ := bind_some h
  rcases v1 with v2 | n3
  · dsimp only [Sum.elim_inl] at h
    refine k_xS_r hF hA 0 0 (as := [.int a1]) (ct_X10_requireMachine hl hbs hv1) ms_X10_198 rfl rfl ⟨Nat.le_of_ble_eq_true rfl, Nat.le_of_ble_eq_true rfl⟩ (Nat.le_of_ble_eq_true rfl) dX10_copies_1 (by decide) (by decide) ?_
    refine k_st (st2 := []) rfl ?_
    refine k_aload_n hF dX10_copies_4 rfl ?_
    refine k_get hF (v := .ref (B + 20)) shC_0 fl_X10_44_X10 dX10_copies_5 rfl ?_
    refine k_iload_n hF dX10_copies_8 rfl ?_
    obtain ⟨v4, hv4, h⟩ := bind_some h
    refine k_callV hF hA (as := [.int a1]) (ct_X3_copied hbs hv4) mv_X10_212 shC_20 rfl rfl rfl ⟨Nat.le_of_ble_eq_true rfl, Nat.le_of_ble_eq_true rfl⟩ (Nat.le_of_ble_eq_true rfl) dX10_copies_9 ?_
    refine k_st (st2 := [.int v4]) rfl ?_
    obtain ⟨v5, hv5, h⟩ := bind_some h
    refine k_callS hF hA (as := [.int v4]) (ct_J6_bitCount hbs hv5) ms_X10_216 rfl rfl ⟨Nat.le_of_ble_eq_true rfl, Nat.le_of_ble_eq_true rfl⟩ (Nat.le_of_ble_eq_true rfl) dX10_copies_12 ?_
    refine k_st (st2 := [.int v5]) rfl ?_
    cases h
    exact k_xiret hF hr rfl dX10_copies_15
  · replace h : some (.inr n3) = some z := h
    cases h
    exact k_xS_x hF hA hT (as := [.int a1]) (ct_X10_requireMachine hl hbs hv1) ms_X10_198 rfl rfl ⟨Nat.le_of_ble_eq_true rfl, Nat.le_of_ble_eq_true rfl⟩ (Nat.le_of_ble_eq_true rfl) dX10_copies_1 (by decide) (by decide)
theorem ct_X10_copies {l : Launch} (hl : l.stackTraces = false) {D : DD} {base B : Nat} (hbs : base ≤ B) {σ : St} {a1 : Int32} {r : (Int32 ⊕ Nat)} (h : fX10_copies σ a1 = some r) : MetX l D B shpC base yX10_copies cX10_copies 2 (some .int) 7 110 1 6 [.ref (B + 0), .int a1] σ (Sum.elim (fun v => .inl (some (.int v))) (fun n => .inr n) r) σ :=
  MetX.of (by decide +kernel) (fun v hv => by simp only [List.mem_cons, List.not_mem_nil, or_false] at hv; rcases hv with rfl | rfl <;> rfl) (Nat.le_of_ble_eq_true rfl) hbs (fun p e s m args below meth c hF hr hT => wX10_copies hF (fun q hq => hq) hbs h hr hT hl)
set_option maxHeartbeats 4000000 in
set_option maxRecDepth 100000 in
theorem wX10_begin_l2 {p : Program} {l : Launch} {e : Env} {s : State} {m : MethodId} {args : Array Value} {below : List Frame} {meth : Method} {c : Code} {Q : State → Prop} {A : Nat → Prop} {D : DD} {base B : Nat} (hF : KF D base cX10_begin RX10 A 2 1 6 p l e ({ frames := 6, cells := 1, slots := 6, locals := 90 } : Room) s m args below meth c) (hA : ∀ q, RA B shpC q → A q) (hbs : base ≤ B) {σ : St} {x : (St × Int32)} {z : ((St × Int32) ⊕ ((St × Int32) ⊕ (Int32 × St)))} (h : fX10_begin_l2 σ x = some z) (hc : ∀ x, z = .inl x → KJ (Rep D B shpC) A 2 1 6 Q p l e ({ frames := 6, cells := 1, slots := 6, locals := 90 } : Room) s m args below meth c 1 6 2 [some (.ref (B + 0)), some (.int x.2)] [] x.1) (he : ∀ w, z = .inr w → Sum.elim (fun x => KJ (Rep D B shpC) A 2 1 6 Q p l e ({ frames := 6, cells := 1, slots := 6, locals := 90 } : Room) s m args below meth c 1 6 40 [some (.ref (B + 0)), some (.int x.2)] [] x.1) (fun r => ∀ (pc : Nat) (L : List (Option Value)), narrow .int (.int r.1) = .int r.1 → decode cX10_begin pc = .ok (.ireturn, 1) → KJ (Rep D B shpC) A 2 1 6 Q p l e ({ frames := 6, cells := 1, slots := 6, locals := 90 } : Room) s m args below meth c 1 6 pc L [.int r.1] r.2) w) : KJ (Rep D B shpC) A 2 1 6 Q p l e ({ frames := 6, cells := 1, slots := 6, locals := 90 } : Room) s m args below meth c 1 6 2 [some (.ref (B + 0)), some (.int x.2)] [] x.1 := by
  unfold fX10_begin_l2 at h
  refine k_iload_n hF dX10_begin_2 rfl ?_
  refine k_iconst hF dX10_begin_3 ci_4 ?_
  refine k_icmp_ge hF (tgt := 40) dX10_begin_4 (by decide) (fun c1 => ?_) (fun c1 => ?_)
  · replace h := ite_t c1 h
    exact he _ (Option.some.inj h).symm
  · replace h := ite_f c1 h
    refine k_aload_n hF dX10_begin_7 rfl ?_
    refine k_get hF (v := .ref (B + 56)) shC_0 fl_X10_75_X10 dX10_begin_8 rfl ?_
    refine k_iload_n hF dX10_begin_11 rfl ?_
    obtain ⟨g2, h⟩ := gd_some h
    refine k_aald hF (q0 := (57 + 5 * x.2.toNatClampNeg)) shC_56 rfl dX10_begin_12 g2 rfl ?_
    refine k_get hF (v := .int (gi x.1 (57 + 5 * x.2.toNatClampNeg) 4)) (shC_TR x.2.toNatClampNeg (inb_lt g2)) fl_X10_221_X9 dX10_begin_13 rfl ?_
    refine k_if_ne hF (tgt := 34) dX10_begin_16 (by decide) (fun c3 => ?_) (fun c3 => ?_)
    · replace h := ite_f c3 h
      refine k_iinc hF (v := (x.2 + (1 : Int32))) (L' := [some (.ref (B + 0)), some (.int (x.2 + (1 : Int32)))]) dX10_begin_34 rfl (by first | rfl | (congr 1)) (by decide) rfl ?_
      refine k_goto hF dX10_begin_37 (tgt := 2) (by decide) ?_
      exact hc _ (Option.some.inj h).symm
    · replace h := ite_t c3 h
      refine k_aload_n hF dX10_begin_19 rfl ?_
      refine k_get hF (v := .ref (B + 56)) shC_0 fl_X10_75_X10 dX10_begin_20 rfl ?_
      refine k_iload_n hF dX10_begin_23 rfl ?_
      obtain ⟨g4, h⟩ := gd_some h
      refine k_aald hF (q0 := (57 + 5 * x.2.toNatClampNeg)) shC_56 rfl dX10_begin_24 g4 rfl ?_
      refine k_aload_n hF dX10_begin_25 rfl ?_
      refine k_get hF (v := .int (gi x.1 0 11)) shC_0 fl_X10_13_X10 dX10_begin_26 rfl ?_
      obtain ⟨v5, hv5, h⟩ := bind_some h
      refine k_callV hF hA (as := [.int (gi x.1 0 11)]) (ct_X9_openAt hbs (inb_lt g4) hv5) mv_X10_225 (shC_TR x.2.toNatClampNeg (inb_lt g4)) rfl rfl rfl ⟨Nat.le_of_ble_eq_true rfl, Nat.le_of_ble_eq_true rfl⟩ (Nat.le_of_ble_eq_true rfl) dX10_begin_29 ?_
      refine k_st (st2 := []) rfl ?_
      refine k_iload_n hF dX10_begin_32 rfl ?_
      exact he _ (Option.some.inj h).symm _ _ rfl dX10_begin_33
set_option maxHeartbeats 4000000 in
set_option maxRecDepth 100000 in
theorem wX10_begin {p : Program} {l : Launch} {e : Env} {s : State} {m : MethodId} {args : Array Value} {below : List Frame} {meth : Method} {c : Code} {A : Nat → Prop} {D : DD} {base B : Nat} (hF : KF D base cX10_begin RX10 A 2 1 6 p l e ({ frames := 6, cells := 1, slots := 6, locals := 90 } : Room) s m args below meth c) (hA : ∀ q, RA B shpC q → A q) (hbs : base ≤ B) {σ : St} {z : ((Int32 × St) ⊕ (Nat × St))} (h : fX10_begin σ = some z) (hr : meth.sig.returnType = (some .int)) (hT : ∀ x ∈ c.exceptionTable.toList, False) (hl : l.stackTraces = false) : KJ (Rep D B shpC) A 2 1 6 (vx_MQ below (QX D B shpC A (Sum.elim (fun v => .inl (some (.int v.1))) (fun n => .inr n.1) z) (Sum.elim (fun v => v.2) (fun n => n.2) z)) (XX D B shpC A (Sum.elim (fun v => .inl (some (.int v.1))) (fun n => .inr n.1) z) (Sum.elim (fun v => v.2) (fun n => n.2) z)) args s 1 6 A) p l e ({ frames := 6, cells := 1, slots := 6, locals := 90 } : Room) s m args below meth c 1 6 0 [some (.ref (B + 0)), none] [] σ := by
  unfold fX10_begin at h
  refine k_iconst hF dX10_begin_0 ci_0 ?_
  refine k_istore_n hF (L' := [some (.ref (B + 0)), some (.int (0 : Int32))]) dX10_begin_1 (by decide) rfl ?_
  obtain ⟨x6, hx6, h⟩ := bind_some h
  refine k_loop (P := fun xq => KJ (Rep D B shpC) A 2 1 6 (vx_MQ below (QX D B shpC A (Sum.elim (fun v => .inl (some (.int v.1))) (fun n => .inr n.1) z) (Sum.elim (fun v => v.2) (fun n => n.2) z)) (XX D B shpC A (Sum.elim (fun v => .inl (some (.int v.1))) (fun n => .inr n.1) z) (Sum.elim (fun v => v.2) (fun n => n.2) z)) args s 1 6 A) p l e ({ frames := 6, cells := 1, slots := 6, locals := 90 } : Room) s m args below meth c 1 6 2 [some (.ref (B + 0)), some (.int xq.2)] [] xq.1) (C := fun wq => Sum.elim (fun xq => KJ (Rep D B shpC) A 2 1 6 (vx_MQ below (QX D B shpC A (Sum.elim (fun v => .inl (some (.int v.1))) (fun n => .inr n.1) z) (Sum.elim (fun v => v.2) (fun n => n.2) z)) (XX D B shpC A (Sum.elim (fun v => .inl (some (.int v.1))) (fun n => .inr n.1) z) (Sum.elim (fun v => v.2) (fun n => n.2) z)) args s 1 6 A) p l e ({ frames := 6, cells := 1, slots := 6, locals := 90 } : Room) s m args below meth c 1 6 40 [some (.ref (B + 0)), some (.int xq.2)] [] xq.1) (fun rq => ∀ (pc : Nat) (L : List (Option Value)), narrow .int (.int rq.1) = .int rq.1 → decode cX10_begin pc = .ok (.ireturn, 1) → KJ (Rep D B shpC) A 2 1 6 (vx_MQ below (QX D B shpC A (Sum.elim (fun v => .inl (some (.int v.1))) (fun n => .inr n.1) z) (Sum.elim (fun v => v.2) (fun n => n.2) z)) (XX D B shpC A (Sum.elim (fun v => .inl (some (.int v.1))) (fun n => .inr n.1) z) (Sum.elim (fun v => v.2) (fun n => n.2) z)) args s 1 6 A) p l e ({ frames := 6, cells := 1, slots := 6, locals := 90 } : Room) s m args below meth c 1 6 pc L [.int rq.1] rq.2) wq) (fun x z hz hc he => wX10_begin_l2 hF hA hbs hz hc he) hx6 ?_
  rcases x6 with x7 | r8
  · show KJ (Rep D B shpC) A 2 1 6 (vx_MQ below (QX D B shpC A (Sum.elim (fun v => .inl (some (.int v.1))) (fun n => .inr n.1) z) (Sum.elim (fun v => v.2) (fun n => n.2) z)) (XX D B shpC A (Sum.elim (fun v => .inl (some (.int v.1))) (fun n => .inr n.1) z) (Sum.elim (fun v => v.2) (fun n => n.2) z)) args s 1 6 A) p l e ({ frames := 6, cells := 1, slots := 6, locals := 90 } : Room) s m args below meth c 1 6 40 [some (.ref (B + 0)), some (.int x7.2)] [] x7.1
    replace h : _ = some z := h
    cases h
    exact k_throw hF hl hT tw_98_102 ss_228 dX10_begin_40 dX10_begin_43 (.inl ⟨dX10_begin_44, dX10_begin_46, dX10_begin_49⟩) (by decide) (Nat.le_of_ble_eq_true rfl) (by decide) (by decide)
  · replace h : some (.inl (r8)) = some z := h
    cases h; exact fun pc L hn hd => k_xiret hF hr hn hd
theorem ct_X10_begin {l : Launch} (hl : l.stackTraces = false) {D : DD} {base B : Nat} (hbs : base ≤ B) {σ : St} {r : ((Int32 × St) ⊕ (Nat × St))} (h : fX10_begin σ = some r) : MetX l D B shpC base yX10_begin cX10_begin 2 (some .int) 6 90 1 6 [.ref (B + 0)] σ (Sum.elim (fun v => .inl (some (.int v.1))) (fun n => .inr n.1) r) (Sum.elim (fun v => v.2) (fun n => n.2) r) :=
  MetX.of (by decide +kernel) (fun v hv => by simp only [List.mem_cons, List.not_mem_nil, or_false] at hv; rcases hv with rfl <;> rfl) (Nat.le_of_ble_eq_true rfl) hbs (fun p e s m args below meth c hF hr hT => wX10_begin hF (fun q hq => hq) hbs h hr hT hl)
set_option maxHeartbeats 4000000 in
set_option maxRecDepth 100000 in
theorem wX10_requireTransaction_j21 {p : Program} {l : Launch} {e : Env} {s : State} {m : MethodId} {args : Array Value} {below : List Frame} {meth : Method} {c : Code} {A : Nat → Prop} {D : DD} {base B : Nat} (hF : KF D base cX10_requireTransaction RX10 A 2 1 6 p l e ({ frames := 6, cells := 1, slots := 6, locals := 90 } : Room) s m args below meth c) (hA : ∀ q, RA B shpC q → A q) (hbs : base ≤ B) {σ : St} {a1 : Int32} {z : (Unit ⊕ Nat)} (h : fX10_requireTransaction_j21 σ a1 = some z) (hr : meth.sig.returnType = none) (hT : ∀ x ∈ c.exceptionTable.toList, False) (hl : l.stackTraces = false) : KJ (Rep D B shpC) A 2 1 6 (vx_MQ below (QX D B shpC A (Sum.elim (fun v => .inl (none)) (fun n => .inr n) z) σ) (XX D B shpC A (Sum.elim (fun v => .inl (none)) (fun n => .inr n) z) σ) args s 1 6 A) p l e ({ frames := 6, cells := 1, slots := 6, locals := 90 } : Room) s m args below meth c 1 6 21 [some (.ref (B + 0)), some (.int a1)] [] σ := by
  unfold fX10_requireTransaction_j21 at h
  cases h
  exact k_throw hF hl hT tw_257_261 ss_400 dX10_requireTransaction_21 dX10_requireTransaction_24 (.inr ⟨dX10_requireTransaction_25, dX10_requireTransaction_28, dX10_requireTransaction_31⟩) (by decide) (Nat.le_of_ble_eq_true rfl) (by decide) (by decide)
set_option maxHeartbeats 4000000 in
set_option maxRecDepth 100000 in
theorem wX10_requireTransaction {p : Program} {l : Launch} {e : Env} {s : State} {m : MethodId} {args : Array Value} {below : List Frame} {meth : Method} {c : Code} {A : Nat → Prop} {D : DD} {base B : Nat} (hF : KF D base cX10_requireTransaction RX10 A 2 1 6 p l e ({ frames := 6, cells := 1, slots := 6, locals := 90 } : Room) s m args below meth c) (hA : ∀ q, RA B shpC q → A q) (hbs : base ≤ B) {σ : St} {a1 : Int32} {z : (Unit ⊕ Nat)} (h : fX10_requireTransaction σ a1 = some z) (hr : meth.sig.returnType = none) (hT : ∀ x ∈ c.exceptionTable.toList, False) (hl : l.stackTraces = false) : KJ (Rep D B shpC) A 2 1 6 (vx_MQ below (QX D B shpC A (Sum.elim (fun v => .inl (none)) (fun n => .inr n) z) σ) (XX D B shpC A (Sum.elim (fun v => .inl (none)) (fun n => .inr n) z) σ) args s 1 6 A) p l e ({ frames := 6, cells := 1, slots := 6, locals := 90 } : Room) s m args below meth c 1 6 0 [some (.ref (B + 0)), some (.int a1)] [] σ := by
  unfold fX10_requireTransaction at h
  refine k_iload_n hF dX10_requireTransaction_0 rfl ?_
  refine k_if_lt hF (tgt := 21) dX10_requireTransaction_1 (by decide) (fun c1 => ?_) (fun c1 => ?_)
  · replace h := ite_t c1 h
    exact wX10_requireTransaction_j21 hF hA hbs h hr hT hl
  · replace h := ite_f c1 h
    refine k_iload_n hF dX10_requireTransaction_4 rfl ?_
    refine k_iconst hF dX10_requireTransaction_5 ci_4 ?_
    refine k_icmp_ge hF (tgt := 21) dX10_requireTransaction_6 (by decide) (fun c2 => ?_) (fun c2 => ?_)
    · replace h := ite_t c2 h
      exact wX10_requireTransaction_j21 hF hA hbs h hr hT hl
    · replace h := ite_f c2 h
      refine k_aload_n hF dX10_requireTransaction_9 rfl ?_
      refine k_get hF (v := .ref (B + 56)) shC_0 fl_X10_75_X10 dX10_requireTransaction_10 rfl ?_
      refine k_iload_n hF dX10_requireTransaction_13 rfl ?_
      obtain ⟨g3, h⟩ := gd_some h
      refine k_aald hF (q0 := (57 + 5 * a1.toNatClampNeg)) shC_56 rfl dX10_requireTransaction_14 g3 rfl ?_
      refine k_get hF (v := .int (gi σ (57 + 5 * a1.toNatClampNeg) 4)) (shC_TR a1.toNatClampNeg (inb_lt g3)) fl_X10_221_X9 dX10_requireTransaction_15 rfl ?_
      refine k_if_ne hF (tgt := 32) dX10_requireTransaction_18 (by decide) (fun c4 => ?_) (fun c4 => ?_)
      · replace h := ite_f c4 h
        cases h
        exact k_xvret hF hr dX10_requireTransaction_32
      · replace h := ite_t c4 h
        exact wX10_requireTransaction_j21 hF hA hbs h hr hT hl
theorem ct_X10_requireTransaction {l : Launch} (hl : l.stackTraces = false) {D : DD} {base B : Nat} (hbs : base ≤ B) {σ : St} {a1 : Int32} {r : (Unit ⊕ Nat)} (h : fX10_requireTransaction σ a1 = some r) : MetX l D B shpC base yX10_requireTransaction cX10_requireTransaction 2 none 6 90 1 6 [.ref (B + 0), .int a1] σ (Sum.elim (fun v => .inl (none)) (fun n => .inr n) r) σ :=
  MetX.of (by decide +kernel) (fun v hv => by simp only [List.mem_cons, List.not_mem_nil, or_false] at hv; rcases hv with rfl | rfl <;> rfl) (Nat.le_of_ble_eq_true rfl) hbs (fun p e s m args below meth c hF hr hT => wX10_requireTransaction hF (fun q hq => hq) hbs h hr hT hl)
set_option maxHeartbeats 4000000 in
set_option maxRecDepth 100000 in
theorem wX10_requireSeen {p : Program} {l : Launch} {e : Env} {s : State} {m : MethodId} {args : Array Value} {below : List Frame} {meth : Method} {c : Code} {A : Nat → Prop} {D : DD} {base B : Nat} (hF : KF D base cX10_requireSeen RX10 A 3 2 12 p l e ({ frames := 7, cells := 2, slots := 12, locals := 111 } : Room) s m args below meth c) (hA : ∀ q, RA B shpC q → A q) (hbs : base ≤ B) {σ : St} {a1 : Int32} {a2 : Int32} {z : (Unit ⊕ Nat)} (h : fX10_requireSeen σ a1 a2 = some z) (hr : meth.sig.returnType = none) (hT : ∀ x ∈ c.exceptionTable.toList, False) (hl : l.stackTraces = false) : KJ (Rep D B shpC) A 3 2 12 (vx_MQ below (QX D B shpC A (Sum.elim (fun v => .inl (none)) (fun n => .inr n) z) σ) (XX D B shpC A (Sum.elim (fun v => .inl (none)) (fun n => .inr n) z) σ) args s 2 12 A) p l e ({ frames := 7, cells := 2, slots := 12, locals := 111 } : Room) s m args below meth c 2 12 0 [some (.ref (B + 0)), some (.int a1), some (.int a2)] [] σ := by
  unfold fX10_requireSeen at h
  refine k_aload_n hF dX10_requireSeen_0 rfl ?_
  refine k_iload_n hF dX10_requireSeen_1 rfl ?_
  obtain ⟨v1, hv1, h⟩ := bind_some h
  rcases v1 with v2 | n3
  · dsimp only [Sum.elim_inl] at h
    refine k_xV_r hF hA 1 6 (as := [.int a1]) (ct_X10_requireTransaction hl hbs hv1) mv_X10_244 shC_0 rfl rfl rfl ⟨Nat.le_of_ble_eq_true rfl, Nat.le_of_ble_eq_true rfl⟩ (Nat.le_of_ble_eq_true rfl) dX10_requireSeen_2 (by decide) (by decide) ?_
    refine k_st (st2 := []) rfl ?_
    refine k_aload_n hF dX10_requireSeen_5 rfl ?_
    refine k_get hF (v := .ref (B + 1)) shC_0 fl_X10_19_X10 dX10_requireSeen_6 rfl ?_
    refine k_iload_n hF dX10_requireSeen_9 rfl ?_
    refine k_aload_n hF dX10_requireSeen_10 rfl ?_
    refine k_get hF (v := .ref (B + 56)) shC_0 fl_X10_75_X10 dX10_requireSeen_11 rfl ?_
    refine k_iload_n hF dX10_requireSeen_14 rfl ?_
    obtain ⟨g4, h⟩ := gd_some h
    refine k_aald hF (q0 := (57 + 5 * a1.toNatClampNeg)) shC_56 rfl dX10_requireSeen_15 g4 rfl ?_
    refine k_get hF (v := .int (gi σ (57 + 5 * a1.toNatClampNeg) 5)) (shC_TR a1.toNatClampNeg (inb_lt g4)) fl_X10_247_X9 dX10_requireSeen_16 rfl ?_
    obtain ⟨v5, hv5, h⟩ := bind_some h
    refine k_callU hF hA (as := [.int a2, .int (gi σ (57 + 5 * a1.toNatClampNeg) 5)]) (ct_X7_wasThereN hbs hv5) mu_X10_297 shC_1 rfl rfl rfl ⟨Nat.le_of_ble_eq_true rfl, Nat.le_of_ble_eq_true rfl⟩ (Nat.le_of_ble_eq_true rfl) dX10_requireSeen_19 ?_
    refine k_st (st2 := [.int v5]) rfl ?_
    refine k_if_ne hF (tgt := 36) dX10_requireSeen_22 (by decide) (fun c6 => ?_) (fun c6 => ?_)
    · replace h := ite_f c6 h
      cases h
      exact k_xvret hF hr dX10_requireSeen_36
    · replace h := ite_t c6 h
      cases h
      exact k_throw hF hl hT tw_257_261 ss_402 dX10_requireSeen_25 dX10_requireSeen_28 (.inr ⟨dX10_requireSeen_29, dX10_requireSeen_32, dX10_requireSeen_35⟩) (by decide) (Nat.le_of_ble_eq_true rfl) (by decide) (by decide)
  · replace h : some (.inr n3) = some z := h
    cases h
    exact k_xV_x hF hA hT (as := [.int a1]) (ct_X10_requireTransaction hl hbs hv1) mv_X10_244 shC_0 rfl rfl rfl ⟨Nat.le_of_ble_eq_true rfl, Nat.le_of_ble_eq_true rfl⟩ (Nat.le_of_ble_eq_true rfl) dX10_requireSeen_2 (by decide) (by decide)
theorem ct_X10_requireSeen {l : Launch} (hl : l.stackTraces = false) {D : DD} {base B : Nat} (hbs : base ≤ B) {σ : St} {a1 : Int32} {a2 : Int32} {r : (Unit ⊕ Nat)} (h : fX10_requireSeen σ a1 a2 = some r) : MetX l D B shpC base yX10_requireSeen cX10_requireSeen 3 none 7 111 2 12 [.ref (B + 0), .int a1, .int a2] σ (Sum.elim (fun v => .inl (none)) (fun n => .inr n) r) σ :=
  MetX.of (by decide +kernel) (fun v hv => by simp only [List.mem_cons, List.not_mem_nil, or_false] at hv; rcases hv with rfl | rfl | rfl <;> rfl) (Nat.le_of_ble_eq_true rfl) hbs (fun p e s m args below meth c hF hr hT => wX10_requireSeen hF (fun q hq => hq) hbs h hr hT hl)
set_option maxHeartbeats 4000000 in
set_option maxRecDepth 100000 in
theorem wX10_write {p : Program} {l : Launch} {e : Env} {s : State} {m : MethodId} {args : Array Value} {below : List Frame} {meth : Method} {c : Code} {A : Nat → Prop} {D : DD} {base B : Nat} (hF : KF D base cX10_write RX10 A 4 2 12 p l e ({ frames := 8, cells := 2, slots := 12, locals := 133 } : Room) s m args below meth c) (hA : ∀ q, RA B shpC q → A q) (hbs : base ≤ B) {σ : St} {a1 : Int32} {a2 : Int32} {a3 : Int32} {z : (St ⊕ (Nat × St))} (h : fX10_write σ a1 a2 a3 = some z) (hr : meth.sig.returnType = none) (hT : ∀ x ∈ c.exceptionTable.toList, False) (hl : l.stackTraces = false) : KJ (Rep D B shpC) A 4 2 12 (vx_MQ below (QX D B shpC A (Sum.elim (fun v => .inl (none)) (fun n => .inr n.1) z) (Sum.elim (fun v => v) (fun n => n.2) z)) (XX D B shpC A (Sum.elim (fun v => .inl (none)) (fun n => .inr n.1) z) (Sum.elim (fun v => v) (fun n => n.2) z)) args s 2 12 A) p l e ({ frames := 8, cells := 2, slots := 12, locals := 133 } : Room) s m args below meth c 2 12 0 [some (.ref (B + 0)), some (.int a1), some (.int a2), some (.int a3)] [] σ := by
  unfold fX10_write at h
  refine k_aload_n hF dX10_write_0 rfl ?_
  refine k_iload_n hF dX10_write_1 rfl ?_
  refine k_iload_n hF dX10_write_2 rfl ?_
  obtain ⟨v1, hv1, h⟩ := bind_some h
  rcases v1 with v2 | n3
  · dsimp only [Sum.elim_inl] at h
    refine k_xV_r hF hA 0 0 (as := [.int a1, .int a2]) (ct_X10_requireSeen hl hbs hv1) mv_X10_230 shC_0 rfl rfl rfl ⟨Nat.le_of_ble_eq_true rfl, Nat.le_of_ble_eq_true rfl⟩ (Nat.le_of_ble_eq_true rfl) dX10_write_3 (by decide) (by decide) ?_
    refine k_st (st2 := []) rfl ?_
    refine k_aload_n hF dX10_write_6 rfl ?_
    refine k_get hF (v := .ref (B + 56)) shC_0 fl_X10_75_X10 dX10_write_7 rfl ?_
    refine k_iload_n hF dX10_write_10 rfl ?_
    obtain ⟨g4, h⟩ := gd_some h
    refine k_aald hF (q0 := (57 + 5 * a1.toNatClampNeg)) shC_56 rfl dX10_write_11 g4 rfl ?_
    refine k_iload_n hF dX10_write_12 rfl ?_
    refine k_iload_n hF dX10_write_13 rfl ?_
    obtain ⟨v5, hv5, h⟩ := bind_some h
    refine k_callV hF hA (as := [.int a2, .int a3]) (ct_X9_putValue hbs (inb_lt g4) hv5) mv_X10_233 (shC_TR a1.toNatClampNeg (inb_lt g4)) rfl rfl rfl ⟨Nat.le_of_ble_eq_true rfl, Nat.le_of_ble_eq_true rfl⟩ (Nat.le_of_ble_eq_true rfl) dX10_write_14 ?_
    refine k_st (st2 := []) rfl ?_
    cases h
    exact k_xvret hF hr dX10_write_17
  · replace h : some (.inr (n3, σ)) = some z := h
    cases h
    exact k_xV_x hF hA hT (as := [.int a1, .int a2]) (ct_X10_requireSeen hl hbs hv1) mv_X10_230 shC_0 rfl rfl rfl ⟨Nat.le_of_ble_eq_true rfl, Nat.le_of_ble_eq_true rfl⟩ (Nat.le_of_ble_eq_true rfl) dX10_write_3 (by decide) (by decide)
theorem ct_X10_write {l : Launch} (hl : l.stackTraces = false) {D : DD} {base B : Nat} (hbs : base ≤ B) {σ : St} {a1 : Int32} {a2 : Int32} {a3 : Int32} {r : (St ⊕ (Nat × St))} (h : fX10_write σ a1 a2 a3 = some r) : MetX l D B shpC base yX10_write cX10_write 4 none 8 133 2 12 [.ref (B + 0), .int a1, .int a2, .int a3] σ (Sum.elim (fun v => .inl (none)) (fun n => .inr n.1) r) (Sum.elim (fun v => v) (fun n => n.2) r) :=
  MetX.of (by decide +kernel) (fun v hv => by simp only [List.mem_cons, List.not_mem_nil, or_false] at hv; rcases hv with rfl | rfl | rfl | rfl <;> rfl) (Nat.le_of_ble_eq_true rfl) hbs (fun p e s m args below meth c hF hr hT => wX10_write hF (fun q hq => hq) hbs h hr hT hl)
set_option maxHeartbeats 4000000 in
set_option maxRecDepth 100000 in
theorem wX10_link {p : Program} {l : Launch} {e : Env} {s : State} {m : MethodId} {args : Array Value} {below : List Frame} {meth : Method} {c : Code} {A : Nat → Prop} {D : DD} {base B : Nat} (hF : KF D base cX10_link RX10 A 6 6 36 p l e ({ frames := 8, cells := 6, slots := 36, locals := 133 } : Room) s m args below meth c) (hA : ∀ q, RA B shpC q → A q) (hbs : base ≤ B) {σ : St} {a1 : Int32} {a2 : Int32} {a3 : Int32} {a4 : Int32} {z : ((Int32 × St) ⊕ (Nat × St))} (h : fX10_link σ a1 a2 a3 a4 = some z) (hr : meth.sig.returnType = (some .int)) (hT : ∀ x ∈ c.exceptionTable.toList, False) (hl : l.stackTraces = false) : KJ (Rep D B shpC) A 6 6 36 (vx_MQ below (QX D B shpC A (Sum.elim (fun v => .inl (some (.int v.1))) (fun n => .inr n.1) z) (Sum.elim (fun v => v.2) (fun n => n.2) z)) (XX D B shpC A (Sum.elim (fun v => .inl (some (.int v.1))) (fun n => .inr n.1) z) (Sum.elim (fun v => v.2) (fun n => n.2) z)) args s 6 36 A) p l e ({ frames := 8, cells := 6, slots := 36, locals := 133 } : Room) s m args below meth c 6 36 0 [some (.ref (B + 0)), some (.int a1), some (.int a2), some (.int a3), some (.int a4), none] [] σ := by
  unfold fX10_link at h
  refine k_aload_n hF dX10_link_0 rfl ?_
  refine k_iload_n hF dX10_link_1 rfl ?_
  refine k_iload_n hF dX10_link_2 rfl ?_
  obtain ⟨v1, hv1, h⟩ := bind_some h
  rcases v1 with v2 | n3
  · dsimp only [Sum.elim_inl] at h
    refine k_xV_r hF hA 4 24 (as := [.int a1, .int a2]) (ct_X10_requireSeen hl hbs hv1) mv_X10_230 shC_0 rfl rfl rfl ⟨Nat.le_of_ble_eq_true rfl, Nat.le_of_ble_eq_true rfl⟩ (Nat.le_of_ble_eq_true rfl) dX10_link_3 (by decide) (by decide) ?_
    refine k_st (st2 := []) rfl ?_
    refine k_aload_n hF dX10_link_6 rfl ?_
    refine k_iload_n hF dX10_link_7 rfl ?_
    refine k_iload hF dX10_link_8 rfl ?_
    obtain ⟨v4, hv4, h⟩ := bind_some h
    rcases v4 with v5 | n6
    · dsimp only [Sum.elim_inl] at h
      refine k_xV_r hF hA 2 12 (as := [.int a1, .int a4]) (ct_X10_requireSeen hl hbs hv4) mv_X10_230 shC_0 rfl rfl rfl ⟨Nat.le_of_ble_eq_true rfl, Nat.le_of_ble_eq_true rfl⟩ (Nat.le_of_ble_eq_true rfl) dX10_link_10 (by decide) (by decide) ?_
      refine k_st (st2 := []) rfl ?_
      refine k_iload_n hF dX10_link_13 rfl ?_
      obtain ⟨v7, hv7, h⟩ := bind_some h
      rcases v7 with v8 | n9
      · dsimp only [Sum.elim_inl] at h
        refine k_xS_r hF hA 1 6 (as := [.int a3]) (ct_X10_requireLabel hl hbs hv7) ms_X10_91 rfl rfl ⟨Nat.le_of_ble_eq_true rfl, Nat.le_of_ble_eq_true rfl⟩ (Nat.le_of_ble_eq_true rfl) dX10_link_14 (by decide) (by decide) ?_
        refine k_st (st2 := []) rfl ?_
        refine k_aload_n hF dX10_link_17 rfl ?_
        refine k_get hF (v := .ref (B + 56)) shC_0 fl_X10_75_X10 dX10_link_18 rfl ?_
        refine k_iload_n hF dX10_link_21 rfl ?_
        obtain ⟨g10, h⟩ := gd_some h
        refine k_aald hF (q0 := (57 + 5 * a1.toNatClampNeg)) shC_56 rfl dX10_link_22 g10 rfl ?_
        refine k_astore hF (L' := [some (.ref (B + 0)), some (.int a1), some (.int a2), some (.int a3), some (.int a4), some (.ref (B + (57 + 5 * a1.toNatClampNeg)))]) dX10_link_23 (by decide) rfl ?_
        refine k_aload hF dX10_link_25 rfl ?_
        refine k_get hF (v := .int (gi σ (57 + 5 * a1.toNatClampNeg) 7)) (shC_TR a1.toNatClampNeg (inb_lt g10)) fl_X10_236_X9 dX10_link_27 rfl ?_
        refine k_bipush hF (v := (8 : Int32)) dX10_link_30 (by decide) ?_
        refine k_icmp_lt hF (tgt := 45) dX10_link_32 (by decide) (fun c11 => ?_) (fun c11 => ?_)
        · replace h := ite_t c11 h
          refine k_aload hF dX10_link_45 rfl ?_
          refine k_iload_n hF dX10_link_47 rfl ?_
          refine k_iload_n hF dX10_link_48 rfl ?_
          refine k_iload hF dX10_link_49 rfl ?_
          obtain ⟨v12, hv12, h⟩ := bind_some h
          refine k_callV hF hA (as := [.int a2, .int a3, .int a4]) (ct_X9_putLink hbs (inb_lt g10) hv12) mv_X10_241 (shC_TR a1.toNatClampNeg (inb_lt g10)) rfl rfl rfl ⟨Nat.le_of_ble_eq_true rfl, Nat.le_of_ble_eq_true rfl⟩ (Nat.le_of_ble_eq_true rfl) dX10_link_51 ?_
          refine k_st (st2 := []) rfl ?_
          refine k_aload hF dX10_link_54 rfl ?_
          refine k_get hF (v := .int (gi v12 (57 + 5 * a1.toNatClampNeg) 7)) (shC_TR a1.toNatClampNeg (inb_lt g10)) fl_X10_236_X9 dX10_link_56 rfl ?_
          cases h
          exact k_xiret hF hr rfl dX10_link_59
        · replace h := ite_f c11 h
          cases h
          exact k_throw hF hl hT tw_98_102 ss_239 dX10_link_35 dX10_link_38 (.inl ⟨dX10_link_39, dX10_link_41, dX10_link_44⟩) (by decide) (Nat.le_of_ble_eq_true rfl) (by decide) (by decide)
      · replace h : some (.inr (n9, σ)) = some z := h
        cases h
        exact k_xS_x hF hA hT (as := [.int a3]) (ct_X10_requireLabel hl hbs hv7) ms_X10_91 rfl rfl ⟨Nat.le_of_ble_eq_true rfl, Nat.le_of_ble_eq_true rfl⟩ (Nat.le_of_ble_eq_true rfl) dX10_link_14 (by decide) (by decide)
    · replace h : some (.inr (n6, σ)) = some z := h
      cases h
      exact k_xV_x hF hA hT (as := [.int a1, .int a4]) (ct_X10_requireSeen hl hbs hv4) mv_X10_230 shC_0 rfl rfl rfl ⟨Nat.le_of_ble_eq_true rfl, Nat.le_of_ble_eq_true rfl⟩ (Nat.le_of_ble_eq_true rfl) dX10_link_10 (by decide) (by decide)
  · replace h : some (.inr (n3, σ)) = some z := h
    cases h
    exact k_xV_x hF hA hT (as := [.int a1, .int a2]) (ct_X10_requireSeen hl hbs hv1) mv_X10_230 shC_0 rfl rfl rfl ⟨Nat.le_of_ble_eq_true rfl, Nat.le_of_ble_eq_true rfl⟩ (Nat.le_of_ble_eq_true rfl) dX10_link_3 (by decide) (by decide)
theorem ct_X10_link {l : Launch} (hl : l.stackTraces = false) {D : DD} {base B : Nat} (hbs : base ≤ B) {σ : St} {a1 : Int32} {a2 : Int32} {a3 : Int32} {a4 : Int32} {r : ((Int32 × St) ⊕ (Nat × St))} (h : fX10_link σ a1 a2 a3 a4 = some r) : MetX l D B shpC base yX10_link cX10_link 6 (some .int) 8 133 6 36 [.ref (B + 0), .int a1, .int a2, .int a3, .int a4] σ (Sum.elim (fun v => .inl (some (.int v.1))) (fun n => .inr n.1) r) (Sum.elim (fun v => v.2) (fun n => n.2) r) :=
  MetX.of (by decide +kernel) (fun v hv => by simp only [List.mem_cons, List.not_mem_nil, or_false] at hv; rcases hv with rfl | rfl | rfl | rfl | rfl <;> rfl) (Nat.le_of_ble_eq_true rfl) hbs (fun p e s m args below meth c hF hr hT => wX10_link hF (fun q hq => hq) hbs h hr hT hl)
set_option maxHeartbeats 4000000 in
set_option maxRecDepth 100000 in
theorem wX10_unlink_j35 {p : Program} {l : Launch} {e : Env} {s : State} {m : MethodId} {args : Array Value} {below : List Frame} {meth : Method} {c : Code} {A : Nat → Prop} {D : DD} {base B : Nat} (hF : KF D base cX10_unlink RX10 A 4 2 12 p l e ({ frames := 7, cells := 2, slots := 12, locals := 111 } : Room) s m args below meth c) (hA : ∀ q, RA B shpC q → A q) (hbs : base ≤ B) {σ : St} {a1 : Int32} {a2 : Int32} {z : (St ⊕ (Nat × St))} (h : fX10_unlink_j35 σ a1 a2 = some z) (hr : meth.sig.returnType = none) (hT : ∀ x ∈ c.exceptionTable.toList, False) (hl : l.stackTraces = false) : KJ (Rep D B shpC) A 4 2 12 (vx_MQ below (QX D B shpC A (Sum.elim (fun v => .inl (none)) (fun n => .inr n.1) z) (Sum.elim (fun v => v) (fun n => n.2) z)) (XX D B shpC A (Sum.elim (fun v => .inl (none)) (fun n => .inr n.1) z) (Sum.elim (fun v => v) (fun n => n.2) z)) args s 2 12 A) p l e ({ frames := 7, cells := 2, slots := 12, locals := 111 } : Room) s m args below meth c 1 6 35 [some (.ref (B + 0)), some (.int a1), some (.int a2), none] [] σ := by
  unfold fX10_unlink_j35 at h
  cases h
  exact k_throw hF hl hT tw_257_261 ss_259 dX10_unlink_35 dX10_unlink_38 (.inr ⟨dX10_unlink_39, dX10_unlink_42, dX10_unlink_45⟩) (by decide) (Nat.le_of_ble_eq_true rfl) (by decide) (by decide)
set_option maxHeartbeats 4000000 in
set_option maxRecDepth 100000 in
theorem wX10_unlink {p : Program} {l : Launch} {e : Env} {s : State} {m : MethodId} {args : Array Value} {below : List Frame} {meth : Method} {c : Code} {A : Nat → Prop} {D : DD} {base B : Nat} (hF : KF D base cX10_unlink RX10 A 4 2 12 p l e ({ frames := 7, cells := 2, slots := 12, locals := 111 } : Room) s m args below meth c) (hA : ∀ q, RA B shpC q → A q) (hbs : base ≤ B) {σ : St} {a1 : Int32} {a2 : Int32} {z : (St ⊕ (Nat × St))} (h : fX10_unlink σ a1 a2 = some z) (hr : meth.sig.returnType = none) (hT : ∀ x ∈ c.exceptionTable.toList, False) (hl : l.stackTraces = false) : KJ (Rep D B shpC) A 4 2 12 (vx_MQ below (QX D B shpC A (Sum.elim (fun v => .inl (none)) (fun n => .inr n.1) z) (Sum.elim (fun v => v) (fun n => n.2) z)) (XX D B shpC A (Sum.elim (fun v => .inl (none)) (fun n => .inr n.1) z) (Sum.elim (fun v => v) (fun n => n.2) z)) args s 2 12 A) p l e ({ frames := 7, cells := 2, slots := 12, locals := 111 } : Room) s m args below meth c 2 12 0 [some (.ref (B + 0)), some (.int a1), some (.int a2), none] [] σ := by
  unfold fX10_unlink at h
  refine k_aload_n hF dX10_unlink_0 rfl ?_
  refine k_iload_n hF dX10_unlink_1 rfl ?_
  obtain ⟨v1, hv1, h⟩ := bind_some h
  rcases v1 with v2 | n3
  · dsimp only [Sum.elim_inl] at h
    refine k_xV_r hF hA 1 6 (as := [.int a1]) (ct_X10_requireTransaction hl hbs hv1) mv_X10_244 shC_0 rfl rfl rfl ⟨Nat.le_of_ble_eq_true rfl, Nat.le_of_ble_eq_true rfl⟩ (Nat.le_of_ble_eq_true rfl) dX10_unlink_2 (by decide) (by decide) ?_
    refine k_st (st2 := []) rfl ?_
    refine k_aload_n hF dX10_unlink_5 rfl ?_
    refine k_get hF (v := .ref (B + 56)) shC_0 fl_X10_75_X10 dX10_unlink_6 rfl ?_
    refine k_iload_n hF dX10_unlink_9 rfl ?_
    obtain ⟨g4, h⟩ := gd_some h
    refine k_aald hF (q0 := (57 + 5 * a1.toNatClampNeg)) shC_56 rfl dX10_unlink_10 g4 rfl ?_
    refine k_astore_n hF (L' := [some (.ref (B + 0)), some (.int a1), some (.int a2), some (.ref (B + (57 + 5 * a1.toNatClampNeg)))]) dX10_unlink_11 (by decide) rfl ?_
    refine k_aload_n hF dX10_unlink_12 rfl ?_
    refine k_get hF (v := .ref (B + 10)) shC_0 fl_X10_26_X10 dX10_unlink_13 rfl ?_
    refine k_iload_n hF dX10_unlink_16 rfl ?_
    refine k_aload_n hF dX10_unlink_17 rfl ?_
    refine k_get hF (v := .int (gi σ (57 + 5 * a1.toNatClampNeg) 5)) (shC_TR a1.toNatClampNeg (inb_lt g4)) fl_X10_247_X9 dX10_unlink_18 rfl ?_
    obtain ⟨v5, hv5, h⟩ := bind_some h
    refine k_callU hF hA (as := [.int a2, .int (gi σ (57 + 5 * a1.toNatClampNeg) 5)]) (ct_X7_wasThereE hbs hv5) mu_X10_250 shC_10 rfl rfl rfl ⟨Nat.le_of_ble_eq_true rfl, Nat.le_of_ble_eq_true rfl⟩ (Nat.le_of_ble_eq_true rfl) dX10_unlink_21 ?_
    refine k_st (st2 := [.int v5]) rfl ?_
    refine k_if_eq hF (tgt := 35) dX10_unlink_24 (by decide) (fun c6 => ?_) (fun c6 => ?_)
    · replace h := ite_t c6 h
      refine k_kill 3 rfl ?_
      exact wX10_unlink_j35 hF hA hbs h hr hT hl
    · replace h := ite_f c6 h
      refine k_aload_n hF dX10_unlink_27 rfl ?_
      refine k_iload_n hF dX10_unlink_28 rfl ?_
      obtain ⟨v7, hv7, h⟩ := bind_some h
      refine k_callV hF hA (as := [.int a2]) (ct_X9_drops hbs (inb_lt g4) hv7) mv_X10_254 (shC_TR a1.toNatClampNeg (inb_lt g4)) rfl rfl rfl ⟨Nat.le_of_ble_eq_true rfl, Nat.le_of_ble_eq_true rfl⟩ (Nat.le_of_ble_eq_true rfl) dX10_unlink_29 ?_
      refine k_st (st2 := [.int v7]) rfl ?_
      refine k_if_eq hF (tgt := 46) dX10_unlink_32 (by decide) (fun c8 => ?_) (fun c8 => ?_)
      · replace h := ite_t c8 h
        refine k_aload_n hF dX10_unlink_46 rfl ?_
        refine k_iload_n hF dX10_unlink_47 rfl ?_
        obtain ⟨v9, hv9, h⟩ := bind_some h
        refine k_callV hF hA (as := [.int a2]) (ct_X9_putDrop hbs (inb_lt g4) hv9) mv_X10_262 (shC_TR a1.toNatClampNeg (inb_lt g4)) rfl rfl rfl ⟨Nat.le_of_ble_eq_true rfl, Nat.le_of_ble_eq_true rfl⟩ (Nat.le_of_ble_eq_true rfl) dX10_unlink_48 ?_
        refine k_st (st2 := []) rfl ?_
        cases h
        exact k_xvret hF hr dX10_unlink_51
      · replace h := ite_f c8 h
        refine k_kill 3 rfl ?_
        exact wX10_unlink_j35 hF hA hbs h hr hT hl
  · replace h : some (.inr (n3, σ)) = some z := h
    cases h
    exact k_xV_x hF hA hT (as := [.int a1]) (ct_X10_requireTransaction hl hbs hv1) mv_X10_244 shC_0 rfl rfl rfl ⟨Nat.le_of_ble_eq_true rfl, Nat.le_of_ble_eq_true rfl⟩ (Nat.le_of_ble_eq_true rfl) dX10_unlink_2 (by decide) (by decide)
theorem ct_X10_unlink {l : Launch} (hl : l.stackTraces = false) {D : DD} {base B : Nat} (hbs : base ≤ B) {σ : St} {a1 : Int32} {a2 : Int32} {r : (St ⊕ (Nat × St))} (h : fX10_unlink σ a1 a2 = some r) : MetX l D B shpC base yX10_unlink cX10_unlink 4 none 7 111 2 12 [.ref (B + 0), .int a1, .int a2] σ (Sum.elim (fun v => .inl (none)) (fun n => .inr n.1) r) (Sum.elim (fun v => v) (fun n => n.2) r) :=
  MetX.of (by decide +kernel) (fun v hv => by simp only [List.mem_cons, List.not_mem_nil, or_false] at hv; rcases hv with rfl | rfl | rfl <;> rfl) (Nat.le_of_ble_eq_true rfl) hbs (fun p e s m args below meth c hF hr hT => wX10_unlink hF (fun q hq => hq) hbs h hr hT hl)
set_option maxHeartbeats 4000000 in
set_option maxRecDepth 100000 in
theorem wX10_read {p : Program} {l : Launch} {e : Env} {s : State} {m : MethodId} {args : Array Value} {below : List Frame} {meth : Method} {c : Code} {A : Nat → Prop} {D : DD} {base B : Nat} (hF : KF D base cX10_read RX10 A 4 2 12 p l e ({ frames := 8, cells := 2, slots := 12, locals := 133 } : Room) s m args below meth c) (hA : ∀ q, RA B shpC q → A q) (hbs : base ≤ B) {σ : St} {a1 : Int32} {a2 : Int32} {z : (Int32 ⊕ Nat)} (h : fX10_read σ a1 a2 = some z) (hr : meth.sig.returnType = (some .int)) (hT : ∀ x ∈ c.exceptionTable.toList, False) (hl : l.stackTraces = false) : KJ (Rep D B shpC) A 4 2 12 (vx_MQ below (QX D B shpC A (Sum.elim (fun v => .inl (some (.int v))) (fun n => .inr n) z) σ) (XX D B shpC A (Sum.elim (fun v => .inl (some (.int v))) (fun n => .inr n) z) σ) args s 2 12 A) p l e ({ frames := 8, cells := 2, slots := 12, locals := 133 } : Room) s m args below meth c 2 12 0 [some (.ref (B + 0)), some (.int a1), some (.int a2), none] [] σ := by
  unfold fX10_read at h
  refine k_aload_n hF dX10_read_0 rfl ?_
  refine k_iload_n hF dX10_read_1 rfl ?_
  refine k_iload_n hF dX10_read_2 rfl ?_
  obtain ⟨v1, hv1, h⟩ := bind_some h
  rcases v1 with v2 | n3
  · dsimp only [Sum.elim_inl] at h
    refine k_xV_r hF hA 0 0 (as := [.int a1, .int a2]) (ct_X10_requireSeen hl hbs hv1) mv_X10_230 shC_0 rfl rfl rfl ⟨Nat.le_of_ble_eq_true rfl, Nat.le_of_ble_eq_true rfl⟩ (Nat.le_of_ble_eq_true rfl) dX10_read_3 (by decide) (by decide) ?_
    refine k_st (st2 := []) rfl ?_
    refine k_aload_n hF dX10_read_6 rfl ?_
    refine k_get hF (v := .ref (B + 56)) shC_0 fl_X10_75_X10 dX10_read_7 rfl ?_
    refine k_iload_n hF dX10_read_10 rfl ?_
    obtain ⟨g4, h⟩ := gd_some h
    refine k_aald hF (q0 := (57 + 5 * a1.toNatClampNeg)) shC_56 rfl dX10_read_11 g4 rfl ?_
    refine k_astore_n hF (L' := [some (.ref (B + 0)), some (.int a1), some (.int a2), some (.ref (B + (57 + 5 * a1.toNatClampNeg)))]) dX10_read_12 (by decide) rfl ?_
    refine k_aload_n hF dX10_read_13 rfl ?_
    refine k_get hF (v := .int (gi σ (57 + 5 * a1.toNatClampNeg) 6)) (shC_TR a1.toNatClampNeg (inb_lt g4)) fl_X10_265_X9 dX10_read_14 rfl ?_
    refine k_iload_n hF dX10_read_17 rfl ?_
    obtain ⟨v5, hv5, h⟩ := bind_some h
    refine k_callS hF hA (as := [.int (gi σ (57 + 5 * a1.toNatClampNeg) 6), .int a2]) (ct_X10_has hbs hv5) ms_X10_268 rfl rfl ⟨Nat.le_of_ble_eq_true rfl, Nat.le_of_ble_eq_true rfl⟩ (Nat.le_of_ble_eq_true rfl) dX10_read_18 ?_
    refine k_st (st2 := [.int v5]) rfl ?_
    refine k_if_eq hF (tgt := 33) dX10_read_21 (by decide) (fun c6 => ?_) (fun c6 => ?_)
    · replace h := ite_t c6 h
      refine k_aload_n hF dX10_read_33 rfl ?_
      refine k_get hF (v := .ref (B + 1)) shC_0 fl_X10_19_X10 dX10_read_34 rfl ?_
      refine k_iload_n hF dX10_read_37 rfl ?_
      refine k_aload_n hF dX10_read_38 rfl ?_
      refine k_get hF (v := .int (gi σ (57 + 5 * a1.toNatClampNeg) 5)) (shC_TR a1.toNatClampNeg (inb_lt g4)) fl_X10_247_X9 dX10_read_39 rfl ?_
      obtain ⟨v7, hv7, h⟩ := bind_some h
      refine k_callV hF hA (as := [.int a2, .int (gi σ (57 + 5 * a1.toNatClampNeg) 5)]) (ct_X6_valueAsOf hbs hv7) mv_X10_272 shC_1 rfl rfl rfl ⟨Nat.le_of_ble_eq_true rfl, Nat.le_of_ble_eq_true rfl⟩ (Nat.le_of_ble_eq_true rfl) dX10_read_42 ?_
      refine k_st (st2 := [.int v7]) rfl ?_
      cases h
      exact k_xiret hF hr rfl dX10_read_45
    · replace h := ite_f c6 h
      refine k_aload_n hF dX10_read_24 rfl ?_
      refine k_get hF (v := .ref (B + (58 + 5 * a1.toNatClampNeg))) (shC_TR a1.toNatClampNeg (inb_lt g4)) fl_X10_271_X9 dX10_read_25 rfl ?_
      refine k_iload_n hF dX10_read_28 rfl ?_
      obtain ⟨g8, h⟩ := gd_some h
      refine k_iald hF (shC_TR_0 a1.toNatClampNeg (inb_lt g4)) dX10_read_29 g8 ?_
      refine k_goto hF dX10_read_30 (tgt := 45) (by decide) ?_
      cases h
      exact k_xiret hF hr rfl dX10_read_45
  · replace h : some (.inr n3) = some z := h
    cases h
    exact k_xV_x hF hA hT (as := [.int a1, .int a2]) (ct_X10_requireSeen hl hbs hv1) mv_X10_230 shC_0 rfl rfl rfl ⟨Nat.le_of_ble_eq_true rfl, Nat.le_of_ble_eq_true rfl⟩ (Nat.le_of_ble_eq_true rfl) dX10_read_3 (by decide) (by decide)
theorem ct_X10_read {l : Launch} (hl : l.stackTraces = false) {D : DD} {base B : Nat} (hbs : base ≤ B) {σ : St} {a1 : Int32} {a2 : Int32} {r : (Int32 ⊕ Nat)} (h : fX10_read σ a1 a2 = some r) : MetX l D B shpC base yX10_read cX10_read 4 (some .int) 8 133 2 12 [.ref (B + 0), .int a1, .int a2] σ (Sum.elim (fun v => .inl (some (.int v))) (fun n => .inr n) r) σ :=
  MetX.of (by decide +kernel) (fun v hv => by simp only [List.mem_cons, List.not_mem_nil, or_false] at hv; rcases hv with rfl | rfl | rfl <;> rfl) (Nat.le_of_ble_eq_true rfl) hbs (fun p e s m args below meth c hF hr hT => wX10_read hF (fun q hq => hq) hbs h hr hT hl)
set_option maxHeartbeats 4000000 in
set_option maxRecDepth 100000 in
theorem wX10_sees_j77 {p : Program} {l : Launch} {e : Env} {s : State} {m : MethodId} {args : Array Value} {below : List Frame} {meth : Method} {c : Code} {Q : State → Prop} {A : Nat → Prop} {D : DD} {base B : Nat} (hF : KF D base cX10_sees RX10 A 6 2 12 p l e ({ frames := 8, cells := 2, slots := 12, locals := 133 } : Room) s m args below meth c) (hA : ∀ q, RA B shpC q → A q) (hbs : base ≤ B) {σ : St} {a1 : Int32} {a2 : Int32} {uw3 : Nat} {b4 : Int32} {b5 : Int32} (quw3 : uw3 < 4) {z : ((Int32 × Int32) ⊕ (Int32 × Int32))} (h : fX10_sees_j77 σ a1 a2 uw3 b4 b5 = some z) (hc : ∀ x, z = .inl x → KJ (Rep D B shpC) A 6 2 12 Q p l e ({ frames := 8, cells := 2, slots := 12, locals := 133 } : Room) s m args below meth c 0 0 23 [some (.ref (B + 0)), some (.int a1), some (.int a2), some (.ref (B + (57 + 5 * uw3))), some (.int x.1), some (.int x.2)] [] σ) (he : ∀ w, z = .inr w → KJ (Rep D B shpC) A 6 2 12 Q p l e ({ frames := 8, cells := 2, slots := 12, locals := 133 } : Room) s m args below meth c 0 0 83 [some (.ref (B + 0)), some (.int a1), some (.int a2), some (.ref (B + (57 + 5 * uw3))), some (.int w.1), some (.int w.2)] [] σ) : KJ (Rep D B shpC) A 6 2 12 Q p l e ({ frames := 8, cells := 2, slots := 12, locals := 133 } : Room) s m args below meth c 0 0 77 [some (.ref (B + 0)), some (.int a1), some (.int a2), some (.ref (B + (57 + 5 * uw3))), some (.int b4), some (.int b5)] [] σ := by
  unfold fX10_sees_j77 at h
  refine k_iinc hF (v := (b5 + (1 : Int32))) (L' := [some (.ref (B + 0)), some (.int a1), some (.int a2), some (.ref (B + (57 + 5 * uw3))), some (.int b4), some (.int (b5 + (1 : Int32)))]) dX10_sees_77 rfl (by first | rfl | (congr 1)) (by decide) rfl ?_
  refine k_goto hF dX10_sees_80 (tgt := 23) (by decide) ?_
  exact hc _ (Option.some.inj h).symm
set_option maxHeartbeats 4000000 in
set_option maxRecDepth 100000 in
theorem wX10_sees_l23 {p : Program} {l : Launch} {e : Env} {s : State} {m : MethodId} {args : Array Value} {below : List Frame} {meth : Method} {c : Code} {Q : State → Prop} {A : Nat → Prop} {D : DD} {base B : Nat} (hF : KF D base cX10_sees RX10 A 6 2 12 p l e ({ frames := 8, cells := 2, slots := 12, locals := 133 } : Room) s m args below meth c) (hA : ∀ q, RA B shpC q → A q) (hbs : base ≤ B) {σ : St} {a1 : Int32} {a2 : Int32} {uw3 : Nat} {x : (Int32 × Int32)} (quw3 : uw3 < 4) {z : ((Int32 × Int32) ⊕ (Int32 × Int32))} (h : fX10_sees_l23 σ a1 a2 uw3 x = some z) (hc : ∀ x, z = .inl x → KJ (Rep D B shpC) A 6 2 12 Q p l e ({ frames := 8, cells := 2, slots := 12, locals := 133 } : Room) s m args below meth c 0 0 23 [some (.ref (B + 0)), some (.int a1), some (.int a2), some (.ref (B + (57 + 5 * uw3))), some (.int x.1), some (.int x.2)] [] σ) (he : ∀ w, z = .inr w → KJ (Rep D B shpC) A 6 2 12 Q p l e ({ frames := 8, cells := 2, slots := 12, locals := 133 } : Room) s m args below meth c 0 0 83 [some (.ref (B + 0)), some (.int a1), some (.int a2), some (.ref (B + (57 + 5 * uw3))), some (.int w.1), some (.int w.2)] [] σ) : KJ (Rep D B shpC) A 6 2 12 Q p l e ({ frames := 8, cells := 2, slots := 12, locals := 133 } : Room) s m args below meth c 0 0 23 [some (.ref (B + 0)), some (.int a1), some (.int a2), some (.ref (B + (57 + 5 * uw3))), some (.int x.1), some (.int x.2)] [] σ := by
  unfold fX10_sees_l23 at h
  refine k_iload hF dX10_sees_23 rfl ?_
  refine k_aload_n hF dX10_sees_25 rfl ?_
  refine k_get hF (v := .ref (B + 10)) shC_0 fl_X10_26_X10 dX10_sees_26 rfl ?_
  refine k_get hF (v := .int (gi σ 10 2)) shC_10 fl_X10_130_X0 dX10_sees_29 rfl ?_
  refine k_icmp_ge hF (tgt := 83) dX10_sees_32 (by decide) (fun c6 => ?_) (fun c6 => ?_)
  · replace h := ite_t c6 h
    exact he _ (Option.some.inj h).symm
  · replace h := ite_f c6 h
    refine k_aload_n hF dX10_sees_35 rfl ?_
    refine k_get hF (v := .ref (B + 10)) shC_0 fl_X10_26_X10 dX10_sees_36 rfl ?_
    refine k_iload hF dX10_sees_39 rfl ?_
    refine k_aload_n hF dX10_sees_41 rfl ?_
    refine k_get hF (v := .int (gi σ (57 + 5 * uw3) 5)) (shC_TR uw3 quw3) fl_X10_247_X9 dX10_sees_42 rfl ?_
    obtain ⟨v7, hv7, h⟩ := bind_some h
    refine k_callU hF hA (as := [.int x.2, .int (gi σ (57 + 5 * uw3) 5)]) (ct_X7_wasThereE hbs hv7) mu_X10_250 shC_10 rfl rfl rfl ⟨Nat.le_of_ble_eq_true rfl, Nat.le_of_ble_eq_true rfl⟩ (Nat.le_of_ble_eq_true rfl) dX10_sees_45 ?_
    refine k_st (st2 := [.int v7]) rfl ?_
    refine k_if_eq hF (tgt := 77) dX10_sees_48 (by decide) (fun c8 => ?_) (fun c8 => ?_)
    · replace h := ite_t c8 h
      exact wX10_sees_j77 hF hA hbs quw3 h hc he
    · replace h := ite_f c8 h
      refine k_aload_n hF dX10_sees_51 rfl ?_
      refine k_get hF (v := .ref (B + 10)) shC_0 fl_X10_26_X10 dX10_sees_52 rfl ?_
      refine k_get hF (v := .ref (B + 13)) shC_10 fl_X10_167_X0 dX10_sees_55 rfl ?_
      refine k_iload hF dX10_sees_58 rfl ?_
      obtain ⟨g9, h⟩ := gd_some h
      refine k_iald hF shC_13 dX10_sees_60 g9 ?_
      refine k_iload_n hF dX10_sees_61 rfl ?_
      refine k_icmp_ne hF (tgt := 77) dX10_sees_62 (by decide) (fun c10 => ?_) (fun c10 => ?_)
      · replace h := ite_f c10 h
        exact wX10_sees_j77 hF hA hbs quw3 h hc he
      · replace h := ite_t c10 h
        refine k_aload_n hF dX10_sees_65 rfl ?_
        refine k_iload hF dX10_sees_66 rfl ?_
        obtain ⟨v11, hv11, h⟩ := bind_some h
        refine k_callV hF hA (as := [.int x.2]) (ct_X9_drops hbs quw3 hv11) mv_X10_254 (shC_TR uw3 quw3) rfl rfl rfl ⟨Nat.le_of_ble_eq_true rfl, Nat.le_of_ble_eq_true rfl⟩ (Nat.le_of_ble_eq_true rfl) dX10_sees_68 ?_
        refine k_st (st2 := [.int v11]) rfl ?_
        refine k_if_ne hF (tgt := 77) dX10_sees_71 (by decide) (fun c12 => ?_) (fun c12 => ?_)
        · replace h := ite_f c12 h
          exact wX10_sees_j77 hF hA hbs quw3 h hc he
        · replace h := ite_t c12 h
          refine k_iinc hF (v := (x.1 + (1 : Int32))) (L' := [some (.ref (B + 0)), some (.int a1), some (.int a2), some (.ref (B + (57 + 5 * uw3))), some (.int (x.1 + (1 : Int32))), some (.int x.2)]) dX10_sees_74 rfl (by first | rfl | (congr 1)) (by decide) rfl ?_
          exact wX10_sees_j77 hF hA hbs quw3 h hc he
set_option maxHeartbeats 4000000 in
set_option maxRecDepth 100000 in
theorem wX10_sees {p : Program} {l : Launch} {e : Env} {s : State} {m : MethodId} {args : Array Value} {below : List Frame} {meth : Method} {c : Code} {A : Nat → Prop} {D : DD} {base B : Nat} (hF : KF D base cX10_sees RX10 A 6 2 12 p l e ({ frames := 8, cells := 2, slots := 12, locals := 133 } : Room) s m args below meth c) (hA : ∀ q, RA B shpC q → A q) (hbs : base ≤ B) {σ : St} {a1 : Int32} {a2 : Int32} {z : (Int32 ⊕ Nat)} (h : fX10_sees σ a1 a2 = some z) (hr : meth.sig.returnType = (some .int)) (hT : ∀ x ∈ c.exceptionTable.toList, False) (hl : l.stackTraces = false) : KJ (Rep D B shpC) A 6 2 12 (vx_MQ below (QX D B shpC A (Sum.elim (fun v => .inl (some (.int v))) (fun n => .inr n) z) σ) (XX D B shpC A (Sum.elim (fun v => .inl (some (.int v))) (fun n => .inr n) z) σ) args s 2 12 A) p l e ({ frames := 8, cells := 2, slots := 12, locals := 133 } : Room) s m args below meth c 2 12 0 [some (.ref (B + 0)), some (.int a1), some (.int a2), none, none, none] [] σ := by
  unfold fX10_sees at h
  refine k_aload_n hF dX10_sees_0 rfl ?_
  refine k_iload_n hF dX10_sees_1 rfl ?_
  refine k_iload_n hF dX10_sees_2 rfl ?_
  obtain ⟨v1, hv1, h⟩ := bind_some h
  rcases v1 with v2 | n3
  · dsimp only [Sum.elim_inl] at h
    refine k_xV_r hF hA 0 0 (as := [.int a1, .int a2]) (ct_X10_requireSeen hl hbs hv1) mv_X10_230 shC_0 rfl rfl rfl ⟨Nat.le_of_ble_eq_true rfl, Nat.le_of_ble_eq_true rfl⟩ (Nat.le_of_ble_eq_true rfl) dX10_sees_3 (by decide) (by decide) ?_
    refine k_st (st2 := []) rfl ?_
    refine k_aload_n hF dX10_sees_6 rfl ?_
    refine k_get hF (v := .ref (B + 56)) shC_0 fl_X10_75_X10 dX10_sees_7 rfl ?_
    refine k_iload_n hF dX10_sees_10 rfl ?_
    obtain ⟨g4, h⟩ := gd_some h
    refine k_aald hF (q0 := (57 + 5 * a1.toNatClampNeg)) shC_56 rfl dX10_sees_11 g4 rfl ?_
    refine k_astore_n hF (L' := [some (.ref (B + 0)), some (.int a1), some (.int a2), some (.ref (B + (57 + 5 * a1.toNatClampNeg))), none, none]) dX10_sees_12 (by decide) rfl ?_
    refine k_aload_n hF dX10_sees_13 rfl ?_
    refine k_iload_n hF dX10_sees_14 rfl ?_
    obtain ⟨v5, hv5, h⟩ := bind_some h
    refine k_callV hF hA (as := [.int a2]) (ct_X9_linksFrom hbs (inb_lt g4) hv5) mv_X10_276 (shC_TR a1.toNatClampNeg (inb_lt g4)) rfl rfl rfl ⟨Nat.le_of_ble_eq_true rfl, Nat.le_of_ble_eq_true rfl⟩ (Nat.le_of_ble_eq_true rfl) dX10_sees_15 ?_
    refine k_st (st2 := [.int v5]) rfl ?_
    refine k_istore hF (L' := [some (.ref (B + 0)), some (.int a1), some (.int a2), some (.ref (B + (57 + 5 * a1.toNatClampNeg))), some (.int v5), none]) dX10_sees_18 (by decide) rfl ?_
    refine k_iconst hF dX10_sees_20 ci_0 ?_
    refine k_istore hF (L' := [some (.ref (B + 0)), some (.int a1), some (.int a2), some (.ref (B + (57 + 5 * a1.toNatClampNeg))), some (.int v5), some (.int (0 : Int32))]) dX10_sees_21 (by decide) rfl ?_
    obtain ⟨x13, hx13, h⟩ := bind_some h
    refine k_loop (P := fun xq => KJ (Rep D B shpC) A 6 2 12 (vx_MQ below (QX D B shpC A (Sum.elim (fun v => .inl (some (.int v))) (fun n => .inr n) z) σ) (XX D B shpC A (Sum.elim (fun v => .inl (some (.int v))) (fun n => .inr n) z) σ) args s 2 12 A) p l e ({ frames := 8, cells := 2, slots := 12, locals := 133 } : Room) s m args below meth c 0 0 23 [some (.ref (B + 0)), some (.int a1), some (.int a2), some (.ref (B + (57 + 5 * a1.toNatClampNeg))), some (.int xq.1), some (.int xq.2)] [] σ) (C := fun xq => KJ (Rep D B shpC) A 6 2 12 (vx_MQ below (QX D B shpC A (Sum.elim (fun v => .inl (some (.int v))) (fun n => .inr n) z) σ) (XX D B shpC A (Sum.elim (fun v => .inl (some (.int v))) (fun n => .inr n) z) σ) args s 2 12 A) p l e ({ frames := 8, cells := 2, slots := 12, locals := 133 } : Room) s m args below meth c 0 0 83 [some (.ref (B + 0)), some (.int a1), some (.int a2), some (.ref (B + (57 + 5 * a1.toNatClampNeg))), some (.int xq.1), some (.int xq.2)] [] σ) (fun x z hz hc he => wX10_sees_l23 hF hA hbs (inb_lt g4) hz hc he) hx13 ?_
    show KJ (Rep D B shpC) A 6 2 12 (vx_MQ below (QX D B shpC A (Sum.elim (fun v => .inl (some (.int v))) (fun n => .inr n) z) σ) (XX D B shpC A (Sum.elim (fun v => .inl (some (.int v))) (fun n => .inr n) z) σ) args s 2 12 A) p l e ({ frames := 8, cells := 2, slots := 12, locals := 133 } : Room) s m args below meth c 0 0 83 [some (.ref (B + 0)), some (.int a1), some (.int a2), some (.ref (B + (57 + 5 * a1.toNatClampNeg))), some (.int x13.1), some (.int x13.2)] [] σ
    refine k_iload hF dX10_sees_83 rfl ?_
    cases h
    exact k_xiret hF hr rfl dX10_sees_85
  · replace h : some (.inr n3) = some z := h
    cases h
    exact k_xV_x hF hA hT (as := [.int a1, .int a2]) (ct_X10_requireSeen hl hbs hv1) mv_X10_230 shC_0 rfl rfl rfl ⟨Nat.le_of_ble_eq_true rfl, Nat.le_of_ble_eq_true rfl⟩ (Nat.le_of_ble_eq_true rfl) dX10_sees_3 (by decide) (by decide)
theorem ct_X10_sees {l : Launch} (hl : l.stackTraces = false) {D : DD} {base B : Nat} (hbs : base ≤ B) {σ : St} {a1 : Int32} {a2 : Int32} {r : (Int32 ⊕ Nat)} (h : fX10_sees σ a1 a2 = some r) : MetX l D B shpC base yX10_sees cX10_sees 6 (some .int) 8 133 2 12 [.ref (B + 0), .int a1, .int a2] σ (Sum.elim (fun v => .inl (some (.int v))) (fun n => .inr n) r) σ :=
  MetX.of (by decide +kernel) (fun v hv => by simp only [List.mem_cons, List.not_mem_nil, or_false] at hv; rcases hv with rfl | rfl | rfl <;> rfl) (Nat.le_of_ble_eq_true rfl) hbs (fun p e s m args below meth c hF hr hT => wX10_sees hF (fun q hq => hq) hbs h hr hT hl)
set_option maxHeartbeats 4000000 in
set_option maxRecDepth 100000 in
theorem wX10_commit_j28 {p : Program} {l : Launch} {e : Env} {s : State} {m : MethodId} {args : Array Value} {below : List Frame} {meth : Method} {c : Code} {A : Nat → Prop} {D : DD} {base B : Nat} (hF : KF D base cX10_commit RX10 A 4 1 6 p l e ({ frames := 7, cells := 1, slots := 6, locals := 114 } : Room) s m args below meth c) (hA : ∀ q, RA B shpC q → A q) (hbs : base ≤ B) {σ : St} {a1 : Int32} {a2 : Int32} {z : ((Int32 × St) ⊕ (Nat × St))} (h : fX10_commit_j28 σ a1 a2 = some z) (hr : meth.sig.returnType = (some .int)) (hT : ∀ x ∈ c.exceptionTable.toList, False) (hl : l.stackTraces = false) : KJ (Rep D B shpC) A 4 1 6 (vx_MQ below (QX D B shpC A (Sum.elim (fun v => .inl (some (.int v.1))) (fun n => .inr n.1) z) (Sum.elim (fun v => v.2) (fun n => n.2) z)) (XX D B shpC A (Sum.elim (fun v => .inl (some (.int v.1))) (fun n => .inr n.1) z) (Sum.elim (fun v => v.2) (fun n => n.2) z)) args s 1 6 A) p l e ({ frames := 7, cells := 1, slots := 6, locals := 114 } : Room) s m args below meth c 0 0 28 [some (.ref (B + 0)), some (.int a1), some (.int a2), none] [] σ := by
  unfold fX10_commit_j28 at h
  refine k_aload_n hF dX10_commit_28 rfl ?_
  refine k_get hF (v := .int (gi σ 0 11)) shC_0 fl_X10_13_X10 dX10_commit_29 rfl ?_
  cases h
  exact k_xiret hF hr rfl dX10_commit_32
set_option maxHeartbeats 4000000 in
set_option maxRecDepth 100000 in
theorem wX10_commit {p : Program} {l : Launch} {e : Env} {s : State} {m : MethodId} {args : Array Value} {below : List Frame} {meth : Method} {c : Code} {A : Nat → Prop} {D : DD} {base B : Nat} (hF : KF D base cX10_commit RX10 A 4 1 6 p l e ({ frames := 7, cells := 1, slots := 6, locals := 114 } : Room) s m args below meth c) (hA : ∀ q, RA B shpC q → A q) (hbs : base ≤ B) {σ : St} {a1 : Int32} {a2 : Int32} {z : ((Int32 × St) ⊕ (Nat × St))} (h : fX10_commit σ a1 a2 = some z) (hr : meth.sig.returnType = (some .int)) (hT : ∀ x ∈ c.exceptionTable.toList, False) (hl : l.stackTraces = false) : KJ (Rep D B shpC) A 4 1 6 (vx_MQ below (QX D B shpC A (Sum.elim (fun v => .inl (some (.int v.1))) (fun n => .inr n.1) z) (Sum.elim (fun v => v.2) (fun n => n.2) z)) (XX D B shpC A (Sum.elim (fun v => .inl (some (.int v.1))) (fun n => .inr n.1) z) (Sum.elim (fun v => v.2) (fun n => n.2) z)) args s 1 6 A) p l e ({ frames := 7, cells := 1, slots := 6, locals := 114 } : Room) s m args below meth c 1 6 0 [some (.ref (B + 0)), some (.int a1), some (.int a2), none] [] σ := by
  unfold fX10_commit at h
  refine k_aload_n hF dX10_commit_0 rfl ?_
  refine k_iload_n hF dX10_commit_1 rfl ?_
  obtain ⟨v1, hv1, h⟩ := bind_some h
  rcases v1 with v2 | n3
  · dsimp only [Sum.elim_inl] at h
    refine k_xV_r hF hA 0 0 (as := [.int a1]) (ct_X10_requireTransaction hl hbs hv1) mv_X10_244 shC_0 rfl rfl rfl ⟨Nat.le_of_ble_eq_true rfl, Nat.le_of_ble_eq_true rfl⟩ (Nat.le_of_ble_eq_true rfl) dX10_commit_2 (by decide) (by decide) ?_
    refine k_st (st2 := []) rfl ?_
    refine k_aload_n hF dX10_commit_5 rfl ?_
    refine k_get hF (v := .ref (B + 56)) shC_0 fl_X10_75_X10 dX10_commit_6 rfl ?_
    refine k_iload_n hF dX10_commit_9 rfl ?_
    obtain ⟨g4, h⟩ := gd_some h
    refine k_aald hF (q0 := (57 + 5 * a1.toNatClampNeg)) shC_56 rfl dX10_commit_10 g4 rfl ?_
    refine k_astore_n hF (L' := [some (.ref (B + 0)), some (.int a1), some (.int a2), some (.ref (B + (57 + 5 * a1.toNatClampNeg)))]) dX10_commit_11 (by decide) rfl ?_
    refine k_aload_n hF dX10_commit_12 rfl ?_
    refine k_iconst hF dX10_commit_13 ci_0 ?_
    refine k_putI hF hA (shC_TR a1.toNatClampNeg (inb_lt g4)) fp_X10_221_X9 dX10_commit_14 rfl rfl rfl ?_
    obtain ⟨σ5, hσ5, h⟩ := lt_some h
    refine k_sig hσ5 ?_
    refine k_iload_n hF dX10_commit_17 rfl ?_
    refine k_if_eq hF (tgt := 28) dX10_commit_18 (by decide) (fun c6 => ?_) (fun c6 => ?_)
    · replace h := ite_t c6 h
      refine k_kill 3 rfl ?_
      exact wX10_commit_j28 hF hA hbs h hr hT hl
    · replace h := ite_f c6 h
      refine k_aload_n hF dX10_commit_21 rfl ?_
      obtain ⟨v7, hv7, h⟩ := bind_some h
      refine k_callV hF hA (as := []) (ct_X9_hasWrites hbs (inb_lt g4) hv7) mv_X10_279 (shC_TR a1.toNatClampNeg (inb_lt g4)) rfl rfl rfl ⟨Nat.le_of_ble_eq_true rfl, Nat.le_of_ble_eq_true rfl⟩ (Nat.le_of_ble_eq_true rfl) dX10_commit_22 ?_
      refine k_st (st2 := [.int v7]) rfl ?_
      refine k_if_ne hF (tgt := 33) dX10_commit_25 (by decide) (fun c8 => ?_) (fun c8 => ?_)
      · replace h := ite_f c8 h
        refine k_aload_n hF dX10_commit_33 rfl ?_
        refine k_aload_n hF dX10_commit_34 rfl ?_
        obtain ⟨v9, hv9, h⟩ := bind_some h
        refine k_callV hF hA (as := [.ref (B + (57 + 5 * a1.toNatClampNeg))]) (ct_X10_clashes hbs (inb_lt g4) hv9) mv_X10_283 shC_0 rfl rfl rfl ⟨Nat.le_of_ble_eq_true rfl, Nat.le_of_ble_eq_true rfl⟩ (Nat.le_of_ble_eq_true rfl) dX10_commit_35 ?_
        refine k_st (st2 := [.int v9]) rfl ?_
        refine k_if_eq hF (tgt := 43) dX10_commit_38 (by decide) (fun c10 => ?_) (fun c10 => ?_)
        · replace h := ite_t c10 h
          refine k_aload_n hF dX10_commit_43 rfl ?_
          refine k_aload_n hF dX10_commit_44 rfl ?_
          obtain ⟨v11, hv11, h⟩ := bind_some h
          refine k_callV hF hA (as := [.ref (B + (57 + 5 * a1.toNatClampNeg))]) (ct_X10_breaksLaws hbs (inb_lt g4) hv11) mv_X10_287 shC_0 rfl rfl rfl ⟨Nat.le_of_ble_eq_true rfl, Nat.le_of_ble_eq_true rfl⟩ (Nat.le_of_ble_eq_true rfl) dX10_commit_45 ?_
          refine k_st (st2 := [.int v11.1]) rfl ?_
          refine k_if_eq hF (tgt := 54) dX10_commit_48 (by decide) (fun c12 => ?_) (fun c12 => ?_)
          · replace h := ite_t c12 h
            refine k_aload_n hF dX10_commit_54 rfl ?_
            refine k_aload_n hF dX10_commit_55 rfl ?_
            obtain ⟨v13, hv13, h⟩ := bind_some h
            refine k_callV hF hA (as := [.ref (B + (57 + 5 * a1.toNatClampNeg))]) (ct_X10_writeAll hbs (inb_lt g4) hv13) mv_X10_290 shC_0 rfl rfl rfl ⟨Nat.le_of_ble_eq_true rfl, Nat.le_of_ble_eq_true rfl⟩ (Nat.le_of_ble_eq_true rfl) dX10_commit_56 ?_
            refine k_st (st2 := []) rfl ?_
            refine k_aload_n hF dX10_commit_59 rfl ?_
            refine k_get hF (v := .int (gi v13 0 11)) shC_0 fl_X10_13_X10 dX10_commit_60 rfl ?_
            cases h
            exact k_xiret hF hr rfl dX10_commit_63
          · replace h := ite_f c12 h
            refine k_bipush hF (v := (-2 : Int32)) dX10_commit_51 (by decide) ?_
            cases h
            exact k_xiret hF hr rfl dX10_commit_53
        · replace h := ite_f c10 h
          refine k_iconst hF dX10_commit_41 ci_m1 ?_
          cases h
          exact k_xiret hF hr rfl dX10_commit_42
      · replace h := ite_t c8 h
        refine k_kill 3 rfl ?_
        exact wX10_commit_j28 hF hA hbs h hr hT hl
  · replace h : some (.inr (n3, σ)) = some z := h
    cases h
    exact k_xV_x hF hA hT (as := [.int a1]) (ct_X10_requireTransaction hl hbs hv1) mv_X10_244 shC_0 rfl rfl rfl ⟨Nat.le_of_ble_eq_true rfl, Nat.le_of_ble_eq_true rfl⟩ (Nat.le_of_ble_eq_true rfl) dX10_commit_2 (by decide) (by decide)
theorem ct_X10_commit {l : Launch} (hl : l.stackTraces = false) {D : DD} {base B : Nat} (hbs : base ≤ B) {σ : St} {a1 : Int32} {a2 : Int32} {r : ((Int32 × St) ⊕ (Nat × St))} (h : fX10_commit σ a1 a2 = some r) : MetX l D B shpC base yX10_commit cX10_commit 4 (some .int) 7 114 1 6 [.ref (B + 0), .int a1, .int a2] σ (Sum.elim (fun v => .inl (some (.int v.1))) (fun n => .inr n.1) r) (Sum.elim (fun v => v.2) (fun n => n.2) r) :=
  MetX.of (by decide +kernel) (fun v hv => by simp only [List.mem_cons, List.not_mem_nil, or_false] at hv; rcases hv with rfl | rfl | rfl <;> rfl) (Nat.le_of_ble_eq_true rfl) hbs (fun p e s m args below meth c hF hr hT => wX10_commit hF (fun q hq => hq) hbs h hr hT hl)
set_option maxHeartbeats 4000000 in
set_option maxRecDepth 100000 in
theorem wX10_requireTime_j12 {p : Program} {l : Launch} {e : Env} {s : State} {m : MethodId} {args : Array Value} {below : List Frame} {meth : Method} {c : Code} {A : Nat → Prop} {D : DD} {base B : Nat} (hF : KF D base cX10_requireTime RX10 A 2 1 6 p l e ({ frames := 6, cells := 1, slots := 6, locals := 90 } : Room) s m args below meth c) (hA : ∀ q, RA B shpC q → A q) (hbs : base ≤ B) {σ : St} {a1 : Int32} {z : (Unit ⊕ Nat)} (h : fX10_requireTime_j12 σ a1 = some z) (hr : meth.sig.returnType = none) (hT : ∀ x ∈ c.exceptionTable.toList, False) (hl : l.stackTraces = false) : KJ (Rep D B shpC) A 2 1 6 (vx_MQ below (QX D B shpC A (Sum.elim (fun v => .inl (none)) (fun n => .inr n) z) σ) (XX D B shpC A (Sum.elim (fun v => .inl (none)) (fun n => .inr n) z) σ) args s 1 6 A) p l e ({ frames := 6, cells := 1, slots := 6, locals := 90 } : Room) s m args below meth c 1 6 12 [some (.ref (B + 0)), some (.int a1)] [] σ := by
  unfold fX10_requireTime_j12 at h
  cases h
  exact k_throw hF hl hT tw_304_308 ss_406 dX10_requireTime_12 dX10_requireTime_15 (.inr ⟨dX10_requireTime_16, dX10_requireTime_19, dX10_requireTime_22⟩) (by decide) (Nat.le_of_ble_eq_true rfl) (by decide) (by decide)
set_option maxHeartbeats 4000000 in
set_option maxRecDepth 100000 in
theorem wX10_requireTime {p : Program} {l : Launch} {e : Env} {s : State} {m : MethodId} {args : Array Value} {below : List Frame} {meth : Method} {c : Code} {A : Nat → Prop} {D : DD} {base B : Nat} (hF : KF D base cX10_requireTime RX10 A 2 1 6 p l e ({ frames := 6, cells := 1, slots := 6, locals := 90 } : Room) s m args below meth c) (hA : ∀ q, RA B shpC q → A q) (hbs : base ≤ B) {σ : St} {a1 : Int32} {z : (Unit ⊕ Nat)} (h : fX10_requireTime σ a1 = some z) (hr : meth.sig.returnType = none) (hT : ∀ x ∈ c.exceptionTable.toList, False) (hl : l.stackTraces = false) : KJ (Rep D B shpC) A 2 1 6 (vx_MQ below (QX D B shpC A (Sum.elim (fun v => .inl (none)) (fun n => .inr n) z) σ) (XX D B shpC A (Sum.elim (fun v => .inl (none)) (fun n => .inr n) z) σ) args s 1 6 A) p l e ({ frames := 6, cells := 1, slots := 6, locals := 90 } : Room) s m args below meth c 1 6 0 [some (.ref (B + 0)), some (.int a1)] [] σ := by
  unfold fX10_requireTime at h
  refine k_iload_n hF dX10_requireTime_0 rfl ?_
  refine k_if_lt hF (tgt := 12) dX10_requireTime_1 (by decide) (fun c1 => ?_) (fun c1 => ?_)
  · replace h := ite_t c1 h
    exact wX10_requireTime_j12 hF hA hbs h hr hT hl
  · replace h := ite_f c1 h
    refine k_iload_n hF dX10_requireTime_4 rfl ?_
    refine k_aload_n hF dX10_requireTime_5 rfl ?_
    refine k_get hF (v := .int (gi σ 0 11)) shC_0 fl_X10_13_X10 dX10_requireTime_6 rfl ?_
    refine k_icmp_le hF (tgt := 23) dX10_requireTime_9 (by decide) (fun c2 => ?_) (fun c2 => ?_)
    · replace h := ite_t c2 h
      cases h
      exact k_xvret hF hr dX10_requireTime_23
    · replace h := ite_f c2 h
      exact wX10_requireTime_j12 hF hA hbs h hr hT hl
theorem ct_X10_requireTime {l : Launch} (hl : l.stackTraces = false) {D : DD} {base B : Nat} (hbs : base ≤ B) {σ : St} {a1 : Int32} {r : (Unit ⊕ Nat)} (h : fX10_requireTime σ a1 = some r) : MetX l D B shpC base yX10_requireTime cX10_requireTime 2 none 6 90 1 6 [.ref (B + 0), .int a1] σ (Sum.elim (fun v => .inl (none)) (fun n => .inr n) r) σ :=
  MetX.of (by decide +kernel) (fun v hv => by simp only [List.mem_cons, List.not_mem_nil, or_false] at hv; rcases hv with rfl | rfl <;> rfl) (Nat.le_of_ble_eq_true rfl) hbs (fun p e s m args below meth c hF hr hT => wX10_requireTime hF (fun q hq => hq) hbs h hr hT hl)
set_option maxHeartbeats 4000000 in
set_option maxRecDepth 100000 in
theorem wX10_valueAt {p : Program} {l : Launch} {e : Env} {s : State} {m : MethodId} {args : Array Value} {below : List Frame} {meth : Method} {c : Code} {A : Nat → Prop} {D : DD} {base B : Nat} (hF : KF D base cX10_valueAt RX10 A 3 2 12 p l e ({ frames := 7, cells := 2, slots := 12, locals := 111 } : Room) s m args below meth c) (hA : ∀ q, RA B shpC q → A q) (hbs : base ≤ B) {σ : St} {a1 : Int32} {a2 : Int32} {z : (Int32 ⊕ Nat)} (h : fX10_valueAt σ a1 a2 = some z) (hr : meth.sig.returnType = (some .int)) (hT : ∀ x ∈ c.exceptionTable.toList, False) (hl : l.stackTraces = false) : KJ (Rep D B shpC) A 3 2 12 (vx_MQ below (QX D B shpC A (Sum.elim (fun v => .inl (some (.int v))) (fun n => .inr n) z) σ) (XX D B shpC A (Sum.elim (fun v => .inl (some (.int v))) (fun n => .inr n) z) σ) args s 2 12 A) p l e ({ frames := 7, cells := 2, slots := 12, locals := 111 } : Room) s m args below meth c 2 12 0 [some (.ref (B + 0)), some (.int a1), some (.int a2)] [] σ := by
  unfold fX10_valueAt at h
  refine k_aload_n hF dX10_valueAt_0 rfl ?_
  refine k_iload_n hF dX10_valueAt_1 rfl ?_
  obtain ⟨v1, hv1, h⟩ := bind_some h
  rcases v1 with v2 | n3
  · dsimp only [Sum.elim_inl] at h
    refine k_xV_r hF hA 1 6 (as := [.int a2]) (ct_X10_requireTime hl hbs hv1) mv_X10_294 shC_0 rfl rfl rfl ⟨Nat.le_of_ble_eq_true rfl, Nat.le_of_ble_eq_true rfl⟩ (Nat.le_of_ble_eq_true rfl) dX10_valueAt_2 (by decide) (by decide) ?_
    refine k_st (st2 := []) rfl ?_
    refine k_aload_n hF dX10_valueAt_5 rfl ?_
    refine k_get hF (v := .ref (B + 1)) shC_0 fl_X10_19_X10 dX10_valueAt_6 rfl ?_
    refine k_iload_n hF dX10_valueAt_9 rfl ?_
    refine k_iload_n hF dX10_valueAt_10 rfl ?_
    obtain ⟨v4, hv4, h⟩ := bind_some h
    refine k_callU hF hA (as := [.int a1, .int a2]) (ct_X7_wasThereN hbs hv4) mu_X10_297 shC_1 rfl rfl rfl ⟨Nat.le_of_ble_eq_true rfl, Nat.le_of_ble_eq_true rfl⟩ (Nat.le_of_ble_eq_true rfl) dX10_valueAt_11 ?_
    refine k_st (st2 := [.int v4]) rfl ?_
    refine k_if_ne hF (tgt := 28) dX10_valueAt_14 (by decide) (fun c5 => ?_) (fun c5 => ?_)
    · replace h := ite_f c5 h
      refine k_aload_n hF dX10_valueAt_28 rfl ?_
      refine k_get hF (v := .ref (B + 1)) shC_0 fl_X10_19_X10 dX10_valueAt_29 rfl ?_
      refine k_iload_n hF dX10_valueAt_32 rfl ?_
      refine k_iload_n hF dX10_valueAt_33 rfl ?_
      obtain ⟨v6, hv6, h⟩ := bind_some h
      refine k_callV hF hA (as := [.int a1, .int a2]) (ct_X6_valueAsOf hbs hv6) mv_X10_272 shC_1 rfl rfl rfl ⟨Nat.le_of_ble_eq_true rfl, Nat.le_of_ble_eq_true rfl⟩ (Nat.le_of_ble_eq_true rfl) dX10_valueAt_34 ?_
      refine k_st (st2 := [.int v6]) rfl ?_
      cases h
      exact k_xiret hF hr rfl dX10_valueAt_37
    · replace h := ite_t c5 h
      cases h
      exact k_throw hF hl hT tw_257_261 ss_298 dX10_valueAt_17 dX10_valueAt_20 (.inr ⟨dX10_valueAt_21, dX10_valueAt_24, dX10_valueAt_27⟩) (by decide) (Nat.le_of_ble_eq_true rfl) (by decide) (by decide)
  · replace h : some (.inr n3) = some z := h
    cases h
    exact k_xV_x hF hA hT (as := [.int a2]) (ct_X10_requireTime hl hbs hv1) mv_X10_294 shC_0 rfl rfl rfl ⟨Nat.le_of_ble_eq_true rfl, Nat.le_of_ble_eq_true rfl⟩ (Nat.le_of_ble_eq_true rfl) dX10_valueAt_2 (by decide) (by decide)
theorem ct_X10_valueAt {l : Launch} (hl : l.stackTraces = false) {D : DD} {base B : Nat} (hbs : base ≤ B) {σ : St} {a1 : Int32} {a2 : Int32} {r : (Int32 ⊕ Nat)} (h : fX10_valueAt σ a1 a2 = some r) : MetX l D B shpC base yX10_valueAt cX10_valueAt 3 (some .int) 7 111 2 12 [.ref (B + 0), .int a1, .int a2] σ (Sum.elim (fun v => .inl (some (.int v))) (fun n => .inr n) r) σ :=
  MetX.of (by decide +kernel) (fun v hv => by simp only [List.mem_cons, List.not_mem_nil, or_false] at hv; rcases hv with rfl | rfl | rfl <;> rfl) (Nat.le_of_ble_eq_true rfl) hbs (fun p e s m args below meth c hF hr hT => wX10_valueAt hF (fun q hq => hq) hbs h hr hT hl)
set_option maxHeartbeats 4000000 in
set_option maxRecDepth 100000 in
theorem wX10_sizeAt {p : Program} {l : Launch} {e : Env} {s : State} {m : MethodId} {args : Array Value} {below : List Frame} {meth : Method} {c : Code} {A : Nat → Prop} {D : DD} {base B : Nat} (hF : KF D base cX10_sizeAt RX10 A 2 1 6 p l e ({ frames := 7, cells := 1, slots := 6, locals := 111 } : Room) s m args below meth c) (hA : ∀ q, RA B shpC q → A q) (hbs : base ≤ B) {σ : St} {a1 : Int32} {z : (Int32 ⊕ Nat)} (h : fX10_sizeAt σ a1 = some z) (hr : meth.sig.returnType = (some .int)) (hT : ∀ x ∈ c.exceptionTable.toList, False) (hl : l.stackTraces = false) : KJ (Rep D B shpC) A 2 1 6 (vx_MQ below (QX D B shpC A (Sum.elim (fun v => .inl (some (.int v))) (fun n => .inr n) z) σ) (XX D B shpC A (Sum.elim (fun v => .inl (some (.int v))) (fun n => .inr n) z) σ) args s 1 6 A) p l e ({ frames := 7, cells := 1, slots := 6, locals := 111 } : Room) s m args below meth c 1 6 0 [some (.ref (B + 0)), some (.int a1)] [] σ := by
  unfold fX10_sizeAt at h
  refine k_aload_n hF dX10_sizeAt_0 rfl ?_
  refine k_iload_n hF dX10_sizeAt_1 rfl ?_
  obtain ⟨v1, hv1, h⟩ := bind_some h
  rcases v1 with v2 | n3
  · dsimp only [Sum.elim_inl] at h
    refine k_xV_r hF hA 0 0 (as := [.int a1]) (ct_X10_requireTime hl hbs hv1) mv_X10_294 shC_0 rfl rfl rfl ⟨Nat.le_of_ble_eq_true rfl, Nat.le_of_ble_eq_true rfl⟩ (Nat.le_of_ble_eq_true rfl) dX10_sizeAt_2 (by decide) (by decide) ?_
    refine k_st (st2 := []) rfl ?_
    refine k_bipush hF (v := (100 : Int32)) dX10_sizeAt_5 (by decide) ?_
    refine k_aload_n hF dX10_sizeAt_7 rfl ?_
    refine k_get hF (v := .ref (B + 1)) shC_0 fl_X10_19_X10 dX10_sizeAt_8 rfl ?_
    refine k_iload_n hF dX10_sizeAt_11 rfl ?_
    obtain ⟨v4, hv4, h⟩ := bind_some h
    refine k_callU hF hA (as := [.int a1]) (ct_X7_countAsOfN hbs hv4) mu_X10_300 shC_1 rfl rfl rfl ⟨Nat.le_of_ble_eq_true rfl, Nat.le_of_ble_eq_true rfl⟩ (Nat.le_of_ble_eq_true rfl) dX10_sizeAt_12 ?_
    refine k_st (st2 := [.int v4, .int (100 : Int32)]) rfl ?_
    refine k_imul hF dX10_sizeAt_15 ?_
    refine k_aload_n hF dX10_sizeAt_16 rfl ?_
    refine k_get hF (v := .ref (B + 10)) shC_0 fl_X10_26_X10 dX10_sizeAt_17 rfl ?_
    refine k_iload_n hF dX10_sizeAt_20 rfl ?_
    obtain ⟨v5, hv5, h⟩ := bind_some h
    refine k_callU hF hA (as := [.int a1]) (ct_X7_countAsOfE hbs hv5) mu_X10_303 shC_10 rfl rfl rfl ⟨Nat.le_of_ble_eq_true rfl, Nat.le_of_ble_eq_true rfl⟩ (Nat.le_of_ble_eq_true rfl) dX10_sizeAt_21 ?_
    refine k_st (st2 := [.int v5, .int ((100 : Int32) * v4)]) rfl ?_
    refine k_iadd hF dX10_sizeAt_24 ?_
    cases h
    exact k_xiret hF hr rfl dX10_sizeAt_25
  · replace h : some (.inr n3) = some z := h
    cases h
    exact k_xV_x hF hA hT (as := [.int a1]) (ct_X10_requireTime hl hbs hv1) mv_X10_294 shC_0 rfl rfl rfl ⟨Nat.le_of_ble_eq_true rfl, Nat.le_of_ble_eq_true rfl⟩ (Nat.le_of_ble_eq_true rfl) dX10_sizeAt_2 (by decide) (by decide)
theorem ct_X10_sizeAt {l : Launch} (hl : l.stackTraces = false) {D : DD} {base B : Nat} (hbs : base ≤ B) {σ : St} {a1 : Int32} {r : (Int32 ⊕ Nat)} (h : fX10_sizeAt σ a1 = some r) : MetX l D B shpC base yX10_sizeAt cX10_sizeAt 2 (some .int) 7 111 1 6 [.ref (B + 0), .int a1] σ (Sum.elim (fun v => .inl (some (.int v))) (fun n => .inr n) r) σ :=
  MetX.of (by decide +kernel) (fun v hv => by simp only [List.mem_cons, List.not_mem_nil, or_false] at hv; rcases hv with rfl | rfl <;> rfl) (Nat.le_of_ble_eq_true rfl) hbs (fun p e s m args below meth c hF hr hT => wX10_sizeAt hF (fun q hq => hq) hbs h hr hT hl)
set_option maxHeartbeats 4000000 in
set_option maxRecDepth 100000 in
theorem wX10_step_j9 {p : Program} {l : Launch} {e : Env} {s : State} {m : MethodId} {args : Array Value} {below : List Frame} {meth : Method} {c : Code} {A : Nat → Prop} {D : DD} {base B : Nat} (hF : KF D base cX10_step RX10 A 4 2 12 p l e ({ frames := 7, cells := 2, slots := 12, locals := 110 } : Room) s m args below meth c) (hA : ∀ q, RA B shpC q → A q) (hbs : base ≤ B) {σ : St} {a1 : Int32} {a2 : Int32} {z : ((Int32 × St) ⊕ (Nat × St))} (h : fX10_step_j9 σ a1 a2 = some z) (hr : meth.sig.returnType = (some .int)) (hT : ∀ x ∈ c.exceptionTable.toList, False) (hl : l.stackTraces = false) : KJ (Rep D B shpC) A 4 2 12 (vx_MQ below (QX D B shpC A (Sum.elim (fun v => .inl (some (.int v.1))) (fun n => .inr n.1) z) (Sum.elim (fun v => v.2) (fun n => n.2) z)) (XX D B shpC A (Sum.elim (fun v => .inl (some (.int v.1))) (fun n => .inr n.1) z) (Sum.elim (fun v => v.2) (fun n => n.2) z)) args s 2 12 A) p l e ({ frames := 7, cells := 2, slots := 12, locals := 110 } : Room) s m args below meth c 2 12 9 [some (.ref (B + 0)), some (.int a1), some (.int a2), none] [] σ := by
  unfold fX10_step_j9 at h
  cases h
  exact k_throw hF hl hT tw_304_308 ss_306 dX10_step_9 dX10_step_12 (.inr ⟨dX10_step_13, dX10_step_16, dX10_step_19⟩) (by decide) (Nat.le_of_ble_eq_true rfl) (by decide) (by decide)
set_option maxHeartbeats 4000000 in
set_option maxRecDepth 100000 in
theorem wX10_step_j47 {p : Program} {l : Launch} {e : Env} {s : State} {m : MethodId} {args : Array Value} {below : List Frame} {meth : Method} {c : Code} {A : Nat → Prop} {D : DD} {base B : Nat} (hF : KF D base cX10_step RX10 A 4 2 12 p l e ({ frames := 7, cells := 2, slots := 12, locals := 110 } : Room) s m args below meth c) (hA : ∀ q, RA B shpC q → A q) (hbs : base ≤ B) {σ : St} {a1 : Int32} {a2 : Int32} {z : ((Int32 × St) ⊕ (Nat × St))} (h : fX10_step_j47 σ a1 a2 = some z) (hr : meth.sig.returnType = (some .int)) (hT : ∀ x ∈ c.exceptionTable.toList, False) (hl : l.stackTraces = false) : KJ (Rep D B shpC) A 4 2 12 (vx_MQ below (QX D B shpC A (Sum.elim (fun v => .inl (some (.int v.1))) (fun n => .inr n.1) z) (Sum.elim (fun v => v.2) (fun n => n.2) z)) (XX D B shpC A (Sum.elim (fun v => .inl (some (.int v.1))) (fun n => .inr n.1) z) (Sum.elim (fun v => v.2) (fun n => n.2) z)) args s 2 12 A) p l e ({ frames := 7, cells := 2, slots := 12, locals := 110 } : Room) s m args below meth c 1 6 47 [some (.ref (B + 0)), some (.int a1), some (.int a2), none] [] σ := by
  unfold fX10_step_j47 at h
  refine k_aload_n hF dX10_step_47 rfl ?_
  refine k_get hF (v := .ref (B + 77)) shC_0 fl_X10_82_X10 dX10_step_48 rfl ?_
  refine k_aload_n hF dX10_step_51 rfl ?_
  refine k_get hF (v := .int (gi σ 0 10)) shC_0 fl_X10_7_X10 dX10_step_52 rfl ?_
  obtain ⟨g5, h⟩ := gd_some h
  refine k_aald hF (q0 := (78 + 6 * (gi σ 0 10).toNatClampNeg)) shC_77 rfl dX10_step_55 g5 rfl ?_
  refine k_astore_n hF (L' := [some (.ref (B + 0)), some (.int a1), some (.int a2), some (.ref (B + (78 + 6 * (gi σ 0 10).toNatClampNeg)))]) dX10_step_56 (by decide) rfl ?_
  refine k_aload_n hF dX10_step_57 rfl ?_
  refine k_get hF (v := .int (gi σ (78 + 6 * (gi σ 0 10).toNatClampNeg) 5)) (shC_PT (gi σ 0 10).toNatClampNeg (inb_lt g5)) fl_X10_311_X8 dX10_step_58 rfl ?_
  refine k_bipush hF (v := (12 : Int32)) dX10_step_61 (by decide) ?_
  refine k_icmp_lt hF (tgt := 77) dX10_step_63 (by decide) (fun c6 => ?_) (fun c6 => ?_)
  · replace h := ite_t c6 h
    refine k_aload_n hF dX10_step_77 rfl ?_
    refine k_get hF (v := .int (gi σ (78 + 6 * (gi σ 0 10).toNatClampNeg) 6)) (shC_PT (gi σ 0 10).toNatClampNeg (inb_lt g5)) fl_X10_314_X8 dX10_step_78 rfl ?_
    refine k_iload_n hF dX10_step_81 rfl ?_
    obtain ⟨v7, hv7, h⟩ := bind_some h
    refine k_callS hF hA (as := [.int a1]) (ct_X8_taken hbs hv7) ms_X10_317 rfl rfl ⟨Nat.le_of_ble_eq_true rfl, Nat.le_of_ble_eq_true rfl⟩ (Nat.le_of_ble_eq_true rfl) dX10_step_82 ?_
    refine k_st (st2 := [.int v7, .int (gi σ (78 + 6 * (gi σ 0 10).toNatClampNeg) 6)]) rfl ?_
    refine k_icmp_ge hF (tgt := 99) dX10_step_85 (by decide) (fun c8 => ?_) (fun c8 => ?_)
    · replace h := ite_t c8 h
      refine k_aload_n hF dX10_step_99 rfl ?_
      refine k_iload_n hF dX10_step_100 rfl ?_
      refine k_iload_n hF dX10_step_101 rfl ?_
      obtain ⟨v9, hv9, h⟩ := bind_some h
      refine k_callV hF hA (as := [.int a1, .int a2]) (ct_X8_put hbs (inb_lt g5) hv9) mv_X10_322 (shC_PT (gi σ 0 10).toNatClampNeg (inb_lt g5)) rfl rfl rfl ⟨Nat.le_of_ble_eq_true rfl, Nat.le_of_ble_eq_true rfl⟩ (Nat.le_of_ble_eq_true rfl) dX10_step_102 ?_
      refine k_st (st2 := []) rfl ?_
      refine k_aload_n hF dX10_step_105 rfl ?_
      refine k_get hF (v := .int (gi v9 (78 + 6 * (gi σ 0 10).toNatClampNeg) 6)) (shC_PT (gi σ 0 10).toNatClampNeg (inb_lt g5)) fl_X10_314_X8 dX10_step_106 rfl ?_
      cases h
      exact k_xiret hF hr rfl dX10_step_109
    · replace h := ite_f c8 h
      cases h
      exact k_throw hF hl hT tw_98_102 ss_320 dX10_step_88 dX10_step_91 (.inr ⟨dX10_step_92, dX10_step_95, dX10_step_98⟩) (by decide) (Nat.le_of_ble_eq_true rfl) (by decide) (by decide)
  · replace h := ite_f c6 h
    cases h
    exact k_throw hF hl hT tw_98_102 ss_312 dX10_step_66 dX10_step_69 (.inr ⟨dX10_step_70, dX10_step_73, dX10_step_76⟩) (by decide) (Nat.le_of_ble_eq_true rfl) (by decide) (by decide)
set_option maxHeartbeats 4000000 in
set_option maxRecDepth 100000 in
theorem wX10_step {p : Program} {l : Launch} {e : Env} {s : State} {m : MethodId} {args : Array Value} {below : List Frame} {meth : Method} {c : Code} {A : Nat → Prop} {D : DD} {base B : Nat} (hF : KF D base cX10_step RX10 A 4 2 12 p l e ({ frames := 7, cells := 2, slots := 12, locals := 110 } : Room) s m args below meth c) (hA : ∀ q, RA B shpC q → A q) (hbs : base ≤ B) {σ : St} {a1 : Int32} {a2 : Int32} {z : ((Int32 × St) ⊕ (Nat × St))} (h : fX10_step σ a1 a2 = some z) (hr : meth.sig.returnType = (some .int)) (hT : ∀ x ∈ c.exceptionTable.toList, False) (hl : l.stackTraces = false) : KJ (Rep D B shpC) A 4 2 12 (vx_MQ below (QX D B shpC A (Sum.elim (fun v => .inl (some (.int v.1))) (fun n => .inr n.1) z) (Sum.elim (fun v => v.2) (fun n => n.2) z)) (XX D B shpC A (Sum.elim (fun v => .inl (some (.int v.1))) (fun n => .inr n.1) z) (Sum.elim (fun v => v.2) (fun n => n.2) z)) args s 2 12 A) p l e ({ frames := 7, cells := 2, slots := 12, locals := 110 } : Room) s m args below meth c 2 12 0 [some (.ref (B + 0)), some (.int a1), some (.int a2), none] [] σ := by
  unfold fX10_step at h
  refine k_iload_n hF dX10_step_0 rfl ?_
  refine k_if_lt hF (tgt := 9) dX10_step_1 (by decide) (fun c1 => ?_) (fun c1 => ?_)
  · replace h := ite_t c1 h
    exact wX10_step_j9 hF hA hbs h hr hT hl
  · replace h := ite_f c1 h
    refine k_iload_n hF dX10_step_4 rfl ?_
    refine k_iconst hF dX10_step_5 ci_5 ?_
    refine k_icmp_le hF (tgt := 20) dX10_step_6 (by decide) (fun c2 => ?_) (fun c2 => ?_)
    · replace h := ite_t c2 h
      refine k_iload_n hF dX10_step_20 rfl ?_
      refine k_iconst hF dX10_step_21 ci_2 ?_
      refine k_icmp_gt hF (tgt := 32) dX10_step_22 (by decide) (fun c3 => ?_) (fun c3 => ?_)
      · replace h := ite_t c3 h
        refine k_iload_n hF dX10_step_32 rfl ?_
        refine k_if_eq hF (tgt := 47) dX10_step_33 (by decide) (fun c4 => ?_) (fun c4 => ?_)
        · replace h := ite_t c4 h
          refine k_bud (by decide : 1 ≤ _) (by decide : 6 ≤ _) ?_
          exact wX10_step_j47 hF hA hbs h hr hT hl
        · replace h := ite_f c4 h
          cases h
          exact k_throw hF hl hT tw_304_308 ss_309 dX10_step_36 dX10_step_39 (.inr ⟨dX10_step_40, dX10_step_43, dX10_step_46⟩) (by decide) (Nat.le_of_ble_eq_true rfl) (by decide) (by decide)
      · replace h := ite_f c3 h
        refine k_iload_n hF dX10_step_25 rfl ?_
        obtain ⟨v10, hv10, h⟩ := bind_some h
        rcases v10 with v11 | n12
        · dsimp only [Sum.elim_inl] at h
          refine k_xS_r hF hA 1 6 (as := [.int a2]) (ct_X10_requireLabel hl hbs hv10) ms_X10_91 rfl rfl ⟨Nat.le_of_ble_eq_true rfl, Nat.le_of_ble_eq_true rfl⟩ (Nat.le_of_ble_eq_true rfl) dX10_step_26 (by decide) (by decide) ?_
          refine k_st (st2 := []) rfl ?_
          refine k_goto hF dX10_step_29 (tgt := 47) (by decide) ?_
          exact wX10_step_j47 hF hA hbs h hr hT hl
        · replace h : some (.inr (n12, σ)) = some z := h
          cases h
          exact k_xS_x hF hA hT (as := [.int a2]) (ct_X10_requireLabel hl hbs hv10) ms_X10_91 rfl rfl ⟨Nat.le_of_ble_eq_true rfl, Nat.le_of_ble_eq_true rfl⟩ (Nat.le_of_ble_eq_true rfl) dX10_step_26 (by decide) (by decide)
    · replace h := ite_f c2 h
      exact wX10_step_j9 hF hA hbs h hr hT hl
theorem ct_X10_step {l : Launch} (hl : l.stackTraces = false) {D : DD} {base B : Nat} (hbs : base ≤ B) {σ : St} {a1 : Int32} {a2 : Int32} {r : ((Int32 × St) ⊕ (Nat × St))} (h : fX10_step σ a1 a2 = some r) : MetX l D B shpC base yX10_step cX10_step 4 (some .int) 7 110 2 12 [.ref (B + 0), .int a1, .int a2] σ (Sum.elim (fun v => .inl (some (.int v.1))) (fun n => .inr n.1) r) (Sum.elim (fun v => v.2) (fun n => n.2) r) :=
  MetX.of (by decide +kernel) (fun v hv => by simp only [List.mem_cons, List.not_mem_nil, or_false] at hv; rcases hv with rfl | rfl | rfl <;> rfl) (Nat.le_of_ble_eq_true rfl) hbs (fun p e s m args below meth c hF hr hT => wX10_step hF (fun q hq => hq) hbs h hr hT hl)
set_option maxHeartbeats 4000000 in
set_option maxRecDepth 100000 in
theorem wX10_pattern {p : Program} {l : Launch} {e : Env} {s : State} {m : MethodId} {args : Array Value} {below : List Frame} {meth : Method} {c : Code} {A : Nat → Prop} {D : DD} {base B : Nat} (hF : KF D base cX10_pattern RX10 A 1 1 6 p l e ({ frames := 6, cells := 1, slots := 6, locals := 90 } : Room) s m args below meth c) (hA : ∀ q, RA B shpC q → A q) (hbs : base ≤ B) {σ : St} {z : ((Int32 × St) ⊕ (Nat × St))} (h : fX10_pattern σ = some z) (hr : meth.sig.returnType = (some .int)) (hT : ∀ x ∈ c.exceptionTable.toList, False) (hl : l.stackTraces = false) : KJ (Rep D B shpC) A 1 1 6 (vx_MQ below (QX D B shpC A (Sum.elim (fun v => .inl (some (.int v.1))) (fun n => .inr n.1) z) (Sum.elim (fun v => v.2) (fun n => n.2) z)) (XX D B shpC A (Sum.elim (fun v => .inl (some (.int v.1))) (fun n => .inr n.1) z) (Sum.elim (fun v => v.2) (fun n => n.2) z)) args s 1 6 A) p l e ({ frames := 6, cells := 1, slots := 6, locals := 90 } : Room) s m args below meth c 1 6 0 [some (.ref (B + 0))] [] σ := by
  unfold fX10_pattern at h
  refine k_aload_n hF dX10_pattern_0 rfl ?_
  refine k_get hF (v := .int (gi σ 0 10)) shC_0 fl_X10_7_X10 dX10_pattern_1 rfl ?_
  refine k_bipush hF (v := (6 : Int32)) dX10_pattern_4 (by decide) ?_
  refine k_icmp_lt hF (tgt := 20) dX10_pattern_6 (by decide) (fun c1 => ?_) (fun c1 => ?_)
  · replace h := ite_t c1 h
    refine k_aload_n hF dX10_pattern_20 rfl ?_
    refine k_get hF (v := .ref (B + 77)) shC_0 fl_X10_82_X10 dX10_pattern_21 rfl ?_
    refine k_aload_n hF dX10_pattern_24 rfl ?_
    refine k_get hF (v := .int (gi σ 0 10)) shC_0 fl_X10_7_X10 dX10_pattern_25 rfl ?_
    obtain ⟨g2, h⟩ := gd_some h
    refine k_aald hF (q0 := (78 + 6 * (gi σ 0 10).toNatClampNeg)) shC_77 rfl dX10_pattern_28 g2 rfl ?_
    refine k_get hF (v := .int (gi σ (78 + 6 * (gi σ 0 10).toNatClampNeg) 6)) (shC_PT (gi σ 0 10).toNatClampNeg (inb_lt g2)) fl_X10_314_X8 dX10_pattern_29 rfl ?_
    refine k_iconst hF dX10_pattern_32 ci_1 ?_
    refine k_icmp_eq hF (tgt := 47) dX10_pattern_33 (by decide) (fun c3 => ?_) (fun c3 => ?_)
    · replace h := ite_t c3 h
      refine k_aload_n hF dX10_pattern_47 rfl ?_
      refine k_dup hF dX10_pattern_48 rfl ?_
      refine k_get hF (v := .int (gi σ 0 10)) shC_0 fl_X10_7_X10 dX10_pattern_49 rfl ?_
      refine k_dup_x1 hF dX10_pattern_52 rfl rfl ?_
      refine k_iconst hF dX10_pattern_53 ci_1 ?_
      refine k_iadd hF dX10_pattern_54 ?_
      refine k_putI hF hA shC_0 fp_X10_7_X10 dX10_pattern_55 rfl rfl rfl ?_
      obtain ⟨σ4, hσ4, h⟩ := lt_some h
      refine k_sig hσ4 ?_
      cases h
      exact k_xiret hF hr rfl dX10_pattern_58
    · replace h := ite_f c3 h
      cases h
      exact k_throw hF hl hT tw_98_102 ss_326 dX10_pattern_36 dX10_pattern_39 (.inr ⟨dX10_pattern_40, dX10_pattern_43, dX10_pattern_46⟩) (by decide) (Nat.le_of_ble_eq_true rfl) (by decide) (by decide)
  · replace h := ite_f c1 h
    cases h
    exact k_throw hF hl hT tw_98_102 ss_324 dX10_pattern_9 dX10_pattern_12 (.inr ⟨dX10_pattern_13, dX10_pattern_16, dX10_pattern_19⟩) (by decide) (Nat.le_of_ble_eq_true rfl) (by decide) (by decide)
theorem ct_X10_pattern {l : Launch} (hl : l.stackTraces = false) {D : DD} {base B : Nat} (hbs : base ≤ B) {σ : St} {r : ((Int32 × St) ⊕ (Nat × St))} (h : fX10_pattern σ = some r) : MetX l D B shpC base yX10_pattern cX10_pattern 1 (some .int) 6 90 1 6 [.ref (B + 0)] σ (Sum.elim (fun v => .inl (some (.int v.1))) (fun n => .inr n.1) r) (Sum.elim (fun v => v.2) (fun n => n.2) r) :=
  MetX.of (by decide +kernel) (fun v hv => by simp only [List.mem_cons, List.not_mem_nil, or_false] at hv; rcases hv with rfl <;> rfl) (Nat.le_of_ble_eq_true rfl) hbs (fun p e s m args below meth c hF hr hT => wX10_pattern hF (fun q hq => hq) hbs h hr hT hl)
set_option maxHeartbeats 4000000 in
set_option maxRecDepth 100000 in
theorem wX10_requirePattern_j12 {p : Program} {l : Launch} {e : Env} {s : State} {m : MethodId} {args : Array Value} {below : List Frame} {meth : Method} {c : Code} {A : Nat → Prop} {D : DD} {base B : Nat} (hF : KF D base cX10_requirePattern RX10 A 2 1 6 p l e ({ frames := 6, cells := 1, slots := 6, locals := 90 } : Room) s m args below meth c) (hA : ∀ q, RA B shpC q → A q) (hbs : base ≤ B) {σ : St} {a1 : Int32} {z : (Unit ⊕ Nat)} (h : fX10_requirePattern_j12 σ a1 = some z) (hr : meth.sig.returnType = none) (hT : ∀ x ∈ c.exceptionTable.toList, False) (hl : l.stackTraces = false) : KJ (Rep D B shpC) A 2 1 6 (vx_MQ below (QX D B shpC A (Sum.elim (fun v => .inl (none)) (fun n => .inr n) z) σ) (XX D B shpC A (Sum.elim (fun v => .inl (none)) (fun n => .inr n) z) σ) args s 1 6 A) p l e ({ frames := 6, cells := 1, slots := 6, locals := 90 } : Room) s m args below meth c 1 6 12 [some (.ref (B + 0)), some (.int a1)] [] σ := by
  unfold fX10_requirePattern_j12 at h
  cases h
  exact k_throw hF hl hT tw_257_261 ss_404 dX10_requirePattern_12 dX10_requirePattern_15 (.inr ⟨dX10_requirePattern_16, dX10_requirePattern_19, dX10_requirePattern_22⟩) (by decide) (Nat.le_of_ble_eq_true rfl) (by decide) (by decide)
set_option maxHeartbeats 4000000 in
set_option maxRecDepth 100000 in
theorem wX10_requirePattern {p : Program} {l : Launch} {e : Env} {s : State} {m : MethodId} {args : Array Value} {below : List Frame} {meth : Method} {c : Code} {A : Nat → Prop} {D : DD} {base B : Nat} (hF : KF D base cX10_requirePattern RX10 A 2 1 6 p l e ({ frames := 6, cells := 1, slots := 6, locals := 90 } : Room) s m args below meth c) (hA : ∀ q, RA B shpC q → A q) (hbs : base ≤ B) {σ : St} {a1 : Int32} {z : (Unit ⊕ Nat)} (h : fX10_requirePattern σ a1 = some z) (hr : meth.sig.returnType = none) (hT : ∀ x ∈ c.exceptionTable.toList, False) (hl : l.stackTraces = false) : KJ (Rep D B shpC) A 2 1 6 (vx_MQ below (QX D B shpC A (Sum.elim (fun v => .inl (none)) (fun n => .inr n) z) σ) (XX D B shpC A (Sum.elim (fun v => .inl (none)) (fun n => .inr n) z) σ) args s 1 6 A) p l e ({ frames := 6, cells := 1, slots := 6, locals := 90 } : Room) s m args below meth c 1 6 0 [some (.ref (B + 0)), some (.int a1)] [] σ := by
  unfold fX10_requirePattern at h
  refine k_iload_n hF dX10_requirePattern_0 rfl ?_
  refine k_if_lt hF (tgt := 12) dX10_requirePattern_1 (by decide) (fun c1 => ?_) (fun c1 => ?_)
  · replace h := ite_t c1 h
    exact wX10_requirePattern_j12 hF hA hbs h hr hT hl
  · replace h := ite_f c1 h
    refine k_iload_n hF dX10_requirePattern_4 rfl ?_
    refine k_aload_n hF dX10_requirePattern_5 rfl ?_
    refine k_get hF (v := .int (gi σ 0 10)) shC_0 fl_X10_7_X10 dX10_requirePattern_6 rfl ?_
    refine k_icmp_lt hF (tgt := 23) dX10_requirePattern_9 (by decide) (fun c2 => ?_) (fun c2 => ?_)
    · replace h := ite_t c2 h
      cases h
      exact k_xvret hF hr dX10_requirePattern_23
    · replace h := ite_f c2 h
      exact wX10_requirePattern_j12 hF hA hbs h hr hT hl
theorem ct_X10_requirePattern {l : Launch} (hl : l.stackTraces = false) {D : DD} {base B : Nat} (hbs : base ≤ B) {σ : St} {a1 : Int32} {r : (Unit ⊕ Nat)} (h : fX10_requirePattern σ a1 = some r) : MetX l D B shpC base yX10_requirePattern cX10_requirePattern 2 none 6 90 1 6 [.ref (B + 0), .int a1] σ (Sum.elim (fun v => .inl (none)) (fun n => .inr n) r) σ :=
  MetX.of (by decide +kernel) (fun v hv => by simp only [List.mem_cons, List.not_mem_nil, or_false] at hv; rcases hv with rfl | rfl <;> rfl) (Nat.le_of_ble_eq_true rfl) hbs (fun p e s m args below meth c hF hr hT => wX10_requirePattern hF (fun q hq => hq) hbs h hr hT hl)
set_option maxHeartbeats 4000000 in
set_option maxRecDepth 100000 in
theorem wX10_answer {p : Program} {l : Launch} {e : Env} {s : State} {m : MethodId} {args : Array Value} {below : List Frame} {meth : Method} {c : Code} {A : Nat → Prop} {D : DD} {base B : Nat} (hF : KF D base cX10_answer RX10 A 3 2 12 p l e ({ frames := 7, cells := 2, slots := 12, locals := 119 } : Room) s m args below meth c) (hA : ∀ q, RA B shpC q → A q) (hbs : base ≤ B) {σ : St} {a1 : Int32} {a2 : Int32} {z : ((Int32 × St) ⊕ (Nat × St))} (h : fX10_answer σ a1 a2 = some z) (hr : meth.sig.returnType = (some .int)) (hT : ∀ x ∈ c.exceptionTable.toList, False) (hl : l.stackTraces = false) : KJ (Rep D B shpC) A 3 2 12 (vx_MQ below (QX D B shpC A (Sum.elim (fun v => .inl (some (.int v.1))) (fun n => .inr n.1) z) (Sum.elim (fun v => v.2) (fun n => n.2) z)) (XX D B shpC A (Sum.elim (fun v => .inl (some (.int v.1))) (fun n => .inr n.1) z) (Sum.elim (fun v => v.2) (fun n => n.2) z)) args s 2 12 A) p l e ({ frames := 7, cells := 2, slots := 12, locals := 119 } : Room) s m args below meth c 2 12 0 [some (.ref (B + 0)), some (.int a1), some (.int a2)] [] σ := by
  unfold fX10_answer at h
  refine k_aload_n hF dX10_answer_0 rfl ?_
  refine k_iload_n hF dX10_answer_1 rfl ?_
  obtain ⟨v1, hv1, h⟩ := bind_some h
  rcases v1 with v2 | n3
  · dsimp only [Sum.elim_inl] at h
    refine k_xV_r hF hA 1 6 (as := [.int a1]) (ct_X10_requirePattern hl hbs hv1) mv_X10_328 shC_0 rfl rfl rfl ⟨Nat.le_of_ble_eq_true rfl, Nat.le_of_ble_eq_true rfl⟩ (Nat.le_of_ble_eq_true rfl) dX10_answer_2 (by decide) (by decide) ?_
    refine k_st (st2 := []) rfl ?_
    refine k_aload_n hF dX10_answer_5 rfl ?_
    refine k_iload_n hF dX10_answer_6 rfl ?_
    obtain ⟨v4, hv4, h⟩ := bind_some h
    rcases v4 with v5 | n6
    · dsimp only [Sum.elim_inl] at h
      refine k_xV_r hF hA 0 0 (as := [.int a2]) (ct_X10_requireNode hl hbs hv4) mv_X10_127 shC_0 rfl rfl rfl ⟨Nat.le_of_ble_eq_true rfl, Nat.le_of_ble_eq_true rfl⟩ (Nat.le_of_ble_eq_true rfl) dX10_answer_7 (by decide) (by decide) ?_
      refine k_st (st2 := []) rfl ?_
      refine k_aload_n hF dX10_answer_10 rfl ?_
      refine k_get hF (v := .ref (B + 38)) shC_0 fl_X10_62_X10 dX10_answer_11 rfl ?_
      refine k_aload_n hF dX10_answer_14 rfl ?_
      refine k_get hF (v := .ref (B + 77)) shC_0 fl_X10_82_X10 dX10_answer_15 rfl ?_
      refine k_iload_n hF dX10_answer_18 rfl ?_
      obtain ⟨g7, h⟩ := gd_some h
      refine k_aald hF (q0 := (78 + 6 * a1.toNatClampNeg)) shC_77 rfl dX10_answer_19 g7 rfl ?_
      refine k_aload_n hF dX10_answer_20 rfl ?_
      refine k_get hF (v := .ref (B + 20)) shC_0 fl_X10_44_X10 dX10_answer_21 rfl ?_
      obtain ⟨v8, hv8, h⟩ := bind_some h
      refine k_callV hF hA (as := []) (ct_X3_reachable hbs hv8) mv_X10_331 shC_20 rfl rfl rfl ⟨Nat.le_of_ble_eq_true rfl, Nat.le_of_ble_eq_true rfl⟩ (Nat.le_of_ble_eq_true rfl) dX10_answer_24 ?_
      refine k_st (st2 := [.int v8, .ref (B + (78 + 6 * a1.toNatClampNeg)), .ref (B + 38)]) rfl ?_
      obtain ⟨v9, hv9, h⟩ := bind_some h
      obtain ⟨g10, h⟩ := gd_some h
      refine k_callV hF hA (as := [.ref (B + (78 + 6 * a1.toNatClampNeg)), .int v8]) (ct_X5_relate hbs (inb_lt g7) hv9) mv_X10_334 shC_38 rfl rfl rfl ⟨Nat.le_of_ble_eq_true rfl, Nat.le_of_ble_eq_true rfl⟩ (Nat.le_of_ble_eq_true rfl) dX10_answer_27 ?_
      refine k_st (st2 := [.ref (B + (40 + v9.1))]) rfl ?_
      refine k_iload_n hF dX10_answer_30 rfl ?_
      obtain ⟨g11, h⟩ := gd_some h
      refine k_iald hF (shC_REL v9.1 g10) dX10_answer_31 g11 ?_
      cases h
      exact k_xiret hF hr rfl dX10_answer_32
    · replace h : some (.inr (n6, σ)) = some z := h
      cases h
      exact k_xV_x hF hA hT (as := [.int a2]) (ct_X10_requireNode hl hbs hv4) mv_X10_127 shC_0 rfl rfl rfl ⟨Nat.le_of_ble_eq_true rfl, Nat.le_of_ble_eq_true rfl⟩ (Nat.le_of_ble_eq_true rfl) dX10_answer_7 (by decide) (by decide)
  · replace h : some (.inr (n3, σ)) = some z := h
    cases h
    exact k_xV_x hF hA hT (as := [.int a1]) (ct_X10_requirePattern hl hbs hv1) mv_X10_328 shC_0 rfl rfl rfl ⟨Nat.le_of_ble_eq_true rfl, Nat.le_of_ble_eq_true rfl⟩ (Nat.le_of_ble_eq_true rfl) dX10_answer_2 (by decide) (by decide)
theorem ct_X10_answer {l : Launch} (hl : l.stackTraces = false) {D : DD} {base B : Nat} (hbs : base ≤ B) {σ : St} {a1 : Int32} {a2 : Int32} {r : ((Int32 × St) ⊕ (Nat × St))} (h : fX10_answer σ a1 a2 = some r) : MetX l D B shpC base yX10_answer cX10_answer 3 (some .int) 7 119 2 12 [.ref (B + 0), .int a1, .int a2] σ (Sum.elim (fun v => .inl (some (.int v.1))) (fun n => .inr n.1) r) (Sum.elim (fun v => v.2) (fun n => n.2) r) :=
  MetX.of (by decide +kernel) (fun v hv => by simp only [List.mem_cons, List.not_mem_nil, or_false] at hv; rcases hv with rfl | rfl | rfl <;> rfl) (Nat.le_of_ble_eq_true rfl) hbs (fun p e s m args below meth c hF hr hT => wX10_answer hF (fun q hq => hq) hbs h hr hT hl)
set_option maxHeartbeats 4000000 in
set_option maxRecDepth 100000 in
theorem wX10_answerAnew {p : Program} {l : Launch} {e : Env} {s : State} {m : MethodId} {args : Array Value} {below : List Frame} {meth : Method} {c : Code} {A : Nat → Prop} {D : DD} {base B : Nat} (hF : KF D base cX10_answerAnew RX10 A 3 2 12 p l e ({ frames := 32, cells := 2, slots := 12, locals := 920 } : Room) s m args below meth c) (hA : ∀ q, RA B shpC q → A q) (hbs : base ≤ B) {σ : St} {a1 : Int32} {a2 : Int32} {z : (Int32 ⊕ Nat)} (h : fX10_answerAnew σ a1 a2 = some z) (hr : meth.sig.returnType = (some .int)) (hT : ∀ x ∈ c.exceptionTable.toList, False) (hl : l.stackTraces = false) : KJ (Rep D B shpC) A 3 2 12 (vx_MQ below (QX D B shpC A (Sum.elim (fun v => .inl (some (.int v))) (fun n => .inr n) z) σ) (XX D B shpC A (Sum.elim (fun v => .inl (some (.int v))) (fun n => .inr n) z) σ) args s 2 12 A) p l e ({ frames := 32, cells := 2, slots := 12, locals := 920 } : Room) s m args below meth c 2 12 0 [some (.ref (B + 0)), some (.int a1), some (.int a2)] [] σ := by
  unfold fX10_answerAnew at h
  refine k_aload_n hF dX10_answerAnew_0 rfl ?_
  refine k_iload_n hF dX10_answerAnew_1 rfl ?_
  obtain ⟨v1, hv1, h⟩ := bind_some h
  rcases v1 with v2 | n3
  · dsimp only [Sum.elim_inl] at h
    refine k_xV_r hF hA 1 6 (as := [.int a1]) (ct_X10_requirePattern hl hbs hv1) mv_X10_328 shC_0 rfl rfl rfl ⟨Nat.le_of_ble_eq_true rfl, Nat.le_of_ble_eq_true rfl⟩ (Nat.le_of_ble_eq_true rfl) dX10_answerAnew_2 (by decide) (by decide) ?_
    refine k_st (st2 := []) rfl ?_
    refine k_aload_n hF dX10_answerAnew_5 rfl ?_
    refine k_iload_n hF dX10_answerAnew_6 rfl ?_
    obtain ⟨v4, hv4, h⟩ := bind_some h
    rcases v4 with v5 | n6
    · dsimp only [Sum.elim_inl] at h
      refine k_xV_r hF hA 0 0 (as := [.int a2]) (ct_X10_requireNode hl hbs hv4) mv_X10_127 shC_0 rfl rfl rfl ⟨Nat.le_of_ble_eq_true rfl, Nat.le_of_ble_eq_true rfl⟩ (Nat.le_of_ble_eq_true rfl) dX10_answerAnew_7 (by decide) (by decide) ?_
      refine k_st (st2 := []) rfl ?_
      refine k_aload_n hF dX10_answerAnew_10 rfl ?_
      refine k_get hF (v := .ref (B + 38)) shC_0 fl_X10_62_X10 dX10_answerAnew_11 rfl ?_
      refine k_aload_n hF dX10_answerAnew_14 rfl ?_
      refine k_get hF (v := .ref (B + 77)) shC_0 fl_X10_82_X10 dX10_answerAnew_15 rfl ?_
      refine k_iload_n hF dX10_answerAnew_18 rfl ?_
      obtain ⟨g7, h⟩ := gd_some h
      refine k_aald hF (q0 := (78 + 6 * a1.toNatClampNeg)) shC_77 rfl dX10_answerAnew_19 g7 rfl ?_
      refine k_iload_n hF dX10_answerAnew_20 rfl ?_
      refine k_aload_n hF dX10_answerAnew_21 rfl ?_
      refine k_get hF (v := .ref (B + 20)) shC_0 fl_X10_44_X10 dX10_answerAnew_22 rfl ?_
      obtain ⟨v8, hv8, h⟩ := bind_some h
      refine k_callV hF hA (as := []) (ct_X3_reachable hbs hv8) mv_X10_331 shC_20 rfl rfl rfl ⟨Nat.le_of_ble_eq_true rfl, Nat.le_of_ble_eq_true rfl⟩ (Nat.le_of_ble_eq_true rfl) dX10_answerAnew_25 ?_
      refine k_st (st2 := [.int v8, .int a2, .ref (B + (78 + 6 * a1.toNatClampNeg)), .ref (B + 38)]) rfl ?_
      obtain ⟨v9, hv9, h⟩ := bind_some h
      refine k_callV hF hA (as := [.ref (B + (78 + 6 * a1.toNatClampNeg)), .int a2, .int v8]) (ct_X5_goOn hbs (inb_lt g7) hv9) mv_X10_338 shC_38 rfl rfl rfl ⟨Nat.le_of_ble_eq_true rfl, Nat.le_of_ble_eq_true rfl⟩ (Nat.le_of_ble_eq_true rfl) dX10_answerAnew_28 ?_
      refine k_st (st2 := [.int v9]) rfl ?_
      cases h
      exact k_xiret hF hr rfl dX10_answerAnew_31
    · replace h : some (.inr n6) = some z := h
      cases h
      exact k_xV_x hF hA hT (as := [.int a2]) (ct_X10_requireNode hl hbs hv4) mv_X10_127 shC_0 rfl rfl rfl ⟨Nat.le_of_ble_eq_true rfl, Nat.le_of_ble_eq_true rfl⟩ (Nat.le_of_ble_eq_true rfl) dX10_answerAnew_7 (by decide) (by decide)
  · replace h : some (.inr n3) = some z := h
    cases h
    exact k_xV_x hF hA hT (as := [.int a1]) (ct_X10_requirePattern hl hbs hv1) mv_X10_328 shC_0 rfl rfl rfl ⟨Nat.le_of_ble_eq_true rfl, Nat.le_of_ble_eq_true rfl⟩ (Nat.le_of_ble_eq_true rfl) dX10_answerAnew_2 (by decide) (by decide)
theorem ct_X10_answerAnew {l : Launch} (hl : l.stackTraces = false) {D : DD} {base B : Nat} (hbs : base ≤ B) {σ : St} {a1 : Int32} {a2 : Int32} {r : (Int32 ⊕ Nat)} (h : fX10_answerAnew σ a1 a2 = some r) : MetX l D B shpC base yX10_answerAnew cX10_answerAnew 3 (some .int) 32 920 2 12 [.ref (B + 0), .int a1, .int a2] σ (Sum.elim (fun v => .inl (some (.int v))) (fun n => .inr n) r) σ :=
  MetX.of (by decide +kernel) (fun v hv => by simp only [List.mem_cons, List.not_mem_nil, or_false] at hv; rcases hv with rfl | rfl | rfl <;> rfl) (Nat.le_of_ble_eq_true rfl) hbs (fun p e s m args below meth c hF hr hT => wX10_answerAnew hF (fun q hq => hq) hbs h hr hT hl)
set_option maxHeartbeats 4000000 in
set_option maxRecDepth 100000 in
theorem wX10_pairs_l31 {p : Program} {l : Launch} {e : Env} {s : State} {m : MethodId} {args : Array Value} {below : List Frame} {meth : Method} {c : Code} {Q : State → Prop} {A : Nat → Prop} {D : DD} {base B : Nat} (hF : KF D base cX10_pairs RX10 A 5 1 6 p l e ({ frames := 7, cells := 1, slots := 6, locals := 119 } : Room) s m args below meth c) (hA : ∀ q, RA B shpC q → A q) (hbs : base ≤ B) {σ : St} {a1 : Int32} {uw2 : Nat} {x : (Int32 × Int32)} (quw2 : uw2 < 13) {z : ((Int32 × Int32) ⊕ (Int32 × Int32))} (h : fX10_pairs_l31 σ a1 uw2 x = some z) (hc : ∀ x, z = .inl x → KJ (Rep D B shpC) A 5 1 6 Q p l e ({ frames := 7, cells := 1, slots := 6, locals := 119 } : Room) s m args below meth c 0 0 31 [some (.ref (B + 0)), some (.int a1), some (.ref (B + (40 + uw2))), some (.int x.1), some (.int x.2)] [] σ) (he : ∀ w, z = .inr w → KJ (Rep D B shpC) A 5 1 6 Q p l e ({ frames := 7, cells := 1, slots := 6, locals := 119 } : Room) s m args below meth c 0 0 54 [some (.ref (B + 0)), some (.int a1), some (.ref (B + (40 + uw2))), some (.int w.1), some (.int w.2)] [] σ) : KJ (Rep D B shpC) A 5 1 6 Q p l e ({ frames := 7, cells := 1, slots := 6, locals := 119 } : Room) s m args below meth c 0 0 31 [some (.ref (B + 0)), some (.int a1), some (.ref (B + (40 + uw2))), some (.int x.1), some (.int x.2)] [] σ := by
  unfold fX10_pairs_l31 at h
  refine k_iload hF dX10_pairs_31 rfl ?_
  refine k_bipush hF (v := (24 : Int32)) dX10_pairs_33 (by decide) ?_
  refine k_icmp_ge hF (tgt := 54) dX10_pairs_35 (by decide) (fun c8 => ?_) (fun c8 => ?_)
  · replace h := ite_t c8 h
    exact he _ (Option.some.inj h).symm
  · replace h := ite_f c8 h
    refine k_iload_n hF dX10_pairs_38 rfl ?_
    refine k_aload_n hF dX10_pairs_39 rfl ?_
    refine k_iload hF dX10_pairs_40 rfl ?_
    obtain ⟨g9, h⟩ := gd_some h
    refine k_iald hF (shC_REL uw2 quw2) dX10_pairs_42 g9 ?_
    obtain ⟨v10, hv10, h⟩ := bind_some h
    refine k_callS hF hA (as := [.int (gi σ (40 + uw2) x.2.toNatClampNeg)]) (ct_J6_bitCount hbs hv10) ms_X10_216 rfl rfl ⟨Nat.le_of_ble_eq_true rfl, Nat.le_of_ble_eq_true rfl⟩ (Nat.le_of_ble_eq_true rfl) dX10_pairs_43 ?_
    refine k_st (st2 := [.int v10, .int x.1]) rfl ?_
    refine k_iadd hF dX10_pairs_46 ?_
    refine k_istore_n hF (L' := [some (.ref (B + 0)), some (.int a1), some (.ref (B + (40 + uw2))), some (.int (x.1 + v10)), some (.int x.2)]) dX10_pairs_47 (by decide) rfl ?_
    refine k_iinc hF (v := (x.2 + (1 : Int32))) (L' := [some (.ref (B + 0)), some (.int a1), some (.ref (B + (40 + uw2))), some (.int (x.1 + v10)), some (.int (x.2 + (1 : Int32)))]) dX10_pairs_48 rfl (by first | rfl | (congr 1)) (by decide) rfl ?_
    refine k_goto hF dX10_pairs_51 (tgt := 31) (by decide) ?_
    exact hc _ (Option.some.inj h).symm
set_option maxHeartbeats 4000000 in
set_option maxRecDepth 100000 in
theorem wX10_pairs {p : Program} {l : Launch} {e : Env} {s : State} {m : MethodId} {args : Array Value} {below : List Frame} {meth : Method} {c : Code} {A : Nat → Prop} {D : DD} {base B : Nat} (hF : KF D base cX10_pairs RX10 A 5 1 6 p l e ({ frames := 7, cells := 1, slots := 6, locals := 119 } : Room) s m args below meth c) (hA : ∀ q, RA B shpC q → A q) (hbs : base ≤ B) {σ : St} {a1 : Int32} {z : ((Int32 × St) ⊕ (Nat × St))} (h : fX10_pairs σ a1 = some z) (hr : meth.sig.returnType = (some .int)) (hT : ∀ x ∈ c.exceptionTable.toList, False) (hl : l.stackTraces = false) : KJ (Rep D B shpC) A 5 1 6 (vx_MQ below (QX D B shpC A (Sum.elim (fun v => .inl (some (.int v.1))) (fun n => .inr n.1) z) (Sum.elim (fun v => v.2) (fun n => n.2) z)) (XX D B shpC A (Sum.elim (fun v => .inl (some (.int v.1))) (fun n => .inr n.1) z) (Sum.elim (fun v => v.2) (fun n => n.2) z)) args s 1 6 A) p l e ({ frames := 7, cells := 1, slots := 6, locals := 119 } : Room) s m args below meth c 1 6 0 [some (.ref (B + 0)), some (.int a1), none, none, none] [] σ := by
  unfold fX10_pairs at h
  refine k_aload_n hF dX10_pairs_0 rfl ?_
  refine k_iload_n hF dX10_pairs_1 rfl ?_
  obtain ⟨v1, hv1, h⟩ := bind_some h
  rcases v1 with v2 | n3
  · dsimp only [Sum.elim_inl] at h
    refine k_xV_r hF hA 0 0 (as := [.int a1]) (ct_X10_requirePattern hl hbs hv1) mv_X10_328 shC_0 rfl rfl rfl ⟨Nat.le_of_ble_eq_true rfl, Nat.le_of_ble_eq_true rfl⟩ (Nat.le_of_ble_eq_true rfl) dX10_pairs_2 (by decide) (by decide) ?_
    refine k_st (st2 := []) rfl ?_
    refine k_aload_n hF dX10_pairs_5 rfl ?_
    refine k_get hF (v := .ref (B + 38)) shC_0 fl_X10_62_X10 dX10_pairs_6 rfl ?_
    refine k_aload_n hF dX10_pairs_9 rfl ?_
    refine k_get hF (v := .ref (B + 77)) shC_0 fl_X10_82_X10 dX10_pairs_10 rfl ?_
    refine k_iload_n hF dX10_pairs_13 rfl ?_
    obtain ⟨g4, h⟩ := gd_some h
    refine k_aald hF (q0 := (78 + 6 * a1.toNatClampNeg)) shC_77 rfl dX10_pairs_14 g4 rfl ?_
    refine k_aload_n hF dX10_pairs_15 rfl ?_
    refine k_get hF (v := .ref (B + 20)) shC_0 fl_X10_44_X10 dX10_pairs_16 rfl ?_
    obtain ⟨v5, hv5, h⟩ := bind_some h
    refine k_callV hF hA (as := []) (ct_X3_reachable hbs hv5) mv_X10_331 shC_20 rfl rfl rfl ⟨Nat.le_of_ble_eq_true rfl, Nat.le_of_ble_eq_true rfl⟩ (Nat.le_of_ble_eq_true rfl) dX10_pairs_19 ?_
    refine k_st (st2 := [.int v5, .ref (B + (78 + 6 * a1.toNatClampNeg)), .ref (B + 38)]) rfl ?_
    obtain ⟨v6, hv6, h⟩ := bind_some h
    obtain ⟨g7, h⟩ := gd_some h
    refine k_callV hF hA (as := [.ref (B + (78 + 6 * a1.toNatClampNeg)), .int v5]) (ct_X5_relate hbs (inb_lt g4) hv6) mv_X10_334 shC_38 rfl rfl rfl ⟨Nat.le_of_ble_eq_true rfl, Nat.le_of_ble_eq_true rfl⟩ (Nat.le_of_ble_eq_true rfl) dX10_pairs_22 ?_
    refine k_st (st2 := [.ref (B + (40 + v6.1))]) rfl ?_
    refine k_astore_n hF (L' := [some (.ref (B + 0)), some (.int a1), some (.ref (B + (40 + v6.1))), none, none]) dX10_pairs_25 (by decide) rfl ?_
    refine k_iconst hF dX10_pairs_26 ci_0 ?_
    refine k_istore_n hF (L' := [some (.ref (B + 0)), some (.int a1), some (.ref (B + (40 + v6.1))), some (.int (0 : Int32)), none]) dX10_pairs_27 (by decide) rfl ?_
    refine k_iconst hF dX10_pairs_28 ci_0 ?_
    refine k_istore hF (L' := [some (.ref (B + 0)), some (.int a1), some (.ref (B + (40 + v6.1))), some (.int (0 : Int32)), some (.int (0 : Int32))]) dX10_pairs_29 (by decide) rfl ?_
    obtain ⟨x11, hx11, h⟩ := bind_some h
    refine k_loop (P := fun xq => KJ (Rep D B shpC) A 5 1 6 (vx_MQ below (QX D B shpC A (Sum.elim (fun v => .inl (some (.int v.1))) (fun n => .inr n.1) z) (Sum.elim (fun v => v.2) (fun n => n.2) z)) (XX D B shpC A (Sum.elim (fun v => .inl (some (.int v.1))) (fun n => .inr n.1) z) (Sum.elim (fun v => v.2) (fun n => n.2) z)) args s 1 6 A) p l e ({ frames := 7, cells := 1, slots := 6, locals := 119 } : Room) s m args below meth c 0 0 31 [some (.ref (B + 0)), some (.int a1), some (.ref (B + (40 + v6.1))), some (.int xq.1), some (.int xq.2)] [] v6.2) (C := fun xq => KJ (Rep D B shpC) A 5 1 6 (vx_MQ below (QX D B shpC A (Sum.elim (fun v => .inl (some (.int v.1))) (fun n => .inr n.1) z) (Sum.elim (fun v => v.2) (fun n => n.2) z)) (XX D B shpC A (Sum.elim (fun v => .inl (some (.int v.1))) (fun n => .inr n.1) z) (Sum.elim (fun v => v.2) (fun n => n.2) z)) args s 1 6 A) p l e ({ frames := 7, cells := 1, slots := 6, locals := 119 } : Room) s m args below meth c 0 0 54 [some (.ref (B + 0)), some (.int a1), some (.ref (B + (40 + v6.1))), some (.int xq.1), some (.int xq.2)] [] v6.2) (fun x z hz hc he => wX10_pairs_l31 hF hA hbs g7 hz hc he) hx11 ?_
    show KJ (Rep D B shpC) A 5 1 6 (vx_MQ below (QX D B shpC A (Sum.elim (fun v => .inl (some (.int v.1))) (fun n => .inr n.1) z) (Sum.elim (fun v => v.2) (fun n => n.2) z)) (XX D B shpC A (Sum.elim (fun v => .inl (some (.int v.1))) (fun n => .inr n.1) z) (Sum.elim (fun v => v.2) (fun n => n.2) z)) args s 1 6 A) p l e ({ frames := 7, cells := 1, slots := 6, locals := 119 } : Room) s m args below meth c 0 0 54 [some (.ref (B + 0)), some (.int a1), some (.ref (B + (40 + v6.1))), some (.int x11.1), some (.int x11.2)] [] v6.2
    refine k_iload_n hF dX10_pairs_54 rfl ?_
    cases h
    exact k_xiret hF hr rfl dX10_pairs_55
  · replace h : some (.inr (n3, σ)) = some z := h
    cases h
    exact k_xV_x hF hA hT (as := [.int a1]) (ct_X10_requirePattern hl hbs hv1) mv_X10_328 shC_0 rfl rfl rfl ⟨Nat.le_of_ble_eq_true rfl, Nat.le_of_ble_eq_true rfl⟩ (Nat.le_of_ble_eq_true rfl) dX10_pairs_2 (by decide) (by decide)
theorem ct_X10_pairs {l : Launch} (hl : l.stackTraces = false) {D : DD} {base B : Nat} (hbs : base ≤ B) {σ : St} {a1 : Int32} {r : ((Int32 × St) ⊕ (Nat × St))} (h : fX10_pairs σ a1 = some r) : MetX l D B shpC base yX10_pairs cX10_pairs 5 (some .int) 7 119 1 6 [.ref (B + 0), .int a1] σ (Sum.elim (fun v => .inl (some (.int v.1))) (fun n => .inr n.1) r) (Sum.elim (fun v => v.2) (fun n => n.2) r) :=
  MetX.of (by decide +kernel) (fun v hv => by simp only [List.mem_cons, List.not_mem_nil, or_false] at hv; rcases hv with rfl | rfl <;> rfl) (Nat.le_of_ble_eq_true rfl) hbs (fun p e s m args below meth c hF hr hT => wX10_pairs hF (fun q hq => hq) hbs h hr hT hl)
set_option maxHeartbeats 4000000 in
set_option maxRecDepth 100000 in
theorem wX10_isWhole {p : Program} {l : Launch} {e : Env} {s : State} {m : MethodId} {args : Array Value} {below : List Frame} {meth : Method} {c : Code} {A : Nat → Prop} {D : DD} {base B : Nat} (hF : KF D base cX10_isWhole RX10 A 5 2 12 p l e ({ frames := 7, cells := 2, slots := 12, locals := 119 } : Room) s m args below meth c) (hA : ∀ q, RA B shpC q → A q) (hbs : base ≤ B) {σ : St} {a1 : Int32} {a2 : Int32} {z : ((Int32 × St) ⊕ (Nat × St))} (h : fX10_isWhole σ a1 a2 = some z) (hr : meth.sig.returnType = (some .boolean)) (hT : ∀ x ∈ c.exceptionTable.toList, False) (hl : l.stackTraces = false) : KJ (Rep D B shpC) A 5 2 12 (vx_MQ below (QX D B shpC A (Sum.elim (fun v => .inl (some (.int v.1))) (fun n => .inr n.1) z) (Sum.elim (fun v => v.2) (fun n => n.2) z)) (XX D B shpC A (Sum.elim (fun v => .inl (some (.int v.1))) (fun n => .inr n.1) z) (Sum.elim (fun v => v.2) (fun n => n.2) z)) args s 2 12 A) p l e ({ frames := 7, cells := 2, slots := 12, locals := 119 } : Room) s m args below meth c 2 12 0 [some (.ref (B + 0)), some (.int a1), some (.int a2), none, none] [] σ := by
  unfold fX10_isWhole at h
  refine k_aload_n hF dX10_isWhole_0 rfl ?_
  refine k_iload_n hF dX10_isWhole_1 rfl ?_
  obtain ⟨v1, hv1, h⟩ := bind_some h
  rcases v1 with v2 | n3
  · dsimp only [Sum.elim_inl] at h
    refine k_xV_r hF hA 1 6 (as := [.int a1]) (ct_X10_requirePattern hl hbs hv1) mv_X10_328 shC_0 rfl rfl rfl ⟨Nat.le_of_ble_eq_true rfl, Nat.le_of_ble_eq_true rfl⟩ (Nat.le_of_ble_eq_true rfl) dX10_isWhole_2 (by decide) (by decide) ?_
    refine k_st (st2 := []) rfl ?_
    refine k_aload_n hF dX10_isWhole_5 rfl ?_
    refine k_iload_n hF dX10_isWhole_6 rfl ?_
    obtain ⟨v4, hv4, h⟩ := bind_some h
    rcases v4 with v5 | n6
    · dsimp only [Sum.elim_inl] at h
      refine k_xV_r hF hA 0 0 (as := [.int a2]) (ct_X10_requireNode hl hbs hv4) mv_X10_127 shC_0 rfl rfl rfl ⟨Nat.le_of_ble_eq_true rfl, Nat.le_of_ble_eq_true rfl⟩ (Nat.le_of_ble_eq_true rfl) dX10_isWhole_7 (by decide) (by decide) ?_
      refine k_st (st2 := []) rfl ?_
      refine k_aload_n hF dX10_isWhole_10 rfl ?_
      refine k_get hF (v := .ref (B + 38)) shC_0 fl_X10_62_X10 dX10_isWhole_11 rfl ?_
      refine k_aload_n hF dX10_isWhole_14 rfl ?_
      refine k_get hF (v := .ref (B + 77)) shC_0 fl_X10_82_X10 dX10_isWhole_15 rfl ?_
      refine k_iload_n hF dX10_isWhole_18 rfl ?_
      obtain ⟨g7, h⟩ := gd_some h
      refine k_aald hF (q0 := (78 + 6 * a1.toNatClampNeg)) shC_77 rfl dX10_isWhole_19 g7 rfl ?_
      refine k_aload_n hF dX10_isWhole_20 rfl ?_
      refine k_get hF (v := .ref (B + 20)) shC_0 fl_X10_44_X10 dX10_isWhole_21 rfl ?_
      obtain ⟨v8, hv8, h⟩ := bind_some h
      refine k_callV hF hA (as := []) (ct_X3_reachable hbs hv8) mv_X10_331 shC_20 rfl rfl rfl ⟨Nat.le_of_ble_eq_true rfl, Nat.le_of_ble_eq_true rfl⟩ (Nat.le_of_ble_eq_true rfl) dX10_isWhole_24 ?_
      refine k_st (st2 := [.int v8, .ref (B + (78 + 6 * a1.toNatClampNeg)), .ref (B + 38)]) rfl ?_
      obtain ⟨v9, hv9, h⟩ := bind_some h
      obtain ⟨g10, h⟩ := gd_some h
      refine k_callV hF hA (as := [.ref (B + (78 + 6 * a1.toNatClampNeg)), .int v8]) (ct_X5_relate hbs (inb_lt g7) hv9) mv_X10_334 shC_38 rfl rfl rfl ⟨Nat.le_of_ble_eq_true rfl, Nat.le_of_ble_eq_true rfl⟩ (Nat.le_of_ble_eq_true rfl) dX10_isWhole_27 ?_
      refine k_st (st2 := [.ref (B + (40 + v9.1))]) rfl ?_
      refine k_iload_n hF dX10_isWhole_30 rfl ?_
      obtain ⟨g11, h⟩ := gd_some h
      refine k_iald hF (shC_REL v9.1 g10) dX10_isWhole_31 g11 ?_
      obtain ⟨n12, hn12, h⟩ := lt_some h
      refine k_st (st2 := [.int n12]) (by rw [hn12]) ?_
      refine k_istore_n hF (L' := [some (.ref (B + 0)), some (.int a1), some (.int a2), some (.int n12), none]) dX10_isWhole_32 (by decide) rfl ?_
      refine k_aload_n hF dX10_isWhole_33 rfl ?_
      refine k_get hF (v := .ref (B + 38)) shC_0 fl_X10_62_X10 dX10_isWhole_34 rfl ?_
      refine k_aload_n hF dX10_isWhole_37 rfl ?_
      refine k_get hF (v := .ref (B + 77)) shC_0 fl_X10_82_X10 dX10_isWhole_38 rfl ?_
      refine k_iload_n hF dX10_isWhole_41 rfl ?_
      obtain ⟨g13, h⟩ := gd_some h
      refine k_aald hF (q0 := (78 + 6 * a1.toNatClampNeg)) shC_77 rfl dX10_isWhole_42 g13 rfl ?_
      refine k_aload_n hF dX10_isWhole_43 rfl ?_
      refine k_get hF (v := .ref (B + 1)) shC_0 fl_X10_19_X10 dX10_isWhole_44 rfl ?_
      refine k_get hF (v := .int (gi v9.2 1 10)) shC_1 fl_X10_342_X6 dX10_isWhole_47 rfl ?_
      obtain ⟨v14, hv14, h⟩ := bind_some h
      obtain ⟨g15, h⟩ := gd_some h
      refine k_callV hF hA (as := [.ref (B + (78 + 6 * a1.toNatClampNeg)), .int (gi v9.2 1 10)]) (ct_X5_relate hbs (inb_lt g13) hv14) mv_X10_334 shC_38 rfl rfl rfl ⟨Nat.le_of_ble_eq_true rfl, Nat.le_of_ble_eq_true rfl⟩ (Nat.le_of_ble_eq_true rfl) dX10_isWhole_50 ?_
      refine k_st (st2 := [.ref (B + (40 + v14.1))]) rfl ?_
      refine k_iload_n hF dX10_isWhole_53 rfl ?_
      obtain ⟨g16, h⟩ := gd_some h
      refine k_iald hF (shC_REL v14.1 g15) dX10_isWhole_54 g16 ?_
      obtain ⟨n17, hn17, h⟩ := lt_some h
      refine k_st (st2 := [.int n17]) (by rw [hn17]) ?_
      refine k_istore hF (L' := [some (.ref (B + 0)), some (.int a1), some (.int a2), some (.int n12), some (.int n17)]) dX10_isWhole_55 (by decide) rfl ?_
      refine k_iload_n hF dX10_isWhole_57 rfl ?_
      refine k_iload hF dX10_isWhole_58 rfl ?_
      refine k_icmp_ne hF (tgt := 67) dX10_isWhole_60 (by decide) (fun c18 => ?_) (fun c18 => ?_)
      · replace h := ite_f c18 h
        refine k_iconst hF dX10_isWhole_67 ci_0 ?_
        cases h
        exact k_xiret hF hr nar_0 dX10_isWhole_68
      · replace h := ite_t c18 h
        refine k_iconst hF dX10_isWhole_63 ci_1 ?_
        refine k_goto hF dX10_isWhole_64 (tgt := 68) (by decide) ?_
        cases h
        exact k_xiret hF hr nar_1 dX10_isWhole_68
    · replace h : some (.inr (n6, σ)) = some z := h
      cases h
      exact k_xV_x hF hA hT (as := [.int a2]) (ct_X10_requireNode hl hbs hv4) mv_X10_127 shC_0 rfl rfl rfl ⟨Nat.le_of_ble_eq_true rfl, Nat.le_of_ble_eq_true rfl⟩ (Nat.le_of_ble_eq_true rfl) dX10_isWhole_7 (by decide) (by decide)
  · replace h : some (.inr (n3, σ)) = some z := h
    cases h
    exact k_xV_x hF hA hT (as := [.int a1]) (ct_X10_requirePattern hl hbs hv1) mv_X10_328 shC_0 rfl rfl rfl ⟨Nat.le_of_ble_eq_true rfl, Nat.le_of_ble_eq_true rfl⟩ (Nat.le_of_ble_eq_true rfl) dX10_isWhole_2 (by decide) (by decide)
theorem ct_X10_isWhole {l : Launch} (hl : l.stackTraces = false) {D : DD} {base B : Nat} (hbs : base ≤ B) {σ : St} {a1 : Int32} {a2 : Int32} {r : ((Int32 × St) ⊕ (Nat × St))} (h : fX10_isWhole σ a1 a2 = some r) : MetX l D B shpC base yX10_isWhole cX10_isWhole 5 (some .boolean) 7 119 2 12 [.ref (B + 0), .int a1, .int a2] σ (Sum.elim (fun v => .inl (some (.int v.1))) (fun n => .inr n.1) r) (Sum.elim (fun v => v.2) (fun n => n.2) r) :=
  MetX.of (by decide +kernel) (fun v hv => by simp only [List.mem_cons, List.not_mem_nil, or_false] at hv; rcases hv with rfl | rfl | rfl <;> rfl) (Nat.le_of_ble_eq_true rfl) hbs (fun p e s m args below meth c hF hr hT => wX10_isWhole hF (fun q hq => hq) hbs h hr hT hl)
set_option maxHeartbeats 4000000 in
set_option maxRecDepth 100000 in
theorem wX10_rule {p : Program} {l : Launch} {e : Env} {s : State} {m : MethodId} {args : Array Value} {below : List Frame} {meth : Method} {c : Code} {A : Nat → Prop} {D : DD} {base B : Nat} (hF : KF D base cX10_rule RX10 A 5 4 24 p l e ({ frames := 7, cells := 4, slots := 24, locals := 110 } : Room) s m args below meth c) (hA : ∀ q, RA B shpC q → A q) (hbs : base ≤ B) {σ : St} {a1 : Int32} {a2 : Int32} {a3 : Int32} {z : ((Int32 × St) ⊕ (Nat × St))} (h : fX10_rule σ a1 a2 a3 = some z) (hr : meth.sig.returnType = (some .int)) (hT : ∀ x ∈ c.exceptionTable.toList, False) (hl : l.stackTraces = false) : KJ (Rep D B shpC) A 5 4 24 (vx_MQ below (QX D B shpC A (Sum.elim (fun v => .inl (some (.int v.1))) (fun n => .inr n.1) z) (Sum.elim (fun v => v.2) (fun n => n.2) z)) (XX D B shpC A (Sum.elim (fun v => .inl (some (.int v.1))) (fun n => .inr n.1) z) (Sum.elim (fun v => v.2) (fun n => n.2) z)) args s 4 24 A) p l e ({ frames := 7, cells := 4, slots := 24, locals := 110 } : Room) s m args below meth c 4 24 0 [some (.ref (B + 0)), some (.int a1), some (.int a2), some (.int a3), none] [] σ := by
  unfold fX10_rule at h
  refine k_iload_n hF dX10_rule_0 rfl ?_
  obtain ⟨v1, hv1, h⟩ := bind_some h
  rcases v1 with v2 | n3
  · dsimp only [Sum.elim_inl] at h
    refine k_xS_r hF hA 3 18 (as := [.int a1]) (ct_X10_requireLabel hl hbs hv1) ms_X10_91 rfl rfl ⟨Nat.le_of_ble_eq_true rfl, Nat.le_of_ble_eq_true rfl⟩ (Nat.le_of_ble_eq_true rfl) dX10_rule_1 (by decide) (by decide) ?_
    refine k_st (st2 := []) rfl ?_
    refine k_iload_n hF dX10_rule_4 rfl ?_
    obtain ⟨v4, hv4, h⟩ := bind_some h
    rcases v4 with v5 | n6
    · dsimp only [Sum.elim_inl] at h
      refine k_xS_r hF hA 2 12 (as := [.int a2]) (ct_X10_requireLabel hl hbs hv4) ms_X10_91 rfl rfl ⟨Nat.le_of_ble_eq_true rfl, Nat.le_of_ble_eq_true rfl⟩ (Nat.le_of_ble_eq_true rfl) dX10_rule_5 (by decide) (by decide) ?_
      refine k_st (st2 := []) rfl ?_
      refine k_iload_n hF dX10_rule_8 rfl ?_
      obtain ⟨v7, hv7, h⟩ := bind_some h
      rcases v7 with v8 | n9
      · dsimp only [Sum.elim_inl] at h
        refine k_xS_r hF hA 1 6 (as := [.int a3]) (ct_X10_requireLabel hl hbs hv7) ms_X10_91 rfl rfl ⟨Nat.le_of_ble_eq_true rfl, Nat.le_of_ble_eq_true rfl⟩ (Nat.le_of_ble_eq_true rfl) dX10_rule_9 (by decide) (by decide) ?_
        refine k_st (st2 := []) rfl ?_
        refine k_aload_n hF dX10_rule_12 rfl ?_
        refine k_get hF (v := .ref (B + 23)) shC_0 fl_X10_53_X10 dX10_rule_13 rfl ?_
        refine k_get hF (v := .int (gi σ 23 7)) shC_23 fl_X10_345_X1 dX10_rule_16 rfl ?_
        refine k_bipush hF (v := (6 : Int32)) dX10_rule_19 (by decide) ?_
        refine k_icmp_lt hF (tgt := 35) dX10_rule_21 (by decide) (fun c10 => ?_) (fun c10 => ?_)
        · replace h := ite_t c10 h
          refine k_aload_n hF dX10_rule_35 rfl ?_
          refine k_get hF (v := .ref (B + 23)) shC_0 fl_X10_53_X10 dX10_rule_36 rfl ?_
          refine k_iload_n hF dX10_rule_39 rfl ?_
          refine k_iload_n hF dX10_rule_40 rfl ?_
          refine k_iload_n hF dX10_rule_41 rfl ?_
          obtain ⟨v11, hv11, h⟩ := bind_some h
          refine k_callV hF hA (as := [.int a1, .int a2, .int a3]) (ct_X1_addRule hbs hv11) mv_X10_350 shC_23 rfl rfl rfl ⟨Nat.le_of_ble_eq_true rfl, Nat.le_of_ble_eq_true rfl⟩ (Nat.le_of_ble_eq_true rfl) dX10_rule_42 ?_
          refine k_st (st2 := [.int v11.1]) rfl ?_
          refine k_istore hF (L' := [some (.ref (B + 0)), some (.int a1), some (.int a2), some (.int a3), some (.int v11.1)]) dX10_rule_45 (by decide) rfl ?_
          refine k_aload_n hF dX10_rule_47 rfl ?_
          refine k_get hF (v := .ref (B + 23)) shC_0 fl_X10_53_X10 dX10_rule_48 rfl ?_
          obtain ⟨v12, hv12, h⟩ := bind_some h
          refine k_callV hF hA (as := []) (ct_X1_inferAnew hbs hv12) mv_X10_141 shC_23 rfl rfl rfl ⟨Nat.le_of_ble_eq_true rfl, Nat.le_of_ble_eq_true rfl⟩ (Nat.le_of_ble_eq_true rfl) dX10_rule_51 ?_
          refine k_st (st2 := []) rfl ?_
          refine k_iload hF dX10_rule_54 rfl ?_
          cases h
          exact k_xiret hF hr rfl dX10_rule_56
        · replace h := ite_f c10 h
          cases h
          exact k_throw hF hl hT tw_98_102 ss_348 dX10_rule_24 dX10_rule_27 (.inr ⟨dX10_rule_28, dX10_rule_31, dX10_rule_34⟩) (by decide) (Nat.le_of_ble_eq_true rfl) (by decide) (by decide)
      · replace h : some (.inr (n9, σ)) = some z := h
        cases h
        exact k_xS_x hF hA hT (as := [.int a3]) (ct_X10_requireLabel hl hbs hv7) ms_X10_91 rfl rfl ⟨Nat.le_of_ble_eq_true rfl, Nat.le_of_ble_eq_true rfl⟩ (Nat.le_of_ble_eq_true rfl) dX10_rule_9 (by decide) (by decide)
    · replace h : some (.inr (n6, σ)) = some z := h
      cases h
      exact k_xS_x hF hA hT (as := [.int a2]) (ct_X10_requireLabel hl hbs hv4) ms_X10_91 rfl rfl ⟨Nat.le_of_ble_eq_true rfl, Nat.le_of_ble_eq_true rfl⟩ (Nat.le_of_ble_eq_true rfl) dX10_rule_5 (by decide) (by decide)
  · replace h : some (.inr (n3, σ)) = some z := h
    cases h
    exact k_xS_x hF hA hT (as := [.int a1]) (ct_X10_requireLabel hl hbs hv1) ms_X10_91 rfl rfl ⟨Nat.le_of_ble_eq_true rfl, Nat.le_of_ble_eq_true rfl⟩ (Nat.le_of_ble_eq_true rfl) dX10_rule_1 (by decide) (by decide)
theorem ct_X10_rule {l : Launch} (hl : l.stackTraces = false) {D : DD} {base B : Nat} (hbs : base ≤ B) {σ : St} {a1 : Int32} {a2 : Int32} {a3 : Int32} {r : ((Int32 × St) ⊕ (Nat × St))} (h : fX10_rule σ a1 a2 a3 = some r) : MetX l D B shpC base yX10_rule cX10_rule 5 (some .int) 7 110 4 24 [.ref (B + 0), .int a1, .int a2, .int a3] σ (Sum.elim (fun v => .inl (some (.int v.1))) (fun n => .inr n.1) r) (Sum.elim (fun v => v.2) (fun n => n.2) r) :=
  MetX.of (by decide +kernel) (fun v hv => by simp only [List.mem_cons, List.not_mem_nil, or_false] at hv; rcases hv with rfl | rfl | rfl | rfl <;> rfl) (Nat.le_of_ble_eq_true rfl) hbs (fun p e s m args below meth c hF hr hT => wX10_rule hF (fun q hq => hq) hbs h hr hT hl)
set_option maxHeartbeats 4000000 in
set_option maxRecDepth 100000 in
theorem wX10_dropRule_j27 {p : Program} {l : Launch} {e : Env} {s : State} {m : MethodId} {args : Array Value} {below : List Frame} {meth : Method} {c : Code} {A : Nat → Prop} {D : DD} {base B : Nat} (hF : KF D base cX10_dropRule RX10 A 3 1 6 p l e ({ frames := 6, cells := 1, slots := 6, locals := 92 } : Room) s m args below meth c) (hA : ∀ q, RA B shpC q → A q) (hbs : base ≤ B) {σ : St} {a1 : Int32} {z : ((Int32 × St) ⊕ (Nat × St))} (h : fX10_dropRule_j27 σ a1 = some z) (hr : meth.sig.returnType = (some .int)) (hT : ∀ x ∈ c.exceptionTable.toList, False) (hl : l.stackTraces = false) : KJ (Rep D B shpC) A 3 1 6 (vx_MQ below (QX D B shpC A (Sum.elim (fun v => .inl (some (.int v.1))) (fun n => .inr n.1) z) (Sum.elim (fun v => v.2) (fun n => n.2) z)) (XX D B shpC A (Sum.elim (fun v => .inl (some (.int v.1))) (fun n => .inr n.1) z) (Sum.elim (fun v => v.2) (fun n => n.2) z)) args s 1 6 A) p l e ({ frames := 6, cells := 1, slots := 6, locals := 92 } : Room) s m args below meth c 1 6 27 [some (.ref (B + 0)), some (.int a1), none] [] σ := by
  unfold fX10_dropRule_j27 at h
  cases h
  exact k_throw hF hl hT tw_257_261 ss_356 dX10_dropRule_27 dX10_dropRule_30 (.inr ⟨dX10_dropRule_31, dX10_dropRule_34, dX10_dropRule_37⟩) (by decide) (Nat.le_of_ble_eq_true rfl) (by decide) (by decide)
set_option maxHeartbeats 4000000 in
set_option maxRecDepth 100000 in
theorem wX10_dropRule {p : Program} {l : Launch} {e : Env} {s : State} {m : MethodId} {args : Array Value} {below : List Frame} {meth : Method} {c : Code} {A : Nat → Prop} {D : DD} {base B : Nat} (hF : KF D base cX10_dropRule RX10 A 3 1 6 p l e ({ frames := 6, cells := 1, slots := 6, locals := 92 } : Room) s m args below meth c) (hA : ∀ q, RA B shpC q → A q) (hbs : base ≤ B) {σ : St} {a1 : Int32} {z : ((Int32 × St) ⊕ (Nat × St))} (h : fX10_dropRule σ a1 = some z) (hr : meth.sig.returnType = (some .int)) (hT : ∀ x ∈ c.exceptionTable.toList, False) (hl : l.stackTraces = false) : KJ (Rep D B shpC) A 3 1 6 (vx_MQ below (QX D B shpC A (Sum.elim (fun v => .inl (some (.int v.1))) (fun n => .inr n.1) z) (Sum.elim (fun v => v.2) (fun n => n.2) z)) (XX D B shpC A (Sum.elim (fun v => .inl (some (.int v.1))) (fun n => .inr n.1) z) (Sum.elim (fun v => v.2) (fun n => n.2) z)) args s 1 6 A) p l e ({ frames := 6, cells := 1, slots := 6, locals := 92 } : Room) s m args below meth c 1 6 0 [some (.ref (B + 0)), some (.int a1), none] [] σ := by
  unfold fX10_dropRule at h
  refine k_iload_n hF dX10_dropRule_0 rfl ?_
  refine k_if_lt hF (tgt := 27) dX10_dropRule_1 (by decide) (fun c1 => ?_) (fun c1 => ?_)
  · replace h := ite_t c1 h
    exact wX10_dropRule_j27 hF hA hbs h hr hT hl
  · replace h := ite_f c1 h
    refine k_iload_n hF dX10_dropRule_4 rfl ?_
    refine k_aload_n hF dX10_dropRule_5 rfl ?_
    refine k_get hF (v := .ref (B + 23)) shC_0 fl_X10_53_X10 dX10_dropRule_6 rfl ?_
    refine k_get hF (v := .int (gi σ 23 7)) shC_23 fl_X10_345_X1 dX10_dropRule_9 rfl ?_
    refine k_icmp_ge hF (tgt := 27) dX10_dropRule_12 (by decide) (fun c2 => ?_) (fun c2 => ?_)
    · replace h := ite_t c2 h
      exact wX10_dropRule_j27 hF hA hbs h hr hT hl
    · replace h := ite_f c2 h
      refine k_aload_n hF dX10_dropRule_15 rfl ?_
      refine k_get hF (v := .ref (B + 23)) shC_0 fl_X10_53_X10 dX10_dropRule_16 rfl ?_
      refine k_get hF (v := .ref (B + 27)) shC_23 fl_X10_353_X1 dX10_dropRule_19 rfl ?_
      refine k_iload_n hF dX10_dropRule_22 rfl ?_
      obtain ⟨g3, h⟩ := gd_some h
      refine k_zald hF shC_27 dX10_dropRule_23 g3 ?_
      refine k_if_eq hF (tgt := 38) dX10_dropRule_24 (by decide) (fun c4 => ?_) (fun c4 => ?_)
      · replace h := ite_t c4 h
        refine k_aload_n hF dX10_dropRule_38 rfl ?_
        refine k_get hF (v := .ref (B + 23)) shC_0 fl_X10_53_X10 dX10_dropRule_39 rfl ?_
        obtain ⟨v5, hv5, h⟩ := bind_some h
        refine k_callV hF hA (as := []) (ct_X1_countInferred hbs hv5) mv_X10_358 shC_23 rfl rfl rfl ⟨Nat.le_of_ble_eq_true rfl, Nat.le_of_ble_eq_true rfl⟩ (Nat.le_of_ble_eq_true rfl) dX10_dropRule_42 ?_
        refine k_st (st2 := [.int v5]) rfl ?_
        refine k_istore_n hF (L' := [some (.ref (B + 0)), some (.int a1), some (.int v5)]) dX10_dropRule_45 (by decide) rfl ?_
        refine k_aload_n hF dX10_dropRule_46 rfl ?_
        refine k_get hF (v := .ref (B + 23)) shC_0 fl_X10_53_X10 dX10_dropRule_47 rfl ?_
        refine k_get hF (v := .ref (B + 27)) shC_23 fl_X10_353_X1 dX10_dropRule_50 rfl ?_
        refine k_iload_n hF dX10_dropRule_53 rfl ?_
        refine k_iconst hF dX10_dropRule_54 ci_1 ?_
        obtain ⟨g6, h⟩ := gd_some h
        refine k_zast hF hA shC_27 dX10_dropRule_55 g6 rfl ?_
        obtain ⟨σ7, hσ7, h⟩ := lt_some h
        refine k_sig hσ7 ?_
        refine k_aload_n hF dX10_dropRule_56 rfl ?_
        refine k_get hF (v := .ref (B + 23)) shC_0 fl_X10_53_X10 dX10_dropRule_57 rfl ?_
        obtain ⟨v8, hv8, h⟩ := bind_some h
        refine k_callV hF hA (as := []) (ct_X1_inferAnew hbs hv8) mv_X10_141 shC_23 rfl rfl rfl ⟨Nat.le_of_ble_eq_true rfl, Nat.le_of_ble_eq_true rfl⟩ (Nat.le_of_ble_eq_true rfl) dX10_dropRule_60 ?_
        refine k_st (st2 := []) rfl ?_
        refine k_iload_n hF dX10_dropRule_63 rfl ?_
        refine k_aload_n hF dX10_dropRule_64 rfl ?_
        refine k_get hF (v := .ref (B + 23)) shC_0 fl_X10_53_X10 dX10_dropRule_65 rfl ?_
        obtain ⟨v9, hv9, h⟩ := bind_some h
        refine k_callV hF hA (as := []) (ct_X1_countInferred hbs hv9) mv_X10_358 shC_23 rfl rfl rfl ⟨Nat.le_of_ble_eq_true rfl, Nat.le_of_ble_eq_true rfl⟩ (Nat.le_of_ble_eq_true rfl) dX10_dropRule_68 ?_
        refine k_st (st2 := [.int v9, .int v5]) rfl ?_
        refine k_isub hF dX10_dropRule_71 ?_
        cases h
        exact k_xiret hF hr rfl dX10_dropRule_72
      · replace h := ite_f c4 h
        exact wX10_dropRule_j27 hF hA hbs h hr hT hl
theorem ct_X10_dropRule {l : Launch} (hl : l.stackTraces = false) {D : DD} {base B : Nat} (hbs : base ≤ B) {σ : St} {a1 : Int32} {r : ((Int32 × St) ⊕ (Nat × St))} (h : fX10_dropRule σ a1 = some r) : MetX l D B shpC base yX10_dropRule cX10_dropRule 3 (some .int) 6 92 1 6 [.ref (B + 0), .int a1] σ (Sum.elim (fun v => .inl (some (.int v.1))) (fun n => .inr n.1) r) (Sum.elim (fun v => v.2) (fun n => n.2) r) :=
  MetX.of (by decide +kernel) (fun v hv => by simp only [List.mem_cons, List.not_mem_nil, or_false] at hv; rcases hv with rfl | rfl <;> rfl) (Nat.le_of_ble_eq_true rfl) hbs (fun p e s m args below meth c hF hr hT => wX10_dropRule hF (fun q hq => hq) hbs h hr hT hl)
set_option maxHeartbeats 4000000 in
set_option maxRecDepth 100000 in
theorem wX10_reasons {p : Program} {l : Launch} {e : Env} {s : State} {m : MethodId} {args : Array Value} {below : List Frame} {meth : Method} {c : Code} {A : Nat → Prop} {D : DD} {base B : Nat} (hF : KF D base cX10_reasons RX10 A 4 3 18 p l e ({ frames := 7, cells := 3, slots := 18, locals := 111 } : Room) s m args below meth c) (hA : ∀ q, RA B shpC q → A q) (hbs : base ≤ B) {σ : St} {a1 : Int32} {a2 : Int32} {a3 : Int32} {z : (Int32 ⊕ Nat)} (h : fX10_reasons σ a1 a2 a3 = some z) (hr : meth.sig.returnType = (some .int)) (hT : ∀ x ∈ c.exceptionTable.toList, False) (hl : l.stackTraces = false) : KJ (Rep D B shpC) A 4 3 18 (vx_MQ below (QX D B shpC A (Sum.elim (fun v => .inl (some (.int v))) (fun n => .inr n) z) σ) (XX D B shpC A (Sum.elim (fun v => .inl (some (.int v))) (fun n => .inr n) z) σ) args s 3 18 A) p l e ({ frames := 7, cells := 3, slots := 18, locals := 111 } : Room) s m args below meth c 3 18 0 [some (.ref (B + 0)), some (.int a1), some (.int a2), some (.int a3)] [] σ := by
  unfold fX10_reasons at h
  refine k_aload_n hF dX10_reasons_0 rfl ?_
  refine k_iload_n hF dX10_reasons_1 rfl ?_
  obtain ⟨v1, hv1, h⟩ := bind_some h
  rcases v1 with v2 | n3
  · dsimp only [Sum.elim_inl] at h
    refine k_xV_r hF hA 2 12 (as := [.int a1]) (ct_X10_requireNode hl hbs hv1) mv_X10_127 shC_0 rfl rfl rfl ⟨Nat.le_of_ble_eq_true rfl, Nat.le_of_ble_eq_true rfl⟩ (Nat.le_of_ble_eq_true rfl) dX10_reasons_2 (by decide) (by decide) ?_
    refine k_st (st2 := []) rfl ?_
    refine k_aload_n hF dX10_reasons_5 rfl ?_
    refine k_iload_n hF dX10_reasons_6 rfl ?_
    obtain ⟨v4, hv4, h⟩ := bind_some h
    rcases v4 with v5 | n6
    · dsimp only [Sum.elim_inl] at h
      refine k_xV_r hF hA 1 6 (as := [.int a3]) (ct_X10_requireNode hl hbs hv4) mv_X10_127 shC_0 rfl rfl rfl ⟨Nat.le_of_ble_eq_true rfl, Nat.le_of_ble_eq_true rfl⟩ (Nat.le_of_ble_eq_true rfl) dX10_reasons_7 (by decide) (by decide) ?_
      refine k_st (st2 := []) rfl ?_
      refine k_iload_n hF dX10_reasons_10 rfl ?_
      obtain ⟨v7, hv7, h⟩ := bind_some h
      rcases v7 with v8 | n9
      · dsimp only [Sum.elim_inl] at h
        refine k_xS_r hF hA 0 0 (as := [.int a2]) (ct_X10_requireLabel hl hbs hv7) ms_X10_91 rfl rfl ⟨Nat.le_of_ble_eq_true rfl, Nat.le_of_ble_eq_true rfl⟩ (Nat.le_of_ble_eq_true rfl) dX10_reasons_11 (by decide) (by decide) ?_
        refine k_st (st2 := []) rfl ?_
        refine k_aload_n hF dX10_reasons_14 rfl ?_
        refine k_get hF (v := .ref (B + 10)) shC_0 fl_X10_26_X10 dX10_reasons_15 rfl ?_
        refine k_iload_n hF dX10_reasons_18 rfl ?_
        refine k_iload_n hF dX10_reasons_19 rfl ?_
        refine k_iload_n hF dX10_reasons_20 rfl ?_
        obtain ⟨v10, hv10, h⟩ := bind_some h
        refine k_callV hF hA (as := [.int a1, .int a2, .int a3]) (ct_X0_countLike hbs hv10) mv_X10_361 shC_10 rfl rfl rfl ⟨Nat.le_of_ble_eq_true rfl, Nat.le_of_ble_eq_true rfl⟩ (Nat.le_of_ble_eq_true rfl) dX10_reasons_21 ?_
        refine k_st (st2 := [.int v10]) rfl ?_
        refine k_aload_n hF dX10_reasons_24 rfl ?_
        refine k_get hF (v := .ref (B + 23)) shC_0 fl_X10_53_X10 dX10_reasons_25 rfl ?_
        refine k_iload_n hF dX10_reasons_28 rfl ?_
        refine k_iload_n hF dX10_reasons_29 rfl ?_
        refine k_iload_n hF dX10_reasons_30 rfl ?_
        obtain ⟨v11, hv11, h⟩ := bind_some h
        refine k_callV hF hA (as := [.int a1, .int a2, .int a3]) (ct_X1_countWays hbs hv11) mv_X10_364 shC_23 rfl rfl rfl ⟨Nat.le_of_ble_eq_true rfl, Nat.le_of_ble_eq_true rfl⟩ (Nat.le_of_ble_eq_true rfl) dX10_reasons_31 ?_
        refine k_st (st2 := [.int v11, .int v10]) rfl ?_
        refine k_iadd hF dX10_reasons_34 ?_
        cases h
        exact k_xiret hF hr rfl dX10_reasons_35
      · replace h : some (.inr n9) = some z := h
        cases h
        exact k_xS_x hF hA hT (as := [.int a2]) (ct_X10_requireLabel hl hbs hv7) ms_X10_91 rfl rfl ⟨Nat.le_of_ble_eq_true rfl, Nat.le_of_ble_eq_true rfl⟩ (Nat.le_of_ble_eq_true rfl) dX10_reasons_11 (by decide) (by decide)
    · replace h : some (.inr n6) = some z := h
      cases h
      exact k_xV_x hF hA hT (as := [.int a3]) (ct_X10_requireNode hl hbs hv4) mv_X10_127 shC_0 rfl rfl rfl ⟨Nat.le_of_ble_eq_true rfl, Nat.le_of_ble_eq_true rfl⟩ (Nat.le_of_ble_eq_true rfl) dX10_reasons_7 (by decide) (by decide)
  · replace h : some (.inr n3) = some z := h
    cases h
    exact k_xV_x hF hA hT (as := [.int a1]) (ct_X10_requireNode hl hbs hv1) mv_X10_127 shC_0 rfl rfl rfl ⟨Nat.le_of_ble_eq_true rfl, Nat.le_of_ble_eq_true rfl⟩ (Nat.le_of_ble_eq_true rfl) dX10_reasons_2 (by decide) (by decide)
theorem ct_X10_reasons {l : Launch} (hl : l.stackTraces = false) {D : DD} {base B : Nat} (hbs : base ≤ B) {σ : St} {a1 : Int32} {a2 : Int32} {a3 : Int32} {r : (Int32 ⊕ Nat)} (h : fX10_reasons σ a1 a2 a3 = some r) : MetX l D B shpC base yX10_reasons cX10_reasons 4 (some .int) 7 111 3 18 [.ref (B + 0), .int a1, .int a2, .int a3] σ (Sum.elim (fun v => .inl (some (.int v))) (fun n => .inr n) r) σ :=
  MetX.of (by decide +kernel) (fun v hv => by simp only [List.mem_cons, List.not_mem_nil, or_false] at hv; rcases hv with rfl | rfl | rfl | rfl <;> rfl) (Nat.le_of_ble_eq_true rfl) hbs (fun p e s m args below meth c hF hr hT => wX10_reasons hF (fun q hq => hq) hbs h hr hT hl)
set_option maxHeartbeats 4000000 in
set_option maxRecDepth 100000 in
theorem wX10_requireSteps_j10 {p : Program} {l : Launch} {e : Env} {s : State} {m : MethodId} {args : Array Value} {below : List Frame} {meth : Method} {c : Code} {A : Nat → Prop} {D : DD} {base B : Nat} (hF : KF D base cX10_requireSteps RX10 A 1 1 6 p l e ({ frames := 6, cells := 1, slots := 6, locals := 90 } : Room) s m args below meth c) (hA : ∀ q, RA B shpC q → A q) (hbs : base ≤ B) {σ : St} {a0 : Int32} {z : (Unit ⊕ Nat)} (h : fX10_requireSteps_j10 σ a0 = some z) (hr : meth.sig.returnType = none) (hT : ∀ x ∈ c.exceptionTable.toList, False) (hl : l.stackTraces = false) : KJ (Rep D B shpC) A 1 1 6 (vx_MQ below (QX D B shpC A (Sum.elim (fun v => .inl (none)) (fun n => .inr n) z) σ) (XX D B shpC A (Sum.elim (fun v => .inl (none)) (fun n => .inr n) z) σ) args s 1 6 A) p l e ({ frames := 6, cells := 1, slots := 6, locals := 90 } : Room) s m args below meth c 1 6 10 [some (.int a0)] [] σ := by
  unfold fX10_requireSteps_j10 at h
  cases h
  exact k_throw hF hl hT tw_304_308 ss_408 dX10_requireSteps_10 dX10_requireSteps_13 (.inr ⟨dX10_requireSteps_14, dX10_requireSteps_17, dX10_requireSteps_20⟩) (by decide) (Nat.le_of_ble_eq_true rfl) (by decide) (by decide)
set_option maxHeartbeats 4000000 in
set_option maxRecDepth 100000 in
theorem wX10_requireSteps {p : Program} {l : Launch} {e : Env} {s : State} {m : MethodId} {args : Array Value} {below : List Frame} {meth : Method} {c : Code} {A : Nat → Prop} {D : DD} {base B : Nat} (hF : KF D base cX10_requireSteps RX10 A 1 1 6 p l e ({ frames := 6, cells := 1, slots := 6, locals := 90 } : Room) s m args below meth c) (hA : ∀ q, RA B shpC q → A q) (hbs : base ≤ B) {σ : St} {a0 : Int32} {z : (Unit ⊕ Nat)} (h : fX10_requireSteps σ a0 = some z) (hr : meth.sig.returnType = none) (hT : ∀ x ∈ c.exceptionTable.toList, False) (hl : l.stackTraces = false) : KJ (Rep D B shpC) A 1 1 6 (vx_MQ below (QX D B shpC A (Sum.elim (fun v => .inl (none)) (fun n => .inr n) z) σ) (XX D B shpC A (Sum.elim (fun v => .inl (none)) (fun n => .inr n) z) σ) args s 1 6 A) p l e ({ frames := 6, cells := 1, slots := 6, locals := 90 } : Room) s m args below meth c 1 6 0 [some (.int a0)] [] σ := by
  unfold fX10_requireSteps at h
  refine k_iload_n hF dX10_requireSteps_0 rfl ?_
  refine k_if_lt hF (tgt := 10) dX10_requireSteps_1 (by decide) (fun c1 => ?_) (fun c1 => ?_)
  · replace h := ite_t c1 h
    exact wX10_requireSteps_j10 hF hA hbs h hr hT hl
  · replace h := ite_f c1 h
    refine k_iload_n hF dX10_requireSteps_4 rfl ?_
    refine k_bipush hF (v := (30 : Int32)) dX10_requireSteps_5 (by decide) ?_
    refine k_icmp_le hF (tgt := 21) dX10_requireSteps_7 (by decide) (fun c2 => ?_) (fun c2 => ?_)
    · replace h := ite_t c2 h
      cases h
      exact k_xvret hF hr dX10_requireSteps_21
    · replace h := ite_f c2 h
      exact wX10_requireSteps_j10 hF hA hbs h hr hT hl
theorem ct_X10_requireSteps {l : Launch} (hl : l.stackTraces = false) {D : DD} {base B : Nat} (hbs : base ≤ B) {σ : St} {a0 : Int32} {r : (Unit ⊕ Nat)} (h : fX10_requireSteps σ a0 = some r) : MetX l D B shpC base yX10_requireSteps cX10_requireSteps 1 none 6 90 1 6 [.int a0] σ (Sum.elim (fun v => .inl (none)) (fun n => .inr n) r) σ :=
  MetX.of (by decide +kernel) (fun v hv => by simp only [List.mem_cons, List.not_mem_nil, or_false] at hv; rcases hv with rfl <;> rfl) (Nat.le_of_ble_eq_true rfl) hbs (fun p e s m args below meth c hF hr hT => wX10_requireSteps hF (fun q hq => hq) hbs h hr hT hl)
set_option maxHeartbeats 4000000 in
set_option maxRecDepth 100000 in
theorem wX10_walk {p : Program} {l : Launch} {e : Env} {s : State} {m : MethodId} {args : Array Value} {below : List Frame} {meth : Method} {c : Code} {A : Nat → Prop} {D : DD} {base B : Nat} (hF : KF D base cX10_walk RX10 A 3 2 12 p l e ({ frames := 7, cells := 2, slots := 12, locals := 111 } : Room) s m args below meth c) (hA : ∀ q, RA B shpC q → A q) (hbs : base ≤ B) {σ : St} {a1 : Int32} {a2 : Int32} {z : (Int32 ⊕ Nat)} (h : fX10_walk σ a1 a2 = some z) (hr : meth.sig.returnType = (some .int)) (hT : ∀ x ∈ c.exceptionTable.toList, False) (hl : l.stackTraces = false) : KJ (Rep D B shpC) A 3 2 12 (vx_MQ below (QX D B shpC A (Sum.elim (fun v => .inl (some (.int v))) (fun n => .inr n) z) σ) (XX D B shpC A (Sum.elim (fun v => .inl (some (.int v))) (fun n => .inr n) z) σ) args s 2 12 A) p l e ({ frames := 7, cells := 2, slots := 12, locals := 111 } : Room) s m args below meth c 2 12 0 [some (.ref (B + 0)), some (.int a1), some (.int a2)] [] σ := by
  unfold fX10_walk at h
  refine k_aload_n hF dX10_walk_0 rfl ?_
  refine k_iload_n hF dX10_walk_1 rfl ?_
  obtain ⟨v1, hv1, h⟩ := bind_some h
  rcases v1 with v2 | n3
  · dsimp only [Sum.elim_inl] at h
    refine k_xV_r hF hA 1 6 (as := [.int a1]) (ct_X10_requireNode hl hbs hv1) mv_X10_127 shC_0 rfl rfl rfl ⟨Nat.le_of_ble_eq_true rfl, Nat.le_of_ble_eq_true rfl⟩ (Nat.le_of_ble_eq_true rfl) dX10_walk_2 (by decide) (by decide) ?_
    refine k_st (st2 := []) rfl ?_
    refine k_iload_n hF dX10_walk_5 rfl ?_
    obtain ⟨v4, hv4, h⟩ := bind_some h
    rcases v4 with v5 | n6
    · dsimp only [Sum.elim_inl] at h
      refine k_xS_r hF hA 0 0 (as := [.int a2]) (ct_X10_requireSteps hl hbs hv4) ms_X10_367 rfl rfl ⟨Nat.le_of_ble_eq_true rfl, Nat.le_of_ble_eq_true rfl⟩ (Nat.le_of_ble_eq_true rfl) dX10_walk_6 (by decide) (by decide) ?_
      refine k_st (st2 := []) rfl ?_
      refine k_aload_n hF dX10_walk_9 rfl ?_
      refine k_iload_n hF dX10_walk_10 rfl ?_
      refine k_iload_n hF dX10_walk_11 rfl ?_
      obtain ⟨v7, hv7, h⟩ := bind_some h
      refine k_callV hF hA (as := [.int a1, .int a2]) (ct_X10_walkedFrom hbs hv7) mv_X10_370 shC_0 rfl rfl rfl ⟨Nat.le_of_ble_eq_true rfl, Nat.le_of_ble_eq_true rfl⟩ (Nat.le_of_ble_eq_true rfl) dX10_walk_12 ?_
      refine k_st (st2 := [.int v7]) rfl ?_
      cases h
      exact k_xiret hF hr rfl dX10_walk_15
    · replace h : some (.inr n6) = some z := h
      cases h
      exact k_xS_x hF hA hT (as := [.int a2]) (ct_X10_requireSteps hl hbs hv4) ms_X10_367 rfl rfl ⟨Nat.le_of_ble_eq_true rfl, Nat.le_of_ble_eq_true rfl⟩ (Nat.le_of_ble_eq_true rfl) dX10_walk_6 (by decide) (by decide)
  · replace h : some (.inr n3) = some z := h
    cases h
    exact k_xV_x hF hA hT (as := [.int a1]) (ct_X10_requireNode hl hbs hv1) mv_X10_127 shC_0 rfl rfl rfl ⟨Nat.le_of_ble_eq_true rfl, Nat.le_of_ble_eq_true rfl⟩ (Nat.le_of_ble_eq_true rfl) dX10_walk_2 (by decide) (by decide)
theorem ct_X10_walk {l : Launch} (hl : l.stackTraces = false) {D : DD} {base B : Nat} (hbs : base ≤ B) {σ : St} {a1 : Int32} {a2 : Int32} {r : (Int32 ⊕ Nat)} (h : fX10_walk σ a1 a2 = some r) : MetX l D B shpC base yX10_walk cX10_walk 3 (some .int) 7 111 2 12 [.ref (B + 0), .int a1, .int a2] σ (Sum.elim (fun v => .inl (some (.int v))) (fun n => .inr n) r) σ :=
  MetX.of (by decide +kernel) (fun v hv => by simp only [List.mem_cons, List.not_mem_nil, or_false] at hv; rcases hv with rfl | rfl | rfl <;> rfl) (Nat.le_of_ble_eq_true rfl) hbs (fun p e s m args below meth c hF hr hT => wX10_walk hF (fun q hq => hq) hbs h hr hT hl)
