set_option maxHeartbeats 4000000 in
set_option maxRecDepth 100000 in
theorem wX5_goOn {p : Program} {l : Launch} {e : Env} {s : State} {m : MethodId} {args : Array Value} {below : List Frame} {meth : Method} {c : Code} {Q : State → Prop} {A : Nat → Prop} {D : DD} {base B : Nat} (hF : KF D base cX5_goOn RX5 A 4 0 0 p l e ({ frames := 31, cells := 0, slots := 0, locals := 897 } : Room) s m args below meth c) (hA : ∀ q, RA B shpC q → A q) (hbs : base ≤ B) {σ : St} {u1 : Nat} {a2 : Int32} {a3 : Int32} (q1 : u1 < 7) {z : Int32} (h : fX5_goOn σ u1 a2 a3 = some z) (hr : ∀ (pc : Nat) (L : List (Option Value)), narrow .int (.int z) = .int z → decode cX5_goOn pc = .ok (.ireturn, 1) → KJ (Rep D B shpC) A 4 0 0 Q p l e ({ frames := 31, cells := 0, slots := 0, locals := 897 } : Room) s m args below meth c 0 0 pc L [.int z] σ) : KJ (Rep D B shpC) A 4 0 0 Q p l e ({ frames := 31, cells := 0, slots := 0, locals := 897 } : Room) s m args below meth c 0 0 0 [some (.ref (B + 38)), some (.ref (B + (78 + 6 * u1))), some (.int a2), some (.int a3)] [] σ := by
  unfold fX5_goOn at h
  refine k_aload_n hF dX5_goOn_0 rfl ?_
  refine k_get hF (v := .int (gi σ (78 + 6 * u1) 5)) (shC_PT u1 q1) fl_X5_28_X8 dX5_goOn_1 rfl ?_
  refine k_if_ne hF (tgt := 9) dX5_goOn_4 (by decide) (fun c1 => ?_) (fun c1 => ?_)
  · replace h := ite_f c1 h
    refine k_aload_n hF dX5_goOn_9 rfl ?_
    refine k_aload_n hF dX5_goOn_10 rfl ?_
    refine k_aload_n hF dX5_goOn_11 rfl ?_
    refine k_get hF (v := .int (gi σ (78 + 6 * u1) 5)) (shC_PT u1 q1) fl_X5_28_X8 dX5_goOn_12 rfl ?_
    refine k_iconst hF dX5_goOn_15 ci_1 ?_
    refine k_isub hF dX5_goOn_16 ?_
    refine k_iload_n hF dX5_goOn_17 rfl ?_
    obtain ⟨v2, hv2, h⟩ := bind_some h
    refine k_callSN hF hA (as := [.int a2]) (ct_X10_bit hbs hv2) msn_X5_55 rfl rfl ⟨Nat.le_of_ble_eq_true rfl, Nat.le_of_ble_eq_true rfl⟩ (Nat.le_of_ble_eq_true rfl) dX5_goOn_18 ?_
    refine k_st (st2 := [.int v2, .int ((gi σ (78 + 6 * u1) 5) - (1 : Int32)), .ref (B + (78 + 6 * u1)), .ref (B + 38)]) rfl ?_
    refine k_iload_n hF dX5_goOn_21 rfl ?_
    refine k_iand hF dX5_goOn_22 ?_
    refine k_iload_n hF dX5_goOn_23 rfl ?_
    refine k_iconst hF dX5_goOn_24 ci_0 ?_
    obtain ⟨v3, hv3, h⟩ := bind_some h
    refine k_callV hF hA (as := [.ref (B + (78 + 6 * u1)), .int ((gi σ (78 + 6 * u1) 5) - (1 : Int32)), .int (v2 &&& a3), .int a3, .int (0 : Int32)]) (ct_X5_goOnFrom hbs q1 hv3) mv_X5_84 shC_38 rfl rfl rfl ⟨Nat.le_of_ble_eq_true rfl, Nat.le_of_ble_eq_true rfl⟩ (Nat.le_of_ble_eq_true rfl) dX5_goOn_25 ?_
    refine k_st (st2 := [.int v3]) rfl ?_
    cases h
    exact hr _ _ rfl dX5_goOn_28
  · replace h := ite_t c1 h
    refine k_iconst hF dX5_goOn_7 ci_0 ?_
    cases h
    exact hr _ _ rfl dX5_goOn_8
theorem ct_X5_goOn {l : Launch} {D : DD} {base B : Nat} (hbs : base ≤ B) {σ : St} {u1 : Nat} {a2 : Int32} {a3 : Int32} (q1 : u1 < 7) {r : Int32} (h : fX5_goOn σ u1 a2 a3 = some r) : MetR l D B shpC base yX5_goOn cX5_goOn 4 (some .int) 31 897 [.ref (B + 38), .ref (B + (78 + 6 * u1)), .int a2, .int a3] σ (some (.int r)) σ :=
  MetR.of (by decide +kernel) (fun v hv => by simp only [List.mem_cons, List.not_mem_nil, or_false] at hv; rcases hv with rfl | rfl | rfl | rfl <;> rfl) (Nat.le_of_ble_eq_true rfl) hbs (fun p e s m args below meth c hF hr => wX5_goOn hF (fun q hq => hq) hbs q1 h (fun pc L hn hd => k_iret hF hr hn hd))
set_option maxHeartbeats 4000000 in
set_option maxRecDepth 100000 in
theorem wX10_addEdge {p : Program} {l : Launch} {e : Env} {s : State} {m : MethodId} {args : Array Value} {below : List Frame} {meth : Method} {c : Code} {Q : State → Prop} {A : Nat → Prop} {D : DD} {base B : Nat} (hF : KF D base cX10_addEdge RX10 A 5 0 0 p l e ({ frames := 2, cells := 0, slots := 0, locals := 47 } : Room) s m args below meth c) (hA : ∀ q, RA B shpC q → A q) (hbs : base ≤ B) {σ : St} {a1 : Int32} {a2 : Int32} {a3 : Int32} {z : (Int32 × St)} (h : fX10_addEdge σ a1 a2 a3 = some z) (hr : ∀ (pc : Nat) (L : List (Option Value)), narrow .int (.int z.1) = .int z.1 → decode cX10_addEdge pc = .ok (.ireturn, 1) → KJ (Rep D B shpC) A 5 0 0 Q p l e ({ frames := 2, cells := 0, slots := 0, locals := 47 } : Room) s m args below meth c 0 0 pc L [.int z.1] z.2) : KJ (Rep D B shpC) A 5 0 0 Q p l e ({ frames := 2, cells := 0, slots := 0, locals := 47 } : Room) s m args below meth c 0 0 0 [some (.ref (B + 0)), some (.int a1), some (.int a2), some (.int a3), none] [] σ := by
  unfold fX10_addEdge at h
  refine k_aload_n hF dX10_addEdge_0 rfl ?_
  refine k_get hF (v := .ref (B + 10)) shC_0 fl_X10_26_X10 dX10_addEdge_1 rfl ?_
  refine k_iload_n hF dX10_addEdge_4 rfl ?_
  refine k_iload_n hF dX10_addEdge_5 rfl ?_
  refine k_iload_n hF dX10_addEdge_6 rfl ?_
  refine k_aload_n hF dX10_addEdge_7 rfl ?_
  refine k_get hF (v := .int (gi σ 0 11)) shC_0 fl_X10_13_X10 dX10_addEdge_8 rfl ?_
  obtain ⟨v1, hv1, h⟩ := bind_some h
  refine k_callV hF hA (as := [.int a1, .int a2, .int a3, .int (gi σ 0 11)]) (ct_X0_add hbs hv1) mv_X10_410 shC_10 rfl rfl rfl ⟨Nat.le_of_ble_eq_true rfl, Nat.le_of_ble_eq_true rfl⟩ (Nat.le_of_ble_eq_true rfl) dX10_addEdge_11 ?_
  refine k_st (st2 := [.int v1.1]) rfl ?_
  refine k_istore hF (L' := [some (.ref (B + 0)), some (.int a1), some (.int a2), some (.int a3), some (.int v1.1)]) dX10_addEdge_14 (by decide) rfl ?_
  refine k_aload_n hF dX10_addEdge_16 rfl ?_
  refine k_get hF (v := .ref (B + 1)) shC_0 fl_X10_19_X10 dX10_addEdge_17 rfl ?_
  refine k_get hF (v := .ref (B + 6)) shC_1 fl_X10_413_X6 dX10_addEdge_20 rfl ?_
  refine k_iload_n hF dX10_addEdge_23 rfl ?_
  refine k_aload_n hF dX10_addEdge_24 rfl ?_
  refine k_get hF (v := .int (gi v1.2 0 11)) shC_0 fl_X10_13_X10 dX10_addEdge_25 rfl ?_
  obtain ⟨g2, h⟩ := gd_some h
  refine k_iast hF hA shC_6 dX10_addEdge_28 g2 ?_
  obtain ⟨σ3, hσ3, h⟩ := lt_some h
  refine k_sig hσ3 ?_
  refine k_aload_n hF dX10_addEdge_29 rfl ?_
  refine k_get hF (v := .ref (B + 1)) shC_0 fl_X10_19_X10 dX10_addEdge_30 rfl ?_
  refine k_get hF (v := .ref (B + 6)) shC_1 fl_X10_413_X6 dX10_addEdge_33 rfl ?_
  refine k_iload_n hF dX10_addEdge_36 rfl ?_
  refine k_aload_n hF dX10_addEdge_37 rfl ?_
  refine k_get hF (v := .int (gi σ3 0 11)) shC_0 fl_X10_13_X10 dX10_addEdge_38 rfl ?_
  obtain ⟨g4, h⟩ := gd_some h
  refine k_iast hF hA shC_6 dX10_addEdge_41 g4 ?_
  obtain ⟨σ5, hσ5, h⟩ := lt_some h
  refine k_sig hσ5 ?_
  refine k_aload_n hF dX10_addEdge_42 rfl ?_
  refine k_get hF (v := .ref (B + 53)) shC_0 fl_X10_69_X10 dX10_addEdge_43 rfl ?_
  refine k_dup hF dX10_addEdge_46 rfl ?_
  refine k_get hF (v := .int (gi σ5 53 3)) shC_53 fl_X10_375_X4 dX10_addEdge_47 rfl ?_
  refine k_iload_n hF dX10_addEdge_50 rfl ?_
  obtain ⟨v6, hv6, h⟩ := bind_some h
  refine k_callS hF hA (as := [.int a1]) (ct_X10_bit hbs hv6) ms_X10_384 rfl rfl ⟨Nat.le_of_ble_eq_true rfl, Nat.le_of_ble_eq_true rfl⟩ (Nat.le_of_ble_eq_true rfl) dX10_addEdge_51 ?_
  refine k_st (st2 := [.int v6, .int (gi σ5 53 3), .ref (B + 53)]) rfl ?_
  refine k_iload_n hF dX10_addEdge_54 rfl ?_
  obtain ⟨v7, hv7, h⟩ := bind_some h
  refine k_callS hF hA (as := [.int a3]) (ct_X10_bit hbs hv7) ms_X10_384 rfl rfl ⟨Nat.le_of_ble_eq_true rfl, Nat.le_of_ble_eq_true rfl⟩ (Nat.le_of_ble_eq_true rfl) dX10_addEdge_55 ?_
  refine k_st (st2 := [.int v7, .int v6, .int (gi σ5 53 3), .ref (B + 53)]) rfl ?_
  refine k_ior hF dX10_addEdge_58 ?_
  refine k_ior hF dX10_addEdge_59 ?_
  refine k_putI hF hA shC_53 fp_X10_375_X4 dX10_addEdge_60 rfl rfl rfl ?_
  obtain ⟨σ8, hσ8, h⟩ := lt_some h
  refine k_sig hσ8 ?_
  refine k_iload hF dX10_addEdge_63 rfl ?_
  cases h
  exact hr _ _ rfl dX10_addEdge_65
theorem ct_X10_addEdge {l : Launch} {D : DD} {base B : Nat} (hbs : base ≤ B) {σ : St} {a1 : Int32} {a2 : Int32} {a3 : Int32} {r : (Int32 × St)} (h : fX10_addEdge σ a1 a2 a3 = some r) : MetR l D B shpC base yX10_addEdge cX10_addEdge 5 (some .int) 2 47 [.ref (B + 0), .int a1, .int a2, .int a3] σ (some (.int r.1)) r.2 :=
  MetR.of (by decide +kernel) (fun v hv => by simp only [List.mem_cons, List.not_mem_nil, or_false] at hv; rcases hv with rfl | rfl | rfl | rfl <;> rfl) (Nat.le_of_ble_eq_true rfl) hbs (fun p e s m args below meth c hF hr => wX10_addEdge hF (fun q hq => hq) hbs h (fun pc L hn hd => k_iret hF hr hn hd))
set_option maxHeartbeats 4000000 in
set_option maxRecDepth 100000 in
theorem wX10_endEdge {p : Program} {l : Launch} {e : Env} {s : State} {m : MethodId} {args : Array Value} {below : List Frame} {meth : Method} {c : Code} {Q : State → Prop} {A : Nat → Prop} {D : DD} {base B : Nat} (hF : KF D base cX10_endEdge RX10 A 2 0 0 p l e ({ frames := 1, cells := 0, slots := 0, locals := 22 } : Room) s m args below meth c) (hA : ∀ q, RA B shpC q → A q) (hbs : base ≤ B) {σ : St} {a1 : Int32} {z : St} (h : fX10_endEdge σ a1 = some z) (hr : ∀ (pc : Nat) (L : List (Option Value)), decode cX10_endEdge pc = .ok (.return_, 1) → KJ (Rep D B shpC) A 2 0 0 Q p l e ({ frames := 1, cells := 0, slots := 0, locals := 22 } : Room) s m args below meth c 0 0 pc L [] z) : KJ (Rep D B shpC) A 2 0 0 Q p l e ({ frames := 1, cells := 0, slots := 0, locals := 22 } : Room) s m args below meth c 0 0 0 [some (.ref (B + 0)), some (.int a1)] [] σ := by
  unfold fX10_endEdge at h
  refine k_aload_n hF dX10_endEdge_0 rfl ?_
  refine k_get hF (v := .ref (B + 10)) shC_0 fl_X10_26_X10 dX10_endEdge_1 rfl ?_
  refine k_iload_n hF dX10_endEdge_4 rfl ?_
  refine k_aload_n hF dX10_endEdge_5 rfl ?_
  refine k_get hF (v := .int (gi σ 0 11)) shC_0 fl_X10_13_X10 dX10_endEdge_6 rfl ?_
  obtain ⟨v1, hv1, h⟩ := bind_some h
  refine k_callU hF hA (as := [.int a1, .int (gi σ 0 11)]) (ct_X7_endE hbs hv1) mu_X10_416 shC_10 rfl rfl rfl ⟨Nat.le_of_ble_eq_true rfl, Nat.le_of_ble_eq_true rfl⟩ (Nat.le_of_ble_eq_true rfl) dX10_endEdge_9 ?_
  refine k_st (st2 := []) rfl ?_
  refine k_aload_n hF dX10_endEdge_12 rfl ?_
  refine k_get hF (v := .ref (B + 1)) shC_0 fl_X10_19_X10 dX10_endEdge_13 rfl ?_
  refine k_get hF (v := .ref (B + 6)) shC_1 fl_X10_413_X6 dX10_endEdge_16 rfl ?_
  refine k_aload_n hF dX10_endEdge_19 rfl ?_
  refine k_get hF (v := .ref (B + 10)) shC_0 fl_X10_26_X10 dX10_endEdge_20 rfl ?_
  refine k_get hF (v := .ref (B + 13)) shC_10 fl_X10_167_X0 dX10_endEdge_23 rfl ?_
  refine k_iload_n hF dX10_endEdge_26 rfl ?_
  obtain ⟨g2, h⟩ := gd_some h
  refine k_iald hF shC_13 dX10_endEdge_27 g2 ?_
  refine k_aload_n hF dX10_endEdge_28 rfl ?_
  refine k_get hF (v := .int (gi v1 0 11)) shC_0 fl_X10_13_X10 dX10_endEdge_29 rfl ?_
  obtain ⟨g3, h⟩ := gd_some h
  refine k_iast hF hA shC_6 dX10_endEdge_32 g3 ?_
  obtain ⟨σ4, hσ4, h⟩ := lt_some h
  refine k_sig hσ4 ?_
  refine k_aload_n hF dX10_endEdge_33 rfl ?_
  refine k_get hF (v := .ref (B + 1)) shC_0 fl_X10_19_X10 dX10_endEdge_34 rfl ?_
  refine k_get hF (v := .ref (B + 6)) shC_1 fl_X10_413_X6 dX10_endEdge_37 rfl ?_
  refine k_aload_n hF dX10_endEdge_40 rfl ?_
  refine k_get hF (v := .ref (B + 10)) shC_0 fl_X10_26_X10 dX10_endEdge_41 rfl ?_
  refine k_get hF (v := .ref (B + 15)) shC_10 fl_X10_170_X0 dX10_endEdge_44 rfl ?_
  refine k_iload_n hF dX10_endEdge_47 rfl ?_
  obtain ⟨g5, h⟩ := gd_some h
  refine k_iald hF shC_15 dX10_endEdge_48 g5 ?_
  refine k_aload_n hF dX10_endEdge_49 rfl ?_
  refine k_get hF (v := .int (gi σ4 0 11)) shC_0 fl_X10_13_X10 dX10_endEdge_50 rfl ?_
  obtain ⟨g6, h⟩ := gd_some h
  refine k_iast hF hA shC_6 dX10_endEdge_53 g6 ?_
  obtain ⟨σ7, hσ7, h⟩ := lt_some h
  refine k_sig hσ7 ?_
  cases h
  exact hr _ _ dX10_endEdge_54
theorem ct_X10_endEdge {l : Launch} {D : DD} {base B : Nat} (hbs : base ≤ B) {σ : St} {a1 : Int32} {r : St} (h : fX10_endEdge σ a1 = some r) : MetR l D B shpC base yX10_endEdge cX10_endEdge 2 none 1 22 [.ref (B + 0), .int a1] σ none r :=
  MetR.of (by decide +kernel) (fun v hv => by simp only [List.mem_cons, List.not_mem_nil, or_false] at hv; rcases hv with rfl | rfl <;> rfl) (Nat.le_of_ble_eq_true rfl) hbs (fun p e s m args below meth c hF hr => wX10_endEdge hF (fun q hq => hq) hbs h (fun pc L hd => k_vret hF hr hd))
set_option maxHeartbeats 4000000 in
set_option maxRecDepth 100000 in
theorem wX10_startAnew {p : Program} {l : Launch} {e : Env} {s : State} {m : MethodId} {args : Array Value} {below : List Frame} {meth : Method} {c : Code} {Q : State → Prop} {A : Nat → Prop} {D : DD} {base B : Nat} (hF : KF D base cX10_startAnew RX10 A 1 0 0 p l e ({ frames := 4, cells := 0, slots := 0, locals := 92 } : Room) s m args below meth c) (hA : ∀ q, RA B shpC q → A q) (hbs : base ≤ B) {σ : St} {z : St} (h : fX10_startAnew σ = some z) (hr : ∀ (pc : Nat) (L : List (Option Value)), decode cX10_startAnew pc = .ok (.return_, 1) → KJ (Rep D B shpC) A 1 0 0 Q p l e ({ frames := 4, cells := 0, slots := 0, locals := 92 } : Room) s m args below meth c 0 0 pc L [] z) : KJ (Rep D B shpC) A 1 0 0 Q p l e ({ frames := 4, cells := 0, slots := 0, locals := 92 } : Room) s m args below meth c 0 0 0 [some (.ref (B + 0))] [] σ := by
  unfold fX10_startAnew at h
  refine k_aload_n hF dX10_startAnew_0 rfl ?_
  refine k_get hF (v := .ref (B + 53)) shC_0 fl_X10_69_X10 dX10_startAnew_1 rfl ?_
  refine k_aload_n hF dX10_startAnew_4 rfl ?_
  refine k_get hF (v := .ref (B + 1)) shC_0 fl_X10_19_X10 dX10_startAnew_5 rfl ?_
  refine k_get hF (v := .int (gi σ 1 10)) shC_1 fl_X10_342_X6 dX10_startAnew_8 rfl ?_
  obtain ⟨v1, hv1, h⟩ := bind_some h
  refine k_callV hF hA (as := [.int (gi σ 1 10)]) (ct_X4_startAnew hbs hv1) mv_X10_419 shC_53 rfl rfl rfl ⟨Nat.le_of_ble_eq_true rfl, Nat.le_of_ble_eq_true rfl⟩ (Nat.le_of_ble_eq_true rfl) dX10_startAnew_11 ?_
  refine k_st (st2 := []) rfl ?_
  refine k_aload_n hF dX10_startAnew_14 rfl ?_
  refine k_get hF (v := .ref (B + 23)) shC_0 fl_X10_53_X10 dX10_startAnew_15 rfl ?_
  obtain ⟨v2, hv2, h⟩ := bind_some h
  refine k_callV hF hA (as := []) (ct_X1_inferAnew hbs hv2) mv_X10_141 shC_23 rfl rfl rfl ⟨Nat.le_of_ble_eq_true rfl, Nat.le_of_ble_eq_true rfl⟩ (Nat.le_of_ble_eq_true rfl) dX10_startAnew_18 ?_
  refine k_st (st2 := []) rfl ?_
  cases h
  exact hr _ _ dX10_startAnew_21
theorem ct_X10_startAnew {l : Launch} {D : DD} {base B : Nat} (hbs : base ≤ B) {σ : St} {r : St} (h : fX10_startAnew σ = some r) : MetR l D B shpC base yX10_startAnew cX10_startAnew 1 none 4 92 [.ref (B + 0)] σ none r :=
  MetR.of (by decide +kernel) (fun v hv => by simp only [List.mem_cons, List.not_mem_nil, or_false] at hv; rcases hv with rfl <;> rfl) (Nat.le_of_ble_eq_true rfl) hbs (fun p e s m args below meth c hF hr => wX10_startAnew hF (fun q hq => hq) hbs h (fun pc L hd => k_vret hF hr hd))
set_option maxHeartbeats 4000000 in
set_option maxRecDepth 100000 in
theorem wX10_areShaped_j87 {p : Program} {l : Launch} {e : Env} {s : State} {m : MethodId} {args : Array Value} {below : List Frame} {meth : Method} {c : Code} {Q : State → Prop} {A : Nat → Prop} {D : DD} {base B : Nat} (hF : KF D base cX10_areShaped RX10 A 5 0 0 p l e ({ frames := 1, cells := 0, slots := 0, locals := 21 } : Room) s m args below meth c) (hA : ∀ q, RA B shpC q → A q) (hbs : base ≤ B) {σ : St} {a1 : Int32} {a2 : Int32} {a3 : Int32} {b4 : Int32} {z : (Int32 ⊕ (Int32 ⊕ Int32))} (h : fX10_areShaped_j87 σ a1 a2 a3 b4 = some z) (hc : ∀ x, z = .inl x → KJ (Rep D B shpC) A 5 0 0 Q p l e ({ frames := 1, cells := 0, slots := 0, locals := 21 } : Room) s m args below meth c 0 0 3 [some (.ref (B + 0)), some (.int a1), some (.int a2), some (.int a3), some (.int x)] [] σ) (he : ∀ w, z = .inr w → Sum.elim (fun x => KJ (Rep D B shpC) A 5 0 0 Q p l e ({ frames := 1, cells := 0, slots := 0, locals := 21 } : Room) s m args below meth c 0 0 93 [some (.ref (B + 0)), some (.int a1), some (.int a2), some (.int a3), some (.int x)] [] σ) (fun r => ∀ (pc : Nat) (L : List (Option Value)), narrow .boolean (.int r) = .int r → decode cX10_areShaped pc = .ok (.ireturn, 1) → KJ (Rep D B shpC) A 5 0 0 Q p l e ({ frames := 1, cells := 0, slots := 0, locals := 21 } : Room) s m args below meth c 0 0 pc L [.int r] σ) w) : KJ (Rep D B shpC) A 5 0 0 Q p l e ({ frames := 1, cells := 0, slots := 0, locals := 21 } : Room) s m args below meth c 0 0 87 [some (.ref (B + 0)), some (.int a1), some (.int a2), some (.int a3), some (.int b4)] [] σ := by
  unfold fX10_areShaped_j87 at h
  refine k_iinc hF (v := (b4 + (1 : Int32))) (L' := [some (.ref (B + 0)), some (.int a1), some (.int a2), some (.int a3), some (.int (b4 + (1 : Int32)))]) dX10_areShaped_87 rfl (by first | rfl | (congr 1)) (by decide) rfl ?_
  refine k_goto hF dX10_areShaped_90 (tgt := 3) (by decide) ?_
  exact hc _ (Option.some.inj h).symm
set_option maxHeartbeats 4000000 in
set_option maxRecDepth 100000 in
theorem wX10_areShaped_j85 {p : Program} {l : Launch} {e : Env} {s : State} {m : MethodId} {args : Array Value} {below : List Frame} {meth : Method} {c : Code} {Q : State → Prop} {A : Nat → Prop} {D : DD} {base B : Nat} (hF : KF D base cX10_areShaped RX10 A 5 0 0 p l e ({ frames := 1, cells := 0, slots := 0, locals := 21 } : Room) s m args below meth c) (hA : ∀ q, RA B shpC q → A q) (hbs : base ≤ B) {σ : St} {a1 : Int32} {a2 : Int32} {a3 : Int32} {z : (Int32 ⊕ (Int32 ⊕ Int32))} (h : fX10_areShaped_j85 σ a1 a2 a3 = some z) (hc : ∀ x, z = .inl x → KJ (Rep D B shpC) A 5 0 0 Q p l e ({ frames := 1, cells := 0, slots := 0, locals := 21 } : Room) s m args below meth c 0 0 3 [some (.ref (B + 0)), some (.int a1), some (.int a2), some (.int a3), some (.int x)] [] σ) (he : ∀ w, z = .inr w → Sum.elim (fun x => KJ (Rep D B shpC) A 5 0 0 Q p l e ({ frames := 1, cells := 0, slots := 0, locals := 21 } : Room) s m args below meth c 0 0 93 [some (.ref (B + 0)), some (.int a1), some (.int a2), some (.int a3), some (.int x)] [] σ) (fun r => ∀ (pc : Nat) (L : List (Option Value)), narrow .boolean (.int r) = .int r → decode cX10_areShaped pc = .ok (.ireturn, 1) → KJ (Rep D B shpC) A 5 0 0 Q p l e ({ frames := 1, cells := 0, slots := 0, locals := 21 } : Room) s m args below meth c 0 0 pc L [.int r] σ) w) : KJ (Rep D B shpC) A 5 0 0 Q p l e ({ frames := 1, cells := 0, slots := 0, locals := 21 } : Room) s m args below meth c 0 0 85 [some (.ref (B + 0)), some (.int a1), some (.int a2), some (.int a3), none] [] σ := by
  unfold fX10_areShaped_j85 at h
  refine k_iconst hF dX10_areShaped_85 ci_0 ?_
  exact he _ (Option.some.inj h).symm _ _ nar_0 dX10_areShaped_86
set_option maxHeartbeats 4000000 in
set_option maxRecDepth 100000 in
theorem wX10_areShaped_l3 {p : Program} {l : Launch} {e : Env} {s : State} {m : MethodId} {args : Array Value} {below : List Frame} {meth : Method} {c : Code} {Q : State → Prop} {A : Nat → Prop} {D : DD} {base B : Nat} (hF : KF D base cX10_areShaped RX10 A 5 0 0 p l e ({ frames := 1, cells := 0, slots := 0, locals := 21 } : Room) s m args below meth c) (hA : ∀ q, RA B shpC q → A q) (hbs : base ≤ B) {σ : St} {a1 : Int32} {a2 : Int32} {a3 : Int32} {x : Int32} {z : (Int32 ⊕ (Int32 ⊕ Int32))} (h : fX10_areShaped_l3 σ a1 a2 a3 x = some z) (hc : ∀ x, z = .inl x → KJ (Rep D B shpC) A 5 0 0 Q p l e ({ frames := 1, cells := 0, slots := 0, locals := 21 } : Room) s m args below meth c 0 0 3 [some (.ref (B + 0)), some (.int a1), some (.int a2), some (.int a3), some (.int x)] [] σ) (he : ∀ w, z = .inr w → Sum.elim (fun x => KJ (Rep D B shpC) A 5 0 0 Q p l e ({ frames := 1, cells := 0, slots := 0, locals := 21 } : Room) s m args below meth c 0 0 93 [some (.ref (B + 0)), some (.int a1), some (.int a2), some (.int a3), some (.int x)] [] σ) (fun r => ∀ (pc : Nat) (L : List (Option Value)), narrow .boolean (.int r) = .int r → decode cX10_areShaped pc = .ok (.ireturn, 1) → KJ (Rep D B shpC) A 5 0 0 Q p l e ({ frames := 1, cells := 0, slots := 0, locals := 21 } : Room) s m args below meth c 0 0 pc L [.int r] σ) w) : KJ (Rep D B shpC) A 5 0 0 Q p l e ({ frames := 1, cells := 0, slots := 0, locals := 21 } : Room) s m args below meth c 0 0 3 [some (.ref (B + 0)), some (.int a1), some (.int a2), some (.int a3), some (.int x)] [] σ := by
  unfold fX10_areShaped_l3 at h
  refine k_iload hF dX10_areShaped_3 rfl ?_
  refine k_aload_n hF dX10_areShaped_5 rfl ?_
  refine k_get hF (v := .ref (B + 10)) shC_0 fl_X10_26_X10 dX10_areShaped_6 rfl ?_
  refine k_get hF (v := .int (gi σ 10 2)) shC_10 fl_X10_130_X0 dX10_areShaped_9 rfl ?_
  refine k_icmp_ge hF (tgt := 93) dX10_areShaped_12 (by decide) (fun c1 => ?_) (fun c1 => ?_)
  · replace h := ite_t c1 h
    exact he _ (Option.some.inj h).symm
  · replace h := ite_f c1 h
    refine k_aload_n hF dX10_areShaped_15 rfl ?_
    refine k_get hF (v := .ref (B + 10)) shC_0 fl_X10_26_X10 dX10_areShaped_16 rfl ?_
    refine k_iload hF dX10_areShaped_19 rfl ?_
    obtain ⟨v2, hv2, h⟩ := bind_some h
    refine k_callU hF hA (as := [.int x]) (ct_X7_isThereE hbs hv2) mu_X10_163 shC_10 rfl rfl rfl ⟨Nat.le_of_ble_eq_true rfl, Nat.le_of_ble_eq_true rfl⟩ (Nat.le_of_ble_eq_true rfl) dX10_areShaped_21 ?_
    refine k_st (st2 := [.int v2]) rfl ?_
    refine k_if_eq hF (tgt := 87) dX10_areShaped_24 (by decide) (fun c3 => ?_) (fun c3 => ?_)
    · replace h := ite_t c3 h
      exact wX10_areShaped_j87 hF hA hbs h hc he
    · replace h := ite_f c3 h
      refine k_aload_n hF dX10_areShaped_27 rfl ?_
      refine k_get hF (v := .ref (B + 10)) shC_0 fl_X10_26_X10 dX10_areShaped_28 rfl ?_
      refine k_get hF (v := .ref (B + 14)) shC_10 fl_X10_421_X0 dX10_areShaped_31 rfl ?_
      refine k_iload hF dX10_areShaped_34 rfl ?_
      obtain ⟨g4, h⟩ := gd_some h
      refine k_iald hF shC_14 dX10_areShaped_36 g4 ?_
      refine k_iload_n hF dX10_areShaped_37 rfl ?_
      refine k_icmp_ne hF (tgt := 87) dX10_areShaped_38 (by decide) (fun c5 => ?_) (fun c5 => ?_)
      · replace h := ite_f c5 h
        exact wX10_areShaped_j87 hF hA hbs h hc he
      · replace h := ite_t c5 h
        refine k_aload_n hF dX10_areShaped_41 rfl ?_
        refine k_get hF (v := .ref (B + 1)) shC_0 fl_X10_19_X10 dX10_areShaped_42 rfl ?_
        refine k_get hF (v := .ref (B + 4)) shC_1 fl_X10_144_X6 dX10_areShaped_45 rfl ?_
        refine k_aload_n hF dX10_areShaped_48 rfl ?_
        refine k_get hF (v := .ref (B + 10)) shC_0 fl_X10_26_X10 dX10_areShaped_49 rfl ?_
        refine k_get hF (v := .ref (B + 13)) shC_10 fl_X10_167_X0 dX10_areShaped_52 rfl ?_
        refine k_iload hF dX10_areShaped_55 rfl ?_
        obtain ⟨g6, h⟩ := gd_some h
        refine k_iald hF shC_13 dX10_areShaped_57 g6 ?_
        obtain ⟨g7, h⟩ := gd_some h
        refine k_iald hF shC_4 dX10_areShaped_58 g7 ?_
        refine k_iload_n hF dX10_areShaped_59 rfl ?_
        refine k_icmp_ne hF (tgt := 85) dX10_areShaped_60 (by decide) (fun c8 => ?_) (fun c8 => ?_)
        · replace h := ite_f c8 h
          refine k_kill 4 rfl ?_
          exact wX10_areShaped_j85 hF hA hbs h hc he
        · replace h := ite_t c8 h
          refine k_aload_n hF dX10_areShaped_63 rfl ?_
          refine k_get hF (v := .ref (B + 1)) shC_0 fl_X10_19_X10 dX10_areShaped_64 rfl ?_
          refine k_get hF (v := .ref (B + 4)) shC_1 fl_X10_144_X6 dX10_areShaped_67 rfl ?_
          refine k_aload_n hF dX10_areShaped_70 rfl ?_
          refine k_get hF (v := .ref (B + 10)) shC_0 fl_X10_26_X10 dX10_areShaped_71 rfl ?_
          refine k_get hF (v := .ref (B + 15)) shC_10 fl_X10_170_X0 dX10_areShaped_74 rfl ?_
          refine k_iload hF dX10_areShaped_77 rfl ?_
          obtain ⟨g9, h⟩ := gd_some h
          refine k_iald hF shC_15 dX10_areShaped_79 g9 ?_
          obtain ⟨g10, h⟩ := gd_some h
          refine k_iald hF shC_4 dX10_areShaped_80 g10 ?_
          refine k_iload_n hF dX10_areShaped_81 rfl ?_
          refine k_icmp_eq hF (tgt := 87) dX10_areShaped_82 (by decide) (fun c11 => ?_) (fun c11 => ?_)
          · replace h := ite_t c11 h
            exact wX10_areShaped_j87 hF hA hbs h hc he
          · replace h := ite_f c11 h
            refine k_kill 4 rfl ?_
            exact wX10_areShaped_j85 hF hA hbs h hc he
set_option maxHeartbeats 4000000 in
set_option maxRecDepth 100000 in
theorem wX10_areShaped {p : Program} {l : Launch} {e : Env} {s : State} {m : MethodId} {args : Array Value} {below : List Frame} {meth : Method} {c : Code} {Q : State → Prop} {A : Nat → Prop} {D : DD} {base B : Nat} (hF : KF D base cX10_areShaped RX10 A 5 0 0 p l e ({ frames := 1, cells := 0, slots := 0, locals := 21 } : Room) s m args below meth c) (hA : ∀ q, RA B shpC q → A q) (hbs : base ≤ B) {σ : St} {a1 : Int32} {a2 : Int32} {a3 : Int32} {z : Int32} (h : fX10_areShaped σ a1 a2 a3 = some z) (hr : ∀ (pc : Nat) (L : List (Option Value)), narrow .boolean (.int z) = .int z → decode cX10_areShaped pc = .ok (.ireturn, 1) → KJ (Rep D B shpC) A 5 0 0 Q p l e ({ frames := 1, cells := 0, slots := 0, locals := 21 } : Room) s m args below meth c 0 0 pc L [.int z] σ) : KJ (Rep D B shpC) A 5 0 0 Q p l e ({ frames := 1, cells := 0, slots := 0, locals := 21 } : Room) s m args below meth c 0 0 0 [some (.ref (B + 0)), some (.int a1), some (.int a2), some (.int a3), none] [] σ := by
  unfold fX10_areShaped at h
  refine k_iconst hF dX10_areShaped_0 ci_0 ?_
  refine k_istore hF (L' := [some (.ref (B + 0)), some (.int a1), some (.int a2), some (.int a3), some (.int (0 : Int32))]) dX10_areShaped_1 (by decide) rfl ?_
  obtain ⟨x12, hx12, h⟩ := bind_some h
  refine k_loop (P := fun xq => KJ (Rep D B shpC) A 5 0 0 Q p l e ({ frames := 1, cells := 0, slots := 0, locals := 21 } : Room) s m args below meth c 0 0 3 [some (.ref (B + 0)), some (.int a1), some (.int a2), some (.int a3), some (.int xq)] [] σ) (C := fun wq => Sum.elim (fun xq => KJ (Rep D B shpC) A 5 0 0 Q p l e ({ frames := 1, cells := 0, slots := 0, locals := 21 } : Room) s m args below meth c 0 0 93 [some (.ref (B + 0)), some (.int a1), some (.int a2), some (.int a3), some (.int xq)] [] σ) (fun rq => ∀ (pc : Nat) (L : List (Option Value)), narrow .boolean (.int rq) = .int rq → decode cX10_areShaped pc = .ok (.ireturn, 1) → KJ (Rep D B shpC) A 5 0 0 Q p l e ({ frames := 1, cells := 0, slots := 0, locals := 21 } : Room) s m args below meth c 0 0 pc L [.int rq] σ) wq) (fun x z hz hc he => wX10_areShaped_l3 hF hA hbs hz hc he) hx12 ?_
  rcases x12 with x13 | r14
  · show KJ (Rep D B shpC) A 5 0 0 Q p l e ({ frames := 1, cells := 0, slots := 0, locals := 21 } : Room) s m args below meth c 0 0 93 [some (.ref (B + 0)), some (.int a1), some (.int a2), some (.int a3), some (.int x13)] [] σ
    replace h : _ = some z := h
    refine k_iconst hF dX10_areShaped_93 ci_1 ?_
    cases h
    exact hr _ _ nar_1 dX10_areShaped_94
  · replace h : some (r14) = some z := h
    cases h; exact hr
theorem ct_X10_areShaped {l : Launch} {D : DD} {base B : Nat} (hbs : base ≤ B) {σ : St} {a1 : Int32} {a2 : Int32} {a3 : Int32} {r : Int32} (h : fX10_areShaped σ a1 a2 a3 = some r) : MetR l D B shpC base yX10_areShaped cX10_areShaped 5 (some .boolean) 1 21 [.ref (B + 0), .int a1, .int a2, .int a3] σ (some (.int r)) σ :=
  MetR.of (by decide +kernel) (fun v hv => by simp only [List.mem_cons, List.not_mem_nil, or_false] at hv; rcases hv with rfl | rfl | rfl | rfl <;> rfl) (Nat.le_of_ble_eq_true rfl) hbs (fun p e s m args below meth c hF hr => wX10_areShaped hF (fun q hq => hq) hbs h (fun pc L hn hd => k_iret hF hr hn hd))
set_option maxHeartbeats 4000000 in
set_option maxRecDepth 100000 in
theorem wX10_shift {p : Program} {l : Launch} {e : Env} {s : State} {m : MethodId} {args : Array Value} {below : List Frame} {meth : Method} {c : Code} {Q : State → Prop} {A : Nat → Prop} {D : DD} {base B : Nat} (hF : KF D base cX10_shift RX10 A 1 0 0 p l e ({ frames := 4, cells := 0, slots := 0, locals := 98 } : Room) s m args below meth c) (hA : ∀ q, RA B shpC q → A q) (hbs : base ≤ B) {σ : St} {z : (Int32 × St)} (h : fX10_shift σ = some z) (hr : ∀ (pc : Nat) (L : List (Option Value)), narrow .int (.int z.1) = .int z.1 → decode cX10_shift pc = .ok (.ireturn, 1) → KJ (Rep D B shpC) A 1 0 0 Q p l e ({ frames := 4, cells := 0, slots := 0, locals := 98 } : Room) s m args below meth c 0 0 pc L [.int z.1] z.2) : KJ (Rep D B shpC) A 1 0 0 Q p l e ({ frames := 4, cells := 0, slots := 0, locals := 98 } : Room) s m args below meth c 0 0 0 [some (.ref (B + 0))] [] σ := by
  unfold fX10_shift at h
  refine k_aload_n hF dX10_shift_0 rfl ?_
  refine k_get hF (v := .ref (B + 20)) shC_0 fl_X10_44_X10 dX10_shift_1 rfl ?_
  obtain ⟨v1, hv1, h⟩ := bind_some h
  refine k_callV hF hA (as := []) (ct_X3_moveBest hbs hv1) mv_X10_206 shC_20 rfl rfl rfl ⟨Nat.le_of_ble_eq_true rfl, Nat.le_of_ble_eq_true rfl⟩ (Nat.le_of_ble_eq_true rfl) dX10_shift_4 ?_
  refine k_st (st2 := [.int v1.1]) rfl ?_
  cases h
  exact hr _ _ rfl dX10_shift_7
theorem ct_X10_shift {l : Launch} {D : DD} {base B : Nat} (hbs : base ≤ B) {σ : St} {r : (Int32 × St)} (h : fX10_shift σ = some r) : MetR l D B shpC base yX10_shift cX10_shift 1 (some .int) 4 98 [.ref (B + 0)] σ (some (.int r.1)) r.2 :=
  MetR.of (by decide +kernel) (fun v hv => by simp only [List.mem_cons, List.not_mem_nil, or_false] at hv; rcases hv with rfl <;> rfl) (Nat.le_of_ble_eq_true rfl) hbs (fun p e s m args below meth c hF hr => wX10_shift hF (fun q hq => hq) hbs h (fun pc L hn hd => k_iret hF hr hn hd))
set_option maxHeartbeats 4000000 in
set_option maxRecDepth 100000 in
theorem wX10_cut_j40 {p : Program} {l : Launch} {e : Env} {s : State} {m : MethodId} {args : Array Value} {below : List Frame} {meth : Method} {c : Code} {Q : State → Prop} {A : Nat → Prop} {D : DD} {base B : Nat} (hF : KF D base cX10_cut RX10 A 3 0 0 p l e ({ frames := 1, cells := 0, slots := 0, locals := 21 } : Room) s m args below meth c) (hA : ∀ q, RA B shpC q → A q) (hbs : base ≤ B) {σ : St} {b1 : Int32} {b2 : Int32} {z : ((Int32 × Int32) ⊕ (Int32 × Int32))} (h : fX10_cut_j40 σ b1 b2 = some z) (hc : ∀ x, z = .inl x → KJ (Rep D B shpC) A 3 0 0 Q p l e ({ frames := 1, cells := 0, slots := 0, locals := 21 } : Room) s m args below meth c 0 0 4 [some (.ref (B + 0)), some (.int x.1), some (.int x.2)] [] σ) (he : ∀ w, z = .inr w → KJ (Rep D B shpC) A 3 0 0 Q p l e ({ frames := 1, cells := 0, slots := 0, locals := 21 } : Room) s m args below meth c 0 0 46 [some (.ref (B + 0)), some (.int w.1), some (.int w.2)] [] σ) : KJ (Rep D B shpC) A 3 0 0 Q p l e ({ frames := 1, cells := 0, slots := 0, locals := 21 } : Room) s m args below meth c 0 0 40 [some (.ref (B + 0)), some (.int b1), some (.int b2)] [] σ := by
  unfold fX10_cut_j40 at h
  refine k_iinc hF (v := (b2 + (1 : Int32))) (L' := [some (.ref (B + 0)), some (.int b1), some (.int (b2 + (1 : Int32)))]) dX10_cut_40 rfl (by first | rfl | (congr 1)) (by decide) rfl ?_
  refine k_goto hF dX10_cut_43 (tgt := 4) (by decide) ?_
  exact hc _ (Option.some.inj h).symm
set_option maxHeartbeats 4000000 in
set_option maxRecDepth 100000 in
theorem wX10_cut_l4 {p : Program} {l : Launch} {e : Env} {s : State} {m : MethodId} {args : Array Value} {below : List Frame} {meth : Method} {c : Code} {Q : State → Prop} {A : Nat → Prop} {D : DD} {base B : Nat} (hF : KF D base cX10_cut RX10 A 3 0 0 p l e ({ frames := 1, cells := 0, slots := 0, locals := 21 } : Room) s m args below meth c) (hA : ∀ q, RA B shpC q → A q) (hbs : base ≤ B) {σ : St} {x : (Int32 × Int32)} {z : ((Int32 × Int32) ⊕ (Int32 × Int32))} (h : fX10_cut_l4 σ x = some z) (hc : ∀ x, z = .inl x → KJ (Rep D B shpC) A 3 0 0 Q p l e ({ frames := 1, cells := 0, slots := 0, locals := 21 } : Room) s m args below meth c 0 0 4 [some (.ref (B + 0)), some (.int x.1), some (.int x.2)] [] σ) (he : ∀ w, z = .inr w → KJ (Rep D B shpC) A 3 0 0 Q p l e ({ frames := 1, cells := 0, slots := 0, locals := 21 } : Room) s m args below meth c 0 0 46 [some (.ref (B + 0)), some (.int w.1), some (.int w.2)] [] σ) : KJ (Rep D B shpC) A 3 0 0 Q p l e ({ frames := 1, cells := 0, slots := 0, locals := 21 } : Room) s m args below meth c 0 0 4 [some (.ref (B + 0)), some (.int x.1), some (.int x.2)] [] σ := by
  unfold fX10_cut_l4 at h
  refine k_iload_n hF dX10_cut_4 rfl ?_
  refine k_aload_n hF dX10_cut_5 rfl ?_
  refine k_get hF (v := .ref (B + 10)) shC_0 fl_X10_26_X10 dX10_cut_6 rfl ?_
  refine k_get hF (v := .int (gi σ 10 2)) shC_10 fl_X10_130_X0 dX10_cut_9 rfl ?_
  refine k_icmp_ge hF (tgt := 46) dX10_cut_12 (by decide) (fun c1 => ?_) (fun c1 => ?_)
  · replace h := ite_t c1 h
    exact he _ (Option.some.inj h).symm
  · replace h := ite_f c1 h
    refine k_aload_n hF dX10_cut_15 rfl ?_
    refine k_get hF (v := .ref (B + 10)) shC_0 fl_X10_26_X10 dX10_cut_16 rfl ?_
    refine k_iload_n hF dX10_cut_19 rfl ?_
    obtain ⟨v2, hv2, h⟩ := bind_some h
    refine k_callU hF hA (as := [.int x.2]) (ct_X7_isThereE hbs hv2) mu_X10_163 shC_10 rfl rfl rfl ⟨Nat.le_of_ble_eq_true rfl, Nat.le_of_ble_eq_true rfl⟩ (Nat.le_of_ble_eq_true rfl) dX10_cut_20 ?_
    refine k_st (st2 := [.int v2]) rfl ?_
    refine k_if_eq hF (tgt := 40) dX10_cut_23 (by decide) (fun c3 => ?_) (fun c3 => ?_)
    · replace h := ite_t c3 h
      exact wX10_cut_j40 hF hA hbs h hc he
    · replace h := ite_f c3 h
      refine k_aload_n hF dX10_cut_26 rfl ?_
      refine k_get hF (v := .ref (B + 20)) shC_0 fl_X10_44_X10 dX10_cut_27 rfl ?_
      refine k_iload_n hF dX10_cut_30 rfl ?_
      obtain ⟨v4, hv4, h⟩ := bind_some h
      refine k_callV hF hA (as := [.int x.2]) (ct_X3_isCut hbs hv4) mv_X10_209 shC_20 rfl rfl rfl ⟨Nat.le_of_ble_eq_true rfl, Nat.le_of_ble_eq_true rfl⟩ (Nat.le_of_ble_eq_true rfl) dX10_cut_31 ?_
      refine k_st (st2 := [.int v4]) rfl ?_
      refine k_if_eq hF (tgt := 40) dX10_cut_34 (by decide) (fun c5 => ?_) (fun c5 => ?_)
      · replace h := ite_t c5 h
        exact wX10_cut_j40 hF hA hbs h hc he
      · replace h := ite_f c5 h
        refine k_iinc hF (v := (x.1 + (1 : Int32))) (L' := [some (.ref (B + 0)), some (.int (x.1 + (1 : Int32))), some (.int x.2)]) dX10_cut_37 rfl (by first | rfl | (congr 1)) (by decide) rfl ?_
        exact wX10_cut_j40 hF hA hbs h hc he
set_option maxHeartbeats 4000000 in
set_option maxRecDepth 100000 in
theorem wX10_cut {p : Program} {l : Launch} {e : Env} {s : State} {m : MethodId} {args : Array Value} {below : List Frame} {meth : Method} {c : Code} {Q : State → Prop} {A : Nat → Prop} {D : DD} {base B : Nat} (hF : KF D base cX10_cut RX10 A 3 0 0 p l e ({ frames := 1, cells := 0, slots := 0, locals := 21 } : Room) s m args below meth c) (hA : ∀ q, RA B shpC q → A q) (hbs : base ≤ B) {σ : St} {z : Int32} (h : fX10_cut σ = some z) (hr : ∀ (pc : Nat) (L : List (Option Value)), narrow .int (.int z) = .int z → decode cX10_cut pc = .ok (.ireturn, 1) → KJ (Rep D B shpC) A 3 0 0 Q p l e ({ frames := 1, cells := 0, slots := 0, locals := 21 } : Room) s m args below meth c 0 0 pc L [.int z] σ) : KJ (Rep D B shpC) A 3 0 0 Q p l e ({ frames := 1, cells := 0, slots := 0, locals := 21 } : Room) s m args below meth c 0 0 0 [some (.ref (B + 0)), none, none] [] σ := by
  unfold fX10_cut at h
  refine k_iconst hF dX10_cut_0 ci_0 ?_
  refine k_istore_n hF (L' := [some (.ref (B + 0)), some (.int (0 : Int32)), none]) dX10_cut_1 (by decide) rfl ?_
  refine k_iconst hF dX10_cut_2 ci_0 ?_
  refine k_istore_n hF (L' := [some (.ref (B + 0)), some (.int (0 : Int32)), some (.int (0 : Int32))]) dX10_cut_3 (by decide) rfl ?_
  obtain ⟨x6, hx6, h⟩ := bind_some h
  refine k_loop (P := fun xq => KJ (Rep D B shpC) A 3 0 0 Q p l e ({ frames := 1, cells := 0, slots := 0, locals := 21 } : Room) s m args below meth c 0 0 4 [some (.ref (B + 0)), some (.int xq.1), some (.int xq.2)] [] σ) (C := fun xq => KJ (Rep D B shpC) A 3 0 0 Q p l e ({ frames := 1, cells := 0, slots := 0, locals := 21 } : Room) s m args below meth c 0 0 46 [some (.ref (B + 0)), some (.int xq.1), some (.int xq.2)] [] σ) (fun x z hz hc he => wX10_cut_l4 hF hA hbs hz hc he) hx6 ?_
  show KJ (Rep D B shpC) A 3 0 0 Q p l e ({ frames := 1, cells := 0, slots := 0, locals := 21 } : Room) s m args below meth c 0 0 46 [some (.ref (B + 0)), some (.int x6.1), some (.int x6.2)] [] σ
  refine k_iload_n hF dX10_cut_46 rfl ?_
  cases h
  exact hr _ _ rfl dX10_cut_47
theorem ct_X10_cut {l : Launch} {D : DD} {base B : Nat} (hbs : base ≤ B) {σ : St} {r : Int32} (h : fX10_cut σ = some r) : MetR l D B shpC base yX10_cut cX10_cut 3 (some .int) 1 21 [.ref (B + 0)] σ (some (.int r)) σ :=
  MetR.of (by decide +kernel) (fun v hv => by simp only [List.mem_cons, List.not_mem_nil, or_false] at hv; rcases hv with rfl <;> rfl) (Nat.le_of_ble_eq_true rfl) hbs (fun p e s m args below meth c hF hr => wX10_cut hF (fun q hq => hq) hbs h (fun pc L hn hd => k_iret hF hr hn hd))
set_option maxHeartbeats 4000000 in
set_option maxRecDepth 100000 in
theorem wX10_clashes_j59 {p : Program} {l : Launch} {e : Env} {s : State} {m : MethodId} {args : Array Value} {below : List Frame} {meth : Method} {c : Code} {Q : State → Prop} {A : Nat → Prop} {D : DD} {base B : Nat} (hF : KF D base cX10_clashes RX10 A 4 0 0 p l e ({ frames := 2, cells := 0, slots := 0, locals := 44 } : Room) s m args below meth c) (hA : ∀ q, RA B shpC q → A q) (hbs : base ≤ B) {σ : St} {u1 : Nat} (q1 : u1 < 4) {ea2 : Int32} {b3 : Int32} {z : (Int32 ⊕ (Int32 ⊕ Int32))} (h : fX10_clashes_j59 σ u1 ea2 b3 = some z) (hc : ∀ x, z = .inl x → KJ (Rep D B shpC) A 4 0 0 Q p l e ({ frames := 2, cells := 0, slots := 0, locals := 44 } : Room) s m args below meth c 0 0 11 [some (.ref (B + 0)), some (.ref (B + (57 + 5 * u1))), some (.int ea2), some (.int x)] [] σ) (he : ∀ w, z = .inr w → Sum.elim (fun x => KJ (Rep D B shpC) A 4 0 0 Q p l e ({ frames := 2, cells := 0, slots := 0, locals := 44 } : Room) s m args below meth c 0 0 65 [some (.ref (B + 0)), some (.ref (B + (57 + 5 * u1))), some (.int ea2), some (.int x)] [] σ) (fun r => ∀ (pc : Nat) (L : List (Option Value)), narrow .boolean (.int r) = .int r → decode cX10_clashes pc = .ok (.ireturn, 1) → KJ (Rep D B shpC) A 4 0 0 Q p l e ({ frames := 2, cells := 0, slots := 0, locals := 44 } : Room) s m args below meth c 0 0 pc L [.int r] σ) w) : KJ (Rep D B shpC) A 4 0 0 Q p l e ({ frames := 2, cells := 0, slots := 0, locals := 44 } : Room) s m args below meth c 0 0 59 [some (.ref (B + 0)), some (.ref (B + (57 + 5 * u1))), some (.int ea2), some (.int b3)] [] σ := by
  unfold fX10_clashes_j59 at h
  refine k_iinc hF (v := (b3 + (1 : Int32))) (L' := [some (.ref (B + 0)), some (.ref (B + (57 + 5 * u1))), some (.int ea2), some (.int (b3 + (1 : Int32)))]) dX10_clashes_59 rfl (by first | rfl | (congr 1)) (by decide) rfl ?_
  refine k_goto hF dX10_clashes_62 (tgt := 11) (by decide) ?_
  exact hc _ (Option.some.inj h).symm
set_option maxHeartbeats 4000000 in
set_option maxRecDepth 100000 in
theorem wX10_clashes_j57 {p : Program} {l : Launch} {e : Env} {s : State} {m : MethodId} {args : Array Value} {below : List Frame} {meth : Method} {c : Code} {Q : State → Prop} {A : Nat → Prop} {D : DD} {base B : Nat} (hF : KF D base cX10_clashes RX10 A 4 0 0 p l e ({ frames := 2, cells := 0, slots := 0, locals := 44 } : Room) s m args below meth c) (hA : ∀ q, RA B shpC q → A q) (hbs : base ≤ B) {σ : St} {u1 : Nat} (q1 : u1 < 4) {ea2 : Int32} {z : (Int32 ⊕ (Int32 ⊕ Int32))} (h : fX10_clashes_j57 σ u1 ea2 = some z) (hc : ∀ x, z = .inl x → KJ (Rep D B shpC) A 4 0 0 Q p l e ({ frames := 2, cells := 0, slots := 0, locals := 44 } : Room) s m args below meth c 0 0 11 [some (.ref (B + 0)), some (.ref (B + (57 + 5 * u1))), some (.int ea2), some (.int x)] [] σ) (he : ∀ w, z = .inr w → Sum.elim (fun x => KJ (Rep D B shpC) A 4 0 0 Q p l e ({ frames := 2, cells := 0, slots := 0, locals := 44 } : Room) s m args below meth c 0 0 65 [some (.ref (B + 0)), some (.ref (B + (57 + 5 * u1))), some (.int ea2), some (.int x)] [] σ) (fun r => ∀ (pc : Nat) (L : List (Option Value)), narrow .boolean (.int r) = .int r → decode cX10_clashes pc = .ok (.ireturn, 1) → KJ (Rep D B shpC) A 4 0 0 Q p l e ({ frames := 2, cells := 0, slots := 0, locals := 44 } : Room) s m args below meth c 0 0 pc L [.int r] σ) w) : KJ (Rep D B shpC) A 4 0 0 Q p l e ({ frames := 2, cells := 0, slots := 0, locals := 44 } : Room) s m args below meth c 0 0 57 [some (.ref (B + 0)), some (.ref (B + (57 + 5 * u1))), none, none] [] σ := by
  unfold fX10_clashes_j57 at h
  refine k_iconst hF dX10_clashes_57 ci_1 ?_
  exact he _ (Option.some.inj h).symm _ _ nar_1 dX10_clashes_58
set_option maxHeartbeats 4000000 in
set_option maxRecDepth 100000 in
theorem wX10_clashes_l11 {p : Program} {l : Launch} {e : Env} {s : State} {m : MethodId} {args : Array Value} {below : List Frame} {meth : Method} {c : Code} {Q : State → Prop} {A : Nat → Prop} {D : DD} {base B : Nat} (hF : KF D base cX10_clashes RX10 A 4 0 0 p l e ({ frames := 2, cells := 0, slots := 0, locals := 44 } : Room) s m args below meth c) (hA : ∀ q, RA B shpC q → A q) (hbs : base ≤ B) {σ : St} {u1 : Nat} (q1 : u1 < 4) {ea2 : Int32} {x : Int32} {z : (Int32 ⊕ (Int32 ⊕ Int32))} (h : fX10_clashes_l11 σ u1 ea2 x = some z) (hc : ∀ x, z = .inl x → KJ (Rep D B shpC) A 4 0 0 Q p l e ({ frames := 2, cells := 0, slots := 0, locals := 44 } : Room) s m args below meth c 0 0 11 [some (.ref (B + 0)), some (.ref (B + (57 + 5 * u1))), some (.int ea2), some (.int x)] [] σ) (he : ∀ w, z = .inr w → Sum.elim (fun x => KJ (Rep D B shpC) A 4 0 0 Q p l e ({ frames := 2, cells := 0, slots := 0, locals := 44 } : Room) s m args below meth c 0 0 65 [some (.ref (B + 0)), some (.ref (B + (57 + 5 * u1))), some (.int ea2), some (.int x)] [] σ) (fun r => ∀ (pc : Nat) (L : List (Option Value)), narrow .boolean (.int r) = .int r → decode cX10_clashes pc = .ok (.ireturn, 1) → KJ (Rep D B shpC) A 4 0 0 Q p l e ({ frames := 2, cells := 0, slots := 0, locals := 44 } : Room) s m args below meth c 0 0 pc L [.int r] σ) w) : KJ (Rep D B shpC) A 4 0 0 Q p l e ({ frames := 2, cells := 0, slots := 0, locals := 44 } : Room) s m args below meth c 0 0 11 [some (.ref (B + 0)), some (.ref (B + (57 + 5 * u1))), some (.int ea2), some (.int x)] [] σ := by
  unfold fX10_clashes_l11 at h
  refine k_iload_n hF dX10_clashes_11 rfl ?_
  refine k_aload_n hF dX10_clashes_12 rfl ?_
  refine k_get hF (v := .ref (B + 1)) shC_0 fl_X10_19_X10 dX10_clashes_13 rfl ?_
  refine k_get hF (v := .int (gi σ 1 2)) shC_1 fl_X10_95_X6 dX10_clashes_16 rfl ?_
  refine k_icmp_ge hF (tgt := 65) dX10_clashes_19 (by decide) (fun c2 => ?_) (fun c2 => ?_)
  · replace h := ite_t c2 h
    exact he _ (Option.some.inj h).symm
  · replace h := ite_f c2 h
    refine k_iload_n hF dX10_clashes_22 rfl ?_
    refine k_iload_n hF dX10_clashes_23 rfl ?_
    obtain ⟨v3, hv3, h⟩ := bind_some h
    refine k_callS hF hA (as := [.int ea2, .int x]) (ct_X10_has hbs hv3) ms_X10_268 rfl rfl ⟨Nat.le_of_ble_eq_true rfl, Nat.le_of_ble_eq_true rfl⟩ (Nat.le_of_ble_eq_true rfl) dX10_clashes_24 ?_
    refine k_st (st2 := [.int v3]) rfl ?_
    refine k_if_eq hF (tgt := 59) dX10_clashes_27 (by decide) (fun c4 => ?_) (fun c4 => ?_)
    · replace h := ite_t c4 h
      exact wX10_clashes_j59 hF hA hbs q1 h hc he
    · replace h := ite_f c4 h
      refine k_aload_n hF dX10_clashes_30 rfl ?_
      refine k_get hF (v := .ref (B + 1)) shC_0 fl_X10_19_X10 dX10_clashes_31 rfl ?_
      refine k_get hF (v := .ref (B + 6)) shC_1 fl_X10_413_X6 dX10_clashes_34 rfl ?_
      refine k_iload_n hF dX10_clashes_37 rfl ?_
      obtain ⟨g5, h⟩ := gd_some h
      refine k_iald hF shC_6 dX10_clashes_38 g5 ?_
      refine k_aload_n hF dX10_clashes_39 rfl ?_
      refine k_get hF (v := .int (gi σ (57 + 5 * u1) 5)) (shC_TR u1 q1) fl_X10_247_X9 dX10_clashes_40 rfl ?_
      refine k_icmp_gt hF (tgt := 57) dX10_clashes_43 (by decide) (fun c6 => ?_) (fun c6 => ?_)
      · replace h := ite_t c6 h
        refine k_kill 2 rfl ?_
        refine k_kill 3 rfl ?_
        exact wX10_clashes_j57 hF hA hbs q1 h hc he
      · replace h := ite_f c6 h
        refine k_aload_n hF dX10_clashes_46 rfl ?_
        refine k_get hF (v := .ref (B + 1)) shC_0 fl_X10_19_X10 dX10_clashes_47 rfl ?_
        refine k_iload_n hF dX10_clashes_50 rfl ?_
        obtain ⟨v7, hv7, h⟩ := bind_some h
        refine k_callU hF hA (as := [.int x]) (ct_X7_isThereN hbs hv7) mu_X10_395 shC_1 rfl rfl rfl ⟨Nat.le_of_ble_eq_true rfl, Nat.le_of_ble_eq_true rfl⟩ (Nat.le_of_ble_eq_true rfl) dX10_clashes_51 ?_
        refine k_st (st2 := [.int v7]) rfl ?_
        refine k_if_ne hF (tgt := 59) dX10_clashes_54 (by decide) (fun c8 => ?_) (fun c8 => ?_)
        · replace h := ite_f c8 h
          exact wX10_clashes_j59 hF hA hbs q1 h hc he
        · replace h := ite_t c8 h
          refine k_kill 2 rfl ?_
          refine k_kill 3 rfl ?_
          exact wX10_clashes_j57 hF hA hbs q1 h hc he
set_option maxHeartbeats 4000000 in
set_option maxRecDepth 100000 in
theorem wX10_clashes {p : Program} {l : Launch} {e : Env} {s : State} {m : MethodId} {args : Array Value} {below : List Frame} {meth : Method} {c : Code} {Q : State → Prop} {A : Nat → Prop} {D : DD} {base B : Nat} (hF : KF D base cX10_clashes RX10 A 4 0 0 p l e ({ frames := 2, cells := 0, slots := 0, locals := 44 } : Room) s m args below meth c) (hA : ∀ q, RA B shpC q → A q) (hbs : base ≤ B) {σ : St} {u1 : Nat} (q1 : u1 < 4) {z : Int32} (h : fX10_clashes σ u1 = some z) (hr : ∀ (pc : Nat) (L : List (Option Value)), narrow .boolean (.int z) = .int z → decode cX10_clashes pc = .ok (.ireturn, 1) → KJ (Rep D B shpC) A 4 0 0 Q p l e ({ frames := 2, cells := 0, slots := 0, locals := 44 } : Room) s m args below meth c 0 0 pc L [.int z] σ) : KJ (Rep D B shpC) A 4 0 0 Q p l e ({ frames := 2, cells := 0, slots := 0, locals := 44 } : Room) s m args below meth c 0 0 0 [some (.ref (B + 0)), some (.ref (B + (57 + 5 * u1))), none, none] [] σ := by
  unfold fX10_clashes at h
  refine k_aload_n hF dX10_clashes_0 rfl ?_
  refine k_aload_n hF dX10_clashes_1 rfl ?_
  refine k_get hF (v := .ref (B + 10)) shC_0 fl_X10_26_X10 dX10_clashes_2 rfl ?_
  obtain ⟨v1, hv1, h⟩ := bind_some h
  refine k_callV hF hA (as := [.ref (B + 10)]) (ct_X9_touching hbs q1 hv1) mv_X10_422 (shC_TR u1 q1) rfl rfl rfl ⟨Nat.le_of_ble_eq_true rfl, Nat.le_of_ble_eq_true rfl⟩ (Nat.le_of_ble_eq_true rfl) dX10_clashes_5 ?_
  refine k_st (st2 := [.int v1]) rfl ?_
  refine k_istore_n hF (L' := [some (.ref (B + 0)), some (.ref (B + (57 + 5 * u1))), some (.int v1), none]) dX10_clashes_8 (by decide) rfl ?_
  refine k_iconst hF dX10_clashes_9 ci_0 ?_
  refine k_istore_n hF (L' := [some (.ref (B + 0)), some (.ref (B + (57 + 5 * u1))), some (.int v1), some (.int (0 : Int32))]) dX10_clashes_10 (by decide) rfl ?_
  obtain ⟨x9, hx9, h⟩ := bind_some h
  refine k_loop (P := fun xq => KJ (Rep D B shpC) A 4 0 0 Q p l e ({ frames := 2, cells := 0, slots := 0, locals := 44 } : Room) s m args below meth c 0 0 11 [some (.ref (B + 0)), some (.ref (B + (57 + 5 * u1))), some (.int v1), some (.int xq)] [] σ) (C := fun wq => Sum.elim (fun xq => KJ (Rep D B shpC) A 4 0 0 Q p l e ({ frames := 2, cells := 0, slots := 0, locals := 44 } : Room) s m args below meth c 0 0 65 [some (.ref (B + 0)), some (.ref (B + (57 + 5 * u1))), some (.int v1), some (.int xq)] [] σ) (fun rq => ∀ (pc : Nat) (L : List (Option Value)), narrow .boolean (.int rq) = .int rq → decode cX10_clashes pc = .ok (.ireturn, 1) → KJ (Rep D B shpC) A 4 0 0 Q p l e ({ frames := 2, cells := 0, slots := 0, locals := 44 } : Room) s m args below meth c 0 0 pc L [.int rq] σ) wq) (fun x z hz hc he => wX10_clashes_l11 hF hA hbs q1 hz hc he) hx9 ?_
  rcases x9 with x10 | r11
  · show KJ (Rep D B shpC) A 4 0 0 Q p l e ({ frames := 2, cells := 0, slots := 0, locals := 44 } : Room) s m args below meth c 0 0 65 [some (.ref (B + 0)), some (.ref (B + (57 + 5 * u1))), some (.int v1), some (.int x10)] [] σ
    replace h : _ = some z := h
    refine k_iconst hF dX10_clashes_65 ci_0 ?_
    cases h
    exact hr _ _ nar_0 dX10_clashes_66
  · replace h : some (r11) = some z := h
    cases h; exact hr
theorem ct_X10_clashes {l : Launch} {D : DD} {base B : Nat} (hbs : base ≤ B) {σ : St} {u1 : Nat} (q1 : u1 < 4) {r : Int32} (h : fX10_clashes σ u1 = some r) : MetR l D B shpC base yX10_clashes cX10_clashes 4 (some .boolean) 2 44 [.ref (B + 0), .ref (B + (57 + 5 * u1))] σ (some (.int r)) σ :=
  MetR.of (by decide +kernel) (fun v hv => by simp only [List.mem_cons, List.not_mem_nil, or_false] at hv; rcases hv with rfl | rfl <;> rfl) (Nat.le_of_ble_eq_true rfl) hbs (fun p e s m args below meth c hF hr => wX10_clashes hF (fun q hq => hq) hbs q1 h (fun pc L hn hd => k_iret hF hr hn hd))
set_option maxHeartbeats 4000000 in
set_option maxRecDepth 100000 in
theorem wX10_breaksShape_l2 {p : Program} {l : Launch} {e : Env} {s : State} {m : MethodId} {args : Array Value} {below : List Frame} {meth : Method} {c : Code} {Q : State → Prop} {A : Nat → Prop} {D : DD} {base B : Nat} (hF : KF D base cX10_breaksShape RX10 A 3 0 0 p l e ({ frames := 1, cells := 0, slots := 0, locals := 23 } : Room) s m args below meth c) (hA : ∀ q, RA B shpC q → A q) (hbs : base ≤ B) {σ : St} {u1 : Nat} (q1 : u1 < 4) {x : Int32} {z : (Int32 ⊕ (Int32 ⊕ Int32))} (h : fX10_breaksShape_l2 σ u1 x = some z) (hc : ∀ x, z = .inl x → KJ (Rep D B shpC) A 3 0 0 Q p l e ({ frames := 1, cells := 0, slots := 0, locals := 23 } : Room) s m args below meth c 0 0 2 [some (.ref (B + 0)), some (.ref (B + (57 + 5 * u1))), some (.int x)] [] σ) (he : ∀ w, z = .inr w → Sum.elim (fun x => KJ (Rep D B shpC) A 3 0 0 Q p l e ({ frames := 1, cells := 0, slots := 0, locals := 23 } : Room) s m args below meth c 0 0 46 [some (.ref (B + 0)), some (.ref (B + (57 + 5 * u1))), some (.int x)] [] σ) (fun r => ∀ (pc : Nat) (L : List (Option Value)), narrow .boolean (.int r) = .int r → decode cX10_breaksShape pc = .ok (.ireturn, 1) → KJ (Rep D B shpC) A 3 0 0 Q p l e ({ frames := 1, cells := 0, slots := 0, locals := 23 } : Room) s m args below meth c 0 0 pc L [.int r] σ) w) : KJ (Rep D B shpC) A 3 0 0 Q p l e ({ frames := 1, cells := 0, slots := 0, locals := 23 } : Room) s m args below meth c 0 0 2 [some (.ref (B + 0)), some (.ref (B + (57 + 5 * u1))), some (.int x)] [] σ := by
  unfold fX10_breaksShape_l2 at h
  refine k_iload_n hF dX10_breaksShape_2 rfl ?_
  refine k_aload_n hF dX10_breaksShape_3 rfl ?_
  refine k_get hF (v := .int (gi σ (57 + 5 * u1) 7)) (shC_TR u1 q1) fl_X10_236_X9 dX10_breaksShape_4 rfl ?_
  refine k_icmp_ge hF (tgt := 46) dX10_breaksShape_7 (by decide) (fun c1 => ?_) (fun c1 => ?_)
  · replace h := ite_t c1 h
    exact he _ (Option.some.inj h).symm
  · replace h := ite_f c1 h
    refine k_aload_n hF dX10_breaksShape_10 rfl ?_
    refine k_get hF (v := .ref (B + 16)) shC_0 fl_X10_35_X10 dX10_breaksShape_11 rfl ?_
    refine k_aload_n hF dX10_breaksShape_14 rfl ?_
    refine k_get hF (v := .ref (B + (59 + 5 * u1))) (shC_TR u1 q1) fl_X10_432_X9 dX10_breaksShape_15 rfl ?_
    refine k_iload_n hF dX10_breaksShape_18 rfl ?_
    obtain ⟨g2, h⟩ := gd_some h
    refine k_iald hF (shC_TR_1 u1 q1) dX10_breaksShape_19 g2 ?_
    refine k_aload_n hF dX10_breaksShape_20 rfl ?_
    refine k_get hF (v := .ref (B + (60 + 5 * u1))) (shC_TR u1 q1) fl_X10_433_X9 dX10_breaksShape_21 rfl ?_
    refine k_iload_n hF dX10_breaksShape_24 rfl ?_
    obtain ⟨g3, h⟩ := gd_some h
    refine k_iald hF (shC_TR_2 u1 q1) dX10_breaksShape_25 g3 ?_
    refine k_aload_n hF dX10_breaksShape_26 rfl ?_
    refine k_get hF (v := .ref (B + (61 + 5 * u1))) (shC_TR u1 q1) fl_X10_434_X9 dX10_breaksShape_27 rfl ?_
    refine k_iload_n hF dX10_breaksShape_30 rfl ?_
    obtain ⟨g4, h⟩ := gd_some h
    refine k_iald hF (shC_TR_3 u1 q1) dX10_breaksShape_31 g4 ?_
    obtain ⟨v5, hv5, h⟩ := bind_some h
    refine k_callV hF hA (as := [.int (gi σ (59 + 5 * u1) x.toNatClampNeg), .int (gi σ (60 + 5 * u1) x.toNatClampNeg), .int (gi σ (61 + 5 * u1) x.toNatClampNeg)]) (ct_X2_isAllowed hbs hv5) mv_X10_133 shC_16 rfl rfl rfl ⟨Nat.le_of_ble_eq_true rfl, Nat.le_of_ble_eq_true rfl⟩ (Nat.le_of_ble_eq_true rfl) dX10_breaksShape_32 ?_
    refine k_st (st2 := [.int v5]) rfl ?_
    refine k_if_ne hF (tgt := 40) dX10_breaksShape_35 (by decide) (fun c6 => ?_) (fun c6 => ?_)
    · replace h := ite_f c6 h
      refine k_iinc hF (v := (x + (1 : Int32))) (L' := [some (.ref (B + 0)), some (.ref (B + (57 + 5 * u1))), some (.int (x + (1 : Int32)))]) dX10_breaksShape_40 rfl (by first | rfl | (congr 1)) (by decide) rfl ?_
      refine k_goto hF dX10_breaksShape_43 (tgt := 2) (by decide) ?_
      exact hc _ (Option.some.inj h).symm
    · replace h := ite_t c6 h
      refine k_iconst hF dX10_breaksShape_38 ci_1 ?_
      exact he _ (Option.some.inj h).symm _ _ nar_1 dX10_breaksShape_39
set_option maxHeartbeats 4000000 in
set_option maxRecDepth 100000 in
theorem wX10_breaksShape {p : Program} {l : Launch} {e : Env} {s : State} {m : MethodId} {args : Array Value} {below : List Frame} {meth : Method} {c : Code} {Q : State → Prop} {A : Nat → Prop} {D : DD} {base B : Nat} (hF : KF D base cX10_breaksShape RX10 A 3 0 0 p l e ({ frames := 1, cells := 0, slots := 0, locals := 23 } : Room) s m args below meth c) (hA : ∀ q, RA B shpC q → A q) (hbs : base ≤ B) {σ : St} {u1 : Nat} (q1 : u1 < 4) {z : Int32} (h : fX10_breaksShape σ u1 = some z) (hr : ∀ (pc : Nat) (L : List (Option Value)), narrow .boolean (.int z) = .int z → decode cX10_breaksShape pc = .ok (.ireturn, 1) → KJ (Rep D B shpC) A 3 0 0 Q p l e ({ frames := 1, cells := 0, slots := 0, locals := 23 } : Room) s m args below meth c 0 0 pc L [.int z] σ) : KJ (Rep D B shpC) A 3 0 0 Q p l e ({ frames := 1, cells := 0, slots := 0, locals := 23 } : Room) s m args below meth c 0 0 0 [some (.ref (B + 0)), some (.ref (B + (57 + 5 * u1))), none] [] σ := by
  unfold fX10_breaksShape at h
  refine k_iconst hF dX10_breaksShape_0 ci_0 ?_
  refine k_istore_n hF (L' := [some (.ref (B + 0)), some (.ref (B + (57 + 5 * u1))), some (.int (0 : Int32))]) dX10_breaksShape_1 (by decide) rfl ?_
  obtain ⟨x7, hx7, h⟩ := bind_some h
  refine k_loop (P := fun xq => KJ (Rep D B shpC) A 3 0 0 Q p l e ({ frames := 1, cells := 0, slots := 0, locals := 23 } : Room) s m args below meth c 0 0 2 [some (.ref (B + 0)), some (.ref (B + (57 + 5 * u1))), some (.int xq)] [] σ) (C := fun wq => Sum.elim (fun xq => KJ (Rep D B shpC) A 3 0 0 Q p l e ({ frames := 1, cells := 0, slots := 0, locals := 23 } : Room) s m args below meth c 0 0 46 [some (.ref (B + 0)), some (.ref (B + (57 + 5 * u1))), some (.int xq)] [] σ) (fun rq => ∀ (pc : Nat) (L : List (Option Value)), narrow .boolean (.int rq) = .int rq → decode cX10_breaksShape pc = .ok (.ireturn, 1) → KJ (Rep D B shpC) A 3 0 0 Q p l e ({ frames := 1, cells := 0, slots := 0, locals := 23 } : Room) s m args below meth c 0 0 pc L [.int rq] σ) wq) (fun x z hz hc he => wX10_breaksShape_l2 hF hA hbs q1 hz hc he) hx7 ?_
  rcases x7 with x8 | r9
  · show KJ (Rep D B shpC) A 3 0 0 Q p l e ({ frames := 1, cells := 0, slots := 0, locals := 23 } : Room) s m args below meth c 0 0 46 [some (.ref (B + 0)), some (.ref (B + (57 + 5 * u1))), some (.int x8)] [] σ
    replace h : _ = some z := h
    refine k_iconst hF dX10_breaksShape_46 ci_0 ?_
    cases h
    exact hr _ _ nar_0 dX10_breaksShape_47
  · replace h : some (r9) = some z := h
    cases h; exact hr
theorem ct_X10_breaksShape {l : Launch} {D : DD} {base B : Nat} (hbs : base ≤ B) {σ : St} {u1 : Nat} (q1 : u1 < 4) {r : Int32} (h : fX10_breaksShape σ u1 = some r) : MetR l D B shpC base yX10_breaksShape cX10_breaksShape 3 (some .boolean) 1 23 [.ref (B + 0), .ref (B + (57 + 5 * u1))] σ (some (.int r)) σ :=
  MetR.of (by decide +kernel) (fun v hv => by simp only [List.mem_cons, List.not_mem_nil, or_false] at hv; rcases hv with rfl | rfl <;> rfl) (Nat.le_of_ble_eq_true rfl) hbs (fun p e s m args below meth c hF hr => wX10_breaksShape hF (fun q hq => hq) hbs q1 h (fun pc L hn hd => k_iret hF hr hn hd))
set_option maxHeartbeats 4000000 in
set_option maxRecDepth 100000 in
theorem wX10_breaksKey_j47 {p : Program} {l : Launch} {e : Env} {s : State} {m : MethodId} {args : Array Value} {below : List Frame} {meth : Method} {c : Code} {Q : State → Prop} {A : Nat → Prop} {D : DD} {base B : Nat} (hF : KF D base cX10_breaksKey RX10 A 3 0 0 p l e ({ frames := 3, cells := 0, slots := 0, locals := 69 } : Room) s m args below meth c) (hA : ∀ q, RA B shpC q → A q) (hbs : base ≤ B) {σ : St} {u1 : Nat} (q1 : u1 < 4) {b2 : Int32} {t0 : Int32} {t1 : Int32} {z : ((St × Int32) ⊕ (St × Int32))} (h : fX10_breaksKey_j47 σ u1 b2 t0 t1 = some z) (hc : ∀ x, z = .inl x → KJ (Rep D B shpC) A 3 0 0 Q p l e ({ frames := 3, cells := 0, slots := 0, locals := 69 } : Room) s m args below meth c 0 0 2 [some (.ref (B + 0)), some (.ref (B + (57 + 5 * u1))), some (.int x.2)] [] x.1) (he : ∀ w, z = .inr w → KJ (Rep D B shpC) A 3 0 0 Q p l e ({ frames := 3, cells := 0, slots := 0, locals := 69 } : Room) s m args below meth c 0 0 54 [some (.ref (B + 0)), some (.ref (B + (57 + 5 * u1))), some (.int w.2)] [] w.1) : KJ (Rep D B shpC) A 3 0 0 Q p l e ({ frames := 3, cells := 0, slots := 0, locals := 69 } : Room) s m args below meth c 0 0 47 [some (.ref (B + 0)), some (.ref (B + (57 + 5 * u1))), some (.int b2)] [.int t0, .int t1, .ref (B + 120)] σ := by
  unfold fX10_breaksKey_j47 at h
  obtain ⟨g5, h⟩ := gd_some h
  refine k_iast hF hA shC_120 dX10_breaksKey_47 g5 ?_
  obtain ⟨σ6, hσ6, h⟩ := lt_some h
  refine k_sig hσ6 ?_
  refine k_iinc hF (v := (b2 + (1 : Int32))) (L' := [some (.ref (B + 0)), some (.ref (B + (57 + 5 * u1))), some (.int (b2 + (1 : Int32)))]) dX10_breaksKey_48 rfl (by first | rfl | (congr 1)) (by decide) rfl ?_
  refine k_goto hF dX10_breaksKey_51 (tgt := 2) (by decide) ?_
  exact hc _ (Option.some.inj h).symm
set_option maxHeartbeats 4000000 in
set_option maxRecDepth 100000 in
theorem wX10_breaksKey_l2 {p : Program} {l : Launch} {e : Env} {s : State} {m : MethodId} {args : Array Value} {below : List Frame} {meth : Method} {c : Code} {Q : State → Prop} {A : Nat → Prop} {D : DD} {base B : Nat} (hF : KF D base cX10_breaksKey RX10 A 3 0 0 p l e ({ frames := 3, cells := 0, slots := 0, locals := 69 } : Room) s m args below meth c) (hA : ∀ q, RA B shpC q → A q) (hbs : base ≤ B) {σ : St} {u1 : Nat} (q1 : u1 < 4) {x : (St × Int32)} {z : ((St × Int32) ⊕ (St × Int32))} (h : fX10_breaksKey_l2 σ u1 x = some z) (hc : ∀ x, z = .inl x → KJ (Rep D B shpC) A 3 0 0 Q p l e ({ frames := 3, cells := 0, slots := 0, locals := 69 } : Room) s m args below meth c 0 0 2 [some (.ref (B + 0)), some (.ref (B + (57 + 5 * u1))), some (.int x.2)] [] x.1) (he : ∀ w, z = .inr w → KJ (Rep D B shpC) A 3 0 0 Q p l e ({ frames := 3, cells := 0, slots := 0, locals := 69 } : Room) s m args below meth c 0 0 54 [some (.ref (B + 0)), some (.ref (B + (57 + 5 * u1))), some (.int w.2)] [] w.1) : KJ (Rep D B shpC) A 3 0 0 Q p l e ({ frames := 3, cells := 0, slots := 0, locals := 69 } : Room) s m args below meth c 0 0 2 [some (.ref (B + 0)), some (.ref (B + (57 + 5 * u1))), some (.int x.2)] [] x.1 := by
  unfold fX10_breaksKey_l2 at h
  refine k_iload_n hF dX10_breaksKey_2 rfl ?_
  refine k_aload_n hF dX10_breaksKey_3 rfl ?_
  refine k_get hF (v := .ref (B + 1)) shC_0 fl_X10_19_X10 dX10_breaksKey_4 rfl ?_
  refine k_get hF (v := .int (gi x.1 1 2)) shC_1 fl_X10_95_X6 dX10_breaksKey_7 rfl ?_
  refine k_icmp_ge hF (tgt := 54) dX10_breaksKey_10 (by decide) (fun c1 => ?_) (fun c1 => ?_)
  · replace h := ite_t c1 h
    exact he _ (Option.some.inj h).symm
  · replace h := ite_f c1 h
    refine k_aload_n hF dX10_breaksKey_13 rfl ?_
    refine k_get hF (v := .ref (B + 120)) shC_0 fl_X10_87_X10 dX10_breaksKey_14 rfl ?_
    refine k_iload_n hF dX10_breaksKey_17 rfl ?_
    refine k_aload_n hF dX10_breaksKey_18 rfl ?_
    refine k_get hF (v := .int (gi x.1 (57 + 5 * u1) 6)) (shC_TR u1 q1) fl_X10_265_X9 dX10_breaksKey_19 rfl ?_
    refine k_iload_n hF dX10_breaksKey_22 rfl ?_
    obtain ⟨v2, hv2, h⟩ := bind_some h
    refine k_callS hF hA (as := [.int (gi x.1 (57 + 5 * u1) 6), .int x.2]) (ct_X10_has hbs hv2) ms_X10_268 rfl rfl ⟨Nat.le_of_ble_eq_true rfl, Nat.le_of_ble_eq_true rfl⟩ (Nat.le_of_ble_eq_true rfl) dX10_breaksKey_23 ?_
    refine k_st (st2 := [.int v2, .int x.2, .ref (B + 120)]) rfl ?_
    refine k_if_eq hF (tgt := 38) dX10_breaksKey_26 (by decide) (fun c3 => ?_) (fun c3 => ?_)
    · replace h := ite_t c3 h
      refine k_aload_n hF dX10_breaksKey_38 rfl ?_
      refine k_get hF (v := .ref (B + 1)) shC_0 fl_X10_19_X10 dX10_breaksKey_39 rfl ?_
      refine k_get hF (v := .ref (B + 5)) shC_1 fl_X10_147_X6 dX10_breaksKey_42 rfl ?_
      refine k_iload_n hF dX10_breaksKey_45 rfl ?_
      obtain ⟨g4, h⟩ := gd_some h
      refine k_iald hF shC_5 dX10_breaksKey_46 g4 ?_
      exact wX10_breaksKey_j47 hF hA hbs q1 h hc he
    · replace h := ite_f c3 h
      refine k_aload_n hF dX10_breaksKey_29 rfl ?_
      refine k_get hF (v := .ref (B + (58 + 5 * u1))) (shC_TR u1 q1) fl_X10_271_X9 dX10_breaksKey_30 rfl ?_
      refine k_iload_n hF dX10_breaksKey_33 rfl ?_
      obtain ⟨g7, h⟩ := gd_some h
      refine k_iald hF (shC_TR_0 u1 q1) dX10_breaksKey_34 g7 ?_
      refine k_goto hF dX10_breaksKey_35 (tgt := 47) (by decide) ?_
      exact wX10_breaksKey_j47 hF hA hbs q1 h hc he
set_option maxHeartbeats 4000000 in
set_option maxRecDepth 100000 in
theorem wX10_breaksKey_j90 {p : Program} {l : Launch} {e : Env} {s : State} {m : MethodId} {args : Array Value} {below : List Frame} {meth : Method} {c : Code} {Q : State → Prop} {A : Nat → Prop} {D : DD} {base B : Nat} (hF : KF D base cX10_breaksKey RX10 A 3 0 0 p l e ({ frames := 3, cells := 0, slots := 0, locals := 69 } : Room) s m args below meth c) (hA : ∀ q, RA B shpC q → A q) (hbs : base ≤ B) {σ : St} {u1 : Nat} (q1 : u1 < 4) {b2 : Int32} {z : (Int32 ⊕ (Int32 ⊕ (Int32 × St)))} (h : fX10_breaksKey_j90 σ u1 b2 = some z) (hc : ∀ x, z = .inl x → KJ (Rep D B shpC) A 3 0 0 Q p l e ({ frames := 3, cells := 0, slots := 0, locals := 69 } : Room) s m args below meth c 0 0 56 [some (.ref (B + 0)), some (.ref (B + (57 + 5 * u1))), some (.int x)] [] σ) (he : ∀ w, z = .inr w → Sum.elim (fun x => KJ (Rep D B shpC) A 3 0 0 Q p l e ({ frames := 3, cells := 0, slots := 0, locals := 69 } : Room) s m args below meth c 0 0 96 [some (.ref (B + 0)), some (.ref (B + (57 + 5 * u1))), some (.int x)] [] σ) (fun r => ∀ (pc : Nat) (L : List (Option Value)), narrow .boolean (.int r.1) = .int r.1 → decode cX10_breaksKey pc = .ok (.ireturn, 1) → KJ (Rep D B shpC) A 3 0 0 Q p l e ({ frames := 3, cells := 0, slots := 0, locals := 69 } : Room) s m args below meth c 0 0 pc L [.int r.1] r.2) w) : KJ (Rep D B shpC) A 3 0 0 Q p l e ({ frames := 3, cells := 0, slots := 0, locals := 69 } : Room) s m args below meth c 0 0 90 [some (.ref (B + 0)), some (.ref (B + (57 + 5 * u1))), some (.int b2)] [] σ := by
  unfold fX10_breaksKey_j90 at h
  refine k_iinc hF (v := (b2 + (1 : Int32))) (L' := [some (.ref (B + 0)), some (.ref (B + (57 + 5 * u1))), some (.int (b2 + (1 : Int32)))]) dX10_breaksKey_90 rfl (by first | rfl | (congr 1)) (by decide) rfl ?_
  refine k_goto hF dX10_breaksKey_93 (tgt := 56) (by decide) ?_
  exact hc _ (Option.some.inj h).symm
set_option maxHeartbeats 4000000 in
set_option maxRecDepth 100000 in
theorem wX10_breaksKey_l56 {p : Program} {l : Launch} {e : Env} {s : State} {m : MethodId} {args : Array Value} {below : List Frame} {meth : Method} {c : Code} {Q : State → Prop} {A : Nat → Prop} {D : DD} {base B : Nat} (hF : KF D base cX10_breaksKey RX10 A 3 0 0 p l e ({ frames := 3, cells := 0, slots := 0, locals := 69 } : Room) s m args below meth c) (hA : ∀ q, RA B shpC q → A q) (hbs : base ≤ B) {σ : St} {u1 : Nat} (q1 : u1 < 4) {x : Int32} {z : (Int32 ⊕ (Int32 ⊕ (Int32 × St)))} (h : fX10_breaksKey_l56 σ u1 x = some z) (hc : ∀ x, z = .inl x → KJ (Rep D B shpC) A 3 0 0 Q p l e ({ frames := 3, cells := 0, slots := 0, locals := 69 } : Room) s m args below meth c 0 0 56 [some (.ref (B + 0)), some (.ref (B + (57 + 5 * u1))), some (.int x)] [] σ) (he : ∀ w, z = .inr w → Sum.elim (fun x => KJ (Rep D B shpC) A 3 0 0 Q p l e ({ frames := 3, cells := 0, slots := 0, locals := 69 } : Room) s m args below meth c 0 0 96 [some (.ref (B + 0)), some (.ref (B + (57 + 5 * u1))), some (.int x)] [] σ) (fun r => ∀ (pc : Nat) (L : List (Option Value)), narrow .boolean (.int r.1) = .int r.1 → decode cX10_breaksKey pc = .ok (.ireturn, 1) → KJ (Rep D B shpC) A 3 0 0 Q p l e ({ frames := 3, cells := 0, slots := 0, locals := 69 } : Room) s m args below meth c 0 0 pc L [.int r.1] r.2) w) : KJ (Rep D B shpC) A 3 0 0 Q p l e ({ frames := 3, cells := 0, slots := 0, locals := 69 } : Room) s m args below meth c 0 0 56 [some (.ref (B + 0)), some (.ref (B + (57 + 5 * u1))), some (.int x)] [] σ := by
  unfold fX10_breaksKey_l56 at h
  refine k_iload_n hF dX10_breaksKey_56 rfl ?_
  refine k_iconst hF dX10_breaksKey_57 ci_4 ?_
  refine k_icmp_ge hF (tgt := 96) dX10_breaksKey_58 (by decide) (fun c9 => ?_) (fun c9 => ?_)
  · replace h := ite_t c9 h
    exact he _ (Option.some.inj h).symm
  · replace h := ite_f c9 h
    refine k_aload_n hF dX10_breaksKey_61 rfl ?_
    refine k_get hF (v := .ref (B + 16)) shC_0 fl_X10_35_X10 dX10_breaksKey_62 rfl ?_
    refine k_get hF (v := .ref (B + 17)) shC_16 fl_X10_177_X2 dX10_breaksKey_65 rfl ?_
    refine k_iload_n hF dX10_breaksKey_68 rfl ?_
    obtain ⟨g10, h⟩ := gd_some h
    refine k_zald hF shC_17 dX10_breaksKey_69 g10 ?_
    refine k_if_eq hF (tgt := 90) dX10_breaksKey_70 (by decide) (fun c11 => ?_) (fun c11 => ?_)
    · replace h := ite_t c11 h
      exact wX10_breaksKey_j90 hF hA hbs q1 h hc he
    · replace h := ite_f c11 h
      refine k_aload_n hF dX10_breaksKey_73 rfl ?_
      refine k_get hF (v := .ref (B + 16)) shC_0 fl_X10_35_X10 dX10_breaksKey_74 rfl ?_
      refine k_iload_n hF dX10_breaksKey_77 rfl ?_
      refine k_aload_n hF dX10_breaksKey_78 rfl ?_
      refine k_get hF (v := .ref (B + 120)) shC_0 fl_X10_87_X10 dX10_breaksKey_79 rfl ?_
      obtain ⟨v12, hv12, h⟩ := bind_some h
      refine k_callV hF hA (as := [.int x, .ref (B + 120)]) (ct_X2_hasTwins hbs shC_120 hv12) mv_X10_181 shC_16 rfl rfl rfl ⟨Nat.le_of_ble_eq_true rfl, Nat.le_of_ble_eq_true rfl⟩ (Nat.le_of_ble_eq_true rfl) dX10_breaksKey_82 ?_
      refine k_st (st2 := [.int v12]) rfl ?_
      refine k_if_eq hF (tgt := 90) dX10_breaksKey_85 (by decide) (fun c13 => ?_) (fun c13 => ?_)
      · replace h := ite_t c13 h
        exact wX10_breaksKey_j90 hF hA hbs q1 h hc he
      · replace h := ite_f c13 h
        refine k_iconst hF dX10_breaksKey_88 ci_1 ?_
        exact he _ (Option.some.inj h).symm _ _ nar_1 dX10_breaksKey_89
set_option maxHeartbeats 4000000 in
set_option maxRecDepth 100000 in
theorem wX10_breaksKey {p : Program} {l : Launch} {e : Env} {s : State} {m : MethodId} {args : Array Value} {below : List Frame} {meth : Method} {c : Code} {Q : State → Prop} {A : Nat → Prop} {D : DD} {base B : Nat} (hF : KF D base cX10_breaksKey RX10 A 3 0 0 p l e ({ frames := 3, cells := 0, slots := 0, locals := 69 } : Room) s m args below meth c) (hA : ∀ q, RA B shpC q → A q) (hbs : base ≤ B) {σ : St} {u1 : Nat} (q1 : u1 < 4) {z : (Int32 × St)} (h : fX10_breaksKey σ u1 = some z) (hr : ∀ (pc : Nat) (L : List (Option Value)), narrow .boolean (.int z.1) = .int z.1 → decode cX10_breaksKey pc = .ok (.ireturn, 1) → KJ (Rep D B shpC) A 3 0 0 Q p l e ({ frames := 3, cells := 0, slots := 0, locals := 69 } : Room) s m args below meth c 0 0 pc L [.int z.1] z.2) : KJ (Rep D B shpC) A 3 0 0 Q p l e ({ frames := 3, cells := 0, slots := 0, locals := 69 } : Room) s m args below meth c 0 0 0 [some (.ref (B + 0)), some (.ref (B + (57 + 5 * u1))), none] [] σ := by
  unfold fX10_breaksKey at h
  refine k_iconst hF dX10_breaksKey_0 ci_0 ?_
  refine k_istore_n hF (L' := [some (.ref (B + 0)), some (.ref (B + (57 + 5 * u1))), some (.int (0 : Int32))]) dX10_breaksKey_1 (by decide) rfl ?_
  obtain ⟨x8, hx8, h⟩ := bind_some h
  refine k_loop (P := fun xq => KJ (Rep D B shpC) A 3 0 0 Q p l e ({ frames := 3, cells := 0, slots := 0, locals := 69 } : Room) s m args below meth c 0 0 2 [some (.ref (B + 0)), some (.ref (B + (57 + 5 * u1))), some (.int xq.2)] [] xq.1) (C := fun xq => KJ (Rep D B shpC) A 3 0 0 Q p l e ({ frames := 3, cells := 0, slots := 0, locals := 69 } : Room) s m args below meth c 0 0 54 [some (.ref (B + 0)), some (.ref (B + (57 + 5 * u1))), some (.int xq.2)] [] xq.1) (fun x z hz hc he => wX10_breaksKey_l2 hF hA hbs q1 hz hc he) hx8 ?_
  show KJ (Rep D B shpC) A 3 0 0 Q p l e ({ frames := 3, cells := 0, slots := 0, locals := 69 } : Room) s m args below meth c 0 0 54 [some (.ref (B + 0)), some (.ref (B + (57 + 5 * u1))), some (.int x8.2)] [] x8.1
  refine k_iconst hF dX10_breaksKey_54 ci_0 ?_
  refine k_istore_n hF (L' := [some (.ref (B + 0)), some (.ref (B + (57 + 5 * u1))), some (.int (0 : Int32))]) dX10_breaksKey_55 (by decide) rfl ?_
  obtain ⟨x14, hx14, h⟩ := bind_some h
  refine k_loop (P := fun xq => KJ (Rep D B shpC) A 3 0 0 Q p l e ({ frames := 3, cells := 0, slots := 0, locals := 69 } : Room) s m args below meth c 0 0 56 [some (.ref (B + 0)), some (.ref (B + (57 + 5 * u1))), some (.int xq)] [] x8.1) (C := fun wq => Sum.elim (fun xq => KJ (Rep D B shpC) A 3 0 0 Q p l e ({ frames := 3, cells := 0, slots := 0, locals := 69 } : Room) s m args below meth c 0 0 96 [some (.ref (B + 0)), some (.ref (B + (57 + 5 * u1))), some (.int xq)] [] x8.1) (fun rq => ∀ (pc : Nat) (L : List (Option Value)), narrow .boolean (.int rq.1) = .int rq.1 → decode cX10_breaksKey pc = .ok (.ireturn, 1) → KJ (Rep D B shpC) A 3 0 0 Q p l e ({ frames := 3, cells := 0, slots := 0, locals := 69 } : Room) s m args below meth c 0 0 pc L [.int rq.1] rq.2) wq) (fun x z hz hc he => wX10_breaksKey_l56 hF hA hbs q1 hz hc he) hx14 ?_
  rcases x14 with x15 | r16
  · show KJ (Rep D B shpC) A 3 0 0 Q p l e ({ frames := 3, cells := 0, slots := 0, locals := 69 } : Room) s m args below meth c 0 0 96 [some (.ref (B + 0)), some (.ref (B + (57 + 5 * u1))), some (.int x15)] [] x8.1
    replace h : _ = some z := h
    refine k_iconst hF dX10_breaksKey_96 ci_0 ?_
    cases h
    exact hr _ _ nar_0 dX10_breaksKey_97
  · replace h : some (r16) = some z := h
    cases h; exact hr
theorem ct_X10_breaksKey {l : Launch} {D : DD} {base B : Nat} (hbs : base ≤ B) {σ : St} {u1 : Nat} (q1 : u1 < 4) {r : (Int32 × St)} (h : fX10_breaksKey σ u1 = some r) : MetR l D B shpC base yX10_breaksKey cX10_breaksKey 3 (some .boolean) 3 69 [.ref (B + 0), .ref (B + (57 + 5 * u1))] σ (some (.int r.1)) r.2 :=
  MetR.of (by decide +kernel) (fun v hv => by simp only [List.mem_cons, List.not_mem_nil, or_false] at hv; rcases hv with rfl | rfl <;> rfl) (Nat.le_of_ble_eq_true rfl) hbs (fun p e s m args below meth c hF hr => wX10_breaksKey hF (fun q hq => hq) hbs q1 h (fun pc L hn hd => k_iret hF hr hn hd))
set_option maxHeartbeats 4000000 in
set_option maxRecDepth 100000 in
theorem wX10_breaksLaws_j33 {p : Program} {l : Launch} {e : Env} {s : State} {m : MethodId} {args : Array Value} {below : List Frame} {meth : Method} {c : Code} {Q : State → Prop} {A : Nat → Prop} {D : DD} {base B : Nat} (hF : KF D base cX10_breaksLaws RX10 A 2 0 0 p l e ({ frames := 4, cells := 0, slots := 0, locals := 91 } : Room) s m args below meth c) (hA : ∀ q, RA B shpC q → A q) (hbs : base ≤ B) {σ : St} {u1 : Nat} (q1 : u1 < 4) {z : (Int32 × St)} (h : fX10_breaksLaws_j33 σ u1 = some z) (hr : ∀ (pc : Nat) (L : List (Option Value)), narrow .boolean (.int z.1) = .int z.1 → decode cX10_breaksLaws pc = .ok (.ireturn, 1) → KJ (Rep D B shpC) A 2 0 0 Q p l e ({ frames := 4, cells := 0, slots := 0, locals := 91 } : Room) s m args below meth c 0 0 pc L [.int z.1] z.2) : KJ (Rep D B shpC) A 2 0 0 Q p l e ({ frames := 4, cells := 0, slots := 0, locals := 91 } : Room) s m args below meth c 0 0 33 [some (.ref (B + 0)), some (.ref (B + (57 + 5 * u1)))] [] σ := by
  unfold fX10_breaksLaws_j33 at h
  refine k_iconst hF dX10_breaksLaws_33 ci_1 ?_
  refine k_goto hF dX10_breaksLaws_34 (tgt := 38) (by decide) ?_
  cases h
  exact hr _ _ nar_1 dX10_breaksLaws_38
set_option maxHeartbeats 4000000 in
set_option maxRecDepth 100000 in
theorem wX10_breaksLaws {p : Program} {l : Launch} {e : Env} {s : State} {m : MethodId} {args : Array Value} {below : List Frame} {meth : Method} {c : Code} {Q : State → Prop} {A : Nat → Prop} {D : DD} {base B : Nat} (hF : KF D base cX10_breaksLaws RX10 A 2 0 0 p l e ({ frames := 4, cells := 0, slots := 0, locals := 91 } : Room) s m args below meth c) (hA : ∀ q, RA B shpC q → A q) (hbs : base ≤ B) {σ : St} {u1 : Nat} (q1 : u1 < 4) {z : (Int32 × St)} (h : fX10_breaksLaws σ u1 = some z) (hr : ∀ (pc : Nat) (L : List (Option Value)), narrow .boolean (.int z.1) = .int z.1 → decode cX10_breaksLaws pc = .ok (.ireturn, 1) → KJ (Rep D B shpC) A 2 0 0 Q p l e ({ frames := 4, cells := 0, slots := 0, locals := 91 } : Room) s m args below meth c 0 0 pc L [.int z.1] z.2) : KJ (Rep D B shpC) A 2 0 0 Q p l e ({ frames := 4, cells := 0, slots := 0, locals := 91 } : Room) s m args below meth c 0 0 0 [some (.ref (B + 0)), some (.ref (B + (57 + 5 * u1)))] [] σ := by
  unfold fX10_breaksLaws at h
  refine k_aload_n hF dX10_breaksLaws_0 rfl ?_
  refine k_get hF (v := .ref (B + 10)) shC_0 fl_X10_26_X10 dX10_breaksLaws_1 rfl ?_
  refine k_get hF (v := .int (gi σ 10 2)) shC_10 fl_X10_130_X0 dX10_breaksLaws_4 rfl ?_
  refine k_aload_n hF dX10_breaksLaws_7 rfl ?_
  refine k_get hF (v := .int (gi σ (57 + 5 * u1) 7)) (shC_TR u1 q1) fl_X10_236_X9 dX10_breaksLaws_8 rfl ?_
  refine k_iadd hF dX10_breaksLaws_11 ?_
  refine k_bipush hF (v := (60 : Int32)) dX10_breaksLaws_12 (by decide) ?_
  refine k_icmp_gt hF (tgt := 33) dX10_breaksLaws_14 (by decide) (fun c1 => ?_) (fun c1 => ?_)
  · replace h := ite_t c1 h
    exact wX10_breaksLaws_j33 hF hA hbs q1 h hr
  · replace h := ite_f c1 h
    refine k_aload_n hF dX10_breaksLaws_17 rfl ?_
    refine k_aload_n hF dX10_breaksLaws_18 rfl ?_
    obtain ⟨v2, hv2, h⟩ := bind_some h
    refine k_callV hF hA (as := [.ref (B + (57 + 5 * u1))]) (ct_X10_breaksShape hbs q1 hv2) mv_X10_426 shC_0 rfl rfl rfl ⟨Nat.le_of_ble_eq_true rfl, Nat.le_of_ble_eq_true rfl⟩ (Nat.le_of_ble_eq_true rfl) dX10_breaksLaws_19 ?_
    refine k_st (st2 := [.int v2]) rfl ?_
    refine k_if_ne hF (tgt := 33) dX10_breaksLaws_22 (by decide) (fun c3 => ?_) (fun c3 => ?_)
    · replace h := ite_f c3 h
      exact wX10_breaksLaws_j33 hF hA hbs q1 h hr
    · replace h := ite_t c3 h
      refine k_aload_n hF dX10_breaksLaws_25 rfl ?_
      refine k_aload_n hF dX10_breaksLaws_26 rfl ?_
      obtain ⟨v4, hv4, h⟩ := bind_some h
      refine k_callV hF hA (as := [.ref (B + (57 + 5 * u1))]) (ct_X10_breaksKey hbs q1 hv4) mv_X10_429 shC_0 rfl rfl rfl ⟨Nat.le_of_ble_eq_true rfl, Nat.le_of_ble_eq_true rfl⟩ (Nat.le_of_ble_eq_true rfl) dX10_breaksLaws_27 ?_
      refine k_st (st2 := [.int v4.1]) rfl ?_
      refine k_if_eq hF (tgt := 37) dX10_breaksLaws_30 (by decide) (fun c5 => ?_) (fun c5 => ?_)
      · replace h := ite_t c5 h
        refine k_iconst hF dX10_breaksLaws_37 ci_0 ?_
        cases h
        exact hr _ _ nar_0 dX10_breaksLaws_38
      · replace h := ite_f c5 h
        exact wX10_breaksLaws_j33 hF hA hbs q1 h hr
theorem ct_X10_breaksLaws {l : Launch} {D : DD} {base B : Nat} (hbs : base ≤ B) {σ : St} {u1 : Nat} (q1 : u1 < 4) {r : (Int32 × St)} (h : fX10_breaksLaws σ u1 = some r) : MetR l D B shpC base yX10_breaksLaws cX10_breaksLaws 2 (some .boolean) 4 91 [.ref (B + 0), .ref (B + (57 + 5 * u1))] σ (some (.int r.1)) r.2 :=
  MetR.of (by decide +kernel) (fun v hv => by simp only [List.mem_cons, List.not_mem_nil, or_false] at hv; rcases hv with rfl | rfl <;> rfl) (Nat.le_of_ble_eq_true rfl) hbs (fun p e s m args below meth c hF hr => wX10_breaksLaws hF (fun q hq => hq) hbs q1 h (fun pc L hn hd => k_iret hF hr hn hd))
set_option maxHeartbeats 4000000 in
set_option maxRecDepth 100000 in
theorem wX10_writeAll_j52 {p : Program} {l : Launch} {e : Env} {s : State} {m : MethodId} {args : Array Value} {below : List Frame} {meth : Method} {c : Code} {Q : State → Prop} {A : Nat → Prop} {D : DD} {base B : Nat} (hF : KF D base cX10_writeAll RX10 A 3 0 0 p l e ({ frames := 4, cells := 0, slots := 0, locals := 92 } : Room) s m args below meth c) (hA : ∀ q, RA B shpC q → A q) (hbs : base ≤ B) {σ : St} {u1 : Nat} (q1 : u1 < 4) {b2 : Int32} {z : ((St × Int32) ⊕ (St × Int32))} (h : fX10_writeAll_j52 σ u1 b2 = some z) (hc : ∀ x, z = .inl x → KJ (Rep D B shpC) A 3 0 0 Q p l e ({ frames := 4, cells := 0, slots := 0, locals := 92 } : Room) s m args below meth c 0 0 12 [some (.ref (B + 0)), some (.ref (B + (57 + 5 * u1))), some (.int x.2)] [] x.1) (he : ∀ w, z = .inr w → KJ (Rep D B shpC) A 3 0 0 Q p l e ({ frames := 4, cells := 0, slots := 0, locals := 92 } : Room) s m args below meth c 0 0 58 [some (.ref (B + 0)), some (.ref (B + (57 + 5 * u1))), some (.int w.2)] [] w.1) : KJ (Rep D B shpC) A 3 0 0 Q p l e ({ frames := 4, cells := 0, slots := 0, locals := 92 } : Room) s m args below meth c 0 0 52 [some (.ref (B + 0)), some (.ref (B + (57 + 5 * u1))), some (.int b2)] [] σ := by
  unfold fX10_writeAll_j52 at h
  refine k_iinc hF (v := (b2 + (1 : Int32))) (L' := [some (.ref (B + 0)), some (.ref (B + (57 + 5 * u1))), some (.int (b2 + (1 : Int32)))]) dX10_writeAll_52 rfl (by first | rfl | (congr 1)) (by decide) rfl ?_
  refine k_goto hF dX10_writeAll_55 (tgt := 12) (by decide) ?_
  exact hc _ (Option.some.inj h).symm
set_option maxHeartbeats 4000000 in
set_option maxRecDepth 100000 in
theorem wX10_writeAll_l12 {p : Program} {l : Launch} {e : Env} {s : State} {m : MethodId} {args : Array Value} {below : List Frame} {meth : Method} {c : Code} {Q : State → Prop} {A : Nat → Prop} {D : DD} {base B : Nat} (hF : KF D base cX10_writeAll RX10 A 3 0 0 p l e ({ frames := 4, cells := 0, slots := 0, locals := 92 } : Room) s m args below meth c) (hA : ∀ q, RA B shpC q → A q) (hbs : base ≤ B) {σ : St} {u1 : Nat} (q1 : u1 < 4) {x : (St × Int32)} {z : ((St × Int32) ⊕ (St × Int32))} (h : fX10_writeAll_l12 σ u1 x = some z) (hc : ∀ x, z = .inl x → KJ (Rep D B shpC) A 3 0 0 Q p l e ({ frames := 4, cells := 0, slots := 0, locals := 92 } : Room) s m args below meth c 0 0 12 [some (.ref (B + 0)), some (.ref (B + (57 + 5 * u1))), some (.int x.2)] [] x.1) (he : ∀ w, z = .inr w → KJ (Rep D B shpC) A 3 0 0 Q p l e ({ frames := 4, cells := 0, slots := 0, locals := 92 } : Room) s m args below meth c 0 0 58 [some (.ref (B + 0)), some (.ref (B + (57 + 5 * u1))), some (.int w.2)] [] w.1) : KJ (Rep D B shpC) A 3 0 0 Q p l e ({ frames := 4, cells := 0, slots := 0, locals := 92 } : Room) s m args below meth c 0 0 12 [some (.ref (B + 0)), some (.ref (B + (57 + 5 * u1))), some (.int x.2)] [] x.1 := by
  unfold fX10_writeAll_l12 at h
  refine k_iload_n hF dX10_writeAll_12 rfl ?_
  refine k_aload_n hF dX10_writeAll_13 rfl ?_
  refine k_get hF (v := .ref (B + 1)) shC_0 fl_X10_19_X10 dX10_writeAll_14 rfl ?_
  refine k_get hF (v := .int (gi x.1 1 2)) shC_1 fl_X10_95_X6 dX10_writeAll_17 rfl ?_
  refine k_icmp_ge hF (tgt := 58) dX10_writeAll_20 (by decide) (fun c2 => ?_) (fun c2 => ?_)
  · replace h := ite_t c2 h
    exact he _ (Option.some.inj h).symm
  · replace h := ite_f c2 h
    refine k_aload_n hF dX10_writeAll_23 rfl ?_
    refine k_get hF (v := .int (gi x.1 (57 + 5 * u1) 6)) (shC_TR u1 q1) fl_X10_265_X9 dX10_writeAll_24 rfl ?_
    refine k_iload_n hF dX10_writeAll_27 rfl ?_
    obtain ⟨v3, hv3, h⟩ := bind_some h
    refine k_callS hF hA (as := [.int (gi x.1 (57 + 5 * u1) 6), .int x.2]) (ct_X10_has hbs hv3) ms_X10_268 rfl rfl ⟨Nat.le_of_ble_eq_true rfl, Nat.le_of_ble_eq_true rfl⟩ (Nat.le_of_ble_eq_true rfl) dX10_writeAll_28 ?_
    refine k_st (st2 := [.int v3]) rfl ?_
    refine k_if_eq hF (tgt := 52) dX10_writeAll_31 (by decide) (fun c4 => ?_) (fun c4 => ?_)
    · replace h := ite_t c4 h
      exact wX10_writeAll_j52 hF hA hbs q1 h hc he
    · replace h := ite_f c4 h
      refine k_aload_n hF dX10_writeAll_34 rfl ?_
      refine k_get hF (v := .ref (B + 1)) shC_0 fl_X10_19_X10 dX10_writeAll_35 rfl ?_
      refine k_iload_n hF dX10_writeAll_38 rfl ?_
      refine k_aload_n hF dX10_writeAll_39 rfl ?_
      refine k_get hF (v := .ref (B + (58 + 5 * u1))) (shC_TR u1 q1) fl_X10_271_X9 dX10_writeAll_40 rfl ?_
      refine k_iload_n hF dX10_writeAll_43 rfl ?_
      obtain ⟨g5, h⟩ := gd_some h
      refine k_iald hF (shC_TR_0 u1 q1) dX10_writeAll_44 g5 ?_
      refine k_aload_n hF dX10_writeAll_45 rfl ?_
      refine k_get hF (v := .int (gi x.1 0 11)) shC_0 fl_X10_13_X10 dX10_writeAll_46 rfl ?_
      obtain ⟨v6, hv6, h⟩ := bind_some h
      refine k_callV hF hA (as := [.int x.2, .int (gi x.1 (58 + 5 * u1) x.2.toNatClampNeg), .int (gi x.1 0 11)]) (ct_X6_put hbs hv6) mv_X10_150 shC_1 rfl rfl rfl ⟨Nat.le_of_ble_eq_true rfl, Nat.le_of_ble_eq_true rfl⟩ (Nat.le_of_ble_eq_true rfl) dX10_writeAll_49 ?_
      refine k_st (st2 := []) rfl ?_
      exact wX10_writeAll_j52 hF hA hbs q1 h hc he
set_option maxHeartbeats 4000000 in
set_option maxRecDepth 100000 in
theorem wX10_writeAll_j84 {p : Program} {l : Launch} {e : Env} {s : State} {m : MethodId} {args : Array Value} {below : List Frame} {meth : Method} {c : Code} {Q : State → Prop} {A : Nat → Prop} {D : DD} {base B : Nat} (hF : KF D base cX10_writeAll RX10 A 3 0 0 p l e ({ frames := 4, cells := 0, slots := 0, locals := 92 } : Room) s m args below meth c) (hA : ∀ q, RA B shpC q → A q) (hbs : base ≤ B) {σ : St} {u1 : Nat} (q1 : u1 < 4) {b2 : Int32} {z : ((St × Int32) ⊕ (St × Int32))} (h : fX10_writeAll_j84 σ u1 b2 = some z) (hc : ∀ x, z = .inl x → KJ (Rep D B shpC) A 3 0 0 Q p l e ({ frames := 4, cells := 0, slots := 0, locals := 92 } : Room) s m args below meth c 0 0 60 [some (.ref (B + 0)), some (.ref (B + (57 + 5 * u1))), some (.int x.2)] [] x.1) (he : ∀ w, z = .inr w → KJ (Rep D B shpC) A 3 0 0 Q p l e ({ frames := 4, cells := 0, slots := 0, locals := 92 } : Room) s m args below meth c 0 0 90 [some (.ref (B + 0)), some (.ref (B + (57 + 5 * u1))), some (.int w.2)] [] w.1) : KJ (Rep D B shpC) A 3 0 0 Q p l e ({ frames := 4, cells := 0, slots := 0, locals := 92 } : Room) s m args below meth c 0 0 84 [some (.ref (B + 0)), some (.ref (B + (57 + 5 * u1))), some (.int b2)] [] σ := by
  unfold fX10_writeAll_j84 at h
  refine k_iinc hF (v := (b2 + (1 : Int32))) (L' := [some (.ref (B + 0)), some (.ref (B + (57 + 5 * u1))), some (.int (b2 + (1 : Int32)))]) dX10_writeAll_84 rfl (by first | rfl | (congr 1)) (by decide) rfl ?_
  refine k_goto hF dX10_writeAll_87 (tgt := 60) (by decide) ?_
  exact hc _ (Option.some.inj h).symm
set_option maxHeartbeats 4000000 in
set_option maxRecDepth 100000 in
theorem wX10_writeAll_l60 {p : Program} {l : Launch} {e : Env} {s : State} {m : MethodId} {args : Array Value} {below : List Frame} {meth : Method} {c : Code} {Q : State → Prop} {A : Nat → Prop} {D : DD} {base B : Nat} (hF : KF D base cX10_writeAll RX10 A 3 0 0 p l e ({ frames := 4, cells := 0, slots := 0, locals := 92 } : Room) s m args below meth c) (hA : ∀ q, RA B shpC q → A q) (hbs : base ≤ B) {σ : St} {u1 : Nat} (q1 : u1 < 4) {x : (St × Int32)} {z : ((St × Int32) ⊕ (St × Int32))} (h : fX10_writeAll_l60 σ u1 x = some z) (hc : ∀ x, z = .inl x → KJ (Rep D B shpC) A 3 0 0 Q p l e ({ frames := 4, cells := 0, slots := 0, locals := 92 } : Room) s m args below meth c 0 0 60 [some (.ref (B + 0)), some (.ref (B + (57 + 5 * u1))), some (.int x.2)] [] x.1) (he : ∀ w, z = .inr w → KJ (Rep D B shpC) A 3 0 0 Q p l e ({ frames := 4, cells := 0, slots := 0, locals := 92 } : Room) s m args below meth c 0 0 90 [some (.ref (B + 0)), some (.ref (B + (57 + 5 * u1))), some (.int w.2)] [] w.1) : KJ (Rep D B shpC) A 3 0 0 Q p l e ({ frames := 4, cells := 0, slots := 0, locals := 92 } : Room) s m args below meth c 0 0 60 [some (.ref (B + 0)), some (.ref (B + (57 + 5 * u1))), some (.int x.2)] [] x.1 := by
  unfold fX10_writeAll_l60 at h
  refine k_iload_n hF dX10_writeAll_60 rfl ?_
  refine k_aload_n hF dX10_writeAll_61 rfl ?_
  refine k_get hF (v := .ref (B + 10)) shC_0 fl_X10_26_X10 dX10_writeAll_62 rfl ?_
  refine k_get hF (v := .int (gi x.1 10 2)) shC_10 fl_X10_130_X0 dX10_writeAll_65 rfl ?_
  refine k_icmp_ge hF (tgt := 90) dX10_writeAll_68 (by decide) (fun c8 => ?_) (fun c8 => ?_)
  · replace h := ite_t c8 h
    exact he _ (Option.some.inj h).symm
  · replace h := ite_f c8 h
    refine k_aload_n hF dX10_writeAll_71 rfl ?_
    refine k_iload_n hF dX10_writeAll_72 rfl ?_
    obtain ⟨v9, hv9, h⟩ := bind_some h
    refine k_callV hF hA (as := [.int x.2]) (ct_X9_drops hbs q1 hv9) mv_X10_254 (shC_TR u1 q1) rfl rfl rfl ⟨Nat.le_of_ble_eq_true rfl, Nat.le_of_ble_eq_true rfl⟩ (Nat.le_of_ble_eq_true rfl) dX10_writeAll_73 ?_
    refine k_st (st2 := [.int v9]) rfl ?_
    refine k_if_eq hF (tgt := 84) dX10_writeAll_76 (by decide) (fun c10 => ?_) (fun c10 => ?_)
    · replace h := ite_t c10 h
      exact wX10_writeAll_j84 hF hA hbs q1 h hc he
    · replace h := ite_f c10 h
      refine k_aload_n hF dX10_writeAll_79 rfl ?_
      refine k_iload_n hF dX10_writeAll_80 rfl ?_
      obtain ⟨v11, hv11, h⟩ := bind_some h
      refine k_callV hF hA (as := [.int x.2]) (ct_X10_endEdge hbs hv11) mv_X10_157 shC_0 rfl rfl rfl ⟨Nat.le_of_ble_eq_true rfl, Nat.le_of_ble_eq_true rfl⟩ (Nat.le_of_ble_eq_true rfl) dX10_writeAll_81 ?_
      refine k_st (st2 := []) rfl ?_
      exact wX10_writeAll_j84 hF hA hbs q1 h hc he
set_option maxHeartbeats 4000000 in
set_option maxRecDepth 100000 in
theorem wX10_writeAll_l92 {p : Program} {l : Launch} {e : Env} {s : State} {m : MethodId} {args : Array Value} {below : List Frame} {meth : Method} {c : Code} {Q : State → Prop} {A : Nat → Prop} {D : DD} {base B : Nat} (hF : KF D base cX10_writeAll RX10 A 3 0 0 p l e ({ frames := 4, cells := 0, slots := 0, locals := 92 } : Room) s m args below meth c) (hA : ∀ q, RA B shpC q → A q) (hbs : base ≤ B) {σ : St} {u1 : Nat} (q1 : u1 < 4) {x : (St × Int32)} {z : ((St × Int32) ⊕ (St × Int32))} (h : fX10_writeAll_l92 σ u1 x = some z) (hc : ∀ x, z = .inl x → KJ (Rep D B shpC) A 3 0 0 Q p l e ({ frames := 4, cells := 0, slots := 0, locals := 92 } : Room) s m args below meth c 0 0 92 [some (.ref (B + 0)), some (.ref (B + (57 + 5 * u1))), some (.int x.2)] [] x.1) (he : ∀ w, z = .inr w → KJ (Rep D B shpC) A 3 0 0 Q p l e ({ frames := 4, cells := 0, slots := 0, locals := 92 } : Room) s m args below meth c 0 0 129 [some (.ref (B + 0)), some (.ref (B + (57 + 5 * u1))), some (.int w.2)] [] w.1) : KJ (Rep D B shpC) A 3 0 0 Q p l e ({ frames := 4, cells := 0, slots := 0, locals := 92 } : Room) s m args below meth c 0 0 92 [some (.ref (B + 0)), some (.ref (B + (57 + 5 * u1))), some (.int x.2)] [] x.1 := by
  unfold fX10_writeAll_l92 at h
  refine k_iload_n hF dX10_writeAll_92 rfl ?_
  refine k_aload_n hF dX10_writeAll_93 rfl ?_
  refine k_get hF (v := .int (gi x.1 (57 + 5 * u1) 7)) (shC_TR u1 q1) fl_X10_236_X9 dX10_writeAll_94 rfl ?_
  refine k_icmp_ge hF (tgt := 129) dX10_writeAll_97 (by decide) (fun c13 => ?_) (fun c13 => ?_)
  · replace h := ite_t c13 h
    exact he _ (Option.some.inj h).symm
  · replace h := ite_f c13 h
    refine k_aload_n hF dX10_writeAll_100 rfl ?_
    refine k_aload_n hF dX10_writeAll_101 rfl ?_
    refine k_get hF (v := .ref (B + (59 + 5 * u1))) (shC_TR u1 q1) fl_X10_432_X9 dX10_writeAll_102 rfl ?_
    refine k_iload_n hF dX10_writeAll_105 rfl ?_
    obtain ⟨g14, h⟩ := gd_some h
    refine k_iald hF (shC_TR_1 u1 q1) dX10_writeAll_106 g14 ?_
    refine k_aload_n hF dX10_writeAll_107 rfl ?_
    refine k_get hF (v := .ref (B + (60 + 5 * u1))) (shC_TR u1 q1) fl_X10_433_X9 dX10_writeAll_108 rfl ?_
    refine k_iload_n hF dX10_writeAll_111 rfl ?_
    obtain ⟨g15, h⟩ := gd_some h
    refine k_iald hF (shC_TR_2 u1 q1) dX10_writeAll_112 g15 ?_
    refine k_aload_n hF dX10_writeAll_113 rfl ?_
    refine k_get hF (v := .ref (B + (61 + 5 * u1))) (shC_TR u1 q1) fl_X10_434_X9 dX10_writeAll_114 rfl ?_
    refine k_iload_n hF dX10_writeAll_117 rfl ?_
    obtain ⟨g16, h⟩ := gd_some h
    refine k_iald hF (shC_TR_3 u1 q1) dX10_writeAll_118 g16 ?_
    obtain ⟨v17, hv17, h⟩ := bind_some h
    refine k_callV hF hA (as := [.int (gi x.1 (59 + 5 * u1) x.2.toNatClampNeg), .int (gi x.1 (60 + 5 * u1) x.2.toNatClampNeg), .int (gi x.1 (61 + 5 * u1) x.2.toNatClampNeg)]) (ct_X10_addEdge hbs hv17) mv_X10_138 shC_0 rfl rfl rfl ⟨Nat.le_of_ble_eq_true rfl, Nat.le_of_ble_eq_true rfl⟩ (Nat.le_of_ble_eq_true rfl) dX10_writeAll_119 ?_
    refine k_st (st2 := [.int v17.1]) rfl ?_
    refine k_pop hF dX10_writeAll_122 rfl ?_
    refine k_iinc hF (v := (x.2 + (1 : Int32))) (L' := [some (.ref (B + 0)), some (.ref (B + (57 + 5 * u1))), some (.int (x.2 + (1 : Int32)))]) dX10_writeAll_123 rfl (by first | rfl | (congr 1)) (by decide) rfl ?_
    refine k_goto hF dX10_writeAll_126 (tgt := 92) (by decide) ?_
    exact hc _ (Option.some.inj h).symm
set_option maxHeartbeats 4000000 in
set_option maxRecDepth 100000 in
theorem wX10_writeAll_j152 {p : Program} {l : Launch} {e : Env} {s : State} {m : MethodId} {args : Array Value} {below : List Frame} {meth : Method} {c : Code} {Q : State → Prop} {A : Nat → Prop} {D : DD} {base B : Nat} (hF : KF D base cX10_writeAll RX10 A 3 0 0 p l e ({ frames := 4, cells := 0, slots := 0, locals := 92 } : Room) s m args below meth c) (hA : ∀ q, RA B shpC q → A q) (hbs : base ≤ B) {σ : St} {u1 : Nat} (q1 : u1 < 4) {z : St} (h : fX10_writeAll_j152 σ u1 = some z) (hr : ∀ (pc : Nat) (L : List (Option Value)), decode cX10_writeAll pc = .ok (.return_, 1) → KJ (Rep D B shpC) A 3 0 0 Q p l e ({ frames := 4, cells := 0, slots := 0, locals := 92 } : Room) s m args below meth c 0 0 pc L [] z) : KJ (Rep D B shpC) A 3 0 0 Q p l e ({ frames := 4, cells := 0, slots := 0, locals := 92 } : Room) s m args below meth c 0 0 152 [some (.ref (B + 0)), some (.ref (B + (57 + 5 * u1))), none] [] σ := by
  unfold fX10_writeAll_j152 at h
  refine k_aload_n hF dX10_writeAll_152 rfl ?_
  refine k_get hF (v := .ref (B + 23)) shC_0 fl_X10_53_X10 dX10_writeAll_153 rfl ?_
  obtain ⟨v20, hv20, h⟩ := bind_some h
  refine k_callV hF hA (as := []) (ct_X1_inferAnew hbs hv20) mv_X10_141 shC_23 rfl rfl rfl ⟨Nat.le_of_ble_eq_true rfl, Nat.le_of_ble_eq_true rfl⟩ (Nat.le_of_ble_eq_true rfl) dX10_writeAll_156 ?_
  refine k_st (st2 := []) rfl ?_
  cases h
  exact hr _ _ dX10_writeAll_159
set_option maxHeartbeats 4000000 in
set_option maxRecDepth 100000 in
theorem wX10_writeAll {p : Program} {l : Launch} {e : Env} {s : State} {m : MethodId} {args : Array Value} {below : List Frame} {meth : Method} {c : Code} {Q : State → Prop} {A : Nat → Prop} {D : DD} {base B : Nat} (hF : KF D base cX10_writeAll RX10 A 3 0 0 p l e ({ frames := 4, cells := 0, slots := 0, locals := 92 } : Room) s m args below meth c) (hA : ∀ q, RA B shpC q → A q) (hbs : base ≤ B) {σ : St} {u1 : Nat} (q1 : u1 < 4) {z : St} (h : fX10_writeAll σ u1 = some z) (hr : ∀ (pc : Nat) (L : List (Option Value)), decode cX10_writeAll pc = .ok (.return_, 1) → KJ (Rep D B shpC) A 3 0 0 Q p l e ({ frames := 4, cells := 0, slots := 0, locals := 92 } : Room) s m args below meth c 0 0 pc L [] z) : KJ (Rep D B shpC) A 3 0 0 Q p l e ({ frames := 4, cells := 0, slots := 0, locals := 92 } : Room) s m args below meth c 0 0 0 [some (.ref (B + 0)), some (.ref (B + (57 + 5 * u1))), none] [] σ := by
  unfold fX10_writeAll at h
  refine k_aload_n hF dX10_writeAll_0 rfl ?_
  refine k_dup hF dX10_writeAll_1 rfl ?_
  refine k_get hF (v := .int (gi σ 0 11)) shC_0 fl_X10_13_X10 dX10_writeAll_2 rfl ?_
  refine k_iconst hF dX10_writeAll_5 ci_1 ?_
  refine k_iadd hF dX10_writeAll_6 ?_
  refine k_putI hF hA shC_0 fp_X10_13_X10 dX10_writeAll_7 rfl rfl rfl ?_
  obtain ⟨σ1, hσ1, h⟩ := lt_some h
  refine k_sig hσ1 ?_
  refine k_iconst hF dX10_writeAll_10 ci_0 ?_
  refine k_istore_n hF (L' := [some (.ref (B + 0)), some (.ref (B + (57 + 5 * u1))), some (.int (0 : Int32))]) dX10_writeAll_11 (by decide) rfl ?_
  obtain ⟨x7, hx7, h⟩ := bind_some h
  refine k_loop (P := fun xq => KJ (Rep D B shpC) A 3 0 0 Q p l e ({ frames := 4, cells := 0, slots := 0, locals := 92 } : Room) s m args below meth c 0 0 12 [some (.ref (B + 0)), some (.ref (B + (57 + 5 * u1))), some (.int xq.2)] [] xq.1) (C := fun xq => KJ (Rep D B shpC) A 3 0 0 Q p l e ({ frames := 4, cells := 0, slots := 0, locals := 92 } : Room) s m args below meth c 0 0 58 [some (.ref (B + 0)), some (.ref (B + (57 + 5 * u1))), some (.int xq.2)] [] xq.1) (fun x z hz hc he => wX10_writeAll_l12 hF hA hbs q1 hz hc he) hx7 ?_
  show KJ (Rep D B shpC) A 3 0 0 Q p l e ({ frames := 4, cells := 0, slots := 0, locals := 92 } : Room) s m args below meth c 0 0 58 [some (.ref (B + 0)), some (.ref (B + (57 + 5 * u1))), some (.int x7.2)] [] x7.1
  refine k_iconst hF dX10_writeAll_58 ci_0 ?_
  refine k_istore_n hF (L' := [some (.ref (B + 0)), some (.ref (B + (57 + 5 * u1))), some (.int (0 : Int32))]) dX10_writeAll_59 (by decide) rfl ?_
  obtain ⟨x12, hx12, h⟩ := bind_some h
  refine k_loop (P := fun xq => KJ (Rep D B shpC) A 3 0 0 Q p l e ({ frames := 4, cells := 0, slots := 0, locals := 92 } : Room) s m args below meth c 0 0 60 [some (.ref (B + 0)), some (.ref (B + (57 + 5 * u1))), some (.int xq.2)] [] xq.1) (C := fun xq => KJ (Rep D B shpC) A 3 0 0 Q p l e ({ frames := 4, cells := 0, slots := 0, locals := 92 } : Room) s m args below meth c 0 0 90 [some (.ref (B + 0)), some (.ref (B + (57 + 5 * u1))), some (.int xq.2)] [] xq.1) (fun x z hz hc he => wX10_writeAll_l60 hF hA hbs q1 hz hc he) hx12 ?_
  show KJ (Rep D B shpC) A 3 0 0 Q p l e ({ frames := 4, cells := 0, slots := 0, locals := 92 } : Room) s m args below meth c 0 0 90 [some (.ref (B + 0)), some (.ref (B + (57 + 5 * u1))), some (.int x12.2)] [] x12.1
  refine k_iconst hF dX10_writeAll_90 ci_0 ?_
  refine k_istore_n hF (L' := [some (.ref (B + 0)), some (.ref (B + (57 + 5 * u1))), some (.int (0 : Int32))]) dX10_writeAll_91 (by decide) rfl ?_
  obtain ⟨x18, hx18, h⟩ := bind_some h
  refine k_loop (P := fun xq => KJ (Rep D B shpC) A 3 0 0 Q p l e ({ frames := 4, cells := 0, slots := 0, locals := 92 } : Room) s m args below meth c 0 0 92 [some (.ref (B + 0)), some (.ref (B + (57 + 5 * u1))), some (.int xq.2)] [] xq.1) (C := fun xq => KJ (Rep D B shpC) A 3 0 0 Q p l e ({ frames := 4, cells := 0, slots := 0, locals := 92 } : Room) s m args below meth c 0 0 129 [some (.ref (B + 0)), some (.ref (B + (57 + 5 * u1))), some (.int xq.2)] [] xq.1) (fun x z hz hc he => wX10_writeAll_l92 hF hA hbs q1 hz hc he) hx18 ?_
  show KJ (Rep D B shpC) A 3 0 0 Q p l e ({ frames := 4, cells := 0, slots := 0, locals := 92 } : Room) s m args below meth c 0 0 129 [some (.ref (B + 0)), some (.ref (B + (57 + 5 * u1))), some (.int x18.2)] [] x18.1
  refine k_aload_n hF dX10_writeAll_129 rfl ?_
  refine k_get hF (v := .long (gl x18.1 (57 + 5 * u1) 8)) (shC_TR u1 q1) fl_X10_435_X9 dX10_writeAll_130 rfl ?_
  refine k_lconst hF (v := (0 : Int64)) dX10_writeAll_133 (by decide) ?_
  refine k_lcmp hF dX10_writeAll_134 ?_
  refine k_if_eq hF (tgt := 152) dX10_writeAll_135 (by decide) (fun c19 => ?_) (fun c19 => ?_)
  · replace h := ite_t c19 h
    refine k_kill 2 rfl ?_
    exact wX10_writeAll_j152 hF hA hbs q1 h hr
  · replace h := ite_f c19 h
    refine k_aload_n hF dX10_writeAll_138 rfl ?_
    refine k_get hF (v := .ref (B + 53)) shC_0 fl_X10_69_X10 dX10_writeAll_139 rfl ?_
    refine k_aload_n hF dX10_writeAll_142 rfl ?_
    refine k_get hF (v := .ref (B + 1)) shC_0 fl_X10_19_X10 dX10_writeAll_143 rfl ?_
    refine k_get hF (v := .int (gi x18.1 1 10)) shC_1 fl_X10_342_X6 dX10_writeAll_146 rfl ?_
    obtain ⟨v21, hv21, h⟩ := bind_some h
    refine k_callV hF hA (as := [.int (gi x18.1 1 10)]) (ct_X4_startAnew hbs hv21) mv_X10_419 shC_53 rfl rfl rfl ⟨Nat.le_of_ble_eq_true rfl, Nat.le_of_ble_eq_true rfl⟩ (Nat.le_of_ble_eq_true rfl) dX10_writeAll_149 ?_
    refine k_st (st2 := []) rfl ?_
    refine k_kill 2 rfl ?_
    exact wX10_writeAll_j152 hF hA hbs q1 h hr
theorem ct_X10_writeAll {l : Launch} {D : DD} {base B : Nat} (hbs : base ≤ B) {σ : St} {u1 : Nat} (q1 : u1 < 4) {r : St} (h : fX10_writeAll σ u1 = some r) : MetR l D B shpC base yX10_writeAll cX10_writeAll 3 none 4 92 [.ref (B + 0), .ref (B + (57 + 5 * u1))] σ none r :=
  MetR.of (by decide +kernel) (fun v hv => by simp only [List.mem_cons, List.not_mem_nil, or_false] at hv; rcases hv with rfl | rfl <;> rfl) (Nat.le_of_ble_eq_true rfl) hbs (fun p e s m args below meth c hF hr => wX10_writeAll hF (fun q hq => hq) hbs q1 h (fun pc L hd => k_vret hF hr hd))
set_option maxHeartbeats 4000000 in
set_option maxRecDepth 100000 in
theorem wX10_time {p : Program} {l : Launch} {e : Env} {s : State} {m : MethodId} {args : Array Value} {below : List Frame} {meth : Method} {c : Code} {Q : State → Prop} {A : Nat → Prop} {D : DD} {base B : Nat} (hF : KF D base cX10_time RX10 A 1 0 0 p l e ({ frames := 0, cells := 0, slots := 0, locals := 0 } : Room) s m args below meth c) (hA : ∀ q, RA B shpC q → A q) (hbs : base ≤ B) {σ : St} {z : Int32} (h : fX10_time σ = some z) (hr : ∀ (pc : Nat) (L : List (Option Value)), narrow .int (.int z) = .int z → decode cX10_time pc = .ok (.ireturn, 1) → KJ (Rep D B shpC) A 1 0 0 Q p l e ({ frames := 0, cells := 0, slots := 0, locals := 0 } : Room) s m args below meth c 0 0 pc L [.int z] σ) : KJ (Rep D B shpC) A 1 0 0 Q p l e ({ frames := 0, cells := 0, slots := 0, locals := 0 } : Room) s m args below meth c 0 0 0 [some (.ref (B + 0))] [] σ := by
  unfold fX10_time at h
  refine k_aload_n hF dX10_time_0 rfl ?_
  refine k_get hF (v := .int (gi σ 0 11)) shC_0 fl_X10_13_X10 dX10_time_1 rfl ?_
  cases h
  exact hr _ _ rfl dX10_time_4
theorem ct_X10_time {l : Launch} {D : DD} {base B : Nat} (hbs : base ≤ B) {σ : St} {r : Int32} (h : fX10_time σ = some r) : MetR l D B shpC base yX10_time cX10_time 1 (some .int) 0 0 [.ref (B + 0)] σ (some (.int r)) σ :=
  MetR.of (by decide +kernel) (fun v hv => by simp only [List.mem_cons, List.not_mem_nil, or_false] at hv; rcases hv with rfl <;> rfl) (Nat.le_of_ble_eq_true rfl) hbs (fun p e s m args below meth c hF hr => wX10_time hF (fun q hq => hq) hbs h (fun pc L hn hd => k_iret hF hr hn hd))
set_option maxHeartbeats 4000000 in
set_option maxRecDepth 100000 in
theorem wX10_inferred {p : Program} {l : Launch} {e : Env} {s : State} {m : MethodId} {args : Array Value} {below : List Frame} {meth : Method} {c : Code} {Q : State → Prop} {A : Nat → Prop} {D : DD} {base B : Nat} (hF : KF D base cX10_inferred RX10 A 1 0 0 p l e ({ frames := 2, cells := 0, slots := 0, locals := 43 } : Room) s m args below meth c) (hA : ∀ q, RA B shpC q → A q) (hbs : base ≤ B) {σ : St} {z : Int32} (h : fX10_inferred σ = some z) (hr : ∀ (pc : Nat) (L : List (Option Value)), narrow .int (.int z) = .int z → decode cX10_inferred pc = .ok (.ireturn, 1) → KJ (Rep D B shpC) A 1 0 0 Q p l e ({ frames := 2, cells := 0, slots := 0, locals := 43 } : Room) s m args below meth c 0 0 pc L [.int z] σ) : KJ (Rep D B shpC) A 1 0 0 Q p l e ({ frames := 2, cells := 0, slots := 0, locals := 43 } : Room) s m args below meth c 0 0 0 [some (.ref (B + 0))] [] σ := by
  unfold fX10_inferred at h
  refine k_aload_n hF dX10_inferred_0 rfl ?_
  refine k_get hF (v := .ref (B + 23)) shC_0 fl_X10_53_X10 dX10_inferred_1 rfl ?_
  obtain ⟨v1, hv1, h⟩ := bind_some h
  refine k_callV hF hA (as := []) (ct_X1_countInferred hbs hv1) mv_X10_358 shC_23 rfl rfl rfl ⟨Nat.le_of_ble_eq_true rfl, Nat.le_of_ble_eq_true rfl⟩ (Nat.le_of_ble_eq_true rfl) dX10_inferred_4 ?_
  refine k_st (st2 := [.int v1]) rfl ?_
  cases h
  exact hr _ _ rfl dX10_inferred_7
theorem ct_X10_inferred {l : Launch} {D : DD} {base B : Nat} (hbs : base ≤ B) {σ : St} {r : Int32} (h : fX10_inferred σ = some r) : MetR l D B shpC base yX10_inferred cX10_inferred 1 (some .int) 2 43 [.ref (B + 0)] σ (some (.int r)) σ :=
  MetR.of (by decide +kernel) (fun v hv => by simp only [List.mem_cons, List.not_mem_nil, or_false] at hv; rcases hv with rfl <;> rfl) (Nat.le_of_ble_eq_true rfl) hbs (fun p e s m args below meth c hF hr => wX10_inferred hF (fun q hq => hq) hbs h (fun pc L hn hd => k_iret hF hr hn hd))
set_option maxHeartbeats 4000000 in
set_option maxRecDepth 100000 in
theorem wX10_walkedFrom_l19 {p : Program} {l : Launch} {e : Env} {s : State} {m : MethodId} {args : Array Value} {below : List Frame} {meth : Method} {c : Code} {Q : State → Prop} {A : Nat → Prop} {D : DD} {base B : Nat} (hF : KF D base cX10_walkedFrom RX10 A 6 0 0 p l e ({ frames := 2, cells := 0, slots := 0, locals := 44 } : Room) s m args below meth c) (hA : ∀ q, RA B shpC q → A q) (hbs : base ≤ B) {σ : St} {a1 : Int32} {a2 : Int32} {ea3 : Int32} {x : (Int32 × Int32)} {z : ((Int32 × Int32) ⊕ (Int32 × Int32))} (h : fX10_walkedFrom_l19 σ a1 a2 ea3 x = some z) (hc : ∀ x, z = .inl x → KJ (Rep D B shpC) A 6 0 0 Q p l e ({ frames := 2, cells := 0, slots := 0, locals := 44 } : Room) s m args below meth c 0 0 19 [some (.ref (B + 0)), some (.int a1), some (.int a2), some (.int ea3), some (.int x.1), some (.int x.2)] [] σ) (he : ∀ w, z = .inr w → KJ (Rep D B shpC) A 6 0 0 Q p l e ({ frames := 2, cells := 0, slots := 0, locals := 44 } : Room) s m args below meth c 0 0 47 [some (.ref (B + 0)), some (.int a1), some (.int a2), some (.int ea3), some (.int w.1), some (.int w.2)] [] σ) : KJ (Rep D B shpC) A 6 0 0 Q p l e ({ frames := 2, cells := 0, slots := 0, locals := 44 } : Room) s m args below meth c 0 0 19 [some (.ref (B + 0)), some (.int a1), some (.int a2), some (.int ea3), some (.int x.1), some (.int x.2)] [] σ := by
  unfold fX10_walkedFrom_l19 at h
  refine k_iload hF dX10_walkedFrom_19 rfl ?_
  refine k_iload_n hF dX10_walkedFrom_21 rfl ?_
  refine k_icmp_ge hF (tgt := 47) dX10_walkedFrom_22 (by decide) (fun c3 => ?_) (fun c3 => ?_)
  · replace h := ite_t c3 h
    exact he _ (Option.some.inj h).symm
  · replace h := ite_f c3 h
    refine k_iload hF dX10_walkedFrom_25 rfl ?_
    refine k_aload_n hF dX10_walkedFrom_27 rfl ?_
    refine k_get hF (v := .ref (B + 10)) shC_0 fl_X10_26_X10 dX10_walkedFrom_28 rfl ?_
    refine k_iload hF dX10_walkedFrom_31 rfl ?_
    obtain ⟨v4, hv4, h⟩ := bind_some h
    refine k_callV hF hA (as := [.int x.1]) (ct_X0_onward hbs hv4) mv_X10_439 shC_10 rfl rfl rfl ⟨Nat.le_of_ble_eq_true rfl, Nat.le_of_ble_eq_true rfl⟩ (Nat.le_of_ble_eq_true rfl) dX10_walkedFrom_33 ?_
    refine k_st (st2 := [.int v4, .int x.1]) rfl ?_
    refine k_iload_n hF dX10_walkedFrom_36 rfl ?_
    refine k_iand hF dX10_walkedFrom_37 ?_
    refine k_ior hF dX10_walkedFrom_38 ?_
    refine k_istore hF (L' := [some (.ref (B + 0)), some (.int a1), some (.int a2), some (.int ea3), some (.int (x.1 ||| (v4 &&& ea3))), some (.int x.2)]) dX10_walkedFrom_39 (by decide) rfl ?_
    refine k_iinc hF (v := (x.2 + (1 : Int32))) (L' := [some (.ref (B + 0)), some (.int a1), some (.int a2), some (.int ea3), some (.int (x.1 ||| (v4 &&& ea3))), some (.int (x.2 + (1 : Int32)))]) dX10_walkedFrom_41 rfl (by first | rfl | (congr 1)) (by decide) rfl ?_
    refine k_goto hF dX10_walkedFrom_44 (tgt := 19) (by decide) ?_
    exact hc _ (Option.some.inj h).symm
set_option maxHeartbeats 4000000 in
set_option maxRecDepth 100000 in
theorem wX10_walkedFrom {p : Program} {l : Launch} {e : Env} {s : State} {m : MethodId} {args : Array Value} {below : List Frame} {meth : Method} {c : Code} {Q : State → Prop} {A : Nat → Prop} {D : DD} {base B : Nat} (hF : KF D base cX10_walkedFrom RX10 A 6 0 0 p l e ({ frames := 2, cells := 0, slots := 0, locals := 44 } : Room) s m args below meth c) (hA : ∀ q, RA B shpC q → A q) (hbs : base ≤ B) {σ : St} {a1 : Int32} {a2 : Int32} {z : Int32} (h : fX10_walkedFrom σ a1 a2 = some z) (hr : ∀ (pc : Nat) (L : List (Option Value)), narrow .int (.int z) = .int z → decode cX10_walkedFrom pc = .ok (.ireturn, 1) → KJ (Rep D B shpC) A 6 0 0 Q p l e ({ frames := 2, cells := 0, slots := 0, locals := 44 } : Room) s m args below meth c 0 0 pc L [.int z] σ) : KJ (Rep D B shpC) A 6 0 0 Q p l e ({ frames := 2, cells := 0, slots := 0, locals := 44 } : Room) s m args below meth c 0 0 0 [some (.ref (B + 0)), some (.int a1), some (.int a2), none, none, none] [] σ := by
  unfold fX10_walkedFrom at h
  refine k_aload_n hF dX10_walkedFrom_0 rfl ?_
  refine k_get hF (v := .ref (B + 20)) shC_0 fl_X10_44_X10 dX10_walkedFrom_1 rfl ?_
  obtain ⟨v1, hv1, h⟩ := bind_some h
  refine k_callV hF hA (as := []) (ct_X3_reachable hbs hv1) mv_X10_331 shC_20 rfl rfl rfl ⟨Nat.le_of_ble_eq_true rfl, Nat.le_of_ble_eq_true rfl⟩ (Nat.le_of_ble_eq_true rfl) dX10_walkedFrom_4 ?_
  refine k_st (st2 := [.int v1]) rfl ?_
  refine k_istore_n hF (L' := [some (.ref (B + 0)), some (.int a1), some (.int a2), some (.int v1), none, none]) dX10_walkedFrom_7 (by decide) rfl ?_
  refine k_iload_n hF dX10_walkedFrom_8 rfl ?_
  obtain ⟨v2, hv2, h⟩ := bind_some h
  refine k_callS hF hA (as := [.int a1]) (ct_X10_bit hbs hv2) ms_X10_384 rfl rfl ⟨Nat.le_of_ble_eq_true rfl, Nat.le_of_ble_eq_true rfl⟩ (Nat.le_of_ble_eq_true rfl) dX10_walkedFrom_9 ?_
  refine k_st (st2 := [.int v2]) rfl ?_
  refine k_iload_n hF dX10_walkedFrom_12 rfl ?_
  refine k_iand hF dX10_walkedFrom_13 ?_
  refine k_istore hF (L' := [some (.ref (B + 0)), some (.int a1), some (.int a2), some (.int v1), some (.int (v2 &&& v1)), none]) dX10_walkedFrom_14 (by decide) rfl ?_
  refine k_iconst hF dX10_walkedFrom_16 ci_0 ?_
  refine k_istore hF (L' := [some (.ref (B + 0)), some (.int a1), some (.int a2), some (.int v1), some (.int (v2 &&& v1)), some (.int (0 : Int32))]) dX10_walkedFrom_17 (by decide) rfl ?_
  obtain ⟨x5, hx5, h⟩ := bind_some h
  refine k_loop (P := fun xq => KJ (Rep D B shpC) A 6 0 0 Q p l e ({ frames := 2, cells := 0, slots := 0, locals := 44 } : Room) s m args below meth c 0 0 19 [some (.ref (B + 0)), some (.int a1), some (.int a2), some (.int v1), some (.int xq.1), some (.int xq.2)] [] σ) (C := fun xq => KJ (Rep D B shpC) A 6 0 0 Q p l e ({ frames := 2, cells := 0, slots := 0, locals := 44 } : Room) s m args below meth c 0 0 47 [some (.ref (B + 0)), some (.int a1), some (.int a2), some (.int v1), some (.int xq.1), some (.int xq.2)] [] σ) (fun x z hz hc he => wX10_walkedFrom_l19 hF hA hbs hz hc he) hx5 ?_
  show KJ (Rep D B shpC) A 6 0 0 Q p l e ({ frames := 2, cells := 0, slots := 0, locals := 44 } : Room) s m args below meth c 0 0 47 [some (.ref (B + 0)), some (.int a1), some (.int a2), some (.int v1), some (.int x5.1), some (.int x5.2)] [] σ
  refine k_iload hF dX10_walkedFrom_47 rfl ?_
  cases h
  exact hr _ _ rfl dX10_walkedFrom_49
theorem ct_X10_walkedFrom {l : Launch} {D : DD} {base B : Nat} (hbs : base ≤ B) {σ : St} {a1 : Int32} {a2 : Int32} {r : Int32} (h : fX10_walkedFrom σ a1 a2 = some r) : MetR l D B shpC base yX10_walkedFrom cX10_walkedFrom 6 (some .int) 2 44 [.ref (B + 0), .int a1, .int a2] σ (some (.int r)) σ :=
  MetR.of (by decide +kernel) (fun v hv => by simp only [List.mem_cons, List.not_mem_nil, or_false] at hv; rcases hv with rfl | rfl | rfl <;> rfl) (Nat.le_of_ble_eq_true rfl) hbs (fun p e s m args below meth c hF hr => wX10_walkedFrom hF (fun q hq => hq) hbs h (fun pc L hn hd => k_iret hF hr hn hd))
set_option maxHeartbeats 4000000 in
set_option maxRecDepth 100000 in
theorem wX10_lowest_l2 {p : Program} {l : Launch} {e : Env} {s : State} {m : MethodId} {args : Array Value} {below : List Frame} {meth : Method} {c : Code} {Q : State → Prop} {A : Nat → Prop} {D : DD} {base B : Nat} (hF : KF D base cX10_lowest RX10 A 2 0 0 p l e ({ frames := 1, cells := 0, slots := 0, locals := 21 } : Room) s m args below meth c) (hA : ∀ q, RA B shpC q → A q) (hbs : base ≤ B) {σ : St} {a0 : Int32} {x : Int32} {z : (Int32 ⊕ (Int32 ⊕ Int32))} (h : fX10_lowest_l2 σ a0 x = some z) (hc : ∀ x, z = .inl x → KJ (Rep D B shpC) A 2 0 0 Q p l e ({ frames := 1, cells := 0, slots := 0, locals := 21 } : Room) s m args below meth c 0 0 2 [some (.int a0), some (.int x)] [] σ) (he : ∀ w, z = .inr w → Sum.elim (fun x => KJ (Rep D B shpC) A 2 0 0 Q p l e ({ frames := 1, cells := 0, slots := 0, locals := 21 } : Room) s m args below meth c 0 0 24 [some (.int a0), some (.int x)] [] σ) (fun r => ∀ (pc : Nat) (L : List (Option Value)), narrow .int (.int r) = .int r → decode cX10_lowest pc = .ok (.ireturn, 1) → KJ (Rep D B shpC) A 2 0 0 Q p l e ({ frames := 1, cells := 0, slots := 0, locals := 21 } : Room) s m args below meth c 0 0 pc L [.int r] σ) w) : KJ (Rep D B shpC) A 2 0 0 Q p l e ({ frames := 1, cells := 0, slots := 0, locals := 21 } : Room) s m args below meth c 0 0 2 [some (.int a0), some (.int x)] [] σ := by
  unfold fX10_lowest_l2 at h
  refine k_iload_n hF dX10_lowest_2 rfl ?_
  refine k_bipush hF (v := (24 : Int32)) dX10_lowest_3 (by decide) ?_
  refine k_icmp_ge hF (tgt := 24) dX10_lowest_5 (by decide) (fun c1 => ?_) (fun c1 => ?_)
  · replace h := ite_t c1 h
    exact he _ (Option.some.inj h).symm
  · replace h := ite_f c1 h
    refine k_iload_n hF dX10_lowest_8 rfl ?_
    refine k_iload_n hF dX10_lowest_9 rfl ?_
    obtain ⟨v2, hv2, h⟩ := bind_some h
    refine k_callS hF hA (as := [.int a0, .int x]) (ct_X10_has hbs hv2) ms_X10_268 rfl rfl ⟨Nat.le_of_ble_eq_true rfl, Nat.le_of_ble_eq_true rfl⟩ (Nat.le_of_ble_eq_true rfl) dX10_lowest_10 ?_
    refine k_st (st2 := [.int v2]) rfl ?_
    refine k_if_eq hF (tgt := 18) dX10_lowest_13 (by decide) (fun c3 => ?_) (fun c3 => ?_)
    · replace h := ite_t c3 h
      refine k_iinc hF (v := (x + (1 : Int32))) (L' := [some (.int a0), some (.int (x + (1 : Int32)))]) dX10_lowest_18 rfl (by first | rfl | (congr 1)) (by decide) rfl ?_
      refine k_goto hF dX10_lowest_21 (tgt := 2) (by decide) ?_
      exact hc _ (Option.some.inj h).symm
    · replace h := ite_f c3 h
      refine k_iload_n hF dX10_lowest_16 rfl ?_
      exact he _ (Option.some.inj h).symm _ _ rfl dX10_lowest_17
set_option maxHeartbeats 4000000 in
set_option maxRecDepth 100000 in
theorem wX10_lowest {p : Program} {l : Launch} {e : Env} {s : State} {m : MethodId} {args : Array Value} {below : List Frame} {meth : Method} {c : Code} {Q : State → Prop} {A : Nat → Prop} {D : DD} {base B : Nat} (hF : KF D base cX10_lowest RX10 A 2 0 0 p l e ({ frames := 1, cells := 0, slots := 0, locals := 21 } : Room) s m args below meth c) (hA : ∀ q, RA B shpC q → A q) (hbs : base ≤ B) {σ : St} {a0 : Int32} {z : Int32} (h : fX10_lowest σ a0 = some z) (hr : ∀ (pc : Nat) (L : List (Option Value)), narrow .int (.int z) = .int z → decode cX10_lowest pc = .ok (.ireturn, 1) → KJ (Rep D B shpC) A 2 0 0 Q p l e ({ frames := 1, cells := 0, slots := 0, locals := 21 } : Room) s m args below meth c 0 0 pc L [.int z] σ) : KJ (Rep D B shpC) A 2 0 0 Q p l e ({ frames := 1, cells := 0, slots := 0, locals := 21 } : Room) s m args below meth c 0 0 0 [some (.int a0), none] [] σ := by
  unfold fX10_lowest at h
  refine k_iconst hF dX10_lowest_0 ci_0 ?_
  refine k_istore_n hF (L' := [some (.int a0), some (.int (0 : Int32))]) dX10_lowest_1 (by decide) rfl ?_
  obtain ⟨x4, hx4, h⟩ := bind_some h
  refine k_loop (P := fun xq => KJ (Rep D B shpC) A 2 0 0 Q p l e ({ frames := 1, cells := 0, slots := 0, locals := 21 } : Room) s m args below meth c 0 0 2 [some (.int a0), some (.int xq)] [] σ) (C := fun wq => Sum.elim (fun xq => KJ (Rep D B shpC) A 2 0 0 Q p l e ({ frames := 1, cells := 0, slots := 0, locals := 21 } : Room) s m args below meth c 0 0 24 [some (.int a0), some (.int xq)] [] σ) (fun rq => ∀ (pc : Nat) (L : List (Option Value)), narrow .int (.int rq) = .int rq → decode cX10_lowest pc = .ok (.ireturn, 1) → KJ (Rep D B shpC) A 2 0 0 Q p l e ({ frames := 1, cells := 0, slots := 0, locals := 21 } : Room) s m args below meth c 0 0 pc L [.int rq] σ) wq) (fun x z hz hc he => wX10_lowest_l2 hF hA hbs hz hc he) hx4 ?_
  rcases x4 with x5 | r6
  · show KJ (Rep D B shpC) A 2 0 0 Q p l e ({ frames := 1, cells := 0, slots := 0, locals := 21 } : Room) s m args below meth c 0 0 24 [some (.int a0), some (.int x5)] [] σ
    replace h : _ = some z := h
    refine k_iconst hF dX10_lowest_24 ci_m1 ?_
    cases h
    exact hr _ _ rfl dX10_lowest_25
  · replace h : some (r6) = some z := h
    cases h; exact hr
theorem ct_X10_lowest {l : Launch} {D : DD} {base B : Nat} (hbs : base ≤ B) {σ : St} {a0 : Int32} {r : Int32} (h : fX10_lowest σ a0 = some r) : MetR l D B shpC base yX10_lowest cX10_lowest 2 (some .int) 1 21 [.int a0] σ (some (.int r)) σ :=
  MetR.of (by decide +kernel) (fun v hv => by simp only [List.mem_cons, List.not_mem_nil, or_false] at hv; rcases hv with rfl <;> rfl) (Nat.le_of_ble_eq_true rfl) hbs (fun p e s m args below meth c hF hr => wX10_lowest hF (fun q hq => hq) hbs h (fun pc L hn hd => k_iret hF hr hn hd))
