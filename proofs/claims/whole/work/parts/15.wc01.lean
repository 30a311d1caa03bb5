set_option maxHeartbeats 4000000 in
set_option maxRecDepth 100000 in
theorem wX4_sendAll_l12 {p : Program} {l : Launch} {e : Env} {s : State} {m : MethodId} {args : Array Value} {below : List Frame} {meth : Method} {c : Code} {Q : State → Prop} {A : Nat → Prop} {D : DD} {base B : Nat} (hF : KF D base cX4_sendAll RX4 A 3 0 0 p l e ({ frames := 2, cells := 0, slots := 0, locals := 44 } : Room) s m args below meth c) (hA : ∀ q, RA B shpC q → A q) (hbs : base ≤ B) {σ : St} {ea1 : Int32} {x : (St × Int32)} {z : ((St × Int32) ⊕ (St × Int32))} (h : fX4_sendAll_l12 σ ea1 x = some z) (hc : ∀ x, z = .inl x → KJ (Rep D B shpC) A 3 0 0 Q p l e ({ frames := 2, cells := 0, slots := 0, locals := 44 } : Room) s m args below meth c 0 0 12 [some (.ref (B + 53)), some (.int ea1), some (.int x.2)] [] x.1) (he : ∀ w, z = .inr w → KJ (Rep D B shpC) A 3 0 0 Q p l e ({ frames := 2, cells := 0, slots := 0, locals := 44 } : Room) s m args below meth c 0 0 36 [some (.ref (B + 53)), some (.int ea1), some (.int w.2)] [] w.1) : KJ (Rep D B shpC) A 3 0 0 Q p l e ({ frames := 2, cells := 0, slots := 0, locals := 44 } : Room) s m args below meth c 0 0 12 [some (.ref (B + 53)), some (.int ea1), some (.int x.2)] [] x.1 := by
  unfold fX4_sendAll_l12 at h
  refine k_iload_n hF dX4_sendAll_12 rfl ?_
  refine k_bipush hF (v := (24 : Int32)) dX4_sendAll_13 (by decide) ?_
  refine k_icmp_ge hF (tgt := 36) dX4_sendAll_15 (by decide) (fun c2 => ?_) (fun c2 => ?_)
  · replace h := ite_t c2 h
    exact he _ (Option.some.inj h).symm
  · replace h := ite_f c2 h
    refine k_aload_n hF dX4_sendAll_18 rfl ?_
    refine k_get hF (v := .ref (B + 55)) shC_53 fl_X4_15_X4 dX4_sendAll_19 rfl ?_
    refine k_iload_n hF dX4_sendAll_22 rfl ?_
    refine k_aload_n hF dX4_sendAll_23 rfl ?_
    refine k_get hF (v := .ref (B + 54)) shC_53 fl_X4_9_X4 dX4_sendAll_24 rfl ?_
    refine k_iload_n hF dX4_sendAll_27 rfl ?_
    obtain ⟨g3, h⟩ := gd_some h
    refine k_iald hF shC_54 dX4_sendAll_28 g3 ?_
    obtain ⟨g4, h⟩ := gd_some h
    refine k_iast hF hA shC_55 dX4_sendAll_29 g4 ?_
    obtain ⟨σ5, hσ5, h⟩ := lt_some h
    refine k_sig hσ5 ?_
    refine k_iinc hF (v := (x.2 + (1 : Int32))) (L' := [some (.ref (B + 53)), some (.int ea1), some (.int (x.2 + (1 : Int32)))]) dX4_sendAll_30 rfl (by first | rfl | (congr 1)) (by decide) rfl ?_
    refine k_goto hF dX4_sendAll_33 (tgt := 12) (by decide) ?_
    exact hc _ (Option.some.inj h).symm
set_option maxHeartbeats 4000000 in
set_option maxRecDepth 100000 in
theorem wX4_sendAll_j106 {p : Program} {l : Launch} {e : Env} {s : State} {m : MethodId} {args : Array Value} {below : List Frame} {meth : Method} {c : Code} {Q : State → Prop} {A : Nat → Prop} {D : DD} {base B : Nat} (hF : KF D base cX4_sendAll RX4 A 3 0 0 p l e ({ frames := 2, cells := 0, slots := 0, locals := 44 } : Room) s m args below meth c) (hA : ∀ q, RA B shpC q → A q) (hbs : base ≤ B) {σ : St} {ea1 : Int32} {b2 : Int32} {z : ((St × Int32) ⊕ (St × Int32))} (h : fX4_sendAll_j106 σ ea1 b2 = some z) (hc : ∀ x, z = .inl x → KJ (Rep D B shpC) A 3 0 0 Q p l e ({ frames := 2, cells := 0, slots := 0, locals := 44 } : Room) s m args below meth c 0 0 38 [some (.ref (B + 53)), some (.int ea1), some (.int x.2)] [] x.1) (he : ∀ w, z = .inr w → KJ (Rep D B shpC) A 3 0 0 Q p l e ({ frames := 2, cells := 0, slots := 0, locals := 44 } : Room) s m args below meth c 0 0 112 [some (.ref (B + 53)), some (.int ea1), some (.int w.2)] [] w.1) : KJ (Rep D B shpC) A 3 0 0 Q p l e ({ frames := 2, cells := 0, slots := 0, locals := 44 } : Room) s m args below meth c 0 0 106 [some (.ref (B + 53)), some (.int ea1), some (.int b2)] [] σ := by
  unfold fX4_sendAll_j106 at h
  refine k_iinc hF (v := (b2 + (1 : Int32))) (L' := [some (.ref (B + 53)), some (.int ea1), some (.int (b2 + (1 : Int32)))]) dX4_sendAll_106 rfl (by first | rfl | (congr 1)) (by decide) rfl ?_
  refine k_goto hF dX4_sendAll_109 (tgt := 38) (by decide) ?_
  exact hc _ (Option.some.inj h).symm
set_option maxHeartbeats 4000000 in
set_option maxRecDepth 100000 in
theorem wX4_sendAll_l38 {p : Program} {l : Launch} {e : Env} {s : State} {m : MethodId} {args : Array Value} {below : List Frame} {meth : Method} {c : Code} {Q : State → Prop} {A : Nat → Prop} {D : DD} {base B : Nat} (hF : KF D base cX4_sendAll RX4 A 3 0 0 p l e ({ frames := 2, cells := 0, slots := 0, locals := 44 } : Room) s m args below meth c) (hA : ∀ q, RA B shpC q → A q) (hbs : base ≤ B) {σ : St} {ea1 : Int32} {x : (St × Int32)} {z : ((St × Int32) ⊕ (St × Int32))} (h : fX4_sendAll_l38 σ ea1 x = some z) (hc : ∀ x, z = .inl x → KJ (Rep D B shpC) A 3 0 0 Q p l e ({ frames := 2, cells := 0, slots := 0, locals := 44 } : Room) s m args below meth c 0 0 38 [some (.ref (B + 53)), some (.int ea1), some (.int x.2)] [] x.1) (he : ∀ w, z = .inr w → KJ (Rep D B shpC) A 3 0 0 Q p l e ({ frames := 2, cells := 0, slots := 0, locals := 44 } : Room) s m args below meth c 0 0 112 [some (.ref (B + 53)), some (.int ea1), some (.int w.2)] [] w.1) : KJ (Rep D B shpC) A 3 0 0 Q p l e ({ frames := 2, cells := 0, slots := 0, locals := 44 } : Room) s m args below meth c 0 0 38 [some (.ref (B + 53)), some (.int ea1), some (.int x.2)] [] x.1 := by
  unfold fX4_sendAll_l38 at h
  refine k_iload_n hF dX4_sendAll_38 rfl ?_
  refine k_aload_n hF dX4_sendAll_39 rfl ?_
  refine k_get hF (v := .ref (B + 10)) shC_53 fl_X4_22_X4 dX4_sendAll_40 rfl ?_
  refine k_get hF (v := .int (gi x.1 10 2)) shC_10 fl_X4_30_X0 dX4_sendAll_43 rfl ?_
  refine k_icmp_ge hF (tgt := 112) dX4_sendAll_46 (by decide) (fun c7 => ?_) (fun c7 => ?_)
  · replace h := ite_t c7 h
    exact he _ (Option.some.inj h).symm
  · replace h := ite_f c7 h
    refine k_aload_n hF dX4_sendAll_49 rfl ?_
    refine k_get hF (v := .ref (B + 10)) shC_53 fl_X4_22_X4 dX4_sendAll_50 rfl ?_
    refine k_iload_n hF dX4_sendAll_53 rfl ?_
    obtain ⟨v8, hv8, h⟩ := bind_some h
    refine k_callU hF hA (as := [.int x.2]) (ct_X7_isThereE hbs hv8) mu_X4_35 shC_10 rfl rfl rfl ⟨Nat.le_of_ble_eq_true rfl, Nat.le_of_ble_eq_true rfl⟩ (Nat.le_of_ble_eq_true rfl) dX4_sendAll_54 ?_
    refine k_st (st2 := [.int v8]) rfl ?_
    refine k_if_eq hF (tgt := 106) dX4_sendAll_57 (by decide) (fun c9 => ?_) (fun c9 => ?_)
    · replace h := ite_t c9 h
      exact wX4_sendAll_j106 hF hA hbs h hc he
    · replace h := ite_f c9 h
      refine k_aload_n hF dX4_sendAll_60 rfl ?_
      refine k_iload_n hF dX4_sendAll_61 rfl ?_
      refine k_aload_n hF dX4_sendAll_62 rfl ?_
      refine k_get hF (v := .ref (B + 10)) shC_53 fl_X4_22_X4 dX4_sendAll_63 rfl ?_
      refine k_get hF (v := .ref (B + 13)) shC_10 fl_X4_39_X0 dX4_sendAll_66 rfl ?_
      refine k_iload_n hF dX4_sendAll_69 rfl ?_
      obtain ⟨g10, h⟩ := gd_some h
      refine k_iald hF shC_13 dX4_sendAll_70 g10 ?_
      refine k_aload_n hF dX4_sendAll_71 rfl ?_
      refine k_get hF (v := .ref (B + 10)) shC_53 fl_X4_22_X4 dX4_sendAll_72 rfl ?_
      refine k_get hF (v := .ref (B + 15)) shC_10 fl_X4_42_X0 dX4_sendAll_75 rfl ?_
      refine k_iload_n hF dX4_sendAll_78 rfl ?_
      obtain ⟨g11, h⟩ := gd_some h
      refine k_iald hF shC_15 dX4_sendAll_79 g11 ?_
      obtain ⟨v12, hv12, h⟩ := bind_some h
      refine k_callV hF hA (as := [.int ea1, .int (gi x.1 13 x.2.toNatClampNeg), .int (gi x.1 15 x.2.toNatClampNeg)]) (ct_X4_sendAlong hbs hv12) mv_X4_45 shC_53 rfl rfl rfl ⟨Nat.le_of_ble_eq_true rfl, Nat.le_of_ble_eq_true rfl⟩ (Nat.le_of_ble_eq_true rfl) dX4_sendAll_80 ?_
      refine k_st (st2 := []) rfl ?_
      refine k_aload_n hF dX4_sendAll_83 rfl ?_
      refine k_iload_n hF dX4_sendAll_84 rfl ?_
      refine k_aload_n hF dX4_sendAll_85 rfl ?_
      refine k_get hF (v := .ref (B + 10)) shC_53 fl_X4_22_X4 dX4_sendAll_86 rfl ?_
      refine k_get hF (v := .ref (B + 15)) shC_10 fl_X4_42_X0 dX4_sendAll_89 rfl ?_
      refine k_iload_n hF dX4_sendAll_92 rfl ?_
      obtain ⟨g13, h⟩ := gd_some h
      refine k_iald hF shC_15 dX4_sendAll_93 g13 ?_
      refine k_aload_n hF dX4_sendAll_94 rfl ?_
      refine k_get hF (v := .ref (B + 10)) shC_53 fl_X4_22_X4 dX4_sendAll_95 rfl ?_
      refine k_get hF (v := .ref (B + 13)) shC_10 fl_X4_39_X0 dX4_sendAll_98 rfl ?_
      refine k_iload_n hF dX4_sendAll_101 rfl ?_
      obtain ⟨g14, h⟩ := gd_some h
      refine k_iald hF shC_13 dX4_sendAll_102 g14 ?_
      obtain ⟨v15, hv15, h⟩ := bind_some h
      refine k_callV hF hA (as := [.int ea1, .int (gi v12 15 x.2.toNatClampNeg), .int (gi v12 13 x.2.toNatClampNeg)]) (ct_X4_sendAlong hbs hv15) mv_X4_45 shC_53 rfl rfl rfl ⟨Nat.le_of_ble_eq_true rfl, Nat.le_of_ble_eq_true rfl⟩ (Nat.le_of_ble_eq_true rfl) dX4_sendAll_103 ?_
      refine k_st (st2 := []) rfl ?_
      exact wX4_sendAll_j106 hF hA hbs h hc he
set_option maxHeartbeats 4000000 in
set_option maxRecDepth 100000 in
theorem wX4_sendAll {p : Program} {l : Launch} {e : Env} {s : State} {m : MethodId} {args : Array Value} {below : List Frame} {meth : Method} {c : Code} {Q : State → Prop} {A : Nat → Prop} {D : DD} {base B : Nat} (hF : KF D base cX4_sendAll RX4 A 3 0 0 p l e ({ frames := 2, cells := 0, slots := 0, locals := 44 } : Room) s m args below meth c) (hA : ∀ q, RA B shpC q → A q) (hbs : base ≤ B) {σ : St} {z : St} (h : fX4_sendAll σ = some z) (hr : ∀ (pc : Nat) (L : List (Option Value)), decode cX4_sendAll pc = .ok (.return_, 1) → KJ (Rep D B shpC) A 3 0 0 Q p l e ({ frames := 2, cells := 0, slots := 0, locals := 44 } : Room) s m args below meth c 0 0 pc L [] z) : KJ (Rep D B shpC) A 3 0 0 Q p l e ({ frames := 2, cells := 0, slots := 0, locals := 44 } : Room) s m args below meth c 0 0 0 [some (.ref (B + 53)), none, none] [] σ := by
  unfold fX4_sendAll at h
  refine k_aload_n hF dX4_sendAll_0 rfl ?_
  refine k_get hF (v := .int (gi σ 53 3)) shC_53 fl_X4_18_X4 dX4_sendAll_1 rfl ?_
  refine k_istore_n hF (L' := [some (.ref (B + 53)), some (.int (gi σ 53 3)), none]) dX4_sendAll_4 (by decide) rfl ?_
  refine k_aload_n hF dX4_sendAll_5 rfl ?_
  refine k_iconst hF dX4_sendAll_6 ci_0 ?_
  refine k_putI hF hA shC_53 fp_X4_18_X4 dX4_sendAll_7 rfl rfl rfl ?_
  obtain ⟨σ1, hσ1, h⟩ := lt_some h
  refine k_sig hσ1 ?_
  refine k_iconst hF dX4_sendAll_10 ci_0 ?_
  refine k_istore_n hF (L' := [some (.ref (B + 53)), some (.int (gi σ 53 3)), some (.int (0 : Int32))]) dX4_sendAll_11 (by decide) rfl ?_
  obtain ⟨x6, hx6, h⟩ := bind_some h
  refine k_loop (P := fun xq => KJ (Rep D B shpC) A 3 0 0 Q p l e ({ frames := 2, cells := 0, slots := 0, locals := 44 } : Room) s m args below meth c 0 0 12 [some (.ref (B + 53)), some (.int (gi σ 53 3)), some (.int xq.2)] [] xq.1) (C := fun xq => KJ (Rep D B shpC) A 3 0 0 Q p l e ({ frames := 2, cells := 0, slots := 0, locals := 44 } : Room) s m args below meth c 0 0 36 [some (.ref (B + 53)), some (.int (gi σ 53 3)), some (.int xq.2)] [] xq.1) (fun x z hz hc he => wX4_sendAll_l12 hF hA hbs hz hc he) hx6 ?_
  show KJ (Rep D B shpC) A 3 0 0 Q p l e ({ frames := 2, cells := 0, slots := 0, locals := 44 } : Room) s m args below meth c 0 0 36 [some (.ref (B + 53)), some (.int (gi σ 53 3)), some (.int x6.2)] [] x6.1
  refine k_iconst hF dX4_sendAll_36 ci_0 ?_
  refine k_istore_n hF (L' := [some (.ref (B + 53)), some (.int (gi σ 53 3)), some (.int (0 : Int32))]) dX4_sendAll_37 (by decide) rfl ?_
  obtain ⟨x16, hx16, h⟩ := bind_some h
  refine k_loop (P := fun xq => KJ (Rep D B shpC) A 3 0 0 Q p l e ({ frames := 2, cells := 0, slots := 0, locals := 44 } : Room) s m args below meth c 0 0 38 [some (.ref (B + 53)), some (.int (gi σ 53 3)), some (.int xq.2)] [] xq.1) (C := fun xq => KJ (Rep D B shpC) A 3 0 0 Q p l e ({ frames := 2, cells := 0, slots := 0, locals := 44 } : Room) s m args below meth c 0 0 112 [some (.ref (B + 53)), some (.int (gi σ 53 3)), some (.int xq.2)] [] xq.1) (fun x z hz hc he => wX4_sendAll_l38 hF hA hbs hz hc he) hx16 ?_
  show KJ (Rep D B shpC) A 3 0 0 Q p l e ({ frames := 2, cells := 0, slots := 0, locals := 44 } : Room) s m args below meth c 0 0 112 [some (.ref (B + 53)), some (.int (gi σ 53 3)), some (.int x16.2)] [] x16.1
  cases h
  exact hr _ _ dX4_sendAll_112
theorem ct_X4_sendAll {l : Launch} {D : DD} {base B : Nat} (hbs : base ≤ B) {σ : St} {r : St} (h : fX4_sendAll σ = some r) : MetR l D B shpC base yX4_sendAll cX4_sendAll 3 none 2 44 [.ref (B + 53)] σ none r :=
  MetR.of (by decide +kernel) (fun v hv => by simp only [List.mem_cons, List.not_mem_nil, or_false] at hv; rcases hv with rfl <;> rfl) (Nat.le_of_ble_eq_true rfl) hbs (fun p e s m args below meth c hF hr => wX4_sendAll hF (fun q hq => hq) hbs h (fun pc L hd => k_vret hF hr hd))
set_option maxHeartbeats 4000000 in
set_option maxRecDepth 100000 in
theorem wX9_openAt {p : Program} {l : Launch} {e : Env} {s : State} {m : MethodId} {args : Array Value} {below : List Frame} {meth : Method} {c : Code} {Q : State → Prop} {A : Nat → Prop} {D : DD} {base B : Nat} (hF : KF D base cX9_openAt RX9 A 2 0 0 p l e ({ frames := 0, cells := 0, slots := 0, locals := 0 } : Room) s m args below meth c) (hA : ∀ q, RA B shpC q → A q) (hbs : base ≤ B) {σ : St} {u0 : Nat} {a1 : Int32} (q0 : u0 < 4) {z : St} (h : fX9_openAt σ u0 a1 = some z) (hr : ∀ (pc : Nat) (L : List (Option Value)), decode cX9_openAt pc = .ok (.return_, 1) → KJ (Rep D B shpC) A 2 0 0 Q p l e ({ frames := 0, cells := 0, slots := 0, locals := 0 } : Room) s m args below meth c 0 0 pc L [] z) : KJ (Rep D B shpC) A 2 0 0 Q p l e ({ frames := 0, cells := 0, slots := 0, locals := 0 } : Room) s m args below meth c 0 0 0 [some (.ref (B + (57 + 5 * u0))), some (.int a1)] [] σ := by
  unfold fX9_openAt at h
  refine k_aload_n hF dX9_openAt_0 rfl ?_
  refine k_iconst hF dX9_openAt_1 ci_1 ?_
  refine k_putI hF hA (shC_TR u0 q0) fp_X9_24_X9 dX9_openAt_2 rfl rfl rfl ?_
  obtain ⟨σ1, hσ1, h⟩ := lt_some h
  refine k_sig hσ1 ?_
  refine k_aload_n hF dX9_openAt_5 rfl ?_
  refine k_iload_n hF dX9_openAt_6 rfl ?_
  refine k_putI hF hA (shC_TR u0 q0) fp_X9_28_X9 dX9_openAt_7 rfl rfl rfl ?_
  obtain ⟨σ2, hσ2, h⟩ := lt_some h
  refine k_sig hσ2 ?_
  refine k_aload_n hF dX9_openAt_10 rfl ?_
  refine k_iconst hF dX9_openAt_11 ci_0 ?_
  refine k_putI hF hA (shC_TR u0 q0) fp_X9_32_X9 dX9_openAt_12 rfl rfl rfl ?_
  obtain ⟨σ3, hσ3, h⟩ := lt_some h
  refine k_sig hσ3 ?_
  refine k_aload_n hF dX9_openAt_15 rfl ?_
  refine k_iconst hF dX9_openAt_16 ci_0 ?_
  refine k_putI hF hA (shC_TR u0 q0) fp_X9_35_X9 dX9_openAt_17 rfl rfl rfl ?_
  obtain ⟨σ4, hσ4, h⟩ := lt_some h
  refine k_sig hσ4 ?_
  refine k_aload_n hF dX9_openAt_20 rfl ?_
  refine k_lconst hF (v := (0 : Int64)) dX9_openAt_21 (by decide) ?_
  refine k_putL hF hA (shC_TR u0 q0) fp_X9_38_X9 dX9_openAt_22 rfl ?_
  obtain ⟨σ5, hσ5, h⟩ := lt_some h
  refine k_sig hσ5 ?_
  cases h
  exact hr _ _ dX9_openAt_25
theorem ct_X9_openAt {l : Launch} {D : DD} {base B : Nat} (hbs : base ≤ B) {σ : St} {u0 : Nat} {a1 : Int32} (q0 : u0 < 4) {r : St} (h : fX9_openAt σ u0 a1 = some r) : MetR l D B shpC base yX9_openAt cX9_openAt 2 none 0 0 [.ref (B + (57 + 5 * u0)), .int a1] σ none r :=
  MetR.of (by decide +kernel) (fun v hv => by simp only [List.mem_cons, List.not_mem_nil, or_false] at hv; rcases hv with rfl | rfl <;> rfl) (Nat.le_of_ble_eq_true rfl) hbs (fun p e s m args below meth c hF hr => wX9_openAt hF (fun q hq => hq) hbs q0 h (fun pc L hd => k_vret hF hr hd))
set_option maxHeartbeats 4000000 in
set_option maxRecDepth 100000 in
theorem wX9_putValue {p : Program} {l : Launch} {e : Env} {s : State} {m : MethodId} {args : Array Value} {below : List Frame} {meth : Method} {c : Code} {Q : State → Prop} {A : Nat → Prop} {D : DD} {base B : Nat} (hF : KF D base cX9_putValue RX9 A 3 0 0 p l e ({ frames := 1, cells := 0, slots := 0, locals := 20 } : Room) s m args below meth c) (hA : ∀ q, RA B shpC q → A q) (hbs : base ≤ B) {σ : St} {u0 : Nat} {a1 : Int32} {a2 : Int32} (q0 : u0 < 4) {z : St} (h : fX9_putValue σ u0 a1 a2 = some z) (hr : ∀ (pc : Nat) (L : List (Option Value)), decode cX9_putValue pc = .ok (.return_, 1) → KJ (Rep D B shpC) A 3 0 0 Q p l e ({ frames := 1, cells := 0, slots := 0, locals := 20 } : Room) s m args below meth c 0 0 pc L [] z) : KJ (Rep D B shpC) A 3 0 0 Q p l e ({ frames := 1, cells := 0, slots := 0, locals := 20 } : Room) s m args below meth c 0 0 0 [some (.ref (B + (57 + 5 * u0))), some (.int a1), some (.int a2)] [] σ := by
  unfold fX9_putValue at h
  refine k_aload_n hF dX9_putValue_0 rfl ?_
  refine k_dup hF dX9_putValue_1 rfl ?_
  refine k_get hF (v := .int (gi σ (57 + 5 * u0) 6)) (shC_TR u0 q0) fl_X9_32_X9 dX9_putValue_2 rfl ?_
  refine k_iload_n hF dX9_putValue_5 rfl ?_
  obtain ⟨v1, hv1, h⟩ := bind_some h
  refine k_callSN hF hA (as := [.int a1]) (ct_X10_bit hbs hv1) msn_X9_42 rfl rfl ⟨Nat.le_of_ble_eq_true rfl, Nat.le_of_ble_eq_true rfl⟩ (Nat.le_of_ble_eq_true rfl) dX9_putValue_6 ?_
  refine k_st (st2 := [.int v1, .int (gi σ (57 + 5 * u0) 6), .ref (B + (57 + 5 * u0))]) rfl ?_
  refine k_ior hF dX9_putValue_9 ?_
  refine k_putI hF hA (shC_TR u0 q0) fp_X9_32_X9 dX9_putValue_10 rfl rfl rfl ?_
  obtain ⟨σ2, hσ2, h⟩ := lt_some h
  refine k_sig hσ2 ?_
  refine k_aload_n hF dX9_putValue_13 rfl ?_
  refine k_get hF (v := .ref (B + (58 + 5 * u0))) (shC_TR u0 q0) fl_X9_9_X9 dX9_putValue_14 rfl ?_
  refine k_iload_n hF dX9_putValue_17 rfl ?_
  refine k_iload_n hF dX9_putValue_18 rfl ?_
  obtain ⟨g3, h⟩ := gd_some h
  refine k_iast hF hA (shC_TR_0 u0 q0) dX9_putValue_19 g3 ?_
  obtain ⟨σ4, hσ4, h⟩ := lt_some h
  refine k_sig hσ4 ?_
  cases h
  exact hr _ _ dX9_putValue_20
theorem ct_X9_putValue {l : Launch} {D : DD} {base B : Nat} (hbs : base ≤ B) {σ : St} {u0 : Nat} {a1 : Int32} {a2 : Int32} (q0 : u0 < 4) {r : St} (h : fX9_putValue σ u0 a1 a2 = some r) : MetR l D B shpC base yX9_putValue cX9_putValue 3 none 1 20 [.ref (B + (57 + 5 * u0)), .int a1, .int a2] σ none r :=
  MetR.of (by decide +kernel) (fun v hv => by simp only [List.mem_cons, List.not_mem_nil, or_false] at hv; rcases hv with rfl | rfl | rfl <;> rfl) (Nat.le_of_ble_eq_true rfl) hbs (fun p e s m args below meth c hF hr => wX9_putValue hF (fun q hq => hq) hbs q0 h (fun pc L hd => k_vret hF hr hd))
set_option maxHeartbeats 4000000 in
set_option maxRecDepth 100000 in
theorem wX9_putLink {p : Program} {l : Launch} {e : Env} {s : State} {m : MethodId} {args : Array Value} {below : List Frame} {meth : Method} {c : Code} {Q : State → Prop} {A : Nat → Prop} {D : DD} {base B : Nat} (hF : KF D base cX9_putLink RX9 A 4 0 0 p l e ({ frames := 0, cells := 0, slots := 0, locals := 0 } : Room) s m args below meth c) (hA : ∀ q, RA B shpC q → A q) (hbs : base ≤ B) {σ : St} {u0 : Nat} {a1 : Int32} {a2 : Int32} {a3 : Int32} (q0 : u0 < 4) {z : St} (h : fX9_putLink σ u0 a1 a2 a3 = some z) (hr : ∀ (pc : Nat) (L : List (Option Value)), decode cX9_putLink pc = .ok (.return_, 1) → KJ (Rep D B shpC) A 4 0 0 Q p l e ({ frames := 0, cells := 0, slots := 0, locals := 0 } : Room) s m args below meth c 0 0 pc L [] z) : KJ (Rep D B shpC) A 4 0 0 Q p l e ({ frames := 0, cells := 0, slots := 0, locals := 0 } : Room) s m args below meth c 0 0 0 [some (.ref (B + (57 + 5 * u0))), some (.int a1), some (.int a2), some (.int a3)] [] σ := by
  unfold fX9_putLink at h
  refine k_aload_n hF dX9_putLink_0 rfl ?_
  refine k_get hF (v := .ref (B + (59 + 5 * u0))) (shC_TR u0 q0) fl_X9_15_X9 dX9_putLink_1 rfl ?_
  refine k_aload_n hF dX9_putLink_4 rfl ?_
  refine k_get hF (v := .int (gi σ (57 + 5 * u0) 7)) (shC_TR u0 q0) fl_X9_35_X9 dX9_putLink_5 rfl ?_
  refine k_iload_n hF dX9_putLink_8 rfl ?_
  obtain ⟨g1, h⟩ := gd_some h
  refine k_iast hF hA (shC_TR_1 u0 q0) dX9_putLink_9 g1 ?_
  obtain ⟨σ2, hσ2, h⟩ := lt_some h
  refine k_sig hσ2 ?_
  refine k_aload_n hF dX9_putLink_10 rfl ?_
  refine k_get hF (v := .ref (B + (60 + 5 * u0))) (shC_TR u0 q0) fl_X9_18_X9 dX9_putLink_11 rfl ?_
  refine k_aload_n hF dX9_putLink_14 rfl ?_
  refine k_get hF (v := .int (gi σ2 (57 + 5 * u0) 7)) (shC_TR u0 q0) fl_X9_35_X9 dX9_putLink_15 rfl ?_
  refine k_iload_n hF dX9_putLink_18 rfl ?_
  obtain ⟨g3, h⟩ := gd_some h
  refine k_iast hF hA (shC_TR_2 u0 q0) dX9_putLink_19 g3 ?_
  obtain ⟨σ4, hσ4, h⟩ := lt_some h
  refine k_sig hσ4 ?_
  refine k_aload_n hF dX9_putLink_20 rfl ?_
  refine k_get hF (v := .ref (B + (61 + 5 * u0))) (shC_TR u0 q0) fl_X9_21_X9 dX9_putLink_21 rfl ?_
  refine k_aload_n hF dX9_putLink_24 rfl ?_
  refine k_get hF (v := .int (gi σ4 (57 + 5 * u0) 7)) (shC_TR u0 q0) fl_X9_35_X9 dX9_putLink_25 rfl ?_
  refine k_iload_n hF dX9_putLink_28 rfl ?_
  obtain ⟨g5, h⟩ := gd_some h
  refine k_iast hF hA (shC_TR_3 u0 q0) dX9_putLink_29 g5 ?_
  obtain ⟨σ6, hσ6, h⟩ := lt_some h
  refine k_sig hσ6 ?_
  refine k_aload_n hF dX9_putLink_30 rfl ?_
  refine k_dup hF dX9_putLink_31 rfl ?_
  refine k_get hF (v := .int (gi σ6 (57 + 5 * u0) 7)) (shC_TR u0 q0) fl_X9_35_X9 dX9_putLink_32 rfl ?_
  refine k_iconst hF dX9_putLink_35 ci_1 ?_
  refine k_iadd hF dX9_putLink_36 ?_
  refine k_putI hF hA (shC_TR u0 q0) fp_X9_35_X9 dX9_putLink_37 rfl rfl rfl ?_
  obtain ⟨σ7, hσ7, h⟩ := lt_some h
  refine k_sig hσ7 ?_
  cases h
  exact hr _ _ dX9_putLink_40
theorem ct_X9_putLink {l : Launch} {D : DD} {base B : Nat} (hbs : base ≤ B) {σ : St} {u0 : Nat} {a1 : Int32} {a2 : Int32} {a3 : Int32} (q0 : u0 < 4) {r : St} (h : fX9_putLink σ u0 a1 a2 a3 = some r) : MetR l D B shpC base yX9_putLink cX9_putLink 4 none 0 0 [.ref (B + (57 + 5 * u0)), .int a1, .int a2, .int a3] σ none r :=
  MetR.of (by decide +kernel) (fun v hv => by simp only [List.mem_cons, List.not_mem_nil, or_false] at hv; rcases hv with rfl | rfl | rfl | rfl <;> rfl) (Nat.le_of_ble_eq_true rfl) hbs (fun p e s m args below meth c hF hr => wX9_putLink hF (fun q hq => hq) hbs q0 h (fun pc L hd => k_vret hF hr hd))
set_option maxHeartbeats 4000000 in
set_option maxRecDepth 100000 in
theorem wX9_putDrop {p : Program} {l : Launch} {e : Env} {s : State} {m : MethodId} {args : Array Value} {below : List Frame} {meth : Method} {c : Code} {Q : State → Prop} {A : Nat → Prop} {D : DD} {base B : Nat} (hF : KF D base cX9_putDrop RX9 A 2 0 0 p l e ({ frames := 0, cells := 0, slots := 0, locals := 0 } : Room) s m args below meth c) (hA : ∀ q, RA B shpC q → A q) (hbs : base ≤ B) {σ : St} {u0 : Nat} {a1 : Int32} (q0 : u0 < 4) {z : St} (h : fX9_putDrop σ u0 a1 = some z) (hr : ∀ (pc : Nat) (L : List (Option Value)), decode cX9_putDrop pc = .ok (.return_, 1) → KJ (Rep D B shpC) A 2 0 0 Q p l e ({ frames := 0, cells := 0, slots := 0, locals := 0 } : Room) s m args below meth c 0 0 pc L [] z) : KJ (Rep D B shpC) A 2 0 0 Q p l e ({ frames := 0, cells := 0, slots := 0, locals := 0 } : Room) s m args below meth c 0 0 0 [some (.ref (B + (57 + 5 * u0))), some (.int a1)] [] σ := by
  unfold fX9_putDrop at h
  refine k_aload_n hF dX9_putDrop_0 rfl ?_
  refine k_dup hF dX9_putDrop_1 rfl ?_
  refine k_get hF (v := .long (gl σ (57 + 5 * u0) 8)) (shC_TR u0 q0) fl_X9_38_X9 dX9_putDrop_2 rfl ?_
  refine k_lconst hF (v := (1 : Int64)) dX9_putDrop_5 (by decide) ?_
  refine k_iload_n hF dX9_putDrop_6 rfl ?_
  refine k_lshl hF dX9_putDrop_7 ?_
  refine k_lor hF dX9_putDrop_8 ?_
  refine k_putL hF hA (shC_TR u0 q0) fp_X9_38_X9 dX9_putDrop_9 rfl ?_
  obtain ⟨σ1, hσ1, h⟩ := lt_some h
  refine k_sig hσ1 ?_
  cases h
  exact hr _ _ dX9_putDrop_12
theorem ct_X9_putDrop {l : Launch} {D : DD} {base B : Nat} (hbs : base ≤ B) {σ : St} {u0 : Nat} {a1 : Int32} (q0 : u0 < 4) {r : St} (h : fX9_putDrop σ u0 a1 = some r) : MetR l D B shpC base yX9_putDrop cX9_putDrop 2 none 0 0 [.ref (B + (57 + 5 * u0)), .int a1] σ none r :=
  MetR.of (by decide +kernel) (fun v hv => by simp only [List.mem_cons, List.not_mem_nil, or_false] at hv; rcases hv with rfl | rfl <;> rfl) (Nat.le_of_ble_eq_true rfl) hbs (fun p e s m args below meth c hF hr => wX9_putDrop hF (fun q hq => hq) hbs q0 h (fun pc L hd => k_vret hF hr hd))
set_option maxHeartbeats 4000000 in
set_option maxRecDepth 100000 in
theorem wX9_drops {p : Program} {l : Launch} {e : Env} {s : State} {m : MethodId} {args : Array Value} {below : List Frame} {meth : Method} {c : Code} {Q : State → Prop} {A : Nat → Prop} {D : DD} {base B : Nat} (hF : KF D base cX9_drops RX9 A 2 0 0 p l e ({ frames := 0, cells := 0, slots := 0, locals := 0 } : Room) s m args below meth c) (hA : ∀ q, RA B shpC q → A q) (hbs : base ≤ B) {σ : St} {u0 : Nat} {a1 : Int32} (q0 : u0 < 4) {z : Int32} (h : fX9_drops σ u0 a1 = some z) (hr : ∀ (pc : Nat) (L : List (Option Value)), narrow .boolean (.int z) = .int z → decode cX9_drops pc = .ok (.ireturn, 1) → KJ (Rep D B shpC) A 2 0 0 Q p l e ({ frames := 0, cells := 0, slots := 0, locals := 0 } : Room) s m args below meth c 0 0 pc L [.int z] σ) : KJ (Rep D B shpC) A 2 0 0 Q p l e ({ frames := 0, cells := 0, slots := 0, locals := 0 } : Room) s m args below meth c 0 0 0 [some (.ref (B + (57 + 5 * u0))), some (.int a1)] [] σ := by
  unfold fX9_drops at h
  refine k_aload_n hF dX9_drops_0 rfl ?_
  refine k_get hF (v := .long (gl σ (57 + 5 * u0) 8)) (shC_TR u0 q0) fl_X9_38_X9 dX9_drops_1 rfl ?_
  refine k_lconst hF (v := (1 : Int64)) dX9_drops_4 (by decide) ?_
  refine k_iload_n hF dX9_drops_5 rfl ?_
  refine k_lshl hF dX9_drops_6 ?_
  refine k_land hF dX9_drops_7 ?_
  refine k_lconst hF (v := (0 : Int64)) dX9_drops_8 (by decide) ?_
  refine k_lcmp hF dX9_drops_9 ?_
  refine k_if_eq hF (tgt := 17) dX9_drops_10 (by decide) (fun c1 => ?_) (fun c1 => ?_)
  · replace h := ite_t c1 h
    refine k_iconst hF dX9_drops_17 ci_0 ?_
    cases h
    exact hr _ _ nar_0 dX9_drops_18
  · replace h := ite_f c1 h
    refine k_iconst hF dX9_drops_13 ci_1 ?_
    refine k_goto hF dX9_drops_14 (tgt := 18) (by decide) ?_
    cases h
    exact hr _ _ nar_1 dX9_drops_18
theorem ct_X9_drops {l : Launch} {D : DD} {base B : Nat} (hbs : base ≤ B) {σ : St} {u0 : Nat} {a1 : Int32} (q0 : u0 < 4) {r : Int32} (h : fX9_drops σ u0 a1 = some r) : MetR l D B shpC base yX9_drops cX9_drops 2 (some .boolean) 0 0 [.ref (B + (57 + 5 * u0)), .int a1] σ (some (.int r)) σ :=
  MetR.of (by decide +kernel) (fun v hv => by simp only [List.mem_cons, List.not_mem_nil, or_false] at hv; rcases hv with rfl | rfl <;> rfl) (Nat.le_of_ble_eq_true rfl) hbs (fun p e s m args below meth c hF hr => wX9_drops hF (fun q hq => hq) hbs q0 h (fun pc L hn hd => k_iret hF hr hn hd))
set_option maxHeartbeats 4000000 in
set_option maxRecDepth 100000 in
theorem wX9_hasWrites_j23 {p : Program} {l : Launch} {e : Env} {s : State} {m : MethodId} {args : Array Value} {below : List Frame} {meth : Method} {c : Code} {Q : State → Prop} {A : Nat → Prop} {D : DD} {base B : Nat} (hF : KF D base cX9_hasWrites RX9 A 1 0 0 p l e ({ frames := 0, cells := 0, slots := 0, locals := 0 } : Room) s m args below meth c) (hA : ∀ q, RA B shpC q → A q) (hbs : base ≤ B) {σ : St} {u0 : Nat} (q0 : u0 < 4) {z : Int32} (h : fX9_hasWrites_j23 σ u0 = some z) (hr : ∀ (pc : Nat) (L : List (Option Value)), narrow .boolean (.int z) = .int z → decode cX9_hasWrites pc = .ok (.ireturn, 1) → KJ (Rep D B shpC) A 1 0 0 Q p l e ({ frames := 0, cells := 0, slots := 0, locals := 0 } : Room) s m args below meth c 0 0 pc L [.int z] σ) : KJ (Rep D B shpC) A 1 0 0 Q p l e ({ frames := 0, cells := 0, slots := 0, locals := 0 } : Room) s m args below meth c 0 0 23 [some (.ref (B + (57 + 5 * u0)))] [] σ := by
  unfold fX9_hasWrites_j23 at h
  refine k_iconst hF dX9_hasWrites_23 ci_1 ?_
  refine k_goto hF dX9_hasWrites_24 (tgt := 28) (by decide) ?_
  cases h
  exact hr _ _ nar_1 dX9_hasWrites_28
set_option maxHeartbeats 4000000 in
set_option maxRecDepth 100000 in
theorem wX9_hasWrites {p : Program} {l : Launch} {e : Env} {s : State} {m : MethodId} {args : Array Value} {below : List Frame} {meth : Method} {c : Code} {Q : State → Prop} {A : Nat → Prop} {D : DD} {base B : Nat} (hF : KF D base cX9_hasWrites RX9 A 1 0 0 p l e ({ frames := 0, cells := 0, slots := 0, locals := 0 } : Room) s m args below meth c) (hA : ∀ q, RA B shpC q → A q) (hbs : base ≤ B) {σ : St} {u0 : Nat} (q0 : u0 < 4) {z : Int32} (h : fX9_hasWrites σ u0 = some z) (hr : ∀ (pc : Nat) (L : List (Option Value)), narrow .boolean (.int z) = .int z → decode cX9_hasWrites pc = .ok (.ireturn, 1) → KJ (Rep D B shpC) A 1 0 0 Q p l e ({ frames := 0, cells := 0, slots := 0, locals := 0 } : Room) s m args below meth c 0 0 pc L [.int z] σ) : KJ (Rep D B shpC) A 1 0 0 Q p l e ({ frames := 0, cells := 0, slots := 0, locals := 0 } : Room) s m args below meth c 0 0 0 [some (.ref (B + (57 + 5 * u0)))] [] σ := by
  unfold fX9_hasWrites at h
  refine k_aload_n hF dX9_hasWrites_0 rfl ?_
  refine k_get hF (v := .int (gi σ (57 + 5 * u0) 6)) (shC_TR u0 q0) fl_X9_32_X9 dX9_hasWrites_1 rfl ?_
  refine k_if_ne hF (tgt := 23) dX9_hasWrites_4 (by decide) (fun c1 => ?_) (fun c1 => ?_)
  · replace h := ite_f c1 h
    exact wX9_hasWrites_j23 hF hA hbs q0 h hr
  · replace h := ite_t c1 h
    refine k_aload_n hF dX9_hasWrites_7 rfl ?_
    refine k_get hF (v := .int (gi σ (57 + 5 * u0) 7)) (shC_TR u0 q0) fl_X9_35_X9 dX9_hasWrites_8 rfl ?_
    refine k_if_ne hF (tgt := 23) dX9_hasWrites_11 (by decide) (fun c2 => ?_) (fun c2 => ?_)
    · replace h := ite_f c2 h
      exact wX9_hasWrites_j23 hF hA hbs q0 h hr
    · replace h := ite_t c2 h
      refine k_aload_n hF dX9_hasWrites_14 rfl ?_
      refine k_get hF (v := .long (gl σ (57 + 5 * u0) 8)) (shC_TR u0 q0) fl_X9_38_X9 dX9_hasWrites_15 rfl ?_
      refine k_lconst hF (v := (0 : Int64)) dX9_hasWrites_18 (by decide) ?_
      refine k_lcmp hF dX9_hasWrites_19 ?_
      refine k_if_eq hF (tgt := 27) dX9_hasWrites_20 (by decide) (fun c3 => ?_) (fun c3 => ?_)
      · replace h := ite_t c3 h
        refine k_iconst hF dX9_hasWrites_27 ci_0 ?_
        cases h
        exact hr _ _ nar_0 dX9_hasWrites_28
      · replace h := ite_f c3 h
        exact wX9_hasWrites_j23 hF hA hbs q0 h hr
theorem ct_X9_hasWrites {l : Launch} {D : DD} {base B : Nat} (hbs : base ≤ B) {σ : St} {u0 : Nat} (q0 : u0 < 4) {r : Int32} (h : fX9_hasWrites σ u0 = some r) : MetR l D B shpC base yX9_hasWrites cX9_hasWrites 1 (some .boolean) 0 0 [.ref (B + (57 + 5 * u0))] σ (some (.int r)) σ :=
  MetR.of (by decide +kernel) (fun v hv => by simp only [List.mem_cons, List.not_mem_nil, or_false] at hv; rcases hv with rfl <;> rfl) (Nat.le_of_ble_eq_true rfl) hbs (fun p e s m args below meth c hF hr => wX9_hasWrites hF (fun q hq => hq) hbs q0 h (fun pc L hn hd => k_iret hF hr hn hd))
set_option maxHeartbeats 4000000 in
set_option maxRecDepth 100000 in
theorem wX9_linksFrom_j25 {p : Program} {l : Launch} {e : Env} {s : State} {m : MethodId} {args : Array Value} {below : List Frame} {meth : Method} {c : Code} {Q : State → Prop} {A : Nat → Prop} {D : DD} {base B : Nat} (hF : KF D base cX9_linksFrom RX9 A 4 0 0 p l e ({ frames := 0, cells := 0, slots := 0, locals := 0 } : Room) s m args below meth c) (hA : ∀ q, RA B shpC q → A q) (hbs : base ≤ B) {σ : St} {u0 : Nat} {a1 : Int32} (q0 : u0 < 4) {b2 : Int32} {b3 : Int32} {z : ((Int32 × Int32) ⊕ (Int32 × Int32))} (h : fX9_linksFrom_j25 σ u0 a1 b2 b3 = some z) (hc : ∀ x, z = .inl x → KJ (Rep D B shpC) A 4 0 0 Q p l e ({ frames := 0, cells := 0, slots := 0, locals := 0 } : Room) s m args below meth c 0 0 4 [some (.ref (B + (57 + 5 * u0))), some (.int a1), some (.int x.1), some (.int x.2)] [] σ) (he : ∀ w, z = .inr w → KJ (Rep D B shpC) A 4 0 0 Q p l e ({ frames := 0, cells := 0, slots := 0, locals := 0 } : Room) s m args below meth c 0 0 31 [some (.ref (B + (57 + 5 * u0))), some (.int a1), some (.int w.1), some (.int w.2)] [] σ) : KJ (Rep D B shpC) A 4 0 0 Q p l e ({ frames := 0, cells := 0, slots := 0, locals := 0 } : Room) s m args below meth c 0 0 25 [some (.ref (B + (57 + 5 * u0))), some (.int a1), some (.int b2), some (.int b3)] [] σ := by
  unfold fX9_linksFrom_j25 at h
  refine k_iinc hF (v := (b3 + (1 : Int32))) (L' := [some (.ref (B + (57 + 5 * u0))), some (.int a1), some (.int b2), some (.int (b3 + (1 : Int32)))]) dX9_linksFrom_25 rfl (by first | rfl | (congr 1)) (by decide) rfl ?_
  refine k_goto hF dX9_linksFrom_28 (tgt := 4) (by decide) ?_
  exact hc _ (Option.some.inj h).symm
set_option maxHeartbeats 4000000 in
set_option maxRecDepth 100000 in
theorem wX9_linksFrom_l4 {p : Program} {l : Launch} {e : Env} {s : State} {m : MethodId} {args : Array Value} {below : List Frame} {meth : Method} {c : Code} {Q : State → Prop} {A : Nat → Prop} {D : DD} {base B : Nat} (hF : KF D base cX9_linksFrom RX9 A 4 0 0 p l e ({ frames := 0, cells := 0, slots := 0, locals := 0 } : Room) s m args below meth c) (hA : ∀ q, RA B shpC q → A q) (hbs : base ≤ B) {σ : St} {u0 : Nat} {a1 : Int32} (q0 : u0 < 4) {x : (Int32 × Int32)} {z : ((Int32 × Int32) ⊕ (Int32 × Int32))} (h : fX9_linksFrom_l4 σ u0 a1 x = some z) (hc : ∀ x, z = .inl x → KJ (Rep D B shpC) A 4 0 0 Q p l e ({ frames := 0, cells := 0, slots := 0, locals := 0 } : Room) s m args below meth c 0 0 4 [some (.ref (B + (57 + 5 * u0))), some (.int a1), some (.int x.1), some (.int x.2)] [] σ) (he : ∀ w, z = .inr w → KJ (Rep D B shpC) A 4 0 0 Q p l e ({ frames := 0, cells := 0, slots := 0, locals := 0 } : Room) s m args below meth c 0 0 31 [some (.ref (B + (57 + 5 * u0))), some (.int a1), some (.int w.1), some (.int w.2)] [] σ) : KJ (Rep D B shpC) A 4 0 0 Q p l e ({ frames := 0, cells := 0, slots := 0, locals := 0 } : Room) s m args below meth c 0 0 4 [some (.ref (B + (57 + 5 * u0))), some (.int a1), some (.int x.1), some (.int x.2)] [] σ := by
  unfold fX9_linksFrom_l4 at h
  refine k_iload_n hF dX9_linksFrom_4 rfl ?_
  refine k_aload_n hF dX9_linksFrom_5 rfl ?_
  refine k_get hF (v := .int (gi σ (57 + 5 * u0) 7)) (shC_TR u0 q0) fl_X9_35_X9 dX9_linksFrom_6 rfl ?_
  refine k_icmp_ge hF (tgt := 31) dX9_linksFrom_9 (by decide) (fun c1 => ?_) (fun c1 => ?_)
  · replace h := ite_t c1 h
    exact he _ (Option.some.inj h).symm
  · replace h := ite_f c1 h
    refine k_aload_n hF dX9_linksFrom_12 rfl ?_
    refine k_get hF (v := .ref (B + (59 + 5 * u0))) (shC_TR u0 q0) fl_X9_15_X9 dX9_linksFrom_13 rfl ?_
    refine k_iload_n hF dX9_linksFrom_16 rfl ?_
    obtain ⟨g2, h⟩ := gd_some h
    refine k_iald hF (shC_TR_1 u0 q0) dX9_linksFrom_17 g2 ?_
    refine k_iload_n hF dX9_linksFrom_18 rfl ?_
    refine k_icmp_ne hF (tgt := 25) dX9_linksFrom_19 (by decide) (fun c3 => ?_) (fun c3 => ?_)
    · replace h := ite_f c3 h
      exact wX9_linksFrom_j25 hF hA hbs q0 h hc he
    · replace h := ite_t c3 h
      refine k_iinc hF (v := (x.1 + (1 : Int32))) (L' := [some (.ref (B + (57 + 5 * u0))), some (.int a1), some (.int (x.1 + (1 : Int32))), some (.int x.2)]) dX9_linksFrom_22 rfl (by first | rfl | (congr 1)) (by decide) rfl ?_
      exact wX9_linksFrom_j25 hF hA hbs q0 h hc he
set_option maxHeartbeats 4000000 in
set_option maxRecDepth 100000 in
theorem wX9_linksFrom {p : Program} {l : Launch} {e : Env} {s : State} {m : MethodId} {args : Array Value} {below : List Frame} {meth : Method} {c : Code} {Q : State → Prop} {A : Nat → Prop} {D : DD} {base B : Nat} (hF : KF D base cX9_linksFrom RX9 A 4 0 0 p l e ({ frames := 0, cells := 0, slots := 0, locals := 0 } : Room) s m args below meth c) (hA : ∀ q, RA B shpC q → A q) (hbs : base ≤ B) {σ : St} {u0 : Nat} {a1 : Int32} (q0 : u0 < 4) {z : Int32} (h : fX9_linksFrom σ u0 a1 = some z) (hr : ∀ (pc : Nat) (L : List (Option Value)), narrow .int (.int z) = .int z → decode cX9_linksFrom pc = .ok (.ireturn, 1) → KJ (Rep D B shpC) A 4 0 0 Q p l e ({ frames := 0, cells := 0, slots := 0, locals := 0 } : Room) s m args below meth c 0 0 pc L [.int z] σ) : KJ (Rep D B shpC) A 4 0 0 Q p l e ({ frames := 0, cells := 0, slots := 0, locals := 0 } : Room) s m args below meth c 0 0 0 [some (.ref (B + (57 + 5 * u0))), some (.int a1), none, none] [] σ := by
  unfold fX9_linksFrom at h
  refine k_iconst hF dX9_linksFrom_0 ci_0 ?_
  refine k_istore_n hF (L' := [some (.ref (B + (57 + 5 * u0))), some (.int a1), some (.int (0 : Int32)), none]) dX9_linksFrom_1 (by decide) rfl ?_
  refine k_iconst hF dX9_linksFrom_2 ci_0 ?_
  refine k_istore_n hF (L' := [some (.ref (B + (57 + 5 * u0))), some (.int a1), some (.int (0 : Int32)), some (.int (0 : Int32))]) dX9_linksFrom_3 (by decide) rfl ?_
  obtain ⟨x4, hx4, h⟩ := bind_some h
  refine k_loop (P := fun xq => KJ (Rep D B shpC) A 4 0 0 Q p l e ({ frames := 0, cells := 0, slots := 0, locals := 0 } : Room) s m args below meth c 0 0 4 [some (.ref (B + (57 + 5 * u0))), some (.int a1), some (.int xq.1), some (.int xq.2)] [] σ) (C := fun xq => KJ (Rep D B shpC) A 4 0 0 Q p l e ({ frames := 0, cells := 0, slots := 0, locals := 0 } : Room) s m args below meth c 0 0 31 [some (.ref (B + (57 + 5 * u0))), some (.int a1), some (.int xq.1), some (.int xq.2)] [] σ) (fun x z hz hc he => wX9_linksFrom_l4 hF hA hbs q0 hz hc he) hx4 ?_
  show KJ (Rep D B shpC) A 4 0 0 Q p l e ({ frames := 0, cells := 0, slots := 0, locals := 0 } : Room) s m args below meth c 0 0 31 [some (.ref (B + (57 + 5 * u0))), some (.int a1), some (.int x4.1), some (.int x4.2)] [] σ
  refine k_iload_n hF dX9_linksFrom_31 rfl ?_
  cases h
  exact hr _ _ rfl dX9_linksFrom_32
theorem ct_X9_linksFrom {l : Launch} {D : DD} {base B : Nat} (hbs : base ≤ B) {σ : St} {u0 : Nat} {a1 : Int32} (q0 : u0 < 4) {r : Int32} (h : fX9_linksFrom σ u0 a1 = some r) : MetR l D B shpC base yX9_linksFrom cX9_linksFrom 4 (some .int) 0 0 [.ref (B + (57 + 5 * u0)), .int a1] σ (some (.int r)) σ :=
  MetR.of (by decide +kernel) (fun v hv => by simp only [List.mem_cons, List.not_mem_nil, or_false] at hv; rcases hv with rfl | rfl <;> rfl) (Nat.le_of_ble_eq_true rfl) hbs (fun p e s m args below meth c hF hr => wX9_linksFrom hF (fun q hq => hq) hbs q0 h (fun pc L hn hd => k_iret hF hr hn hd))
set_option maxHeartbeats 4000000 in
set_option maxRecDepth 100000 in
theorem wX9_touching_l7 {p : Program} {l : Launch} {e : Env} {s : State} {m : MethodId} {args : Array Value} {below : List Frame} {meth : Method} {c : Code} {Q : State → Prop} {A : Nat → Prop} {D : DD} {base B : Nat} (hF : KF D base cX9_touching RX9 A 4 0 0 p l e ({ frames := 1, cells := 0, slots := 0, locals := 21 } : Room) s m args below meth c) (hA : ∀ q, RA B shpC q → A q) (hbs : base ≤ B) {σ : St} {u0 : Nat} (q0 : u0 < 4) {x : (Int32 × Int32)} {z : ((Int32 × Int32) ⊕ (Int32 × Int32))} (h : fX9_touching_l7 σ u0 x = some z) (hc : ∀ x, z = .inl x → KJ (Rep D B shpC) A 4 0 0 Q p l e ({ frames := 1, cells := 0, slots := 0, locals := 21 } : Room) s m args below meth c 0 0 7 [some (.ref (B + (57 + 5 * u0))), some (.ref (B + 10)), some (.int x.1), some (.int x.2)] [] σ) (he : ∀ w, z = .inr w → KJ (Rep D B shpC) A 4 0 0 Q p l e ({ frames := 1, cells := 0, slots := 0, locals := 21 } : Room) s m args below meth c 0 0 43 [some (.ref (B + (57 + 5 * u0))), some (.ref (B + 10)), some (.int w.1), some (.int w.2)] [] σ) : KJ (Rep D B shpC) A 4 0 0 Q p l e ({ frames := 1, cells := 0, slots := 0, locals := 21 } : Room) s m args below meth c 0 0 7 [some (.ref (B + (57 + 5 * u0))), some (.ref (B + 10)), some (.int x.1), some (.int x.2)] [] σ := by
  unfold fX9_touching_l7 at h
  refine k_iload_n hF dX9_touching_7 rfl ?_
  refine k_aload_n hF dX9_touching_8 rfl ?_
  refine k_get hF (v := .int (gi σ (57 + 5 * u0) 7)) (shC_TR u0 q0) fl_X9_35_X9 dX9_touching_9 rfl ?_
  refine k_icmp_ge hF (tgt := 43) dX9_touching_12 (by decide) (fun c1 => ?_) (fun c1 => ?_)
  · replace h := ite_t c1 h
    exact he _ (Option.some.inj h).symm
  · replace h := ite_f c1 h
    refine k_iload_n hF dX9_touching_15 rfl ?_
    refine k_aload_n hF dX9_touching_16 rfl ?_
    refine k_get hF (v := .ref (B + (59 + 5 * u0))) (shC_TR u0 q0) fl_X9_15_X9 dX9_touching_17 rfl ?_
    refine k_iload_n hF dX9_touching_20 rfl ?_
    obtain ⟨g2, h⟩ := gd_some h
    refine k_iald hF (shC_TR_1 u0 q0) dX9_touching_21 g2 ?_
    obtain ⟨v3, hv3, h⟩ := bind_some h
    refine k_callSN hF hA (as := [.int (gi σ (59 + 5 * u0) x.2.toNatClampNeg)]) (ct_X10_bit hbs hv3) msn_X9_42 rfl rfl ⟨Nat.le_of_ble_eq_true rfl, Nat.le_of_ble_eq_true rfl⟩ (Nat.le_of_ble_eq_true rfl) dX9_touching_22 ?_
    refine k_st (st2 := [.int v3, .int x.1]) rfl ?_
    refine k_aload_n hF dX9_touching_25 rfl ?_
    refine k_get hF (v := .ref (B + (61 + 5 * u0))) (shC_TR u0 q0) fl_X9_21_X9 dX9_touching_26 rfl ?_
    refine k_iload_n hF dX9_touching_29 rfl ?_
    obtain ⟨g4, h⟩ := gd_some h
    refine k_iald hF (shC_TR_3 u0 q0) dX9_touching_30 g4 ?_
    obtain ⟨v5, hv5, h⟩ := bind_some h
    refine k_callSN hF hA (as := [.int (gi σ (61 + 5 * u0) x.2.toNatClampNeg)]) (ct_X10_bit hbs hv5) msn_X9_42 rfl rfl ⟨Nat.le_of_ble_eq_true rfl, Nat.le_of_ble_eq_true rfl⟩ (Nat.le_of_ble_eq_true rfl) dX9_touching_31 ?_
    refine k_st (st2 := [.int v5, .int v3, .int x.1]) rfl ?_
    refine k_ior hF dX9_touching_34 ?_
    refine k_ior hF dX9_touching_35 ?_
    refine k_istore_n hF (L' := [some (.ref (B + (57 + 5 * u0))), some (.ref (B + 10)), some (.int (x.1 ||| (v3 ||| v5))), some (.int x.2)]) dX9_touching_36 (by decide) rfl ?_
    refine k_iinc hF (v := (x.2 + (1 : Int32))) (L' := [some (.ref (B + (57 + 5 * u0))), some (.ref (B + 10)), some (.int (x.1 ||| (v3 ||| v5))), some (.int (x.2 + (1 : Int32)))]) dX9_touching_37 rfl (by first | rfl | (congr 1)) (by decide) rfl ?_
    refine k_goto hF dX9_touching_40 (tgt := 7) (by decide) ?_
    exact hc _ (Option.some.inj h).symm
set_option maxHeartbeats 4000000 in
set_option maxRecDepth 100000 in
theorem wX9_touching_j83 {p : Program} {l : Launch} {e : Env} {s : State} {m : MethodId} {args : Array Value} {below : List Frame} {meth : Method} {c : Code} {Q : State → Prop} {A : Nat → Prop} {D : DD} {base B : Nat} (hF : KF D base cX9_touching RX9 A 4 0 0 p l e ({ frames := 1, cells := 0, slots := 0, locals := 21 } : Room) s m args below meth c) (hA : ∀ q, RA B shpC q → A q) (hbs : base ≤ B) {σ : St} {u0 : Nat} (q0 : u0 < 4) {b2 : Int32} {b3 : Int32} {z : ((Int32 × Int32) ⊕ (Int32 × Int32))} (h : fX9_touching_j83 σ u0 b2 b3 = some z) (hc : ∀ x, z = .inl x → KJ (Rep D B shpC) A 4 0 0 Q p l e ({ frames := 1, cells := 0, slots := 0, locals := 21 } : Room) s m args below meth c 0 0 45 [some (.ref (B + (57 + 5 * u0))), some (.ref (B + 10)), some (.int x.1), some (.int x.2)] [] σ) (he : ∀ w, z = .inr w → KJ (Rep D B shpC) A 4 0 0 Q p l e ({ frames := 1, cells := 0, slots := 0, locals := 21 } : Room) s m args below meth c 0 0 89 [some (.ref (B + (57 + 5 * u0))), some (.ref (B + 10)), some (.int w.1), some (.int w.2)] [] σ) : KJ (Rep D B shpC) A 4 0 0 Q p l e ({ frames := 1, cells := 0, slots := 0, locals := 21 } : Room) s m args below meth c 0 0 83 [some (.ref (B + (57 + 5 * u0))), some (.ref (B + 10)), some (.int b2), some (.int b3)] [] σ := by
  unfold fX9_touching_j83 at h
  refine k_iinc hF (v := (b3 + (1 : Int32))) (L' := [some (.ref (B + (57 + 5 * u0))), some (.ref (B + 10)), some (.int b2), some (.int (b3 + (1 : Int32)))]) dX9_touching_83 rfl (by first | rfl | (congr 1)) (by decide) rfl ?_
  refine k_goto hF dX9_touching_86 (tgt := 45) (by decide) ?_
  exact hc _ (Option.some.inj h).symm
set_option maxHeartbeats 4000000 in
set_option maxRecDepth 100000 in
theorem wX9_touching_l45 {p : Program} {l : Launch} {e : Env} {s : State} {m : MethodId} {args : Array Value} {below : List Frame} {meth : Method} {c : Code} {Q : State → Prop} {A : Nat → Prop} {D : DD} {base B : Nat} (hF : KF D base cX9_touching RX9 A 4 0 0 p l e ({ frames := 1, cells := 0, slots := 0, locals := 21 } : Room) s m args below meth c) (hA : ∀ q, RA B shpC q → A q) (hbs : base ≤ B) {σ : St} {u0 : Nat} (q0 : u0 < 4) {x : (Int32 × Int32)} {z : ((Int32 × Int32) ⊕ (Int32 × Int32))} (h : fX9_touching_l45 σ u0 x = some z) (hc : ∀ x, z = .inl x → KJ (Rep D B shpC) A 4 0 0 Q p l e ({ frames := 1, cells := 0, slots := 0, locals := 21 } : Room) s m args below meth c 0 0 45 [some (.ref (B + (57 + 5 * u0))), some (.ref (B + 10)), some (.int x.1), some (.int x.2)] [] σ) (he : ∀ w, z = .inr w → KJ (Rep D B shpC) A 4 0 0 Q p l e ({ frames := 1, cells := 0, slots := 0, locals := 21 } : Room) s m args below meth c 0 0 89 [some (.ref (B + (57 + 5 * u0))), some (.ref (B + 10)), some (.int w.1), some (.int w.2)] [] σ) : KJ (Rep D B shpC) A 4 0 0 Q p l e ({ frames := 1, cells := 0, slots := 0, locals := 21 } : Room) s m args below meth c 0 0 45 [some (.ref (B + (57 + 5 * u0))), some (.ref (B + 10)), some (.int x.1), some (.int x.2)] [] σ := by
  unfold fX9_touching_l45 at h
  refine k_iload_n hF dX9_touching_45 rfl ?_
  refine k_aload_n hF dX9_touching_46 rfl ?_
  refine k_get hF (v := .int (gi σ 10 2)) shC_10 fl_X9_46_X0 dX9_touching_47 rfl ?_
  refine k_icmp_ge hF (tgt := 89) dX9_touching_50 (by decide) (fun c7 => ?_) (fun c7 => ?_)
  · replace h := ite_t c7 h
    exact he _ (Option.some.inj h).symm
  · replace h := ite_f c7 h
    refine k_aload_n hF dX9_touching_53 rfl ?_
    refine k_iload_n hF dX9_touching_54 rfl ?_
    obtain ⟨v8, hv8, h⟩ := bind_some h
    refine k_callV hF hA (as := [.int x.2]) (ct_X9_drops hbs q0 hv8) mv_X9_51 (shC_TR u0 q0) rfl rfl rfl ⟨Nat.le_of_ble_eq_true rfl, Nat.le_of_ble_eq_true rfl⟩ (Nat.le_of_ble_eq_true rfl) dX9_touching_55 ?_
    refine k_st (st2 := [.int v8]) rfl ?_
    refine k_if_eq hF (tgt := 83) dX9_touching_58 (by decide) (fun c9 => ?_) (fun c9 => ?_)
    · replace h := ite_t c9 h
      exact wX9_touching_j83 hF hA hbs q0 h hc he
    · replace h := ite_f c9 h
      refine k_iload_n hF dX9_touching_61 rfl ?_
      refine k_aload_n hF dX9_touching_62 rfl ?_
      refine k_get hF (v := .ref (B + 13)) shC_10 fl_X9_55_X0 dX9_touching_63 rfl ?_
      refine k_iload_n hF dX9_touching_66 rfl ?_
      obtain ⟨g10, h⟩ := gd_some h
      refine k_iald hF shC_13 dX9_touching_67 g10 ?_
      obtain ⟨v11, hv11, h⟩ := bind_some h
      refine k_callSN hF hA (as := [.int (gi σ 13 x.2.toNatClampNeg)]) (ct_X10_bit hbs hv11) msn_X9_42 rfl rfl ⟨Nat.le_of_ble_eq_true rfl, Nat.le_of_ble_eq_true rfl⟩ (Nat.le_of_ble_eq_true rfl) dX9_touching_68 ?_
      refine k_st (st2 := [.int v11, .int x.1]) rfl ?_
      refine k_aload_n hF dX9_touching_71 rfl ?_
      refine k_get hF (v := .ref (B + 15)) shC_10 fl_X9_56_X0 dX9_touching_72 rfl ?_
      refine k_iload_n hF dX9_touching_75 rfl ?_
      obtain ⟨g12, h⟩ := gd_some h
      refine k_iald hF shC_15 dX9_touching_76 g12 ?_
      obtain ⟨v13, hv13, h⟩ := bind_some h
      refine k_callSN hF hA (as := [.int (gi σ 15 x.2.toNatClampNeg)]) (ct_X10_bit hbs hv13) msn_X9_42 rfl rfl ⟨Nat.le_of_ble_eq_true rfl, Nat.le_of_ble_eq_true rfl⟩ (Nat.le_of_ble_eq_true rfl) dX9_touching_77 ?_
      refine k_st (st2 := [.int v13, .int v11, .int x.1]) rfl ?_
      refine k_ior hF dX9_touching_80 ?_
      refine k_ior hF dX9_touching_81 ?_
      refine k_istore_n hF (L' := [some (.ref (B + (57 + 5 * u0))), some (.ref (B + 10)), some (.int (x.1 ||| (v11 ||| v13))), some (.int x.2)]) dX9_touching_82 (by decide) rfl ?_
      exact wX9_touching_j83 hF hA hbs q0 h hc he
set_option maxHeartbeats 4000000 in
set_option maxRecDepth 100000 in
theorem wX9_touching {p : Program} {l : Launch} {e : Env} {s : State} {m : MethodId} {args : Array Value} {below : List Frame} {meth : Method} {c : Code} {Q : State → Prop} {A : Nat → Prop} {D : DD} {base B : Nat} (hF : KF D base cX9_touching RX9 A 4 0 0 p l e ({ frames := 1, cells := 0, slots := 0, locals := 21 } : Room) s m args below meth c) (hA : ∀ q, RA B shpC q → A q) (hbs : base ≤ B) {σ : St} {u0 : Nat} (q0 : u0 < 4) {z : Int32} (h : fX9_touching σ u0 = some z) (hr : ∀ (pc : Nat) (L : List (Option Value)), narrow .int (.int z) = .int z → decode cX9_touching pc = .ok (.ireturn, 1) → KJ (Rep D B shpC) A 4 0 0 Q p l e ({ frames := 1, cells := 0, slots := 0, locals := 21 } : Room) s m args below meth c 0 0 pc L [.int z] σ) : KJ (Rep D B shpC) A 4 0 0 Q p l e ({ frames := 1, cells := 0, slots := 0, locals := 21 } : Room) s m args below meth c 0 0 0 [some (.ref (B + (57 + 5 * u0))), some (.ref (B + 10)), none, none] [] σ := by
  unfold fX9_touching at h
  refine k_aload_n hF dX9_touching_0 rfl ?_
  refine k_get hF (v := .int (gi σ (57 + 5 * u0) 6)) (shC_TR u0 q0) fl_X9_32_X9 dX9_touching_1 rfl ?_
  refine k_istore_n hF (L' := [some (.ref (B + (57 + 5 * u0))), some (.ref (B + 10)), some (.int (gi σ (57 + 5 * u0) 6)), none]) dX9_touching_4 (by decide) rfl ?_
  refine k_iconst hF dX9_touching_5 ci_0 ?_
  refine k_istore_n hF (L' := [some (.ref (B + (57 + 5 * u0))), some (.ref (B + 10)), some (.int (gi σ (57 + 5 * u0) 6)), some (.int (0 : Int32))]) dX9_touching_6 (by decide) rfl ?_
  obtain ⟨x6, hx6, h⟩ := bind_some h
  refine k_loop (P := fun xq => KJ (Rep D B shpC) A 4 0 0 Q p l e ({ frames := 1, cells := 0, slots := 0, locals := 21 } : Room) s m args below meth c 0 0 7 [some (.ref (B + (57 + 5 * u0))), some (.ref (B + 10)), some (.int xq.1), some (.int xq.2)] [] σ) (C := fun xq => KJ (Rep D B shpC) A 4 0 0 Q p l e ({ frames := 1, cells := 0, slots := 0, locals := 21 } : Room) s m args below meth c 0 0 43 [some (.ref (B + (57 + 5 * u0))), some (.ref (B + 10)), some (.int xq.1), some (.int xq.2)] [] σ) (fun x z hz hc he => wX9_touching_l7 hF hA hbs q0 hz hc he) hx6 ?_
  show KJ (Rep D B shpC) A 4 0 0 Q p l e ({ frames := 1, cells := 0, slots := 0, locals := 21 } : Room) s m args below meth c 0 0 43 [some (.ref (B + (57 + 5 * u0))), some (.ref (B + 10)), some (.int x6.1), some (.int x6.2)] [] σ
  refine k_iconst hF dX9_touching_43 ci_0 ?_
  refine k_istore_n hF (L' := [some (.ref (B + (57 + 5 * u0))), some (.ref (B + 10)), some (.int x6.1), some (.int (0 : Int32))]) dX9_touching_44 (by decide) rfl ?_
  obtain ⟨x14, hx14, h⟩ := bind_some h
  refine k_loop (P := fun xq => KJ (Rep D B shpC) A 4 0 0 Q p l e ({ frames := 1, cells := 0, slots := 0, locals := 21 } : Room) s m args below meth c 0 0 45 [some (.ref (B + (57 + 5 * u0))), some (.ref (B + 10)), some (.int xq.1), some (.int xq.2)] [] σ) (C := fun xq => KJ (Rep D B shpC) A 4 0 0 Q p l e ({ frames := 1, cells := 0, slots := 0, locals := 21 } : Room) s m args below meth c 0 0 89 [some (.ref (B + (57 + 5 * u0))), some (.ref (B + 10)), some (.int xq.1), some (.int xq.2)] [] σ) (fun x z hz hc he => wX9_touching_l45 hF hA hbs q0 hz hc he) hx14 ?_
  show KJ (Rep D B shpC) A 4 0 0 Q p l e ({ frames := 1, cells := 0, slots := 0, locals := 21 } : Room) s m args below meth c 0 0 89 [some (.ref (B + (57 + 5 * u0))), some (.ref (B + 10)), some (.int x14.1), some (.int x14.2)] [] σ
  refine k_iload_n hF dX9_touching_89 rfl ?_
  cases h
  exact hr _ _ rfl dX9_touching_90
theorem ct_X9_touching {l : Launch} {D : DD} {base B : Nat} (hbs : base ≤ B) {σ : St} {u0 : Nat} (q0 : u0 < 4) {r : Int32} (h : fX9_touching σ u0 = some r) : MetR l D B shpC base yX9_touching cX9_touching 4 (some .int) 1 21 [.ref (B + (57 + 5 * u0)), .ref (B + 10)] σ (some (.int r)) σ :=
  MetR.of (by decide +kernel) (fun v hv => by simp only [List.mem_cons, List.not_mem_nil, or_false] at hv; rcases hv with rfl | rfl <;> rfl) (Nat.le_of_ble_eq_true rfl) hbs (fun p e s m args below meth c hF hr => wX9_touching hF (fun q hq => hq) hbs q0 h (fun pc L hn hd => k_iret hF hr hn hd))
set_option maxHeartbeats 4000000 in
set_option maxRecDepth 100000 in
theorem wX8_taken_j10 {p : Program} {l : Launch} {e : Env} {s : State} {m : MethodId} {args : Array Value} {below : List Frame} {meth : Method} {c : Code} {Q : State → Prop} {A : Nat → Prop} {D : DD} {base B : Nat} (hF : KF D base cX8_taken RX8 A 1 0 0 p l e ({ frames := 0, cells := 0, slots := 0, locals := 0 } : Room) s m args below meth c) (hA : ∀ q, RA B shpC q → A q) (hbs : base ≤ B) {σ : St} {a0 : Int32} {z : Int32} (h : fX8_taken_j10 σ a0 = some z) (hr : ∀ (pc : Nat) (L : List (Option Value)), narrow .int (.int z) = .int z → decode cX8_taken pc = .ok (.ireturn, 1) → KJ (Rep D B shpC) A 1 0 0 Q p l e ({ frames := 0, cells := 0, slots := 0, locals := 0 } : Room) s m args below meth c 0 0 pc L [.int z] σ) : KJ (Rep D B shpC) A 1 0 0 Q p l e ({ frames := 0, cells := 0, slots := 0, locals := 0 } : Room) s m args below meth c 0 0 10 [some (.int a0)] [] σ := by
  unfold fX8_taken_j10 at h
  refine k_iconst hF dX8_taken_10 ci_2 ?_
  cases h
  exact hr _ _ rfl dX8_taken_11
set_option maxHeartbeats 4000000 in
set_option maxRecDepth 100000 in
theorem wX8_taken {p : Program} {l : Launch} {e : Env} {s : State} {m : MethodId} {args : Array Value} {below : List Frame} {meth : Method} {c : Code} {Q : State → Prop} {A : Nat → Prop} {D : DD} {base B : Nat} (hF : KF D base cX8_taken RX8 A 1 0 0 p l e ({ frames := 0, cells := 0, slots := 0, locals := 0 } : Room) s m args below meth c) (hA : ∀ q, RA B shpC q → A q) (hbs : base ≤ B) {σ : St} {a0 : Int32} {z : Int32} (h : fX8_taken σ a0 = some z) (hr : ∀ (pc : Nat) (L : List (Option Value)), narrow .int (.int z) = .int z → decode cX8_taken pc = .ok (.ireturn, 1) → KJ (Rep D B shpC) A 1 0 0 Q p l e ({ frames := 0, cells := 0, slots := 0, locals := 0 } : Room) s m args below meth c 0 0 pc L [.int z] σ) : KJ (Rep D B shpC) A 1 0 0 Q p l e ({ frames := 0, cells := 0, slots := 0, locals := 0 } : Room) s m args below meth c 0 0 0 [some (.int a0)] [] σ := by
  unfold fX8_taken at h
  refine k_iload_n hF dX8_taken_0 rfl ?_
  refine k_iconst hF dX8_taken_1 ci_3 ?_
  refine k_icmp_eq hF (tgt := 10) dX8_taken_2 (by decide) (fun c1 => ?_) (fun c1 => ?_)
  · replace h := ite_t c1 h
    exact wX8_taken_j10 hF hA hbs h hr
  · replace h := ite_f c1 h
    refine k_iload_n hF dX8_taken_5 rfl ?_
    refine k_iconst hF dX8_taken_6 ci_4 ?_
    refine k_icmp_ne hF (tgt := 12) dX8_taken_7 (by decide) (fun c2 => ?_) (fun c2 => ?_)
    · replace h := ite_f c2 h
      refine k_iload_n hF dX8_taken_12 rfl ?_
      refine k_iconst hF dX8_taken_13 ci_5 ?_
      refine k_icmp_ne hF (tgt := 21) dX8_taken_14 (by decide) (fun c3 => ?_) (fun c3 => ?_)
      · replace h := ite_f c3 h
        refine k_iconst hF dX8_taken_21 ci_0 ?_
        cases h
        exact hr _ _ rfl dX8_taken_22
      · replace h := ite_t c3 h
        refine k_iconst hF dX8_taken_17 ci_1 ?_
        refine k_goto hF dX8_taken_18 (tgt := 22) (by decide) ?_
        cases h
        exact hr _ _ rfl dX8_taken_22
    · replace h := ite_t c2 h
      exact wX8_taken_j10 hF hA hbs h hr
theorem ct_X8_taken {l : Launch} {D : DD} {base B : Nat} (hbs : base ≤ B) {σ : St} {a0 : Int32} {r : Int32} (h : fX8_taken σ a0 = some r) : MetR l D B shpC base yX8_taken cX8_taken 1 (some .int) 0 0 [.int a0] σ (some (.int r)) σ :=
  MetR.of (by decide +kernel) (fun v hv => by simp only [List.mem_cons, List.not_mem_nil, or_false] at hv; rcases hv with rfl <;> rfl) (Nat.le_of_ble_eq_true rfl) hbs (fun p e s m args below meth c hF hr => wX8_taken hF (fun q hq => hq) hbs h (fun pc L hn hd => k_iret hF hr hn hd))
set_option maxHeartbeats 4000000 in
set_option maxRecDepth 100000 in
theorem wX8_put_j109 {p : Program} {l : Launch} {e : Env} {s : State} {m : MethodId} {args : Array Value} {below : List Frame} {meth : Method} {c : Code} {Q : State → Prop} {A : Nat → Prop} {D : DD} {base B : Nat} (hF : KF D base cX8_put RX8 A 4 0 0 p l e ({ frames := 1, cells := 0, slots := 0, locals := 20 } : Room) s m args below meth c) (hA : ∀ q, RA B shpC q → A q) (hbs : base ≤ B) {σ : St} {u0 : Nat} {a1 : Int32} {a2 : Int32} (q0 : u0 < 7) {z : St} (h : fX8_put_j109 σ u0 a1 a2 = some z) (hr : ∀ (pc : Nat) (L : List (Option Value)), decode cX8_put pc = .ok (.return_, 1) → KJ (Rep D B shpC) A 4 0 0 Q p l e ({ frames := 1, cells := 0, slots := 0, locals := 20 } : Room) s m args below meth c 0 0 pc L [] z) : KJ (Rep D B shpC) A 4 0 0 Q p l e ({ frames := 1, cells := 0, slots := 0, locals := 20 } : Room) s m args below meth c 0 0 109 [some (.ref (B + (78 + 6 * u0))), some (.int a1), some (.int a2), none] [] σ := by
  unfold fX8_put_j109 at h
  refine k_aload_n hF dX8_put_109 rfl ?_
  refine k_get hF (v := .ref (B + (83 + 6 * u0))) (shC_PT u0 q0) fl_X8_24_X8 dX8_put_110 rfl ?_
  refine k_aload_n hF dX8_put_113 rfl ?_
  refine k_get hF (v := .int (gi σ (78 + 6 * u0) 6)) (shC_PT u0 q0) fl_X8_31_X8 dX8_put_114 rfl ?_
  refine k_aload_n hF dX8_put_117 rfl ?_
  refine k_get hF (v := .int (gi σ (78 + 6 * u0) 5)) (shC_PT u0 q0) fl_X8_27_X8 dX8_put_118 rfl ?_
  obtain ⟨g10, h⟩ := gd_some h
  refine k_iast hF hA (shC_PT_4 u0 q0) dX8_put_121 g10 ?_
  obtain ⟨σ11, hσ11, h⟩ := lt_some h
  refine k_sig hσ11 ?_
  refine k_aload_n hF dX8_put_122 rfl ?_
  refine k_dup hF dX8_put_123 rfl ?_
  refine k_get hF (v := .int (gi σ11 (78 + 6 * u0) 6)) (shC_PT u0 q0) fl_X8_31_X8 dX8_put_124 rfl ?_
  refine k_iconst hF dX8_put_127 ci_1 ?_
  refine k_iadd hF dX8_put_128 ?_
  refine k_putI hF hA (shC_PT u0 q0) fp_X8_31_X8 dX8_put_129 rfl rfl rfl ?_
  obtain ⟨σ12, hσ12, h⟩ := lt_some h
  refine k_sig hσ12 ?_
  refine k_aload_n hF dX8_put_132 rfl ?_
  refine k_dup hF dX8_put_133 rfl ?_
  refine k_get hF (v := .int (gi σ12 (78 + 6 * u0) 5)) (shC_PT u0 q0) fl_X8_27_X8 dX8_put_134 rfl ?_
  refine k_iconst hF dX8_put_137 ci_1 ?_
  refine k_iadd hF dX8_put_138 ?_
  refine k_putI hF hA (shC_PT u0 q0) fp_X8_27_X8 dX8_put_139 rfl rfl rfl ?_
  obtain ⟨σ13, hσ13, h⟩ := lt_some h
  refine k_sig hσ13 ?_
  cases h
  exact hr _ _ dX8_put_142
set_option maxHeartbeats 4000000 in
set_option maxRecDepth 100000 in
theorem wX8_put_j76 {p : Program} {l : Launch} {e : Env} {s : State} {m : MethodId} {args : Array Value} {below : List Frame} {meth : Method} {c : Code} {Q : State → Prop} {A : Nat → Prop} {D : DD} {base B : Nat} (hF : KF D base cX8_put RX8 A 4 0 0 p l e ({ frames := 1, cells := 0, slots := 0, locals := 20 } : Room) s m args below meth c) (hA : ∀ q, RA B shpC q → A q) (hbs : base ≤ B) {σ : St} {u0 : Nat} {a1 : Int32} {a2 : Int32} (q0 : u0 < 7) {b3 : Int32} {z : St} (h : fX8_put_j76 σ u0 a1 a2 b3 = some z) (hr : ∀ (pc : Nat) (L : List (Option Value)), decode cX8_put pc = .ok (.return_, 1) → KJ (Rep D B shpC) A 4 0 0 Q p l e ({ frames := 1, cells := 0, slots := 0, locals := 20 } : Room) s m args below meth c 0 0 pc L [] z) : KJ (Rep D B shpC) A 4 0 0 Q p l e ({ frames := 1, cells := 0, slots := 0, locals := 20 } : Room) s m args below meth c 0 0 76 [some (.ref (B + (78 + 6 * u0))), some (.int a1), some (.int a2), some (.int b3)] [] σ := by
  unfold fX8_put_j76 at h
  refine k_iload_n hF dX8_put_76 rfl ?_
  refine k_iconst hF dX8_put_77 ci_1 ?_
  refine k_icmp_lt hF (tgt := 109) dX8_put_78 (by decide) (fun c9 => ?_) (fun c9 => ?_)
  · replace h := ite_t c9 h
    refine k_kill 3 rfl ?_
    exact wX8_put_j109 hF hA hbs q0 h hr
  · replace h := ite_f c9 h
    refine k_aload_n hF dX8_put_81 rfl ?_
    refine k_dup hF dX8_put_82 rfl ?_
    refine k_get hF (v := .int (gi σ (78 + 6 * u0) 6)) (shC_PT u0 q0) fl_X8_31_X8 dX8_put_83 rfl ?_
    refine k_iconst hF dX8_put_86 ci_1 ?_
    refine k_isub hF dX8_put_87 ?_
    refine k_putI hF hA (shC_PT u0 q0) fp_X8_31_X8 dX8_put_88 rfl rfl rfl ?_
    obtain ⟨σ14, hσ14, h⟩ := lt_some h
    refine k_sig hσ14 ?_
    refine k_aload_n hF dX8_put_91 rfl ?_
    refine k_get hF (v := .ref (B + (81 + 6 * u0))) (shC_PT u0 q0) fl_X8_18_X8 dX8_put_92 rfl ?_
    refine k_aload_n hF dX8_put_95 rfl ?_
    refine k_get hF (v := .int (gi σ14 (78 + 6 * u0) 5)) (shC_PT u0 q0) fl_X8_27_X8 dX8_put_96 rfl ?_
    refine k_aload_n hF dX8_put_99 rfl ?_
    refine k_get hF (v := .ref (B + (83 + 6 * u0))) (shC_PT u0 q0) fl_X8_24_X8 dX8_put_100 rfl ?_
    refine k_aload_n hF dX8_put_103 rfl ?_
    refine k_get hF (v := .int (gi σ14 (78 + 6 * u0) 6)) (shC_PT u0 q0) fl_X8_31_X8 dX8_put_104 rfl ?_
    obtain ⟨g15, h⟩ := gd_some h
    refine k_iald hF (shC_PT_4 u0 q0) dX8_put_107 g15 ?_
    obtain ⟨g16, h⟩ := gd_some h
    refine k_iast hF hA (shC_PT_2 u0 q0) dX8_put_108 g16 ?_
    obtain ⟨σ17, hσ17, h⟩ := lt_some h
    refine k_sig hσ17 ?_
    refine k_kill 3 rfl ?_
    exact wX8_put_j109 hF hA hbs q0 h hr
set_option maxHeartbeats 4000000 in
set_option maxRecDepth 100000 in
theorem wX8_put {p : Program} {l : Launch} {e : Env} {s : State} {m : MethodId} {args : Array Value} {below : List Frame} {meth : Method} {c : Code} {Q : State → Prop} {A : Nat → Prop} {D : DD} {base B : Nat} (hF : KF D base cX8_put RX8 A 4 0 0 p l e ({ frames := 1, cells := 0, slots := 0, locals := 20 } : Room) s m args below meth c) (hA : ∀ q, RA B shpC q → A q) (hbs : base ≤ B) {σ : St} {u0 : Nat} {a1 : Int32} {a2 : Int32} (q0 : u0 < 7) {z : St} (h : fX8_put σ u0 a1 a2 = some z) (hr : ∀ (pc : Nat) (L : List (Option Value)), decode cX8_put pc = .ok (.return_, 1) → KJ (Rep D B shpC) A 4 0 0 Q p l e ({ frames := 1, cells := 0, slots := 0, locals := 20 } : Room) s m args below meth c 0 0 pc L [] z) : KJ (Rep D B shpC) A 4 0 0 Q p l e ({ frames := 1, cells := 0, slots := 0, locals := 20 } : Room) s m args below meth c 0 0 0 [some (.ref (B + (78 + 6 * u0))), some (.int a1), some (.int a2), none] [] σ := by
  unfold fX8_put at h
  refine k_iload_n hF dX8_put_0 rfl ?_
  obtain ⟨v1, hv1, h⟩ := bind_some h
  refine k_callS hF hA (as := [.int a1]) (ct_X8_taken hbs hv1) ms_X8_34 rfl rfl ⟨Nat.le_of_ble_eq_true rfl, Nat.le_of_ble_eq_true rfl⟩ (Nat.le_of_ble_eq_true rfl) dX8_put_1 ?_
  refine k_st (st2 := [.int v1]) rfl ?_
  refine k_istore_n hF (L' := [some (.ref (B + (78 + 6 * u0))), some (.int a1), some (.int a2), some (.int v1)]) dX8_put_4 (by decide) rfl ?_
  refine k_aload_n hF dX8_put_5 rfl ?_
  refine k_get hF (v := .int (gi σ (78 + 6 * u0) 5)) (shC_PT u0 q0) fl_X8_27_X8 dX8_put_6 rfl ?_
  refine k_bipush hF (v := (12 : Int32)) dX8_put_9 (by decide) ?_
  refine k_icmp_ge hF (tgt := 22) dX8_put_11 (by decide) (fun c2 => ?_) (fun c2 => ?_)
  · replace h := ite_t c2 h
    cases h
    exact hr _ _ dX8_put_22
  · replace h := ite_f c2 h
    refine k_aload_n hF dX8_put_14 rfl ?_
    refine k_get hF (v := .int (gi σ (78 + 6 * u0) 6)) (shC_PT u0 q0) fl_X8_31_X8 dX8_put_15 rfl ?_
    refine k_iload_n hF dX8_put_18 rfl ?_
    refine k_icmp_ge hF (tgt := 23) dX8_put_19 (by decide) (fun c3 => ?_) (fun c3 => ?_)
    · replace h := ite_t c3 h
      refine k_aload_n hF dX8_put_23 rfl ?_
      refine k_get hF (v := .ref (B + (79 + 6 * u0))) (shC_PT u0 q0) fl_X8_9_X8 dX8_put_24 rfl ?_
      refine k_aload_n hF dX8_put_27 rfl ?_
      refine k_get hF (v := .int (gi σ (78 + 6 * u0) 5)) (shC_PT u0 q0) fl_X8_27_X8 dX8_put_28 rfl ?_
      refine k_iload_n hF dX8_put_31 rfl ?_
      obtain ⟨g4, h⟩ := gd_some h
      refine k_iast hF hA (shC_PT_0 u0 q0) dX8_put_32 g4 ?_
      obtain ⟨σ5, hσ5, h⟩ := lt_some h
      refine k_sig hσ5 ?_
      refine k_aload_n hF dX8_put_33 rfl ?_
      refine k_get hF (v := .ref (B + (80 + 6 * u0))) (shC_PT u0 q0) fl_X8_15_X8 dX8_put_34 rfl ?_
      refine k_aload_n hF dX8_put_37 rfl ?_
      refine k_get hF (v := .int (gi σ5 (78 + 6 * u0) 5)) (shC_PT u0 q0) fl_X8_27_X8 dX8_put_38 rfl ?_
      refine k_iload_n hF dX8_put_41 rfl ?_
      obtain ⟨g6, h⟩ := gd_some h
      refine k_iast hF hA (shC_PT_1 u0 q0) dX8_put_42 g6 ?_
      obtain ⟨σ7, hσ7, h⟩ := lt_some h
      refine k_sig hσ7 ?_
      refine k_iload_n hF dX8_put_43 rfl ?_
      refine k_iconst hF dX8_put_44 ci_2 ?_
      refine k_icmp_ne hF (tgt := 76) dX8_put_45 (by decide) (fun c8 => ?_) (fun c8 => ?_)
      · replace h := ite_f c8 h
        exact wX8_put_j76 hF hA hbs q0 h hr
      · replace h := ite_t c8 h
        refine k_aload_n hF dX8_put_48 rfl ?_
        refine k_dup hF dX8_put_49 rfl ?_
        refine k_get hF (v := .int (gi σ7 (78 + 6 * u0) 6)) (shC_PT u0 q0) fl_X8_31_X8 dX8_put_50 rfl ?_
        refine k_iconst hF dX8_put_53 ci_1 ?_
        refine k_isub hF dX8_put_54 ?_
        refine k_putI hF hA (shC_PT u0 q0) fp_X8_31_X8 dX8_put_55 rfl rfl rfl ?_
        obtain ⟨σ18, hσ18, h⟩ := lt_some h
        refine k_sig hσ18 ?_
        refine k_aload_n hF dX8_put_58 rfl ?_
        refine k_get hF (v := .ref (B + (82 + 6 * u0))) (shC_PT u0 q0) fl_X8_21_X8 dX8_put_59 rfl ?_
        refine k_aload_n hF dX8_put_62 rfl ?_
        refine k_get hF (v := .int (gi σ18 (78 + 6 * u0) 5)) (shC_PT u0 q0) fl_X8_27_X8 dX8_put_63 rfl ?_
        refine k_aload_n hF dX8_put_66 rfl ?_
        refine k_get hF (v := .ref (B + (83 + 6 * u0))) (shC_PT u0 q0) fl_X8_24_X8 dX8_put_67 rfl ?_
        refine k_aload_n hF dX8_put_70 rfl ?_
        refine k_get hF (v := .int (gi σ18 (78 + 6 * u0) 6)) (shC_PT u0 q0) fl_X8_31_X8 dX8_put_71 rfl ?_
        obtain ⟨g19, h⟩ := gd_some h
        refine k_iald hF (shC_PT_4 u0 q0) dX8_put_74 g19 ?_
        obtain ⟨g20, h⟩ := gd_some h
        refine k_iast hF hA (shC_PT_3 u0 q0) dX8_put_75 g20 ?_
        obtain ⟨σ21, hσ21, h⟩ := lt_some h
        refine k_sig hσ21 ?_
        exact wX8_put_j76 hF hA hbs q0 h hr
    · replace h := ite_f c3 h
      cases h
      exact hr _ _ dX8_put_22
theorem ct_X8_put {l : Launch} {D : DD} {base B : Nat} (hbs : base ≤ B) {σ : St} {u0 : Nat} {a1 : Int32} {a2 : Int32} (q0 : u0 < 7) {r : St} (h : fX8_put σ u0 a1 a2 = some r) : MetR l D B shpC base yX8_put cX8_put 4 none 1 20 [.ref (B + (78 + 6 * u0)), .int a1, .int a2] σ none r :=
  MetR.of (by decide +kernel) (fun v hv => by simp only [List.mem_cons, List.not_mem_nil, or_false] at hv; rcases hv with rfl | rfl | rfl <;> rfl) (Nat.le_of_ble_eq_true rfl) hbs (fun p e s m args below meth c hF hr => wX8_put hF (fun q hq => hq) hbs q0 h (fun pc L hd => k_vret hF hr hd))
set_option maxHeartbeats 4000000 in
set_option maxRecDepth 100000 in
theorem wX1_addRule {p : Program} {l : Launch} {e : Env} {s : State} {m : MethodId} {args : Array Value} {below : List Frame} {meth : Method} {c : Code} {Q : State → Prop} {A : Nat → Prop} {D : DD} {base B : Nat} (hF : KF D base cX1_addRule RX1 A 5 0 0 p l e ({ frames := 0, cells := 0, slots := 0, locals := 0 } : Room) s m args below meth c) (hA : ∀ q, RA B shpC q → A q) (hbs : base ≤ B) {σ : St} {a1 : Int32} {a2 : Int32} {a3 : Int32} {z : (Int32 × St)} (h : fX1_addRule σ a1 a2 a3 = some z) (hr : ∀ (pc : Nat) (L : List (Option Value)), narrow .int (.int z.1) = .int z.1 → decode cX1_addRule pc = .ok (.ireturn, 1) → KJ (Rep D B shpC) A 5 0 0 Q p l e ({ frames := 0, cells := 0, slots := 0, locals := 0 } : Room) s m args below meth c 0 0 pc L [.int z.1] z.2) : KJ (Rep D B shpC) A 5 0 0 Q p l e ({ frames := 0, cells := 0, slots := 0, locals := 0 } : Room) s m args below meth c 0 0 0 [some (.ref (B + 23)), some (.int a1), some (.int a2), some (.int a3), none] [] σ := by
  unfold fX1_addRule at h
  refine k_aload_n hF dX1_addRule_0 rfl ?_
  refine k_get hF (v := .int (gi σ 23 7)) shC_23 fl_X1_33_X1 dX1_addRule_1 rfl ?_
  refine k_istore hF (L' := [some (.ref (B + 23)), some (.int a1), some (.int a2), some (.int a3), some (.int (gi σ 23 7))]) dX1_addRule_4 (by decide) rfl ?_
  refine k_aload_n hF dX1_addRule_6 rfl ?_
  refine k_dup hF dX1_addRule_7 rfl ?_
  refine k_get hF (v := .int (gi σ 23 7)) shC_23 fl_X1_33_X1 dX1_addRule_8 rfl ?_
  refine k_iconst hF dX1_addRule_11 ci_1 ?_
  refine k_iadd hF dX1_addRule_12 ?_
  refine k_putI hF hA shC_23 fp_X1_33_X1 dX1_addRule_13 rfl rfl rfl ?_
  obtain ⟨σ1, hσ1, h⟩ := lt_some h
  refine k_sig hσ1 ?_
  refine k_aload_n hF dX1_addRule_16 rfl ?_
  refine k_get hF (v := .ref (B + 24)) shC_23 fl_X1_9_X1 dX1_addRule_17 rfl ?_
  refine k_iload hF dX1_addRule_20 rfl ?_
  refine k_iload_n hF dX1_addRule_22 rfl ?_
  obtain ⟨g2, h⟩ := gd_some h
  refine k_iast hF hA shC_24 dX1_addRule_23 g2 ?_
  obtain ⟨σ3, hσ3, h⟩ := lt_some h
  refine k_sig hσ3 ?_
  refine k_aload_n hF dX1_addRule_24 rfl ?_
  refine k_get hF (v := .ref (B + 25)) shC_23 fl_X1_15_X1 dX1_addRule_25 rfl ?_
  refine k_iload hF dX1_addRule_28 rfl ?_
  refine k_iload_n hF dX1_addRule_30 rfl ?_
  obtain ⟨g4, h⟩ := gd_some h
  refine k_iast hF hA shC_25 dX1_addRule_31 g4 ?_
  obtain ⟨σ5, hσ5, h⟩ := lt_some h
  refine k_sig hσ5 ?_
  refine k_aload_n hF dX1_addRule_32 rfl ?_
  refine k_get hF (v := .ref (B + 26)) shC_23 fl_X1_18_X1 dX1_addRule_33 rfl ?_
  refine k_iload hF dX1_addRule_36 rfl ?_
  refine k_iload_n hF dX1_addRule_38 rfl ?_
  obtain ⟨g6, h⟩ := gd_some h
  refine k_iast hF hA shC_26 dX1_addRule_39 g6 ?_
  obtain ⟨σ7, hσ7, h⟩ := lt_some h
  refine k_sig hσ7 ?_
  refine k_iload hF dX1_addRule_40 rfl ?_
  cases h
  exact hr _ _ rfl dX1_addRule_42
theorem ct_X1_addRule {l : Launch} {D : DD} {base B : Nat} (hbs : base ≤ B) {σ : St} {a1 : Int32} {a2 : Int32} {a3 : Int32} {r : (Int32 × St)} (h : fX1_addRule σ a1 a2 a3 = some r) : MetR l D B shpC base yX1_addRule cX1_addRule 5 (some .int) 0 0 [.ref (B + 23), .int a1, .int a2, .int a3] σ (some (.int r.1)) r.2 :=
  MetR.of (by decide +kernel) (fun v hv => by simp only [List.mem_cons, List.not_mem_nil, or_false] at hv; rcases hv with rfl | rfl | rfl | rfl <;> rfl) (Nat.le_of_ble_eq_true rfl) hbs (fun p e s m args below meth c hF hr => wX1_addRule hF (fun q hq => hq) hbs h (fun pc L hn hd => k_iret hF hr hn hd))
set_option maxHeartbeats 4000000 in
set_option maxRecDepth 100000 in
theorem wX1_takeTold_l9 {p : Program} {l : Launch} {e : Env} {s : State} {m : MethodId} {args : Array Value} {below : List Frame} {meth : Method} {c : Code} {Q : State → Prop} {A : Nat → Prop} {D : DD} {base B : Nat} (hF : KF D base cX1_takeTold RX1 A 3 0 0 p l e ({ frames := 1, cells := 0, slots := 0, locals := 21 } : Room) s m args below meth c) (hA : ∀ q, RA B shpC q → A q) (hbs : base ≤ B) {σ : St} {ea1b : Int32} {x : (St × Int32)} {z : ((St × Int32) ⊕ (St × Int32))} (h : fX1_takeTold_l9 σ ea1b x = some z) (hc : ∀ x, z = .inl x → KJ (Rep D B shpC) A 3 0 0 Q p l e ({ frames := 1, cells := 0, slots := 0, locals := 21 } : Room) s m args below meth c 0 0 9 [some (.ref (B + 23)), some (.int ea1b), some (.int x.2)] [] x.1) (he : ∀ w, z = .inr w → KJ (Rep D B shpC) A 3 0 0 Q p l e ({ frames := 1, cells := 0, slots := 0, locals := 21 } : Room) s m args below meth c 0 0 30 [some (.ref (B + 23)), some (.int ea1b), some (.int w.2)] [] w.1) : KJ (Rep D B shpC) A 3 0 0 Q p l e ({ frames := 1, cells := 0, slots := 0, locals := 21 } : Room) s m args below meth c 0 0 9 [some (.ref (B + 23)), some (.int ea1b), some (.int x.2)] [] x.1 := by
  unfold fX1_takeTold_l9 at h
  refine k_iload_n hF dX1_takeTold_9 rfl ?_
  refine k_bipush hF (v := (24 : Int32)) dX1_takeTold_10 (by decide) ?_
  refine k_icmp_ge hF (tgt := 30) dX1_takeTold_12 (by decide) (fun c2 => ?_) (fun c2 => ?_)
  · replace h := ite_t c2 h
    exact he _ (Option.some.inj h).symm
  · replace h := ite_f c2 h
    refine k_aload_n hF dX1_takeTold_15 rfl ?_
    refine k_get hF (v := .ref (B + 28)) shC_23 fl_X1_27_X1 dX1_takeTold_16 rfl ?_
    refine k_iload_n hF dX1_takeTold_19 rfl ?_
    obtain ⟨g3, h⟩ := gd_some h
    refine k_aald hF (q0 := (29 + ea1b.toNatClampNeg)) shC_28 rfl dX1_takeTold_20 g3 rfl ?_
    refine k_iload_n hF dX1_takeTold_21 rfl ?_
    refine k_iconst hF dX1_takeTold_22 ci_0 ?_
    obtain ⟨g4, h⟩ := gd_some h
    refine k_iast hF hA (shC_TOLD ea1b.toNatClampNeg (inb_lt g3)) dX1_takeTold_23 g4 ?_
    obtain ⟨σ5, hσ5, h⟩ := lt_some h
    refine k_sig hσ5 ?_
    refine k_iinc hF (v := (x.2 + (1 : Int32))) (L' := [some (.ref (B + 23)), some (.int ea1b), some (.int (x.2 + (1 : Int32)))]) dX1_takeTold_24 rfl (by first | rfl | (congr 1)) (by decide) rfl ?_
    refine k_goto hF dX1_takeTold_27 (tgt := 9) (by decide) ?_
    exact hc _ (Option.some.inj h).symm
set_option maxHeartbeats 4000000 in
set_option maxRecDepth 100000 in
theorem wX1_takeTold_l2 {p : Program} {l : Launch} {e : Env} {s : State} {m : MethodId} {args : Array Value} {below : List Frame} {meth : Method} {c : Code} {Q : State → Prop} {A : Nat → Prop} {D : DD} {base B : Nat} (hF : KF D base cX1_takeTold RX1 A 3 0 0 p l e ({ frames := 1, cells := 0, slots := 0, locals := 21 } : Room) s m args below meth c) (hA : ∀ q, RA B shpC q → A q) (hbs : base ≤ B) {σ : St} {x : (St × Int32)} {z : ((St × Int32) ⊕ (St × Int32))} (h : fX1_takeTold_l2 σ x = some z) (hc : ∀ x, z = .inl x → KJ (Rep D B shpC) A 3 0 0 Q p l e ({ frames := 1, cells := 0, slots := 0, locals := 21 } : Room) s m args below meth c 0 0 2 [some (.ref (B + 23)), some (.int x.2), none] [] x.1) (he : ∀ w, z = .inr w → KJ (Rep D B shpC) A 3 0 0 Q p l e ({ frames := 1, cells := 0, slots := 0, locals := 21 } : Room) s m args below meth c 0 0 36 [some (.ref (B + 23)), some (.int w.2), none] [] w.1) : KJ (Rep D B shpC) A 3 0 0 Q p l e ({ frames := 1, cells := 0, slots := 0, locals := 21 } : Room) s m args below meth c 0 0 2 [some (.ref (B + 23)), some (.int x.2), none] [] x.1 := by
  unfold fX1_takeTold_l2 at h
  refine k_iload_n hF dX1_takeTold_2 rfl ?_
  refine k_iconst hF dX1_takeTold_3 ci_4 ?_
  refine k_icmp_ge hF (tgt := 36) dX1_takeTold_4 (by decide) (fun c1 => ?_) (fun c1 => ?_)
  · replace h := ite_t c1 h
    exact he _ (Option.some.inj h).symm
  · replace h := ite_f c1 h
    refine k_iconst hF dX1_takeTold_7 ci_0 ?_
    refine k_istore_n hF (L' := [some (.ref (B + 23)), some (.int x.2), some (.int (0 : Int32))]) dX1_takeTold_8 (by decide) rfl ?_
    obtain ⟨x6, hx6, h⟩ := bind_some h
    refine k_loop (P := fun xq => KJ (Rep D B shpC) A 3 0 0 Q p l e ({ frames := 1, cells := 0, slots := 0, locals := 21 } : Room) s m args below meth c 0 0 9 [some (.ref (B + 23)), some (.int x.2), some (.int xq.2)] [] xq.1) (C := fun xq => KJ (Rep D B shpC) A 3 0 0 Q p l e ({ frames := 1, cells := 0, slots := 0, locals := 21 } : Room) s m args below meth c 0 0 30 [some (.ref (B + 23)), some (.int x.2), some (.int xq.2)] [] xq.1) (fun x z hz hc he => wX1_takeTold_l9 hF hA hbs hz hc he) hx6 ?_
    show KJ (Rep D B shpC) A 3 0 0 Q p l e ({ frames := 1, cells := 0, slots := 0, locals := 21 } : Room) s m args below meth c 0 0 30 [some (.ref (B + 23)), some (.int x.2), some (.int x6.2)] [] x6.1
    refine k_iinc hF (v := (x.2 + (1 : Int32))) (L' := [some (.ref (B + 23)), some (.int (x.2 + (1 : Int32))), some (.int x6.2)]) dX1_takeTold_30 rfl (by first | rfl | (congr 1)) (by decide) rfl ?_
    refine k_goto hF dX1_takeTold_33 (tgt := 2) (by decide) ?_
    refine k_kill 2 rfl ?_
    exact hc _ (Option.some.inj h).symm
set_option maxHeartbeats 4000000 in
set_option maxRecDepth 100000 in
theorem wX1_takeTold_j99 {p : Program} {l : Launch} {e : Env} {s : State} {m : MethodId} {args : Array Value} {below : List Frame} {meth : Method} {c : Code} {Q : State → Prop} {A : Nat → Prop} {D : DD} {base B : Nat} (hF : KF D base cX1_takeTold RX1 A 3 0 0 p l e ({ frames := 1, cells := 0, slots := 0, locals := 21 } : Room) s m args below meth c) (hA : ∀ q, RA B shpC q → A q) (hbs : base ≤ B) {σ : St} {b1 : Int32} {z : ((St × Int32) ⊕ (St × Int32))} (h : fX1_takeTold_j99 σ b1 = some z) (hc : ∀ x, z = .inl x → KJ (Rep D B shpC) A 3 0 0 Q p l e ({ frames := 1, cells := 0, slots := 0, locals := 21 } : Room) s m args below meth c 0 0 38 [some (.ref (B + 23)), some (.int x.2), none] [] x.1) (he : ∀ w, z = .inr w → KJ (Rep D B shpC) A 3 0 0 Q p l e ({ frames := 1, cells := 0, slots := 0, locals := 21 } : Room) s m args below meth c 0 0 105 [some (.ref (B + 23)), some (.int w.2), none] [] w.1) : KJ (Rep D B shpC) A 3 0 0 Q p l e ({ frames := 1, cells := 0, slots := 0, locals := 21 } : Room) s m args below meth c 0 0 99 [some (.ref (B + 23)), some (.int b1), none] [] σ := by
  unfold fX1_takeTold_j99 at h
  refine k_iinc hF (v := (b1 + (1 : Int32))) (L' := [some (.ref (B + 23)), some (.int (b1 + (1 : Int32))), none]) dX1_takeTold_99 rfl (by first | rfl | (congr 1)) (by decide) rfl ?_
  refine k_goto hF dX1_takeTold_102 (tgt := 38) (by decide) ?_
  exact hc _ (Option.some.inj h).symm
set_option maxHeartbeats 4000000 in
set_option maxRecDepth 100000 in
theorem wX1_takeTold_l38 {p : Program} {l : Launch} {e : Env} {s : State} {m : MethodId} {args : Array Value} {below : List Frame} {meth : Method} {c : Code} {Q : State → Prop} {A : Nat → Prop} {D : DD} {base B : Nat} (hF : KF D base cX1_takeTold RX1 A 3 0 0 p l e ({ frames := 1, cells := 0, slots := 0, locals := 21 } : Room) s m args below meth c) (hA : ∀ q, RA B shpC q → A q) (hbs : base ≤ B) {σ : St} {x : (St × Int32)} {z : ((St × Int32) ⊕ (St × Int32))} (h : fX1_takeTold_l38 σ x = some z) (hc : ∀ x, z = .inl x → KJ (Rep D B shpC) A 3 0 0 Q p l e ({ frames := 1, cells := 0, slots := 0, locals := 21 } : Room) s m args below meth c 0 0 38 [some (.ref (B + 23)), some (.int x.2), none] [] x.1) (he : ∀ w, z = .inr w → KJ (Rep D B shpC) A 3 0 0 Q p l e ({ frames := 1, cells := 0, slots := 0, locals := 21 } : Room) s m args below meth c 0 0 105 [some (.ref (B + 23)), some (.int w.2), none] [] w.1) : KJ (Rep D B shpC) A 3 0 0 Q p l e ({ frames := 1, cells := 0, slots := 0, locals := 21 } : Room) s m args below meth c 0 0 38 [some (.ref (B + 23)), some (.int x.2), none] [] x.1 := by
  unfold fX1_takeTold_l38 at h
  refine k_iload_n hF dX1_takeTold_38 rfl ?_
  refine k_aload_n hF dX1_takeTold_39 rfl ?_
  refine k_get hF (v := .ref (B + 10)) shC_23 fl_X1_37_X1 dX1_takeTold_40 rfl ?_
  refine k_get hF (v := .int (gi x.1 10 2)) shC_10 fl_X1_48_X0 dX1_takeTold_43 rfl ?_
  refine k_icmp_ge hF (tgt := 105) dX1_takeTold_46 (by decide) (fun c8 => ?_) (fun c8 => ?_)
  · replace h := ite_t c8 h
    exact he _ (Option.some.inj h).symm
  · replace h := ite_f c8 h
    refine k_aload_n hF dX1_takeTold_49 rfl ?_
    refine k_get hF (v := .ref (B + 10)) shC_23 fl_X1_37_X1 dX1_takeTold_50 rfl ?_
    refine k_iload_n hF dX1_takeTold_53 rfl ?_
    obtain ⟨v9, hv9, h⟩ := bind_some h
    refine k_callU hF hA (as := [.int x.2]) (ct_X7_isThereE hbs hv9) mu_X1_53 shC_10 rfl rfl rfl ⟨Nat.le_of_ble_eq_true rfl, Nat.le_of_ble_eq_true rfl⟩ (Nat.le_of_ble_eq_true rfl) dX1_takeTold_54 ?_
    refine k_st (st2 := [.int v9]) rfl ?_
    refine k_if_eq hF (tgt := 99) dX1_takeTold_57 (by decide) (fun c10 => ?_) (fun c10 => ?_)
    · replace h := ite_t c10 h
      exact wX1_takeTold_j99 hF hA hbs h hc he
    · replace h := ite_f c10 h
      refine k_aload_n hF dX1_takeTold_60 rfl ?_
      refine k_get hF (v := .ref (B + 28)) shC_23 fl_X1_27_X1 dX1_takeTold_61 rfl ?_
      refine k_aload_n hF dX1_takeTold_64 rfl ?_
      refine k_get hF (v := .ref (B + 10)) shC_23 fl_X1_37_X1 dX1_takeTold_65 rfl ?_
      refine k_get hF (v := .ref (B + 14)) shC_10 fl_X1_57_X0 dX1_takeTold_68 rfl ?_
      refine k_iload_n hF dX1_takeTold_71 rfl ?_
      obtain ⟨g11, h⟩ := gd_some h
      refine k_iald hF shC_14 dX1_takeTold_72 g11 ?_
      obtain ⟨g12, h⟩ := gd_some h
      refine k_aald hF (q0 := (29 + (gi x.1 14 x.2.toNatClampNeg).toNatClampNeg)) shC_28 rfl dX1_takeTold_73 g12 rfl ?_
      refine k_aload_n hF dX1_takeTold_74 rfl ?_
      refine k_get hF (v := .ref (B + 10)) shC_23 fl_X1_37_X1 dX1_takeTold_75 rfl ?_
      refine k_get hF (v := .ref (B + 13)) shC_10 fl_X1_60_X0 dX1_takeTold_78 rfl ?_
      refine k_iload_n hF dX1_takeTold_81 rfl ?_
      obtain ⟨g13, h⟩ := gd_some h
      refine k_iald hF shC_13 dX1_takeTold_82 g13 ?_
      refine k_dup2 hF dX1_takeTold_83 rfl rfl ?_
      obtain ⟨g14, h⟩ := gd_some h
      refine k_iald hF (shC_TOLD (gi x.1 14 x.2.toNatClampNeg).toNatClampNeg (inb_lt g12)) dX1_takeTold_84 g14 ?_
      refine k_aload_n hF dX1_takeTold_85 rfl ?_
      refine k_get hF (v := .ref (B + 10)) shC_23 fl_X1_37_X1 dX1_takeTold_86 rfl ?_
      refine k_get hF (v := .ref (B + 15)) shC_10 fl_X1_63_X0 dX1_takeTold_89 rfl ?_
      refine k_iload_n hF dX1_takeTold_92 rfl ?_
      obtain ⟨g15, h⟩ := gd_some h
      refine k_iald hF shC_15 dX1_takeTold_93 g15 ?_
      obtain ⟨v16, hv16, h⟩ := bind_some h
      refine k_callSN hF hA (as := [.int (gi x.1 15 x.2.toNatClampNeg)]) (ct_X10_bit hbs hv16) msn_X1_66 rfl rfl ⟨Nat.le_of_ble_eq_true rfl, Nat.le_of_ble_eq_true rfl⟩ (Nat.le_of_ble_eq_true rfl) dX1_takeTold_94 ?_
      refine k_st (st2 := [.int v16, .int (gi x.1 (29 + (gi x.1 14 x.2.toNatClampNeg).toNatClampNeg) (gi x.1 13 x.2.toNatClampNeg).toNatClampNeg), .int (gi x.1 13 x.2.toNatClampNeg), .ref (B + (29 + (gi x.1 14 x.2.toNatClampNeg).toNatClampNeg))]) rfl ?_
      refine k_ior hF dX1_takeTold_97 ?_
      obtain ⟨g17, h⟩ := gd_some h
      refine k_iast hF hA (shC_TOLD (gi x.1 14 x.2.toNatClampNeg).toNatClampNeg (inb_lt g12)) dX1_takeTold_98 g17 ?_
      obtain ⟨σ18, hσ18, h⟩ := lt_some h
      refine k_sig hσ18 ?_
      exact wX1_takeTold_j99 hF hA hbs h hc he
set_option maxHeartbeats 4000000 in
set_option maxRecDepth 100000 in
theorem wX1_takeTold_l114 {p : Program} {l : Launch} {e : Env} {s : State} {m : MethodId} {args : Array Value} {below : List Frame} {meth : Method} {c : Code} {Q : State → Prop} {A : Nat → Prop} {D : DD} {base B : Nat} (hF : KF D base cX1_takeTold RX1 A 3 0 0 p l e ({ frames := 1, cells := 0, slots := 0, locals := 21 } : Room) s m args below meth c) (hA : ∀ q, RA B shpC q → A q) (hbs : base ≤ B) {σ : St} {ea1b : Int32} {x : (St × Int32)} {z : ((St × Int32) ⊕ (St × Int32))} (h : fX1_takeTold_l114 σ ea1b x = some z) (hc : ∀ x, z = .inl x → KJ (Rep D B shpC) A 3 0 0 Q p l e ({ frames := 1, cells := 0, slots := 0, locals := 21 } : Room) s m args below meth c 0 0 114 [some (.ref (B + 23)), some (.int ea1b), some (.int x.2)] [] x.1) (he : ∀ w, z = .inr w → KJ (Rep D B shpC) A 3 0 0 Q p l e ({ frames := 1, cells := 0, slots := 0, locals := 21 } : Room) s m args below meth c 0 0 142 [some (.ref (B + 23)), some (.int ea1b), some (.int w.2)] [] w.1) : KJ (Rep D B shpC) A 3 0 0 Q p l e ({ frames := 1, cells := 0, slots := 0, locals := 21 } : Room) s m args below meth c 0 0 114 [some (.ref (B + 23)), some (.int ea1b), some (.int x.2)] [] x.1 := by
  unfold fX1_takeTold_l114 at h
  refine k_iload_n hF dX1_takeTold_114 rfl ?_
  refine k_bipush hF (v := (24 : Int32)) dX1_takeTold_115 (by decide) ?_
  refine k_icmp_ge hF (tgt := 142) dX1_takeTold_117 (by decide) (fun c21 => ?_) (fun c21 => ?_)
  · replace h := ite_t c21 h
    exact he _ (Option.some.inj h).symm
  · replace h := ite_f c21 h
    refine k_aload_n hF dX1_takeTold_120 rfl ?_
    refine k_get hF (v := .ref (B + 33)) shC_23 fl_X1_30_X1 dX1_takeTold_121 rfl ?_
    refine k_iload_n hF dX1_takeTold_124 rfl ?_
    obtain ⟨g22, h⟩ := gd_some h
    refine k_aald hF (q0 := (34 + ea1b.toNatClampNeg)) shC_33 rfl dX1_takeTold_125 g22 rfl ?_
    refine k_iload_n hF dX1_takeTold_126 rfl ?_
    refine k_aload_n hF dX1_takeTold_127 rfl ?_
    refine k_get hF (v := .ref (B + 28)) shC_23 fl_X1_27_X1 dX1_takeTold_128 rfl ?_
    refine k_iload_n hF dX1_takeTold_131 rfl ?_
    obtain ⟨g23, h⟩ := gd_some h
    refine k_aald hF (q0 := (29 + ea1b.toNatClampNeg)) shC_28 rfl dX1_takeTold_132 g23 rfl ?_
    refine k_iload_n hF dX1_takeTold_133 rfl ?_
    obtain ⟨g24, h⟩ := gd_some h
    refine k_iald hF (shC_TOLD ea1b.toNatClampNeg (inb_lt g23)) dX1_takeTold_134 g24 ?_
    obtain ⟨g25, h⟩ := gd_some h
    refine k_iast hF hA (shC_KNOWN ea1b.toNatClampNeg (inb_lt g22)) dX1_takeTold_135 g25 ?_
    obtain ⟨σ26, hσ26, h⟩ := lt_some h
    refine k_sig hσ26 ?_
    refine k_iinc hF (v := (x.2 + (1 : Int32))) (L' := [some (.ref (B + 23)), some (.int ea1b), some (.int (x.2 + (1 : Int32)))]) dX1_takeTold_136 rfl (by first | rfl | (congr 1)) (by decide) rfl ?_
    refine k_goto hF dX1_takeTold_139 (tgt := 114) (by decide) ?_
    exact hc _ (Option.some.inj h).symm
set_option maxHeartbeats 4000000 in
set_option maxRecDepth 100000 in
theorem wX1_takeTold_l107 {p : Program} {l : Launch} {e : Env} {s : State} {m : MethodId} {args : Array Value} {below : List Frame} {meth : Method} {c : Code} {Q : State → Prop} {A : Nat → Prop} {D : DD} {base B : Nat} (hF : KF D base cX1_takeTold RX1 A 3 0 0 p l e ({ frames := 1, cells := 0, slots := 0, locals := 21 } : Room) s m args below meth c) (hA : ∀ q, RA B shpC q → A q) (hbs : base ≤ B) {σ : St} {x : (St × Int32)} {z : ((St × Int32) ⊕ (St × Int32))} (h : fX1_takeTold_l107 σ x = some z) (hc : ∀ x, z = .inl x → KJ (Rep D B shpC) A 3 0 0 Q p l e ({ frames := 1, cells := 0, slots := 0, locals := 21 } : Room) s m args below meth c 0 0 107 [some (.ref (B + 23)), some (.int x.2), none] [] x.1) (he : ∀ w, z = .inr w → KJ (Rep D B shpC) A 3 0 0 Q p l e ({ frames := 1, cells := 0, slots := 0, locals := 21 } : Room) s m args below meth c 0 0 148 [some (.ref (B + 23)), some (.int w.2), none] [] w.1) : KJ (Rep D B shpC) A 3 0 0 Q p l e ({ frames := 1, cells := 0, slots := 0, locals := 21 } : Room) s m args below meth c 0 0 107 [some (.ref (B + 23)), some (.int x.2), none] [] x.1 := by
  unfold fX1_takeTold_l107 at h
  refine k_iload_n hF dX1_takeTold_107 rfl ?_
  refine k_iconst hF dX1_takeTold_108 ci_4 ?_
  refine k_icmp_ge hF (tgt := 148) dX1_takeTold_109 (by decide) (fun c20 => ?_) (fun c20 => ?_)
  · replace h := ite_t c20 h
    exact he _ (Option.some.inj h).symm
  · replace h := ite_f c20 h
    refine k_iconst hF dX1_takeTold_112 ci_0 ?_
    refine k_istore_n hF (L' := [some (.ref (B + 23)), some (.int x.2), some (.int (0 : Int32))]) dX1_takeTold_113 (by decide) rfl ?_
    obtain ⟨x27, hx27, h⟩ := bind_some h
    refine k_loop (P := fun xq => KJ (Rep D B shpC) A 3 0 0 Q p l e ({ frames := 1, cells := 0, slots := 0, locals := 21 } : Room) s m args below meth c 0 0 114 [some (.ref (B + 23)), some (.int x.2), some (.int xq.2)] [] xq.1) (C := fun xq => KJ (Rep D B shpC) A 3 0 0 Q p l e ({ frames := 1, cells := 0, slots := 0, locals := 21 } : Room) s m args below meth c 0 0 142 [some (.ref (B + 23)), some (.int x.2), some (.int xq.2)] [] xq.1) (fun x z hz hc he => wX1_takeTold_l114 hF hA hbs hz hc he) hx27 ?_
    show KJ (Rep D B shpC) A 3 0 0 Q p l e ({ frames := 1, cells := 0, slots := 0, locals := 21 } : Room) s m args below meth c 0 0 142 [some (.ref (B + 23)), some (.int x.2), some (.int x27.2)] [] x27.1
    refine k_iinc hF (v := (x.2 + (1 : Int32))) (L' := [some (.ref (B + 23)), some (.int (x.2 + (1 : Int32))), some (.int x27.2)]) dX1_takeTold_142 rfl (by first | rfl | (congr 1)) (by decide) rfl ?_
    refine k_goto hF dX1_takeTold_145 (tgt := 107) (by decide) ?_
    refine k_kill 2 rfl ?_
    exact hc _ (Option.some.inj h).symm
set_option maxHeartbeats 4000000 in
set_option maxRecDepth 100000 in
theorem wX1_takeTold {p : Program} {l : Launch} {e : Env} {s : State} {m : MethodId} {args : Array Value} {below : List Frame} {meth : Method} {c : Code} {Q : State → Prop} {A : Nat → Prop} {D : DD} {base B : Nat} (hF : KF D base cX1_takeTold RX1 A 3 0 0 p l e ({ frames := 1, cells := 0, slots := 0, locals := 21 } : Room) s m args below meth c) (hA : ∀ q, RA B shpC q → A q) (hbs : base ≤ B) {σ : St} {z : St} (h : fX1_takeTold σ = some z) (hr : ∀ (pc : Nat) (L : List (Option Value)), decode cX1_takeTold pc = .ok (.return_, 1) → KJ (Rep D B shpC) A 3 0 0 Q p l e ({ frames := 1, cells := 0, slots := 0, locals := 21 } : Room) s m args below meth c 0 0 pc L [] z) : KJ (Rep D B shpC) A 3 0 0 Q p l e ({ frames := 1, cells := 0, slots := 0, locals := 21 } : Room) s m args below meth c 0 0 0 [some (.ref (B + 23)), none, none] [] σ := by
  unfold fX1_takeTold at h
  refine k_iconst hF dX1_takeTold_0 ci_0 ?_
  refine k_istore_n hF (L' := [some (.ref (B + 23)), some (.int (0 : Int32)), none]) dX1_takeTold_1 (by decide) rfl ?_
  obtain ⟨x7, hx7, h⟩ := bind_some h
  refine k_loop (P := fun xq => KJ (Rep D B shpC) A 3 0 0 Q p l e ({ frames := 1, cells := 0, slots := 0, locals := 21 } : Room) s m args below meth c 0 0 2 [some (.ref (B + 23)), some (.int xq.2), none] [] xq.1) (C := fun xq => KJ (Rep D B shpC) A 3 0 0 Q p l e ({ frames := 1, cells := 0, slots := 0, locals := 21 } : Room) s m args below meth c 0 0 36 [some (.ref (B + 23)), some (.int xq.2), none] [] xq.1) (fun x z hz hc he => wX1_takeTold_l2 hF hA hbs hz hc he) hx7 ?_
  show KJ (Rep D B shpC) A 3 0 0 Q p l e ({ frames := 1, cells := 0, slots := 0, locals := 21 } : Room) s m args below meth c 0 0 36 [some (.ref (B + 23)), some (.int x7.2), none] [] x7.1
  refine k_iconst hF dX1_takeTold_36 ci_0 ?_
  refine k_istore_n hF (L' := [some (.ref (B + 23)), some (.int (0 : Int32)), none]) dX1_takeTold_37 (by decide) rfl ?_
  obtain ⟨x19, hx19, h⟩ := bind_some h
  refine k_loop (P := fun xq => KJ (Rep D B shpC) A 3 0 0 Q p l e ({ frames := 1, cells := 0, slots := 0, locals := 21 } : Room) s m args below meth c 0 0 38 [some (.ref (B + 23)), some (.int xq.2), none] [] xq.1) (C := fun xq => KJ (Rep D B shpC) A 3 0 0 Q p l e ({ frames := 1, cells := 0, slots := 0, locals := 21 } : Room) s m args below meth c 0 0 105 [some (.ref (B + 23)), some (.int xq.2), none] [] xq.1) (fun x z hz hc he => wX1_takeTold_l38 hF hA hbs hz hc he) hx19 ?_
  show KJ (Rep D B shpC) A 3 0 0 Q p l e ({ frames := 1, cells := 0, slots := 0, locals := 21 } : Room) s m args below meth c 0 0 105 [some (.ref (B + 23)), some (.int x19.2), none] [] x19.1
  refine k_iconst hF dX1_takeTold_105 ci_0 ?_
  refine k_istore_n hF (L' := [some (.ref (B + 23)), some (.int (0 : Int32)), none]) dX1_takeTold_106 (by decide) rfl ?_
  obtain ⟨x28, hx28, h⟩ := bind_some h
  refine k_loop (P := fun xq => KJ (Rep D B shpC) A 3 0 0 Q p l e ({ frames := 1, cells := 0, slots := 0, locals := 21 } : Room) s m args below meth c 0 0 107 [some (.ref (B + 23)), some (.int xq.2), none] [] xq.1) (C := fun xq => KJ (Rep D B shpC) A 3 0 0 Q p l e ({ frames := 1, cells := 0, slots := 0, locals := 21 } : Room) s m args below meth c 0 0 148 [some (.ref (B + 23)), some (.int xq.2), none] [] xq.1) (fun x z hz hc he => wX1_takeTold_l107 hF hA hbs hz hc he) hx28 ?_
  show KJ (Rep D B shpC) A 3 0 0 Q p l e ({ frames := 1, cells := 0, slots := 0, locals := 21 } : Room) s m args below meth c 0 0 148 [some (.ref (B + 23)), some (.int x28.2), none] [] x28.1
  cases h
  exact hr _ _ dX1_takeTold_148
theorem ct_X1_takeTold {l : Launch} {D : DD} {base B : Nat} (hbs : base ≤ B) {σ : St} {r : St} (h : fX1_takeTold σ = some r) : MetR l D B shpC base yX1_takeTold cX1_takeTold 3 none 1 21 [.ref (B + 23)] σ none r :=
  MetR.of (by decide +kernel) (fun v hv => by simp only [List.mem_cons, List.not_mem_nil, or_false] at hv; rcases hv with rfl <;> rfl) (Nat.le_of_ble_eq_true rfl) hbs (fun p e s m args below meth c hF hr => wX1_takeTold hF (fun q hq => hq) hbs h (fun pc L hd => k_vret hF hr hd))
set_option maxHeartbeats 4000000 in
set_option maxRecDepth 100000 in
theorem wX1_forth_j40 {p : Program} {l : Launch} {e : Env} {s : State} {m : MethodId} {args : Array Value} {below : List Frame} {meth : Method} {c : Code} {Q : State → Prop} {A : Nat → Prop} {D : DD} {base B : Nat} (hF : KF D base cX1_forth RX1 A 5 0 0 p l e ({ frames := 1, cells := 0, slots := 0, locals := 21 } : Room) s m args below meth c) (hA : ∀ q, RA B shpC q → A q) (hbs : base ≤ B) {σ : St} {a1 : Int32} {a2 : Int32} {b3 : Int32} {b4 : Int32} {z : ((Int32 × Int32) ⊕ (Int32 × Int32))} (h : fX1_forth_j40 σ a1 a2 b3 b4 = some z) (hc : ∀ x, z = .inl x → KJ (Rep D B shpC) A 5 0 0 Q p l e ({ frames := 1, cells := 0, slots := 0, locals := 21 } : Room) s m args below meth c 0 0 5 [some (.ref (B + 23)), some (.int a1), some (.int a2), some (.int x.1), some (.int x.2)] [] σ) (he : ∀ w, z = .inr w → KJ (Rep D B shpC) A 5 0 0 Q p l e ({ frames := 1, cells := 0, slots := 0, locals := 21 } : Room) s m args below meth c 0 0 46 [some (.ref (B + 23)), some (.int a1), some (.int a2), some (.int w.1), some (.int w.2)] [] σ) : KJ (Rep D B shpC) A 5 0 0 Q p l e ({ frames := 1, cells := 0, slots := 0, locals := 21 } : Room) s m args below meth c 0 0 40 [some (.ref (B + 23)), some (.int a1), some (.int a2), some (.int b3), some (.int b4)] [] σ := by
  unfold fX1_forth_j40 at h
  refine k_iinc hF (v := (b4 + (1 : Int32))) (L' := [some (.ref (B + 23)), some (.int a1), some (.int a2), some (.int b3), some (.int (b4 + (1 : Int32)))]) dX1_forth_40 rfl (by first | rfl | (congr 1)) (by decide) rfl ?_
  refine k_goto hF dX1_forth_43 (tgt := 5) (by decide) ?_
  exact hc _ (Option.some.inj h).symm
set_option maxHeartbeats 4000000 in
set_option maxRecDepth 100000 in
theorem wX1_forth_l5 {p : Program} {l : Launch} {e : Env} {s : State} {m : MethodId} {args : Array Value} {below : List Frame} {meth : Method} {c : Code} {Q : State → Prop} {A : Nat → Prop} {D : DD} {base B : Nat} (hF : KF D base cX1_forth RX1 A 5 0 0 p l e ({ frames := 1, cells := 0, slots := 0, locals := 21 } : Room) s m args below meth c) (hA : ∀ q, RA B shpC q → A q) (hbs : base ≤ B) {σ : St} {a1 : Int32} {a2 : Int32} {x : (Int32 × Int32)} {z : ((Int32 × Int32) ⊕ (Int32 × Int32))} (h : fX1_forth_l5 σ a1 a2 x = some z) (hc : ∀ x, z = .inl x → KJ (Rep D B shpC) A 5 0 0 Q p l e ({ frames := 1, cells := 0, slots := 0, locals := 21 } : Room) s m args below meth c 0 0 5 [some (.ref (B + 23)), some (.int a1), some (.int a2), some (.int x.1), some (.int x.2)] [] σ) (he : ∀ w, z = .inr w → KJ (Rep D B shpC) A 5 0 0 Q p l e ({ frames := 1, cells := 0, slots := 0, locals := 21 } : Room) s m args below meth c 0 0 46 [some (.ref (B + 23)), some (.int a1), some (.int a2), some (.int w.1), some (.int w.2)] [] σ) : KJ (Rep D B shpC) A 5 0 0 Q p l e ({ frames := 1, cells := 0, slots := 0, locals := 21 } : Room) s m args below meth c 0 0 5 [some (.ref (B + 23)), some (.int a1), some (.int a2), some (.int x.1), some (.int x.2)] [] σ := by
  unfold fX1_forth_l5 at h
  refine k_iload hF dX1_forth_5 rfl ?_
  refine k_bipush hF (v := (24 : Int32)) dX1_forth_7 (by decide) ?_
  refine k_icmp_ge hF (tgt := 46) dX1_forth_9 (by decide) (fun c1 => ?_) (fun c1 => ?_)
  · replace h := ite_t c1 h
    exact he _ (Option.some.inj h).symm
  · replace h := ite_f c1 h
    refine k_iload_n hF dX1_forth_12 rfl ?_
    refine k_iload hF dX1_forth_13 rfl ?_
    refine k_iushr hF dX1_forth_15 ?_
    refine k_if_eq hF (tgt := 46) dX1_forth_16 (by decide) (fun c2 => ?_) (fun c2 => ?_)
    · replace h := ite_t c2 h
      exact he _ (Option.some.inj h).symm
    · replace h := ite_f c2 h
      refine k_iload_n hF dX1_forth_19 rfl ?_
      refine k_iload hF dX1_forth_20 rfl ?_
      obtain ⟨v3, hv3, h⟩ := bind_some h
      refine k_callSN hF hA (as := [.int a2, .int x.2]) (ct_X10_has hbs hv3) msn_X1_74 rfl rfl ⟨Nat.le_of_ble_eq_true rfl, Nat.le_of_ble_eq_true rfl⟩ (Nat.le_of_ble_eq_true rfl) dX1_forth_22 ?_
      refine k_st (st2 := [.int v3]) rfl ?_
      refine k_if_eq hF (tgt := 40) dX1_forth_25 (by decide) (fun c4 => ?_) (fun c4 => ?_)
      · replace h := ite_t c4 h
        exact wX1_forth_j40 hF hA hbs h hc he
      · replace h := ite_f c4 h
        refine k_iload_n hF dX1_forth_28 rfl ?_
        refine k_aload_n hF dX1_forth_29 rfl ?_
        refine k_get hF (v := .ref (B + 33)) shC_23 fl_X1_30_X1 dX1_forth_30 rfl ?_
        refine k_iload_n hF dX1_forth_33 rfl ?_
        obtain ⟨g5, h⟩ := gd_some h
        refine k_aald hF (q0 := (34 + a1.toNatClampNeg)) shC_33 rfl dX1_forth_34 g5 rfl ?_
        refine k_iload hF dX1_forth_35 rfl ?_
        obtain ⟨g6, h⟩ := gd_some h
        refine k_iald hF (shC_KNOWN a1.toNatClampNeg (inb_lt g5)) dX1_forth_37 g6 ?_
        refine k_ior hF dX1_forth_38 ?_
        obtain ⟨n7, hn7, h⟩ := lt_some h
        refine k_st (st2 := [.int n7]) (by rw [hn7]) ?_
        refine k_istore_n hF (L' := [some (.ref (B + 23)), some (.int a1), some (.int a2), some (.int n7), some (.int x.2)]) dX1_forth_39 (by decide) rfl ?_
        exact wX1_forth_j40 hF hA hbs h hc he
set_option maxHeartbeats 4000000 in
set_option maxRecDepth 100000 in
theorem wX1_forth {p : Program} {l : Launch} {e : Env} {s : State} {m : MethodId} {args : Array Value} {below : List Frame} {meth : Method} {c : Code} {Q : State → Prop} {A : Nat → Prop} {D : DD} {base B : Nat} (hF : KF D base cX1_forth RX1 A 5 0 0 p l e ({ frames := 1, cells := 0, slots := 0, locals := 21 } : Room) s m args below meth c) (hA : ∀ q, RA B shpC q → A q) (hbs : base ≤ B) {σ : St} {a1 : Int32} {a2 : Int32} {z : Int32} (h : fX1_forth σ a1 a2 = some z) (hr : ∀ (pc : Nat) (L : List (Option Value)), narrow .int (.int z) = .int z → decode cX1_forth pc = .ok (.ireturn, 1) → KJ (Rep D B shpC) A 5 0 0 Q p l e ({ frames := 1, cells := 0, slots := 0, locals := 21 } : Room) s m args below meth c 0 0 pc L [.int z] σ) : KJ (Rep D B shpC) A 5 0 0 Q p l e ({ frames := 1, cells := 0, slots := 0, locals := 21 } : Room) s m args below meth c 0 0 0 [some (.ref (B + 23)), some (.int a1), some (.int a2), none, none] [] σ := by
  unfold fX1_forth at h
  refine k_iconst hF dX1_forth_0 ci_0 ?_
  refine k_istore_n hF (L' := [some (.ref (B + 23)), some (.int a1), some (.int a2), some (.int (0 : Int32)), none]) dX1_forth_1 (by decide) rfl ?_
  refine k_iconst hF dX1_forth_2 ci_0 ?_
  refine k_istore hF (L' := [some (.ref (B + 23)), some (.int a1), some (.int a2), some (.int (0 : Int32)), some (.int (0 : Int32))]) dX1_forth_3 (by decide) rfl ?_
  obtain ⟨x8, hx8, h⟩ := bind_some h
  refine k_loop (P := fun xq => KJ (Rep D B shpC) A 5 0 0 Q p l e ({ frames := 1, cells := 0, slots := 0, locals := 21 } : Room) s m args below meth c 0 0 5 [some (.ref (B + 23)), some (.int a1), some (.int a2), some (.int xq.1), some (.int xq.2)] [] σ) (C := fun xq => KJ (Rep D B shpC) A 5 0 0 Q p l e ({ frames := 1, cells := 0, slots := 0, locals := 21 } : Room) s m args below meth c 0 0 46 [some (.ref (B + 23)), some (.int a1), some (.int a2), some (.int xq.1), some (.int xq.2)] [] σ) (fun x z hz hc he => wX1_forth_l5 hF hA hbs hz hc he) hx8 ?_
  show KJ (Rep D B shpC) A 5 0 0 Q p l e ({ frames := 1, cells := 0, slots := 0, locals := 21 } : Room) s m args below meth c 0 0 46 [some (.ref (B + 23)), some (.int a1), some (.int a2), some (.int x8.1), some (.int x8.2)] [] σ
  refine k_iload_n hF dX1_forth_46 rfl ?_
  cases h
  exact hr _ _ rfl dX1_forth_47
theorem ct_X1_forth {l : Launch} {D : DD} {base B : Nat} (hbs : base ≤ B) {σ : St} {a1 : Int32} {a2 : Int32} {r : Int32} (h : fX1_forth σ a1 a2 = some r) : MetR l D B shpC base yX1_forth cX1_forth 5 (some .int) 1 21 [.ref (B + 23), .int a1, .int a2] σ (some (.int r)) σ :=
  MetR.of (by decide +kernel) (fun v hv => by simp only [List.mem_cons, List.not_mem_nil, or_false] at hv; rcases hv with rfl | rfl | rfl <;> rfl) (Nat.le_of_ble_eq_true rfl) hbs (fun p e s m args below meth c hF hr => wX1_forth hF (fun q hq => hq) hbs h (fun pc L hn hd => k_iret hF hr hn hd))
set_option maxHeartbeats 4000000 in
set_option maxRecDepth 100000 in
theorem wX1_inferOnce_j103 {p : Program} {l : Launch} {e : Env} {s : State} {m : MethodId} {args : Array Value} {below : List Frame} {meth : Method} {c : Code} {Q : State → Prop} {A : Nat → Prop} {D : DD} {base B : Nat} (hF : KF D base cX1_inferOnce RX1 A 6 0 0 p l e ({ frames := 2, cells := 0, slots := 0, locals := 45 } : Room) s m args below meth c) (hA : ∀ q, RA B shpC q → A q) (hbs : base ≤ B) {σ : St} {ea2b : Int32} {b3 : Int32} {t0 : Int32} {z : ((St × Int32 × Int32) ⊕ (St × Int32 × Int32))} (h : fX1_inferOnce_j103 σ ea2b b3 t0 = some z) (hc : ∀ x, z = .inl x → KJ (Rep D B shpC) A 6 0 0 Q p l e ({ frames := 2, cells := 0, slots := 0, locals := 45 } : Room) s m args below meth c 0 0 14 [some (.ref (B + 23)), some (.int x.2.1), some (.int ea2b), some (.int x.2.2), none, none] [] x.1) (he : ∀ w, z = .inr w → KJ (Rep D B shpC) A 6 0 0 Q p l e ({ frames := 2, cells := 0, slots := 0, locals := 45 } : Room) s m args below meth c 0 0 110 [some (.ref (B + 23)), some (.int w.2.1), some (.int ea2b), some (.int w.2.2), none, none] [] w.1) : KJ (Rep D B shpC) A 6 0 0 Q p l e ({ frames := 2, cells := 0, slots := 0, locals := 45 } : Room) s m args below meth c 0 0 103 [some (.ref (B + 23)), none, some (.int ea2b), some (.int b3), none, none] [.int t0] σ := by
  unfold fX1_inferOnce_j103 at h
  refine k_istore_n hF (L' := [some (.ref (B + 23)), some (.int t0), some (.int ea2b), some (.int b3), none, none]) dX1_inferOnce_103 (by decide) rfl ?_
  refine k_iinc hF (v := (b3 + (1 : Int32))) (L' := [some (.ref (B + 23)), some (.int t0), some (.int ea2b), some (.int (b3 + (1 : Int32))), none, none]) dX1_inferOnce_104 rfl (by first | rfl | (congr 1)) (by decide) rfl ?_
  refine k_goto hF dX1_inferOnce_107 (tgt := 14) (by decide) ?_
  exact hc _ (Option.some.inj h).symm
set_option maxHeartbeats 4000000 in
set_option maxRecDepth 100000 in
theorem wX1_inferOnce_j98 {p : Program} {l : Launch} {e : Env} {s : State} {m : MethodId} {args : Array Value} {below : List Frame} {meth : Method} {c : Code} {Q : State → Prop} {A : Nat → Prop} {D : DD} {base B : Nat} (hF : KF D base cX1_inferOnce RX1 A 6 0 0 p l e ({ frames := 2, cells := 0, slots := 0, locals := 45 } : Room) s m args below meth c) (hA : ∀ q, RA B shpC q → A q) (hbs : base ≤ B) {σ : St} {ea2b : Int32} {b3 : Int32} {z : ((St × Int32 × Int32) ⊕ (St × Int32 × Int32))} (h : fX1_inferOnce_j98 σ ea2b b3 = some z) (hc : ∀ x, z = .inl x → KJ (Rep D B shpC) A 6 0 0 Q p l e ({ frames := 2, cells := 0, slots := 0, locals := 45 } : Room) s m args below meth c 0 0 14 [some (.ref (B + 23)), some (.int x.2.1), some (.int ea2b), some (.int x.2.2), none, none] [] x.1) (he : ∀ w, z = .inr w → KJ (Rep D B shpC) A 6 0 0 Q p l e ({ frames := 2, cells := 0, slots := 0, locals := 45 } : Room) s m args below meth c 0 0 110 [some (.ref (B + 23)), some (.int w.2.1), some (.int ea2b), some (.int w.2.2), none, none] [] w.1) : KJ (Rep D B shpC) A 6 0 0 Q p l e ({ frames := 2, cells := 0, slots := 0, locals := 45 } : Room) s m args below meth c 0 0 98 [some (.ref (B + 23)), none, some (.int ea2b), some (.int b3), none, none] [] σ := by
  unfold fX1_inferOnce_j98 at h
  refine k_iconst hF dX1_inferOnce_98 ci_1 ?_
  refine k_goto hF dX1_inferOnce_99 (tgt := 103) (by decide) ?_
  exact wX1_inferOnce_j103 hF hA hbs h hc he
set_option maxHeartbeats 4000000 in
set_option maxRecDepth 100000 in
theorem wX1_inferOnce_l14 {p : Program} {l : Launch} {e : Env} {s : State} {m : MethodId} {args : Array Value} {below : List Frame} {meth : Method} {c : Code} {Q : State → Prop} {A : Nat → Prop} {D : DD} {base B : Nat} (hF : KF D base cX1_inferOnce RX1 A 6 0 0 p l e ({ frames := 2, cells := 0, slots := 0, locals := 45 } : Room) s m args below meth c) (hA : ∀ q, RA B shpC q → A q) (hbs : base ≤ B) {σ : St} {ea2b : Int32} {x : (St × Int32 × Int32)} {z : ((St × Int32 × Int32) ⊕ (St × Int32 × Int32))} (h : fX1_inferOnce_l14 σ ea2b x = some z) (hc : ∀ x, z = .inl x → KJ (Rep D B shpC) A 6 0 0 Q p l e ({ frames := 2, cells := 0, slots := 0, locals := 45 } : Room) s m args below meth c 0 0 14 [some (.ref (B + 23)), some (.int x.2.1), some (.int ea2b), some (.int x.2.2), none, none] [] x.1) (he : ∀ w, z = .inr w → KJ (Rep D B shpC) A 6 0 0 Q p l e ({ frames := 2, cells := 0, slots := 0, locals := 45 } : Room) s m args below meth c 0 0 110 [some (.ref (B + 23)), some (.int w.2.1), some (.int ea2b), some (.int w.2.2), none, none] [] w.1) : KJ (Rep D B shpC) A 6 0 0 Q p l e ({ frames := 2, cells := 0, slots := 0, locals := 45 } : Room) s m args below meth c 0 0 14 [some (.ref (B + 23)), some (.int x.2.1), some (.int ea2b), some (.int x.2.2), none, none] [] x.1 := by
  unfold fX1_inferOnce_l14 at h
  refine k_iload_n hF dX1_inferOnce_14 rfl ?_
  refine k_bipush hF (v := (24 : Int32)) dX1_inferOnce_15 (by decide) ?_
  refine k_icmp_ge hF (tgt := 110) dX1_inferOnce_17 (by decide) (fun c2 => ?_) (fun c2 => ?_)
  · replace h := ite_t c2 h
    exact he _ (Option.some.inj h).symm
  · replace h := ite_f c2 h
    refine k_aload_n hF dX1_inferOnce_20 rfl ?_
    refine k_get hF (v := .ref (B + 27)) shC_23 fl_X1_21_X1 dX1_inferOnce_21 rfl ?_
    refine k_iload_n hF dX1_inferOnce_24 rfl ?_
    obtain ⟨g3, h⟩ := gd_some h
    refine k_zald hF shC_27 dX1_inferOnce_25 g3 ?_
    refine k_if_ne hF (tgt := 110) dX1_inferOnce_26 (by decide) (fun c4 => ?_) (fun c4 => ?_)
    · replace h := ite_f c4 h
      exact he _ (Option.some.inj h).symm
    · replace h := ite_t c4 h
      refine k_aload_n hF dX1_inferOnce_29 rfl ?_
      refine k_get hF (v := .ref (B + 33)) shC_23 fl_X1_30_X1 dX1_inferOnce_30 rfl ?_
      refine k_aload_n hF dX1_inferOnce_33 rfl ?_
      refine k_get hF (v := .ref (B + 26)) shC_23 fl_X1_18_X1 dX1_inferOnce_34 rfl ?_
      refine k_iload_n hF dX1_inferOnce_37 rfl ?_
      obtain ⟨g5, h⟩ := gd_some h
      refine k_iald hF shC_26 dX1_inferOnce_38 g5 ?_
      obtain ⟨g6, h⟩ := gd_some h
      refine k_aald hF (q0 := (34 + (gi x.1 26 ea2b.toNatClampNeg).toNatClampNeg)) shC_33 rfl dX1_inferOnce_39 g6 rfl ?_
      refine k_iload_n hF dX1_inferOnce_40 rfl ?_
      obtain ⟨g7, h⟩ := gd_some h
      refine k_iald hF (shC_KNOWN (gi x.1 26 ea2b.toNatClampNeg).toNatClampNeg (inb_lt g6)) dX1_inferOnce_41 g7 ?_
      obtain ⟨n8, hn8, h⟩ := lt_some h
      refine k_st (st2 := [.int n8]) (by rw [hn8]) ?_
      refine k_istore hF (L' := [some (.ref (B + 23)), some (.int x.2.1), some (.int ea2b), some (.int x.2.2), some (.int n8), none]) dX1_inferOnce_42 (by decide) rfl ?_
      refine k_iload hF dX1_inferOnce_44 rfl ?_
      refine k_aload_n hF dX1_inferOnce_46 rfl ?_
      refine k_aload_n hF dX1_inferOnce_47 rfl ?_
      refine k_get hF (v := .ref (B + 25)) shC_23 fl_X1_15_X1 dX1_inferOnce_48 rfl ?_
      refine k_iload_n hF dX1_inferOnce_51 rfl ?_
      obtain ⟨g9, h⟩ := gd_some h
      refine k_iald hF shC_25 dX1_inferOnce_52 g9 ?_
      refine k_aload_n hF dX1_inferOnce_53 rfl ?_
      refine k_get hF (v := .ref (B + 33)) shC_23 fl_X1_30_X1 dX1_inferOnce_54 rfl ?_
      refine k_aload_n hF dX1_inferOnce_57 rfl ?_
      refine k_get hF (v := .ref (B + 24)) shC_23 fl_X1_9_X1 dX1_inferOnce_58 rfl ?_
      refine k_iload_n hF dX1_inferOnce_61 rfl ?_
      obtain ⟨g10, h⟩ := gd_some h
      refine k_iald hF shC_24 dX1_inferOnce_62 g10 ?_
      obtain ⟨g11, h⟩ := gd_some h
      refine k_aald hF (q0 := (34 + (gi x.1 24 ea2b.toNatClampNeg).toNatClampNeg)) shC_33 rfl dX1_inferOnce_63 g11 rfl ?_
      refine k_iload_n hF dX1_inferOnce_64 rfl ?_
      obtain ⟨g12, h⟩ := gd_some h
      refine k_iald hF (shC_KNOWN (gi x.1 24 ea2b.toNatClampNeg).toNatClampNeg (inb_lt g11)) dX1_inferOnce_65 g12 ?_
      obtain ⟨v13, hv13, h⟩ := bind_some h
      refine k_callV hF hA (as := [.int (gi x.1 25 ea2b.toNatClampNeg), .int (gi x.1 (34 + (gi x.1 24 ea2b.toNatClampNeg).toNatClampNeg) x.2.2.toNatClampNeg)]) (ct_X1_forth hbs hv13) mv_X1_70 shC_23 rfl rfl rfl ⟨Nat.le_of_ble_eq_true rfl, Nat.le_of_ble_eq_true rfl⟩ (Nat.le_of_ble_eq_true rfl) dX1_inferOnce_66 ?_
      refine k_st (st2 := [.int v13, .int n8]) rfl ?_
      refine k_ior hF dX1_inferOnce_69 ?_
      refine k_istore hF (L' := [some (.ref (B + 23)), some (.int x.2.1), some (.int ea2b), some (.int x.2.2), some (.int n8), some (.int (n8 ||| v13))]) dX1_inferOnce_70 (by decide) rfl ?_
      refine k_aload_n hF dX1_inferOnce_72 rfl ?_
      refine k_get hF (v := .ref (B + 33)) shC_23 fl_X1_30_X1 dX1_inferOnce_73 rfl ?_
      refine k_aload_n hF dX1_inferOnce_76 rfl ?_
      refine k_get hF (v := .ref (B + 26)) shC_23 fl_X1_18_X1 dX1_inferOnce_77 rfl ?_
      refine k_iload_n hF dX1_inferOnce_80 rfl ?_
      obtain ⟨g14, h⟩ := gd_some h
      refine k_iald hF shC_26 dX1_inferOnce_81 g14 ?_
      obtain ⟨g15, h⟩ := gd_some h
      refine k_aald hF (q0 := (34 + (gi x.1 26 ea2b.toNatClampNeg).toNatClampNeg)) shC_33 rfl dX1_inferOnce_82 g15 rfl ?_
      refine k_iload_n hF dX1_inferOnce_83 rfl ?_
      refine k_iload hF dX1_inferOnce_84 rfl ?_
      obtain ⟨g16, h⟩ := gd_some h
      refine k_iast hF hA (shC_KNOWN (gi x.1 26 ea2b.toNatClampNeg).toNatClampNeg (inb_lt g15)) dX1_inferOnce_86 g16 ?_
      obtain ⟨σ17, hσ17, h⟩ := lt_some h
      refine k_sig hσ17 ?_
      refine k_iload_n hF dX1_inferOnce_87 rfl ?_
      refine k_if_ne hF (tgt := 98) dX1_inferOnce_88 (by decide) (fun c18 => ?_) (fun c18 => ?_)
      · replace h := ite_f c18 h
        refine k_kill 1 rfl ?_
        refine k_kill 4 rfl ?_
        refine k_kill 5 rfl ?_
        exact wX1_inferOnce_j98 hF hA hbs h hc he
      · replace h := ite_t c18 h
        refine k_iload hF dX1_inferOnce_91 rfl ?_
        refine k_iload hF dX1_inferOnce_93 rfl ?_
        refine k_icmp_eq hF (tgt := 102) dX1_inferOnce_95 (by decide) (fun c19 => ?_) (fun c19 => ?_)
        · replace h := ite_t c19 h
          refine k_iconst hF dX1_inferOnce_102 ci_0 ?_
          refine k_kill 1 rfl ?_
          refine k_kill 4 rfl ?_
          refine k_kill 5 rfl ?_
          exact wX1_inferOnce_j103 hF hA hbs h hc he
        · replace h := ite_f c19 h
          refine k_kill 1 rfl ?_
          refine k_kill 4 rfl ?_
          refine k_kill 5 rfl ?_
          exact wX1_inferOnce_j98 hF hA hbs h hc he
set_option maxHeartbeats 4000000 in
set_option maxRecDepth 100000 in
theorem wX1_inferOnce_l4 {p : Program} {l : Launch} {e : Env} {s : State} {m : MethodId} {args : Array Value} {below : List Frame} {meth : Method} {c : Code} {Q : State → Prop} {A : Nat → Prop} {D : DD} {base B : Nat} (hF : KF D base cX1_inferOnce RX1 A 6 0 0 p l e ({ frames := 2, cells := 0, slots := 0, locals := 45 } : Room) s m args below meth c) (hA : ∀ q, RA B shpC q → A q) (hbs : base ≤ B) {σ : St} {x : (St × Int32 × Int32)} {z : ((St × Int32 × Int32) ⊕ (St × Int32 × Int32))} (h : fX1_inferOnce_l4 σ x = some z) (hc : ∀ x, z = .inl x → KJ (Rep D B shpC) A 6 0 0 Q p l e ({ frames := 2, cells := 0, slots := 0, locals := 45 } : Room) s m args below meth c 0 0 4 [some (.ref (B + 23)), some (.int x.2.1), some (.int x.2.2), none, none, none] [] x.1) (he : ∀ w, z = .inr w → KJ (Rep D B shpC) A 6 0 0 Q p l e ({ frames := 2, cells := 0, slots := 0, locals := 45 } : Room) s m args below meth c 0 0 116 [some (.ref (B + 23)), some (.int w.2.1), some (.int w.2.2), none, none, none] [] w.1) : KJ (Rep D B shpC) A 6 0 0 Q p l e ({ frames := 2, cells := 0, slots := 0, locals := 45 } : Room) s m args below meth c 0 0 4 [some (.ref (B + 23)), some (.int x.2.1), some (.int x.2.2), none, none, none] [] x.1 := by
  unfold fX1_inferOnce_l4 at h
  refine k_iload_n hF dX1_inferOnce_4 rfl ?_
  refine k_aload_n hF dX1_inferOnce_5 rfl ?_
  refine k_get hF (v := .int (gi x.1 23 7)) shC_23 fl_X1_33_X1 dX1_inferOnce_6 rfl ?_
  refine k_icmp_ge hF (tgt := 116) dX1_inferOnce_9 (by decide) (fun c1 => ?_) (fun c1 => ?_)
  · replace h := ite_t c1 h
    exact he _ (Option.some.inj h).symm
  · replace h := ite_f c1 h
    refine k_iconst hF dX1_inferOnce_12 ci_0 ?_
    refine k_istore_n hF (L' := [some (.ref (B + 23)), some (.int x.2.1), some (.int x.2.2), some (.int (0 : Int32)), none, none]) dX1_inferOnce_13 (by decide) rfl ?_
    obtain ⟨x20, hx20, h⟩ := bind_some h
    refine k_loop (P := fun xq => KJ (Rep D B shpC) A 6 0 0 Q p l e ({ frames := 2, cells := 0, slots := 0, locals := 45 } : Room) s m args below meth c 0 0 14 [some (.ref (B + 23)), some (.int xq.2.1), some (.int x.2.2), some (.int xq.2.2), none, none] [] xq.1) (C := fun xq => KJ (Rep D B shpC) A 6 0 0 Q p l e ({ frames := 2, cells := 0, slots := 0, locals := 45 } : Room) s m args below meth c 0 0 110 [some (.ref (B + 23)), some (.int xq.2.1), some (.int x.2.2), some (.int xq.2.2), none, none] [] xq.1) (fun x z hz hc he => wX1_inferOnce_l14 hF hA hbs hz hc he) hx20 ?_
    show KJ (Rep D B shpC) A 6 0 0 Q p l e ({ frames := 2, cells := 0, slots := 0, locals := 45 } : Room) s m args below meth c 0 0 110 [some (.ref (B + 23)), some (.int x20.2.1), some (.int x.2.2), some (.int x20.2.2), none, none] [] x20.1
    refine k_iinc hF (v := (x.2.2 + (1 : Int32))) (L' := [some (.ref (B + 23)), some (.int x20.2.1), some (.int (x.2.2 + (1 : Int32))), some (.int x20.2.2), none, none]) dX1_inferOnce_110 rfl (by first | rfl | (congr 1)) (by decide) rfl ?_
    refine k_goto hF dX1_inferOnce_113 (tgt := 4) (by decide) ?_
    refine k_kill 3 rfl ?_
    exact hc _ (Option.some.inj h).symm
set_option maxHeartbeats 4000000 in
set_option maxRecDepth 100000 in
theorem wX1_inferOnce {p : Program} {l : Launch} {e : Env} {s : State} {m : MethodId} {args : Array Value} {below : List Frame} {meth : Method} {c : Code} {Q : State → Prop} {A : Nat → Prop} {D : DD} {base B : Nat} (hF : KF D base cX1_inferOnce RX1 A 6 0 0 p l e ({ frames := 2, cells := 0, slots := 0, locals := 45 } : Room) s m args below meth c) (hA : ∀ q, RA B shpC q → A q) (hbs : base ≤ B) {σ : St} {z : (Int32 × St)} (h : fX1_inferOnce σ = some z) (hr : ∀ (pc : Nat) (L : List (Option Value)), narrow .boolean (.int z.1) = .int z.1 → decode cX1_inferOnce pc = .ok (.ireturn, 1) → KJ (Rep D B shpC) A 6 0 0 Q p l e ({ frames := 2, cells := 0, slots := 0, locals := 45 } : Room) s m args below meth c 0 0 pc L [.int z.1] z.2) : KJ (Rep D B shpC) A 6 0 0 Q p l e ({ frames := 2, cells := 0, slots := 0, locals := 45 } : Room) s m args below meth c 0 0 0 [some (.ref (B + 23)), none, none, none, none, none] [] σ := by
  unfold fX1_inferOnce at h
  refine k_iconst hF dX1_inferOnce_0 ci_0 ?_
  refine k_istore_n hF (L' := [some (.ref (B + 23)), some (.int (0 : Int32)), none, none, none, none]) dX1_inferOnce_1 (by decide) rfl ?_
  refine k_iconst hF dX1_inferOnce_2 ci_0 ?_
  refine k_istore_n hF (L' := [some (.ref (B + 23)), some (.int (0 : Int32)), some (.int (0 : Int32)), none, none, none]) dX1_inferOnce_3 (by decide) rfl ?_
  obtain ⟨x21, hx21, h⟩ := bind_some h
  refine k_loop (P := fun xq => KJ (Rep D B shpC) A 6 0 0 Q p l e ({ frames := 2, cells := 0, slots := 0, locals := 45 } : Room) s m args below meth c 0 0 4 [some (.ref (B + 23)), some (.int xq.2.1), some (.int xq.2.2), none, none, none] [] xq.1) (C := fun xq => KJ (Rep D B shpC) A 6 0 0 Q p l e ({ frames := 2, cells := 0, slots := 0, locals := 45 } : Room) s m args below meth c 0 0 116 [some (.ref (B + 23)), some (.int xq.2.1), some (.int xq.2.2), none, none, none] [] xq.1) (fun x z hz hc he => wX1_inferOnce_l4 hF hA hbs hz hc he) hx21 ?_
  show KJ (Rep D B shpC) A 6 0 0 Q p l e ({ frames := 2, cells := 0, slots := 0, locals := 45 } : Room) s m args below meth c 0 0 116 [some (.ref (B + 23)), some (.int x21.2.1), some (.int x21.2.2), none, none, none] [] x21.1
  refine k_iload_n hF dX1_inferOnce_116 rfl ?_
  obtain ⟨g22, h⟩ := gd_some h
  cases h
  exact hr _ _ (nar_z g22) dX1_inferOnce_117
theorem ct_X1_inferOnce {l : Launch} {D : DD} {base B : Nat} (hbs : base ≤ B) {σ : St} {r : (Int32 × St)} (h : fX1_inferOnce σ = some r) : MetR l D B shpC base yX1_inferOnce cX1_inferOnce 6 (some .boolean) 2 45 [.ref (B + 23)] σ (some (.int r.1)) r.2 :=
  MetR.of (by decide +kernel) (fun v hv => by simp only [List.mem_cons, List.not_mem_nil, or_false] at hv; rcases hv with rfl <;> rfl) (Nat.le_of_ble_eq_true rfl) hbs (fun p e s m args below meth c hF hr => wX1_inferOnce hF (fun q hq => hq) hbs h (fun pc L hn hd => k_iret hF hr hn hd))
set_option maxHeartbeats 4000000 in
set_option maxRecDepth 100000 in
theorem wX1_inferAnew_l8 {p : Program} {l : Launch} {e : Env} {s : State} {m : MethodId} {args : Array Value} {below : List Frame} {meth : Method} {c : Code} {Q : State → Prop} {A : Nat → Prop} {D : DD} {base B : Nat} (hF : KF D base cX1_inferAnew RX1 A 3 0 0 p l e ({ frames := 3, cells := 0, slots := 0, locals := 70 } : Room) s m args below meth c) (hA : ∀ q, RA B shpC q → A q) (hbs : base ≤ B) {σ : St} {x : (St × Int32 × Int32)} {z : ((St × Int32 × Int32) ⊕ (St × Int32 × Int32))} (h : fX1_inferAnew_l8 σ x = some z) (hc : ∀ x, z = .inl x → KJ (Rep D B shpC) A 3 0 0 Q p l e ({ frames := 3, cells := 0, slots := 0, locals := 70 } : Room) s m args below meth c 0 0 8 [some (.ref (B + 23)), some (.int x.2.1), some (.int x.2.2)] [] x.1) (he : ∀ w, z = .inr w → KJ (Rep D B shpC) A 3 0 0 Q p l e ({ frames := 3, cells := 0, slots := 0, locals := 70 } : Room) s m args below meth c 0 0 30 [some (.ref (B + 23)), some (.int w.2.1), some (.int w.2.2)] [] w.1) : KJ (Rep D B shpC) A 3 0 0 Q p l e ({ frames := 3, cells := 0, slots := 0, locals := 70 } : Room) s m args below meth c 0 0 8 [some (.ref (B + 23)), some (.int x.2.1), some (.int x.2.2)] [] x.1 := by
  unfold fX1_inferAnew_l8 at h
  refine k_iload_n hF dX1_inferAnew_8 rfl ?_
  refine k_if_eq hF (tgt := 30) dX1_inferAnew_9 (by decide) (fun c2 => ?_) (fun c2 => ?_)
  · replace h := ite_t c2 h
    exact he _ (Option.some.inj h).symm
  · replace h := ite_f c2 h
    refine k_iload_n hF dX1_inferAnew_12 rfl ?_
    refine k_sipush hF (v := (2304 : Int32)) dX1_inferAnew_13 (by decide) ?_
    refine k_icmp_gt hF (tgt := 30) dX1_inferAnew_16 (by decide) (fun c3 => ?_) (fun c3 => ?_)
    · replace h := ite_t c3 h
      exact he _ (Option.some.inj h).symm
    · replace h := ite_f c3 h
      refine k_aload_n hF dX1_inferAnew_19 rfl ?_
      obtain ⟨v4, hv4, h⟩ := bind_some h
      refine k_callV hF hA (as := []) (ct_X1_inferOnce hbs hv4) mv_X1_44 shC_23 rfl rfl rfl ⟨Nat.le_of_ble_eq_true rfl, Nat.le_of_ble_eq_true rfl⟩ (Nat.le_of_ble_eq_true rfl) dX1_inferAnew_20 ?_
      refine k_st (st2 := [.int v4.1]) rfl ?_
      refine k_istore_n hF (L' := [some (.ref (B + 23)), some (.int v4.1), some (.int x.2.2)]) dX1_inferAnew_23 (by decide) rfl ?_
      refine k_iinc hF (v := (x.2.2 + (1 : Int32))) (L' := [some (.ref (B + 23)), some (.int v4.1), some (.int (x.2.2 + (1 : Int32)))]) dX1_inferAnew_24 rfl (by first | rfl | (congr 1)) (by decide) rfl ?_
      refine k_goto hF dX1_inferAnew_27 (tgt := 8) (by decide) ?_
      exact hc _ (Option.some.inj h).symm
set_option maxHeartbeats 4000000 in
set_option maxRecDepth 100000 in
theorem wX1_inferAnew {p : Program} {l : Launch} {e : Env} {s : State} {m : MethodId} {args : Array Value} {below : List Frame} {meth : Method} {c : Code} {Q : State → Prop} {A : Nat → Prop} {D : DD} {base B : Nat} (hF : KF D base cX1_inferAnew RX1 A 3 0 0 p l e ({ frames := 3, cells := 0, slots := 0, locals := 70 } : Room) s m args below meth c) (hA : ∀ q, RA B shpC q → A q) (hbs : base ≤ B) {σ : St} {z : St} (h : fX1_inferAnew σ = some z) (hr : ∀ (pc : Nat) (L : List (Option Value)), decode cX1_inferAnew pc = .ok (.return_, 1) → KJ (Rep D B shpC) A 3 0 0 Q p l e ({ frames := 3, cells := 0, slots := 0, locals := 70 } : Room) s m args below meth c 0 0 pc L [] z) : KJ (Rep D B shpC) A 3 0 0 Q p l e ({ frames := 3, cells := 0, slots := 0, locals := 70 } : Room) s m args below meth c 0 0 0 [some (.ref (B + 23)), none, none] [] σ := by
  unfold fX1_inferAnew at h
  refine k_aload_n hF dX1_inferAnew_0 rfl ?_
  obtain ⟨v1, hv1, h⟩ := bind_some h
  refine k_callV hF hA (as := []) (ct_X1_takeTold hbs hv1) mv_X1_41 shC_23 rfl rfl rfl ⟨Nat.le_of_ble_eq_true rfl, Nat.le_of_ble_eq_true rfl⟩ (Nat.le_of_ble_eq_true rfl) dX1_inferAnew_1 ?_
  refine k_st (st2 := []) rfl ?_
  refine k_iconst hF dX1_inferAnew_4 ci_1 ?_
  refine k_istore_n hF (L' := [some (.ref (B + 23)), some (.int (1 : Int32)), none]) dX1_inferAnew_5 (by decide) rfl ?_
  refine k_iconst hF dX1_inferAnew_6 ci_0 ?_
  refine k_istore_n hF (L' := [some (.ref (B + 23)), some (.int (1 : Int32)), some (.int (0 : Int32))]) dX1_inferAnew_7 (by decide) rfl ?_
  obtain ⟨x5, hx5, h⟩ := bind_some h
  refine k_loop (P := fun xq => KJ (Rep D B shpC) A 3 0 0 Q p l e ({ frames := 3, cells := 0, slots := 0, locals := 70 } : Room) s m args below meth c 0 0 8 [some (.ref (B + 23)), some (.int xq.2.1), some (.int xq.2.2)] [] xq.1) (C := fun xq => KJ (Rep D B shpC) A 3 0 0 Q p l e ({ frames := 3, cells := 0, slots := 0, locals := 70 } : Room) s m args below meth c 0 0 30 [some (.ref (B + 23)), some (.int xq.2.1), some (.int xq.2.2)] [] xq.1) (fun x z hz hc he => wX1_inferAnew_l8 hF hA hbs hz hc he) hx5 ?_
  show KJ (Rep D B shpC) A 3 0 0 Q p l e ({ frames := 3, cells := 0, slots := 0, locals := 70 } : Room) s m args below meth c 0 0 30 [some (.ref (B + 23)), some (.int x5.2.1), some (.int x5.2.2)] [] x5.1
  cases h
  exact hr _ _ dX1_inferAnew_30
theorem ct_X1_inferAnew {l : Launch} {D : DD} {base B : Nat} (hbs : base ≤ B) {σ : St} {r : St} (h : fX1_inferAnew σ = some r) : MetR l D B shpC base yX1_inferAnew cX1_inferAnew 3 none 3 70 [.ref (B + 23)] σ none r :=
  MetR.of (by decide +kernel) (fun v hv => by simp only [List.mem_cons, List.not_mem_nil, or_false] at hv; rcases hv with rfl <;> rfl) (Nat.le_of_ble_eq_true rfl) hbs (fun p e s m args below meth c hF hr => wX1_inferAnew hF (fun q hq => hq) hbs h (fun pc L hd => k_vret hF hr hd))
set_option maxHeartbeats 4000000 in
set_option maxRecDepth 100000 in
theorem wX1_backwards_j34 {p : Program} {l : Launch} {e : Env} {s : State} {m : MethodId} {args : Array Value} {below : List Frame} {meth : Method} {c : Code} {Q : State → Prop} {A : Nat → Prop} {D : DD} {base B : Nat} (hF : KF D base cX1_backwards RX1 A 5 0 0 p l e ({ frames := 1, cells := 0, slots := 0, locals := 20 } : Room) s m args below meth c) (hA : ∀ q, RA B shpC q → A q) (hbs : base ≤ B) {σ : St} {a1 : Int32} {a2 : Int32} {b3 : Int32} {b4 : Int32} {z : ((Int32 × Int32) ⊕ (Int32 × Int32))} (h : fX1_backwards_j34 σ a1 a2 b3 b4 = some z) (hc : ∀ x, z = .inl x → KJ (Rep D B shpC) A 5 0 0 Q p l e ({ frames := 1, cells := 0, slots := 0, locals := 20 } : Room) s m args below meth c 0 0 5 [some (.ref (B + 23)), some (.int a1), some (.int a2), some (.int x.1), some (.int x.2)] [] σ) (he : ∀ w, z = .inr w → KJ (Rep D B shpC) A 5 0 0 Q p l e ({ frames := 1, cells := 0, slots := 0, locals := 20 } : Room) s m args below meth c 0 0 40 [some (.ref (B + 23)), some (.int a1), some (.int a2), some (.int w.1), some (.int w.2)] [] σ) : KJ (Rep D B shpC) A 5 0 0 Q p l e ({ frames := 1, cells := 0, slots := 0, locals := 20 } : Room) s m args below meth c 0 0 34 [some (.ref (B + 23)), some (.int a1), some (.int a2), some (.int b3), some (.int b4)] [] σ := by
  unfold fX1_backwards_j34 at h
  refine k_iinc hF (v := (b4 + (1 : Int32))) (L' := [some (.ref (B + 23)), some (.int a1), some (.int a2), some (.int b3), some (.int (b4 + (1 : Int32)))]) dX1_backwards_34 rfl (by first | rfl | (congr 1)) (by decide) rfl ?_
  refine k_goto hF dX1_backwards_37 (tgt := 5) (by decide) ?_
  exact hc _ (Option.some.inj h).symm
set_option maxHeartbeats 4000000 in
set_option maxRecDepth 100000 in
theorem wX1_backwards_l5 {p : Program} {l : Launch} {e : Env} {s : State} {m : MethodId} {args : Array Value} {below : List Frame} {meth : Method} {c : Code} {Q : State → Prop} {A : Nat → Prop} {D : DD} {base B : Nat} (hF : KF D base cX1_backwards RX1 A 5 0 0 p l e ({ frames := 1, cells := 0, slots := 0, locals := 20 } : Room) s m args below meth c) (hA : ∀ q, RA B shpC q → A q) (hbs : base ≤ B) {σ : St} {a1 : Int32} {a2 : Int32} {x : (Int32 × Int32)} {z : ((Int32 × Int32) ⊕ (Int32 × Int32))} (h : fX1_backwards_l5 σ a1 a2 x = some z) (hc : ∀ x, z = .inl x → KJ (Rep D B shpC) A 5 0 0 Q p l e ({ frames := 1, cells := 0, slots := 0, locals := 20 } : Room) s m args below meth c 0 0 5 [some (.ref (B + 23)), some (.int a1), some (.int a2), some (.int x.1), some (.int x.2)] [] σ) (he : ∀ w, z = .inr w → KJ (Rep D B shpC) A 5 0 0 Q p l e ({ frames := 1, cells := 0, slots := 0, locals := 20 } : Room) s m args below meth c 0 0 40 [some (.ref (B + 23)), some (.int a1), some (.int a2), some (.int w.1), some (.int w.2)] [] σ) : KJ (Rep D B shpC) A 5 0 0 Q p l e ({ frames := 1, cells := 0, slots := 0, locals := 20 } : Room) s m args below meth c 0 0 5 [some (.ref (B + 23)), some (.int a1), some (.int a2), some (.int x.1), some (.int x.2)] [] σ := by
  unfold fX1_backwards_l5 at h
  refine k_iload hF dX1_backwards_5 rfl ?_
  refine k_bipush hF (v := (24 : Int32)) dX1_backwards_7 (by decide) ?_
  refine k_icmp_ge hF (tgt := 40) dX1_backwards_9 (by decide) (fun c1 => ?_) (fun c1 => ?_)
  · replace h := ite_t c1 h
    exact he _ (Option.some.inj h).symm
  · replace h := ite_f c1 h
    refine k_aload_n hF dX1_backwards_12 rfl ?_
    refine k_get hF (v := .ref (B + 33)) shC_23 fl_X1_30_X1 dX1_backwards_13 rfl ?_
    refine k_iload_n hF dX1_backwards_16 rfl ?_
    obtain ⟨g2, h⟩ := gd_some h
    refine k_aald hF (q0 := (34 + a1.toNatClampNeg)) shC_33 rfl dX1_backwards_17 g2 rfl ?_
    refine k_iload hF dX1_backwards_18 rfl ?_
    obtain ⟨g3, h⟩ := gd_some h
    refine k_iald hF (shC_KNOWN a1.toNatClampNeg (inb_lt g2)) dX1_backwards_20 g3 ?_
    refine k_iload_n hF dX1_backwards_21 rfl ?_
    refine k_iand hF dX1_backwards_22 ?_
    refine k_if_eq hF (tgt := 34) dX1_backwards_23 (by decide) (fun c4 => ?_) (fun c4 => ?_)
    · replace h := ite_t c4 h
      exact wX1_backwards_j34 hF hA hbs h hc he
    · replace h := ite_f c4 h
      refine k_iload_n hF dX1_backwards_26 rfl ?_
      refine k_iload hF dX1_backwards_27 rfl ?_
      obtain ⟨v5, hv5, h⟩ := bind_some h
      refine k_callSN hF hA (as := [.int x.2]) (ct_X10_bit hbs hv5) msn_X1_66 rfl rfl ⟨Nat.le_of_ble_eq_true rfl, Nat.le_of_ble_eq_true rfl⟩ (Nat.le_of_ble_eq_true rfl) dX1_backwards_29 ?_
      refine k_st (st2 := [.int v5, .int x.1]) rfl ?_
      refine k_ior hF dX1_backwards_32 ?_
      refine k_istore_n hF (L' := [some (.ref (B + 23)), some (.int a1), some (.int a2), some (.int (x.1 ||| v5)), some (.int x.2)]) dX1_backwards_33 (by decide) rfl ?_
      exact wX1_backwards_j34 hF hA hbs h hc he
set_option maxHeartbeats 4000000 in
set_option maxRecDepth 100000 in
theorem wX1_backwards {p : Program} {l : Launch} {e : Env} {s : State} {m : MethodId} {args : Array Value} {below : List Frame} {meth : Method} {c : Code} {Q : State → Prop} {A : Nat → Prop} {D : DD} {base B : Nat} (hF : KF D base cX1_backwards RX1 A 5 0 0 p l e ({ frames := 1, cells := 0, slots := 0, locals := 20 } : Room) s m args below meth c) (hA : ∀ q, RA B shpC q → A q) (hbs : base ≤ B) {σ : St} {a1 : Int32} {a2 : Int32} {z : Int32} (h : fX1_backwards σ a1 a2 = some z) (hr : ∀ (pc : Nat) (L : List (Option Value)), narrow .int (.int z) = .int z → decode cX1_backwards pc = .ok (.ireturn, 1) → KJ (Rep D B shpC) A 5 0 0 Q p l e ({ frames := 1, cells := 0, slots := 0, locals := 20 } : Room) s m args below meth c 0 0 pc L [.int z] σ) : KJ (Rep D B shpC) A 5 0 0 Q p l e ({ frames := 1, cells := 0, slots := 0, locals := 20 } : Room) s m args below meth c 0 0 0 [some (.ref (B + 23)), some (.int a1), some (.int a2), none, none] [] σ := by
  unfold fX1_backwards at h
  refine k_iconst hF dX1_backwards_0 ci_0 ?_
  refine k_istore_n hF (L' := [some (.ref (B + 23)), some (.int a1), some (.int a2), some (.int (0 : Int32)), none]) dX1_backwards_1 (by decide) rfl ?_
  refine k_iconst hF dX1_backwards_2 ci_0 ?_
  refine k_istore hF (L' := [some (.ref (B + 23)), some (.int a1), some (.int a2), some (.int (0 : Int32)), some (.int (0 : Int32))]) dX1_backwards_3 (by decide) rfl ?_
  obtain ⟨x6, hx6, h⟩ := bind_some h
  refine k_loop (P := fun xq => KJ (Rep D B shpC) A 5 0 0 Q p l e ({ frames := 1, cells := 0, slots := 0, locals := 20 } : Room) s m args below meth c 0 0 5 [some (.ref (B + 23)), some (.int a1), some (.int a2), some (.int xq.1), some (.int xq.2)] [] σ) (C := fun xq => KJ (Rep D B shpC) A 5 0 0 Q p l e ({ frames := 1, cells := 0, slots := 0, locals := 20 } : Room) s m args below meth c 0 0 40 [some (.ref (B + 23)), some (.int a1), some (.int a2), some (.int xq.1), some (.int xq.2)] [] σ) (fun x z hz hc he => wX1_backwards_l5 hF hA hbs hz hc he) hx6 ?_
  show KJ (Rep D B shpC) A 5 0 0 Q p l e ({ frames := 1, cells := 0, slots := 0, locals := 20 } : Room) s m args below meth c 0 0 40 [some (.ref (B + 23)), some (.int a1), some (.int a2), some (.int x6.1), some (.int x6.2)] [] σ
  refine k_iload_n hF dX1_backwards_40 rfl ?_
  cases h
  exact hr _ _ rfl dX1_backwards_41
theorem ct_X1_backwards {l : Launch} {D : DD} {base B : Nat} (hbs : base ≤ B) {σ : St} {a1 : Int32} {a2 : Int32} {r : Int32} (h : fX1_backwards σ a1 a2 = some r) : MetR l D B shpC base yX1_backwards cX1_backwards 5 (some .int) 1 20 [.ref (B + 23), .int a1, .int a2] σ (some (.int r)) σ :=
  MetR.of (by decide +kernel) (fun v hv => by simp only [List.mem_cons, List.not_mem_nil, or_false] at hv; rcases hv with rfl | rfl | rfl <;> rfl) (Nat.le_of_ble_eq_true rfl) hbs (fun p e s m args below meth c hF hr => wX1_backwards hF (fun q hq => hq) hbs h (fun pc L hn hd => k_iret hF hr hn hd))
set_option maxHeartbeats 4000000 in
set_option maxRecDepth 100000 in
theorem wJ6_bitCount {p : Program} {l : Launch} {e : Env} {s : State} {m : MethodId} {args : Array Value} {below : List Frame} {meth : Method} {c : Code} {Q : State → Prop} {A : Nat → Prop} {D : DD} {base B : Nat} (hF : KF D base cJ6_bitCount_0f7a4 RJ6 A 1 0 0 p l e ({ frames := 0, cells := 0, slots := 0, locals := 0 } : Room) s m args below meth c) (hA : ∀ q, RA B shpC q → A q) (hbs : base ≤ B) {σ : St} {a0 : Int32} {z : Int32} (h : fJ6_bitCount σ a0 = some z) (hr : ∀ (pc : Nat) (L : List (Option Value)), narrow .int (.int z) = .int z → decode cJ6_bitCount_0f7a4 pc = .ok (.ireturn, 1) → KJ (Rep D B shpC) A 1 0 0 Q p l e ({ frames := 0, cells := 0, slots := 0, locals := 0 } : Room) s m args below meth c 0 0 pc L [.int z] σ) : KJ (Rep D B shpC) A 1 0 0 Q p l e ({ frames := 0, cells := 0, slots := 0, locals := 0 } : Room) s m args below meth c 0 0 0 [some (.int a0)] [] σ := by
  unfold fJ6_bitCount at h
  refine k_iload_n hF dJ6_bitCount_0f7a4_0 rfl ?_
  refine k_iload_n hF dJ6_bitCount_0f7a4_1 rfl ?_
  refine k_iconst hF dJ6_bitCount_0f7a4_2 ci_1 ?_
  refine k_iushr hF dJ6_bitCount_0f7a4_3 ?_
  refine k_ldcw hF kc_J6_265 dJ6_bitCount_0f7a4_4 ?_
  refine k_iand hF dJ6_bitCount_0f7a4_7 ?_
  refine k_isub hF dJ6_bitCount_0f7a4_8 ?_
  obtain ⟨n1, hn1, h⟩ := lt_some h
  refine k_st (st2 := [.int n1]) (by rw [hn1]) ?_
  refine k_istore_n hF (L' := [some (.int n1)]) dJ6_bitCount_0f7a4_9 (by decide) rfl ?_
  refine k_iload_n hF dJ6_bitCount_0f7a4_10 rfl ?_
  refine k_ldcw hF kc_J6_266 dJ6_bitCount_0f7a4_11 ?_
  refine k_iand hF dJ6_bitCount_0f7a4_14 ?_
  refine k_iload_n hF dJ6_bitCount_0f7a4_15 rfl ?_
  refine k_iconst hF dJ6_bitCount_0f7a4_16 ci_2 ?_
  refine k_iushr hF dJ6_bitCount_0f7a4_17 ?_
  refine k_ldcw hF kc_J6_266 dJ6_bitCount_0f7a4_18 ?_
  refine k_iand hF dJ6_bitCount_0f7a4_21 ?_
  refine k_iadd hF dJ6_bitCount_0f7a4_22 ?_
  obtain ⟨n2, hn2, h⟩ := lt_some h
  refine k_st (st2 := [.int n2]) (by rw [hn2]) ?_
  refine k_istore_n hF (L' := [some (.int n2)]) dJ6_bitCount_0f7a4_23 (by decide) rfl ?_
  refine k_iload_n hF dJ6_bitCount_0f7a4_24 rfl ?_
  refine k_iload_n hF dJ6_bitCount_0f7a4_25 rfl ?_
  refine k_iconst hF dJ6_bitCount_0f7a4_26 ci_4 ?_
  refine k_iushr hF dJ6_bitCount_0f7a4_27 ?_
  refine k_iadd hF dJ6_bitCount_0f7a4_28 ?_
  refine k_ldcw hF kc_J6_267 dJ6_bitCount_0f7a4_29 ?_
  refine k_iand hF dJ6_bitCount_0f7a4_32 ?_
  obtain ⟨n3, hn3, h⟩ := lt_some h
  refine k_st (st2 := [.int n3]) (by rw [hn3]) ?_
  refine k_istore_n hF (L' := [some (.int n3)]) dJ6_bitCount_0f7a4_33 (by decide) rfl ?_
  refine k_iload_n hF dJ6_bitCount_0f7a4_34 rfl ?_
  refine k_iload_n hF dJ6_bitCount_0f7a4_35 rfl ?_
  refine k_bipush hF (v := (8 : Int32)) dJ6_bitCount_0f7a4_36 (by decide) ?_
  refine k_iushr hF dJ6_bitCount_0f7a4_38 ?_
  refine k_iadd hF dJ6_bitCount_0f7a4_39 ?_
  obtain ⟨n4, hn4, h⟩ := lt_some h
  refine k_st (st2 := [.int n4]) (by rw [hn4]) ?_
  refine k_istore_n hF (L' := [some (.int n4)]) dJ6_bitCount_0f7a4_40 (by decide) rfl ?_
  refine k_iload_n hF dJ6_bitCount_0f7a4_41 rfl ?_
  refine k_iload_n hF dJ6_bitCount_0f7a4_42 rfl ?_
  refine k_bipush hF (v := (16 : Int32)) dJ6_bitCount_0f7a4_43 (by decide) ?_
  refine k_iushr hF dJ6_bitCount_0f7a4_45 ?_
  refine k_iadd hF dJ6_bitCount_0f7a4_46 ?_
  obtain ⟨n5, hn5, h⟩ := lt_some h
  refine k_st (st2 := [.int n5]) (by rw [hn5]) ?_
  refine k_istore_n hF (L' := [some (.int n5)]) dJ6_bitCount_0f7a4_47 (by decide) rfl ?_
  refine k_iload_n hF dJ6_bitCount_0f7a4_48 rfl ?_
  refine k_bipush hF (v := (63 : Int32)) dJ6_bitCount_0f7a4_49 (by decide) ?_
  refine k_iand hF dJ6_bitCount_0f7a4_51 ?_
  cases h
  exact hr _ _ rfl dJ6_bitCount_0f7a4_52
theorem ct_J6_bitCount {l : Launch} {D : DD} {base B : Nat} (hbs : base ≤ B) {σ : St} {a0 : Int32} {r : Int32} (h : fJ6_bitCount σ a0 = some r) : MetR l D B shpC base yJ6_bitCount_0f7a4 cJ6_bitCount_0f7a4 1 (some .int) 0 0 [.int a0] σ (some (.int r)) σ :=
  MetR.of (by decide +kernel) (fun v hv => by simp only [List.mem_cons, List.not_mem_nil, or_false] at hv; rcases hv with rfl <;> rfl) (Nat.le_of_ble_eq_true rfl) hbs (fun p e s m args below meth c hF hr => wJ6_bitCount hF (fun q hq => hq) hbs h (fun pc L hn hd => k_iret hF hr hn hd))
set_option maxHeartbeats 4000000 in
set_option maxRecDepth 100000 in
theorem wX1_countInferred_l11 {p : Program} {l : Launch} {e : Env} {s : State} {m : MethodId} {args : Array Value} {below : List Frame} {meth : Method} {c : Code} {Q : State → Prop} {A : Nat → Prop} {D : DD} {base B : Nat} (hF : KF D base cX1_countInferred RX1 A 4 0 0 p l e ({ frames := 1, cells := 0, slots := 0, locals := 20 } : Room) s m args below meth c) (hA : ∀ q, RA B shpC q → A q) (hbs : base ≤ B) {σ : St} {ea2b : Int32} {x : (Int32 × Int32)} {z : ((Int32 × Int32) ⊕ (Int32 × Int32))} (h : fX1_countInferred_l11 σ ea2b x = some z) (hc : ∀ x, z = .inl x → KJ (Rep D B shpC) A 4 0 0 Q p l e ({ frames := 1, cells := 0, slots := 0, locals := 20 } : Room) s m args below meth c 0 0 11 [some (.ref (B + 23)), some (.int x.1), some (.int ea2b), some (.int x.2)] [] σ) (he : ∀ w, z = .inr w → KJ (Rep D B shpC) A 4 0 0 Q p l e ({ frames := 1, cells := 0, slots := 0, locals := 20 } : Room) s m args below meth c 0 0 48 [some (.ref (B + 23)), some (.int w.1), some (.int ea2b), some (.int w.2)] [] σ) : KJ (Rep D B shpC) A 4 0 0 Q p l e ({ frames := 1, cells := 0, slots := 0, locals := 20 } : Room) s m args below meth c 0 0 11 [some (.ref (B + 23)), some (.int x.1), some (.int ea2b), some (.int x.2)] [] σ := by
  unfold fX1_countInferred_l11 at h
  refine k_iload_n hF dX1_countInferred_11 rfl ?_
  refine k_bipush hF (v := (24 : Int32)) dX1_countInferred_12 (by decide) ?_
  refine k_icmp_ge hF (tgt := 48) dX1_countInferred_14 (by decide) (fun c2 => ?_) (fun c2 => ?_)
  · replace h := ite_t c2 h
    exact he _ (Option.some.inj h).symm
  · replace h := ite_f c2 h
    refine k_iload_n hF dX1_countInferred_17 rfl ?_
    refine k_aload_n hF dX1_countInferred_18 rfl ?_
    refine k_get hF (v := .ref (B + 33)) shC_23 fl_X1_30_X1 dX1_countInferred_19 rfl ?_
    refine k_iload_n hF dX1_countInferred_22 rfl ?_
    obtain ⟨g3, h⟩ := gd_some h
    refine k_aald hF (q0 := (34 + ea2b.toNatClampNeg)) shC_33 rfl dX1_countInferred_23 g3 rfl ?_
    refine k_iload_n hF dX1_countInferred_24 rfl ?_
    obtain ⟨g4, h⟩ := gd_some h
    refine k_iald hF (shC_KNOWN ea2b.toNatClampNeg (inb_lt g3)) dX1_countInferred_25 g4 ?_
    refine k_aload_n hF dX1_countInferred_26 rfl ?_
    refine k_get hF (v := .ref (B + 28)) shC_23 fl_X1_27_X1 dX1_countInferred_27 rfl ?_
    refine k_iload_n hF dX1_countInferred_30 rfl ?_
    obtain ⟨g5, h⟩ := gd_some h
    refine k_aald hF (q0 := (29 + ea2b.toNatClampNeg)) shC_28 rfl dX1_countInferred_31 g5 rfl ?_
    refine k_iload_n hF dX1_countInferred_32 rfl ?_
    obtain ⟨g6, h⟩ := gd_some h
    refine k_iald hF (shC_TOLD ea2b.toNatClampNeg (inb_lt g5)) dX1_countInferred_33 g6 ?_
    refine k_iconst hF dX1_countInferred_34 ci_m1 ?_
    refine k_ixor hF dX1_countInferred_35 ?_
    refine k_iand hF dX1_countInferred_36 ?_
    obtain ⟨v7, hv7, h⟩ := bind_some h
    refine k_callS hF hA (as := [.int ((gi σ (34 + ea2b.toNatClampNeg) x.2.toNatClampNeg) &&& ((gi σ (29 + ea2b.toNatClampNeg) x.2.toNatClampNeg) ^^^ (-1 : Int32)))]) (ct_J6_bitCount hbs hv7) ms_X1_78 rfl rfl ⟨Nat.le_of_ble_eq_true rfl, Nat.le_of_ble_eq_true rfl⟩ (Nat.le_of_ble_eq_true rfl) dX1_countInferred_37 ?_
    refine k_st (st2 := [.int v7, .int x.1]) rfl ?_
    refine k_iadd hF dX1_countInferred_40 ?_
    refine k_istore_n hF (L' := [some (.ref (B + 23)), some (.int (x.1 + v7)), some (.int ea2b), some (.int x.2)]) dX1_countInferred_41 (by decide) rfl ?_
    refine k_iinc hF (v := (x.2 + (1 : Int32))) (L' := [some (.ref (B + 23)), some (.int (x.1 + v7)), some (.int ea2b), some (.int (x.2 + (1 : Int32)))]) dX1_countInferred_42 rfl (by first | rfl | (congr 1)) (by decide) rfl ?_
    refine k_goto hF dX1_countInferred_45 (tgt := 11) (by decide) ?_
    exact hc _ (Option.some.inj h).symm
set_option maxHeartbeats 4000000 in
set_option maxRecDepth 100000 in
theorem wX1_countInferred_l4 {p : Program} {l : Launch} {e : Env} {s : State} {m : MethodId} {args : Array Value} {below : List Frame} {meth : Method} {c : Code} {Q : State → Prop} {A : Nat → Prop} {D : DD} {base B : Nat} (hF : KF D base cX1_countInferred RX1 A 4 0 0 p l e ({ frames := 1, cells := 0, slots := 0, locals := 20 } : Room) s m args below meth c) (hA : ∀ q, RA B shpC q → A q) (hbs : base ≤ B) {σ : St} {x : (Int32 × Int32)} {z : ((Int32 × Int32) ⊕ (Int32 × Int32))} (h : fX1_countInferred_l4 σ x = some z) (hc : ∀ x, z = .inl x → KJ (Rep D B shpC) A 4 0 0 Q p l e ({ frames := 1, cells := 0, slots := 0, locals := 20 } : Room) s m args below meth c 0 0 4 [some (.ref (B + 23)), some (.int x.1), some (.int x.2), none] [] σ) (he : ∀ w, z = .inr w → KJ (Rep D B shpC) A 4 0 0 Q p l e ({ frames := 1, cells := 0, slots := 0, locals := 20 } : Room) s m args below meth c 0 0 54 [some (.ref (B + 23)), some (.int w.1), some (.int w.2), none] [] σ) : KJ (Rep D B shpC) A 4 0 0 Q p l e ({ frames := 1, cells := 0, slots := 0, locals := 20 } : Room) s m args below meth c 0 0 4 [some (.ref (B + 23)), some (.int x.1), some (.int x.2), none] [] σ := by
  unfold fX1_countInferred_l4 at h
  refine k_iload_n hF dX1_countInferred_4 rfl ?_
  refine k_iconst hF dX1_countInferred_5 ci_4 ?_
  refine k_icmp_ge hF (tgt := 54) dX1_countInferred_6 (by decide) (fun c1 => ?_) (fun c1 => ?_)
  · replace h := ite_t c1 h
    exact he _ (Option.some.inj h).symm
  · replace h := ite_f c1 h
    refine k_iconst hF dX1_countInferred_9 ci_0 ?_
    refine k_istore_n hF (L' := [some (.ref (B + 23)), some (.int x.1), some (.int x.2), some (.int (0 : Int32))]) dX1_countInferred_10 (by decide) rfl ?_
    obtain ⟨x8, hx8, h⟩ := bind_some h
    refine k_loop (P := fun xq => KJ (Rep D B shpC) A 4 0 0 Q p l e ({ frames := 1, cells := 0, slots := 0, locals := 20 } : Room) s m args below meth c 0 0 11 [some (.ref (B + 23)), some (.int xq.1), some (.int x.2), some (.int xq.2)] [] σ) (C := fun xq => KJ (Rep D B shpC) A 4 0 0 Q p l e ({ frames := 1, cells := 0, slots := 0, locals := 20 } : Room) s m args below meth c 0 0 48 [some (.ref (B + 23)), some (.int xq.1), some (.int x.2), some (.int xq.2)] [] σ) (fun x z hz hc he => wX1_countInferred_l11 hF hA hbs hz hc he) hx8 ?_
    show KJ (Rep D B shpC) A 4 0 0 Q p l e ({ frames := 1, cells := 0, slots := 0, locals := 20 } : Room) s m args below meth c 0 0 48 [some (.ref (B + 23)), some (.int x8.1), some (.int x.2), some (.int x8.2)] [] σ
    refine k_iinc hF (v := (x.2 + (1 : Int32))) (L' := [some (.ref (B + 23)), some (.int x8.1), some (.int (x.2 + (1 : Int32))), some (.int x8.2)]) dX1_countInferred_48 rfl (by first | rfl | (congr 1)) (by decide) rfl ?_
    refine k_goto hF dX1_countInferred_51 (tgt := 4) (by decide) ?_
    refine k_kill 3 rfl ?_
    exact hc _ (Option.some.inj h).symm
set_option maxHeartbeats 4000000 in
set_option maxRecDepth 100000 in
theorem wX1_countInferred {p : Program} {l : Launch} {e : Env} {s : State} {m : MethodId} {args : Array Value} {below : List Frame} {meth : Method} {c : Code} {Q : State → Prop} {A : Nat → Prop} {D : DD} {base B : Nat} (hF : KF D base cX1_countInferred RX1 A 4 0 0 p l e ({ frames := 1, cells := 0, slots := 0, locals := 20 } : Room) s m args below meth c) (hA : ∀ q, RA B shpC q → A q) (hbs : base ≤ B) {σ : St} {z : Int32} (h : fX1_countInferred σ = some z) (hr : ∀ (pc : Nat) (L : List (Option Value)), narrow .int (.int z) = .int z → decode cX1_countInferred pc = .ok (.ireturn, 1) → KJ (Rep D B shpC) A 4 0 0 Q p l e ({ frames := 1, cells := 0, slots := 0, locals := 20 } : Room) s m args below meth c 0 0 pc L [.int z] σ) : KJ (Rep D B shpC) A 4 0 0 Q p l e ({ frames := 1, cells := 0, slots := 0, locals := 20 } : Room) s m args below meth c 0 0 0 [some (.ref (B + 23)), none, none, none] [] σ := by
  unfold fX1_countInferred at h
  refine k_iconst hF dX1_countInferred_0 ci_0 ?_
  refine k_istore_n hF (L' := [some (.ref (B + 23)), some (.int (0 : Int32)), none, none]) dX1_countInferred_1 (by decide) rfl ?_
  refine k_iconst hF dX1_countInferred_2 ci_0 ?_
  refine k_istore_n hF (L' := [some (.ref (B + 23)), some (.int (0 : Int32)), some (.int (0 : Int32)), none]) dX1_countInferred_3 (by decide) rfl ?_
  obtain ⟨x9, hx9, h⟩ := bind_some h
  refine k_loop (P := fun xq => KJ (Rep D B shpC) A 4 0 0 Q p l e ({ frames := 1, cells := 0, slots := 0, locals := 20 } : Room) s m args below meth c 0 0 4 [some (.ref (B + 23)), some (.int xq.1), some (.int xq.2), none] [] σ) (C := fun xq => KJ (Rep D B shpC) A 4 0 0 Q p l e ({ frames := 1, cells := 0, slots := 0, locals := 20 } : Room) s m args below meth c 0 0 54 [some (.ref (B + 23)), some (.int xq.1), some (.int xq.2), none] [] σ) (fun x z hz hc he => wX1_countInferred_l4 hF hA hbs hz hc he) hx9 ?_
  show KJ (Rep D B shpC) A 4 0 0 Q p l e ({ frames := 1, cells := 0, slots := 0, locals := 20 } : Room) s m args below meth c 0 0 54 [some (.ref (B + 23)), some (.int x9.1), some (.int x9.2), none] [] σ
  refine k_iload_n hF dX1_countInferred_54 rfl ?_
  cases h
  exact hr _ _ rfl dX1_countInferred_55
theorem ct_X1_countInferred {l : Launch} {D : DD} {base B : Nat} (hbs : base ≤ B) {σ : St} {r : Int32} (h : fX1_countInferred σ = some r) : MetR l D B shpC base yX1_countInferred cX1_countInferred 4 (some .int) 1 20 [.ref (B + 23)] σ (some (.int r)) σ :=
  MetR.of (by decide +kernel) (fun v hv => by simp only [List.mem_cons, List.not_mem_nil, or_false] at hv; rcases hv with rfl <;> rfl) (Nat.le_of_ble_eq_true rfl) hbs (fun p e s m args below meth c hF hr => wX1_countInferred hF (fun q hq => hq) hbs h (fun pc L hn hd => k_iret hF hr hn hd))
set_option maxHeartbeats 4000000 in
set_option maxRecDepth 100000 in
theorem wX1_countWays_j74 {p : Program} {l : Launch} {e : Env} {s : State} {m : MethodId} {args : Array Value} {below : List Frame} {meth : Method} {c : Code} {Q : State → Prop} {A : Nat → Prop} {D : DD} {base B : Nat} (hF : KF D base cX1_countWays RX1 A 6 0 0 p l e ({ frames := 2, cells := 0, slots := 0, locals := 44 } : Room) s m args below meth c) (hA : ∀ q, RA B shpC q → A q) (hbs : base ≤ B) {σ : St} {a1 : Int32} {a2 : Int32} {a3 : Int32} {b4 : Int32} {b5 : Int32} {z : ((Int32 × Int32) ⊕ (Int32 × Int32))} (h : fX1_countWays_j74 σ a1 a2 a3 b4 b5 = some z) (hc : ∀ x, z = .inl x → KJ (Rep D B shpC) A 6 0 0 Q p l e ({ frames := 2, cells := 0, slots := 0, locals := 44 } : Room) s m args below meth c 0 0 6 [some (.ref (B + 23)), some (.int a1), some (.int a2), some (.int a3), some (.int x.1), some (.int x.2)] [] σ) (he : ∀ w, z = .inr w → KJ (Rep D B shpC) A 6 0 0 Q p l e ({ frames := 2, cells := 0, slots := 0, locals := 44 } : Room) s m args below meth c 0 0 80 [some (.ref (B + 23)), some (.int a1), some (.int a2), some (.int a3), some (.int w.1), some (.int w.2)] [] σ) : KJ (Rep D B shpC) A 6 0 0 Q p l e ({ frames := 2, cells := 0, slots := 0, locals := 44 } : Room) s m args below meth c 0 0 74 [some (.ref (B + 23)), some (.int a1), some (.int a2), some (.int a3), some (.int b4), some (.int b5)] [] σ := by
  unfold fX1_countWays_j74 at h
  refine k_iinc hF (v := (b5 + (1 : Int32))) (L' := [some (.ref (B + 23)), some (.int a1), some (.int a2), some (.int a3), some (.int b4), some (.int (b5 + (1 : Int32)))]) dX1_countWays_74 rfl (by first | rfl | (congr 1)) (by decide) rfl ?_
  refine k_goto hF dX1_countWays_77 (tgt := 6) (by decide) ?_
  exact hc _ (Option.some.inj h).symm
set_option maxHeartbeats 4000000 in
set_option maxRecDepth 100000 in
theorem wX1_countWays_l6 {p : Program} {l : Launch} {e : Env} {s : State} {m : MethodId} {args : Array Value} {below : List Frame} {meth : Method} {c : Code} {Q : State → Prop} {A : Nat → Prop} {D : DD} {base B : Nat} (hF : KF D base cX1_countWays RX1 A 6 0 0 p l e ({ frames := 2, cells := 0, slots := 0, locals := 44 } : Room) s m args below meth c) (hA : ∀ q, RA B shpC q → A q) (hbs : base ≤ B) {σ : St} {a1 : Int32} {a2 : Int32} {a3 : Int32} {x : (Int32 × Int32)} {z : ((Int32 × Int32) ⊕ (Int32 × Int32))} (h : fX1_countWays_l6 σ a1 a2 a3 x = some z) (hc : ∀ x, z = .inl x → KJ (Rep D B shpC) A 6 0 0 Q p l e ({ frames := 2, cells := 0, slots := 0, locals := 44 } : Room) s m args below meth c 0 0 6 [some (.ref (B + 23)), some (.int a1), some (.int a2), some (.int a3), some (.int x.1), some (.int x.2)] [] σ) (he : ∀ w, z = .inr w → KJ (Rep D B shpC) A 6 0 0 Q p l e ({ frames := 2, cells := 0, slots := 0, locals := 44 } : Room) s m args below meth c 0 0 80 [some (.ref (B + 23)), some (.int a1), some (.int a2), some (.int a3), some (.int w.1), some (.int w.2)] [] σ) : KJ (Rep D B shpC) A 6 0 0 Q p l e ({ frames := 2, cells := 0, slots := 0, locals := 44 } : Room) s m args below meth c 0 0 6 [some (.ref (B + 23)), some (.int a1), some (.int a2), some (.int a3), some (.int x.1), some (.int x.2)] [] σ := by
  unfold fX1_countWays_l6 at h
  refine k_iload hF dX1_countWays_6 rfl ?_
  refine k_aload_n hF dX1_countWays_8 rfl ?_
  refine k_get hF (v := .int (gi σ 23 7)) shC_23 fl_X1_33_X1 dX1_countWays_9 rfl ?_
  refine k_icmp_ge hF (tgt := 80) dX1_countWays_12 (by decide) (fun c1 => ?_) (fun c1 => ?_)
  · replace h := ite_t c1 h
    exact he _ (Option.some.inj h).symm
  · replace h := ite_f c1 h
    refine k_aload_n hF dX1_countWays_15 rfl ?_
    refine k_get hF (v := .ref (B + 27)) shC_23 fl_X1_21_X1 dX1_countWays_16 rfl ?_
    refine k_iload hF dX1_countWays_19 rfl ?_
    obtain ⟨g2, h⟩ := gd_some h
    refine k_zald hF shC_27 dX1_countWays_21 g2 ?_
    refine k_if_ne hF (tgt := 74) dX1_countWays_22 (by decide) (fun c3 => ?_) (fun c3 => ?_)
    · replace h := ite_f c3 h
      exact wX1_countWays_j74 hF hA hbs h hc he
    · replace h := ite_t c3 h
      refine k_aload_n hF dX1_countWays_25 rfl ?_
      refine k_get hF (v := .ref (B + 26)) shC_23 fl_X1_18_X1 dX1_countWays_26 rfl ?_
      refine k_iload hF dX1_countWays_29 rfl ?_
      obtain ⟨g4, h⟩ := gd_some h
      refine k_iald hF shC_26 dX1_countWays_31 g4 ?_
      refine k_iload_n hF dX1_countWays_32 rfl ?_
      refine k_icmp_ne hF (tgt := 74) dX1_countWays_33 (by decide) (fun c5 => ?_) (fun c5 => ?_)
      · replace h := ite_f c5 h
        exact wX1_countWays_j74 hF hA hbs h hc he
      · replace h := ite_t c5 h
        refine k_iload hF dX1_countWays_36 rfl ?_
        refine k_aload_n hF dX1_countWays_38 rfl ?_
        refine k_get hF (v := .ref (B + 33)) shC_23 fl_X1_30_X1 dX1_countWays_39 rfl ?_
        refine k_aload_n hF dX1_countWays_42 rfl ?_
        refine k_get hF (v := .ref (B + 24)) shC_23 fl_X1_9_X1 dX1_countWays_43 rfl ?_
        refine k_iload hF dX1_countWays_46 rfl ?_
        obtain ⟨g6, h⟩ := gd_some h
        refine k_iald hF shC_24 dX1_countWays_48 g6 ?_
        obtain ⟨g7, h⟩ := gd_some h
        refine k_aald hF (q0 := (34 + (gi σ 24 x.2.toNatClampNeg).toNatClampNeg)) shC_33 rfl dX1_countWays_49 g7 rfl ?_
        refine k_iload_n hF dX1_countWays_50 rfl ?_
        obtain ⟨g8, h⟩ := gd_some h
        refine k_iald hF (shC_KNOWN (gi σ 24 x.2.toNatClampNeg).toNatClampNeg (inb_lt g7)) dX1_countWays_51 g8 ?_
        refine k_aload_n hF dX1_countWays_52 rfl ?_
        refine k_aload_n hF dX1_countWays_53 rfl ?_
        refine k_get hF (v := .ref (B + 25)) shC_23 fl_X1_15_X1 dX1_countWays_54 rfl ?_
        refine k_iload hF dX1_countWays_57 rfl ?_
        obtain ⟨g9, h⟩ := gd_some h
        refine k_iald hF shC_25 dX1_countWays_59 g9 ?_
        refine k_iload_n hF dX1_countWays_60 rfl ?_
        obtain ⟨v10, hv10, h⟩ := bind_some h
        refine k_callSN hF hA (as := [.int a3]) (ct_X10_bit hbs hv10) msn_X1_66 rfl rfl ⟨Nat.le_of_ble_eq_true rfl, Nat.le_of_ble_eq_true rfl⟩ (Nat.le_of_ble_eq_true rfl) dX1_countWays_61 ?_
        refine k_st (st2 := [.int v10, .int (gi σ 25 x.2.toNatClampNeg), .ref (B + 23), .int (gi σ (34 + (gi σ 24 x.2.toNatClampNeg).toNatClampNeg) a1.toNatClampNeg), .int x.1]) rfl ?_
        obtain ⟨v11, hv11, h⟩ := bind_some h
        refine k_callV hF hA (as := [.int (gi σ 25 x.2.toNatClampNeg), .int v10]) (ct_X1_backwards hbs hv11) mv_X1_83 shC_23 rfl rfl rfl ⟨Nat.le_of_ble_eq_true rfl, Nat.le_of_ble_eq_true rfl⟩ (Nat.le_of_ble_eq_true rfl) dX1_countWays_64 ?_
        refine k_st (st2 := [.int v11, .int (gi σ (34 + (gi σ 24 x.2.toNatClampNeg).toNatClampNeg) a1.toNatClampNeg), .int x.1]) rfl ?_
        refine k_iand hF dX1_countWays_67 ?_
        obtain ⟨v12, hv12, h⟩ := bind_some h
        refine k_callS hF hA (as := [.int ((gi σ (34 + (gi σ 24 x.2.toNatClampNeg).toNatClampNeg) a1.toNatClampNeg) &&& v11)]) (ct_J6_bitCount hbs hv12) ms_X1_78 rfl rfl ⟨Nat.le_of_ble_eq_true rfl, Nat.le_of_ble_eq_true rfl⟩ (Nat.le_of_ble_eq_true rfl) dX1_countWays_68 ?_
        refine k_st (st2 := [.int v12, .int x.1]) rfl ?_
        refine k_iadd hF dX1_countWays_71 ?_
        refine k_istore hF (L' := [some (.ref (B + 23)), some (.int a1), some (.int a2), some (.int a3), some (.int (x.1 + v12)), some (.int x.2)]) dX1_countWays_72 (by decide) rfl ?_
        exact wX1_countWays_j74 hF hA hbs h hc he
set_option maxHeartbeats 4000000 in
set_option maxRecDepth 100000 in
theorem wX1_countWays {p : Program} {l : Launch} {e : Env} {s : State} {m : MethodId} {args : Array Value} {below : List Frame} {meth : Method} {c : Code} {Q : State → Prop} {A : Nat → Prop} {D : DD} {base B : Nat} (hF : KF D base cX1_countWays RX1 A 6 0 0 p l e ({ frames := 2, cells := 0, slots := 0, locals := 44 } : Room) s m args below meth c) (hA : ∀ q, RA B shpC q → A q) (hbs : base ≤ B) {σ : St} {a1 : Int32} {a2 : Int32} {a3 : Int32} {z : Int32} (h : fX1_countWays σ a1 a2 a3 = some z) (hr : ∀ (pc : Nat) (L : List (Option Value)), narrow .int (.int z) = .int z → decode cX1_countWays pc = .ok (.ireturn, 1) → KJ (Rep D B shpC) A 6 0 0 Q p l e ({ frames := 2, cells := 0, slots := 0, locals := 44 } : Room) s m args below meth c 0 0 pc L [.int z] σ) : KJ (Rep D B shpC) A 6 0 0 Q p l e ({ frames := 2, cells := 0, slots := 0, locals := 44 } : Room) s m args below meth c 0 0 0 [some (.ref (B + 23)), some (.int a1), some (.int a2), some (.int a3), none, none] [] σ := by
  unfold fX1_countWays at h
  refine k_iconst hF dX1_countWays_0 ci_0 ?_
  refine k_istore hF (L' := [some (.ref (B + 23)), some (.int a1), some (.int a2), some (.int a3), some (.int (0 : Int32)), none]) dX1_countWays_1 (by decide) rfl ?_
  refine k_iconst hF dX1_countWays_3 ci_0 ?_
  refine k_istore hF (L' := [some (.ref (B + 23)), some (.int a1), some (.int a2), some (.int a3), some (.int (0 : Int32)), some (.int (0 : Int32))]) dX1_countWays_4 (by decide) rfl ?_
  obtain ⟨x13, hx13, h⟩ := bind_some h
  refine k_loop (P := fun xq => KJ (Rep D B shpC) A 6 0 0 Q p l e ({ frames := 2, cells := 0, slots := 0, locals := 44 } : Room) s m args below meth c 0 0 6 [some (.ref (B + 23)), some (.int a1), some (.int a2), some (.int a3), some (.int xq.1), some (.int xq.2)] [] σ) (C := fun xq => KJ (Rep D B shpC) A 6 0 0 Q p l e ({ frames := 2, cells := 0, slots := 0, locals := 44 } : Room) s m args below meth c 0 0 80 [some (.ref (B + 23)), some (.int a1), some (.int a2), some (.int a3), some (.int xq.1), some (.int xq.2)] [] σ) (fun x z hz hc he => wX1_countWays_l6 hF hA hbs hz hc he) hx13 ?_
  show KJ (Rep D B shpC) A 6 0 0 Q p l e ({ frames := 2, cells := 0, slots := 0, locals := 44 } : Room) s m args below meth c 0 0 80 [some (.ref (B + 23)), some (.int a1), some (.int a2), some (.int a3), some (.int x13.1), some (.int x13.2)] [] σ
  refine k_iload hF dX1_countWays_80 rfl ?_
  cases h
  exact hr _ _ rfl dX1_countWays_82
theorem ct_X1_countWays {l : Launch} {D : DD} {base B : Nat} (hbs : base ≤ B) {σ : St} {a1 : Int32} {a2 : Int32} {a3 : Int32} {r : Int32} (h : fX1_countWays σ a1 a2 a3 = some r) : MetR l D B shpC base yX1_countWays cX1_countWays 6 (some .int) 2 44 [.ref (B + 23), .int a1, .int a2, .int a3] σ (some (.int r)) σ :=
  MetR.of (by decide +kernel) (fun v hv => by simp only [List.mem_cons, List.not_mem_nil, or_false] at hv; rcases hv with rfl | rfl | rfl | rfl <;> rfl) (Nat.le_of_ble_eq_true rfl) hbs (fun p e s m args below meth c hF hr => wX1_countWays hF (fun q hq => hq) hbs h (fun pc L hn hd => k_iret hF hr hn hd))
set_option maxHeartbeats 4000000 in
set_option maxRecDepth 100000 in
theorem wX5_join_j41 {p : Program} {l : Launch} {e : Env} {s : State} {m : MethodId} {args : Array Value} {below : List Frame} {meth : Method} {c : Code} {Q : State → Prop} {A : Nat → Prop} {D : DD} {base B : Nat} (hF : KF D base cX5_join RX5 A 6 0 0 p l e ({ frames := 1, cells := 0, slots := 0, locals := 21 } : Room) s m args below meth c) (hA : ∀ q, RA B shpC q → A q) (hbs : base ≤ B) {σ : St} {u0 : Nat} {u1 : Nat} {u2 : Nat} (q0 : shpC[u0]? = some (.inr (0, 24, fun _ => 0))) (q1 : shpC[u1]? = some (.inr (0, 24, fun _ => 0))) (q2 : shpC[u2]? = some (.inr (0, 24, fun _ => 0))) {ea3b : Int32} {b4 : Int32} {b5 : Int32} {z : ((Int32 × Int32) ⊕ (Int32 × Int32))} (h : fX5_join_j41 σ u0 u1 u2 ea3b b4 b5 = some z) (hc : ∀ x, z = .inl x → KJ (Rep D B shpC) A 6 0 0 Q p l e ({ frames := 1, cells := 0, slots := 0, locals := 21 } : Room) s m args below meth c 0 0 14 [some (.ref (B + u0)), some (.ref (B + u1)), some (.ref (B + u2)), some (.int ea3b), some (.int x.1), some (.int x.2)] [] σ) (he : ∀ w, z = .inr w → KJ (Rep D B shpC) A 6 0 0 Q p l e ({ frames := 1, cells := 0, slots := 0, locals := 21 } : Room) s m args below meth c 0 0 47 [some (.ref (B + u0)), some (.ref (B + u1)), some (.ref (B + u2)), some (.int ea3b), some (.int w.1), some (.int w.2)] [] σ) : KJ (Rep D B shpC) A 6 0 0 Q p l e ({ frames := 1, cells := 0, slots := 0, locals := 21 } : Room) s m args below meth c 0 0 41 [some (.ref (B + u0)), some (.ref (B + u1)), some (.ref (B + u2)), some (.int ea3b), some (.int b4), some (.int b5)] [] σ := by
  unfold fX5_join_j41 at h
  refine k_iinc hF (v := (b5 + (1 : Int32))) (L' := [some (.ref (B + u0)), some (.ref (B + u1)), some (.ref (B + u2)), some (.int ea3b), some (.int b4), some (.int (b5 + (1 : Int32)))]) dX5_join_41 rfl (by first | rfl | (congr 1)) (by decide) rfl ?_
  refine k_goto hF dX5_join_44 (tgt := 14) (by decide) ?_
  exact hc _ (Option.some.inj h).symm
set_option maxHeartbeats 4000000 in
set_option maxRecDepth 100000 in
theorem wX5_join_l14 {p : Program} {l : Launch} {e : Env} {s : State} {m : MethodId} {args : Array Value} {below : List Frame} {meth : Method} {c : Code} {Q : State → Prop} {A : Nat → Prop} {D : DD} {base B : Nat} (hF : KF D base cX5_join RX5 A 6 0 0 p l e ({ frames := 1, cells := 0, slots := 0, locals := 21 } : Room) s m args below meth c) (hA : ∀ q, RA B shpC q → A q) (hbs : base ≤ B) {σ : St} {u0 : Nat} {u1 : Nat} {u2 : Nat} (q0 : shpC[u0]? = some (.inr (0, 24, fun _ => 0))) (q1 : shpC[u1]? = some (.inr (0, 24, fun _ => 0))) (q2 : shpC[u2]? = some (.inr (0, 24, fun _ => 0))) {ea3b : Int32} {x : (Int32 × Int32)} {z : ((Int32 × Int32) ⊕ (Int32 × Int32))} (h : fX5_join_l14 σ u0 u1 u2 ea3b x = some z) (hc : ∀ x, z = .inl x → KJ (Rep D B shpC) A 6 0 0 Q p l e ({ frames := 1, cells := 0, slots := 0, locals := 21 } : Room) s m args below meth c 0 0 14 [some (.ref (B + u0)), some (.ref (B + u1)), some (.ref (B + u2)), some (.int ea3b), some (.int x.1), some (.int x.2)] [] σ) (he : ∀ w, z = .inr w → KJ (Rep D B shpC) A 6 0 0 Q p l e ({ frames := 1, cells := 0, slots := 0, locals := 21 } : Room) s m args below meth c 0 0 47 [some (.ref (B + u0)), some (.ref (B + u1)), some (.ref (B + u2)), some (.int ea3b), some (.int w.1), some (.int w.2)] [] σ) : KJ (Rep D B shpC) A 6 0 0 Q p l e ({ frames := 1, cells := 0, slots := 0, locals := 21 } : Room) s m args below meth c 0 0 14 [some (.ref (B + u0)), some (.ref (B + u1)), some (.ref (B + u2)), some (.int ea3b), some (.int x.1), some (.int x.2)] [] σ := by
  unfold fX5_join_l14 at h
  refine k_iload hF dX5_join_14 rfl ?_
  refine k_bipush hF (v := (24 : Int32)) dX5_join_16 (by decide) ?_
  refine k_icmp_ge hF (tgt := 47) dX5_join_18 (by decide) (fun c2 => ?_) (fun c2 => ?_)
  · replace h := ite_t c2 h
    exact he _ (Option.some.inj h).symm
  · replace h := ite_f c2 h
    refine k_aload_n hF dX5_join_21 rfl ?_
    refine k_iload_n hF dX5_join_22 rfl ?_
    obtain ⟨g3, h⟩ := gd_some h
    refine k_iald hF q0 dX5_join_23 g3 ?_
    refine k_iload hF dX5_join_24 rfl ?_
    obtain ⟨v4, hv4, h⟩ := bind_some h
    refine k_callSN hF hA (as := [.int (gi σ u0 ea3b.toNatClampNeg), .int x.2]) (ct_X10_has hbs hv4) msn_X5_63 rfl rfl ⟨Nat.le_of_ble_eq_true rfl, Nat.le_of_ble_eq_true rfl⟩ (Nat.le_of_ble_eq_true rfl) dX5_join_26 ?_
    refine k_st (st2 := [.int v4]) rfl ?_
    refine k_if_eq hF (tgt := 41) dX5_join_29 (by decide) (fun c5 => ?_) (fun c5 => ?_)
    · replace h := ite_t c5 h
      exact wX5_join_j41 hF hA hbs q0 q1 q2 h hc he
    · replace h := ite_f c5 h
      refine k_iload hF dX5_join_32 rfl ?_
      refine k_aload_n hF dX5_join_34 rfl ?_
      refine k_iload hF dX5_join_35 rfl ?_
      obtain ⟨g6, h⟩ := gd_some h
      refine k_iald hF q1 dX5_join_37 g6 ?_
      refine k_ior hF dX5_join_38 ?_
      obtain ⟨n7, hn7, h⟩ := lt_some h
      refine k_st (st2 := [.int n7]) (by rw [hn7]) ?_
      refine k_istore hF (L' := [some (.ref (B + u0)), some (.ref (B + u1)), some (.ref (B + u2)), some (.int ea3b), some (.int n7), some (.int x.2)]) dX5_join_39 (by decide) rfl ?_
      exact wX5_join_j41 hF hA hbs q0 q1 q2 h hc he
set_option maxHeartbeats 4000000 in
set_option maxRecDepth 100000 in
theorem wX5_join_l2 {p : Program} {l : Launch} {e : Env} {s : State} {m : MethodId} {args : Array Value} {below : List Frame} {meth : Method} {c : Code} {Q : State → Prop} {A : Nat → Prop} {D : DD} {base B : Nat} (hF : KF D base cX5_join RX5 A 6 0 0 p l e ({ frames := 1, cells := 0, slots := 0, locals := 21 } : Room) s m args below meth c) (hA : ∀ q, RA B shpC q → A q) (hbs : base ≤ B) {σ : St} {u0 : Nat} {u1 : Nat} {u2 : Nat} (q0 : shpC[u0]? = some (.inr (0, 24, fun _ => 0))) (q1 : shpC[u1]? = some (.inr (0, 24, fun _ => 0))) (q2 : shpC[u2]? = some (.inr (0, 24, fun _ => 0))) {x : (St × Int32)} {z : ((St × Int32) ⊕ (St × Int32))} (h : fX5_join_l2 σ u0 u1 u2 x = some z) (hc : ∀ x, z = .inl x → KJ (Rep D B shpC) A 6 0 0 Q p l e ({ frames := 1, cells := 0, slots := 0, locals := 21 } : Room) s m args below meth c 0 0 2 [some (.ref (B + u0)), some (.ref (B + u1)), some (.ref (B + u2)), some (.int x.2), none, none] [] x.1) (he : ∀ w, z = .inr w → KJ (Rep D B shpC) A 6 0 0 Q p l e ({ frames := 1, cells := 0, slots := 0, locals := 21 } : Room) s m args below meth c 0 0 58 [some (.ref (B + u0)), some (.ref (B + u1)), some (.ref (B + u2)), some (.int w.2), none, none] [] w.1) : KJ (Rep D B shpC) A 6 0 0 Q p l e ({ frames := 1, cells := 0, slots := 0, locals := 21 } : Room) s m args below meth c 0 0 2 [some (.ref (B + u0)), some (.ref (B + u1)), some (.ref (B + u2)), some (.int x.2), none, none] [] x.1 := by
  unfold fX5_join_l2 at h
  refine k_iload_n hF dX5_join_2 rfl ?_
  refine k_bipush hF (v := (24 : Int32)) dX5_join_3 (by decide) ?_
  refine k_icmp_ge hF (tgt := 58) dX5_join_5 (by decide) (fun c1 => ?_) (fun c1 => ?_)
  · replace h := ite_t c1 h
    exact he _ (Option.some.inj h).symm
  · replace h := ite_f c1 h
    refine k_iconst hF dX5_join_8 ci_0 ?_
    refine k_istore hF (L' := [some (.ref (B + u0)), some (.ref (B + u1)), some (.ref (B + u2)), some (.int x.2), some (.int (0 : Int32)), none]) dX5_join_9 (by decide) rfl ?_
    refine k_iconst hF dX5_join_11 ci_0 ?_
    refine k_istore hF (L' := [some (.ref (B + u0)), some (.ref (B + u1)), some (.ref (B + u2)), some (.int x.2), some (.int (0 : Int32)), some (.int (0 : Int32))]) dX5_join_12 (by decide) rfl ?_
    obtain ⟨x8, hx8, h⟩ := bind_some h
    refine k_loop (P := fun xq => KJ (Rep D B shpC) A 6 0 0 Q p l e ({ frames := 1, cells := 0, slots := 0, locals := 21 } : Room) s m args below meth c 0 0 14 [some (.ref (B + u0)), some (.ref (B + u1)), some (.ref (B + u2)), some (.int x.2), some (.int xq.1), some (.int xq.2)] [] x.1) (C := fun xq => KJ (Rep D B shpC) A 6 0 0 Q p l e ({ frames := 1, cells := 0, slots := 0, locals := 21 } : Room) s m args below meth c 0 0 47 [some (.ref (B + u0)), some (.ref (B + u1)), some (.ref (B + u2)), some (.int x.2), some (.int xq.1), some (.int xq.2)] [] x.1) (fun x z hz hc he => wX5_join_l14 hF hA hbs q0 q1 q2 hz hc he) hx8 ?_
    show KJ (Rep D B shpC) A 6 0 0 Q p l e ({ frames := 1, cells := 0, slots := 0, locals := 21 } : Room) s m args below meth c 0 0 47 [some (.ref (B + u0)), some (.ref (B + u1)), some (.ref (B + u2)), some (.int x.2), some (.int x8.1), some (.int x8.2)] [] x.1
    refine k_aload_n hF dX5_join_47 rfl ?_
    refine k_iload_n hF dX5_join_48 rfl ?_
    refine k_iload hF dX5_join_49 rfl ?_
    obtain ⟨g9, h⟩ := gd_some h
    refine k_iast hF hA q2 dX5_join_51 g9 ?_
    obtain ⟨σ10, hσ10, h⟩ := lt_some h
    refine k_sig hσ10 ?_
    refine k_iinc hF (v := (x.2 + (1 : Int32))) (L' := [some (.ref (B + u0)), some (.ref (B + u1)), some (.ref (B + u2)), some (.int (x.2 + (1 : Int32))), some (.int x8.1), some (.int x8.2)]) dX5_join_52 rfl (by first | rfl | (congr 1)) (by decide) rfl ?_
    refine k_goto hF dX5_join_55 (tgt := 2) (by decide) ?_
    refine k_kill 4 rfl ?_
    refine k_kill 5 rfl ?_
    exact hc _ (Option.some.inj h).symm
set_option maxHeartbeats 4000000 in
set_option maxRecDepth 100000 in
theorem wX5_join {p : Program} {l : Launch} {e : Env} {s : State} {m : MethodId} {args : Array Value} {below : List Frame} {meth : Method} {c : Code} {Q : State → Prop} {A : Nat → Prop} {D : DD} {base B : Nat} (hF : KF D base cX5_join RX5 A 6 0 0 p l e ({ frames := 1, cells := 0, slots := 0, locals := 21 } : Room) s m args below meth c) (hA : ∀ q, RA B shpC q → A q) (hbs : base ≤ B) {σ : St} {u0 : Nat} {u1 : Nat} {u2 : Nat} (q0 : shpC[u0]? = some (.inr (0, 24, fun _ => 0))) (q1 : shpC[u1]? = some (.inr (0, 24, fun _ => 0))) (q2 : shpC[u2]? = some (.inr (0, 24, fun _ => 0))) {z : St} (h : fX5_join σ u0 u1 u2 = some z) (hr : ∀ (pc : Nat) (L : List (Option Value)), decode cX5_join pc = .ok (.return_, 1) → KJ (Rep D B shpC) A 6 0 0 Q p l e ({ frames := 1, cells := 0, slots := 0, locals := 21 } : Room) s m args below meth c 0 0 pc L [] z) : KJ (Rep D B shpC) A 6 0 0 Q p l e ({ frames := 1, cells := 0, slots := 0, locals := 21 } : Room) s m args below meth c 0 0 0 [some (.ref (B + u0)), some (.ref (B + u1)), some (.ref (B + u2)), none, none, none] [] σ := by
  unfold fX5_join at h
  refine k_iconst hF dX5_join_0 ci_0 ?_
  refine k_istore_n hF (L' := [some (.ref (B + u0)), some (.ref (B + u1)), some (.ref (B + u2)), some (.int (0 : Int32)), none, none]) dX5_join_1 (by decide) rfl ?_
  obtain ⟨x11, hx11, h⟩ := bind_some h
  refine k_loop (P := fun xq => KJ (Rep D B shpC) A 6 0 0 Q p l e ({ frames := 1, cells := 0, slots := 0, locals := 21 } : Room) s m args below meth c 0 0 2 [some (.ref (B + u0)), some (.ref (B + u1)), some (.ref (B + u2)), some (.int xq.2), none, none] [] xq.1) (C := fun xq => KJ (Rep D B shpC) A 6 0 0 Q p l e ({ frames := 1, cells := 0, slots := 0, locals := 21 } : Room) s m args below meth c 0 0 58 [some (.ref (B + u0)), some (.ref (B + u1)), some (.ref (B + u2)), some (.int xq.2), none, none] [] xq.1) (fun x z hz hc he => wX5_join_l2 hF hA hbs q0 q1 q2 hz hc he) hx11 ?_
  show KJ (Rep D B shpC) A 6 0 0 Q p l e ({ frames := 1, cells := 0, slots := 0, locals := 21 } : Room) s m args below meth c 0 0 58 [some (.ref (B + u0)), some (.ref (B + u1)), some (.ref (B + u2)), some (.int x11.2), none, none] [] x11.1
  cases h
  exact hr _ _ dX5_join_58
theorem ct_X5_join {l : Launch} {D : DD} {base B : Nat} (hbs : base ≤ B) {σ : St} {u0 : Nat} {u1 : Nat} {u2 : Nat} (q0 : shpC[u0]? = some (.inr (0, 24, fun _ => 0))) (q1 : shpC[u1]? = some (.inr (0, 24, fun _ => 0))) (q2 : shpC[u2]? = some (.inr (0, 24, fun _ => 0))) {r : St} (h : fX5_join σ u0 u1 u2 = some r) : MetR l D B shpC base yX5_join cX5_join 6 none 1 21 [.ref (B + u0), .ref (B + u1), .ref (B + u2)] σ none r :=
  MetR.of (by decide +kernel) (fun v hv => by simp only [List.mem_cons, List.not_mem_nil, or_false] at hv; rcases hv with rfl | rfl | rfl <;> rfl) (Nat.le_of_ble_eq_true rfl) hbs (fun p e s m args below meth c hF hr => wX5_join hF (fun q hq => hq) hbs q0 q1 q2 h (fun pc L hd => k_vret hF hr hd))
set_option maxHeartbeats 4000000 in
set_option maxRecDepth 100000 in
theorem wX5_repeat_l2 {p : Program} {l : Launch} {e : Env} {s : State} {m : MethodId} {args : Array Value} {below : List Frame} {meth : Method} {c : Code} {Q : State → Prop} {A : Nat → Prop} {D : DD} {base B : Nat} (hF : KF D base cX5_repeat RX5 A 5 0 0 p l e ({ frames := 1, cells := 0, slots := 0, locals := 21 } : Room) s m args below meth c) (hA : ∀ q, RA B shpC q → A q) (hbs : base ≤ B) {σ : St} {u0 : Nat} {a1 : Int32} {u2 : Nat} (q0 : shpC[u0]? = some (.inr (0, 24, fun _ => 0))) (q2 : shpC[u2]? = some (.inr (0, 24, fun _ => 0))) {x : (St × Int32)} {z : ((St × Int32) ⊕ (St × Int32))} (h : fX5_repeat_l2 σ u0 a1 u2 x = some z) (hc : ∀ x, z = .inl x → KJ (Rep D B shpC) A 5 0 0 Q p l e ({ frames := 1, cells := 0, slots := 0, locals := 21 } : Room) s m args below meth c 0 0 2 [some (.ref (B + u0)), some (.int a1), some (.ref (B + u2)), some (.int x.2), none] [] x.1) (he : ∀ w, z = .inr w → KJ (Rep D B shpC) A 5 0 0 Q p l e ({ frames := 1, cells := 0, slots := 0, locals := 21 } : Room) s m args below meth c 0 0 27 [some (.ref (B + u0)), some (.int a1), some (.ref (B + u2)), some (.int w.2), none] [] w.1) : KJ (Rep D B shpC) A 5 0 0 Q p l e ({ frames := 1, cells := 0, slots := 0, locals := 21 } : Room) s m args below meth c 0 0 2 [some (.ref (B + u0)), some (.int a1), some (.ref (B + u2)), some (.int x.2), none] [] x.1 := by
  unfold fX5_repeat_l2 at h
  refine k_iload_n hF dX5_repeat_2 rfl ?_
  refine k_bipush hF (v := (24 : Int32)) dX5_repeat_3 (by decide) ?_
  refine k_icmp_ge hF (tgt := 27) dX5_repeat_5 (by decide) (fun c1 => ?_) (fun c1 => ?_)
  · replace h := ite_t c1 h
    exact he _ (Option.some.inj h).symm
  · replace h := ite_f c1 h
    refine k_aload_n hF dX5_repeat_8 rfl ?_
    refine k_iload_n hF dX5_repeat_9 rfl ?_
    refine k_aload_n hF dX5_repeat_10 rfl ?_
    refine k_iload_n hF dX5_repeat_11 rfl ?_
    obtain ⟨g2, h⟩ := gd_some h
    refine k_iald hF q0 dX5_repeat_12 g2 ?_
    refine k_iload_n hF dX5_repeat_13 rfl ?_
    obtain ⟨v3, hv3, h⟩ := bind_some h
    refine k_callSN hF hA (as := [.int x.2]) (ct_X10_bit hbs hv3) msn_X5_55 rfl rfl ⟨Nat.le_of_ble_eq_true rfl, Nat.le_of_ble_eq_true rfl⟩ (Nat.le_of_ble_eq_true rfl) dX5_repeat_14 ?_
    refine k_st (st2 := [.int v3, .int (gi x.1 u0 x.2.toNatClampNeg), .int x.2, .ref (B + u2)]) rfl ?_
    refine k_iload_n hF dX5_repeat_17 rfl ?_
    refine k_iand hF dX5_repeat_18 ?_
    refine k_ior hF dX5_repeat_19 ?_
    obtain ⟨g4, h⟩ := gd_some h
    refine k_iast hF hA q2 dX5_repeat_20 g4 ?_
    obtain ⟨σ5, hσ5, h⟩ := lt_some h
    refine k_sig hσ5 ?_
    refine k_iinc hF (v := (x.2 + (1 : Int32))) (L' := [some (.ref (B + u0)), some (.int a1), some (.ref (B + u2)), some (.int (x.2 + (1 : Int32))), none]) dX5_repeat_21 rfl (by first | rfl | (congr 1)) (by decide) rfl ?_
    refine k_goto hF dX5_repeat_24 (tgt := 2) (by decide) ?_
    exact hc _ (Option.some.inj h).symm
set_option maxHeartbeats 4000000 in
set_option maxRecDepth 100000 in
theorem wX5_repeat_j66 {p : Program} {l : Launch} {e : Env} {s : State} {m : MethodId} {args : Array Value} {below : List Frame} {meth : Method} {c : Code} {Q : State → Prop} {A : Nat → Prop} {D : DD} {base B : Nat} (hF : KF D base cX5_repeat RX5 A 5 0 0 p l e ({ frames := 1, cells := 0, slots := 0, locals := 21 } : Room) s m args below meth c) (hA : ∀ q, RA B shpC q → A q) (hbs : base ≤ B) {σ : St} {u0 : Nat} {a1 : Int32} {u2 : Nat} (q0 : shpC[u0]? = some (.inr (0, 24, fun _ => 0))) (q2 : shpC[u2]? = some (.inr (0, 24, fun _ => 0))) {ea3b : Int32} {b4 : Int32} {z : ((St × Int32) ⊕ (St × Int32))} (h : fX5_repeat_j66 σ u0 a1 u2 ea3b b4 = some z) (hc : ∀ x, z = .inl x → KJ (Rep D B shpC) A 5 0 0 Q p l e ({ frames := 1, cells := 0, slots := 0, locals := 21 } : Room) s m args below meth c 0 0 38 [some (.ref (B + u0)), some (.int a1), some (.ref (B + u2)), some (.int ea3b), some (.int x.2)] [] x.1) (he : ∀ w, z = .inr w → KJ (Rep D B shpC) A 5 0 0 Q p l e ({ frames := 1, cells := 0, slots := 0, locals := 21 } : Room) s m args below meth c 0 0 72 [some (.ref (B + u0)), some (.int a1), some (.ref (B + u2)), some (.int ea3b), some (.int w.2)] [] w.1) : KJ (Rep D B shpC) A 5 0 0 Q p l e ({ frames := 1, cells := 0, slots := 0, locals := 21 } : Room) s m args below meth c 0 0 66 [some (.ref (B + u0)), some (.int a1), some (.ref (B + u2)), some (.int ea3b), some (.int b4)] [] σ := by
  unfold fX5_repeat_j66 at h
  refine k_iinc hF (v := (b4 + (1 : Int32))) (L' := [some (.ref (B + u0)), some (.int a1), some (.ref (B + u2)), some (.int ea3b), some (.int (b4 + (1 : Int32)))]) dX5_repeat_66 rfl (by first | rfl | (congr 1)) (by decide) rfl ?_
  refine k_goto hF dX5_repeat_69 (tgt := 38) (by decide) ?_
  exact hc _ (Option.some.inj h).symm
set_option maxHeartbeats 4000000 in
set_option maxRecDepth 100000 in
theorem wX5_repeat_l38 {p : Program} {l : Launch} {e : Env} {s : State} {m : MethodId} {args : Array Value} {below : List Frame} {meth : Method} {c : Code} {Q : State → Prop} {A : Nat → Prop} {D : DD} {base B : Nat} (hF : KF D base cX5_repeat RX5 A 5 0 0 p l e ({ frames := 1, cells := 0, slots := 0, locals := 21 } : Room) s m args below meth c) (hA : ∀ q, RA B shpC q → A q) (hbs : base ≤ B) {σ : St} {u0 : Nat} {a1 : Int32} {u2 : Nat} (q0 : shpC[u0]? = some (.inr (0, 24, fun _ => 0))) (q2 : shpC[u2]? = some (.inr (0, 24, fun _ => 0))) {ea3b : Int32} {x : (St × Int32)} {z : ((St × Int32) ⊕ (St × Int32))} (h : fX5_repeat_l38 σ u0 a1 u2 ea3b x = some z) (hc : ∀ x, z = .inl x → KJ (Rep D B shpC) A 5 0 0 Q p l e ({ frames := 1, cells := 0, slots := 0, locals := 21 } : Room) s m args below meth c 0 0 38 [some (.ref (B + u0)), some (.int a1), some (.ref (B + u2)), some (.int ea3b), some (.int x.2)] [] x.1) (he : ∀ w, z = .inr w → KJ (Rep D B shpC) A 5 0 0 Q p l e ({ frames := 1, cells := 0, slots := 0, locals := 21 } : Room) s m args below meth c 0 0 72 [some (.ref (B + u0)), some (.int a1), some (.ref (B + u2)), some (.int ea3b), some (.int w.2)] [] w.1) : KJ (Rep D B shpC) A 5 0 0 Q p l e ({ frames := 1, cells := 0, slots := 0, locals := 21 } : Room) s m args below meth c 0 0 38 [some (.ref (B + u0)), some (.int a1), some (.ref (B + u2)), some (.int ea3b), some (.int x.2)] [] x.1 := by
  unfold fX5_repeat_l38 at h
  refine k_iload hF dX5_repeat_38 rfl ?_
  refine k_bipush hF (v := (24 : Int32)) dX5_repeat_40 (by decide) ?_
  refine k_icmp_ge hF (tgt := 72) dX5_repeat_42 (by decide) (fun c8 => ?_) (fun c8 => ?_)
  · replace h := ite_t c8 h
    exact he _ (Option.some.inj h).symm
  · replace h := ite_f c8 h
    refine k_aload_n hF dX5_repeat_45 rfl ?_
    refine k_iload hF dX5_repeat_46 rfl ?_
    obtain ⟨g9, h⟩ := gd_some h
    refine k_iald hF q2 dX5_repeat_48 g9 ?_
    refine k_iload_n hF dX5_repeat_49 rfl ?_
    obtain ⟨v10, hv10, h⟩ := bind_some h
    refine k_callSN hF hA (as := [.int (gi x.1 u2 x.2.toNatClampNeg), .int ea3b]) (ct_X10_has hbs hv10) msn_X5_63 rfl rfl ⟨Nat.le_of_ble_eq_true rfl, Nat.le_of_ble_eq_true rfl⟩ (Nat.le_of_ble_eq_true rfl) dX5_repeat_50 ?_
    refine k_st (st2 := [.int v10]) rfl ?_
    refine k_if_eq hF (tgt := 66) dX5_repeat_53 (by decide) (fun c11 => ?_) (fun c11 => ?_)
    · replace h := ite_t c11 h
      exact wX5_repeat_j66 hF hA hbs q0 q2 h hc he
    · replace h := ite_f c11 h
      refine k_aload_n hF dX5_repeat_56 rfl ?_
      refine k_iload hF dX5_repeat_57 rfl ?_
      refine k_dup2 hF dX5_repeat_59 rfl rfl ?_
      obtain ⟨g12, h⟩ := gd_some h
      refine k_iald hF q2 dX5_repeat_60 g12 ?_
      refine k_aload_n hF dX5_repeat_61 rfl ?_
      refine k_iload_n hF dX5_repeat_62 rfl ?_
      obtain ⟨g13, h⟩ := gd_some h
      refine k_iald hF q2 dX5_repeat_63 g13 ?_
      refine k_ior hF dX5_repeat_64 ?_
      obtain ⟨g14, h⟩ := gd_some h
      refine k_iast hF hA q2 dX5_repeat_65 g14 ?_
      obtain ⟨σ15, hσ15, h⟩ := lt_some h
      refine k_sig hσ15 ?_
      exact wX5_repeat_j66 hF hA hbs q0 q2 h hc he
set_option maxHeartbeats 4000000 in
set_option maxRecDepth 100000 in
theorem wX5_repeat_l29 {p : Program} {l : Launch} {e : Env} {s : State} {m : MethodId} {args : Array Value} {below : List Frame} {meth : Method} {c : Code} {Q : State → Prop} {A : Nat → Prop} {D : DD} {base B : Nat} (hF : KF D base cX5_repeat RX5 A 5 0 0 p l e ({ frames := 1, cells := 0, slots := 0, locals := 21 } : Room) s m args below meth c) (hA : ∀ q, RA B shpC q → A q) (hbs : base ≤ B) {σ : St} {u0 : Nat} {a1 : Int32} {u2 : Nat} (q0 : shpC[u0]? = some (.inr (0, 24, fun _ => 0))) (q2 : shpC[u2]? = some (.inr (0, 24, fun _ => 0))) {x : (St × Int32)} {z : ((St × Int32) ⊕ (St × Int32))} (h : fX5_repeat_l29 σ u0 a1 u2 x = some z) (hc : ∀ x, z = .inl x → KJ (Rep D B shpC) A 5 0 0 Q p l e ({ frames := 1, cells := 0, slots := 0, locals := 21 } : Room) s m args below meth c 0 0 29 [some (.ref (B + u0)), some (.int a1), some (.ref (B + u2)), some (.int x.2), none] [] x.1) (he : ∀ w, z = .inr w → KJ (Rep D B shpC) A 5 0 0 Q p l e ({ frames := 1, cells := 0, slots := 0, locals := 21 } : Room) s m args below meth c 0 0 78 [some (.ref (B + u0)), some (.int a1), some (.ref (B + u2)), some (.int w.2), none] [] w.1) : KJ (Rep D B shpC) A 5 0 0 Q p l e ({ frames := 1, cells := 0, slots := 0, locals := 21 } : Room) s m args below meth c 0 0 29 [some (.ref (B + u0)), some (.int a1), some (.ref (B + u2)), some (.int x.2), none] [] x.1 := by
  unfold fX5_repeat_l29 at h
  refine k_iload_n hF dX5_repeat_29 rfl ?_
  refine k_bipush hF (v := (24 : Int32)) dX5_repeat_30 (by decide) ?_
  refine k_icmp_ge hF (tgt := 78) dX5_repeat_32 (by decide) (fun c7 => ?_) (fun c7 => ?_)
  · replace h := ite_t c7 h
    exact he _ (Option.some.inj h).symm
  · replace h := ite_f c7 h
    refine k_iconst hF dX5_repeat_35 ci_0 ?_
    refine k_istore hF (L' := [some (.ref (B + u0)), some (.int a1), some (.ref (B + u2)), some (.int x.2), some (.int (0 : Int32))]) dX5_repeat_36 (by decide) rfl ?_
    obtain ⟨x16, hx16, h⟩ := bind_some h
    refine k_loop (P := fun xq => KJ (Rep D B shpC) A 5 0 0 Q p l e ({ frames := 1, cells := 0, slots := 0, locals := 21 } : Room) s m args below meth c 0 0 38 [some (.ref (B + u0)), some (.int a1), some (.ref (B + u2)), some (.int x.2), some (.int xq.2)] [] xq.1) (C := fun xq => KJ (Rep D B shpC) A 5 0 0 Q p l e ({ frames := 1, cells := 0, slots := 0, locals := 21 } : Room) s m args below meth c 0 0 72 [some (.ref (B + u0)), some (.int a1), some (.ref (B + u2)), some (.int x.2), some (.int xq.2)] [] xq.1) (fun x z hz hc he => wX5_repeat_l38 hF hA hbs q0 q2 hz hc he) hx16 ?_
    show KJ (Rep D B shpC) A 5 0 0 Q p l e ({ frames := 1, cells := 0, slots := 0, locals := 21 } : Room) s m args below meth c 0 0 72 [some (.ref (B + u0)), some (.int a1), some (.ref (B + u2)), some (.int x.2), some (.int x16.2)] [] x16.1
    refine k_iinc hF (v := (x.2 + (1 : Int32))) (L' := [some (.ref (B + u0)), some (.int a1), some (.ref (B + u2)), some (.int (x.2 + (1 : Int32))), some (.int x16.2)]) dX5_repeat_72 rfl (by first | rfl | (congr 1)) (by decide) rfl ?_
    refine k_goto hF dX5_repeat_75 (tgt := 29) (by decide) ?_
    refine k_kill 4 rfl ?_
    exact hc _ (Option.some.inj h).symm
set_option maxHeartbeats 4000000 in
set_option maxRecDepth 100000 in
theorem wX5_repeat {p : Program} {l : Launch} {e : Env} {s : State} {m : MethodId} {args : Array Value} {below : List Frame} {meth : Method} {c : Code} {Q : State → Prop} {A : Nat → Prop} {D : DD} {base B : Nat} (hF : KF D base cX5_repeat RX5 A 5 0 0 p l e ({ frames := 1, cells := 0, slots := 0, locals := 21 } : Room) s m args below meth c) (hA : ∀ q, RA B shpC q → A q) (hbs : base ≤ B) {σ : St} {u0 : Nat} {a1 : Int32} {u2 : Nat} (q0 : shpC[u0]? = some (.inr (0, 24, fun _ => 0))) (q2 : shpC[u2]? = some (.inr (0, 24, fun _ => 0))) {z : St} (h : fX5_repeat σ u0 a1 u2 = some z) (hr : ∀ (pc : Nat) (L : List (Option Value)), decode cX5_repeat pc = .ok (.return_, 1) → KJ (Rep D B shpC) A 5 0 0 Q p l e ({ frames := 1, cells := 0, slots := 0, locals := 21 } : Room) s m args below meth c 0 0 pc L [] z) : KJ (Rep D B shpC) A 5 0 0 Q p l e ({ frames := 1, cells := 0, slots := 0, locals := 21 } : Room) s m args below meth c 0 0 0 [some (.ref (B + u0)), some (.int a1), some (.ref (B + u2)), none, none] [] σ := by
  unfold fX5_repeat at h
  refine k_iconst hF dX5_repeat_0 ci_0 ?_
  refine k_istore_n hF (L' := [some (.ref (B + u0)), some (.int a1), some (.ref (B + u2)), some (.int (0 : Int32)), none]) dX5_repeat_1 (by decide) rfl ?_
  obtain ⟨x6, hx6, h⟩ := bind_some h
  refine k_loop (P := fun xq => KJ (Rep D B shpC) A 5 0 0 Q p l e ({ frames := 1, cells := 0, slots := 0, locals := 21 } : Room) s m args below meth c 0 0 2 [some (.ref (B + u0)), some (.int a1), some (.ref (B + u2)), some (.int xq.2), none] [] xq.1) (C := fun xq => KJ (Rep D B shpC) A 5 0 0 Q p l e ({ frames := 1, cells := 0, slots := 0, locals := 21 } : Room) s m args below meth c 0 0 27 [some (.ref (B + u0)), some (.int a1), some (.ref (B + u2)), some (.int xq.2), none] [] xq.1) (fun x z hz hc he => wX5_repeat_l2 hF hA hbs q0 q2 hz hc he) hx6 ?_
  show KJ (Rep D B shpC) A 5 0 0 Q p l e ({ frames := 1, cells := 0, slots := 0, locals := 21 } : Room) s m args below meth c 0 0 27 [some (.ref (B + u0)), some (.int a1), some (.ref (B + u2)), some (.int x6.2), none] [] x6.1
  refine k_iconst hF dX5_repeat_27 ci_0 ?_
  refine k_istore_n hF (L' := [some (.ref (B + u0)), some (.int a1), some (.ref (B + u2)), some (.int (0 : Int32)), none]) dX5_repeat_28 (by decide) rfl ?_
  obtain ⟨x17, hx17, h⟩ := bind_some h
  refine k_loop (P := fun xq => KJ (Rep D B shpC) A 5 0 0 Q p l e ({ frames := 1, cells := 0, slots := 0, locals := 21 } : Room) s m args below meth c 0 0 29 [some (.ref (B + u0)), some (.int a1), some (.ref (B + u2)), some (.int xq.2), none] [] xq.1) (C := fun xq => KJ (Rep D B shpC) A 5 0 0 Q p l e ({ frames := 1, cells := 0, slots := 0, locals := 21 } : Room) s m args below meth c 0 0 78 [some (.ref (B + u0)), some (.int a1), some (.ref (B + u2)), some (.int xq.2), none] [] xq.1) (fun x z hz hc he => wX5_repeat_l29 hF hA hbs q0 q2 hz hc he) hx17 ?_
  show KJ (Rep D B shpC) A 5 0 0 Q p l e ({ frames := 1, cells := 0, slots := 0, locals := 21 } : Room) s m args below meth c 0 0 78 [some (.ref (B + u0)), some (.int a1), some (.ref (B + u2)), some (.int x17.2), none] [] x17.1
  cases h
  exact hr _ _ dX5_repeat_78
theorem ct_X5_repeat {l : Launch} {D : DD} {base B : Nat} (hbs : base ≤ B) {σ : St} {u0 : Nat} {a1 : Int32} {u2 : Nat} (q0 : shpC[u0]? = some (.inr (0, 24, fun _ => 0))) (q2 : shpC[u2]? = some (.inr (0, 24, fun _ => 0))) {r : St} (h : fX5_repeat σ u0 a1 u2 = some r) : MetR l D B shpC base yX5_repeat cX5_repeat 5 none 1 21 [.ref (B + u0), .int a1, .ref (B + u2)] σ none r :=
  MetR.of (by decide +kernel) (fun v hv => by simp only [List.mem_cons, List.not_mem_nil, or_false] at hv; rcases hv with rfl | rfl | rfl <;> rfl) (Nat.le_of_ble_eq_true rfl) hbs (fun p e s m args below meth c hF hr => wX5_repeat hF (fun q hq => hq) hbs q0 q2 h (fun pc L hd => k_vret hF hr hd))
set_option maxHeartbeats 4000000 in
set_option maxRecDepth 100000 in
theorem wX5_goOneStep {p : Program} {l : Launch} {e : Env} {s : State} {m : MethodId} {args : Array Value} {below : List Frame} {meth : Method} {c : Code} {Q : State → Prop} {A : Nat → Prop} {D : DD} {base B : Nat} (hF : KF D base cX5_goOneStep RX5 A 5 0 0 p l e ({ frames := 2, cells := 0, slots := 0, locals := 45 } : Room) s m args below meth c) (hA : ∀ q, RA B shpC q → A q) (hbs : base ≤ B) {σ : St} {u1 : Nat} {a2 : Int32} {a3 : Int32} (q1 : u1 < 7) {z : Int32} (h : fX5_goOneStep σ u1 a2 a3 = some z) (hr : ∀ (pc : Nat) (L : List (Option Value)), narrow .int (.int z) = .int z → decode cX5_goOneStep pc = .ok (.ireturn, 1) → KJ (Rep D B shpC) A 5 0 0 Q p l e ({ frames := 2, cells := 0, slots := 0, locals := 45 } : Room) s m args below meth c 0 0 pc L [.int z] σ) : KJ (Rep D B shpC) A 5 0 0 Q p l e ({ frames := 2, cells := 0, slots := 0, locals := 45 } : Room) s m args below meth c 0 0 0 [some (.ref (B + 38)), some (.ref (B + (78 + 6 * u1))), some (.int a2), some (.int a3), none] [] σ := by
  unfold fX5_goOneStep at h
  refine k_aload_n hF dX5_goOneStep_0 rfl ?_
  refine k_get hF (v := .ref (B + (80 + 6 * u1))) (shC_PT u1 q1) fl_X5_67_X8 dX5_goOneStep_1 rfl ?_
  refine k_iload_n hF dX5_goOneStep_4 rfl ?_
  obtain ⟨g1, h⟩ := gd_some h
  refine k_iald hF (shC_PT_1 u1 q1) dX5_goOneStep_5 g1 ?_
  obtain ⟨n2, hn2, h⟩ := lt_some h
  refine k_st (st2 := [.int n2]) (by rw [hn2]) ?_
  refine k_istore hF (L' := [some (.ref (B + 38)), some (.ref (B + (78 + 6 * u1))), some (.int a2), some (.int a3), some (.int n2)]) dX5_goOneStep_6 (by decide) rfl ?_
  refine k_aload_n hF dX5_goOneStep_8 rfl ?_
  refine k_get hF (v := .ref (B + (79 + 6 * u1))) (shC_PT u1 q1) fl_X5_44_X8 dX5_goOneStep_9 rfl ?_
  refine k_iload_n hF dX5_goOneStep_12 rfl ?_
  obtain ⟨g3, h⟩ := gd_some h
  refine k_iald hF (shC_PT_0 u1 q1) dX5_goOneStep_13 g3 ?_
  by_cases c4 : (gi σ (79 + 6 * u1) a2.toNatClampNeg) = (0 : Int32)
  · replace h := ite_t c4 h
    refine k_look hF (tgt := 40) dX5_goOneStep_14 (by decide +kernel) (show _ = (26 : Int) from by rw [c4]; first | done | decide +kernel) (by decide) ?_
    refine k_aload_n hF dX5_goOneStep_40 rfl ?_
    refine k_get hF (v := .ref (B + 23)) shC_38 fl_X5_24_X5 dX5_goOneStep_41 rfl ?_
    refine k_iload hF dX5_goOneStep_44 rfl ?_
    refine k_iload_n hF dX5_goOneStep_46 rfl ?_
    obtain ⟨v5, hv5, h⟩ := bind_some h
    refine k_callV hF hA (as := [.int n2, .int a3]) (ct_X1_forth hbs hv5) mv_X5_70 shC_23 rfl rfl rfl ⟨Nat.le_of_ble_eq_true rfl, Nat.le_of_ble_eq_true rfl⟩ (Nat.le_of_ble_eq_true rfl) dX5_goOneStep_47 ?_
    refine k_st (st2 := [.int v5]) rfl ?_
    cases h
    exact hr _ _ rfl dX5_goOneStep_50
  replace h := ite_f c4 h
  by_cases c6 : (gi σ (79 + 6 * u1) a2.toNatClampNeg) = (1 : Int32)
  · replace h := ite_t c6 h
    refine k_look hF (tgt := 51) dX5_goOneStep_14 (by decide +kernel) (show _ = (37 : Int) from by rw [c6]; first | done | decide +kernel) (by decide) ?_
    refine k_aload_n hF dX5_goOneStep_51 rfl ?_
    refine k_get hF (v := .ref (B + 23)) shC_38 fl_X5_24_X5 dX5_goOneStep_52 rfl ?_
    refine k_iload hF dX5_goOneStep_55 rfl ?_
    refine k_iload_n hF dX5_goOneStep_57 rfl ?_
    obtain ⟨v7, hv7, h⟩ := bind_some h
    refine k_callV hF hA (as := [.int n2, .int a3]) (ct_X1_backwards hbs hv7) mv_X5_76 shC_23 rfl rfl rfl ⟨Nat.le_of_ble_eq_true rfl, Nat.le_of_ble_eq_true rfl⟩ (Nat.le_of_ble_eq_true rfl) dX5_goOneStep_58 ?_
    refine k_st (st2 := [.int v7]) rfl ?_
    cases h
    exact hr _ _ rfl dX5_goOneStep_61
  replace h := ite_f c6 h
  have ic4 := i_ne c4
  have ic6 := i_ne c6
  refine k_look hF (tgt := 62) dX5_goOneStep_14 (by decide +kernel) (show Op.lookupswitch.offset [(0, 26), (1, 37)] 48 _ = 48 from by rw [lv_osw (k := (0 : Int32)) c4 (by decide), lv_osw (k := (1 : Int32)) c6 (by decide)]; rfl) (by decide) ?_
  refine k_iload_n hF dX5_goOneStep_62 rfl ?_
  refine k_aload_n hF dX5_goOneStep_63 rfl ?_
  refine k_get hF (v := .ref (B + 1)) shC_38 fl_X5_20_X5 dX5_goOneStep_64 rfl ?_
  refine k_iload hF dX5_goOneStep_67 rfl ?_
  obtain ⟨v8, hv8, h⟩ := bind_some h
  refine k_callV hF hA (as := [.int n2]) (ct_X6_labelled hbs hv8) mv_X5_79 shC_1 rfl rfl rfl ⟨Nat.le_of_ble_eq_true rfl, Nat.le_of_ble_eq_true rfl⟩ (Nat.le_of_ble_eq_true rfl) dX5_goOneStep_69 ?_
  refine k_st (st2 := [.int v8, .int a3]) rfl ?_
  refine k_iand hF dX5_goOneStep_72 ?_
  cases h
  exact hr _ _ rfl dX5_goOneStep_73
theorem ct_X5_goOneStep {l : Launch} {D : DD} {base B : Nat} (hbs : base ≤ B) {σ : St} {u1 : Nat} {a2 : Int32} {a3 : Int32} (q1 : u1 < 7) {r : Int32} (h : fX5_goOneStep σ u1 a2 a3 = some r) : MetR l D B shpC base yX5_goOneStep cX5_goOneStep 5 (some .int) 2 45 [.ref (B + 38), .ref (B + (78 + 6 * u1)), .int a2, .int a3] σ (some (.int r)) σ :=
  MetR.of (by decide +kernel) (fun v hv => by simp only [List.mem_cons, List.not_mem_nil, or_false] at hv; rcases hv with rfl | rfl | rfl | rfl <;> rfl) (Nat.le_of_ble_eq_true rfl) hbs (fun p e s m args below meth c hF hr => wX5_goOneStep hF (fun q hq => hq) hbs q1 h (fun pc L hn hd => k_iret hF hr hn hd))
set_option maxHeartbeats 4000000 in
set_option maxRecDepth 100000 in
theorem wX5_relateStep_l83 {p : Program} {l : Launch} {e : Env} {s : State} {m : MethodId} {args : Array Value} {below : List Frame} {meth : Method} {c : Code} {Q : State → Prop} {A : Nat → Prop} {D : DD} {base B : Nat} (hF : KF D base cX5_relateStep RX5 A 8 0 0 p l e ({ frames := 3, cells := 0, slots := 0, locals := 69 } : Room) s m args below meth c) (hA : ∀ q, RA B shpC q → A q) (hbs : base ≤ B) {σ : St} {u1 : Nat} {a2 : Int32} {a3 : Int32} (q1 : u1 < 7) {uw4 : Nat} {uw5 : Nat} {uw6 : Nat} {x : (St × Int32)} (quw4 : uw4 < 13) (quw5 : uw5 < 13) (quw6 : uw6 < 13) {z : ((St × Int32) ⊕ (St × Int32))} (h : fX5_relateStep_l83 σ u1 a2 a3 uw4 uw5 uw6 x = some z) (hc : ∀ x, z = .inl x → KJ (Rep D B shpC) A 8 0 0 Q p l e ({ frames := 3, cells := 0, slots := 0, locals := 69 } : Room) s m args below meth c 0 0 83 [some (.ref (B + 38)), some (.ref (B + (78 + 6 * u1))), some (.int a2), some (.int a3), some (.ref (B + (40 + uw4))), some (.ref (B + (40 + uw5))), some (.ref (B + (40 + uw6))), some (.int x.2)] [] x.1) (he : ∀ w, z = .inr w → KJ (Rep D B shpC) A 8 0 0 Q p l e ({ frames := 3, cells := 0, slots := 0, locals := 69 } : Room) s m args below meth c 0 0 112 [some (.ref (B + 38)), some (.ref (B + (78 + 6 * u1))), some (.int a2), some (.int a3), some (.ref (B + (40 + uw4))), some (.ref (B + (40 + uw5))), some (.ref (B + (40 + uw6))), some (.int w.2)] [] w.1) : KJ (Rep D B shpC) A 8 0 0 Q p l e ({ frames := 3, cells := 0, slots := 0, locals := 69 } : Room) s m args below meth c 0 0 83 [some (.ref (B + 38)), some (.ref (B + (78 + 6 * u1))), some (.int a2), some (.int a3), some (.ref (B + (40 + uw4))), some (.ref (B + (40 + uw5))), some (.ref (B + (40 + uw6))), some (.int x.2)] [] x.1 := by
  unfold fX5_relateStep_l83 at h
  refine k_iload hF dX5_relateStep_83 rfl ?_
  refine k_bipush hF (v := (24 : Int32)) dX5_relateStep_85 (by decide) ?_
  refine k_icmp_ge hF (tgt := 112) dX5_relateStep_87 (by decide) (fun c10 => ?_) (fun c10 => ?_)
  · replace h := ite_t c10 h
    exact he _ (Option.some.inj h).symm
  · replace h := ite_f c10 h
    refine k_aload hF dX5_relateStep_90 rfl ?_
    refine k_iload hF dX5_relateStep_92 rfl ?_
    refine k_aload hF dX5_relateStep_94 rfl ?_
    refine k_iload hF dX5_relateStep_96 rfl ?_
    obtain ⟨g11, h⟩ := gd_some h
    refine k_iald hF (shC_REL uw5 quw5) dX5_relateStep_98 g11 ?_
    refine k_aload hF dX5_relateStep_99 rfl ?_
    refine k_iload hF dX5_relateStep_101 rfl ?_
    obtain ⟨g12, h⟩ := gd_some h
    refine k_iald hF (shC_REL uw6 quw6) dX5_relateStep_103 g12 ?_
    refine k_ior hF dX5_relateStep_104 ?_
    obtain ⟨g13, h⟩ := gd_some h
    refine k_iast hF hA (shC_REL uw4 quw4) dX5_relateStep_105 g13 ?_
    obtain ⟨σ14, hσ14, h⟩ := lt_some h
    refine k_sig hσ14 ?_
    refine k_iinc hF (v := (x.2 + (1 : Int32))) (L' := [some (.ref (B + 38)), some (.ref (B + (78 + 6 * u1))), some (.int a2), some (.int a3), some (.ref (B + (40 + uw4))), some (.ref (B + (40 + uw5))), some (.ref (B + (40 + uw6))), some (.int (x.2 + (1 : Int32)))]) dX5_relateStep_106 rfl (by first | rfl | (congr 1)) (by decide) rfl ?_
    refine k_goto hF dX5_relateStep_109 (tgt := 83) (by decide) ?_
    exact hc _ (Option.some.inj h).symm
set_option maxHeartbeats 4000000 in
set_option maxRecDepth 100000 in
theorem wX5_relateStep_l129 {p : Program} {l : Launch} {e : Env} {s : State} {m : MethodId} {args : Array Value} {below : List Frame} {meth : Method} {c : Code} {Q : State → Prop} {A : Nat → Prop} {D : DD} {base B : Nat} (hF : KF D base cX5_relateStep RX5 A 8 0 0 p l e ({ frames := 3, cells := 0, slots := 0, locals := 69 } : Room) s m args below meth c) (hA : ∀ q, RA B shpC q → A q) (hbs : base ≤ B) {σ : St} {u1 : Nat} {a2 : Int32} {a3 : Int32} (q1 : u1 < 7) {uw4 : Nat} {uw5 : Nat} {uw6 : Nat} {x : (St × Int32)} (quw4 : uw4 < 13) (quw5 : uw5 < 13) (quw6 : uw6 < 13) {z : ((St × Int32) ⊕ (St × Int32))} (h : fX5_relateStep_l129 σ u1 a2 a3 uw4 uw5 uw6 x = some z) (hc : ∀ x, z = .inl x → KJ (Rep D B shpC) A 8 0 0 Q p l e ({ frames := 3, cells := 0, slots := 0, locals := 69 } : Room) s m args below meth c 0 0 129 [some (.ref (B + 38)), some (.ref (B + (78 + 6 * u1))), some (.int a2), some (.int a3), some (.ref (B + (40 + uw4))), some (.ref (B + (40 + uw5))), some (.ref (B + (40 + uw6))), some (.int x.2)] [] x.1) (he : ∀ w, z = .inr w → KJ (Rep D B shpC) A 8 0 0 Q p l e ({ frames := 3, cells := 0, slots := 0, locals := 69 } : Room) s m args below meth c 0 0 162 [some (.ref (B + 38)), some (.ref (B + (78 + 6 * u1))), some (.int a2), some (.int a3), some (.ref (B + (40 + uw4))), some (.ref (B + (40 + uw5))), some (.ref (B + (40 + uw6))), some (.int w.2)] [] w.1) : KJ (Rep D B shpC) A 8 0 0 Q p l e ({ frames := 3, cells := 0, slots := 0, locals := 69 } : Room) s m args below meth c 0 0 129 [some (.ref (B + 38)), some (.ref (B + (78 + 6 * u1))), some (.int a2), some (.int a3), some (.ref (B + (40 + uw4))), some (.ref (B + (40 + uw5))), some (.ref (B + (40 + uw6))), some (.int x.2)] [] x.1 := by
  unfold fX5_relateStep_l129 at h
  refine k_iload hF dX5_relateStep_129 rfl ?_
  refine k_bipush hF (v := (24 : Int32)) dX5_relateStep_131 (by decide) ?_
  refine k_icmp_ge hF (tgt := 162) dX5_relateStep_133 (by decide) (fun c18 => ?_) (fun c18 => ?_)
  · replace h := ite_t c18 h
    exact he _ (Option.some.inj h).symm
  · replace h := ite_f c18 h
    refine k_aload hF dX5_relateStep_136 rfl ?_
    refine k_iload hF dX5_relateStep_138 rfl ?_
    refine k_aload_n hF dX5_relateStep_140 rfl ?_
    refine k_aload_n hF dX5_relateStep_141 rfl ?_
    refine k_iload_n hF dX5_relateStep_142 rfl ?_
    refine k_iload hF dX5_relateStep_143 rfl ?_
    obtain ⟨v19, hv19, h⟩ := bind_some h
    refine k_callSN hF hA (as := [.int x.2]) (ct_X10_bit hbs hv19) msn_X5_55 rfl rfl ⟨Nat.le_of_ble_eq_true rfl, Nat.le_of_ble_eq_true rfl⟩ (Nat.le_of_ble_eq_true rfl) dX5_relateStep_145 ?_
    refine k_st (st2 := [.int v19, .int a2, .ref (B + (78 + 6 * u1)), .ref (B + 38), .int x.2, .ref (B + (40 + uw4))]) rfl ?_
    refine k_iload_n hF dX5_relateStep_148 rfl ?_
    refine k_iand hF dX5_relateStep_149 ?_
    obtain ⟨v20, hv20, h⟩ := bind_some h
    refine k_callV hF hA (as := [.ref (B + (78 + 6 * u1)), .int a2, .int (v19 &&& a3)]) (ct_X5_goOneStep hbs q1 hv20) mv_X5_59 shC_38 rfl rfl rfl ⟨Nat.le_of_ble_eq_true rfl, Nat.le_of_ble_eq_true rfl⟩ (Nat.le_of_ble_eq_true rfl) dX5_relateStep_150 ?_
    refine k_st (st2 := [.int v20, .int x.2, .ref (B + (40 + uw4))]) rfl ?_
    refine k_iload_n hF dX5_relateStep_153 rfl ?_
    refine k_iand hF dX5_relateStep_154 ?_
    obtain ⟨g21, h⟩ := gd_some h
    refine k_iast hF hA (shC_REL uw4 quw4) dX5_relateStep_155 g21 ?_
    obtain ⟨σ22, hσ22, h⟩ := lt_some h
    refine k_sig hσ22 ?_
    refine k_iinc hF (v := (x.2 + (1 : Int32))) (L' := [some (.ref (B + 38)), some (.ref (B + (78 + 6 * u1))), some (.int a2), some (.int a3), some (.ref (B + (40 + uw4))), some (.ref (B + (40 + uw5))), some (.ref (B + (40 + uw6))), some (.int (x.2 + (1 : Int32)))]) dX5_relateStep_156 rfl (by first | rfl | (congr 1)) (by decide) rfl ?_
    refine k_goto hF dX5_relateStep_159 (tgt := 129) (by decide) ?_
    exact hc _ (Option.some.inj h).symm
set_option maxHeartbeats 4000000 in
set_option maxRecDepth 100000 in
theorem wX5_relateStep {p : Program} {l : Launch} {e : Env} {s : State} {m : MethodId} {args : Array Value} {below : List Frame} {meth : Method} {c : Code} {Q : State → Prop} {A : Nat → Prop} {D : DD} {base B : Nat} (hF : KF D base cX5_relateStep RX5 A 8 0 0 p l e ({ frames := 3, cells := 0, slots := 0, locals := 69 } : Room) s m args below meth c) (hA : ∀ q, RA B shpC q → A q) (hbs : base ≤ B) {σ : St} {u1 : Nat} {a2 : Int32} {a3 : Int32} (q1 : u1 < 7) {z : St} (h : fX5_relateStep σ u1 a2 a3 = some z) (hr : ∀ (pc : Nat) (L : List (Option Value)), decode cX5_relateStep pc = .ok (.return_, 1) → KJ (Rep D B shpC) A 8 0 0 Q p l e ({ frames := 3, cells := 0, slots := 0, locals := 69 } : Room) s m args below meth c 0 0 pc L [] z) : KJ (Rep D B shpC) A 8 0 0 Q p l e ({ frames := 3, cells := 0, slots := 0, locals := 69 } : Room) s m args below meth c 0 0 0 [some (.ref (B + 38)), some (.ref (B + (78 + 6 * u1))), some (.int a2), some (.int a3), none, none, none, none] [] σ := by
  unfold fX5_relateStep at h
  refine k_aload_n hF dX5_relateStep_0 rfl ?_
  refine k_get hF (v := .ref (B + 39)) shC_38 fl_X5_11_X5 dX5_relateStep_1 rfl ?_
  refine k_iload_n hF dX5_relateStep_4 rfl ?_
  obtain ⟨g1, h⟩ := gd_some h
  refine k_aald hF (q0 := (40 + a2.toNatClampNeg)) shC_39 rfl dX5_relateStep_5 g1 rfl ?_
  refine k_astore hF (L' := [some (.ref (B + 38)), some (.ref (B + (78 + 6 * u1))), some (.int a2), some (.int a3), some (.ref (B + (40 + a2.toNatClampNeg))), none, none, none]) dX5_relateStep_6 (by decide) rfl ?_
  refine k_aload_n hF dX5_relateStep_8 rfl ?_
  refine k_get hF (v := .ref (B + 39)) shC_38 fl_X5_11_X5 dX5_relateStep_9 rfl ?_
  refine k_aload_n hF dX5_relateStep_12 rfl ?_
  refine k_get hF (v := .ref (B + (81 + 6 * u1))) (shC_PT u1 q1) fl_X5_38_X8 dX5_relateStep_13 rfl ?_
  refine k_iload_n hF dX5_relateStep_16 rfl ?_
  obtain ⟨g2, h⟩ := gd_some h
  refine k_iald hF (shC_PT_2 u1 q1) dX5_relateStep_17 g2 ?_
  obtain ⟨g3, h⟩ := gd_some h
  refine k_aald hF (q0 := (40 + (gi σ (81 + 6 * u1) a2.toNatClampNeg).toNatClampNeg)) shC_39 rfl dX5_relateStep_18 g3 rfl ?_
  refine k_astore hF (L' := [some (.ref (B + 38)), some (.ref (B + (78 + 6 * u1))), some (.int a2), some (.int a3), some (.ref (B + (40 + a2.toNatClampNeg))), some (.ref (B + (40 + (gi σ (81 + 6 * u1) a2.toNatClampNeg).toNatClampNeg))), none, none]) dX5_relateStep_19 (by decide) rfl ?_
  refine k_aload_n hF dX5_relateStep_21 rfl ?_
  refine k_get hF (v := .ref (B + 39)) shC_38 fl_X5_11_X5 dX5_relateStep_22 rfl ?_
  refine k_aload_n hF dX5_relateStep_25 rfl ?_
  refine k_get hF (v := .ref (B + (82 + 6 * u1))) (shC_PT u1 q1) fl_X5_41_X8 dX5_relateStep_26 rfl ?_
  refine k_iload_n hF dX5_relateStep_29 rfl ?_
  obtain ⟨g4, h⟩ := gd_some h
  refine k_iald hF (shC_PT_3 u1 q1) dX5_relateStep_30 g4 ?_
  obtain ⟨g5, h⟩ := gd_some h
  refine k_aald hF (q0 := (40 + (gi σ (82 + 6 * u1) a2.toNatClampNeg).toNatClampNeg)) shC_39 rfl dX5_relateStep_31 g5 rfl ?_
  refine k_astore hF (L' := [some (.ref (B + 38)), some (.ref (B + (78 + 6 * u1))), some (.int a2), some (.int a3), some (.ref (B + (40 + a2.toNatClampNeg))), some (.ref (B + (40 + (gi σ (81 + 6 * u1) a2.toNatClampNeg).toNatClampNeg))), some (.ref (B + (40 + (gi σ (82 + 6 * u1) a2.toNatClampNeg).toNatClampNeg))), none]) dX5_relateStep_32 (by decide) rfl ?_
  refine k_aload_n hF dX5_relateStep_34 rfl ?_
  refine k_get hF (v := .ref (B + (79 + 6 * u1))) (shC_PT u1 q1) fl_X5_44_X8 dX5_relateStep_35 rfl ?_
  refine k_iload_n hF dX5_relateStep_38 rfl ?_
  obtain ⟨g6, h⟩ := gd_some h
  refine k_iald hF (shC_PT_0 u1 q1) dX5_relateStep_39 g6 ?_
  by_cases c7 : (gi σ (79 + 6 * u1) a2.toNatClampNeg) = (3 : Int32)
  · replace h := ite_t c7 h
    refine k_tabIn hF (off := 28) (tgt := 68) dX5_relateStep_40 c7 (by decide) (by decide) (by decide +kernel) (by decide) ?_
    refine k_aload hF dX5_relateStep_68 rfl ?_
    refine k_aload hF dX5_relateStep_70 rfl ?_
    refine k_aload hF dX5_relateStep_72 rfl ?_
    obtain ⟨v8, hv8, h⟩ := bind_some h
    refine k_callS hF hA (as := [.ref (B + (40 + (gi σ (81 + 6 * u1) a2.toNatClampNeg).toNatClampNeg)), .ref (B + (40 + (gi σ (82 + 6 * u1) a2.toNatClampNeg).toNatClampNeg)), .ref (B + (40 + a2.toNatClampNeg))]) (ct_X5_join hbs (shC_REL (gi σ (81 + 6 * u1) a2.toNatClampNeg).toNatClampNeg (Nat.lt_succ_of_lt (inb_lt g3))) (shC_REL (gi σ (82 + 6 * u1) a2.toNatClampNeg).toNatClampNeg (Nat.lt_succ_of_lt (inb_lt g5))) (shC_REL a2.toNatClampNeg (Nat.lt_succ_of_lt (inb_lt g1))) hv8) ms_X5_47 rfl rfl ⟨Nat.le_of_ble_eq_true rfl, Nat.le_of_ble_eq_true rfl⟩ (Nat.le_of_ble_eq_true rfl) dX5_relateStep_74 ?_
    refine k_st (st2 := []) rfl ?_
    refine k_goto hF dX5_relateStep_77 (tgt := 162) (by decide) ?_
    cases h
    exact hr _ _ dX5_relateStep_162
  replace h := ite_f c7 h
  by_cases c9 : (gi σ (79 + 6 * u1) a2.toNatClampNeg) = (4 : Int32)
  · replace h := ite_t c9 h
    refine k_tabIn hF (off := 40) (tgt := 80) dX5_relateStep_40 c9 (by decide) (by decide) (by decide +kernel) (by decide) ?_
    refine k_iconst hF dX5_relateStep_80 ci_0 ?_
    refine k_istore hF (L' := [some (.ref (B + 38)), some (.ref (B + (78 + 6 * u1))), some (.int a2), some (.int a3), some (.ref (B + (40 + a2.toNatClampNeg))), some (.ref (B + (40 + (gi σ (81 + 6 * u1) a2.toNatClampNeg).toNatClampNeg))), some (.ref (B + (40 + (gi σ (82 + 6 * u1) a2.toNatClampNeg).toNatClampNeg))), some (.int (0 : Int32))]) dX5_relateStep_81 (by decide) rfl ?_
    obtain ⟨x15, hx15, h⟩ := bind_some h
    refine k_loop (P := fun xq => KJ (Rep D B shpC) A 8 0 0 Q p l e ({ frames := 3, cells := 0, slots := 0, locals := 69 } : Room) s m args below meth c 0 0 83 [some (.ref (B + 38)), some (.ref (B + (78 + 6 * u1))), some (.int a2), some (.int a3), some (.ref (B + (40 + a2.toNatClampNeg))), some (.ref (B + (40 + (gi σ (81 + 6 * u1) a2.toNatClampNeg).toNatClampNeg))), some (.ref (B + (40 + (gi σ (82 + 6 * u1) a2.toNatClampNeg).toNatClampNeg))), some (.int xq.2)] [] xq.1) (C := fun xq => KJ (Rep D B shpC) A 8 0 0 Q p l e ({ frames := 3, cells := 0, slots := 0, locals := 69 } : Room) s m args below meth c 0 0 112 [some (.ref (B + 38)), some (.ref (B + (78 + 6 * u1))), some (.int a2), some (.int a3), some (.ref (B + (40 + a2.toNatClampNeg))), some (.ref (B + (40 + (gi σ (81 + 6 * u1) a2.toNatClampNeg).toNatClampNeg))), some (.ref (B + (40 + (gi σ (82 + 6 * u1) a2.toNatClampNeg).toNatClampNeg))), some (.int xq.2)] [] xq.1) (fun x z hz hc he => wX5_relateStep_l83 hF hA hbs q1 (Nat.lt_succ_of_lt (inb_lt g1)) (Nat.lt_succ_of_lt (inb_lt g3)) (Nat.lt_succ_of_lt (inb_lt g5)) hz hc he) hx15 ?_
    show KJ (Rep D B shpC) A 8 0 0 Q p l e ({ frames := 3, cells := 0, slots := 0, locals := 69 } : Room) s m args below meth c 0 0 112 [some (.ref (B + 38)), some (.ref (B + (78 + 6 * u1))), some (.int a2), some (.int a3), some (.ref (B + (40 + a2.toNatClampNeg))), some (.ref (B + (40 + (gi σ (81 + 6 * u1) a2.toNatClampNeg).toNatClampNeg))), some (.ref (B + (40 + (gi σ (82 + 6 * u1) a2.toNatClampNeg).toNatClampNeg))), some (.int x15.2)] [] x15.1
    refine k_goto hF dX5_relateStep_112 (tgt := 162) (by decide) ?_
    cases h
    exact hr _ _ dX5_relateStep_162
  replace h := ite_f c9 h
  by_cases c16 : (gi σ (79 + 6 * u1) a2.toNatClampNeg) = (5 : Int32)
  · replace h := ite_t c16 h
    refine k_tabIn hF (off := 75) (tgt := 115) dX5_relateStep_40 c16 (by decide) (by decide) (by decide +kernel) (by decide) ?_
    refine k_aload hF dX5_relateStep_115 rfl ?_
    refine k_iload_n hF dX5_relateStep_117 rfl ?_
    refine k_aload hF dX5_relateStep_118 rfl ?_
    obtain ⟨v17, hv17, h⟩ := bind_some h
    refine k_callS hF hA (as := [.ref (B + (40 + (gi σ (81 + 6 * u1) a2.toNatClampNeg).toNatClampNeg)), .int a3, .ref (B + (40 + a2.toNatClampNeg))]) (ct_X5_repeat hbs (shC_REL (gi σ (81 + 6 * u1) a2.toNatClampNeg).toNatClampNeg (Nat.lt_succ_of_lt (inb_lt g3))) (shC_REL a2.toNatClampNeg (Nat.lt_succ_of_lt (inb_lt g1))) hv17) ms_X5_51 rfl rfl ⟨Nat.le_of_ble_eq_true rfl, Nat.le_of_ble_eq_true rfl⟩ (Nat.le_of_ble_eq_true rfl) dX5_relateStep_120 ?_
    refine k_st (st2 := []) rfl ?_
    refine k_goto hF dX5_relateStep_123 (tgt := 162) (by decide) ?_
    cases h
    exact hr _ _ dX5_relateStep_162
  replace h := ite_f c16 h
  have ic7 := i_ne c7
  have ic9 := i_ne c9
  have ic16 := i_ne c16
  refine k_tabOut hF (tgt := 126) dX5_relateStep_40 (by first | (simp only [show (3 : Int32).toInt = 3 from by decide, show (4 : Int32).toInt = 4 from by decide, show (5 : Int32).toInt = 5 from by decide] at *; omega) | omega) (by decide) ?_
  refine k_iconst hF dX5_relateStep_126 ci_0 ?_
  refine k_istore hF (L' := [some (.ref (B + 38)), some (.ref (B + (78 + 6 * u1))), some (.int a2), some (.int a3), some (.ref (B + (40 + a2.toNatClampNeg))), some (.ref (B + (40 + (gi σ (81 + 6 * u1) a2.toNatClampNeg).toNatClampNeg))), some (.ref (B + (40 + (gi σ (82 + 6 * u1) a2.toNatClampNeg).toNatClampNeg))), some (.int (0 : Int32))]) dX5_relateStep_127 (by decide) rfl ?_
  obtain ⟨x23, hx23, h⟩ := bind_some h
  refine k_loop (P := fun xq => KJ (Rep D B shpC) A 8 0 0 Q p l e ({ frames := 3, cells := 0, slots := 0, locals := 69 } : Room) s m args below meth c 0 0 129 [some (.ref (B + 38)), some (.ref (B + (78 + 6 * u1))), some (.int a2), some (.int a3), some (.ref (B + (40 + a2.toNatClampNeg))), some (.ref (B + (40 + (gi σ (81 + 6 * u1) a2.toNatClampNeg).toNatClampNeg))), some (.ref (B + (40 + (gi σ (82 + 6 * u1) a2.toNatClampNeg).toNatClampNeg))), some (.int xq.2)] [] xq.1) (C := fun xq => KJ (Rep D B shpC) A 8 0 0 Q p l e ({ frames := 3, cells := 0, slots := 0, locals := 69 } : Room) s m args below meth c 0 0 162 [some (.ref (B + 38)), some (.ref (B + (78 + 6 * u1))), some (.int a2), some (.int a3), some (.ref (B + (40 + a2.toNatClampNeg))), some (.ref (B + (40 + (gi σ (81 + 6 * u1) a2.toNatClampNeg).toNatClampNeg))), some (.ref (B + (40 + (gi σ (82 + 6 * u1) a2.toNatClampNeg).toNatClampNeg))), some (.int xq.2)] [] xq.1) (fun x z hz hc he => wX5_relateStep_l129 hF hA hbs q1 (Nat.lt_succ_of_lt (inb_lt g1)) (Nat.lt_succ_of_lt (inb_lt g3)) (Nat.lt_succ_of_lt (inb_lt g5)) hz hc he) hx23 ?_
  show KJ (Rep D B shpC) A 8 0 0 Q p l e ({ frames := 3, cells := 0, slots := 0, locals := 69 } : Room) s m args below meth c 0 0 162 [some (.ref (B + 38)), some (.ref (B + (78 + 6 * u1))), some (.int a2), some (.int a3), some (.ref (B + (40 + a2.toNatClampNeg))), some (.ref (B + (40 + (gi σ (81 + 6 * u1) a2.toNatClampNeg).toNatClampNeg))), some (.ref (B + (40 + (gi σ (82 + 6 * u1) a2.toNatClampNeg).toNatClampNeg))), some (.int x23.2)] [] x23.1
  cases h
  exact hr _ _ dX5_relateStep_162
theorem ct_X5_relateStep {l : Launch} {D : DD} {base B : Nat} (hbs : base ≤ B) {σ : St} {u1 : Nat} {a2 : Int32} {a3 : Int32} (q1 : u1 < 7) {r : St} (h : fX5_relateStep σ u1 a2 a3 = some r) : MetR l D B shpC base yX5_relateStep cX5_relateStep 8 none 3 69 [.ref (B + 38), .ref (B + (78 + 6 * u1)), .int a2, .int a3] σ none r :=
  MetR.of (by decide +kernel) (fun v hv => by simp only [List.mem_cons, List.not_mem_nil, or_false] at hv; rcases hv with rfl | rfl | rfl | rfl <;> rfl) (Nat.le_of_ble_eq_true rfl) hbs (fun p e s m args below meth c hF hr => wX5_relateStep hF (fun q hq => hq) hbs q1 h (fun pc L hd => k_vret hF hr hd))
set_option maxHeartbeats 4000000 in
set_option maxRecDepth 100000 in
theorem wX5_relate_l14 {p : Program} {l : Launch} {e : Env} {s : State} {m : MethodId} {args : Array Value} {below : List Frame} {meth : Method} {c : Code} {Q : State → Prop} {A : Nat → Prop} {D : DD} {base B : Nat} (hF : KF D base cX5_relate RX5 A 4 0 0 p l e ({ frames := 4, cells := 0, slots := 0, locals := 96 } : Room) s m args below meth c) (hA : ∀ q, RA B shpC q → A q) (hbs : base ≤ B) {σ : St} {u1 : Nat} {a2 : Int32} (q1 : u1 < 7) {x : (St × Int32)} {z : ((St × Int32) ⊕ (St × Int32))} (h : fX5_relate_l14 σ u1 a2 x = some z) (hc : ∀ x, z = .inl x → KJ (Rep D B shpC) A 4 0 0 Q p l e ({ frames := 4, cells := 0, slots := 0, locals := 96 } : Room) s m args below meth c 0 0 14 [some (.ref (B + 38)), some (.ref (B + (78 + 6 * u1))), some (.int a2), some (.int x.2)] [] x.1) (he : ∀ w, z = .inr w → KJ (Rep D B shpC) A 4 0 0 Q p l e ({ frames := 4, cells := 0, slots := 0, locals := 96 } : Room) s m args below meth c 0 0 35 [some (.ref (B + 38)), some (.ref (B + (78 + 6 * u1))), some (.int a2), some (.int w.2)] [] w.1) : KJ (Rep D B shpC) A 4 0 0 Q p l e ({ frames := 4, cells := 0, slots := 0, locals := 96 } : Room) s m args below meth c 0 0 14 [some (.ref (B + 38)), some (.ref (B + (78 + 6 * u1))), some (.int a2), some (.int x.2)] [] x.1 := by
  unfold fX5_relate_l14 at h
  refine k_iload_n hF dX5_relate_14 rfl ?_
  refine k_aload_n hF dX5_relate_15 rfl ?_
  refine k_get hF (v := .int (gi x.1 (78 + 6 * u1) 5)) (shC_PT u1 q1) fl_X5_28_X8 dX5_relate_16 rfl ?_
  refine k_icmp_ge hF (tgt := 35) dX5_relate_19 (by decide) (fun c2 => ?_) (fun c2 => ?_)
  · replace h := ite_t c2 h
    exact he _ (Option.some.inj h).symm
  · replace h := ite_f c2 h
    refine k_aload_n hF dX5_relate_22 rfl ?_
    refine k_aload_n hF dX5_relate_23 rfl ?_
    refine k_iload_n hF dX5_relate_24 rfl ?_
    refine k_iload_n hF dX5_relate_25 rfl ?_
    obtain ⟨v3, hv3, h⟩ := bind_some h
    refine k_callV hF hA (as := [.ref (B + (78 + 6 * u1)), .int x.2, .int a2]) (ct_X5_relateStep hbs q1 hv3) mv_X5_34 shC_38 rfl rfl rfl ⟨Nat.le_of_ble_eq_true rfl, Nat.le_of_ble_eq_true rfl⟩ (Nat.le_of_ble_eq_true rfl) dX5_relate_26 ?_
    refine k_st (st2 := []) rfl ?_
    refine k_iinc hF (v := (x.2 + (1 : Int32))) (L' := [some (.ref (B + 38)), some (.ref (B + (78 + 6 * u1))), some (.int a2), some (.int (x.2 + (1 : Int32)))]) dX5_relate_29 rfl (by first | rfl | (congr 1)) (by decide) rfl ?_
    refine k_goto hF dX5_relate_32 (tgt := 14) (by decide) ?_
    exact hc _ (Option.some.inj h).symm
set_option maxHeartbeats 4000000 in
set_option maxRecDepth 100000 in
theorem wX5_relate {p : Program} {l : Launch} {e : Env} {s : State} {m : MethodId} {args : Array Value} {below : List Frame} {meth : Method} {c : Code} {Q : State → Prop} {A : Nat → Prop} {D : DD} {base B : Nat} (hF : KF D base cX5_relate RX5 A 4 0 0 p l e ({ frames := 4, cells := 0, slots := 0, locals := 96 } : Room) s m args below meth c) (hA : ∀ q, RA B shpC q → A q) (hbs : base ≤ B) {σ : St} {u1 : Nat} {a2 : Int32} (q1 : u1 < 7) {z : (Nat × St)} (h : fX5_relate σ u1 a2 = some z) (hr : ∀ (pc : Nat) (L : List (Option Value)), decode cX5_relate pc = .ok (.areturn, 1) → KJ (Rep D B shpC) A 4 0 0 Q p l e ({ frames := 4, cells := 0, slots := 0, locals := 96 } : Room) s m args below meth c 0 0 pc L [.ref (B + (40 + z.1))] z.2) : KJ (Rep D B shpC) A 4 0 0 Q p l e ({ frames := 4, cells := 0, slots := 0, locals := 96 } : Room) s m args below meth c 0 0 0 [some (.ref (B + 38)), some (.ref (B + (78 + 6 * u1))), some (.int a2), none] [] σ := by
  unfold fX5_relate at h
  refine k_aload_n hF dX5_relate_0 rfl ?_
  refine k_get hF (v := .int (gi σ (78 + 6 * u1) 5)) (shC_PT u1 q1) fl_X5_28_X8 dX5_relate_1 rfl ?_
  refine k_if_ne hF (tgt := 12) dX5_relate_4 (by decide) (fun c1 => ?_) (fun c1 => ?_)
  · replace h := ite_f c1 h
    refine k_iconst hF dX5_relate_12 ci_0 ?_
    refine k_istore_n hF (L' := [some (.ref (B + 38)), some (.ref (B + (78 + 6 * u1))), some (.int a2), some (.int (0 : Int32))]) dX5_relate_13 (by decide) rfl ?_
    obtain ⟨x4, hx4, h⟩ := bind_some h
    refine k_loop (P := fun xq => KJ (Rep D B shpC) A 4 0 0 Q p l e ({ frames := 4, cells := 0, slots := 0, locals := 96 } : Room) s m args below meth c 0 0 14 [some (.ref (B + 38)), some (.ref (B + (78 + 6 * u1))), some (.int a2), some (.int xq.2)] [] xq.1) (C := fun xq => KJ (Rep D B shpC) A 4 0 0 Q p l e ({ frames := 4, cells := 0, slots := 0, locals := 96 } : Room) s m args below meth c 0 0 35 [some (.ref (B + 38)), some (.ref (B + (78 + 6 * u1))), some (.int a2), some (.int xq.2)] [] xq.1) (fun x z hz hc he => wX5_relate_l14 hF hA hbs q1 hz hc he) hx4 ?_
    show KJ (Rep D B shpC) A 4 0 0 Q p l e ({ frames := 4, cells := 0, slots := 0, locals := 96 } : Room) s m args below meth c 0 0 35 [some (.ref (B + 38)), some (.ref (B + (78 + 6 * u1))), some (.int a2), some (.int x4.2)] [] x4.1
    refine k_aload_n hF dX5_relate_35 rfl ?_
    refine k_get hF (v := .ref (B + 39)) shC_38 fl_X5_11_X5 dX5_relate_36 rfl ?_
    refine k_aload_n hF dX5_relate_39 rfl ?_
    refine k_get hF (v := .int (gi x4.1 (78 + 6 * u1) 5)) (shC_PT u1 q1) fl_X5_28_X8 dX5_relate_40 rfl ?_
    refine k_iconst hF dX5_relate_43 ci_1 ?_
    refine k_isub hF dX5_relate_44 ?_
    obtain ⟨g5, h⟩ := gd_some h
    refine k_aald hF (q0 := (40 + ((gi x4.1 (78 + 6 * u1) 5) - (1 : Int32)).toNatClampNeg)) shC_39 rfl dX5_relate_45 g5 rfl ?_
    cases h
    exact hr _ _ dX5_relate_46
  · replace h := ite_t c1 h
    refine k_aload_n hF dX5_relate_7 rfl ?_
    refine k_get hF (v := .ref (B + 52)) shC_38 fl_X5_16_X5 dX5_relate_8 rfl ?_
    cases h
    exact hr _ _ dX5_relate_11
theorem ct_X5_relate {l : Launch} {D : DD} {base B : Nat} (hbs : base ≤ B) {σ : St} {u1 : Nat} {a2 : Int32} (q1 : u1 < 7) {r : (Nat × St)} (h : fX5_relate σ u1 a2 = some r) : MetR l D B shpC base yX5_relate cX5_relate 4 (some (.array .int)) 4 96 [.ref (B + 38), .ref (B + (78 + 6 * u1)), .int a2] σ (some (.ref (B + (40 + r.1)))) r.2 :=
  MetR.of (by decide +kernel) (fun v hv => by simp only [List.mem_cons, List.not_mem_nil, or_false] at hv; rcases hv with rfl | rfl | rfl <;> rfl) (Nat.le_of_ble_eq_true rfl) hbs (fun p e s m args below meth c hF hr => wX5_relate hF (fun q hq => hq) hbs q1 h (fun pc L hd => k_aret hF hr (Or.inr ⟨_, rfl⟩) hd))
set_option maxHeartbeats 4000000 in
set_option maxRecDepth 100000 in
theorem wX5_once_l4 {p : Program} {l : Launch} {e : Env} {s : State} {m : MethodId} {args : Array Value} {below : List Frame} {meth : Method} {c : Code} {Q : State → Prop} {A : Nat → Prop} {D : DD} {base B : Nat} (hF : KF D base cX5_once RX5 A 4 0 0 p l e ({ frames := 0, cells := 0, slots := 0, locals := 0 } : Room) s m args below meth c) (hA : ∀ q, RA B shpC q → A q) (hbs : base ≤ B) {σ : St} {u0 : Nat} {a1 : Int32} (q0 : u0 < 7) {x : (Int32 × Int32)} {z : ((Int32 × Int32) ⊕ (Int32 × Int32))} (h : fX5_once_l4 σ u0 a1 x = some z) (hc : ∀ x, z = .inl x → KJ (Rep D B shpC) A 4 0 0 Q p l e ({ frames := 0, cells := 0, slots := 0, locals := 0 } : Room) s m args below meth c 0 0 4 [some (.ref (B + (78 + 6 * u0))), some (.int a1), some (.int x.1), some (.int x.2)] [] σ) (he : ∀ w, z = .inr w → KJ (Rep D B shpC) A 4 0 0 Q p l e ({ frames := 0, cells := 0, slots := 0, locals := 0 } : Room) s m args below meth c 0 0 33 [some (.ref (B + (78 + 6 * u0))), some (.int a1), some (.int w.1), some (.int w.2)] [] σ) : KJ (Rep D B shpC) A 4 0 0 Q p l e ({ frames := 0, cells := 0, slots := 0, locals := 0 } : Room) s m args below meth c 0 0 4 [some (.ref (B + (78 + 6 * u0))), some (.int a1), some (.int x.1), some (.int x.2)] [] σ := by
  unfold fX5_once_l4 at h
  refine k_iload_n hF dX5_once_4 rfl ?_
  refine k_bipush hF (v := (12 : Int32)) dX5_once_5 (by decide) ?_
  refine k_icmp_ge hF (tgt := 33) dX5_once_7 (by decide) (fun c1 => ?_) (fun c1 => ?_)
  · replace h := ite_t c1 h
    exact he _ (Option.some.inj h).symm
  · replace h := ite_f c1 h
    refine k_aload_n hF dX5_once_10 rfl ?_
    refine k_get hF (v := .ref (B + (79 + 6 * u0))) (shC_PT u0 q0) fl_X5_44_X8 dX5_once_11 rfl ?_
    refine k_iload_n hF dX5_once_14 rfl ?_
    obtain ⟨g2, h⟩ := gd_some h
    refine k_iald hF (shC_PT_0 u0 q0) dX5_once_15 g2 ?_
    refine k_iconst hF dX5_once_16 ci_5 ?_
    refine k_icmp_ne hF (tgt := 33) dX5_once_17 (by decide) (fun c3 => ?_) (fun c3 => ?_)
    · replace h := ite_f c3 h
      exact he _ (Option.some.inj h).symm
    · replace h := ite_t c3 h
      refine k_aload_n hF dX5_once_20 rfl ?_
      refine k_get hF (v := .ref (B + (81 + 6 * u0))) (shC_PT u0 q0) fl_X5_38_X8 dX5_once_21 rfl ?_
      refine k_iload_n hF dX5_once_24 rfl ?_
      obtain ⟨g4, h⟩ := gd_some h
      refine k_iald hF (shC_PT_2 u0 q0) dX5_once_25 g4 ?_
      obtain ⟨n5, hn5, h⟩ := lt_some h
      refine k_st (st2 := [.int n5]) (by rw [hn5]) ?_
      refine k_istore_n hF (L' := [some (.ref (B + (78 + 6 * u0))), some (.int a1), some (.int n5), some (.int x.2)]) dX5_once_26 (by decide) rfl ?_
      refine k_iinc hF (v := (x.2 + (1 : Int32))) (L' := [some (.ref (B + (78 + 6 * u0))), some (.int a1), some (.int n5), some (.int (x.2 + (1 : Int32)))]) dX5_once_27 rfl (by first | rfl | (congr 1)) (by decide) rfl ?_
      refine k_goto hF dX5_once_30 (tgt := 4) (by decide) ?_
      exact hc _ (Option.some.inj h).symm
set_option maxHeartbeats 4000000 in
set_option maxRecDepth 100000 in
theorem wX5_once {p : Program} {l : Launch} {e : Env} {s : State} {m : MethodId} {args : Array Value} {below : List Frame} {meth : Method} {c : Code} {Q : State → Prop} {A : Nat → Prop} {D : DD} {base B : Nat} (hF : KF D base cX5_once RX5 A 4 0 0 p l e ({ frames := 0, cells := 0, slots := 0, locals := 0 } : Room) s m args below meth c) (hA : ∀ q, RA B shpC q → A q) (hbs : base ≤ B) {σ : St} {u0 : Nat} {a1 : Int32} (q0 : u0 < 7) {z : Int32} (h : fX5_once σ u0 a1 = some z) (hr : ∀ (pc : Nat) (L : List (Option Value)), narrow .int (.int z) = .int z → decode cX5_once pc = .ok (.ireturn, 1) → KJ (Rep D B shpC) A 4 0 0 Q p l e ({ frames := 0, cells := 0, slots := 0, locals := 0 } : Room) s m args below meth c 0 0 pc L [.int z] σ) : KJ (Rep D B shpC) A 4 0 0 Q p l e ({ frames := 0, cells := 0, slots := 0, locals := 0 } : Room) s m args below meth c 0 0 0 [some (.ref (B + (78 + 6 * u0))), some (.int a1), none, none] [] σ := by
  unfold fX5_once at h
  refine k_iload_n hF dX5_once_0 rfl ?_
  refine k_istore_n hF (L' := [some (.ref (B + (78 + 6 * u0))), some (.int a1), some (.int a1), none]) dX5_once_1 (by decide) rfl ?_
  refine k_iconst hF dX5_once_2 ci_0 ?_
  refine k_istore_n hF (L' := [some (.ref (B + (78 + 6 * u0))), some (.int a1), some (.int a1), some (.int (0 : Int32))]) dX5_once_3 (by decide) rfl ?_
  obtain ⟨x6, hx6, h⟩ := bind_some h
  refine k_loop (P := fun xq => KJ (Rep D B shpC) A 4 0 0 Q p l e ({ frames := 0, cells := 0, slots := 0, locals := 0 } : Room) s m args below meth c 0 0 4 [some (.ref (B + (78 + 6 * u0))), some (.int a1), some (.int xq.1), some (.int xq.2)] [] σ) (C := fun xq => KJ (Rep D B shpC) A 4 0 0 Q p l e ({ frames := 0, cells := 0, slots := 0, locals := 0 } : Room) s m args below meth c 0 0 33 [some (.ref (B + (78 + 6 * u0))), some (.int a1), some (.int xq.1), some (.int xq.2)] [] σ) (fun x z hz hc he => wX5_once_l4 hF hA hbs q0 hz hc he) hx6 ?_
  show KJ (Rep D B shpC) A 4 0 0 Q p l e ({ frames := 0, cells := 0, slots := 0, locals := 0 } : Room) s m args below meth c 0 0 33 [some (.ref (B + (78 + 6 * u0))), some (.int a1), some (.int x6.1), some (.int x6.2)] [] σ
  refine k_iload_n hF dX5_once_33 rfl ?_
  cases h
  exact hr _ _ rfl dX5_once_34
theorem ct_X5_once {l : Launch} {D : DD} {base B : Nat} (hbs : base ≤ B) {σ : St} {u0 : Nat} {a1 : Int32} (q0 : u0 < 7) {r : Int32} (h : fX5_once σ u0 a1 = some r) : MetR l D B shpC base yX5_once cX5_once 4 (some .int) 0 0 [.ref (B + (78 + 6 * u0)), .int a1] σ (some (.int r)) σ :=
  MetR.of (by decide +kernel) (fun v hv => by simp only [List.mem_cons, List.not_mem_nil, or_false] at hv; rcases hv with rfl | rfl <;> rfl) (Nat.le_of_ble_eq_true rfl) hbs (fun p e s m args below meth c hF hr => wX5_once hF (fun q hq => hq) hbs q0 h (fun pc L hn hd => k_iret hF hr hn hd))
set_option maxHeartbeats 4000000 in
set_option maxRecDepth 100000 in
theorem wX5_goOnOften_l9 {p : Program} {l : Launch} {e : Env} {s : State} {m : MethodId} {args : Array Value} {below : List Frame} {meth : Method} {c : Code} {Q : State → Prop} {A : Nat → Prop} {D : DD} {base B : Nat} {FF GG : Nat} (hF : KF D base cX5_goOnOften RX5 A 9 0 0 p l e ({ frames := FF + 1, cells := 0, slots := 0, locals := GG + 28 } : Room) s m args below meth c) (hA : ∀ q, RA B shpC q → A q) (hbs : base ≤ B) {σ : St} (hFG : 2 ≤ FF ∧ 85 ≤ GG) {rec : St → Nat → Int32 → Int32 → Int32 → Int32 → Option Int32} {u1 : Nat} {a2 : Int32} {a3 : Int32} {a4 : Int32} {a5 : Int32} (hrec : ∀ (σ : St) (u1 : Nat) (q1 : u1 < 7) (a2 a3 a4 a5 r : Int32), rec σ u1 a2 a3 a4 a5 = some r → MetR l D B shpC base yX5_goOnFrom cX5_goOnFrom 9 (some .int) FF GG [.ref (B + 38), .ref (B + (78 + 6 * u1)), .int a2, .int a3, .int a4, .int a5] σ (some (.int r)) σ) (q1 : u1 < 7) {x : (Int32 × Int32 × Int32)} {z : ((Int32 × Int32 × Int32) ⊕ (Int32 × Int32 × Int32))} (h : fX5_goOnOften_l9 σ rec u1 a2 a3 a4 a5 x = some z) (hc : ∀ x, z = .inl x → KJ (Rep D B shpC) A 9 0 0 Q p l e ({ frames := FF + 1, cells := 0, slots := 0, locals := GG + 28 } : Room) s m args below meth c 0 0 9 [some (.ref (B + 38)), some (.ref (B + (78 + 6 * u1))), some (.int a2), some (.int a3), some (.int a4), some (.int a5), some (.int x.1), some (.int x.2.1), some (.int x.2.2)] [] σ) (he : ∀ w, z = .inr w → KJ (Rep D B shpC) A 9 0 0 Q p l e ({ frames := FF + 1, cells := 0, slots := 0, locals := GG + 28 } : Room) s m args below meth c 0 0 53 [some (.ref (B + 38)), some (.ref (B + (78 + 6 * u1))), some (.int a2), some (.int a3), some (.int a4), some (.int a5), some (.int w.1), some (.int w.2.1), some (.int w.2.2)] [] σ) : KJ (Rep D B shpC) A 9 0 0 Q p l e ({ frames := FF + 1, cells := 0, slots := 0, locals := GG + 28 } : Room) s m args below meth c 0 0 9 [some (.ref (B + 38)), some (.ref (B + (78 + 6 * u1))), some (.int a2), some (.int a3), some (.int a4), some (.int a5), some (.int x.1), some (.int x.2.1), some (.int x.2.2)] [] σ := by
  unfold fX5_goOnOften_l9 at h
  refine k_iload hF dX5_goOnOften_9 rfl ?_
  refine k_if_eq hF (tgt := 53) dX5_goOnOften_11 (by decide) (fun c1 => ?_) (fun c1 => ?_)
  · replace h := ite_t c1 h
    exact he _ (Option.some.inj h).symm
  · replace h := ite_f c1 h
    refine k_iload hF dX5_goOnOften_14 rfl ?_
    refine k_bipush hF (v := (24 : Int32)) dX5_goOnOften_16 (by decide) ?_
    refine k_icmp_ge hF (tgt := 53) dX5_goOnOften_18 (by decide) (fun c2 => ?_) (fun c2 => ?_)
    · replace h := ite_t c2 h
      exact he _ (Option.some.inj h).symm
    · replace h := ite_f c2 h
      refine k_aload_n hF dX5_goOnOften_21 rfl ?_
      refine k_aload_n hF dX5_goOnOften_22 rfl ?_
      refine k_iload_n hF dX5_goOnOften_23 rfl ?_
      refine k_iload hF dX5_goOnOften_24 rfl ?_
      refine k_iload hF dX5_goOnOften_26 rfl ?_
      refine k_iload hF dX5_goOnOften_28 rfl ?_
      obtain ⟨v3, hv3, h⟩ := bind_some h
      refine k_callV hF hA (as := [.ref (B + (78 + 6 * u1)), .int a2, .int x.2.1, .int a4, .int a5]) (hrec _ _ q1 _ _ _ _ _ hv3) mv_X5_84 shC_38 rfl rfl rfl ⟨by show _ + 1 ≤ FF + _; omega, by show 8 + (_ + 11) + _ ≤ GG + _; omega⟩ (Nat.le_of_ble_eq_true rfl) dX5_goOnOften_30 ?_
      refine k_st (st2 := [.int v3]) rfl ?_
      refine k_iload hF dX5_goOnOften_33 rfl ?_
      refine k_iconst hF dX5_goOnOften_35 ci_m1 ?_
      refine k_ixor hF dX5_goOnOften_36 ?_
      refine k_iand hF dX5_goOnOften_37 ?_
      obtain ⟨n4, hn4, h⟩ := lt_some h
      refine k_st (st2 := [.int n4]) (by rw [hn4]) ?_
      refine k_istore hF (L' := [some (.ref (B + 38)), some (.ref (B + (78 + 6 * u1))), some (.int a2), some (.int a3), some (.int a4), some (.int a5), some (.int x.1), some (.int n4), some (.int x.2.2)]) dX5_goOnOften_38 (by decide) rfl ?_
      refine k_iload hF dX5_goOnOften_40 rfl ?_
      refine k_iload hF dX5_goOnOften_42 rfl ?_
      refine k_ior hF dX5_goOnOften_44 ?_
      refine k_istore hF (L' := [some (.ref (B + 38)), some (.ref (B + (78 + 6 * u1))), some (.int a2), some (.int a3), some (.int a4), some (.int a5), some (.int (x.1 ||| n4)), some (.int n4), some (.int x.2.2)]) dX5_goOnOften_45 (by decide) rfl ?_
      refine k_iinc hF (v := (x.2.2 + (1 : Int32))) (L' := [some (.ref (B + 38)), some (.ref (B + (78 + 6 * u1))), some (.int a2), some (.int a3), some (.int a4), some (.int a5), some (.int (x.1 ||| n4)), some (.int n4), some (.int (x.2.2 + (1 : Int32)))]) dX5_goOnOften_47 rfl (by first | rfl | (congr 1)) (by decide) rfl ?_
      refine k_goto hF dX5_goOnOften_50 (tgt := 9) (by decide) ?_
      exact hc _ (Option.some.inj h).symm
set_option maxHeartbeats 4000000 in
set_option maxRecDepth 100000 in
theorem wX5_goOnOften {p : Program} {l : Launch} {e : Env} {s : State} {m : MethodId} {args : Array Value} {below : List Frame} {meth : Method} {c : Code} {Q : State → Prop} {A : Nat → Prop} {D : DD} {base B : Nat} {FF GG : Nat} (hF : KF D base cX5_goOnOften RX5 A 9 0 0 p l e ({ frames := FF + 1, cells := 0, slots := 0, locals := GG + 28 } : Room) s m args below meth c) (hA : ∀ q, RA B shpC q → A q) (hbs : base ≤ B) {σ : St} (hFG : 2 ≤ FF ∧ 85 ≤ GG) {rec : St → Nat → Int32 → Int32 → Int32 → Int32 → Option Int32} {u1 : Nat} {a2 : Int32} {a3 : Int32} {a4 : Int32} {a5 : Int32} (hrec : ∀ (σ : St) (u1 : Nat) (q1 : u1 < 7) (a2 a3 a4 a5 r : Int32), rec σ u1 a2 a3 a4 a5 = some r → MetR l D B shpC base yX5_goOnFrom cX5_goOnFrom 9 (some .int) FF GG [.ref (B + 38), .ref (B + (78 + 6 * u1)), .int a2, .int a3, .int a4, .int a5] σ (some (.int r)) σ) (q1 : u1 < 7) {z : Int32} (h : fX5_goOnOften σ rec u1 a2 a3 a4 a5 = some z) (hr : ∀ (pc : Nat) (L : List (Option Value)), narrow .int (.int z) = .int z → decode cX5_goOnOften pc = .ok (.ireturn, 1) → KJ (Rep D B shpC) A 9 0 0 Q p l e ({ frames := FF + 1, cells := 0, slots := 0, locals := GG + 28 } : Room) s m args below meth c 0 0 pc L [.int z] σ) : KJ (Rep D B shpC) A 9 0 0 Q p l e ({ frames := FF + 1, cells := 0, slots := 0, locals := GG + 28 } : Room) s m args below meth c 0 0 0 [some (.ref (B + 38)), some (.ref (B + (78 + 6 * u1))), some (.int a2), some (.int a3), some (.int a4), some (.int a5), none, none, none] [] σ := by
  unfold fX5_goOnOften at h
  refine k_iload_n hF dX5_goOnOften_0 rfl ?_
  refine k_istore hF (L' := [some (.ref (B + 38)), some (.ref (B + (78 + 6 * u1))), some (.int a2), some (.int a3), some (.int a4), some (.int a5), some (.int a3), none, none]) dX5_goOnOften_1 (by decide) rfl ?_
  refine k_iload_n hF dX5_goOnOften_3 rfl ?_
  refine k_istore hF (L' := [some (.ref (B + 38)), some (.ref (B + (78 + 6 * u1))), some (.int a2), some (.int a3), some (.int a4), some (.int a5), some (.int a3), some (.int a3), none]) dX5_goOnOften_4 (by decide) rfl ?_
  refine k_iconst hF dX5_goOnOften_6 ci_0 ?_
  refine k_istore hF (L' := [some (.ref (B + 38)), some (.ref (B + (78 + 6 * u1))), some (.int a2), some (.int a3), some (.int a4), some (.int a5), some (.int a3), some (.int a3), some (.int (0 : Int32))]) dX5_goOnOften_7 (by decide) rfl ?_
  obtain ⟨x5, hx5, h⟩ := bind_some h
  refine k_loop (P := fun xq => KJ (Rep D B shpC) A 9 0 0 Q p l e ({ frames := FF + 1, cells := 0, slots := 0, locals := GG + 28 } : Room) s m args below meth c 0 0 9 [some (.ref (B + 38)), some (.ref (B + (78 + 6 * u1))), some (.int a2), some (.int a3), some (.int a4), some (.int a5), some (.int xq.1), some (.int xq.2.1), some (.int xq.2.2)] [] σ) (C := fun xq => KJ (Rep D B shpC) A 9 0 0 Q p l e ({ frames := FF + 1, cells := 0, slots := 0, locals := GG + 28 } : Room) s m args below meth c 0 0 53 [some (.ref (B + 38)), some (.ref (B + (78 + 6 * u1))), some (.int a2), some (.int a3), some (.int a4), some (.int a5), some (.int xq.1), some (.int xq.2.1), some (.int xq.2.2)] [] σ) (fun x z hz hc he => wX5_goOnOften_l9 hF hA hbs hFG hrec q1 hz hc he) hx5 ?_
  show KJ (Rep D B shpC) A 9 0 0 Q p l e ({ frames := FF + 1, cells := 0, slots := 0, locals := GG + 28 } : Room) s m args below meth c 0 0 53 [some (.ref (B + 38)), some (.ref (B + (78 + 6 * u1))), some (.int a2), some (.int a3), some (.int a4), some (.int a5), some (.int x5.1), some (.int x5.2.1), some (.int x5.2.2)] [] σ
  refine k_iload hF dX5_goOnOften_53 rfl ?_
  cases h
  exact hr _ _ rfl dX5_goOnOften_55
theorem ct_X5_goOnOften {l : Launch} {D : DD} {base B : Nat} {FF GG : Nat} (hbs : base ≤ B) {σ : St} (hFG : 2 ≤ FF ∧ 85 ≤ GG) {rec : St → Nat → Int32 → Int32 → Int32 → Int32 → Option Int32} {u1 : Nat} {a2 : Int32} {a3 : Int32} {a4 : Int32} {a5 : Int32} (hrec : ∀ (σ : St) (u1 : Nat) (q1 : u1 < 7) (a2 a3 a4 a5 r : Int32), rec σ u1 a2 a3 a4 a5 = some r → MetR l D B shpC base yX5_goOnFrom cX5_goOnFrom 9 (some .int) FF GG [.ref (B + 38), .ref (B + (78 + 6 * u1)), .int a2, .int a3, .int a4, .int a5] σ (some (.int r)) σ) (q1 : u1 < 7) {r : Int32} (h : fX5_goOnOften σ rec u1 a2 a3 a4 a5 = some r) : MetR l D B shpC base yX5_goOnOften cX5_goOnOften 9 (some .int) (FF + 1) (GG + 28) [.ref (B + 38), .ref (B + (78 + 6 * u1)), .int a2, .int a3, .int a4, .int a5] σ (some (.int r)) σ :=
  MetR.of (by decide +kernel) (fun v hv => by simp only [List.mem_cons, List.not_mem_nil, or_false] at hv; rcases hv with rfl | rfl | rfl | rfl | rfl | rfl <;> rfl) (Nat.le_of_ble_eq_true rfl) hbs (fun p e s m args below meth c hF hr => wX5_goOnOften hF (fun q hq => hq) hbs hFG hrec q1 h (fun pc L hn hd => k_iret hF hr hn hd))
set_option maxHeartbeats 4000000 in
set_option maxRecDepth 100000 in
theorem wX5_goOnFrom_j11 {p : Program} {l : Launch} {e : Env} {s : State} {m : MethodId} {args : Array Value} {below : List Frame} {meth : Method} {c : Code} {Q : State → Prop} {A : Nat → Prop} {D : DD} {base B : Nat} {FF GG : Nat} (hF : KF D base cX5_goOnFrom RX5 A 9 0 0 p l e ({ frames := FF + 2, cells := 0, slots := 0, locals := GG + 56 } : Room) s m args below meth c) (hA : ∀ q, RA B shpC q → A q) (hbs : base ≤ B) {σ : St} (hFG : 2 ≤ FF ∧ 85 ≤ GG) {rec : St → Nat → Int32 → Int32 → Int32 → Int32 → Option Int32} {u1 : Nat} {a2 : Int32} {a3 : Int32} {a4 : Int32} {a5 : Int32} (hrec : ∀ (σ : St) (u1 : Nat) (q1 : u1 < 7) (a2 a3 a4 a5 r : Int32), rec σ u1 a2 a3 a4 a5 = some r → MetR l D B shpC base yX5_goOnFrom cX5_goOnFrom 9 (some .int) FF GG [.ref (B + 38), .ref (B + (78 + 6 * u1)), .int a2, .int a3, .int a4, .int a5] σ (some (.int r)) σ) (q1 : u1 < 7) {z : Int32} (h : fX5_goOnFrom_j11 σ rec u1 a2 a3 a4 a5 = some z) (hr : ∀ (pc : Nat) (L : List (Option Value)), narrow .int (.int z) = .int z → decode cX5_goOnFrom pc = .ok (.ireturn, 1) → KJ (Rep D B shpC) A 9 0 0 Q p l e ({ frames := FF + 2, cells := 0, slots := 0, locals := GG + 56 } : Room) s m args below meth c 0 0 pc L [.int z] σ) : KJ (Rep D B shpC) A 9 0 0 Q p l e ({ frames := FF + 2, cells := 0, slots := 0, locals := GG + 56 } : Room) s m args below meth c 0 0 11 [some (.ref (B + 38)), some (.ref (B + (78 + 6 * u1))), some (.int a2), some (.int a3), some (.int a4), some (.int a5), none, none, none] [] σ := by
  unfold fX5_goOnFrom_j11 at h
  refine k_iconst hF dX5_goOnFrom_11 ci_0 ?_
  cases h
  exact hr _ _ rfl dX5_goOnFrom_12
set_option maxHeartbeats 4000000 in
set_option maxRecDepth 100000 in
theorem wX5_goOnFrom {p : Program} {l : Launch} {e : Env} {s : State} {m : MethodId} {args : Array Value} {below : List Frame} {meth : Method} {c : Code} {Q : State → Prop} {A : Nat → Prop} {D : DD} {base B : Nat} {FF GG : Nat} (hF : KF D base cX5_goOnFrom RX5 A 9 0 0 p l e ({ frames := FF + 2, cells := 0, slots := 0, locals := GG + 56 } : Room) s m args below meth c) (hA : ∀ q, RA B shpC q → A q) (hbs : base ≤ B) {σ : St} (hFG : 2 ≤ FF ∧ 85 ≤ GG) {rec : St → Nat → Int32 → Int32 → Int32 → Int32 → Option Int32} {u1 : Nat} {a2 : Int32} {a3 : Int32} {a4 : Int32} {a5 : Int32} (hrec : ∀ (σ : St) (u1 : Nat) (q1 : u1 < 7) (a2 a3 a4 a5 r : Int32), rec σ u1 a2 a3 a4 a5 = some r → MetR l D B shpC base yX5_goOnFrom cX5_goOnFrom 9 (some .int) FF GG [.ref (B + 38), .ref (B + (78 + 6 * u1)), .int a2, .int a3, .int a4, .int a5] σ (some (.int r)) σ) (q1 : u1 < 7) {z : Int32} (h : fX5_goOnFromB σ rec u1 a2 a3 a4 a5 = some z) (hr : ∀ (pc : Nat) (L : List (Option Value)), narrow .int (.int z) = .int z → decode cX5_goOnFrom pc = .ok (.ireturn, 1) → KJ (Rep D B shpC) A 9 0 0 Q p l e ({ frames := FF + 2, cells := 0, slots := 0, locals := GG + 56 } : Room) s m args below meth c 0 0 pc L [.int z] σ) : KJ (Rep D B shpC) A 9 0 0 Q p l e ({ frames := FF + 2, cells := 0, slots := 0, locals := GG + 56 } : Room) s m args below meth c 0 0 0 [some (.ref (B + 38)), some (.ref (B + (78 + 6 * u1))), some (.int a2), some (.int a3), some (.int a4), some (.int a5), none, none, none] [] σ := by
  unfold fX5_goOnFromB at h
  refine k_iload hF dX5_goOnFrom_0 rfl ?_
  refine k_bipush hF (v := (12 : Int32)) dX5_goOnFrom_2 (by decide) ?_
  refine k_icmp_gt hF (tgt := 11) dX5_goOnFrom_4 (by decide) (fun c1 => ?_) (fun c1 => ?_)
  · replace h := ite_t c1 h
    exact wX5_goOnFrom_j11 hF hA hbs hFG hrec q1 h hr
  · replace h := ite_f c1 h
    refine k_iload_n hF dX5_goOnFrom_7 rfl ?_
    refine k_if_ne hF (tgt := 13) dX5_goOnFrom_8 (by decide) (fun c2 => ?_) (fun c2 => ?_)
    · replace h := ite_f c2 h
      refine k_aload_n hF dX5_goOnFrom_13 rfl ?_
      refine k_get hF (v := .ref (B + (81 + 6 * u1))) (shC_PT u1 q1) fl_X5_38_X8 dX5_goOnFrom_14 rfl ?_
      refine k_iload_n hF dX5_goOnFrom_17 rfl ?_
      obtain ⟨g3, h⟩ := gd_some h
      refine k_iald hF (shC_PT_2 u1 q1) dX5_goOnFrom_18 g3 ?_
      obtain ⟨n4, hn4, h⟩ := lt_some h
      refine k_st (st2 := [.int n4]) (by rw [hn4]) ?_
      refine k_istore hF (L' := [some (.ref (B + 38)), some (.ref (B + (78 + 6 * u1))), some (.int a2), some (.int a3), some (.int a4), some (.int a5), some (.int n4), none, none]) dX5_goOnFrom_19 (by decide) rfl ?_
      refine k_aload_n hF dX5_goOnFrom_21 rfl ?_
      refine k_get hF (v := .ref (B + (82 + 6 * u1))) (shC_PT u1 q1) fl_X5_41_X8 dX5_goOnFrom_22 rfl ?_
      refine k_iload_n hF dX5_goOnFrom_25 rfl ?_
      obtain ⟨g5, h⟩ := gd_some h
      refine k_iald hF (shC_PT_3 u1 q1) dX5_goOnFrom_26 g5 ?_
      obtain ⟨n6, hn6, h⟩ := lt_some h
      refine k_st (st2 := [.int n6]) (by rw [hn6]) ?_
      refine k_istore hF (L' := [some (.ref (B + 38)), some (.ref (B + (78 + 6 * u1))), some (.int a2), some (.int a3), some (.int a4), some (.int a5), some (.int n4), some (.int n6), none]) dX5_goOnFrom_27 (by decide) rfl ?_
      refine k_aload_n hF dX5_goOnFrom_29 rfl ?_
      refine k_get hF (v := .ref (B + (79 + 6 * u1))) (shC_PT u1 q1) fl_X5_44_X8 dX5_goOnFrom_30 rfl ?_
      refine k_iload_n hF dX5_goOnFrom_33 rfl ?_
      obtain ⟨g7, h⟩ := gd_some h
      refine k_iald hF (shC_PT_0 u1 q1) dX5_goOnFrom_34 g7 ?_
      by_cases c8 : (gi σ (79 + 6 * u1) a2.toNatClampNeg) = (3 : Int32)
      · replace h := ite_t c8 h
        refine k_tabIn hF (off := 25) (tgt := 60) dX5_goOnFrom_35 c8 (by decide) (by decide) (by decide +kernel) (by decide) ?_
        refine k_aload_n hF dX5_goOnFrom_60 rfl ?_
        refine k_aload_n hF dX5_goOnFrom_61 rfl ?_
        refine k_iload hF dX5_goOnFrom_62 rfl ?_
        refine k_iload_n hF dX5_goOnFrom_64 rfl ?_
        refine k_iload hF dX5_goOnFrom_65 rfl ?_
        refine k_iload hF dX5_goOnFrom_67 rfl ?_
        refine k_iconst hF dX5_goOnFrom_69 ci_1 ?_
        refine k_iadd hF dX5_goOnFrom_70 ?_
        obtain ⟨v9, hv9, h⟩ := bind_some h
        refine k_callV hF hA (as := [.ref (B + (78 + 6 * u1)), .int n4, .int a3, .int a4, .int (a5 + (1 : Int32))]) (hrec _ _ q1 _ _ _ _ _ hv9) mv_X5_84 shC_38 rfl rfl rfl ⟨by show _ + 1 ≤ FF + _; omega, by show 8 + (_ + 11) + _ ≤ GG + _; omega⟩ (Nat.le_of_ble_eq_true rfl) dX5_goOnFrom_71 ?_
        refine k_st (st2 := [.int v9]) rfl ?_
        refine k_istore hF (L' := [some (.ref (B + 38)), some (.ref (B + (78 + 6 * u1))), some (.int a2), some (.int a3), some (.int a4), some (.int a5), some (.int n4), some (.int n6), some (.int v9)]) dX5_goOnFrom_74 (by decide) rfl ?_
        refine k_aload_n hF dX5_goOnFrom_76 rfl ?_
        refine k_aload_n hF dX5_goOnFrom_77 rfl ?_
        refine k_iload hF dX5_goOnFrom_78 rfl ?_
        refine k_iload hF dX5_goOnFrom_80 rfl ?_
        refine k_iload hF dX5_goOnFrom_82 rfl ?_
        refine k_iload hF dX5_goOnFrom_84 rfl ?_
        refine k_iconst hF dX5_goOnFrom_86 ci_1 ?_
        refine k_iadd hF dX5_goOnFrom_87 ?_
        obtain ⟨v10, hv10, h⟩ := bind_some h
        refine k_callV hF hA (as := [.ref (B + (78 + 6 * u1)), .int n6, .int v9, .int a4, .int (a5 + (1 : Int32))]) (hrec _ _ q1 _ _ _ _ _ hv10) mv_X5_84 shC_38 rfl rfl rfl ⟨by show _ + 1 ≤ FF + _; omega, by show 8 + (_ + 11) + _ ≤ GG + _; omega⟩ (Nat.le_of_ble_eq_true rfl) dX5_goOnFrom_88 ?_
        refine k_st (st2 := [.int v10]) rfl ?_
        cases h
        exact hr _ _ rfl dX5_goOnFrom_91
      replace h := ite_f c8 h
      by_cases c11 : (gi σ (79 + 6 * u1) a2.toNatClampNeg) = (4 : Int32)
      · replace h := ite_t c11 h
        refine k_tabIn hF (off := 57) (tgt := 92) dX5_goOnFrom_35 c11 (by decide) (by decide) (by decide +kernel) (by decide) ?_
        refine k_aload_n hF dX5_goOnFrom_92 rfl ?_
        refine k_aload_n hF dX5_goOnFrom_93 rfl ?_
        refine k_iload hF dX5_goOnFrom_94 rfl ?_
        refine k_iload_n hF dX5_goOnFrom_96 rfl ?_
        refine k_iload hF dX5_goOnFrom_97 rfl ?_
        refine k_iload hF dX5_goOnFrom_99 rfl ?_
        refine k_iconst hF dX5_goOnFrom_101 ci_1 ?_
        refine k_iadd hF dX5_goOnFrom_102 ?_
        obtain ⟨v12, hv12, h⟩ := bind_some h
        refine k_callV hF hA (as := [.ref (B + (78 + 6 * u1)), .int n4, .int a3, .int a4, .int (a5 + (1 : Int32))]) (hrec _ _ q1 _ _ _ _ _ hv12) mv_X5_84 shC_38 rfl rfl rfl ⟨by show _ + 1 ≤ FF + _; omega, by show 8 + (_ + 11) + _ ≤ GG + _; omega⟩ (Nat.le_of_ble_eq_true rfl) dX5_goOnFrom_103 ?_
        refine k_st (st2 := [.int v12]) rfl ?_
        refine k_aload_n hF dX5_goOnFrom_106 rfl ?_
        refine k_aload_n hF dX5_goOnFrom_107 rfl ?_
        refine k_iload hF dX5_goOnFrom_108 rfl ?_
        refine k_iload_n hF dX5_goOnFrom_110 rfl ?_
        refine k_iload hF dX5_goOnFrom_111 rfl ?_
        refine k_iload hF dX5_goOnFrom_113 rfl ?_
        refine k_iconst hF dX5_goOnFrom_115 ci_1 ?_
        refine k_iadd hF dX5_goOnFrom_116 ?_
        obtain ⟨v13, hv13, h⟩ := bind_some h
        refine k_callV hF hA (as := [.ref (B + (78 + 6 * u1)), .int n6, .int a3, .int a4, .int (a5 + (1 : Int32))]) (hrec _ _ q1 _ _ _ _ _ hv13) mv_X5_84 shC_38 rfl rfl rfl ⟨by show _ + 1 ≤ FF + _; omega, by show 8 + (_ + 11) + _ ≤ GG + _; omega⟩ (Nat.le_of_ble_eq_true rfl) dX5_goOnFrom_117 ?_
        refine k_st (st2 := [.int v13, .int v12]) rfl ?_
        refine k_ior hF dX5_goOnFrom_120 ?_
        cases h
        exact hr _ _ rfl dX5_goOnFrom_121
      replace h := ite_f c11 h
      by_cases c14 : (gi σ (79 + 6 * u1) a2.toNatClampNeg) = (5 : Int32)
      · replace h := ite_t c14 h
        refine k_tabIn hF (off := 87) (tgt := 122) dX5_goOnFrom_35 c14 (by decide) (by decide) (by decide +kernel) (by decide) ?_
        refine k_aload_n hF dX5_goOnFrom_122 rfl ?_
        refine k_aload_n hF dX5_goOnFrom_123 rfl ?_
        refine k_aload_n hF dX5_goOnFrom_124 rfl ?_
        refine k_iload hF dX5_goOnFrom_125 rfl ?_
        obtain ⟨v15, hv15, h⟩ := bind_some h
        refine k_callS hF hA (as := [.ref (B + (78 + 6 * u1)), .int n4]) (ct_X5_once hbs q1 hv15) ms_X5_88 rfl rfl ⟨by show _ + 1 ≤ FF + _; omega, by show 8 + (_ + 11) + _ ≤ GG + _; omega⟩ (Nat.le_of_ble_eq_true rfl) dX5_goOnFrom_127 ?_
        refine k_st (st2 := [.int v15, .ref (B + (78 + 6 * u1)), .ref (B + 38)]) rfl ?_
        refine k_iload_n hF dX5_goOnFrom_130 rfl ?_
        refine k_iload hF dX5_goOnFrom_131 rfl ?_
        refine k_iload hF dX5_goOnFrom_133 rfl ?_
        refine k_iconst hF dX5_goOnFrom_135 ci_1 ?_
        refine k_iadd hF dX5_goOnFrom_136 ?_
        obtain ⟨v16, hv16, h⟩ := bind_some h
        refine k_callV hF hA (as := [.ref (B + (78 + 6 * u1)), .int v15, .int a3, .int a4, .int (a5 + (1 : Int32))]) (ct_X5_goOnOften hbs hFG hrec q1 hv16) mv_X5_92 shC_38 rfl rfl rfl ⟨by show _ + 1 ≤ FF + _; omega, by show 8 + (_ + 11) + _ ≤ GG + _; omega⟩ (Nat.le_of_ble_eq_true rfl) dX5_goOnFrom_137 ?_
        refine k_st (st2 := [.int v16]) rfl ?_
        cases h
        exact hr _ _ rfl dX5_goOnFrom_140
      replace h := ite_f c14 h
      have ic8 := i_ne c8
      have ic11 := i_ne c11
      have ic14 := i_ne c14
      refine k_tabOut hF (tgt := 141) dX5_goOnFrom_35 (by first | (simp only [show (3 : Int32).toInt = 3 from by decide, show (4 : Int32).toInt = 4 from by decide, show (5 : Int32).toInt = 5 from by decide] at *; omega) | omega) (by decide) ?_
      refine k_aload_n hF dX5_goOnFrom_141 rfl ?_
      refine k_aload_n hF dX5_goOnFrom_142 rfl ?_
      refine k_iload_n hF dX5_goOnFrom_143 rfl ?_
      refine k_iload_n hF dX5_goOnFrom_144 rfl ?_
      obtain ⟨v17, hv17, h⟩ := bind_some h
      refine k_callV hF hA (as := [.ref (B + (78 + 6 * u1)), .int a2, .int a3]) (ct_X5_goOneStep hbs q1 hv17) mv_X5_59 shC_38 rfl rfl rfl ⟨by show _ + 1 ≤ FF + _; omega, by show 8 + (_ + 11) + _ ≤ GG + _; omega⟩ (Nat.le_of_ble_eq_true rfl) dX5_goOnFrom_145 ?_
      refine k_st (st2 := [.int v17]) rfl ?_
      refine k_iload hF dX5_goOnFrom_148 rfl ?_
      refine k_iand hF dX5_goOnFrom_150 ?_
      cases h
      exact hr _ _ rfl dX5_goOnFrom_151
    · replace h := ite_t c2 h
      exact wX5_goOnFrom_j11 hF hA hbs hFG hrec q1 h hr
theorem ct_X5_goOnFromB {l : Launch} {D : DD} {base B : Nat} {FF GG : Nat} (hbs : base ≤ B) {σ : St} (hFG : 2 ≤ FF ∧ 85 ≤ GG) {rec : St → Nat → Int32 → Int32 → Int32 → Int32 → Option Int32} {u1 : Nat} {a2 : Int32} {a3 : Int32} {a4 : Int32} {a5 : Int32} (hrec : ∀ (σ : St) (u1 : Nat) (q1 : u1 < 7) (a2 a3 a4 a5 r : Int32), rec σ u1 a2 a3 a4 a5 = some r → MetR l D B shpC base yX5_goOnFrom cX5_goOnFrom 9 (some .int) FF GG [.ref (B + 38), .ref (B + (78 + 6 * u1)), .int a2, .int a3, .int a4, .int a5] σ (some (.int r)) σ) (q1 : u1 < 7) {r : Int32} (h : fX5_goOnFromB σ rec u1 a2 a3 a4 a5 = some r) : MetR l D B shpC base yX5_goOnFrom cX5_goOnFrom 9 (some .int) (FF + 2) (GG + 56) [.ref (B + 38), .ref (B + (78 + 6 * u1)), .int a2, .int a3, .int a4, .int a5] σ (some (.int r)) σ :=
  MetR.of (by decide +kernel) (fun v hv => by simp only [List.mem_cons, List.not_mem_nil, or_false] at hv; rcases hv with rfl | rfl | rfl | rfl | rfl | rfl <;> rfl) (Nat.le_of_ble_eq_true rfl) hbs (fun p e s m args below meth c hF hr => wX5_goOnFrom hF (fun q hq => hq) hbs hFG hrec q1 h (fun pc L hn hd => k_iret hF hr hn hd))
theorem ct_X5_goOnFromN {l : Launch} {D : DD} {base B : Nat} (hbs : base ≤ B) : ∀ (n : Nat) (σ : St) (u1 : Nat) (q1 : u1 < 7) (a2 a3 a4 a5 r : Int32), fX5_goOnFrom n σ u1 a2 a3 a4 a5 = some r → MetR l D B shpC base yX5_goOnFrom cX5_goOnFrom 9 (some .int) (2 + 2 * n) (85 + 56 * n) [.ref (B + 38), .ref (B + (78 + 6 * u1)), .int a2, .int a3, .int a4, .int a5] σ (some (.int r)) σ
  | 0, σ, u1, q1, a2, a3, a4, a5, r, h => by cases h
  | n + 1, σ, u1, q1, a2, a3, a4, a5, r, h => ct_X5_goOnFromB hbs (FF := 2 + 2 * n) (GG := 85 + 56 * n) ⟨by omega, by omega⟩ (ct_X5_goOnFromN hbs n) q1 h
theorem ct_X5_goOnFrom {l : Launch} {D : DD} {base B : Nat} (hbs : base ≤ B) {σ : St} {u1 : Nat} {a2 a3 a4 a5 : Int32} (q1 : u1 < 7) {r : Int32} (h : fX5_goOnFrom 14 σ u1 a2 a3 a4 a5 = some r) : MetR l D B shpC base yX5_goOnFrom cX5_goOnFrom 9 (some .int) 30 869 [.ref (B + 38), .ref (B + (78 + 6 * u1)), .int a2, .int a3, .int a4, .int a5] σ (some (.int r)) σ := ct_X5_goOnFromN hbs 14 σ u1 q1 a2 a3 a4 a5 r h
