set_option maxHeartbeats 4000000 in
set_option maxRecDepth 100000 in
theorem wX10_crossings_j86 {p : Program} {l : Launch} {e : Env} {s : State} {m : MethodId} {args : Array Value} {below : List Frame} {meth : Method} {c : Code} {Q : State → Prop} {A : Nat → Prop} {D : DD} {base B : Nat} (hF : KF D base cX10_crossings RX10 A 6 2 12 p l e ({ frames := 7, cells := 2, slots := 12, locals := 111 } : Room) s m args below meth c) (hA : ∀ q, RA B shpC q → A q) (hbs : base ≤ B) {σ : St} {a1 : Int32} {a2 : Int32} {ea3 : Int32} {b4 : Int32} {b5 : Int32} {z : ((Int32 × Int32) ⊕ (Int32 × Int32))} (h : fX10_crossings_j86 σ a1 a2 ea3 b4 b5 = some z) (hc : ∀ x, z = .inl x → KJ (Rep D B shpC) A 6 2 12 Q p l e ({ frames := 7, cells := 2, slots := 12, locals := 111 } : Room) s m args below meth c 0 0 30 [some (.ref (B + 0)), some (.int a1), some (.int a2), some (.int ea3), some (.int x.1), some (.int x.2)] [] σ) (he : ∀ w, z = .inr w → KJ (Rep D B shpC) A 6 2 12 Q p l e ({ frames := 7, cells := 2, slots := 12, locals := 111 } : Room) s m args below meth c 0 0 92 [some (.ref (B + 0)), some (.int a1), some (.int a2), some (.int ea3), some (.int w.1), some (.int w.2)] [] σ) : KJ (Rep D B shpC) A 6 2 12 Q p l e ({ frames := 7, cells := 2, slots := 12, locals := 111 } : Room) s m args below meth c 0 0 86 [some (.ref (B + 0)), some (.int a1), some (.int a2), some (.int ea3), some (.int b4), some (.int b5)] [] σ := by
  unfold fX10_crossings_j86 at h
  refine k_iinc hF (v := (b5 + (1 : Int32))) (L' := [some (.ref (B + 0)), some (.int a1), some (.int a2), some (.int ea3), some (.int b4), some (.int (b5 + (1 : Int32)))]) dX10_crossings_86 rfl (by first | rfl | (congr 1)) (by decide) rfl ?_
  refine k_goto hF dX10_crossings_89 (tgt := 30) (by decide) ?_
  exact hc _ (Option.some.inj h).symm
set_option maxHeartbeats 4000000 in
set_option maxRecDepth 100000 in
theorem wX10_crossings_l30 {p : Program} {l : Launch} {e : Env} {s : State} {m : MethodId} {args : Array Value} {below : List Frame} {meth : Method} {c : Code} {Q : State → Prop} {A : Nat → Prop} {D : DD} {base B : Nat} (hF : KF D base cX10_crossings RX10 A 6 2 12 p l e ({ frames := 7, cells := 2, slots := 12, locals := 111 } : Room) s m args below meth c) (hA : ∀ q, RA B shpC q → A q) (hbs : base ≤ B) {σ : St} {a1 : Int32} {a2 : Int32} {ea3 : Int32} {x : (Int32 × Int32)} {z : ((Int32 × Int32) ⊕ (Int32 × Int32))} (h : fX10_crossings_l30 σ a1 a2 ea3 x = some z) (hc : ∀ x, z = .inl x → KJ (Rep D B shpC) A 6 2 12 Q p l e ({ frames := 7, cells := 2, slots := 12, locals := 111 } : Room) s m args below meth c 0 0 30 [some (.ref (B + 0)), some (.int a1), some (.int a2), some (.int ea3), some (.int x.1), some (.int x.2)] [] σ) (he : ∀ w, z = .inr w → KJ (Rep D B shpC) A 6 2 12 Q p l e ({ frames := 7, cells := 2, slots := 12, locals := 111 } : Room) s m args below meth c 0 0 92 [some (.ref (B + 0)), some (.int a1), some (.int a2), some (.int ea3), some (.int w.1), some (.int w.2)] [] σ) : KJ (Rep D B shpC) A 6 2 12 Q p l e ({ frames := 7, cells := 2, slots := 12, locals := 111 } : Room) s m args below meth c 0 0 30 [some (.ref (B + 0)), some (.int a1), some (.int a2), some (.int ea3), some (.int x.1), some (.int x.2)] [] σ := by
  unfold fX10_crossings_l30 at h
  refine k_iload hF dX10_crossings_30 rfl ?_
  refine k_aload_n hF dX10_crossings_32 rfl ?_
  refine k_get hF (v := .ref (B + 10)) shC_0 fl_X10_26_X10 dX10_crossings_33 rfl ?_
  refine k_get hF (v := .int (gi σ 10 2)) shC_10 fl_X10_130_X0 dX10_crossings_36 rfl ?_
  refine k_icmp_ge hF (tgt := 92) dX10_crossings_39 (by decide) (fun c9 => ?_) (fun c9 => ?_)
  · replace h := ite_t c9 h
    exact he _ (Option.some.inj h).symm
  · replace h := ite_f c9 h
    refine k_aload_n hF dX10_crossings_42 rfl ?_
    refine k_get hF (v := .ref (B + 10)) shC_0 fl_X10_26_X10 dX10_crossings_43 rfl ?_
    refine k_iload hF dX10_crossings_46 rfl ?_
    obtain ⟨v10, hv10, h⟩ := bind_some h
    refine k_callU hF hA (as := [.int x.2]) (ct_X7_isThereE hbs hv10) mu_X10_163 shC_10 rfl rfl rfl ⟨Nat.le_of_ble_eq_true rfl, Nat.le_of_ble_eq_true rfl⟩ (Nat.le_of_ble_eq_true rfl) dX10_crossings_48 ?_
    refine k_st (st2 := [.int v10]) rfl ?_
    refine k_if_eq hF (tgt := 86) dX10_crossings_51 (by decide) (fun c11 => ?_) (fun c11 => ?_)
    · replace h := ite_t c11 h
      exact wX10_crossings_j86 hF hA hbs h hc he
    · replace h := ite_f c11 h
      refine k_iload_n hF dX10_crossings_54 rfl ?_
      refine k_aload_n hF dX10_crossings_55 rfl ?_
      refine k_get hF (v := .ref (B + 10)) shC_0 fl_X10_26_X10 dX10_crossings_56 rfl ?_
      refine k_get hF (v := .ref (B + 13)) shC_10 fl_X10_167_X0 dX10_crossings_59 rfl ?_
      refine k_iload hF dX10_crossings_62 rfl ?_
      obtain ⟨g12, h⟩ := gd_some h
      refine k_iald hF shC_13 dX10_crossings_64 g12 ?_
      obtain ⟨v13, hv13, h⟩ := bind_some h
      refine k_callS hF hA (as := [.int ea3, .int (gi σ 13 x.2.toNatClampNeg)]) (ct_X10_has hbs hv13) ms_X10_268 rfl rfl ⟨Nat.le_of_ble_eq_true rfl, Nat.le_of_ble_eq_true rfl⟩ (Nat.le_of_ble_eq_true rfl) dX10_crossings_65 ?_
      refine k_st (st2 := [.int v13]) rfl ?_
      refine k_if_eq hF (tgt := 86) dX10_crossings_68 (by decide) (fun c14 => ?_) (fun c14 => ?_)
      · replace h := ite_t c14 h
        exact wX10_crossings_j86 hF hA hbs h hc he
      · replace h := ite_f c14 h
        refine k_aload_n hF dX10_crossings_71 rfl ?_
        refine k_get hF (v := .ref (B + 20)) shC_0 fl_X10_44_X10 dX10_crossings_72 rfl ?_
        refine k_iload hF dX10_crossings_75 rfl ?_
        obtain ⟨v15, hv15, h⟩ := bind_some h
        refine k_callV hF hA (as := [.int x.2]) (ct_X3_isCut hbs hv15) mv_X10_209 shC_20 rfl rfl rfl ⟨Nat.le_of_ble_eq_true rfl, Nat.le_of_ble_eq_true rfl⟩ (Nat.le_of_ble_eq_true rfl) dX10_crossings_77 ?_
        refine k_st (st2 := [.int v15]) rfl ?_
        refine k_if_eq hF (tgt := 86) dX10_crossings_80 (by decide) (fun c16 => ?_) (fun c16 => ?_)
        · replace h := ite_t c16 h
          exact wX10_crossings_j86 hF hA hbs h hc he
        · replace h := ite_f c16 h
          refine k_iinc hF (v := (x.1 + (1 : Int32))) (L' := [some (.ref (B + 0)), some (.int a1), some (.int a2), some (.int ea3), some (.int (x.1 + (1 : Int32))), some (.int x.2)]) dX10_crossings_83 rfl (by first | rfl | (congr 1)) (by decide) rfl ?_
          exact wX10_crossings_j86 hF hA hbs h hc he
set_option maxHeartbeats 4000000 in
set_option maxRecDepth 100000 in
theorem wX10_crossings {p : Program} {l : Launch} {e : Env} {s : State} {m : MethodId} {args : Array Value} {below : List Frame} {meth : Method} {c : Code} {A : Nat → Prop} {D : DD} {base B : Nat} (hF : KF D base cX10_crossings RX10 A 6 2 12 p l e ({ frames := 7, cells := 2, slots := 12, locals := 111 } : Room) s m args below meth c) (hA : ∀ q, RA B shpC q → A q) (hbs : base ≤ B) {σ : St} {a1 : Int32} {a2 : Int32} {z : (Int32 ⊕ Nat)} (h : fX10_crossings σ a1 a2 = some z) (hr : meth.sig.returnType = (some .int)) (hT : ∀ x ∈ c.exceptionTable.toList, False) (hl : l.stackTraces = false) : KJ (Rep D B shpC) A 6 2 12 (vx_MQ below (QX D B shpC A (Sum.elim (fun v => .inl (some (.int v))) (fun n => .inr n) z) σ) (XX D B shpC A (Sum.elim (fun v => .inl (some (.int v))) (fun n => .inr n) z) σ) args s 2 12 A) p l e ({ frames := 7, cells := 2, slots := 12, locals := 111 } : Room) s m args below meth c 2 12 0 [some (.ref (B + 0)), some (.int a1), some (.int a2), none, none, none] [] σ := by
  unfold fX10_crossings at h
  refine k_aload_n hF dX10_crossings_0 rfl ?_
  refine k_iload_n hF dX10_crossings_1 rfl ?_
  obtain ⟨v1, hv1, h⟩ := bind_some h
  rcases v1 with v2 | n3
  · dsimp only [Sum.elim_inl] at h
    refine k_xV_r hF hA 1 6 (as := [.int a1]) (ct_X10_requireNode hl hbs hv1) mv_X10_127 shC_0 rfl rfl rfl ⟨Nat.le_of_ble_eq_true rfl, Nat.le_of_ble_eq_true rfl⟩ (Nat.le_of_ble_eq_true rfl) dX10_crossings_2 (by decide) (by decide) ?_
    refine k_st (st2 := []) rfl ?_
    refine k_iload_n hF dX10_crossings_5 rfl ?_
    obtain ⟨v4, hv4, h⟩ := bind_some h
    rcases v4 with v5 | n6
    · dsimp only [Sum.elim_inl] at h
      refine k_xS_r hF hA 0 0 (as := [.int a2]) (ct_X10_requireSteps hl hbs hv4) ms_X10_367 rfl rfl ⟨Nat.le_of_ble_eq_true rfl, Nat.le_of_ble_eq_true rfl⟩ (Nat.le_of_ble_eq_true rfl) dX10_crossings_6 (by decide) (by decide) ?_
      refine k_st (st2 := []) rfl ?_
      refine k_iload_n hF dX10_crossings_9 rfl ?_
      refine k_if_ne hF (tgt := 15) dX10_crossings_10 (by decide) (fun c7 => ?_) (fun c7 => ?_)
      · replace h := ite_f c7 h
        refine k_aload_n hF dX10_crossings_15 rfl ?_
        refine k_iload_n hF dX10_crossings_16 rfl ?_
        refine k_iload_n hF dX10_crossings_17 rfl ?_
        refine k_iconst hF dX10_crossings_18 ci_1 ?_
        refine k_isub hF dX10_crossings_19 ?_
        obtain ⟨v8, hv8, h⟩ := bind_some h
        refine k_callV hF hA (as := [.int a1, .int (a2 - (1 : Int32))]) (ct_X10_walkedFrom hbs hv8) mv_X10_370 shC_0 rfl rfl rfl ⟨Nat.le_of_ble_eq_true rfl, Nat.le_of_ble_eq_true rfl⟩ (Nat.le_of_ble_eq_true rfl) dX10_crossings_20 ?_
        refine k_st (st2 := [.int v8]) rfl ?_
        refine k_istore_n hF (L' := [some (.ref (B + 0)), some (.int a1), some (.int a2), some (.int v8), none, none]) dX10_crossings_23 (by decide) rfl ?_
        refine k_iconst hF dX10_crossings_24 ci_0 ?_
        refine k_istore hF (L' := [some (.ref (B + 0)), some (.int a1), some (.int a2), some (.int v8), some (.int (0 : Int32)), none]) dX10_crossings_25 (by decide) rfl ?_
        refine k_iconst hF dX10_crossings_27 ci_0 ?_
        refine k_istore hF (L' := [some (.ref (B + 0)), some (.int a1), some (.int a2), some (.int v8), some (.int (0 : Int32)), some (.int (0 : Int32))]) dX10_crossings_28 (by decide) rfl ?_
        obtain ⟨x17, hx17, h⟩ := bind_some h
        refine k_loop (P := fun xq => KJ (Rep D B shpC) A 6 2 12 (vx_MQ below (QX D B shpC A (Sum.elim (fun v => .inl (some (.int v))) (fun n => .inr n) z) σ) (XX D B shpC A (Sum.elim (fun v => .inl (some (.int v))) (fun n => .inr n) z) σ) args s 2 12 A) p l e ({ frames := 7, cells := 2, slots := 12, locals := 111 } : Room) s m args below meth c 0 0 30 [some (.ref (B + 0)), some (.int a1), some (.int a2), some (.int v8), some (.int xq.1), some (.int xq.2)] [] σ) (C := fun xq => KJ (Rep D B shpC) A 6 2 12 (vx_MQ below (QX D B shpC A (Sum.elim (fun v => .inl (some (.int v))) (fun n => .inr n) z) σ) (XX D B shpC A (Sum.elim (fun v => .inl (some (.int v))) (fun n => .inr n) z) σ) args s 2 12 A) p l e ({ frames := 7, cells := 2, slots := 12, locals := 111 } : Room) s m args below meth c 0 0 92 [some (.ref (B + 0)), some (.int a1), some (.int a2), some (.int v8), some (.int xq.1), some (.int xq.2)] [] σ) (fun x z hz hc he => wX10_crossings_l30 hF hA hbs hz hc he) hx17 ?_
        show KJ (Rep D B shpC) A 6 2 12 (vx_MQ below (QX D B shpC A (Sum.elim (fun v => .inl (some (.int v))) (fun n => .inr n) z) σ) (XX D B shpC A (Sum.elim (fun v => .inl (some (.int v))) (fun n => .inr n) z) σ) args s 2 12 A) p l e ({ frames := 7, cells := 2, slots := 12, locals := 111 } : Room) s m args below meth c 0 0 92 [some (.ref (B + 0)), some (.int a1), some (.int a2), some (.int v8), some (.int x17.1), some (.int x17.2)] [] σ
        refine k_iload hF dX10_crossings_92 rfl ?_
        cases h
        exact k_xiret hF hr rfl dX10_crossings_94
      · replace h := ite_t c7 h
        refine k_iconst hF dX10_crossings_13 ci_0 ?_
        cases h
        exact k_xiret hF hr rfl dX10_crossings_14
    · replace h : some (.inr n6) = some z := h
      cases h
      exact k_xS_x hF hA hT (as := [.int a2]) (ct_X10_requireSteps hl hbs hv4) ms_X10_367 rfl rfl ⟨Nat.le_of_ble_eq_true rfl, Nat.le_of_ble_eq_true rfl⟩ (Nat.le_of_ble_eq_true rfl) dX10_crossings_6 (by decide) (by decide)
  · replace h : some (.inr n3) = some z := h
    cases h
    exact k_xV_x hF hA hT (as := [.int a1]) (ct_X10_requireNode hl hbs hv1) mv_X10_127 shC_0 rfl rfl rfl ⟨Nat.le_of_ble_eq_true rfl, Nat.le_of_ble_eq_true rfl⟩ (Nat.le_of_ble_eq_true rfl) dX10_crossings_2 (by decide) (by decide)
theorem ct_X10_crossings {l : Launch} (hl : l.stackTraces = false) {D : DD} {base B : Nat} (hbs : base ≤ B) {σ : St} {a1 : Int32} {a2 : Int32} {r : (Int32 ⊕ Nat)} (h : fX10_crossings σ a1 a2 = some r) : MetX l D B shpC base yX10_crossings cX10_crossings 6 (some .int) 7 111 2 12 [.ref (B + 0), .int a1, .int a2] σ (Sum.elim (fun v => .inl (some (.int v))) (fun n => .inr n) r) σ :=
  MetX.of (by decide +kernel) (fun v hv => by simp only [List.mem_cons, List.not_mem_nil, or_false] at hv; rcases hv with rfl | rfl | rfl <;> rfl) (Nat.le_of_ble_eq_true rfl) hbs (fun p e s m args below meth c hF hr hT => wX10_crossings hF (fun q hq => hq) hbs h hr hT hl)
set_option maxHeartbeats 4000000 in
set_option maxRecDepth 100000 in
theorem wX10_round_j11 {p : Program} {l : Launch} {e : Env} {s : State} {m : MethodId} {args : Array Value} {below : List Frame} {meth : Method} {c : Code} {A : Nat → Prop} {D : DD} {base B : Nat} (hF : KF D base cX10_round RX10 A 3 1 6 p l e ({ frames := 6, cells := 1, slots := 6, locals := 90 } : Room) s m args below meth c) (hA : ∀ q, RA B shpC q → A q) (hbs : base ≤ B) {σ : St} {a1 : Int32} {z : ((Int32 × St) ⊕ (Nat × St))} (h : fX10_round_j11 σ a1 = some z) (hr : meth.sig.returnType = (some .int)) (hT : ∀ x ∈ c.exceptionTable.toList, False) (hl : l.stackTraces = false) : KJ (Rep D B shpC) A 3 1 6 (vx_MQ below (QX D B shpC A (Sum.elim (fun v => .inl (some (.int v.1))) (fun n => .inr n.1) z) (Sum.elim (fun v => v.2) (fun n => n.2) z)) (XX D B shpC A (Sum.elim (fun v => .inl (some (.int v.1))) (fun n => .inr n.1) z) (Sum.elim (fun v => v.2) (fun n => n.2) z)) args s 1 6 A) p l e ({ frames := 6, cells := 1, slots := 6, locals := 90 } : Room) s m args below meth c 1 6 11 [some (.ref (B + 0)), some (.int a1), none] [] σ := by
  unfold fX10_round_j11 at h
  cases h
  exact k_throw hF hl hT tw_304_308 ss_373 dX10_round_11 dX10_round_14 (.inr ⟨dX10_round_15, dX10_round_18, dX10_round_21⟩) (by decide) (Nat.le_of_ble_eq_true rfl) (by decide) (by decide)
set_option maxHeartbeats 4000000 in
set_option maxRecDepth 100000 in
theorem wX10_round_l24 {p : Program} {l : Launch} {e : Env} {s : State} {m : MethodId} {args : Array Value} {below : List Frame} {meth : Method} {c : Code} {Q : State → Prop} {A : Nat → Prop} {D : DD} {base B : Nat} (hF : KF D base cX10_round RX10 A 3 1 6 p l e ({ frames := 6, cells := 1, slots := 6, locals := 90 } : Room) s m args below meth c) (hA : ∀ q, RA B shpC q → A q) (hbs : base ≤ B) {σ : St} {a1 : Int32} {x : (St × Int32)} {z : ((St × Int32) ⊕ (St × Int32))} (h : fX10_round_l24 σ a1 x = some z) (hc : ∀ x, z = .inl x → KJ (Rep D B shpC) A 3 1 6 Q p l e ({ frames := 6, cells := 1, slots := 6, locals := 90 } : Room) s m args below meth c 1 6 24 [some (.ref (B + 0)), some (.int a1), some (.int x.2)] [] x.1) (he : ∀ w, z = .inr w → KJ (Rep D B shpC) A 3 1 6 Q p l e ({ frames := 6, cells := 1, slots := 6, locals := 90 } : Room) s m args below meth c 1 6 52 [some (.ref (B + 0)), some (.int a1), some (.int w.2)] [] w.1) : KJ (Rep D B shpC) A 3 1 6 Q p l e ({ frames := 6, cells := 1, slots := 6, locals := 90 } : Room) s m args below meth c 1 6 24 [some (.ref (B + 0)), some (.int a1), some (.int x.2)] [] x.1 := by
  unfold fX10_round_l24 at h
  refine k_iload_n hF dX10_round_24 rfl ?_
  refine k_iload_n hF dX10_round_25 rfl ?_
  refine k_icmp_ge hF (tgt := 52) dX10_round_26 (by decide) (fun c3 => ?_) (fun c3 => ?_)
  · replace h := ite_t c3 h
    exact he _ (Option.some.inj h).symm
  · replace h := ite_f c3 h
    refine k_aload_n hF dX10_round_29 rfl ?_
    refine k_get hF (v := .ref (B + 53)) shC_0 fl_X10_69_X10 dX10_round_30 rfl ?_
    refine k_get hF (v := .int (gi x.1 53 3)) shC_53 fl_X10_375_X4 dX10_round_33 rfl ?_
    refine k_if_eq hF (tgt := 52) dX10_round_36 (by decide) (fun c4 => ?_) (fun c4 => ?_)
    · replace h := ite_t c4 h
      exact he _ (Option.some.inj h).symm
    · replace h := ite_f c4 h
      refine k_aload_n hF dX10_round_39 rfl ?_
      refine k_get hF (v := .ref (B + 53)) shC_0 fl_X10_69_X10 dX10_round_40 rfl ?_
      obtain ⟨v5, hv5, h⟩ := bind_some h
      refine k_callV hF hA (as := []) (ct_X4_sendAll hbs hv5) mv_X10_378 shC_53 rfl rfl rfl ⟨Nat.le_of_ble_eq_true rfl, Nat.le_of_ble_eq_true rfl⟩ (Nat.le_of_ble_eq_true rfl) dX10_round_43 ?_
      refine k_st (st2 := []) rfl ?_
      refine k_iinc hF (v := (x.2 + (1 : Int32))) (L' := [some (.ref (B + 0)), some (.int a1), some (.int (x.2 + (1 : Int32)))]) dX10_round_46 rfl (by first | rfl | (congr 1)) (by decide) rfl ?_
      refine k_goto hF dX10_round_49 (tgt := 24) (by decide) ?_
      exact hc _ (Option.some.inj h).symm
set_option maxHeartbeats 4000000 in
set_option maxRecDepth 100000 in
theorem wX10_round {p : Program} {l : Launch} {e : Env} {s : State} {m : MethodId} {args : Array Value} {below : List Frame} {meth : Method} {c : Code} {A : Nat → Prop} {D : DD} {base B : Nat} (hF : KF D base cX10_round RX10 A 3 1 6 p l e ({ frames := 6, cells := 1, slots := 6, locals := 90 } : Room) s m args below meth c) (hA : ∀ q, RA B shpC q → A q) (hbs : base ≤ B) {σ : St} {a1 : Int32} {z : ((Int32 × St) ⊕ (Nat × St))} (h : fX10_round σ a1 = some z) (hr : meth.sig.returnType = (some .int)) (hT : ∀ x ∈ c.exceptionTable.toList, False) (hl : l.stackTraces = false) : KJ (Rep D B shpC) A 3 1 6 (vx_MQ below (QX D B shpC A (Sum.elim (fun v => .inl (some (.int v.1))) (fun n => .inr n.1) z) (Sum.elim (fun v => v.2) (fun n => n.2) z)) (XX D B shpC A (Sum.elim (fun v => .inl (some (.int v.1))) (fun n => .inr n.1) z) (Sum.elim (fun v => v.2) (fun n => n.2) z)) args s 1 6 A) p l e ({ frames := 6, cells := 1, slots := 6, locals := 90 } : Room) s m args below meth c 1 6 0 [some (.ref (B + 0)), some (.int a1), none] [] σ := by
  unfold fX10_round at h
  refine k_iload_n hF dX10_round_0 rfl ?_
  refine k_iconst hF dX10_round_1 ci_1 ?_
  refine k_icmp_lt hF (tgt := 11) dX10_round_2 (by decide) (fun c1 => ?_) (fun c1 => ?_)
  · replace h := ite_t c1 h
    exact wX10_round_j11 hF hA hbs h hr hT hl
  · replace h := ite_f c1 h
    refine k_iload_n hF dX10_round_5 rfl ?_
    refine k_bipush hF (v := (30 : Int32)) dX10_round_6 (by decide) ?_
    refine k_icmp_le hF (tgt := 22) dX10_round_8 (by decide) (fun c2 => ?_) (fun c2 => ?_)
    · replace h := ite_t c2 h
      refine k_iconst hF dX10_round_22 ci_0 ?_
      refine k_istore_n hF (L' := [some (.ref (B + 0)), some (.int a1), some (.int (0 : Int32))]) dX10_round_23 (by decide) rfl ?_
      obtain ⟨x6, hx6, h⟩ := bind_some h
      refine k_loop (P := fun xq => KJ (Rep D B shpC) A 3 1 6 (vx_MQ below (QX D B shpC A (Sum.elim (fun v => .inl (some (.int v.1))) (fun n => .inr n.1) z) (Sum.elim (fun v => v.2) (fun n => n.2) z)) (XX D B shpC A (Sum.elim (fun v => .inl (some (.int v.1))) (fun n => .inr n.1) z) (Sum.elim (fun v => v.2) (fun n => n.2) z)) args s 1 6 A) p l e ({ frames := 6, cells := 1, slots := 6, locals := 90 } : Room) s m args below meth c 1 6 24 [some (.ref (B + 0)), some (.int a1), some (.int xq.2)] [] xq.1) (C := fun xq => KJ (Rep D B shpC) A 3 1 6 (vx_MQ below (QX D B shpC A (Sum.elim (fun v => .inl (some (.int v.1))) (fun n => .inr n.1) z) (Sum.elim (fun v => v.2) (fun n => n.2) z)) (XX D B shpC A (Sum.elim (fun v => .inl (some (.int v.1))) (fun n => .inr n.1) z) (Sum.elim (fun v => v.2) (fun n => n.2) z)) args s 1 6 A) p l e ({ frames := 6, cells := 1, slots := 6, locals := 90 } : Room) s m args below meth c 1 6 52 [some (.ref (B + 0)), some (.int a1), some (.int xq.2)] [] xq.1) (fun x z hz hc he => wX10_round_l24 hF hA hbs hz hc he) hx6 ?_
      show KJ (Rep D B shpC) A 3 1 6 (vx_MQ below (QX D B shpC A (Sum.elim (fun v => .inl (some (.int v.1))) (fun n => .inr n.1) z) (Sum.elim (fun v => v.2) (fun n => n.2) z)) (XX D B shpC A (Sum.elim (fun v => .inl (some (.int v.1))) (fun n => .inr n.1) z) (Sum.elim (fun v => v.2) (fun n => n.2) z)) args s 1 6 A) p l e ({ frames := 6, cells := 1, slots := 6, locals := 90 } : Room) s m args below meth c 1 6 52 [some (.ref (B + 0)), some (.int a1), some (.int x6.2)] [] x6.1
      refine k_aload_n hF dX10_round_52 rfl ?_
      refine k_get hF (v := .ref (B + 53)) shC_0 fl_X10_69_X10 dX10_round_53 rfl ?_
      refine k_get hF (v := .int (gi x6.1 53 3)) shC_53 fl_X10_375_X4 dX10_round_56 rfl ?_
      obtain ⟨v7, hv7, h⟩ := bind_some h
      refine k_callS hF hA (as := [.int (gi x6.1 53 3)]) (ct_J6_bitCount hbs hv7) ms_X10_216 rfl rfl ⟨Nat.le_of_ble_eq_true rfl, Nat.le_of_ble_eq_true rfl⟩ (Nat.le_of_ble_eq_true rfl) dX10_round_59 ?_
      refine k_st (st2 := [.int v7]) rfl ?_
      cases h
      exact k_xiret hF hr rfl dX10_round_62
    · replace h := ite_f c2 h
      exact wX10_round_j11 hF hA hbs h hr hT hl
theorem ct_X10_round {l : Launch} (hl : l.stackTraces = false) {D : DD} {base B : Nat} (hbs : base ≤ B) {σ : St} {a1 : Int32} {r : ((Int32 × St) ⊕ (Nat × St))} (h : fX10_round σ a1 = some r) : MetX l D B shpC base yX10_round cX10_round 3 (some .int) 6 90 1 6 [.ref (B + 0), .int a1] σ (Sum.elim (fun v => .inl (some (.int v.1))) (fun n => .inr n.1) r) (Sum.elim (fun v => v.2) (fun n => n.2) r) :=
  MetX.of (by decide +kernel) (fun v hv => by simp only [List.mem_cons, List.not_mem_nil, or_false] at hv; rcases hv with rfl | rfl <;> rfl) (Nat.le_of_ble_eq_true rfl) hbs (fun p e s m args below meth c hF hr hT => wX10_round hF (fun q hq => hq) hbs h hr hT hl)
set_option maxHeartbeats 4000000 in
set_option maxRecDepth 100000 in
theorem wX10_mark {p : Program} {l : Launch} {e : Env} {s : State} {m : MethodId} {args : Array Value} {below : List Frame} {meth : Method} {c : Code} {A : Nat → Prop} {D : DD} {base B : Nat} (hF : KF D base cX10_mark RX10 A 2 1 6 p l e ({ frames := 7, cells := 1, slots := 6, locals := 111 } : Room) s m args below meth c) (hA : ∀ q, RA B shpC q → A q) (hbs : base ≤ B) {σ : St} {a1 : Int32} {z : (Int32 ⊕ Nat)} (h : fX10_mark σ a1 = some z) (hr : meth.sig.returnType = (some .int)) (hT : ∀ x ∈ c.exceptionTable.toList, False) (hl : l.stackTraces = false) : KJ (Rep D B shpC) A 2 1 6 (vx_MQ below (QX D B shpC A (Sum.elim (fun v => .inl (some (.int v))) (fun n => .inr n) z) σ) (XX D B shpC A (Sum.elim (fun v => .inl (some (.int v))) (fun n => .inr n) z) σ) args s 1 6 A) p l e ({ frames := 7, cells := 1, slots := 6, locals := 111 } : Room) s m args below meth c 1 6 0 [some (.ref (B + 0)), some (.int a1)] [] σ := by
  unfold fX10_mark at h
  refine k_aload_n hF dX10_mark_0 rfl ?_
  refine k_iload_n hF dX10_mark_1 rfl ?_
  obtain ⟨v1, hv1, h⟩ := bind_some h
  rcases v1 with v2 | n3
  · dsimp only [Sum.elim_inl] at h
    refine k_xV_r hF hA 0 0 (as := [.int a1]) (ct_X10_requireNode hl hbs hv1) mv_X10_127 shC_0 rfl rfl rfl ⟨Nat.le_of_ble_eq_true rfl, Nat.le_of_ble_eq_true rfl⟩ (Nat.le_of_ble_eq_true rfl) dX10_mark_2 (by decide) (by decide) ?_
    refine k_st (st2 := []) rfl ?_
    refine k_aload_n hF dX10_mark_5 rfl ?_
    refine k_get hF (v := .ref (B + 53)) shC_0 fl_X10_69_X10 dX10_mark_6 rfl ?_
    refine k_get hF (v := .ref (B + 54)) shC_53 fl_X10_381_X4 dX10_mark_9 rfl ?_
    refine k_iload_n hF dX10_mark_12 rfl ?_
    obtain ⟨g4, h⟩ := gd_some h
    refine k_iald hF shC_54 dX10_mark_13 g4 ?_
    cases h
    exact k_xiret hF hr rfl dX10_mark_14
  · replace h : some (.inr n3) = some z := h
    cases h
    exact k_xV_x hF hA hT (as := [.int a1]) (ct_X10_requireNode hl hbs hv1) mv_X10_127 shC_0 rfl rfl rfl ⟨Nat.le_of_ble_eq_true rfl, Nat.le_of_ble_eq_true rfl⟩ (Nat.le_of_ble_eq_true rfl) dX10_mark_2 (by decide) (by decide)
theorem ct_X10_mark {l : Launch} (hl : l.stackTraces = false) {D : DD} {base B : Nat} (hbs : base ≤ B) {σ : St} {a1 : Int32} {r : (Int32 ⊕ Nat)} (h : fX10_mark σ a1 = some r) : MetX l D B shpC base yX10_mark cX10_mark 2 (some .int) 7 111 1 6 [.ref (B + 0), .int a1] σ (Sum.elim (fun v => .inl (some (.int v))) (fun n => .inr n) r) σ :=
  MetX.of (by decide +kernel) (fun v hv => by simp only [List.mem_cons, List.not_mem_nil, or_false] at hv; rcases hv with rfl | rfl <;> rfl) (Nat.le_of_ble_eq_true rfl) hbs (fun p e s m args below meth c hF hr hT => wX10_mark hF (fun q hq => hq) hbs h hr hT hl)
set_option maxHeartbeats 4000000 in
set_option maxRecDepth 100000 in
theorem wX10_least_l12 {p : Program} {l : Launch} {e : Env} {s : State} {m : MethodId} {args : Array Value} {below : List Frame} {meth : Method} {c : Code} {Q : State → Prop} {A : Nat → Prop} {D : DD} {base B : Nat} (hF : KF D base cX10_least RX10 A 4 1 6 p l e ({ frames := 7, cells := 1, slots := 6, locals := 111 } : Room) s m args below meth c) (hA : ∀ q, RA B shpC q → A q) (hbs : base ≤ B) {σ : St} {a1 : Int32} {x : (Int32 × Int32)} {z : ((Int32 × Int32) ⊕ (Int32 × Int32))} (h : fX10_least_l12 σ a1 x = some z) (hc : ∀ x, z = .inl x → KJ (Rep D B shpC) A 4 1 6 Q p l e ({ frames := 7, cells := 1, slots := 6, locals := 111 } : Room) s m args below meth c 0 0 12 [some (.ref (B + 0)), some (.int a1), some (.int x.1), some (.int x.2)] [] σ) (he : ∀ w, z = .inr w → KJ (Rep D B shpC) A 4 1 6 Q p l e ({ frames := 7, cells := 1, slots := 6, locals := 111 } : Room) s m args below meth c 0 0 35 [some (.ref (B + 0)), some (.int a1), some (.int w.1), some (.int w.2)] [] σ) : KJ (Rep D B shpC) A 4 1 6 Q p l e ({ frames := 7, cells := 1, slots := 6, locals := 111 } : Room) s m args below meth c 0 0 12 [some (.ref (B + 0)), some (.int a1), some (.int x.1), some (.int x.2)] [] σ := by
  unfold fX10_least_l12 at h
  refine k_iload_n hF dX10_least_12 rfl ?_
  refine k_bipush hF (v := (24 : Int32)) dX10_least_13 (by decide) ?_
  refine k_icmp_ge hF (tgt := 35) dX10_least_15 (by decide) (fun c5 => ?_) (fun c5 => ?_)
  · replace h := ite_t c5 h
    exact he _ (Option.some.inj h).symm
  · replace h := ite_f c5 h
    refine k_iload_n hF dX10_least_18 rfl ?_
    refine k_aload_n hF dX10_least_19 rfl ?_
    refine k_get hF (v := .ref (B + 10)) shC_0 fl_X10_26_X10 dX10_least_20 rfl ?_
    refine k_iload_n hF dX10_least_23 rfl ?_
    obtain ⟨v6, hv6, h⟩ := bind_some h
    refine k_callV hF hA (as := [.int x.1]) (ct_X0_neighbours hbs hv6) mv_X10_387 shC_10 rfl rfl rfl ⟨Nat.le_of_ble_eq_true rfl, Nat.le_of_ble_eq_true rfl⟩ (Nat.le_of_ble_eq_true rfl) dX10_least_24 ?_
    refine k_st (st2 := [.int v6, .int x.1]) rfl ?_
    refine k_ior hF dX10_least_27 ?_
    refine k_istore_n hF (L' := [some (.ref (B + 0)), some (.int a1), some (.int (x.1 ||| v6)), some (.int x.2)]) dX10_least_28 (by decide) rfl ?_
    refine k_iinc hF (v := (x.2 + (1 : Int32))) (L' := [some (.ref (B + 0)), some (.int a1), some (.int (x.1 ||| v6)), some (.int (x.2 + (1 : Int32)))]) dX10_least_29 rfl (by first | rfl | (congr 1)) (by decide) rfl ?_
    refine k_goto hF dX10_least_32 (tgt := 12) (by decide) ?_
    exact hc _ (Option.some.inj h).symm
set_option maxHeartbeats 4000000 in
set_option maxRecDepth 100000 in
theorem wX10_least {p : Program} {l : Launch} {e : Env} {s : State} {m : MethodId} {args : Array Value} {below : List Frame} {meth : Method} {c : Code} {A : Nat → Prop} {D : DD} {base B : Nat} (hF : KF D base cX10_least RX10 A 4 1 6 p l e ({ frames := 7, cells := 1, slots := 6, locals := 111 } : Room) s m args below meth c) (hA : ∀ q, RA B shpC q → A q) (hbs : base ≤ B) {σ : St} {a1 : Int32} {z : (Int32 ⊕ Nat)} (h : fX10_least σ a1 = some z) (hr : meth.sig.returnType = (some .int)) (hT : ∀ x ∈ c.exceptionTable.toList, False) (hl : l.stackTraces = false) : KJ (Rep D B shpC) A 4 1 6 (vx_MQ below (QX D B shpC A (Sum.elim (fun v => .inl (some (.int v))) (fun n => .inr n) z) σ) (XX D B shpC A (Sum.elim (fun v => .inl (some (.int v))) (fun n => .inr n) z) σ) args s 1 6 A) p l e ({ frames := 7, cells := 1, slots := 6, locals := 111 } : Room) s m args below meth c 1 6 0 [some (.ref (B + 0)), some (.int a1), none, none] [] σ := by
  unfold fX10_least at h
  refine k_aload_n hF dX10_least_0 rfl ?_
  refine k_iload_n hF dX10_least_1 rfl ?_
  obtain ⟨v1, hv1, h⟩ := bind_some h
  rcases v1 with v2 | n3
  · dsimp only [Sum.elim_inl] at h
    refine k_xV_r hF hA 0 0 (as := [.int a1]) (ct_X10_requireNode hl hbs hv1) mv_X10_127 shC_0 rfl rfl rfl ⟨Nat.le_of_ble_eq_true rfl, Nat.le_of_ble_eq_true rfl⟩ (Nat.le_of_ble_eq_true rfl) dX10_least_2 (by decide) (by decide) ?_
    refine k_st (st2 := []) rfl ?_
    refine k_iload_n hF dX10_least_5 rfl ?_
    obtain ⟨v4, hv4, h⟩ := bind_some h
    refine k_callS hF hA (as := [.int a1]) (ct_X10_bit hbs hv4) ms_X10_384 rfl rfl ⟨Nat.le_of_ble_eq_true rfl, Nat.le_of_ble_eq_true rfl⟩ (Nat.le_of_ble_eq_true rfl) dX10_least_6 ?_
    refine k_st (st2 := [.int v4]) rfl ?_
    refine k_istore_n hF (L' := [some (.ref (B + 0)), some (.int a1), some (.int v4), none]) dX10_least_9 (by decide) rfl ?_
    refine k_iconst hF dX10_least_10 ci_0 ?_
    refine k_istore_n hF (L' := [some (.ref (B + 0)), some (.int a1), some (.int v4), some (.int (0 : Int32))]) dX10_least_11 (by decide) rfl ?_
    obtain ⟨x7, hx7, h⟩ := bind_some h
    refine k_loop (P := fun xq => KJ (Rep D B shpC) A 4 1 6 (vx_MQ below (QX D B shpC A (Sum.elim (fun v => .inl (some (.int v))) (fun n => .inr n) z) σ) (XX D B shpC A (Sum.elim (fun v => .inl (some (.int v))) (fun n => .inr n) z) σ) args s 1 6 A) p l e ({ frames := 7, cells := 1, slots := 6, locals := 111 } : Room) s m args below meth c 0 0 12 [some (.ref (B + 0)), some (.int a1), some (.int xq.1), some (.int xq.2)] [] σ) (C := fun xq => KJ (Rep D B shpC) A 4 1 6 (vx_MQ below (QX D B shpC A (Sum.elim (fun v => .inl (some (.int v))) (fun n => .inr n) z) σ) (XX D B shpC A (Sum.elim (fun v => .inl (some (.int v))) (fun n => .inr n) z) σ) args s 1 6 A) p l e ({ frames := 7, cells := 1, slots := 6, locals := 111 } : Room) s m args below meth c 0 0 35 [some (.ref (B + 0)), some (.int a1), some (.int xq.1), some (.int xq.2)] [] σ) (fun x z hz hc he => wX10_least_l12 hF hA hbs hz hc he) hx7 ?_
    show KJ (Rep D B shpC) A 4 1 6 (vx_MQ below (QX D B shpC A (Sum.elim (fun v => .inl (some (.int v))) (fun n => .inr n) z) σ) (XX D B shpC A (Sum.elim (fun v => .inl (some (.int v))) (fun n => .inr n) z) σ) args s 1 6 A) p l e ({ frames := 7, cells := 1, slots := 6, locals := 111 } : Room) s m args below meth c 0 0 35 [some (.ref (B + 0)), some (.int a1), some (.int x7.1), some (.int x7.2)] [] σ
    refine k_iload_n hF dX10_least_35 rfl ?_
    obtain ⟨v8, hv8, h⟩ := bind_some h
    refine k_callS hF hA (as := [.int x7.1]) (ct_X10_lowest hbs hv8) ms_X10_390 rfl rfl ⟨Nat.le_of_ble_eq_true rfl, Nat.le_of_ble_eq_true rfl⟩ (Nat.le_of_ble_eq_true rfl) dX10_least_36 ?_
    refine k_st (st2 := [.int v8]) rfl ?_
    cases h
    exact k_xiret hF hr rfl dX10_least_39
  · replace h : some (.inr n3) = some z := h
    cases h
    exact k_xV_x hF hA hT (as := [.int a1]) (ct_X10_requireNode hl hbs hv1) mv_X10_127 shC_0 rfl rfl rfl ⟨Nat.le_of_ble_eq_true rfl, Nat.le_of_ble_eq_true rfl⟩ (Nat.le_of_ble_eq_true rfl) dX10_least_2 (by decide) (by decide)
theorem ct_X10_least {l : Launch} (hl : l.stackTraces = false) {D : DD} {base B : Nat} (hbs : base ≤ B) {σ : St} {a1 : Int32} {r : (Int32 ⊕ Nat)} (h : fX10_least σ a1 = some r) : MetX l D B shpC base yX10_least cX10_least 4 (some .int) 7 111 1 6 [.ref (B + 0), .int a1] σ (Sum.elim (fun v => .inl (some (.int v))) (fun n => .inr n) r) σ :=
  MetX.of (by decide +kernel) (fun v hv => by simp only [List.mem_cons, List.not_mem_nil, or_false] at hv; rcases hv with rfl | rfl <;> rfl) (Nat.le_of_ble_eq_true rfl) hbs (fun p e s m args below meth c hF hr hT => wX10_least hF (fun q hq => hq) hbs h hr hT hl)
