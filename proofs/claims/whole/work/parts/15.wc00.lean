set_option maxHeartbeats 4000000 in
set_option maxRecDepth 100000 in
theorem wX7_isThereN_j27 {p : Program} {l : Launch} {e : Env} {s : State} {m : MethodId} {args : Array Value} {below : List Frame} {meth : Method} {c : Code} {Q : State → Prop} {A : Nat → Prop} {D : DD} {base B : Nat} (hF : KF D base cX7_isThere RX7 A 2 0 0 p l e ({ frames := 0, cells := 0, slots := 0, locals := 0 } : Room) s m args below meth c) (hA : ∀ q, RA B shpC q → A q) (hbs : base ≤ B) {σ : St} {a1 : Int32} {z : Int32} (h : fX7_isThereN_j27 σ a1 = some z) (hr : ∀ (pc : Nat) (L : List (Option Value)), narrow .boolean (.int z) = .int z → decode cX7_isThere pc = .ok (.ireturn, 1) → KJ (Rep D B shpC) A 2 0 0 Q p l e ({ frames := 0, cells := 0, slots := 0, locals := 0 } : Room) s m args below meth c 0 0 pc L [.int z] σ) : KJ (Rep D B shpC) A 2 0 0 Q p l e ({ frames := 0, cells := 0, slots := 0, locals := 0 } : Room) s m args below meth c 0 0 27 [some (.ref (B + 1)), some (.int a1)] [] σ := by
  unfold fX7_isThereN_j27 at h
  refine k_iconst hF dX7_isThere_27 ci_0 ?_
  cases h
  exact hr _ _ nar_0 dX7_isThere_28
set_option maxHeartbeats 4000000 in
set_option maxRecDepth 100000 in
theorem wX7_isThereN {p : Program} {l : Launch} {e : Env} {s : State} {m : MethodId} {args : Array Value} {below : List Frame} {meth : Method} {c : Code} {Q : State → Prop} {A : Nat → Prop} {D : DD} {base B : Nat} (hF : KF D base cX7_isThere RX7 A 2 0 0 p l e ({ frames := 0, cells := 0, slots := 0, locals := 0 } : Room) s m args below meth c) (hA : ∀ q, RA B shpC q → A q) (hbs : base ≤ B) {σ : St} {a1 : Int32} {z : Int32} (h : fX7_isThereN σ a1 = some z) (hr : ∀ (pc : Nat) (L : List (Option Value)), narrow .boolean (.int z) = .int z → decode cX7_isThere pc = .ok (.ireturn, 1) → KJ (Rep D B shpC) A 2 0 0 Q p l e ({ frames := 0, cells := 0, slots := 0, locals := 0 } : Room) s m args below meth c 0 0 pc L [.int z] σ) : KJ (Rep D B shpC) A 2 0 0 Q p l e ({ frames := 0, cells := 0, slots := 0, locals := 0 } : Room) s m args below meth c 0 0 0 [some (.ref (B + 1)), some (.int a1)] [] σ := by
  unfold fX7_isThereN at h
  refine k_iload_n hF dX7_isThere_0 rfl ?_
  refine k_if_lt hF (tgt := 27) dX7_isThere_1 (by decide) (fun c1 => ?_) (fun c1 => ?_)
  · replace h := ite_t c1 h
    exact wX7_isThereN_j27 hF hA hbs h hr
  · replace h := ite_f c1 h
    refine k_iload_n hF dX7_isThere_4 rfl ?_
    refine k_aload_n hF dX7_isThere_5 rfl ?_
    refine k_get hF (v := .int (gi σ 1 2)) shC_1 fl_X7_18_X6 dX7_isThere_6 rfl ?_
    refine k_icmp_ge hF (tgt := 27) dX7_isThere_9 (by decide) (fun c2 => ?_) (fun c2 => ?_)
    · replace h := ite_t c2 h
      exact wX7_isThereN_j27 hF hA hbs h hr
    · replace h := ite_f c2 h
      refine k_aload_n hF dX7_isThere_12 rfl ?_
      refine k_get hF (v := .ref (B + 3)) shC_1 fl_X7_15_X6 dX7_isThere_13 rfl ?_
      refine k_iload_n hF dX7_isThere_16 rfl ?_
      obtain ⟨g3, h⟩ := gd_some h
      refine k_iald hF shC_3 dX7_isThere_17 g3 ?_
      refine k_ldc hF kc_X7_22 dX7_isThere_18 ?_
      refine k_icmp_ne hF (tgt := 27) dX7_isThere_20 (by decide) (fun c4 => ?_) (fun c4 => ?_)
      · replace h := ite_f c4 h
        exact wX7_isThereN_j27 hF hA hbs h hr
      · replace h := ite_t c4 h
        refine k_iconst hF dX7_isThere_23 ci_1 ?_
        refine k_goto hF dX7_isThere_24 (tgt := 28) (by decide) ?_
        cases h
        exact hr _ _ nar_1 dX7_isThere_28
theorem ct_X7_isThereN {l : Launch} {D : DD} {base B : Nat} (hbs : base ≤ B) {σ : St} {a1 : Int32} {r : Int32} (h : fX7_isThereN σ a1 = some r) : MetR l D B shpC base yX7_isThere cX7_isThere 2 (some .boolean) 0 0 [.ref (B + 1), .int a1] σ (some (.int r)) σ :=
  MetR.of (by decide +kernel) (fun v hv => by simp only [List.mem_cons, List.not_mem_nil, or_false] at hv; rcases hv with rfl | rfl <;> rfl) (Nat.le_of_ble_eq_true rfl) hbs (fun p e s m args below meth c hF hr => wX7_isThereN hF (fun q hq => hq) hbs h (fun pc L hn hd => k_iret hF hr hn hd))
set_option maxHeartbeats 4000000 in
set_option maxRecDepth 100000 in
theorem wX7_isThereE_j27 {p : Program} {l : Launch} {e : Env} {s : State} {m : MethodId} {args : Array Value} {below : List Frame} {meth : Method} {c : Code} {Q : State → Prop} {A : Nat → Prop} {D : DD} {base B : Nat} (hF : KF D base cX7_isThere RX7 A 2 0 0 p l e ({ frames := 0, cells := 0, slots := 0, locals := 0 } : Room) s m args below meth c) (hA : ∀ q, RA B shpC q → A q) (hbs : base ≤ B) {σ : St} {a1 : Int32} {z : Int32} (h : fX7_isThereE_j27 σ a1 = some z) (hr : ∀ (pc : Nat) (L : List (Option Value)), narrow .boolean (.int z) = .int z → decode cX7_isThere pc = .ok (.ireturn, 1) → KJ (Rep D B shpC) A 2 0 0 Q p l e ({ frames := 0, cells := 0, slots := 0, locals := 0 } : Room) s m args below meth c 0 0 pc L [.int z] σ) : KJ (Rep D B shpC) A 2 0 0 Q p l e ({ frames := 0, cells := 0, slots := 0, locals := 0 } : Room) s m args below meth c 0 0 27 [some (.ref (B + 10)), some (.int a1)] [] σ := by
  unfold fX7_isThereE_j27 at h
  refine k_iconst hF dX7_isThere_27 ci_0 ?_
  cases h
  exact hr _ _ nar_0 dX7_isThere_28
set_option maxHeartbeats 4000000 in
set_option maxRecDepth 100000 in
theorem wX7_isThereE {p : Program} {l : Launch} {e : Env} {s : State} {m : MethodId} {args : Array Value} {below : List Frame} {meth : Method} {c : Code} {Q : State → Prop} {A : Nat → Prop} {D : DD} {base B : Nat} (hF : KF D base cX7_isThere RX7 A 2 0 0 p l e ({ frames := 0, cells := 0, slots := 0, locals := 0 } : Room) s m args below meth c) (hA : ∀ q, RA B shpC q → A q) (hbs : base ≤ B) {σ : St} {a1 : Int32} {z : Int32} (h : fX7_isThereE σ a1 = some z) (hr : ∀ (pc : Nat) (L : List (Option Value)), narrow .boolean (.int z) = .int z → decode cX7_isThere pc = .ok (.ireturn, 1) → KJ (Rep D B shpC) A 2 0 0 Q p l e ({ frames := 0, cells := 0, slots := 0, locals := 0 } : Room) s m args below meth c 0 0 pc L [.int z] σ) : KJ (Rep D B shpC) A 2 0 0 Q p l e ({ frames := 0, cells := 0, slots := 0, locals := 0 } : Room) s m args below meth c 0 0 0 [some (.ref (B + 10)), some (.int a1)] [] σ := by
  unfold fX7_isThereE at h
  refine k_iload_n hF dX7_isThere_0 rfl ?_
  refine k_if_lt hF (tgt := 27) dX7_isThere_1 (by decide) (fun c1 => ?_) (fun c1 => ?_)
  · replace h := ite_t c1 h
    exact wX7_isThereE_j27 hF hA hbs h hr
  · replace h := ite_f c1 h
    refine k_iload_n hF dX7_isThere_4 rfl ?_
    refine k_aload_n hF dX7_isThere_5 rfl ?_
    refine k_get hF (v := .int (gi σ 10 2)) shC_10 fl_X7_18_X0 dX7_isThere_6 rfl ?_
    refine k_icmp_ge hF (tgt := 27) dX7_isThere_9 (by decide) (fun c2 => ?_) (fun c2 => ?_)
    · replace h := ite_t c2 h
      exact wX7_isThereE_j27 hF hA hbs h hr
    · replace h := ite_f c2 h
      refine k_aload_n hF dX7_isThere_12 rfl ?_
      refine k_get hF (v := .ref (B + 12)) shC_10 fl_X7_15_X0 dX7_isThere_13 rfl ?_
      refine k_iload_n hF dX7_isThere_16 rfl ?_
      obtain ⟨g3, h⟩ := gd_some h
      refine k_iald hF shC_12 dX7_isThere_17 g3 ?_
      refine k_ldc hF kc_X7_22 dX7_isThere_18 ?_
      refine k_icmp_ne hF (tgt := 27) dX7_isThere_20 (by decide) (fun c4 => ?_) (fun c4 => ?_)
      · replace h := ite_f c4 h
        exact wX7_isThereE_j27 hF hA hbs h hr
      · replace h := ite_t c4 h
        refine k_iconst hF dX7_isThere_23 ci_1 ?_
        refine k_goto hF dX7_isThere_24 (tgt := 28) (by decide) ?_
        cases h
        exact hr _ _ nar_1 dX7_isThere_28
theorem ct_X7_isThereE {l : Launch} {D : DD} {base B : Nat} (hbs : base ≤ B) {σ : St} {a1 : Int32} {r : Int32} (h : fX7_isThereE σ a1 = some r) : MetR l D B shpC base yX7_isThere cX7_isThere 2 (some .boolean) 0 0 [.ref (B + 10), .int a1] σ (some (.int r)) σ :=
  MetR.of (by decide +kernel) (fun v hv => by simp only [List.mem_cons, List.not_mem_nil, or_false] at hv; rcases hv with rfl | rfl <;> rfl) (Nat.le_of_ble_eq_true rfl) hbs (fun p e s m args below meth c hF hr => wX7_isThereE hF (fun q hq => hq) hbs h (fun pc L hn hd => k_iret hF hr hn hd))
set_option maxHeartbeats 4000000 in
set_option maxRecDepth 100000 in
theorem wX7_wasThereN_j36 {p : Program} {l : Launch} {e : Env} {s : State} {m : MethodId} {args : Array Value} {below : List Frame} {meth : Method} {c : Code} {Q : State → Prop} {A : Nat → Prop} {D : DD} {base B : Nat} (hF : KF D base cX7_wasThere RX7 A 3 0 0 p l e ({ frames := 0, cells := 0, slots := 0, locals := 0 } : Room) s m args below meth c) (hA : ∀ q, RA B shpC q → A q) (hbs : base ≤ B) {σ : St} {a1 : Int32} {a2 : Int32} {z : Int32} (h : fX7_wasThereN_j36 σ a1 a2 = some z) (hr : ∀ (pc : Nat) (L : List (Option Value)), narrow .boolean (.int z) = .int z → decode cX7_wasThere pc = .ok (.ireturn, 1) → KJ (Rep D B shpC) A 3 0 0 Q p l e ({ frames := 0, cells := 0, slots := 0, locals := 0 } : Room) s m args below meth c 0 0 pc L [.int z] σ) : KJ (Rep D B shpC) A 3 0 0 Q p l e ({ frames := 0, cells := 0, slots := 0, locals := 0 } : Room) s m args below meth c 0 0 36 [some (.ref (B + 1)), some (.int a1), some (.int a2)] [] σ := by
  unfold fX7_wasThereN_j36 at h
  refine k_iconst hF dX7_wasThere_36 ci_0 ?_
  cases h
  exact hr _ _ nar_0 dX7_wasThere_37
set_option maxHeartbeats 4000000 in
set_option maxRecDepth 100000 in
theorem wX7_wasThereN {p : Program} {l : Launch} {e : Env} {s : State} {m : MethodId} {args : Array Value} {below : List Frame} {meth : Method} {c : Code} {Q : State → Prop} {A : Nat → Prop} {D : DD} {base B : Nat} (hF : KF D base cX7_wasThere RX7 A 3 0 0 p l e ({ frames := 0, cells := 0, slots := 0, locals := 0 } : Room) s m args below meth c) (hA : ∀ q, RA B shpC q → A q) (hbs : base ≤ B) {σ : St} {a1 : Int32} {a2 : Int32} {z : Int32} (h : fX7_wasThereN σ a1 a2 = some z) (hr : ∀ (pc : Nat) (L : List (Option Value)), narrow .boolean (.int z) = .int z → decode cX7_wasThere pc = .ok (.ireturn, 1) → KJ (Rep D B shpC) A 3 0 0 Q p l e ({ frames := 0, cells := 0, slots := 0, locals := 0 } : Room) s m args below meth c 0 0 pc L [.int z] σ) : KJ (Rep D B shpC) A 3 0 0 Q p l e ({ frames := 0, cells := 0, slots := 0, locals := 0 } : Room) s m args below meth c 0 0 0 [some (.ref (B + 1)), some (.int a1), some (.int a2)] [] σ := by
  unfold fX7_wasThereN at h
  refine k_iload_n hF dX7_wasThere_0 rfl ?_
  refine k_if_lt hF (tgt := 36) dX7_wasThere_1 (by decide) (fun c1 => ?_) (fun c1 => ?_)
  · replace h := ite_t c1 h
    exact wX7_wasThereN_j36 hF hA hbs h hr
  · replace h := ite_f c1 h
    refine k_iload_n hF dX7_wasThere_4 rfl ?_
    refine k_aload_n hF dX7_wasThere_5 rfl ?_
    refine k_get hF (v := .int (gi σ 1 2)) shC_1 fl_X7_18_X6 dX7_wasThere_6 rfl ?_
    refine k_icmp_ge hF (tgt := 36) dX7_wasThere_9 (by decide) (fun c2 => ?_) (fun c2 => ?_)
    · replace h := ite_t c2 h
      exact wX7_wasThereN_j36 hF hA hbs h hr
    · replace h := ite_f c2 h
      refine k_aload_n hF dX7_wasThere_12 rfl ?_
      refine k_get hF (v := .ref (B + 2)) shC_1 fl_X7_9_X6 dX7_wasThere_13 rfl ?_
      refine k_iload_n hF dX7_wasThere_16 rfl ?_
      obtain ⟨g3, h⟩ := gd_some h
      refine k_iald hF shC_2 dX7_wasThere_17 g3 ?_
      refine k_iload_n hF dX7_wasThere_18 rfl ?_
      refine k_icmp_gt hF (tgt := 36) dX7_wasThere_19 (by decide) (fun c4 => ?_) (fun c4 => ?_)
      · replace h := ite_t c4 h
        exact wX7_wasThereN_j36 hF hA hbs h hr
      · replace h := ite_f c4 h
        refine k_iload_n hF dX7_wasThere_22 rfl ?_
        refine k_aload_n hF dX7_wasThere_23 rfl ?_
        refine k_get hF (v := .ref (B + 3)) shC_1 fl_X7_15_X6 dX7_wasThere_24 rfl ?_
        refine k_iload_n hF dX7_wasThere_27 rfl ?_
        obtain ⟨g5, h⟩ := gd_some h
        refine k_iald hF shC_3 dX7_wasThere_28 g5 ?_
        refine k_icmp_ge hF (tgt := 36) dX7_wasThere_29 (by decide) (fun c6 => ?_) (fun c6 => ?_)
        · replace h := ite_t c6 h
          exact wX7_wasThereN_j36 hF hA hbs h hr
        · replace h := ite_f c6 h
          refine k_iconst hF dX7_wasThere_32 ci_1 ?_
          refine k_goto hF dX7_wasThere_33 (tgt := 37) (by decide) ?_
          cases h
          exact hr _ _ nar_1 dX7_wasThere_37
theorem ct_X7_wasThereN {l : Launch} {D : DD} {base B : Nat} (hbs : base ≤ B) {σ : St} {a1 : Int32} {a2 : Int32} {r : Int32} (h : fX7_wasThereN σ a1 a2 = some r) : MetR l D B shpC base yX7_wasThere cX7_wasThere 3 (some .boolean) 0 0 [.ref (B + 1), .int a1, .int a2] σ (some (.int r)) σ :=
  MetR.of (by decide +kernel) (fun v hv => by simp only [List.mem_cons, List.not_mem_nil, or_false] at hv; rcases hv with rfl | rfl | rfl <;> rfl) (Nat.le_of_ble_eq_true rfl) hbs (fun p e s m args below meth c hF hr => wX7_wasThereN hF (fun q hq => hq) hbs h (fun pc L hn hd => k_iret hF hr hn hd))
set_option maxHeartbeats 4000000 in
set_option maxRecDepth 100000 in
theorem wX7_wasThereE_j36 {p : Program} {l : Launch} {e : Env} {s : State} {m : MethodId} {args : Array Value} {below : List Frame} {meth : Method} {c : Code} {Q : State → Prop} {A : Nat → Prop} {D : DD} {base B : Nat} (hF : KF D base cX7_wasThere RX7 A 3 0 0 p l e ({ frames := 0, cells := 0, slots := 0, locals := 0 } : Room) s m args below meth c) (hA : ∀ q, RA B shpC q → A q) (hbs : base ≤ B) {σ : St} {a1 : Int32} {a2 : Int32} {z : Int32} (h : fX7_wasThereE_j36 σ a1 a2 = some z) (hr : ∀ (pc : Nat) (L : List (Option Value)), narrow .boolean (.int z) = .int z → decode cX7_wasThere pc = .ok (.ireturn, 1) → KJ (Rep D B shpC) A 3 0 0 Q p l e ({ frames := 0, cells := 0, slots := 0, locals := 0 } : Room) s m args below meth c 0 0 pc L [.int z] σ) : KJ (Rep D B shpC) A 3 0 0 Q p l e ({ frames := 0, cells := 0, slots := 0, locals := 0 } : Room) s m args below meth c 0 0 36 [some (.ref (B + 10)), some (.int a1), some (.int a2)] [] σ := by
  unfold fX7_wasThereE_j36 at h
  refine k_iconst hF dX7_wasThere_36 ci_0 ?_
  cases h
  exact hr _ _ nar_0 dX7_wasThere_37
set_option maxHeartbeats 4000000 in
set_option maxRecDepth 100000 in
theorem wX7_wasThereE {p : Program} {l : Launch} {e : Env} {s : State} {m : MethodId} {args : Array Value} {below : List Frame} {meth : Method} {c : Code} {Q : State → Prop} {A : Nat → Prop} {D : DD} {base B : Nat} (hF : KF D base cX7_wasThere RX7 A 3 0 0 p l e ({ frames := 0, cells := 0, slots := 0, locals := 0 } : Room) s m args below meth c) (hA : ∀ q, RA B shpC q → A q) (hbs : base ≤ B) {σ : St} {a1 : Int32} {a2 : Int32} {z : Int32} (h : fX7_wasThereE σ a1 a2 = some z) (hr : ∀ (pc : Nat) (L : List (Option Value)), narrow .boolean (.int z) = .int z → decode cX7_wasThere pc = .ok (.ireturn, 1) → KJ (Rep D B shpC) A 3 0 0 Q p l e ({ frames := 0, cells := 0, slots := 0, locals := 0 } : Room) s m args below meth c 0 0 pc L [.int z] σ) : KJ (Rep D B shpC) A 3 0 0 Q p l e ({ frames := 0, cells := 0, slots := 0, locals := 0 } : Room) s m args below meth c 0 0 0 [some (.ref (B + 10)), some (.int a1), some (.int a2)] [] σ := by
  unfold fX7_wasThereE at h
  refine k_iload_n hF dX7_wasThere_0 rfl ?_
  refine k_if_lt hF (tgt := 36) dX7_wasThere_1 (by decide) (fun c1 => ?_) (fun c1 => ?_)
  · replace h := ite_t c1 h
    exact wX7_wasThereE_j36 hF hA hbs h hr
  · replace h := ite_f c1 h
    refine k_iload_n hF dX7_wasThere_4 rfl ?_
    refine k_aload_n hF dX7_wasThere_5 rfl ?_
    refine k_get hF (v := .int (gi σ 10 2)) shC_10 fl_X7_18_X0 dX7_wasThere_6 rfl ?_
    refine k_icmp_ge hF (tgt := 36) dX7_wasThere_9 (by decide) (fun c2 => ?_) (fun c2 => ?_)
    · replace h := ite_t c2 h
      exact wX7_wasThereE_j36 hF hA hbs h hr
    · replace h := ite_f c2 h
      refine k_aload_n hF dX7_wasThere_12 rfl ?_
      refine k_get hF (v := .ref (B + 11)) shC_10 fl_X7_9_X0 dX7_wasThere_13 rfl ?_
      refine k_iload_n hF dX7_wasThere_16 rfl ?_
      obtain ⟨g3, h⟩ := gd_some h
      refine k_iald hF shC_11 dX7_wasThere_17 g3 ?_
      refine k_iload_n hF dX7_wasThere_18 rfl ?_
      refine k_icmp_gt hF (tgt := 36) dX7_wasThere_19 (by decide) (fun c4 => ?_) (fun c4 => ?_)
      · replace h := ite_t c4 h
        exact wX7_wasThereE_j36 hF hA hbs h hr
      · replace h := ite_f c4 h
        refine k_iload_n hF dX7_wasThere_22 rfl ?_
        refine k_aload_n hF dX7_wasThere_23 rfl ?_
        refine k_get hF (v := .ref (B + 12)) shC_10 fl_X7_15_X0 dX7_wasThere_24 rfl ?_
        refine k_iload_n hF dX7_wasThere_27 rfl ?_
        obtain ⟨g5, h⟩ := gd_some h
        refine k_iald hF shC_12 dX7_wasThere_28 g5 ?_
        refine k_icmp_ge hF (tgt := 36) dX7_wasThere_29 (by decide) (fun c6 => ?_) (fun c6 => ?_)
        · replace h := ite_t c6 h
          exact wX7_wasThereE_j36 hF hA hbs h hr
        · replace h := ite_f c6 h
          refine k_iconst hF dX7_wasThere_32 ci_1 ?_
          refine k_goto hF dX7_wasThere_33 (tgt := 37) (by decide) ?_
          cases h
          exact hr _ _ nar_1 dX7_wasThere_37
theorem ct_X7_wasThereE {l : Launch} {D : DD} {base B : Nat} (hbs : base ≤ B) {σ : St} {a1 : Int32} {a2 : Int32} {r : Int32} (h : fX7_wasThereE σ a1 a2 = some r) : MetR l D B shpC base yX7_wasThere cX7_wasThere 3 (some .boolean) 0 0 [.ref (B + 10), .int a1, .int a2] σ (some (.int r)) σ :=
  MetR.of (by decide +kernel) (fun v hv => by simp only [List.mem_cons, List.not_mem_nil, or_false] at hv; rcases hv with rfl | rfl | rfl <;> rfl) (Nat.le_of_ble_eq_true rfl) hbs (fun p e s m args below meth c hF hr => wX7_wasThereE hF (fun q hq => hq) hbs h (fun pc L hn hd => k_iret hF hr hn hd))
set_option maxHeartbeats 4000000 in
set_option maxRecDepth 100000 in
theorem wX7_comeN {p : Program} {l : Launch} {e : Env} {s : State} {m : MethodId} {args : Array Value} {below : List Frame} {meth : Method} {c : Code} {Q : State → Prop} {A : Nat → Prop} {D : DD} {base B : Nat} (hF : KF D base cX7_come RX7 A 3 0 0 p l e ({ frames := 0, cells := 0, slots := 0, locals := 0 } : Room) s m args below meth c) (hA : ∀ q, RA B shpC q → A q) (hbs : base ≤ B) {σ : St} {a1 : Int32} {z : (Int32 × St)} (h : fX7_comeN σ a1 = some z) (hr : ∀ (pc : Nat) (L : List (Option Value)), narrow .int (.int z.1) = .int z.1 → decode cX7_come pc = .ok (.ireturn, 1) → KJ (Rep D B shpC) A 3 0 0 Q p l e ({ frames := 0, cells := 0, slots := 0, locals := 0 } : Room) s m args below meth c 0 0 pc L [.int z.1] z.2) : KJ (Rep D B shpC) A 3 0 0 Q p l e ({ frames := 0, cells := 0, slots := 0, locals := 0 } : Room) s m args below meth c 0 0 0 [some (.ref (B + 1)), some (.int a1), none] [] σ := by
  unfold fX7_comeN at h
  refine k_aload_n hF dX7_come_0 rfl ?_
  refine k_get hF (v := .int (gi σ 1 2)) shC_1 fl_X7_18_X6 dX7_come_1 rfl ?_
  refine k_istore_n hF (L' := [some (.ref (B + 1)), some (.int a1), some (.int (gi σ 1 2))]) dX7_come_4 (by decide) rfl ?_
  refine k_aload_n hF dX7_come_5 rfl ?_
  refine k_dup hF dX7_come_6 rfl ?_
  refine k_get hF (v := .int (gi σ 1 2)) shC_1 fl_X7_18_X6 dX7_come_7 rfl ?_
  refine k_iconst hF dX7_come_10 ci_1 ?_
  refine k_iadd hF dX7_come_11 ?_
  refine k_putI hF hA shC_1 fp_X7_18_X6 dX7_come_12 rfl rfl rfl ?_
  obtain ⟨σ1, hσ1, h⟩ := lt_some h
  refine k_sig hσ1 ?_
  refine k_aload_n hF dX7_come_15 rfl ?_
  refine k_get hF (v := .ref (B + 2)) shC_1 fl_X7_9_X6 dX7_come_16 rfl ?_
  refine k_iload_n hF dX7_come_19 rfl ?_
  refine k_iload_n hF dX7_come_20 rfl ?_
  obtain ⟨g2, h⟩ := gd_some h
  refine k_iast hF hA shC_2 dX7_come_21 g2 ?_
  obtain ⟨σ3, hσ3, h⟩ := lt_some h
  refine k_sig hσ3 ?_
  refine k_aload_n hF dX7_come_22 rfl ?_
  refine k_get hF (v := .ref (B + 3)) shC_1 fl_X7_15_X6 dX7_come_23 rfl ?_
  refine k_iload_n hF dX7_come_26 rfl ?_
  refine k_ldc hF kc_X7_22 dX7_come_27 ?_
  obtain ⟨g4, h⟩ := gd_some h
  refine k_iast hF hA shC_3 dX7_come_29 g4 ?_
  obtain ⟨σ5, hσ5, h⟩ := lt_some h
  refine k_sig hσ5 ?_
  refine k_iload_n hF dX7_come_30 rfl ?_
  cases h
  exact hr _ _ rfl dX7_come_31
theorem ct_X7_comeN {l : Launch} {D : DD} {base B : Nat} (hbs : base ≤ B) {σ : St} {a1 : Int32} {r : (Int32 × St)} (h : fX7_comeN σ a1 = some r) : MetR l D B shpC base yX7_come cX7_come 3 (some .int) 0 0 [.ref (B + 1), .int a1] σ (some (.int r.1)) r.2 :=
  MetR.of (by decide +kernel) (fun v hv => by simp only [List.mem_cons, List.not_mem_nil, or_false] at hv; rcases hv with rfl | rfl <;> rfl) (Nat.le_of_ble_eq_true rfl) hbs (fun p e s m args below meth c hF hr => wX7_comeN hF (fun q hq => hq) hbs h (fun pc L hn hd => k_iret hF hr hn hd))
set_option maxHeartbeats 4000000 in
set_option maxRecDepth 100000 in
theorem wX7_comeE {p : Program} {l : Launch} {e : Env} {s : State} {m : MethodId} {args : Array Value} {below : List Frame} {meth : Method} {c : Code} {Q : State → Prop} {A : Nat → Prop} {D : DD} {base B : Nat} (hF : KF D base cX7_come RX7 A 3 0 0 p l e ({ frames := 0, cells := 0, slots := 0, locals := 0 } : Room) s m args below meth c) (hA : ∀ q, RA B shpC q → A q) (hbs : base ≤ B) {σ : St} {a1 : Int32} {z : (Int32 × St)} (h : fX7_comeE σ a1 = some z) (hr : ∀ (pc : Nat) (L : List (Option Value)), narrow .int (.int z.1) = .int z.1 → decode cX7_come pc = .ok (.ireturn, 1) → KJ (Rep D B shpC) A 3 0 0 Q p l e ({ frames := 0, cells := 0, slots := 0, locals := 0 } : Room) s m args below meth c 0 0 pc L [.int z.1] z.2) : KJ (Rep D B shpC) A 3 0 0 Q p l e ({ frames := 0, cells := 0, slots := 0, locals := 0 } : Room) s m args below meth c 0 0 0 [some (.ref (B + 10)), some (.int a1), none] [] σ := by
  unfold fX7_comeE at h
  refine k_aload_n hF dX7_come_0 rfl ?_
  refine k_get hF (v := .int (gi σ 10 2)) shC_10 fl_X7_18_X0 dX7_come_1 rfl ?_
  refine k_istore_n hF (L' := [some (.ref (B + 10)), some (.int a1), some (.int (gi σ 10 2))]) dX7_come_4 (by decide) rfl ?_
  refine k_aload_n hF dX7_come_5 rfl ?_
  refine k_dup hF dX7_come_6 rfl ?_
  refine k_get hF (v := .int (gi σ 10 2)) shC_10 fl_X7_18_X0 dX7_come_7 rfl ?_
  refine k_iconst hF dX7_come_10 ci_1 ?_
  refine k_iadd hF dX7_come_11 ?_
  refine k_putI hF hA shC_10 fp_X7_18_X0 dX7_come_12 rfl rfl rfl ?_
  obtain ⟨σ1, hσ1, h⟩ := lt_some h
  refine k_sig hσ1 ?_
  refine k_aload_n hF dX7_come_15 rfl ?_
  refine k_get hF (v := .ref (B + 11)) shC_10 fl_X7_9_X0 dX7_come_16 rfl ?_
  refine k_iload_n hF dX7_come_19 rfl ?_
  refine k_iload_n hF dX7_come_20 rfl ?_
  obtain ⟨g2, h⟩ := gd_some h
  refine k_iast hF hA shC_11 dX7_come_21 g2 ?_
  obtain ⟨σ3, hσ3, h⟩ := lt_some h
  refine k_sig hσ3 ?_
  refine k_aload_n hF dX7_come_22 rfl ?_
  refine k_get hF (v := .ref (B + 12)) shC_10 fl_X7_15_X0 dX7_come_23 rfl ?_
  refine k_iload_n hF dX7_come_26 rfl ?_
  refine k_ldc hF kc_X7_22 dX7_come_27 ?_
  obtain ⟨g4, h⟩ := gd_some h
  refine k_iast hF hA shC_12 dX7_come_29 g4 ?_
  obtain ⟨σ5, hσ5, h⟩ := lt_some h
  refine k_sig hσ5 ?_
  refine k_iload_n hF dX7_come_30 rfl ?_
  cases h
  exact hr _ _ rfl dX7_come_31
theorem ct_X7_comeE {l : Launch} {D : DD} {base B : Nat} (hbs : base ≤ B) {σ : St} {a1 : Int32} {r : (Int32 × St)} (h : fX7_comeE σ a1 = some r) : MetR l D B shpC base yX7_come cX7_come 3 (some .int) 0 0 [.ref (B + 10), .int a1] σ (some (.int r.1)) r.2 :=
  MetR.of (by decide +kernel) (fun v hv => by simp only [List.mem_cons, List.not_mem_nil, or_false] at hv; rcases hv with rfl | rfl <;> rfl) (Nat.le_of_ble_eq_true rfl) hbs (fun p e s m args below meth c hF hr => wX7_comeE hF (fun q hq => hq) hbs h (fun pc L hn hd => k_iret hF hr hn hd))
set_option maxHeartbeats 4000000 in
set_option maxRecDepth 100000 in
theorem wX7_endN {p : Program} {l : Launch} {e : Env} {s : State} {m : MethodId} {args : Array Value} {below : List Frame} {meth : Method} {c : Code} {Q : State → Prop} {A : Nat → Prop} {D : DD} {base B : Nat} (hF : KF D base cX7_end RX7 A 3 0 0 p l e ({ frames := 0, cells := 0, slots := 0, locals := 0 } : Room) s m args below meth c) (hA : ∀ q, RA B shpC q → A q) (hbs : base ≤ B) {σ : St} {a1 : Int32} {a2 : Int32} {z : St} (h : fX7_endN σ a1 a2 = some z) (hr : ∀ (pc : Nat) (L : List (Option Value)), decode cX7_end pc = .ok (.return_, 1) → KJ (Rep D B shpC) A 3 0 0 Q p l e ({ frames := 0, cells := 0, slots := 0, locals := 0 } : Room) s m args below meth c 0 0 pc L [] z) : KJ (Rep D B shpC) A 3 0 0 Q p l e ({ frames := 0, cells := 0, slots := 0, locals := 0 } : Room) s m args below meth c 0 0 0 [some (.ref (B + 1)), some (.int a1), some (.int a2)] [] σ := by
  unfold fX7_endN at h
  refine k_aload_n hF dX7_end_0 rfl ?_
  refine k_get hF (v := .ref (B + 3)) shC_1 fl_X7_15_X6 dX7_end_1 rfl ?_
  refine k_iload_n hF dX7_end_4 rfl ?_
  refine k_iload_n hF dX7_end_5 rfl ?_
  obtain ⟨g1, h⟩ := gd_some h
  refine k_iast hF hA shC_3 dX7_end_6 g1 ?_
  obtain ⟨σ2, hσ2, h⟩ := lt_some h
  refine k_sig hσ2 ?_
  cases h
  exact hr _ _ dX7_end_7
theorem ct_X7_endN {l : Launch} {D : DD} {base B : Nat} (hbs : base ≤ B) {σ : St} {a1 : Int32} {a2 : Int32} {r : St} (h : fX7_endN σ a1 a2 = some r) : MetR l D B shpC base yX7_end cX7_end 3 none 0 0 [.ref (B + 1), .int a1, .int a2] σ none r :=
  MetR.of (by decide +kernel) (fun v hv => by simp only [List.mem_cons, List.not_mem_nil, or_false] at hv; rcases hv with rfl | rfl | rfl <;> rfl) (Nat.le_of_ble_eq_true rfl) hbs (fun p e s m args below meth c hF hr => wX7_endN hF (fun q hq => hq) hbs h (fun pc L hd => k_vret hF hr hd))
set_option maxHeartbeats 4000000 in
set_option maxRecDepth 100000 in
theorem wX7_endE {p : Program} {l : Launch} {e : Env} {s : State} {m : MethodId} {args : Array Value} {below : List Frame} {meth : Method} {c : Code} {Q : State → Prop} {A : Nat → Prop} {D : DD} {base B : Nat} (hF : KF D base cX7_end RX7 A 3 0 0 p l e ({ frames := 0, cells := 0, slots := 0, locals := 0 } : Room) s m args below meth c) (hA : ∀ q, RA B shpC q → A q) (hbs : base ≤ B) {σ : St} {a1 : Int32} {a2 : Int32} {z : St} (h : fX7_endE σ a1 a2 = some z) (hr : ∀ (pc : Nat) (L : List (Option Value)), decode cX7_end pc = .ok (.return_, 1) → KJ (Rep D B shpC) A 3 0 0 Q p l e ({ frames := 0, cells := 0, slots := 0, locals := 0 } : Room) s m args below meth c 0 0 pc L [] z) : KJ (Rep D B shpC) A 3 0 0 Q p l e ({ frames := 0, cells := 0, slots := 0, locals := 0 } : Room) s m args below meth c 0 0 0 [some (.ref (B + 10)), some (.int a1), some (.int a2)] [] σ := by
  unfold fX7_endE at h
  refine k_aload_n hF dX7_end_0 rfl ?_
  refine k_get hF (v := .ref (B + 12)) shC_10 fl_X7_15_X0 dX7_end_1 rfl ?_
  refine k_iload_n hF dX7_end_4 rfl ?_
  refine k_iload_n hF dX7_end_5 rfl ?_
  obtain ⟨g1, h⟩ := gd_some h
  refine k_iast hF hA shC_12 dX7_end_6 g1 ?_
  obtain ⟨σ2, hσ2, h⟩ := lt_some h
  refine k_sig hσ2 ?_
  cases h
  exact hr _ _ dX7_end_7
theorem ct_X7_endE {l : Launch} {D : DD} {base B : Nat} (hbs : base ≤ B) {σ : St} {a1 : Int32} {a2 : Int32} {r : St} (h : fX7_endE σ a1 a2 = some r) : MetR l D B shpC base yX7_end cX7_end 3 none 0 0 [.ref (B + 10), .int a1, .int a2] σ none r :=
  MetR.of (by decide +kernel) (fun v hv => by simp only [List.mem_cons, List.not_mem_nil, or_false] at hv; rcases hv with rfl | rfl | rfl <;> rfl) (Nat.le_of_ble_eq_true rfl) hbs (fun p e s m args below meth c hF hr => wX7_endE hF (fun q hq => hq) hbs h (fun pc L hd => k_vret hF hr hd))
set_option maxHeartbeats 4000000 in
set_option maxRecDepth 100000 in
theorem wX7_countAsOfN_j24 {p : Program} {l : Launch} {e : Env} {s : State} {m : MethodId} {args : Array Value} {below : List Frame} {meth : Method} {c : Code} {Q : State → Prop} {A : Nat → Prop} {D : DD} {base B : Nat} (hF : KF D base cX7_countAsOf RX7 A 4 0 0 p l e ({ frames := 1, cells := 0, slots := 0, locals := 22 } : Room) s m args below meth c) (hA : ∀ q, RA B shpC q → A q) (hbs : base ≤ B) {σ : St} {a1 : Int32} {b2 : Int32} {b3 : Int32} {z : ((Int32 × Int32) ⊕ (Int32 × Int32))} (h : fX7_countAsOfN_j24 σ a1 b2 b3 = some z) (hc : ∀ x, z = .inl x → KJ (Rep D B shpC) A 4 0 0 Q p l e ({ frames := 1, cells := 0, slots := 0, locals := 22 } : Room) s m args below meth c 0 0 4 [some (.ref (B + 1)), some (.int a1), some (.int x.1), some (.int x.2)] [] σ) (he : ∀ w, z = .inr w → KJ (Rep D B shpC) A 4 0 0 Q p l e ({ frames := 1, cells := 0, slots := 0, locals := 22 } : Room) s m args below meth c 0 0 30 [some (.ref (B + 1)), some (.int a1), some (.int w.1), some (.int w.2)] [] σ) : KJ (Rep D B shpC) A 4 0 0 Q p l e ({ frames := 1, cells := 0, slots := 0, locals := 22 } : Room) s m args below meth c 0 0 24 [some (.ref (B + 1)), some (.int a1), some (.int b2), some (.int b3)] [] σ := by
  unfold fX7_countAsOfN_j24 at h
  refine k_iinc hF (v := (b3 + (1 : Int32))) (L' := [some (.ref (B + 1)), some (.int a1), some (.int b2), some (.int (b3 + (1 : Int32)))]) dX7_countAsOf_24 rfl (by first | rfl | (congr 1)) (by decide) rfl ?_
  refine k_goto hF dX7_countAsOf_27 (tgt := 4) (by decide) ?_
  exact hc _ (Option.some.inj h).symm
set_option maxHeartbeats 4000000 in
set_option maxRecDepth 100000 in
theorem wX7_countAsOfN_l4 {p : Program} {l : Launch} {e : Env} {s : State} {m : MethodId} {args : Array Value} {below : List Frame} {meth : Method} {c : Code} {Q : State → Prop} {A : Nat → Prop} {D : DD} {base B : Nat} (hF : KF D base cX7_countAsOf RX7 A 4 0 0 p l e ({ frames := 1, cells := 0, slots := 0, locals := 22 } : Room) s m args below meth c) (hA : ∀ q, RA B shpC q → A q) (hbs : base ≤ B) {σ : St} {a1 : Int32} {x : (Int32 × Int32)} {z : ((Int32 × Int32) ⊕ (Int32 × Int32))} (h : fX7_countAsOfN_l4 σ a1 x = some z) (hc : ∀ x, z = .inl x → KJ (Rep D B shpC) A 4 0 0 Q p l e ({ frames := 1, cells := 0, slots := 0, locals := 22 } : Room) s m args below meth c 0 0 4 [some (.ref (B + 1)), some (.int a1), some (.int x.1), some (.int x.2)] [] σ) (he : ∀ w, z = .inr w → KJ (Rep D B shpC) A 4 0 0 Q p l e ({ frames := 1, cells := 0, slots := 0, locals := 22 } : Room) s m args below meth c 0 0 30 [some (.ref (B + 1)), some (.int a1), some (.int w.1), some (.int w.2)] [] σ) : KJ (Rep D B shpC) A 4 0 0 Q p l e ({ frames := 1, cells := 0, slots := 0, locals := 22 } : Room) s m args below meth c 0 0 4 [some (.ref (B + 1)), some (.int a1), some (.int x.1), some (.int x.2)] [] σ := by
  unfold fX7_countAsOfN_l4 at h
  refine k_iload_n hF dX7_countAsOf_4 rfl ?_
  refine k_aload_n hF dX7_countAsOf_5 rfl ?_
  refine k_get hF (v := .int (gi σ 1 2)) shC_1 fl_X7_18_X6 dX7_countAsOf_6 rfl ?_
  refine k_icmp_ge hF (tgt := 30) dX7_countAsOf_9 (by decide) (fun c1 => ?_) (fun c1 => ?_)
  · replace h := ite_t c1 h
    exact he _ (Option.some.inj h).symm
  · replace h := ite_f c1 h
    refine k_aload_n hF dX7_countAsOf_12 rfl ?_
    refine k_iload_n hF dX7_countAsOf_13 rfl ?_
    refine k_iload_n hF dX7_countAsOf_14 rfl ?_
    obtain ⟨v2, hv2, h⟩ := bind_some h
    refine k_callV hF hA (as := [.int x.2, .int a1]) (ct_X7_wasThereN hbs hv2) mv_X7_23_X6 shC_1 rfl rfl rfl ⟨Nat.le_of_ble_eq_true rfl, Nat.le_of_ble_eq_true rfl⟩ (Nat.le_of_ble_eq_true rfl) dX7_countAsOf_15 ?_
    refine k_st (st2 := [.int v2]) rfl ?_
    refine k_if_eq hF (tgt := 24) dX7_countAsOf_18 (by decide) (fun c3 => ?_) (fun c3 => ?_)
    · replace h := ite_t c3 h
      exact wX7_countAsOfN_j24 hF hA hbs h hc he
    · replace h := ite_f c3 h
      refine k_iinc hF (v := (x.1 + (1 : Int32))) (L' := [some (.ref (B + 1)), some (.int a1), some (.int (x.1 + (1 : Int32))), some (.int x.2)]) dX7_countAsOf_21 rfl (by first | rfl | (congr 1)) (by decide) rfl ?_
      exact wX7_countAsOfN_j24 hF hA hbs h hc he
set_option maxHeartbeats 4000000 in
set_option maxRecDepth 100000 in
theorem wX7_countAsOfN {p : Program} {l : Launch} {e : Env} {s : State} {m : MethodId} {args : Array Value} {below : List Frame} {meth : Method} {c : Code} {Q : State → Prop} {A : Nat → Prop} {D : DD} {base B : Nat} (hF : KF D base cX7_countAsOf RX7 A 4 0 0 p l e ({ frames := 1, cells := 0, slots := 0, locals := 22 } : Room) s m args below meth c) (hA : ∀ q, RA B shpC q → A q) (hbs : base ≤ B) {σ : St} {a1 : Int32} {z : Int32} (h : fX7_countAsOfN σ a1 = some z) (hr : ∀ (pc : Nat) (L : List (Option Value)), narrow .int (.int z) = .int z → decode cX7_countAsOf pc = .ok (.ireturn, 1) → KJ (Rep D B shpC) A 4 0 0 Q p l e ({ frames := 1, cells := 0, slots := 0, locals := 22 } : Room) s m args below meth c 0 0 pc L [.int z] σ) : KJ (Rep D B shpC) A 4 0 0 Q p l e ({ frames := 1, cells := 0, slots := 0, locals := 22 } : Room) s m args below meth c 0 0 0 [some (.ref (B + 1)), some (.int a1), none, none] [] σ := by
  unfold fX7_countAsOfN at h
  refine k_iconst hF dX7_countAsOf_0 ci_0 ?_
  refine k_istore_n hF (L' := [some (.ref (B + 1)), some (.int a1), some (.int (0 : Int32)), none]) dX7_countAsOf_1 (by decide) rfl ?_
  refine k_iconst hF dX7_countAsOf_2 ci_0 ?_
  refine k_istore_n hF (L' := [some (.ref (B + 1)), some (.int a1), some (.int (0 : Int32)), some (.int (0 : Int32))]) dX7_countAsOf_3 (by decide) rfl ?_
  obtain ⟨x4, hx4, h⟩ := bind_some h
  refine k_loop (P := fun xq => KJ (Rep D B shpC) A 4 0 0 Q p l e ({ frames := 1, cells := 0, slots := 0, locals := 22 } : Room) s m args below meth c 0 0 4 [some (.ref (B + 1)), some (.int a1), some (.int xq.1), some (.int xq.2)] [] σ) (C := fun xq => KJ (Rep D B shpC) A 4 0 0 Q p l e ({ frames := 1, cells := 0, slots := 0, locals := 22 } : Room) s m args below meth c 0 0 30 [some (.ref (B + 1)), some (.int a1), some (.int xq.1), some (.int xq.2)] [] σ) (fun x z hz hc he => wX7_countAsOfN_l4 hF hA hbs hz hc he) hx4 ?_
  show KJ (Rep D B shpC) A 4 0 0 Q p l e ({ frames := 1, cells := 0, slots := 0, locals := 22 } : Room) s m args below meth c 0 0 30 [some (.ref (B + 1)), some (.int a1), some (.int x4.1), some (.int x4.2)] [] σ
  refine k_iload_n hF dX7_countAsOf_30 rfl ?_
  cases h
  exact hr _ _ rfl dX7_countAsOf_31
theorem ct_X7_countAsOfN {l : Launch} {D : DD} {base B : Nat} (hbs : base ≤ B) {σ : St} {a1 : Int32} {r : Int32} (h : fX7_countAsOfN σ a1 = some r) : MetR l D B shpC base yX7_countAsOf cX7_countAsOf 4 (some .int) 1 22 [.ref (B + 1), .int a1] σ (some (.int r)) σ :=
  MetR.of (by decide +kernel) (fun v hv => by simp only [List.mem_cons, List.not_mem_nil, or_false] at hv; rcases hv with rfl | rfl <;> rfl) (Nat.le_of_ble_eq_true rfl) hbs (fun p e s m args below meth c hF hr => wX7_countAsOfN hF (fun q hq => hq) hbs h (fun pc L hn hd => k_iret hF hr hn hd))
set_option maxHeartbeats 4000000 in
set_option maxRecDepth 100000 in
theorem wX7_countAsOfE_j24 {p : Program} {l : Launch} {e : Env} {s : State} {m : MethodId} {args : Array Value} {below : List Frame} {meth : Method} {c : Code} {Q : State → Prop} {A : Nat → Prop} {D : DD} {base B : Nat} (hF : KF D base cX7_countAsOf RX7 A 4 0 0 p l e ({ frames := 1, cells := 0, slots := 0, locals := 22 } : Room) s m args below meth c) (hA : ∀ q, RA B shpC q → A q) (hbs : base ≤ B) {σ : St} {a1 : Int32} {b2 : Int32} {b3 : Int32} {z : ((Int32 × Int32) ⊕ (Int32 × Int32))} (h : fX7_countAsOfE_j24 σ a1 b2 b3 = some z) (hc : ∀ x, z = .inl x → KJ (Rep D B shpC) A 4 0 0 Q p l e ({ frames := 1, cells := 0, slots := 0, locals := 22 } : Room) s m args below meth c 0 0 4 [some (.ref (B + 10)), some (.int a1), some (.int x.1), some (.int x.2)] [] σ) (he : ∀ w, z = .inr w → KJ (Rep D B shpC) A 4 0 0 Q p l e ({ frames := 1, cells := 0, slots := 0, locals := 22 } : Room) s m args below meth c 0 0 30 [some (.ref (B + 10)), some (.int a1), some (.int w.1), some (.int w.2)] [] σ) : KJ (Rep D B shpC) A 4 0 0 Q p l e ({ frames := 1, cells := 0, slots := 0, locals := 22 } : Room) s m args below meth c 0 0 24 [some (.ref (B + 10)), some (.int a1), some (.int b2), some (.int b3)] [] σ := by
  unfold fX7_countAsOfE_j24 at h
  refine k_iinc hF (v := (b3 + (1 : Int32))) (L' := [some (.ref (B + 10)), some (.int a1), some (.int b2), some (.int (b3 + (1 : Int32)))]) dX7_countAsOf_24 rfl (by first | rfl | (congr 1)) (by decide) rfl ?_
  refine k_goto hF dX7_countAsOf_27 (tgt := 4) (by decide) ?_
  exact hc _ (Option.some.inj h).symm
set_option maxHeartbeats 4000000 in
set_option maxRecDepth 100000 in
theorem wX7_countAsOfE_l4 {p : Program} {l : Launch} {e : Env} {s : State} {m : MethodId} {args : Array Value} {below : List Frame} {meth : Method} {c : Code} {Q : State → Prop} {A : Nat → Prop} {D : DD} {base B : Nat} (hF : KF D base cX7_countAsOf RX7 A 4 0 0 p l e ({ frames := 1, cells := 0, slots := 0, locals := 22 } : Room) s m args below meth c) (hA : ∀ q, RA B shpC q → A q) (hbs : base ≤ B) {σ : St} {a1 : Int32} {x : (Int32 × Int32)} {z : ((Int32 × Int32) ⊕ (Int32 × Int32))} (h : fX7_countAsOfE_l4 σ a1 x = some z) (hc : ∀ x, z = .inl x → KJ (Rep D B shpC) A 4 0 0 Q p l e ({ frames := 1, cells := 0, slots := 0, locals := 22 } : Room) s m args below meth c 0 0 4 [some (.ref (B + 10)), some (.int a1), some (.int x.1), some (.int x.2)] [] σ) (he : ∀ w, z = .inr w → KJ (Rep D B shpC) A 4 0 0 Q p l e ({ frames := 1, cells := 0, slots := 0, locals := 22 } : Room) s m args below meth c 0 0 30 [some (.ref (B + 10)), some (.int a1), some (.int w.1), some (.int w.2)] [] σ) : KJ (Rep D B shpC) A 4 0 0 Q p l e ({ frames := 1, cells := 0, slots := 0, locals := 22 } : Room) s m args below meth c 0 0 4 [some (.ref (B + 10)), some (.int a1), some (.int x.1), some (.int x.2)] [] σ := by
  unfold fX7_countAsOfE_l4 at h
  refine k_iload_n hF dX7_countAsOf_4 rfl ?_
  refine k_aload_n hF dX7_countAsOf_5 rfl ?_
  refine k_get hF (v := .int (gi σ 10 2)) shC_10 fl_X7_18_X0 dX7_countAsOf_6 rfl ?_
  refine k_icmp_ge hF (tgt := 30) dX7_countAsOf_9 (by decide) (fun c1 => ?_) (fun c1 => ?_)
  · replace h := ite_t c1 h
    exact he _ (Option.some.inj h).symm
  · replace h := ite_f c1 h
    refine k_aload_n hF dX7_countAsOf_12 rfl ?_
    refine k_iload_n hF dX7_countAsOf_13 rfl ?_
    refine k_iload_n hF dX7_countAsOf_14 rfl ?_
    obtain ⟨v2, hv2, h⟩ := bind_some h
    refine k_callV hF hA (as := [.int x.2, .int a1]) (ct_X7_wasThereE hbs hv2) mv_X7_23_X0 shC_10 rfl rfl rfl ⟨Nat.le_of_ble_eq_true rfl, Nat.le_of_ble_eq_true rfl⟩ (Nat.le_of_ble_eq_true rfl) dX7_countAsOf_15 ?_
    refine k_st (st2 := [.int v2]) rfl ?_
    refine k_if_eq hF (tgt := 24) dX7_countAsOf_18 (by decide) (fun c3 => ?_) (fun c3 => ?_)
    · replace h := ite_t c3 h
      exact wX7_countAsOfE_j24 hF hA hbs h hc he
    · replace h := ite_f c3 h
      refine k_iinc hF (v := (x.1 + (1 : Int32))) (L' := [some (.ref (B + 10)), some (.int a1), some (.int (x.1 + (1 : Int32))), some (.int x.2)]) dX7_countAsOf_21 rfl (by first | rfl | (congr 1)) (by decide) rfl ?_
      exact wX7_countAsOfE_j24 hF hA hbs h hc he
set_option maxHeartbeats 4000000 in
set_option maxRecDepth 100000 in
theorem wX7_countAsOfE {p : Program} {l : Launch} {e : Env} {s : State} {m : MethodId} {args : Array Value} {below : List Frame} {meth : Method} {c : Code} {Q : State → Prop} {A : Nat → Prop} {D : DD} {base B : Nat} (hF : KF D base cX7_countAsOf RX7 A 4 0 0 p l e ({ frames := 1, cells := 0, slots := 0, locals := 22 } : Room) s m args below meth c) (hA : ∀ q, RA B shpC q → A q) (hbs : base ≤ B) {σ : St} {a1 : Int32} {z : Int32} (h : fX7_countAsOfE σ a1 = some z) (hr : ∀ (pc : Nat) (L : List (Option Value)), narrow .int (.int z) = .int z → decode cX7_countAsOf pc = .ok (.ireturn, 1) → KJ (Rep D B shpC) A 4 0 0 Q p l e ({ frames := 1, cells := 0, slots := 0, locals := 22 } : Room) s m args below meth c 0 0 pc L [.int z] σ) : KJ (Rep D B shpC) A 4 0 0 Q p l e ({ frames := 1, cells := 0, slots := 0, locals := 22 } : Room) s m args below meth c 0 0 0 [some (.ref (B + 10)), some (.int a1), none, none] [] σ := by
  unfold fX7_countAsOfE at h
  refine k_iconst hF dX7_countAsOf_0 ci_0 ?_
  refine k_istore_n hF (L' := [some (.ref (B + 10)), some (.int a1), some (.int (0 : Int32)), none]) dX7_countAsOf_1 (by decide) rfl ?_
  refine k_iconst hF dX7_countAsOf_2 ci_0 ?_
  refine k_istore_n hF (L' := [some (.ref (B + 10)), some (.int a1), some (.int (0 : Int32)), some (.int (0 : Int32))]) dX7_countAsOf_3 (by decide) rfl ?_
  obtain ⟨x4, hx4, h⟩ := bind_some h
  refine k_loop (P := fun xq => KJ (Rep D B shpC) A 4 0 0 Q p l e ({ frames := 1, cells := 0, slots := 0, locals := 22 } : Room) s m args below meth c 0 0 4 [some (.ref (B + 10)), some (.int a1), some (.int xq.1), some (.int xq.2)] [] σ) (C := fun xq => KJ (Rep D B shpC) A 4 0 0 Q p l e ({ frames := 1, cells := 0, slots := 0, locals := 22 } : Room) s m args below meth c 0 0 30 [some (.ref (B + 10)), some (.int a1), some (.int xq.1), some (.int xq.2)] [] σ) (fun x z hz hc he => wX7_countAsOfE_l4 hF hA hbs hz hc he) hx4 ?_
  show KJ (Rep D B shpC) A 4 0 0 Q p l e ({ frames := 1, cells := 0, slots := 0, locals := 22 } : Room) s m args below meth c 0 0 30 [some (.ref (B + 10)), some (.int a1), some (.int x4.1), some (.int x4.2)] [] σ
  refine k_iload_n hF dX7_countAsOf_30 rfl ?_
  cases h
  exact hr _ _ rfl dX7_countAsOf_31
theorem ct_X7_countAsOfE {l : Launch} {D : DD} {base B : Nat} (hbs : base ≤ B) {σ : St} {a1 : Int32} {r : Int32} (h : fX7_countAsOfE σ a1 = some r) : MetR l D B shpC base yX7_countAsOf cX7_countAsOf 4 (some .int) 1 22 [.ref (B + 10), .int a1] σ (some (.int r)) σ :=
  MetR.of (by decide +kernel) (fun v hv => by simp only [List.mem_cons, List.not_mem_nil, or_false] at hv; rcases hv with rfl | rfl <;> rfl) (Nat.le_of_ble_eq_true rfl) hbs (fun p e s m args below meth c hF hr => wX7_countAsOfE hF (fun q hq => hq) hbs h (fun pc L hn hd => k_iret hF hr hn hd))
set_option maxHeartbeats 4000000 in
set_option maxRecDepth 100000 in
theorem wX10_bit {p : Program} {l : Launch} {e : Env} {s : State} {m : MethodId} {args : Array Value} {below : List Frame} {meth : Method} {c : Code} {Q : State → Prop} {A : Nat → Prop} {D : DD} {base B : Nat} (hF : KF D base cX10_bit RX10 A 1 0 0 p l e ({ frames := 0, cells := 0, slots := 0, locals := 0 } : Room) s m args below meth c) (hA : ∀ q, RA B shpC q → A q) (hbs : base ≤ B) {σ : St} {a0 : Int32} {z : Int32} (h : fX10_bit σ a0 = some z) (hr : ∀ (pc : Nat) (L : List (Option Value)), narrow .int (.int z) = .int z → decode cX10_bit pc = .ok (.ireturn, 1) → KJ (Rep D B shpC) A 1 0 0 Q p l e ({ frames := 0, cells := 0, slots := 0, locals := 0 } : Room) s m args below meth c 0 0 pc L [.int z] σ) : KJ (Rep D B shpC) A 1 0 0 Q p l e ({ frames := 0, cells := 0, slots := 0, locals := 0 } : Room) s m args below meth c 0 0 0 [some (.int a0)] [] σ := by
  unfold fX10_bit at h
  refine k_iconst hF dX10_bit_0 ci_1 ?_
  refine k_iload_n hF dX10_bit_1 rfl ?_
  refine k_ishl hF dX10_bit_2 ?_
  cases h
  exact hr _ _ rfl dX10_bit_3
theorem ct_X10_bit {l : Launch} {D : DD} {base B : Nat} (hbs : base ≤ B) {σ : St} {a0 : Int32} {r : Int32} (h : fX10_bit σ a0 = some r) : MetR l D B shpC base yX10_bit cX10_bit 1 (some .int) 0 0 [.int a0] σ (some (.int r)) σ :=
  MetR.of (by decide +kernel) (fun v hv => by simp only [List.mem_cons, List.not_mem_nil, or_false] at hv; rcases hv with rfl <;> rfl) (Nat.le_of_ble_eq_true rfl) hbs (fun p e s m args below meth c hF hr => wX10_bit hF (fun q hq => hq) hbs h (fun pc L hn hd => k_iret hF hr hn hd))
set_option maxHeartbeats 4000000 in
set_option maxRecDepth 100000 in
theorem wX6_put {p : Program} {l : Launch} {e : Env} {s : State} {m : MethodId} {args : Array Value} {below : List Frame} {meth : Method} {c : Code} {Q : State → Prop} {A : Nat → Prop} {D : DD} {base B : Nat} (hF : KF D base cX6_put RX6 A 4 0 0 p l e ({ frames := 0, cells := 0, slots := 0, locals := 0 } : Room) s m args below meth c) (hA : ∀ q, RA B shpC q → A q) (hbs : base ≤ B) {σ : St} {a1 : Int32} {a2 : Int32} {a3 : Int32} {z : St} (h : fX6_put σ a1 a2 a3 = some z) (hr : ∀ (pc : Nat) (L : List (Option Value)), decode cX6_put pc = .ok (.return_, 1) → KJ (Rep D B shpC) A 4 0 0 Q p l e ({ frames := 0, cells := 0, slots := 0, locals := 0 } : Room) s m args below meth c 0 0 pc L [] z) : KJ (Rep D B shpC) A 4 0 0 Q p l e ({ frames := 0, cells := 0, slots := 0, locals := 0 } : Room) s m args below meth c 0 0 0 [some (.ref (B + 1)), some (.int a1), some (.int a2), some (.int a3)] [] σ := by
  unfold fX6_put at h
  refine k_aload_n hF dX6_put_0 rfl ?_
  refine k_get hF (v := .ref (B + 5)) shC_1 fl_X6_15_X6 dX6_put_1 rfl ?_
  refine k_iload_n hF dX6_put_4 rfl ?_
  refine k_iload_n hF dX6_put_5 rfl ?_
  obtain ⟨g1, h⟩ := gd_some h
  refine k_iast hF hA shC_5 dX6_put_6 g1 ?_
  obtain ⟨σ2, hσ2, h⟩ := lt_some h
  refine k_sig hσ2 ?_
  refine k_aload_n hF dX6_put_7 rfl ?_
  refine k_get hF (v := .ref (B + 6)) shC_1 fl_X6_18_X6 dX6_put_8 rfl ?_
  refine k_iload_n hF dX6_put_11 rfl ?_
  refine k_iload_n hF dX6_put_12 rfl ?_
  obtain ⟨g3, h⟩ := gd_some h
  refine k_iast hF hA shC_6 dX6_put_13 g3 ?_
  obtain ⟨σ4, hσ4, h⟩ := lt_some h
  refine k_sig hσ4 ?_
  refine k_aload_n hF dX6_put_14 rfl ?_
  refine k_get hF (v := .int (gi σ4 1 9)) shC_1 fl_X6_30_X6 dX6_put_15 rfl ?_
  refine k_sipush hF (v := (512 : Int32)) dX6_put_18 (by decide) ?_
  refine k_icmp_ge hF (tgt := 64) dX6_put_21 (by decide) (fun c5 => ?_) (fun c5 => ?_)
  · replace h := ite_t c5 h
    cases h
    exact hr _ _ dX6_put_64
  · replace h := ite_f c5 h
    refine k_aload_n hF dX6_put_24 rfl ?_
    refine k_get hF (v := .ref (B + 7)) shC_1 fl_X6_21_X6 dX6_put_25 rfl ?_
    refine k_aload_n hF dX6_put_28 rfl ?_
    refine k_get hF (v := .int (gi σ4 1 9)) shC_1 fl_X6_30_X6 dX6_put_29 rfl ?_
    refine k_iload_n hF dX6_put_32 rfl ?_
    obtain ⟨g6, h⟩ := gd_some h
    refine k_iast hF hA shC_7 dX6_put_33 g6 ?_
    obtain ⟨σ7, hσ7, h⟩ := lt_some h
    refine k_sig hσ7 ?_
    refine k_aload_n hF dX6_put_34 rfl ?_
    refine k_get hF (v := .ref (B + 8)) shC_1 fl_X6_24_X6 dX6_put_35 rfl ?_
    refine k_aload_n hF dX6_put_38 rfl ?_
    refine k_get hF (v := .int (gi σ7 1 9)) shC_1 fl_X6_30_X6 dX6_put_39 rfl ?_
    refine k_iload_n hF dX6_put_42 rfl ?_
    obtain ⟨g8, h⟩ := gd_some h
    refine k_iast hF hA shC_8 dX6_put_43 g8 ?_
    obtain ⟨σ9, hσ9, h⟩ := lt_some h
    refine k_sig hσ9 ?_
    refine k_aload_n hF dX6_put_44 rfl ?_
    refine k_get hF (v := .ref (B + 9)) shC_1 fl_X6_27_X6 dX6_put_45 rfl ?_
    refine k_aload_n hF dX6_put_48 rfl ?_
    refine k_get hF (v := .int (gi σ9 1 9)) shC_1 fl_X6_30_X6 dX6_put_49 rfl ?_
    refine k_iload_n hF dX6_put_52 rfl ?_
    obtain ⟨g10, h⟩ := gd_some h
    refine k_iast hF hA shC_9 dX6_put_53 g10 ?_
    obtain ⟨σ11, hσ11, h⟩ := lt_some h
    refine k_sig hσ11 ?_
    refine k_aload_n hF dX6_put_54 rfl ?_
    refine k_dup hF dX6_put_55 rfl ?_
    refine k_get hF (v := .int (gi σ11 1 9)) shC_1 fl_X6_30_X6 dX6_put_56 rfl ?_
    refine k_iconst hF dX6_put_59 ci_1 ?_
    refine k_iadd hF dX6_put_60 ?_
    refine k_putI hF hA shC_1 fp_X6_30_X6 dX6_put_61 rfl rfl rfl ?_
    obtain ⟨σ12, hσ12, h⟩ := lt_some h
    refine k_sig hσ12 ?_
    cases h
    exact hr _ _ dX6_put_64
theorem ct_X6_put {l : Launch} {D : DD} {base B : Nat} (hbs : base ≤ B) {σ : St} {a1 : Int32} {a2 : Int32} {a3 : Int32} {r : St} (h : fX6_put σ a1 a2 a3 = some r) : MetR l D B shpC base yX6_put cX6_put 4 none 0 0 [.ref (B + 1), .int a1, .int a2, .int a3] σ none r :=
  MetR.of (by decide +kernel) (fun v hv => by simp only [List.mem_cons, List.not_mem_nil, or_false] at hv; rcases hv with rfl | rfl | rfl | rfl <;> rfl) (Nat.le_of_ble_eq_true rfl) hbs (fun p e s m args below meth c hF hr => wX6_put hF (fun q hq => hq) hbs h (fun pc L hd => k_vret hF hr hd))
set_option maxHeartbeats 4000000 in
set_option maxRecDepth 100000 in
theorem wX6_add {p : Program} {l : Launch} {e : Env} {s : State} {m : MethodId} {args : Array Value} {below : List Frame} {meth : Method} {c : Code} {Q : State → Prop} {A : Nat → Prop} {D : DD} {base B : Nat} (hF : KF D base cX6_add RX6 A 5 0 0 p l e ({ frames := 1, cells := 0, slots := 0, locals := 23 } : Room) s m args below meth c) (hA : ∀ q, RA B shpC q → A q) (hbs : base ≤ B) {σ : St} {a1 : Int32} {a2 : Int32} {a3 : Int32} {z : (Int32 × St)} (h : fX6_add σ a1 a2 a3 = some z) (hr : ∀ (pc : Nat) (L : List (Option Value)), narrow .int (.int z.1) = .int z.1 → decode cX6_add pc = .ok (.ireturn, 1) → KJ (Rep D B shpC) A 5 0 0 Q p l e ({ frames := 1, cells := 0, slots := 0, locals := 23 } : Room) s m args below meth c 0 0 pc L [.int z.1] z.2) : KJ (Rep D B shpC) A 5 0 0 Q p l e ({ frames := 1, cells := 0, slots := 0, locals := 23 } : Room) s m args below meth c 0 0 0 [some (.ref (B + 1)), some (.int a1), some (.int a2), some (.int a3), none] [] σ := by
  unfold fX6_add at h
  refine k_aload_n hF dX6_add_0 rfl ?_
  refine k_iload_n hF dX6_add_1 rfl ?_
  obtain ⟨v1, hv1, h⟩ := bind_some h
  refine k_callU hF hA (as := [.int a3]) (ct_X7_comeN hbs hv1) mu_X6_37 shC_1 rfl rfl rfl ⟨Nat.le_of_ble_eq_true rfl, Nat.le_of_ble_eq_true rfl⟩ (Nat.le_of_ble_eq_true rfl) dX6_add_2 ?_
  refine k_st (st2 := [.int v1.1]) rfl ?_
  refine k_istore hF (L' := [some (.ref (B + 1)), some (.int a1), some (.int a2), some (.int a3), some (.int v1.1)]) dX6_add_5 (by decide) rfl ?_
  refine k_aload_n hF dX6_add_7 rfl ?_
  refine k_get hF (v := .ref (B + 4)) shC_1 fl_X6_9_X6 dX6_add_8 rfl ?_
  refine k_iload hF dX6_add_11 rfl ?_
  refine k_iload_n hF dX6_add_13 rfl ?_
  obtain ⟨g2, h⟩ := gd_some h
  refine k_iast hF hA shC_4 dX6_add_14 g2 ?_
  obtain ⟨σ3, hσ3, h⟩ := lt_some h
  refine k_sig hσ3 ?_
  refine k_aload_n hF dX6_add_15 rfl ?_
  refine k_dup hF dX6_add_16 rfl ?_
  refine k_get hF (v := .int (gi σ3 1 10)) shC_1 fl_X6_34_X6 dX6_add_17 rfl ?_
  refine k_iload hF dX6_add_20 rfl ?_
  obtain ⟨v4, hv4, h⟩ := bind_some h
  refine k_callSN hF hA (as := [.int v1.1]) (ct_X10_bit hbs hv4) msn_X6_41 rfl rfl ⟨Nat.le_of_ble_eq_true rfl, Nat.le_of_ble_eq_true rfl⟩ (Nat.le_of_ble_eq_true rfl) dX6_add_22 ?_
  refine k_st (st2 := [.int v4, .int (gi σ3 1 10), .ref (B + 1)]) rfl ?_
  refine k_ior hF dX6_add_25 ?_
  refine k_putI hF hA shC_1 fp_X6_34_X6 dX6_add_26 rfl rfl rfl ?_
  obtain ⟨σ5, hσ5, h⟩ := lt_some h
  refine k_sig hσ5 ?_
  refine k_aload_n hF dX6_add_29 rfl ?_
  refine k_iload hF dX6_add_30 rfl ?_
  refine k_iload_n hF dX6_add_32 rfl ?_
  refine k_iload_n hF dX6_add_33 rfl ?_
  obtain ⟨v6, hv6, h⟩ := bind_some h
  refine k_callV hF hA (as := [.int v1.1, .int a2, .int a3]) (ct_X6_put hbs hv6) mv_X6_44 shC_1 rfl rfl rfl ⟨Nat.le_of_ble_eq_true rfl, Nat.le_of_ble_eq_true rfl⟩ (Nat.le_of_ble_eq_true rfl) dX6_add_34 ?_
  refine k_st (st2 := []) rfl ?_
  refine k_iload hF dX6_add_37 rfl ?_
  cases h
  exact hr _ _ rfl dX6_add_39
theorem ct_X6_add {l : Launch} {D : DD} {base B : Nat} (hbs : base ≤ B) {σ : St} {a1 : Int32} {a2 : Int32} {a3 : Int32} {r : (Int32 × St)} (h : fX6_add σ a1 a2 a3 = some r) : MetR l D B shpC base yX6_add cX6_add 5 (some .int) 1 23 [.ref (B + 1), .int a1, .int a2, .int a3] σ (some (.int r.1)) r.2 :=
  MetR.of (by decide +kernel) (fun v hv => by simp only [List.mem_cons, List.not_mem_nil, or_false] at hv; rcases hv with rfl | rfl | rfl | rfl <;> rfl) (Nat.le_of_ble_eq_true rfl) hbs (fun p e s m args below meth c hF hr => wX6_add hF (fun q hq => hq) hbs h (fun pc L hn hd => k_iret hF hr hn hd))
set_option maxHeartbeats 4000000 in
set_option maxRecDepth 100000 in
theorem wX6_leave {p : Program} {l : Launch} {e : Env} {s : State} {m : MethodId} {args : Array Value} {below : List Frame} {meth : Method} {c : Code} {Q : State → Prop} {A : Nat → Prop} {D : DD} {base B : Nat} (hF : KF D base cX6_leave RX6 A 3 0 0 p l e ({ frames := 1, cells := 0, slots := 0, locals := 22 } : Room) s m args below meth c) (hA : ∀ q, RA B shpC q → A q) (hbs : base ≤ B) {σ : St} {a1 : Int32} {a2 : Int32} {z : St} (h : fX6_leave σ a1 a2 = some z) (hr : ∀ (pc : Nat) (L : List (Option Value)), decode cX6_leave pc = .ok (.return_, 1) → KJ (Rep D B shpC) A 3 0 0 Q p l e ({ frames := 1, cells := 0, slots := 0, locals := 22 } : Room) s m args below meth c 0 0 pc L [] z) : KJ (Rep D B shpC) A 3 0 0 Q p l e ({ frames := 1, cells := 0, slots := 0, locals := 22 } : Room) s m args below meth c 0 0 0 [some (.ref (B + 1)), some (.int a1), some (.int a2)] [] σ := by
  unfold fX6_leave at h
  refine k_aload_n hF dX6_leave_0 rfl ?_
  refine k_iload_n hF dX6_leave_1 rfl ?_
  refine k_iload_n hF dX6_leave_2 rfl ?_
  obtain ⟨v1, hv1, h⟩ := bind_some h
  refine k_callU hF hA (as := [.int a1, .int a2]) (ct_X7_endN hbs hv1) mu_X6_48 shC_1 rfl rfl rfl ⟨Nat.le_of_ble_eq_true rfl, Nat.le_of_ble_eq_true rfl⟩ (Nat.le_of_ble_eq_true rfl) dX6_leave_3 ?_
  refine k_st (st2 := []) rfl ?_
  refine k_aload_n hF dX6_leave_6 rfl ?_
  refine k_get hF (v := .ref (B + 6)) shC_1 fl_X6_18_X6 dX6_leave_7 rfl ?_
  refine k_iload_n hF dX6_leave_10 rfl ?_
  refine k_iload_n hF dX6_leave_11 rfl ?_
  obtain ⟨g2, h⟩ := gd_some h
  refine k_iast hF hA shC_6 dX6_leave_12 g2 ?_
  obtain ⟨σ3, hσ3, h⟩ := lt_some h
  refine k_sig hσ3 ?_
  refine k_aload_n hF dX6_leave_13 rfl ?_
  refine k_dup hF dX6_leave_14 rfl ?_
  refine k_get hF (v := .int (gi σ3 1 10)) shC_1 fl_X6_34_X6 dX6_leave_15 rfl ?_
  refine k_iload_n hF dX6_leave_18 rfl ?_
  obtain ⟨v4, hv4, h⟩ := bind_some h
  refine k_callSN hF hA (as := [.int a1]) (ct_X10_bit hbs hv4) msn_X6_41 rfl rfl ⟨Nat.le_of_ble_eq_true rfl, Nat.le_of_ble_eq_true rfl⟩ (Nat.le_of_ble_eq_true rfl) dX6_leave_19 ?_
  refine k_st (st2 := [.int v4, .int (gi σ3 1 10), .ref (B + 1)]) rfl ?_
  refine k_iconst hF dX6_leave_22 ci_m1 ?_
  refine k_ixor hF dX6_leave_23 ?_
  refine k_iand hF dX6_leave_24 ?_
  refine k_putI hF hA shC_1 fp_X6_34_X6 dX6_leave_25 rfl rfl rfl ?_
  obtain ⟨σ5, hσ5, h⟩ := lt_some h
  refine k_sig hσ5 ?_
  cases h
  exact hr _ _ dX6_leave_28
theorem ct_X6_leave {l : Launch} {D : DD} {base B : Nat} (hbs : base ≤ B) {σ : St} {a1 : Int32} {a2 : Int32} {r : St} (h : fX6_leave σ a1 a2 = some r) : MetR l D B shpC base yX6_leave cX6_leave 3 none 1 22 [.ref (B + 1), .int a1, .int a2] σ none r :=
  MetR.of (by decide +kernel) (fun v hv => by simp only [List.mem_cons, List.not_mem_nil, or_false] at hv; rcases hv with rfl | rfl | rfl <;> rfl) (Nat.le_of_ble_eq_true rfl) hbs (fun p e s m args below meth c hF hr => wX6_leave hF (fun q hq => hq) hbs h (fun pc L hd => k_vret hF hr hd))
set_option maxHeartbeats 4000000 in
set_option maxRecDepth 100000 in
theorem wX6_valueAsOf_j38 {p : Program} {l : Launch} {e : Env} {s : State} {m : MethodId} {args : Array Value} {below : List Frame} {meth : Method} {c : Code} {Q : State → Prop} {A : Nat → Prop} {D : DD} {base B : Nat} (hF : KF D base cX6_valueAsOf RX6 A 4 0 0 p l e ({ frames := 0, cells := 0, slots := 0, locals := 0 } : Room) s m args below meth c) (hA : ∀ q, RA B shpC q → A q) (hbs : base ≤ B) {σ : St} {a1 : Int32} {a2 : Int32} {b3 : Int32} {z : (Int32 ⊕ (Int32 ⊕ Int32))} (h : fX6_valueAsOf_j38 σ a1 a2 b3 = some z) (hc : ∀ x, z = .inl x → KJ (Rep D B shpC) A 4 0 0 Q p l e ({ frames := 0, cells := 0, slots := 0, locals := 0 } : Room) s m args below meth c 0 0 7 [some (.ref (B + 1)), some (.int a1), some (.int a2), some (.int x)] [] σ) (he : ∀ w, z = .inr w → Sum.elim (fun x => KJ (Rep D B shpC) A 4 0 0 Q p l e ({ frames := 0, cells := 0, slots := 0, locals := 0 } : Room) s m args below meth c 0 0 44 [some (.ref (B + 1)), some (.int a1), some (.int a2), some (.int x)] [] σ) (fun r => ∀ (pc : Nat) (L : List (Option Value)), narrow .int (.int r) = .int r → decode cX6_valueAsOf pc = .ok (.ireturn, 1) → KJ (Rep D B shpC) A 4 0 0 Q p l e ({ frames := 0, cells := 0, slots := 0, locals := 0 } : Room) s m args below meth c 0 0 pc L [.int r] σ) w) : KJ (Rep D B shpC) A 4 0 0 Q p l e ({ frames := 0, cells := 0, slots := 0, locals := 0 } : Room) s m args below meth c 0 0 38 [some (.ref (B + 1)), some (.int a1), some (.int a2), some (.int b3)] [] σ := by
  unfold fX6_valueAsOf_j38 at h
  refine k_iinc hF (v := (b3 + (-1 : Int32))) (L' := [some (.ref (B + 1)), some (.int a1), some (.int a2), some (.int (b3 + (-1 : Int32)))]) dX6_valueAsOf_38 rfl (by first | rfl | (congr 1)) (by decide) rfl ?_
  refine k_goto hF dX6_valueAsOf_41 (tgt := 7) (by decide) ?_
  exact hc _ (Option.some.inj h).symm
set_option maxHeartbeats 4000000 in
set_option maxRecDepth 100000 in
theorem wX6_valueAsOf_l7 {p : Program} {l : Launch} {e : Env} {s : State} {m : MethodId} {args : Array Value} {below : List Frame} {meth : Method} {c : Code} {Q : State → Prop} {A : Nat → Prop} {D : DD} {base B : Nat} (hF : KF D base cX6_valueAsOf RX6 A 4 0 0 p l e ({ frames := 0, cells := 0, slots := 0, locals := 0 } : Room) s m args below meth c) (hA : ∀ q, RA B shpC q → A q) (hbs : base ≤ B) {σ : St} {a1 : Int32} {a2 : Int32} {x : Int32} {z : (Int32 ⊕ (Int32 ⊕ Int32))} (h : fX6_valueAsOf_l7 σ a1 a2 x = some z) (hc : ∀ x, z = .inl x → KJ (Rep D B shpC) A 4 0 0 Q p l e ({ frames := 0, cells := 0, slots := 0, locals := 0 } : Room) s m args below meth c 0 0 7 [some (.ref (B + 1)), some (.int a1), some (.int a2), some (.int x)] [] σ) (he : ∀ w, z = .inr w → Sum.elim (fun x => KJ (Rep D B shpC) A 4 0 0 Q p l e ({ frames := 0, cells := 0, slots := 0, locals := 0 } : Room) s m args below meth c 0 0 44 [some (.ref (B + 1)), some (.int a1), some (.int a2), some (.int x)] [] σ) (fun r => ∀ (pc : Nat) (L : List (Option Value)), narrow .int (.int r) = .int r → decode cX6_valueAsOf pc = .ok (.ireturn, 1) → KJ (Rep D B shpC) A 4 0 0 Q p l e ({ frames := 0, cells := 0, slots := 0, locals := 0 } : Room) s m args below meth c 0 0 pc L [.int r] σ) w) : KJ (Rep D B shpC) A 4 0 0 Q p l e ({ frames := 0, cells := 0, slots := 0, locals := 0 } : Room) s m args below meth c 0 0 7 [some (.ref (B + 1)), some (.int a1), some (.int a2), some (.int x)] [] σ := by
  unfold fX6_valueAsOf_l7 at h
  refine k_iload_n hF dX6_valueAsOf_7 rfl ?_
  refine k_if_lt hF (tgt := 44) dX6_valueAsOf_8 (by decide) (fun c2 => ?_) (fun c2 => ?_)
  · replace h := ite_t c2 h
    exact he _ (Option.some.inj h).symm
  · replace h := ite_f c2 h
    refine k_aload_n hF dX6_valueAsOf_11 rfl ?_
    refine k_get hF (v := .ref (B + 7)) shC_1 fl_X6_21_X6 dX6_valueAsOf_12 rfl ?_
    refine k_iload_n hF dX6_valueAsOf_15 rfl ?_
    obtain ⟨g3, h⟩ := gd_some h
    refine k_iald hF shC_7 dX6_valueAsOf_16 g3 ?_
    refine k_iload_n hF dX6_valueAsOf_17 rfl ?_
    refine k_icmp_ne hF (tgt := 38) dX6_valueAsOf_18 (by decide) (fun c4 => ?_) (fun c4 => ?_)
    · replace h := ite_f c4 h
      exact wX6_valueAsOf_j38 hF hA hbs h hc he
    · replace h := ite_t c4 h
      refine k_aload_n hF dX6_valueAsOf_21 rfl ?_
      refine k_get hF (v := .ref (B + 9)) shC_1 fl_X6_27_X6 dX6_valueAsOf_22 rfl ?_
      refine k_iload_n hF dX6_valueAsOf_25 rfl ?_
      obtain ⟨g5, h⟩ := gd_some h
      refine k_iald hF shC_9 dX6_valueAsOf_26 g5 ?_
      refine k_iload_n hF dX6_valueAsOf_27 rfl ?_
      refine k_icmp_gt hF (tgt := 38) dX6_valueAsOf_28 (by decide) (fun c6 => ?_) (fun c6 => ?_)
      · replace h := ite_t c6 h
        exact wX6_valueAsOf_j38 hF hA hbs h hc he
      · replace h := ite_f c6 h
        refine k_aload_n hF dX6_valueAsOf_31 rfl ?_
        refine k_get hF (v := .ref (B + 8)) shC_1 fl_X6_24_X6 dX6_valueAsOf_32 rfl ?_
        refine k_iload_n hF dX6_valueAsOf_35 rfl ?_
        obtain ⟨g7, h⟩ := gd_some h
        refine k_iald hF shC_8 dX6_valueAsOf_36 g7 ?_
        exact he _ (Option.some.inj h).symm _ _ rfl dX6_valueAsOf_37
set_option maxHeartbeats 4000000 in
set_option maxRecDepth 100000 in
theorem wX6_valueAsOf {p : Program} {l : Launch} {e : Env} {s : State} {m : MethodId} {args : Array Value} {below : List Frame} {meth : Method} {c : Code} {Q : State → Prop} {A : Nat → Prop} {D : DD} {base B : Nat} (hF : KF D base cX6_valueAsOf RX6 A 4 0 0 p l e ({ frames := 0, cells := 0, slots := 0, locals := 0 } : Room) s m args below meth c) (hA : ∀ q, RA B shpC q → A q) (hbs : base ≤ B) {σ : St} {a1 : Int32} {a2 : Int32} {z : Int32} (h : fX6_valueAsOf σ a1 a2 = some z) (hr : ∀ (pc : Nat) (L : List (Option Value)), narrow .int (.int z) = .int z → decode cX6_valueAsOf pc = .ok (.ireturn, 1) → KJ (Rep D B shpC) A 4 0 0 Q p l e ({ frames := 0, cells := 0, slots := 0, locals := 0 } : Room) s m args below meth c 0 0 pc L [.int z] σ) : KJ (Rep D B shpC) A 4 0 0 Q p l e ({ frames := 0, cells := 0, slots := 0, locals := 0 } : Room) s m args below meth c 0 0 0 [some (.ref (B + 1)), some (.int a1), some (.int a2), none] [] σ := by
  unfold fX6_valueAsOf at h
  refine k_aload_n hF dX6_valueAsOf_0 rfl ?_
  refine k_get hF (v := .int (gi σ 1 9)) shC_1 fl_X6_30_X6 dX6_valueAsOf_1 rfl ?_
  refine k_iconst hF dX6_valueAsOf_4 ci_1 ?_
  refine k_isub hF dX6_valueAsOf_5 ?_
  obtain ⟨n1, hn1, h⟩ := lt_some h
  refine k_st (st2 := [.int n1]) (by rw [hn1]) ?_
  refine k_istore_n hF (L' := [some (.ref (B + 1)), some (.int a1), some (.int a2), some (.int n1)]) dX6_valueAsOf_6 (by decide) rfl ?_
  obtain ⟨x8, hx8, h⟩ := bind_some h
  refine k_loop (P := fun xq => KJ (Rep D B shpC) A 4 0 0 Q p l e ({ frames := 0, cells := 0, slots := 0, locals := 0 } : Room) s m args below meth c 0 0 7 [some (.ref (B + 1)), some (.int a1), some (.int a2), some (.int xq)] [] σ) (C := fun wq => Sum.elim (fun xq => KJ (Rep D B shpC) A 4 0 0 Q p l e ({ frames := 0, cells := 0, slots := 0, locals := 0 } : Room) s m args below meth c 0 0 44 [some (.ref (B + 1)), some (.int a1), some (.int a2), some (.int xq)] [] σ) (fun rq => ∀ (pc : Nat) (L : List (Option Value)), narrow .int (.int rq) = .int rq → decode cX6_valueAsOf pc = .ok (.ireturn, 1) → KJ (Rep D B shpC) A 4 0 0 Q p l e ({ frames := 0, cells := 0, slots := 0, locals := 0 } : Room) s m args below meth c 0 0 pc L [.int rq] σ) wq) (fun x z hz hc he => wX6_valueAsOf_l7 hF hA hbs hz hc he) hx8 ?_
  rcases x8 with x9 | r10
  · show KJ (Rep D B shpC) A 4 0 0 Q p l e ({ frames := 0, cells := 0, slots := 0, locals := 0 } : Room) s m args below meth c 0 0 44 [some (.ref (B + 1)), some (.int a1), some (.int a2), some (.int x9)] [] σ
    replace h : _ = some z := h
    refine k_aload_n hF dX6_valueAsOf_44 rfl ?_
    refine k_get hF (v := .ref (B + 5)) shC_1 fl_X6_15_X6 dX6_valueAsOf_45 rfl ?_
    refine k_iload_n hF dX6_valueAsOf_48 rfl ?_
    obtain ⟨g11, h⟩ := gd_some h
    refine k_iald hF shC_5 dX6_valueAsOf_49 g11 ?_
    cases h
    exact hr _ _ rfl dX6_valueAsOf_50
  · replace h : some (r10) = some z := h
    cases h; exact hr
theorem ct_X6_valueAsOf {l : Launch} {D : DD} {base B : Nat} (hbs : base ≤ B) {σ : St} {a1 : Int32} {a2 : Int32} {r : Int32} (h : fX6_valueAsOf σ a1 a2 = some r) : MetR l D B shpC base yX6_valueAsOf cX6_valueAsOf 4 (some .int) 0 0 [.ref (B + 1), .int a1, .int a2] σ (some (.int r)) σ :=
  MetR.of (by decide +kernel) (fun v hv => by simp only [List.mem_cons, List.not_mem_nil, or_false] at hv; rcases hv with rfl | rfl | rfl <;> rfl) (Nat.le_of_ble_eq_true rfl) hbs (fun p e s m args below meth c hF hr => wX6_valueAsOf hF (fun q hq => hq) hbs h (fun pc L hn hd => k_iret hF hr hn hd))
set_option maxHeartbeats 4000000 in
set_option maxRecDepth 100000 in
theorem wX6_labelled_j37 {p : Program} {l : Launch} {e : Env} {s : State} {m : MethodId} {args : Array Value} {below : List Frame} {meth : Method} {c : Code} {Q : State → Prop} {A : Nat → Prop} {D : DD} {base B : Nat} (hF : KF D base cX6_labelled RX6 A 4 0 0 p l e ({ frames := 1, cells := 0, slots := 0, locals := 21 } : Room) s m args below meth c) (hA : ∀ q, RA B shpC q → A q) (hbs : base ≤ B) {σ : St} {a1 : Int32} {b2 : Int32} {b3 : Int32} {z : ((Int32 × Int32) ⊕ (Int32 × Int32))} (h : fX6_labelled_j37 σ a1 b2 b3 = some z) (hc : ∀ x, z = .inl x → KJ (Rep D B shpC) A 4 0 0 Q p l e ({ frames := 1, cells := 0, slots := 0, locals := 21 } : Room) s m args below meth c 0 0 4 [some (.ref (B + 1)), some (.int a1), some (.int x.1), some (.int x.2)] [] σ) (he : ∀ w, z = .inr w → KJ (Rep D B shpC) A 4 0 0 Q p l e ({ frames := 1, cells := 0, slots := 0, locals := 21 } : Room) s m args below meth c 0 0 43 [some (.ref (B + 1)), some (.int a1), some (.int w.1), some (.int w.2)] [] σ) : KJ (Rep D B shpC) A 4 0 0 Q p l e ({ frames := 1, cells := 0, slots := 0, locals := 21 } : Room) s m args below meth c 0 0 37 [some (.ref (B + 1)), some (.int a1), some (.int b2), some (.int b3)] [] σ := by
  unfold fX6_labelled_j37 at h
  refine k_iinc hF (v := (b3 + (1 : Int32))) (L' := [some (.ref (B + 1)), some (.int a1), some (.int b2), some (.int (b3 + (1 : Int32)))]) dX6_labelled_37 rfl (by first | rfl | (congr 1)) (by decide) rfl ?_
  refine k_goto hF dX6_labelled_40 (tgt := 4) (by decide) ?_
  exact hc _ (Option.some.inj h).symm
set_option maxHeartbeats 4000000 in
set_option maxRecDepth 100000 in
theorem wX6_labelled_l4 {p : Program} {l : Launch} {e : Env} {s : State} {m : MethodId} {args : Array Value} {below : List Frame} {meth : Method} {c : Code} {Q : State → Prop} {A : Nat → Prop} {D : DD} {base B : Nat} (hF : KF D base cX6_labelled RX6 A 4 0 0 p l e ({ frames := 1, cells := 0, slots := 0, locals := 21 } : Room) s m args below meth c) (hA : ∀ q, RA B shpC q → A q) (hbs : base ≤ B) {σ : St} {a1 : Int32} {x : (Int32 × Int32)} {z : ((Int32 × Int32) ⊕ (Int32 × Int32))} (h : fX6_labelled_l4 σ a1 x = some z) (hc : ∀ x, z = .inl x → KJ (Rep D B shpC) A 4 0 0 Q p l e ({ frames := 1, cells := 0, slots := 0, locals := 21 } : Room) s m args below meth c 0 0 4 [some (.ref (B + 1)), some (.int a1), some (.int x.1), some (.int x.2)] [] σ) (he : ∀ w, z = .inr w → KJ (Rep D B shpC) A 4 0 0 Q p l e ({ frames := 1, cells := 0, slots := 0, locals := 21 } : Room) s m args below meth c 0 0 43 [some (.ref (B + 1)), some (.int a1), some (.int w.1), some (.int w.2)] [] σ) : KJ (Rep D B shpC) A 4 0 0 Q p l e ({ frames := 1, cells := 0, slots := 0, locals := 21 } : Room) s m args below meth c 0 0 4 [some (.ref (B + 1)), some (.int a1), some (.int x.1), some (.int x.2)] [] σ := by
  unfold fX6_labelled_l4 at h
  refine k_iload_n hF dX6_labelled_4 rfl ?_
  refine k_aload_n hF dX6_labelled_5 rfl ?_
  refine k_get hF (v := .int (gi σ 1 2)) shC_1 fl_X6_52_X6 dX6_labelled_6 rfl ?_
  refine k_icmp_ge hF (tgt := 43) dX6_labelled_9 (by decide) (fun c1 => ?_) (fun c1 => ?_)
  · replace h := ite_t c1 h
    exact he _ (Option.some.inj h).symm
  · replace h := ite_f c1 h
    refine k_aload_n hF dX6_labelled_12 rfl ?_
    refine k_iload_n hF dX6_labelled_13 rfl ?_
    obtain ⟨v2, hv2, h⟩ := bind_some h
    refine k_callU hF hA (as := [.int x.2]) (ct_X7_isThereN hbs hv2) mu_X6_55 shC_1 rfl rfl rfl ⟨Nat.le_of_ble_eq_true rfl, Nat.le_of_ble_eq_true rfl⟩ (Nat.le_of_ble_eq_true rfl) dX6_labelled_14 ?_
    refine k_st (st2 := [.int v2]) rfl ?_
    refine k_if_eq hF (tgt := 37) dX6_labelled_17 (by decide) (fun c3 => ?_) (fun c3 => ?_)
    · replace h := ite_t c3 h
      exact wX6_labelled_j37 hF hA hbs h hc he
    · replace h := ite_f c3 h
      refine k_aload_n hF dX6_labelled_20 rfl ?_
      refine k_get hF (v := .ref (B + 4)) shC_1 fl_X6_9_X6 dX6_labelled_21 rfl ?_
      refine k_iload_n hF dX6_labelled_24 rfl ?_
      obtain ⟨g4, h⟩ := gd_some h
      refine k_iald hF shC_4 dX6_labelled_25 g4 ?_
      refine k_iload_n hF dX6_labelled_26 rfl ?_
      refine k_icmp_ne hF (tgt := 37) dX6_labelled_27 (by decide) (fun c5 => ?_) (fun c5 => ?_)
      · replace h := ite_f c5 h
        exact wX6_labelled_j37 hF hA hbs h hc he
      · replace h := ite_t c5 h
        refine k_iload_n hF dX6_labelled_30 rfl ?_
        refine k_iload_n hF dX6_labelled_31 rfl ?_
        obtain ⟨v6, hv6, h⟩ := bind_some h
        refine k_callSN hF hA (as := [.int x.2]) (ct_X10_bit hbs hv6) msn_X6_41 rfl rfl ⟨Nat.le_of_ble_eq_true rfl, Nat.le_of_ble_eq_true rfl⟩ (Nat.le_of_ble_eq_true rfl) dX6_labelled_32 ?_
        refine k_st (st2 := [.int v6, .int x.1]) rfl ?_
        refine k_ior hF dX6_labelled_35 ?_
        refine k_istore_n hF (L' := [some (.ref (B + 1)), some (.int a1), some (.int (x.1 ||| v6)), some (.int x.2)]) dX6_labelled_36 (by decide) rfl ?_
        exact wX6_labelled_j37 hF hA hbs h hc he
set_option maxHeartbeats 4000000 in
set_option maxRecDepth 100000 in
theorem wX6_labelled {p : Program} {l : Launch} {e : Env} {s : State} {m : MethodId} {args : Array Value} {below : List Frame} {meth : Method} {c : Code} {Q : State → Prop} {A : Nat → Prop} {D : DD} {base B : Nat} (hF : KF D base cX6_labelled RX6 A 4 0 0 p l e ({ frames := 1, cells := 0, slots := 0, locals := 21 } : Room) s m args below meth c) (hA : ∀ q, RA B shpC q → A q) (hbs : base ≤ B) {σ : St} {a1 : Int32} {z : Int32} (h : fX6_labelled σ a1 = some z) (hr : ∀ (pc : Nat) (L : List (Option Value)), narrow .int (.int z) = .int z → decode cX6_labelled pc = .ok (.ireturn, 1) → KJ (Rep D B shpC) A 4 0 0 Q p l e ({ frames := 1, cells := 0, slots := 0, locals := 21 } : Room) s m args below meth c 0 0 pc L [.int z] σ) : KJ (Rep D B shpC) A 4 0 0 Q p l e ({ frames := 1, cells := 0, slots := 0, locals := 21 } : Room) s m args below meth c 0 0 0 [some (.ref (B + 1)), some (.int a1), none, none] [] σ := by
  unfold fX6_labelled at h
  refine k_iconst hF dX6_labelled_0 ci_0 ?_
  refine k_istore_n hF (L' := [some (.ref (B + 1)), some (.int a1), some (.int (0 : Int32)), none]) dX6_labelled_1 (by decide) rfl ?_
  refine k_iconst hF dX6_labelled_2 ci_0 ?_
  refine k_istore_n hF (L' := [some (.ref (B + 1)), some (.int a1), some (.int (0 : Int32)), some (.int (0 : Int32))]) dX6_labelled_3 (by decide) rfl ?_
  obtain ⟨x7, hx7, h⟩ := bind_some h
  refine k_loop (P := fun xq => KJ (Rep D B shpC) A 4 0 0 Q p l e ({ frames := 1, cells := 0, slots := 0, locals := 21 } : Room) s m args below meth c 0 0 4 [some (.ref (B + 1)), some (.int a1), some (.int xq.1), some (.int xq.2)] [] σ) (C := fun xq => KJ (Rep D B shpC) A 4 0 0 Q p l e ({ frames := 1, cells := 0, slots := 0, locals := 21 } : Room) s m args below meth c 0 0 43 [some (.ref (B + 1)), some (.int a1), some (.int xq.1), some (.int xq.2)] [] σ) (fun x z hz hc he => wX6_labelled_l4 hF hA hbs hz hc he) hx7 ?_
  show KJ (Rep D B shpC) A 4 0 0 Q p l e ({ frames := 1, cells := 0, slots := 0, locals := 21 } : Room) s m args below meth c 0 0 43 [some (.ref (B + 1)), some (.int a1), some (.int x7.1), some (.int x7.2)] [] σ
  refine k_iload_n hF dX6_labelled_43 rfl ?_
  cases h
  exact hr _ _ rfl dX6_labelled_44
theorem ct_X6_labelled {l : Launch} {D : DD} {base B : Nat} (hbs : base ≤ B) {σ : St} {a1 : Int32} {r : Int32} (h : fX6_labelled σ a1 = some r) : MetR l D B shpC base yX6_labelled cX6_labelled 4 (some .int) 1 21 [.ref (B + 1), .int a1] σ (some (.int r)) σ :=
  MetR.of (by decide +kernel) (fun v hv => by simp only [List.mem_cons, List.not_mem_nil, or_false] at hv; rcases hv with rfl | rfl <;> rfl) (Nat.le_of_ble_eq_true rfl) hbs (fun p e s m args below meth c hF hr => wX6_labelled hF (fun q hq => hq) hbs h (fun pc L hn hd => k_iret hF hr hn hd))
set_option maxHeartbeats 4000000 in
set_option maxRecDepth 100000 in
theorem wX0_add {p : Program} {l : Launch} {e : Env} {s : State} {m : MethodId} {args : Array Value} {below : List Frame} {meth : Method} {c : Code} {Q : State → Prop} {A : Nat → Prop} {D : DD} {base B : Nat} (hF : KF D base cX0_add RX0 A 6 0 0 p l e ({ frames := 1, cells := 0, slots := 0, locals := 22 } : Room) s m args below meth c) (hA : ∀ q, RA B shpC q → A q) (hbs : base ≤ B) {σ : St} {a1 : Int32} {a2 : Int32} {a3 : Int32} {a4 : Int32} {z : (Int32 × St)} (h : fX0_add σ a1 a2 a3 a4 = some z) (hr : ∀ (pc : Nat) (L : List (Option Value)), narrow .int (.int z.1) = .int z.1 → decode cX0_add pc = .ok (.ireturn, 1) → KJ (Rep D B shpC) A 6 0 0 Q p l e ({ frames := 1, cells := 0, slots := 0, locals := 22 } : Room) s m args below meth c 0 0 pc L [.int z.1] z.2) : KJ (Rep D B shpC) A 6 0 0 Q p l e ({ frames := 1, cells := 0, slots := 0, locals := 22 } : Room) s m args below meth c 0 0 0 [some (.ref (B + 10)), some (.int a1), some (.int a2), some (.int a3), some (.int a4), none] [] σ := by
  unfold fX0_add at h
  refine k_aload_n hF dX0_add_0 rfl ?_
  refine k_iload hF dX0_add_1 rfl ?_
  obtain ⟨v1, hv1, h⟩ := bind_some h
  refine k_callU hF hA (as := [.int a4]) (ct_X7_comeE hbs hv1) mu_X0_21 shC_10 rfl rfl rfl ⟨Nat.le_of_ble_eq_true rfl, Nat.le_of_ble_eq_true rfl⟩ (Nat.le_of_ble_eq_true rfl) dX0_add_3 ?_
  refine k_st (st2 := [.int v1.1]) rfl ?_
  refine k_istore hF (L' := [some (.ref (B + 10)), some (.int a1), some (.int a2), some (.int a3), some (.int a4), some (.int v1.1)]) dX0_add_6 (by decide) rfl ?_
  refine k_aload_n hF dX0_add_8 rfl ?_
  refine k_get hF (v := .ref (B + 13)) shC_10 fl_X0_9_X0 dX0_add_9 rfl ?_
  refine k_iload hF dX0_add_12 rfl ?_
  refine k_iload_n hF dX0_add_14 rfl ?_
  obtain ⟨g2, h⟩ := gd_some h
  refine k_iast hF hA shC_13 dX0_add_15 g2 ?_
  obtain ⟨σ3, hσ3, h⟩ := lt_some h
  refine k_sig hσ3 ?_
  refine k_aload_n hF dX0_add_16 rfl ?_
  refine k_get hF (v := .ref (B + 14)) shC_10 fl_X0_15_X0 dX0_add_17 rfl ?_
  refine k_iload hF dX0_add_20 rfl ?_
  refine k_iload_n hF dX0_add_22 rfl ?_
  obtain ⟨g4, h⟩ := gd_some h
  refine k_iast hF hA shC_14 dX0_add_23 g4 ?_
  obtain ⟨σ5, hσ5, h⟩ := lt_some h
  refine k_sig hσ5 ?_
  refine k_aload_n hF dX0_add_24 rfl ?_
  refine k_get hF (v := .ref (B + 15)) shC_10 fl_X0_18_X0 dX0_add_25 rfl ?_
  refine k_iload hF dX0_add_28 rfl ?_
  refine k_iload_n hF dX0_add_30 rfl ?_
  obtain ⟨g6, h⟩ := gd_some h
  refine k_iast hF hA shC_15 dX0_add_31 g6 ?_
  obtain ⟨σ7, hσ7, h⟩ := lt_some h
  refine k_sig hσ7 ?_
  refine k_iload hF dX0_add_32 rfl ?_
  cases h
  exact hr _ _ rfl dX0_add_34
theorem ct_X0_add {l : Launch} {D : DD} {base B : Nat} (hbs : base ≤ B) {σ : St} {a1 : Int32} {a2 : Int32} {a3 : Int32} {a4 : Int32} {r : (Int32 × St)} (h : fX0_add σ a1 a2 a3 a4 = some r) : MetR l D B shpC base yX0_add cX0_add 6 (some .int) 1 22 [.ref (B + 10), .int a1, .int a2, .int a3, .int a4] σ (some (.int r.1)) r.2 :=
  MetR.of (by decide +kernel) (fun v hv => by simp only [List.mem_cons, List.not_mem_nil, or_false] at hv; rcases hv with rfl | rfl | rfl | rfl | rfl <;> rfl) (Nat.le_of_ble_eq_true rfl) hbs (fun p e s m args below meth c hF hr => wX0_add hF (fun q hq => hq) hbs h (fun pc L hn hd => k_iret hF hr hn hd))
set_option maxHeartbeats 4000000 in
set_option maxRecDepth 100000 in
theorem wX0_countLike_j60 {p : Program} {l : Launch} {e : Env} {s : State} {m : MethodId} {args : Array Value} {below : List Frame} {meth : Method} {c : Code} {Q : State → Prop} {A : Nat → Prop} {D : DD} {base B : Nat} (hF : KF D base cX0_countLike RX0 A 6 0 0 p l e ({ frames := 1, cells := 0, slots := 0, locals := 21 } : Room) s m args below meth c) (hA : ∀ q, RA B shpC q → A q) (hbs : base ≤ B) {σ : St} {a1 : Int32} {a2 : Int32} {a3 : Int32} {b4 : Int32} {b5 : Int32} {z : ((Int32 × Int32) ⊕ (Int32 × Int32))} (h : fX0_countLike_j60 σ a1 a2 a3 b4 b5 = some z) (hc : ∀ x, z = .inl x → KJ (Rep D B shpC) A 6 0 0 Q p l e ({ frames := 1, cells := 0, slots := 0, locals := 21 } : Room) s m args below meth c 0 0 6 [some (.ref (B + 10)), some (.int a1), some (.int a2), some (.int a3), some (.int x.1), some (.int x.2)] [] σ) (he : ∀ w, z = .inr w → KJ (Rep D B shpC) A 6 0 0 Q p l e ({ frames := 1, cells := 0, slots := 0, locals := 21 } : Room) s m args below meth c 0 0 66 [some (.ref (B + 10)), some (.int a1), some (.int a2), some (.int a3), some (.int w.1), some (.int w.2)] [] σ) : KJ (Rep D B shpC) A 6 0 0 Q p l e ({ frames := 1, cells := 0, slots := 0, locals := 21 } : Room) s m args below meth c 0 0 60 [some (.ref (B + 10)), some (.int a1), some (.int a2), some (.int a3), some (.int b4), some (.int b5)] [] σ := by
  unfold fX0_countLike_j60 at h
  refine k_iinc hF (v := (b5 + (1 : Int32))) (L' := [some (.ref (B + 10)), some (.int a1), some (.int a2), some (.int a3), some (.int b4), some (.int (b5 + (1 : Int32)))]) dX0_countLike_60 rfl (by first | rfl | (congr 1)) (by decide) rfl ?_
  refine k_goto hF dX0_countLike_63 (tgt := 6) (by decide) ?_
  exact hc _ (Option.some.inj h).symm
set_option maxHeartbeats 4000000 in
set_option maxRecDepth 100000 in
theorem wX0_countLike_l6 {p : Program} {l : Launch} {e : Env} {s : State} {m : MethodId} {args : Array Value} {below : List Frame} {meth : Method} {c : Code} {Q : State → Prop} {A : Nat → Prop} {D : DD} {base B : Nat} (hF : KF D base cX0_countLike RX0 A 6 0 0 p l e ({ frames := 1, cells := 0, slots := 0, locals := 21 } : Room) s m args below meth c) (hA : ∀ q, RA B shpC q → A q) (hbs : base ≤ B) {σ : St} {a1 : Int32} {a2 : Int32} {a3 : Int32} {x : (Int32 × Int32)} {z : ((Int32 × Int32) ⊕ (Int32 × Int32))} (h : fX0_countLike_l6 σ a1 a2 a3 x = some z) (hc : ∀ x, z = .inl x → KJ (Rep D B shpC) A 6 0 0 Q p l e ({ frames := 1, cells := 0, slots := 0, locals := 21 } : Room) s m args below meth c 0 0 6 [some (.ref (B + 10)), some (.int a1), some (.int a2), some (.int a3), some (.int x.1), some (.int x.2)] [] σ) (he : ∀ w, z = .inr w → KJ (Rep D B shpC) A 6 0 0 Q p l e ({ frames := 1, cells := 0, slots := 0, locals := 21 } : Room) s m args below meth c 0 0 66 [some (.ref (B + 10)), some (.int a1), some (.int a2), some (.int a3), some (.int w.1), some (.int w.2)] [] σ) : KJ (Rep D B shpC) A 6 0 0 Q p l e ({ frames := 1, cells := 0, slots := 0, locals := 21 } : Room) s m args below meth c 0 0 6 [some (.ref (B + 10)), some (.int a1), some (.int a2), some (.int a3), some (.int x.1), some (.int x.2)] [] σ := by
  unfold fX0_countLike_l6 at h
  refine k_iload hF dX0_countLike_6 rfl ?_
  refine k_aload_n hF dX0_countLike_8 rfl ?_
  refine k_get hF (v := .int (gi σ 10 2)) shC_10 fl_X0_25_X0 dX0_countLike_9 rfl ?_
  refine k_icmp_ge hF (tgt := 66) dX0_countLike_12 (by decide) (fun c1 => ?_) (fun c1 => ?_)
  · replace h := ite_t c1 h
    exact he _ (Option.some.inj h).symm
  · replace h := ite_f c1 h
    refine k_aload_n hF dX0_countLike_15 rfl ?_
    refine k_iload hF dX0_countLike_16 rfl ?_
    obtain ⟨v2, hv2, h⟩ := bind_some h
    refine k_callU hF hA (as := [.int x.2]) (ct_X7_isThereE hbs hv2) mu_X0_29 shC_10 rfl rfl rfl ⟨Nat.le_of_ble_eq_true rfl, Nat.le_of_ble_eq_true rfl⟩ (Nat.le_of_ble_eq_true rfl) dX0_countLike_18 ?_
    refine k_st (st2 := [.int v2]) rfl ?_
    refine k_if_eq hF (tgt := 60) dX0_countLike_21 (by decide) (fun c3 => ?_) (fun c3 => ?_)
    · replace h := ite_t c3 h
      exact wX0_countLike_j60 hF hA hbs h hc he
    · replace h := ite_f c3 h
      refine k_aload_n hF dX0_countLike_24 rfl ?_
      refine k_get hF (v := .ref (B + 13)) shC_10 fl_X0_9_X0 dX0_countLike_25 rfl ?_
      refine k_iload hF dX0_countLike_28 rfl ?_
      obtain ⟨g4, h⟩ := gd_some h
      refine k_iald hF shC_13 dX0_countLike_30 g4 ?_
      refine k_iload_n hF dX0_countLike_31 rfl ?_
      refine k_icmp_ne hF (tgt := 60) dX0_countLike_32 (by decide) (fun c5 => ?_) (fun c5 => ?_)
      · replace h := ite_f c5 h
        exact wX0_countLike_j60 hF hA hbs h hc he
      · replace h := ite_t c5 h
        refine k_aload_n hF dX0_countLike_35 rfl ?_
        refine k_get hF (v := .ref (B + 14)) shC_10 fl_X0_15_X0 dX0_countLike_36 rfl ?_
        refine k_iload hF dX0_countLike_39 rfl ?_
        obtain ⟨g6, h⟩ := gd_some h
        refine k_iald hF shC_14 dX0_countLike_41 g6 ?_
        refine k_iload_n hF dX0_countLike_42 rfl ?_
        refine k_icmp_ne hF (tgt := 60) dX0_countLike_43 (by decide) (fun c7 => ?_) (fun c7 => ?_)
        · replace h := ite_f c7 h
          exact wX0_countLike_j60 hF hA hbs h hc he
        · replace h := ite_t c7 h
          refine k_aload_n hF dX0_countLike_46 rfl ?_
          refine k_get hF (v := .ref (B + 15)) shC_10 fl_X0_18_X0 dX0_countLike_47 rfl ?_
          refine k_iload hF dX0_countLike_50 rfl ?_
          obtain ⟨g8, h⟩ := gd_some h
          refine k_iald hF shC_15 dX0_countLike_52 g8 ?_
          refine k_iload_n hF dX0_countLike_53 rfl ?_
          refine k_icmp_ne hF (tgt := 60) dX0_countLike_54 (by decide) (fun c9 => ?_) (fun c9 => ?_)
          · replace h := ite_f c9 h
            exact wX0_countLike_j60 hF hA hbs h hc he
          · replace h := ite_t c9 h
            refine k_iinc hF (v := (x.1 + (1 : Int32))) (L' := [some (.ref (B + 10)), some (.int a1), some (.int a2), some (.int a3), some (.int (x.1 + (1 : Int32))), some (.int x.2)]) dX0_countLike_57 rfl (by first | rfl | (congr 1)) (by decide) rfl ?_
            exact wX0_countLike_j60 hF hA hbs h hc he
set_option maxHeartbeats 4000000 in
set_option maxRecDepth 100000 in
theorem wX0_countLike {p : Program} {l : Launch} {e : Env} {s : State} {m : MethodId} {args : Array Value} {below : List Frame} {meth : Method} {c : Code} {Q : State → Prop} {A : Nat → Prop} {D : DD} {base B : Nat} (hF : KF D base cX0_countLike RX0 A 6 0 0 p l e ({ frames := 1, cells := 0, slots := 0, locals := 21 } : Room) s m args below meth c) (hA : ∀ q, RA B shpC q → A q) (hbs : base ≤ B) {σ : St} {a1 : Int32} {a2 : Int32} {a3 : Int32} {z : Int32} (h : fX0_countLike σ a1 a2 a3 = some z) (hr : ∀ (pc : Nat) (L : List (Option Value)), narrow .int (.int z) = .int z → decode cX0_countLike pc = .ok (.ireturn, 1) → KJ (Rep D B shpC) A 6 0 0 Q p l e ({ frames := 1, cells := 0, slots := 0, locals := 21 } : Room) s m args below meth c 0 0 pc L [.int z] σ) : KJ (Rep D B shpC) A 6 0 0 Q p l e ({ frames := 1, cells := 0, slots := 0, locals := 21 } : Room) s m args below meth c 0 0 0 [some (.ref (B + 10)), some (.int a1), some (.int a2), some (.int a3), none, none] [] σ := by
  unfold fX0_countLike at h
  refine k_iconst hF dX0_countLike_0 ci_0 ?_
  refine k_istore hF (L' := [some (.ref (B + 10)), some (.int a1), some (.int a2), some (.int a3), some (.int (0 : Int32)), none]) dX0_countLike_1 (by decide) rfl ?_
  refine k_iconst hF dX0_countLike_3 ci_0 ?_
  refine k_istore hF (L' := [some (.ref (B + 10)), some (.int a1), some (.int a2), some (.int a3), some (.int (0 : Int32)), some (.int (0 : Int32))]) dX0_countLike_4 (by decide) rfl ?_
  obtain ⟨x10, hx10, h⟩ := bind_some h
  refine k_loop (P := fun xq => KJ (Rep D B shpC) A 6 0 0 Q p l e ({ frames := 1, cells := 0, slots := 0, locals := 21 } : Room) s m args below meth c 0 0 6 [some (.ref (B + 10)), some (.int a1), some (.int a2), some (.int a3), some (.int xq.1), some (.int xq.2)] [] σ) (C := fun xq => KJ (Rep D B shpC) A 6 0 0 Q p l e ({ frames := 1, cells := 0, slots := 0, locals := 21 } : Room) s m args below meth c 0 0 66 [some (.ref (B + 10)), some (.int a1), some (.int a2), some (.int a3), some (.int xq.1), some (.int xq.2)] [] σ) (fun x z hz hc he => wX0_countLike_l6 hF hA hbs hz hc he) hx10 ?_
  show KJ (Rep D B shpC) A 6 0 0 Q p l e ({ frames := 1, cells := 0, slots := 0, locals := 21 } : Room) s m args below meth c 0 0 66 [some (.ref (B + 10)), some (.int a1), some (.int a2), some (.int a3), some (.int x10.1), some (.int x10.2)] [] σ
  refine k_iload hF dX0_countLike_66 rfl ?_
  cases h
  exact hr _ _ rfl dX0_countLike_68
theorem ct_X0_countLike {l : Launch} {D : DD} {base B : Nat} (hbs : base ≤ B) {σ : St} {a1 : Int32} {a2 : Int32} {a3 : Int32} {r : Int32} (h : fX0_countLike σ a1 a2 a3 = some r) : MetR l D B shpC base yX0_countLike cX0_countLike 6 (some .int) 1 21 [.ref (B + 10), .int a1, .int a2, .int a3] σ (some (.int r)) σ :=
  MetR.of (by decide +kernel) (fun v hv => by simp only [List.mem_cons, List.not_mem_nil, or_false] at hv; rcases hv with rfl | rfl | rfl | rfl <;> rfl) (Nat.le_of_ble_eq_true rfl) hbs (fun p e s m args below meth c hF hr => wX0_countLike hF (fun q hq => hq) hbs h (fun pc L hn hd => k_iret hF hr hn hd))
set_option maxHeartbeats 4000000 in
set_option maxRecDepth 100000 in
theorem wX10_has {p : Program} {l : Launch} {e : Env} {s : State} {m : MethodId} {args : Array Value} {below : List Frame} {meth : Method} {c : Code} {Q : State → Prop} {A : Nat → Prop} {D : DD} {base B : Nat} (hF : KF D base cX10_has RX10 A 2 0 0 p l e ({ frames := 0, cells := 0, slots := 0, locals := 0 } : Room) s m args below meth c) (hA : ∀ q, RA B shpC q → A q) (hbs : base ≤ B) {σ : St} {a0 : Int32} {a1 : Int32} {z : Int32} (h : fX10_has σ a0 a1 = some z) (hr : ∀ (pc : Nat) (L : List (Option Value)), narrow .boolean (.int z) = .int z → decode cX10_has pc = .ok (.ireturn, 1) → KJ (Rep D B shpC) A 2 0 0 Q p l e ({ frames := 0, cells := 0, slots := 0, locals := 0 } : Room) s m args below meth c 0 0 pc L [.int z] σ) : KJ (Rep D B shpC) A 2 0 0 Q p l e ({ frames := 0, cells := 0, slots := 0, locals := 0 } : Room) s m args below meth c 0 0 0 [some (.int a0), some (.int a1)] [] σ := by
  unfold fX10_has at h
  refine k_iload_n hF dX10_has_0 rfl ?_
  refine k_iload_n hF dX10_has_1 rfl ?_
  refine k_iushr hF dX10_has_2 ?_
  refine k_iconst hF dX10_has_3 ci_1 ?_
  refine k_iand hF dX10_has_4 ?_
  refine k_if_eq hF (tgt := 12) dX10_has_5 (by decide) (fun c1 => ?_) (fun c1 => ?_)
  · replace h := ite_t c1 h
    refine k_iconst hF dX10_has_12 ci_0 ?_
    cases h
    exact hr _ _ nar_0 dX10_has_13
  · replace h := ite_f c1 h
    refine k_iconst hF dX10_has_8 ci_1 ?_
    refine k_goto hF dX10_has_9 (tgt := 13) (by decide) ?_
    cases h
    exact hr _ _ nar_1 dX10_has_13
theorem ct_X10_has {l : Launch} {D : DD} {base B : Nat} (hbs : base ≤ B) {σ : St} {a0 : Int32} {a1 : Int32} {r : Int32} (h : fX10_has σ a0 a1 = some r) : MetR l D B shpC base yX10_has cX10_has 2 (some .boolean) 0 0 [.int a0, .int a1] σ (some (.int r)) σ :=
  MetR.of (by decide +kernel) (fun v hv => by simp only [List.mem_cons, List.not_mem_nil, or_false] at hv; rcases hv with rfl | rfl <;> rfl) (Nat.le_of_ble_eq_true rfl) hbs (fun p e s m args below meth c hF hr => wX10_has hF (fun q hq => hq) hbs h (fun pc L hn hd => k_iret hF hr hn hd))
set_option maxHeartbeats 4000000 in
set_option maxRecDepth 100000 in
theorem wX0_onward_j45 {p : Program} {l : Launch} {e : Env} {s : State} {m : MethodId} {args : Array Value} {below : List Frame} {meth : Method} {c : Code} {Q : State → Prop} {A : Nat → Prop} {D : DD} {base B : Nat} (hF : KF D base cX0_onward RX0 A 4 0 0 p l e ({ frames := 1, cells := 0, slots := 0, locals := 21 } : Room) s m args below meth c) (hA : ∀ q, RA B shpC q → A q) (hbs : base ≤ B) {σ : St} {a1 : Int32} {b2 : Int32} {b3 : Int32} {z : ((Int32 × Int32) ⊕ (Int32 × Int32))} (h : fX0_onward_j45 σ a1 b2 b3 = some z) (hc : ∀ x, z = .inl x → KJ (Rep D B shpC) A 4 0 0 Q p l e ({ frames := 1, cells := 0, slots := 0, locals := 21 } : Room) s m args below meth c 0 0 4 [some (.ref (B + 10)), some (.int a1), some (.int x.1), some (.int x.2)] [] σ) (he : ∀ w, z = .inr w → KJ (Rep D B shpC) A 4 0 0 Q p l e ({ frames := 1, cells := 0, slots := 0, locals := 21 } : Room) s m args below meth c 0 0 51 [some (.ref (B + 10)), some (.int a1), some (.int w.1), some (.int w.2)] [] σ) : KJ (Rep D B shpC) A 4 0 0 Q p l e ({ frames := 1, cells := 0, slots := 0, locals := 21 } : Room) s m args below meth c 0 0 45 [some (.ref (B + 10)), some (.int a1), some (.int b2), some (.int b3)] [] σ := by
  unfold fX0_onward_j45 at h
  refine k_iinc hF (v := (b3 + (1 : Int32))) (L' := [some (.ref (B + 10)), some (.int a1), some (.int b2), some (.int (b3 + (1 : Int32)))]) dX0_onward_45 rfl (by first | rfl | (congr 1)) (by decide) rfl ?_
  refine k_goto hF dX0_onward_48 (tgt := 4) (by decide) ?_
  exact hc _ (Option.some.inj h).symm
set_option maxHeartbeats 4000000 in
set_option maxRecDepth 100000 in
theorem wX0_onward_l4 {p : Program} {l : Launch} {e : Env} {s : State} {m : MethodId} {args : Array Value} {below : List Frame} {meth : Method} {c : Code} {Q : State → Prop} {A : Nat → Prop} {D : DD} {base B : Nat} (hF : KF D base cX0_onward RX0 A 4 0 0 p l e ({ frames := 1, cells := 0, slots := 0, locals := 21 } : Room) s m args below meth c) (hA : ∀ q, RA B shpC q → A q) (hbs : base ≤ B) {σ : St} {a1 : Int32} {x : (Int32 × Int32)} {z : ((Int32 × Int32) ⊕ (Int32 × Int32))} (h : fX0_onward_l4 σ a1 x = some z) (hc : ∀ x, z = .inl x → KJ (Rep D B shpC) A 4 0 0 Q p l e ({ frames := 1, cells := 0, slots := 0, locals := 21 } : Room) s m args below meth c 0 0 4 [some (.ref (B + 10)), some (.int a1), some (.int x.1), some (.int x.2)] [] σ) (he : ∀ w, z = .inr w → KJ (Rep D B shpC) A 4 0 0 Q p l e ({ frames := 1, cells := 0, slots := 0, locals := 21 } : Room) s m args below meth c 0 0 51 [some (.ref (B + 10)), some (.int a1), some (.int w.1), some (.int w.2)] [] σ) : KJ (Rep D B shpC) A 4 0 0 Q p l e ({ frames := 1, cells := 0, slots := 0, locals := 21 } : Room) s m args below meth c 0 0 4 [some (.ref (B + 10)), some (.int a1), some (.int x.1), some (.int x.2)] [] σ := by
  unfold fX0_onward_l4 at h
  refine k_iload_n hF dX0_onward_4 rfl ?_
  refine k_aload_n hF dX0_onward_5 rfl ?_
  refine k_get hF (v := .int (gi σ 10 2)) shC_10 fl_X0_25_X0 dX0_onward_6 rfl ?_
  refine k_icmp_ge hF (tgt := 51) dX0_onward_9 (by decide) (fun c1 => ?_) (fun c1 => ?_)
  · replace h := ite_t c1 h
    exact he _ (Option.some.inj h).symm
  · replace h := ite_f c1 h
    refine k_aload_n hF dX0_onward_12 rfl ?_
    refine k_iload_n hF dX0_onward_13 rfl ?_
    obtain ⟨v2, hv2, h⟩ := bind_some h
    refine k_callU hF hA (as := [.int x.2]) (ct_X7_isThereE hbs hv2) mu_X0_29 shC_10 rfl rfl rfl ⟨Nat.le_of_ble_eq_true rfl, Nat.le_of_ble_eq_true rfl⟩ (Nat.le_of_ble_eq_true rfl) dX0_onward_14 ?_
    refine k_st (st2 := [.int v2]) rfl ?_
    refine k_if_eq hF (tgt := 45) dX0_onward_17 (by decide) (fun c3 => ?_) (fun c3 => ?_)
    · replace h := ite_t c3 h
      exact wX0_onward_j45 hF hA hbs h hc he
    · replace h := ite_f c3 h
      refine k_iload_n hF dX0_onward_20 rfl ?_
      refine k_aload_n hF dX0_onward_21 rfl ?_
      refine k_get hF (v := .ref (B + 13)) shC_10 fl_X0_9_X0 dX0_onward_22 rfl ?_
      refine k_iload_n hF dX0_onward_25 rfl ?_
      obtain ⟨g4, h⟩ := gd_some h
      refine k_iald hF shC_13 dX0_onward_26 g4 ?_
      obtain ⟨v5, hv5, h⟩ := bind_some h
      refine k_callSN hF hA (as := [.int a1, .int (gi σ 13 x.2.toNatClampNeg)]) (ct_X10_has hbs hv5) msn_X0_33 rfl rfl ⟨Nat.le_of_ble_eq_true rfl, Nat.le_of_ble_eq_true rfl⟩ (Nat.le_of_ble_eq_true rfl) dX0_onward_27 ?_
      refine k_st (st2 := [.int v5]) rfl ?_
      refine k_if_eq hF (tgt := 45) dX0_onward_30 (by decide) (fun c6 => ?_) (fun c6 => ?_)
      · replace h := ite_t c6 h
        exact wX0_onward_j45 hF hA hbs h hc he
      · replace h := ite_f c6 h
        refine k_iload_n hF dX0_onward_33 rfl ?_
        refine k_aload_n hF dX0_onward_34 rfl ?_
        refine k_get hF (v := .ref (B + 15)) shC_10 fl_X0_18_X0 dX0_onward_35 rfl ?_
        refine k_iload_n hF dX0_onward_38 rfl ?_
        obtain ⟨g7, h⟩ := gd_some h
        refine k_iald hF shC_15 dX0_onward_39 g7 ?_
        obtain ⟨v8, hv8, h⟩ := bind_some h
        refine k_callSN hF hA (as := [.int (gi σ 15 x.2.toNatClampNeg)]) (ct_X10_bit hbs hv8) msn_X0_37 rfl rfl ⟨Nat.le_of_ble_eq_true rfl, Nat.le_of_ble_eq_true rfl⟩ (Nat.le_of_ble_eq_true rfl) dX0_onward_40 ?_
        refine k_st (st2 := [.int v8, .int x.1]) rfl ?_
        refine k_ior hF dX0_onward_43 ?_
        refine k_istore_n hF (L' := [some (.ref (B + 10)), some (.int a1), some (.int (x.1 ||| v8)), some (.int x.2)]) dX0_onward_44 (by decide) rfl ?_
        exact wX0_onward_j45 hF hA hbs h hc he
set_option maxHeartbeats 4000000 in
set_option maxRecDepth 100000 in
theorem wX0_onward {p : Program} {l : Launch} {e : Env} {s : State} {m : MethodId} {args : Array Value} {below : List Frame} {meth : Method} {c : Code} {Q : State → Prop} {A : Nat → Prop} {D : DD} {base B : Nat} (hF : KF D base cX0_onward RX0 A 4 0 0 p l e ({ frames := 1, cells := 0, slots := 0, locals := 21 } : Room) s m args below meth c) (hA : ∀ q, RA B shpC q → A q) (hbs : base ≤ B) {σ : St} {a1 : Int32} {z : Int32} (h : fX0_onward σ a1 = some z) (hr : ∀ (pc : Nat) (L : List (Option Value)), narrow .int (.int z) = .int z → decode cX0_onward pc = .ok (.ireturn, 1) → KJ (Rep D B shpC) A 4 0 0 Q p l e ({ frames := 1, cells := 0, slots := 0, locals := 21 } : Room) s m args below meth c 0 0 pc L [.int z] σ) : KJ (Rep D B shpC) A 4 0 0 Q p l e ({ frames := 1, cells := 0, slots := 0, locals := 21 } : Room) s m args below meth c 0 0 0 [some (.ref (B + 10)), some (.int a1), none, none] [] σ := by
  unfold fX0_onward at h
  refine k_iconst hF dX0_onward_0 ci_0 ?_
  refine k_istore_n hF (L' := [some (.ref (B + 10)), some (.int a1), some (.int (0 : Int32)), none]) dX0_onward_1 (by decide) rfl ?_
  refine k_iconst hF dX0_onward_2 ci_0 ?_
  refine k_istore_n hF (L' := [some (.ref (B + 10)), some (.int a1), some (.int (0 : Int32)), some (.int (0 : Int32))]) dX0_onward_3 (by decide) rfl ?_
  obtain ⟨x9, hx9, h⟩ := bind_some h
  refine k_loop (P := fun xq => KJ (Rep D B shpC) A 4 0 0 Q p l e ({ frames := 1, cells := 0, slots := 0, locals := 21 } : Room) s m args below meth c 0 0 4 [some (.ref (B + 10)), some (.int a1), some (.int xq.1), some (.int xq.2)] [] σ) (C := fun xq => KJ (Rep D B shpC) A 4 0 0 Q p l e ({ frames := 1, cells := 0, slots := 0, locals := 21 } : Room) s m args below meth c 0 0 51 [some (.ref (B + 10)), some (.int a1), some (.int xq.1), some (.int xq.2)] [] σ) (fun x z hz hc he => wX0_onward_l4 hF hA hbs hz hc he) hx9 ?_
  show KJ (Rep D B shpC) A 4 0 0 Q p l e ({ frames := 1, cells := 0, slots := 0, locals := 21 } : Room) s m args below meth c 0 0 51 [some (.ref (B + 10)), some (.int a1), some (.int x9.1), some (.int x9.2)] [] σ
  refine k_iload_n hF dX0_onward_51 rfl ?_
  cases h
  exact hr _ _ rfl dX0_onward_52
theorem ct_X0_onward {l : Launch} {D : DD} {base B : Nat} (hbs : base ≤ B) {σ : St} {a1 : Int32} {r : Int32} (h : fX0_onward σ a1 = some r) : MetR l D B shpC base yX0_onward cX0_onward 4 (some .int) 1 21 [.ref (B + 10), .int a1] σ (some (.int r)) σ :=
  MetR.of (by decide +kernel) (fun v hv => by simp only [List.mem_cons, List.not_mem_nil, or_false] at hv; rcases hv with rfl | rfl <;> rfl) (Nat.le_of_ble_eq_true rfl) hbs (fun p e s m args below meth c hF hr => wX0_onward hF (fun q hq => hq) hbs h (fun pc L hn hd => k_iret hF hr hn hd))
set_option maxHeartbeats 4000000 in
set_option maxRecDepth 100000 in
theorem wX0_neighbours_j49 {p : Program} {l : Launch} {e : Env} {s : State} {m : MethodId} {args : Array Value} {below : List Frame} {meth : Method} {c : Code} {Q : State → Prop} {A : Nat → Prop} {D : DD} {base B : Nat} (hF : KF D base cX0_neighbours RX0 A 4 0 0 p l e ({ frames := 2, cells := 0, slots := 0, locals := 44 } : Room) s m args below meth c) (hA : ∀ q, RA B shpC q → A q) (hbs : base ≤ B) {σ : St} {a1 : Int32} {b2 : Int32} {b3 : Int32} {z : ((Int32 × Int32) ⊕ (Int32 × Int32))} (h : fX0_neighbours_j49 σ a1 b2 b3 = some z) (hc : ∀ x, z = .inl x → KJ (Rep D B shpC) A 4 0 0 Q p l e ({ frames := 2, cells := 0, slots := 0, locals := 44 } : Room) s m args below meth c 0 0 8 [some (.ref (B + 10)), some (.int a1), some (.int x.1), some (.int x.2)] [] σ) (he : ∀ w, z = .inr w → KJ (Rep D B shpC) A 4 0 0 Q p l e ({ frames := 2, cells := 0, slots := 0, locals := 44 } : Room) s m args below meth c 0 0 55 [some (.ref (B + 10)), some (.int a1), some (.int w.1), some (.int w.2)] [] σ) : KJ (Rep D B shpC) A 4 0 0 Q p l e ({ frames := 2, cells := 0, slots := 0, locals := 44 } : Room) s m args below meth c 0 0 49 [some (.ref (B + 10)), some (.int a1), some (.int b2), some (.int b3)] [] σ := by
  unfold fX0_neighbours_j49 at h
  refine k_iinc hF (v := (b3 + (1 : Int32))) (L' := [some (.ref (B + 10)), some (.int a1), some (.int b2), some (.int (b3 + (1 : Int32)))]) dX0_neighbours_49 rfl (by first | rfl | (congr 1)) (by decide) rfl ?_
  refine k_goto hF dX0_neighbours_52 (tgt := 8) (by decide) ?_
  exact hc _ (Option.some.inj h).symm
set_option maxHeartbeats 4000000 in
set_option maxRecDepth 100000 in
theorem wX0_neighbours_l8 {p : Program} {l : Launch} {e : Env} {s : State} {m : MethodId} {args : Array Value} {below : List Frame} {meth : Method} {c : Code} {Q : State → Prop} {A : Nat → Prop} {D : DD} {base B : Nat} (hF : KF D base cX0_neighbours RX0 A 4 0 0 p l e ({ frames := 2, cells := 0, slots := 0, locals := 44 } : Room) s m args below meth c) (hA : ∀ q, RA B shpC q → A q) (hbs : base ≤ B) {σ : St} {a1 : Int32} {x : (Int32 × Int32)} {z : ((Int32 × Int32) ⊕ (Int32 × Int32))} (h : fX0_neighbours_l8 σ a1 x = some z) (hc : ∀ x, z = .inl x → KJ (Rep D B shpC) A 4 0 0 Q p l e ({ frames := 2, cells := 0, slots := 0, locals := 44 } : Room) s m args below meth c 0 0 8 [some (.ref (B + 10)), some (.int a1), some (.int x.1), some (.int x.2)] [] σ) (he : ∀ w, z = .inr w → KJ (Rep D B shpC) A 4 0 0 Q p l e ({ frames := 2, cells := 0, slots := 0, locals := 44 } : Room) s m args below meth c 0 0 55 [some (.ref (B + 10)), some (.int a1), some (.int w.1), some (.int w.2)] [] σ) : KJ (Rep D B shpC) A 4 0 0 Q p l e ({ frames := 2, cells := 0, slots := 0, locals := 44 } : Room) s m args below meth c 0 0 8 [some (.ref (B + 10)), some (.int a1), some (.int x.1), some (.int x.2)] [] σ := by
  unfold fX0_neighbours_l8 at h
  refine k_iload_n hF dX0_neighbours_8 rfl ?_
  refine k_aload_n hF dX0_neighbours_9 rfl ?_
  refine k_get hF (v := .int (gi σ 10 2)) shC_10 fl_X0_25_X0 dX0_neighbours_10 rfl ?_
  refine k_icmp_ge hF (tgt := 55) dX0_neighbours_13 (by decide) (fun c2 => ?_) (fun c2 => ?_)
  · replace h := ite_t c2 h
    exact he _ (Option.some.inj h).symm
  · replace h := ite_f c2 h
    refine k_aload_n hF dX0_neighbours_16 rfl ?_
    refine k_iload_n hF dX0_neighbours_17 rfl ?_
    obtain ⟨v3, hv3, h⟩ := bind_some h
    refine k_callU hF hA (as := [.int x.2]) (ct_X7_isThereE hbs hv3) mu_X0_29 shC_10 rfl rfl rfl ⟨Nat.le_of_ble_eq_true rfl, Nat.le_of_ble_eq_true rfl⟩ (Nat.le_of_ble_eq_true rfl) dX0_neighbours_18 ?_
    refine k_st (st2 := [.int v3]) rfl ?_
    refine k_if_eq hF (tgt := 49) dX0_neighbours_21 (by decide) (fun c4 => ?_) (fun c4 => ?_)
    · replace h := ite_t c4 h
      exact wX0_neighbours_j49 hF hA hbs h hc he
    · replace h := ite_f c4 h
      refine k_iload_n hF dX0_neighbours_24 rfl ?_
      refine k_aload_n hF dX0_neighbours_25 rfl ?_
      refine k_get hF (v := .ref (B + 15)) shC_10 fl_X0_18_X0 dX0_neighbours_26 rfl ?_
      refine k_iload_n hF dX0_neighbours_29 rfl ?_
      obtain ⟨g5, h⟩ := gd_some h
      refine k_iald hF shC_15 dX0_neighbours_30 g5 ?_
      obtain ⟨v6, hv6, h⟩ := bind_some h
      refine k_callSN hF hA (as := [.int a1, .int (gi σ 15 x.2.toNatClampNeg)]) (ct_X10_has hbs hv6) msn_X0_33 rfl rfl ⟨Nat.le_of_ble_eq_true rfl, Nat.le_of_ble_eq_true rfl⟩ (Nat.le_of_ble_eq_true rfl) dX0_neighbours_31 ?_
      refine k_st (st2 := [.int v6]) rfl ?_
      refine k_if_eq hF (tgt := 49) dX0_neighbours_34 (by decide) (fun c7 => ?_) (fun c7 => ?_)
      · replace h := ite_t c7 h
        exact wX0_neighbours_j49 hF hA hbs h hc he
      · replace h := ite_f c7 h
        refine k_iload_n hF dX0_neighbours_37 rfl ?_
        refine k_aload_n hF dX0_neighbours_38 rfl ?_
        refine k_get hF (v := .ref (B + 13)) shC_10 fl_X0_9_X0 dX0_neighbours_39 rfl ?_
        refine k_iload_n hF dX0_neighbours_42 rfl ?_
        obtain ⟨g8, h⟩ := gd_some h
        refine k_iald hF shC_13 dX0_neighbours_43 g8 ?_
        obtain ⟨v9, hv9, h⟩ := bind_some h
        refine k_callSN hF hA (as := [.int (gi σ 13 x.2.toNatClampNeg)]) (ct_X10_bit hbs hv9) msn_X0_37 rfl rfl ⟨Nat.le_of_ble_eq_true rfl, Nat.le_of_ble_eq_true rfl⟩ (Nat.le_of_ble_eq_true rfl) dX0_neighbours_44 ?_
        refine k_st (st2 := [.int v9, .int x.1]) rfl ?_
        refine k_ior hF dX0_neighbours_47 ?_
        refine k_istore_n hF (L' := [some (.ref (B + 10)), some (.int a1), some (.int (x.1 ||| v9)), some (.int x.2)]) dX0_neighbours_48 (by decide) rfl ?_
        exact wX0_neighbours_j49 hF hA hbs h hc he
set_option maxHeartbeats 4000000 in
set_option maxRecDepth 100000 in
theorem wX0_neighbours {p : Program} {l : Launch} {e : Env} {s : State} {m : MethodId} {args : Array Value} {below : List Frame} {meth : Method} {c : Code} {Q : State → Prop} {A : Nat → Prop} {D : DD} {base B : Nat} (hF : KF D base cX0_neighbours RX0 A 4 0 0 p l e ({ frames := 2, cells := 0, slots := 0, locals := 44 } : Room) s m args below meth c) (hA : ∀ q, RA B shpC q → A q) (hbs : base ≤ B) {σ : St} {a1 : Int32} {z : Int32} (h : fX0_neighbours σ a1 = some z) (hr : ∀ (pc : Nat) (L : List (Option Value)), narrow .int (.int z) = .int z → decode cX0_neighbours pc = .ok (.ireturn, 1) → KJ (Rep D B shpC) A 4 0 0 Q p l e ({ frames := 2, cells := 0, slots := 0, locals := 44 } : Room) s m args below meth c 0 0 pc L [.int z] σ) : KJ (Rep D B shpC) A 4 0 0 Q p l e ({ frames := 2, cells := 0, slots := 0, locals := 44 } : Room) s m args below meth c 0 0 0 [some (.ref (B + 10)), some (.int a1), none, none] [] σ := by
  unfold fX0_neighbours at h
  refine k_aload_n hF dX0_neighbours_0 rfl ?_
  refine k_iload_n hF dX0_neighbours_1 rfl ?_
  obtain ⟨v1, hv1, h⟩ := bind_some h
  refine k_callV hF hA (as := [.int a1]) (ct_X0_onward hbs hv1) mv_X0_40 shC_10 rfl rfl rfl ⟨Nat.le_of_ble_eq_true rfl, Nat.le_of_ble_eq_true rfl⟩ (Nat.le_of_ble_eq_true rfl) dX0_neighbours_2 ?_
  refine k_st (st2 := [.int v1]) rfl ?_
  refine k_istore_n hF (L' := [some (.ref (B + 10)), some (.int a1), some (.int v1), none]) dX0_neighbours_5 (by decide) rfl ?_
  refine k_iconst hF dX0_neighbours_6 ci_0 ?_
  refine k_istore_n hF (L' := [some (.ref (B + 10)), some (.int a1), some (.int v1), some (.int (0 : Int32))]) dX0_neighbours_7 (by decide) rfl ?_
  obtain ⟨x10, hx10, h⟩ := bind_some h
  refine k_loop (P := fun xq => KJ (Rep D B shpC) A 4 0 0 Q p l e ({ frames := 2, cells := 0, slots := 0, locals := 44 } : Room) s m args below meth c 0 0 8 [some (.ref (B + 10)), some (.int a1), some (.int xq.1), some (.int xq.2)] [] σ) (C := fun xq => KJ (Rep D B shpC) A 4 0 0 Q p l e ({ frames := 2, cells := 0, slots := 0, locals := 44 } : Room) s m args below meth c 0 0 55 [some (.ref (B + 10)), some (.int a1), some (.int xq.1), some (.int xq.2)] [] σ) (fun x z hz hc he => wX0_neighbours_l8 hF hA hbs hz hc he) hx10 ?_
  show KJ (Rep D B shpC) A 4 0 0 Q p l e ({ frames := 2, cells := 0, slots := 0, locals := 44 } : Room) s m args below meth c 0 0 55 [some (.ref (B + 10)), some (.int a1), some (.int x10.1), some (.int x10.2)] [] σ
  refine k_iload_n hF dX0_neighbours_55 rfl ?_
  cases h
  exact hr _ _ rfl dX0_neighbours_56
theorem ct_X0_neighbours {l : Launch} {D : DD} {base B : Nat} (hbs : base ≤ B) {σ : St} {a1 : Int32} {r : Int32} (h : fX0_neighbours σ a1 = some r) : MetR l D B shpC base yX0_neighbours cX0_neighbours 4 (some .int) 2 44 [.ref (B + 10), .int a1] σ (some (.int r)) σ :=
  MetR.of (by decide +kernel) (fun v hv => by simp only [List.mem_cons, List.not_mem_nil, or_false] at hv; rcases hv with rfl | rfl <;> rfl) (Nat.le_of_ble_eq_true rfl) hbs (fun p e s m args below meth c hF hr => wX0_neighbours hF (fun q hq => hq) hbs h (fun pc L hn hd => k_iret hF hr hn hd))
set_option maxHeartbeats 4000000 in
set_option maxRecDepth 100000 in
theorem wX2_isTaken_j74 {p : Program} {l : Launch} {e : Env} {s : State} {m : MethodId} {args : Array Value} {below : List Frame} {meth : Method} {c : Code} {Q : State → Prop} {A : Nat → Prop} {D : DD} {base B : Nat} (hF : KF D base cX2_isTaken RX2 A 5 0 0 p l e ({ frames := 1, cells := 0, slots := 0, locals := 21 } : Room) s m args below meth c) (hA : ∀ q, RA B shpC q → A q) (hbs : base ≤ B) {σ : St} {a1 : Int32} {a2 : Int32} {a3 : Int32} {b4 : Int32} {z : (Int32 ⊕ (Int32 ⊕ Int32))} (h : fX2_isTaken_j74 σ a1 a2 a3 b4 = some z) (hc : ∀ x, z = .inl x → KJ (Rep D B shpC) A 5 0 0 Q p l e ({ frames := 1, cells := 0, slots := 0, locals := 21 } : Room) s m args below meth c 0 0 14 [some (.ref (B + 16)), some (.int a1), some (.int a2), some (.int a3), some (.int x)] [] σ) (he : ∀ w, z = .inr w → Sum.elim (fun x => KJ (Rep D B shpC) A 5 0 0 Q p l e ({ frames := 1, cells := 0, slots := 0, locals := 21 } : Room) s m args below meth c 0 0 80 [some (.ref (B + 16)), some (.int a1), some (.int a2), some (.int a3), some (.int x)] [] σ) (fun r => ∀ (pc : Nat) (L : List (Option Value)), narrow .boolean (.int r) = .int r → decode cX2_isTaken pc = .ok (.ireturn, 1) → KJ (Rep D B shpC) A 5 0 0 Q p l e ({ frames := 1, cells := 0, slots := 0, locals := 21 } : Room) s m args below meth c 0 0 pc L [.int r] σ) w) : KJ (Rep D B shpC) A 5 0 0 Q p l e ({ frames := 1, cells := 0, slots := 0, locals := 21 } : Room) s m args below meth c 0 0 74 [some (.ref (B + 16)), some (.int a1), some (.int a2), some (.int a3), some (.int b4)] [] σ := by
  unfold fX2_isTaken_j74 at h
  refine k_iinc hF (v := (b4 + (1 : Int32))) (L' := [some (.ref (B + 16)), some (.int a1), some (.int a2), some (.int a3), some (.int (b4 + (1 : Int32)))]) dX2_isTaken_74 rfl (by first | rfl | (congr 1)) (by decide) rfl ?_
  refine k_goto hF dX2_isTaken_77 (tgt := 14) (by decide) ?_
  exact hc _ (Option.some.inj h).symm
set_option maxHeartbeats 4000000 in
set_option maxRecDepth 100000 in
theorem wX2_isTaken_l14 {p : Program} {l : Launch} {e : Env} {s : State} {m : MethodId} {args : Array Value} {below : List Frame} {meth : Method} {c : Code} {Q : State → Prop} {A : Nat → Prop} {D : DD} {base B : Nat} (hF : KF D base cX2_isTaken RX2 A 5 0 0 p l e ({ frames := 1, cells := 0, slots := 0, locals := 21 } : Room) s m args below meth c) (hA : ∀ q, RA B shpC q → A q) (hbs : base ≤ B) {σ : St} {a1 : Int32} {a2 : Int32} {a3 : Int32} {x : Int32} {z : (Int32 ⊕ (Int32 ⊕ Int32))} (h : fX2_isTaken_l14 σ a1 a2 a3 x = some z) (hc : ∀ x, z = .inl x → KJ (Rep D B shpC) A 5 0 0 Q p l e ({ frames := 1, cells := 0, slots := 0, locals := 21 } : Room) s m args below meth c 0 0 14 [some (.ref (B + 16)), some (.int a1), some (.int a2), some (.int a3), some (.int x)] [] σ) (he : ∀ w, z = .inr w → Sum.elim (fun x => KJ (Rep D B shpC) A 5 0 0 Q p l e ({ frames := 1, cells := 0, slots := 0, locals := 21 } : Room) s m args below meth c 0 0 80 [some (.ref (B + 16)), some (.int a1), some (.int a2), some (.int a3), some (.int x)] [] σ) (fun r => ∀ (pc : Nat) (L : List (Option Value)), narrow .boolean (.int r) = .int r → decode cX2_isTaken pc = .ok (.ireturn, 1) → KJ (Rep D B shpC) A 5 0 0 Q p l e ({ frames := 1, cells := 0, slots := 0, locals := 21 } : Room) s m args below meth c 0 0 pc L [.int r] σ) w) : KJ (Rep D B shpC) A 5 0 0 Q p l e ({ frames := 1, cells := 0, slots := 0, locals := 21 } : Room) s m args below meth c 0 0 14 [some (.ref (B + 16)), some (.int a1), some (.int a2), some (.int a3), some (.int x)] [] σ := by
  unfold fX2_isTaken_l14 at h
  refine k_iload hF dX2_isTaken_14 rfl ?_
  refine k_aload_n hF dX2_isTaken_16 rfl ?_
  refine k_get hF (v := .ref (B + 1)) shC_16 fl_X2_22_X2 dX2_isTaken_17 rfl ?_
  refine k_get hF (v := .int (gi σ 1 2)) shC_1 fl_X2_26_X6 dX2_isTaken_20 rfl ?_
  refine k_icmp_ge hF (tgt := 80) dX2_isTaken_23 (by decide) (fun c3 => ?_) (fun c3 => ?_)
  · replace h := ite_t c3 h
    exact he _ (Option.some.inj h).symm
  · replace h := ite_f c3 h
    refine k_iload hF dX2_isTaken_26 rfl ?_
    refine k_iload_n hF dX2_isTaken_28 rfl ?_
    refine k_icmp_eq hF (tgt := 74) dX2_isTaken_29 (by decide) (fun c4 => ?_) (fun c4 => ?_)
    · replace h := ite_t c4 h
      exact wX2_isTaken_j74 hF hA hbs h hc he
    · replace h := ite_f c4 h
      refine k_aload_n hF dX2_isTaken_32 rfl ?_
      refine k_get hF (v := .ref (B + 1)) shC_16 fl_X2_22_X2 dX2_isTaken_33 rfl ?_
      refine k_iload hF dX2_isTaken_36 rfl ?_
      obtain ⟨v5, hv5, h⟩ := bind_some h
      refine k_callU hF hA (as := [.int x]) (ct_X7_isThereN hbs hv5) mu_X2_32 shC_1 rfl rfl rfl ⟨Nat.le_of_ble_eq_true rfl, Nat.le_of_ble_eq_true rfl⟩ (Nat.le_of_ble_eq_true rfl) dX2_isTaken_38 ?_
      refine k_st (st2 := [.int v5]) rfl ?_
      refine k_if_eq hF (tgt := 74) dX2_isTaken_41 (by decide) (fun c6 => ?_) (fun c6 => ?_)
      · replace h := ite_t c6 h
        exact wX2_isTaken_j74 hF hA hbs h hc he
      · replace h := ite_f c6 h
        refine k_aload_n hF dX2_isTaken_44 rfl ?_
        refine k_get hF (v := .ref (B + 1)) shC_16 fl_X2_22_X2 dX2_isTaken_45 rfl ?_
        refine k_get hF (v := .ref (B + 4)) shC_1 fl_X2_36_X6 dX2_isTaken_48 rfl ?_
        refine k_iload hF dX2_isTaken_51 rfl ?_
        obtain ⟨g7, h⟩ := gd_some h
        refine k_iald hF shC_4 dX2_isTaken_53 g7 ?_
        refine k_iload_n hF dX2_isTaken_54 rfl ?_
        refine k_icmp_ne hF (tgt := 74) dX2_isTaken_55 (by decide) (fun c8 => ?_) (fun c8 => ?_)
        · replace h := ite_f c8 h
          exact wX2_isTaken_j74 hF hA hbs h hc he
        · replace h := ite_t c8 h
          refine k_aload_n hF dX2_isTaken_58 rfl ?_
          refine k_get hF (v := .ref (B + 1)) shC_16 fl_X2_22_X2 dX2_isTaken_59 rfl ?_
          refine k_get hF (v := .ref (B + 5)) shC_1 fl_X2_39_X6 dX2_isTaken_62 rfl ?_
          refine k_iload hF dX2_isTaken_65 rfl ?_
          obtain ⟨g9, h⟩ := gd_some h
          refine k_iald hF shC_5 dX2_isTaken_67 g9 ?_
          refine k_iload_n hF dX2_isTaken_68 rfl ?_
          refine k_icmp_ne hF (tgt := 74) dX2_isTaken_69 (by decide) (fun c10 => ?_) (fun c10 => ?_)
          · replace h := ite_f c10 h
            exact wX2_isTaken_j74 hF hA hbs h hc he
          · replace h := ite_t c10 h
            refine k_iconst hF dX2_isTaken_72 ci_1 ?_
            exact he _ (Option.some.inj h).symm _ _ nar_1 dX2_isTaken_73
set_option maxHeartbeats 4000000 in
set_option maxRecDepth 100000 in
theorem wX2_isTaken {p : Program} {l : Launch} {e : Env} {s : State} {m : MethodId} {args : Array Value} {below : List Frame} {meth : Method} {c : Code} {Q : State → Prop} {A : Nat → Prop} {D : DD} {base B : Nat} (hF : KF D base cX2_isTaken RX2 A 5 0 0 p l e ({ frames := 1, cells := 0, slots := 0, locals := 21 } : Room) s m args below meth c) (hA : ∀ q, RA B shpC q → A q) (hbs : base ≤ B) {σ : St} {a1 : Int32} {a2 : Int32} {a3 : Int32} {z : Int32} (h : fX2_isTaken σ a1 a2 a3 = some z) (hr : ∀ (pc : Nat) (L : List (Option Value)), narrow .boolean (.int z) = .int z → decode cX2_isTaken pc = .ok (.ireturn, 1) → KJ (Rep D B shpC) A 5 0 0 Q p l e ({ frames := 1, cells := 0, slots := 0, locals := 21 } : Room) s m args below meth c 0 0 pc L [.int z] σ) : KJ (Rep D B shpC) A 5 0 0 Q p l e ({ frames := 1, cells := 0, slots := 0, locals := 21 } : Room) s m args below meth c 0 0 0 [some (.ref (B + 16)), some (.int a1), some (.int a2), some (.int a3), none] [] σ := by
  unfold fX2_isTaken at h
  refine k_aload_n hF dX2_isTaken_0 rfl ?_
  refine k_get hF (v := .ref (B + 17)) shC_16 fl_X2_9_X2 dX2_isTaken_1 rfl ?_
  refine k_iload_n hF dX2_isTaken_4 rfl ?_
  obtain ⟨g1, h⟩ := gd_some h
  refine k_zald hF shC_17 dX2_isTaken_5 g1 ?_
  refine k_if_ne hF (tgt := 11) dX2_isTaken_6 (by decide) (fun c2 => ?_) (fun c2 => ?_)
  · replace h := ite_f c2 h
    refine k_iconst hF dX2_isTaken_11 ci_0 ?_
    refine k_istore hF (L' := [some (.ref (B + 16)), some (.int a1), some (.int a2), some (.int a3), some (.int (0 : Int32))]) dX2_isTaken_12 (by decide) rfl ?_
    obtain ⟨x11, hx11, h⟩ := bind_some h
    refine k_loop (P := fun xq => KJ (Rep D B shpC) A 5 0 0 Q p l e ({ frames := 1, cells := 0, slots := 0, locals := 21 } : Room) s m args below meth c 0 0 14 [some (.ref (B + 16)), some (.int a1), some (.int a2), some (.int a3), some (.int xq)] [] σ) (C := fun wq => Sum.elim (fun xq => KJ (Rep D B shpC) A 5 0 0 Q p l e ({ frames := 1, cells := 0, slots := 0, locals := 21 } : Room) s m args below meth c 0 0 80 [some (.ref (B + 16)), some (.int a1), some (.int a2), some (.int a3), some (.int xq)] [] σ) (fun rq => ∀ (pc : Nat) (L : List (Option Value)), narrow .boolean (.int rq) = .int rq → decode cX2_isTaken pc = .ok (.ireturn, 1) → KJ (Rep D B shpC) A 5 0 0 Q p l e ({ frames := 1, cells := 0, slots := 0, locals := 21 } : Room) s m args below meth c 0 0 pc L [.int rq] σ) wq) (fun x z hz hc he => wX2_isTaken_l14 hF hA hbs hz hc he) hx11 ?_
    rcases x11 with x12 | r13
    · show KJ (Rep D B shpC) A 5 0 0 Q p l e ({ frames := 1, cells := 0, slots := 0, locals := 21 } : Room) s m args below meth c 0 0 80 [some (.ref (B + 16)), some (.int a1), some (.int a2), some (.int a3), some (.int x12)] [] σ
      replace h : _ = some z := h
      refine k_iconst hF dX2_isTaken_80 ci_0 ?_
      cases h
      exact hr _ _ nar_0 dX2_isTaken_81
    · replace h : some (r13) = some z := h
      cases h; exact hr
  · replace h := ite_t c2 h
    refine k_iconst hF dX2_isTaken_9 ci_0 ?_
    cases h
    exact hr _ _ nar_0 dX2_isTaken_10
theorem ct_X2_isTaken {l : Launch} {D : DD} {base B : Nat} (hbs : base ≤ B) {σ : St} {a1 : Int32} {a2 : Int32} {a3 : Int32} {r : Int32} (h : fX2_isTaken σ a1 a2 a3 = some r) : MetR l D B shpC base yX2_isTaken cX2_isTaken 5 (some .boolean) 1 21 [.ref (B + 16), .int a1, .int a2, .int a3] σ (some (.int r)) σ :=
  MetR.of (by decide +kernel) (fun v hv => by simp only [List.mem_cons, List.not_mem_nil, or_false] at hv; rcases hv with rfl | rfl | rfl | rfl <;> rfl) (Nat.le_of_ble_eq_true rfl) hbs (fun p e s m args below meth c hF hr => wX2_isTaken hF (fun q hq => hq) hbs h (fun pc L hn hd => k_iret hF hr hn hd))
set_option maxHeartbeats 4000000 in
set_option maxRecDepth 100000 in
theorem wX2_hasTwins_j67 {p : Program} {l : Launch} {e : Env} {s : State} {m : MethodId} {args : Array Value} {below : List Frame} {meth : Method} {c : Code} {Q : State → Prop} {A : Nat → Prop} {D : DD} {base B : Nat} (hF : KF D base cX2_hasTwins RX2 A 6 0 0 p l e ({ frames := 2, cells := 0, slots := 0, locals := 44 } : Room) s m args below meth c) (hA : ∀ q, RA B shpC q → A q) (hbs : base ≤ B) {σ : St} {a1 : Int32} {u2 : Nat} (q2 : shpC[u2]? = some (.inr (0, 24, fun _ => 0))) {ea3b : Int32} {ea4b : Int32} {b5 : Int32} {z : (Int32 ⊕ (Int32 ⊕ Int32))} (h : fX2_hasTwins_j67 σ a1 u2 ea3b ea4b b5 = some z) (hc : ∀ x, z = .inl x → KJ (Rep D B shpC) A 6 0 0 Q p l e ({ frames := 2, cells := 0, slots := 0, locals := 44 } : Room) s m args below meth c 0 0 29 [some (.ref (B + 16)), some (.int a1), some (.ref (B + u2)), some (.int ea3b), some (.int ea4b), some (.int x)] [] σ) (he : ∀ w, z = .inr w → Sum.elim (fun x => KJ (Rep D B shpC) A 6 0 0 Q p l e ({ frames := 2, cells := 0, slots := 0, locals := 44 } : Room) s m args below meth c 0 0 73 [some (.ref (B + 16)), some (.int a1), some (.ref (B + u2)), some (.int ea3b), some (.int ea4b), some (.int x)] [] σ) (fun r => ∀ (pc : Nat) (L : List (Option Value)), narrow .boolean (.int r) = .int r → decode cX2_hasTwins pc = .ok (.ireturn, 1) → KJ (Rep D B shpC) A 6 0 0 Q p l e ({ frames := 2, cells := 0, slots := 0, locals := 44 } : Room) s m args below meth c 0 0 pc L [.int r] σ) w) : KJ (Rep D B shpC) A 6 0 0 Q p l e ({ frames := 2, cells := 0, slots := 0, locals := 44 } : Room) s m args below meth c 0 0 67 [some (.ref (B + 16)), some (.int a1), some (.ref (B + u2)), some (.int ea3b), some (.int ea4b), some (.int b5)] [] σ := by
  unfold fX2_hasTwins_j67 at h
  refine k_iinc hF (v := (b5 + (1 : Int32))) (L' := [some (.ref (B + 16)), some (.int a1), some (.ref (B + u2)), some (.int ea3b), some (.int ea4b), some (.int (b5 + (1 : Int32)))]) dX2_hasTwins_67 rfl (by first | rfl | (congr 1)) (by decide) rfl ?_
  refine k_goto hF dX2_hasTwins_70 (tgt := 29) (by decide) ?_
  exact hc _ (Option.some.inj h).symm
set_option maxHeartbeats 4000000 in
set_option maxRecDepth 100000 in
theorem wX2_hasTwins_l29 {p : Program} {l : Launch} {e : Env} {s : State} {m : MethodId} {args : Array Value} {below : List Frame} {meth : Method} {c : Code} {Q : State → Prop} {A : Nat → Prop} {D : DD} {base B : Nat} (hF : KF D base cX2_hasTwins RX2 A 6 0 0 p l e ({ frames := 2, cells := 0, slots := 0, locals := 44 } : Room) s m args below meth c) (hA : ∀ q, RA B shpC q → A q) (hbs : base ≤ B) {σ : St} {a1 : Int32} {u2 : Nat} (q2 : shpC[u2]? = some (.inr (0, 24, fun _ => 0))) {ea3b : Int32} {ea4b : Int32} {x : Int32} {z : (Int32 ⊕ (Int32 ⊕ Int32))} (h : fX2_hasTwins_l29 σ a1 u2 ea3b ea4b x = some z) (hc : ∀ x, z = .inl x → KJ (Rep D B shpC) A 6 0 0 Q p l e ({ frames := 2, cells := 0, slots := 0, locals := 44 } : Room) s m args below meth c 0 0 29 [some (.ref (B + 16)), some (.int a1), some (.ref (B + u2)), some (.int ea3b), some (.int ea4b), some (.int x)] [] σ) (he : ∀ w, z = .inr w → Sum.elim (fun x => KJ (Rep D B shpC) A 6 0 0 Q p l e ({ frames := 2, cells := 0, slots := 0, locals := 44 } : Room) s m args below meth c 0 0 73 [some (.ref (B + 16)), some (.int a1), some (.ref (B + u2)), some (.int ea3b), some (.int ea4b), some (.int x)] [] σ) (fun r => ∀ (pc : Nat) (L : List (Option Value)), narrow .boolean (.int r) = .int r → decode cX2_hasTwins pc = .ok (.ireturn, 1) → KJ (Rep D B shpC) A 6 0 0 Q p l e ({ frames := 2, cells := 0, slots := 0, locals := 44 } : Room) s m args below meth c 0 0 pc L [.int r] σ) w) : KJ (Rep D B shpC) A 6 0 0 Q p l e ({ frames := 2, cells := 0, slots := 0, locals := 44 } : Room) s m args below meth c 0 0 29 [some (.ref (B + 16)), some (.int a1), some (.ref (B + u2)), some (.int ea3b), some (.int ea4b), some (.int x)] [] σ := by
  unfold fX2_hasTwins_l29 at h
  refine k_iload hF dX2_hasTwins_29 rfl ?_
  refine k_iload hF dX2_hasTwins_31 rfl ?_
  refine k_icmp_ge hF (tgt := 73) dX2_hasTwins_33 (by decide) (fun c4 => ?_) (fun c4 => ?_)
  · replace h := ite_t c4 h
    exact he _ (Option.some.inj h).symm
  · replace h := ite_f c4 h
    refine k_iload_n hF dX2_hasTwins_36 rfl ?_
    refine k_iload hF dX2_hasTwins_37 rfl ?_
    obtain ⟨v5, hv5, h⟩ := bind_some h
    refine k_callSN hF hA (as := [.int ea3b, .int ea4b]) (ct_X10_has hbs hv5) msn_X2_46 rfl rfl ⟨Nat.le_of_ble_eq_true rfl, Nat.le_of_ble_eq_true rfl⟩ (Nat.le_of_ble_eq_true rfl) dX2_hasTwins_39 ?_
    refine k_st (st2 := [.int v5]) rfl ?_
    refine k_if_eq hF (tgt := 67) dX2_hasTwins_42 (by decide) (fun c6 => ?_) (fun c6 => ?_)
    · replace h := ite_t c6 h
      exact wX2_hasTwins_j67 hF hA hbs q2 h hc he
    · replace h := ite_f c6 h
      refine k_iload_n hF dX2_hasTwins_45 rfl ?_
      refine k_iload hF dX2_hasTwins_46 rfl ?_
      obtain ⟨v7, hv7, h⟩ := bind_some h
      refine k_callSN hF hA (as := [.int ea3b, .int x]) (ct_X10_has hbs hv7) msn_X2_46 rfl rfl ⟨Nat.le_of_ble_eq_true rfl, Nat.le_of_ble_eq_true rfl⟩ (Nat.le_of_ble_eq_true rfl) dX2_hasTwins_48 ?_
      refine k_st (st2 := [.int v7]) rfl ?_
      refine k_if_eq hF (tgt := 67) dX2_hasTwins_51 (by decide) (fun c8 => ?_) (fun c8 => ?_)
      · replace h := ite_t c8 h
        exact wX2_hasTwins_j67 hF hA hbs q2 h hc he
      · replace h := ite_f c8 h
        refine k_aload_n hF dX2_hasTwins_54 rfl ?_
        refine k_iload hF dX2_hasTwins_55 rfl ?_
        obtain ⟨g9, h⟩ := gd_some h
        refine k_iald hF q2 dX2_hasTwins_57 g9 ?_
        refine k_aload_n hF dX2_hasTwins_58 rfl ?_
        refine k_iload hF dX2_hasTwins_59 rfl ?_
        obtain ⟨g10, h⟩ := gd_some h
        refine k_iald hF q2 dX2_hasTwins_61 g10 ?_
        refine k_icmp_ne hF (tgt := 67) dX2_hasTwins_62 (by decide) (fun c11 => ?_) (fun c11 => ?_)
        · replace h := ite_f c11 h
          exact wX2_hasTwins_j67 hF hA hbs q2 h hc he
        · replace h := ite_t c11 h
          refine k_iconst hF dX2_hasTwins_65 ci_1 ?_
          exact he _ (Option.some.inj h).symm _ _ nar_1 dX2_hasTwins_66
set_option maxHeartbeats 4000000 in
set_option maxRecDepth 100000 in
theorem wX2_hasTwins_l12 {p : Program} {l : Launch} {e : Env} {s : State} {m : MethodId} {args : Array Value} {below : List Frame} {meth : Method} {c : Code} {Q : State → Prop} {A : Nat → Prop} {D : DD} {base B : Nat} (hF : KF D base cX2_hasTwins RX2 A 6 0 0 p l e ({ frames := 2, cells := 0, slots := 0, locals := 44 } : Room) s m args below meth c) (hA : ∀ q, RA B shpC q → A q) (hbs : base ≤ B) {σ : St} {a1 : Int32} {u2 : Nat} (q2 : shpC[u2]? = some (.inr (0, 24, fun _ => 0))) {ea3 : Int32} {x : Int32} {z : (Int32 ⊕ (Int32 ⊕ Int32))} (h : fX2_hasTwins_l12 σ a1 u2 ea3 x = some z) (hc : ∀ x, z = .inl x → KJ (Rep D B shpC) A 6 0 0 Q p l e ({ frames := 2, cells := 0, slots := 0, locals := 44 } : Room) s m args below meth c 0 0 12 [some (.ref (B + 16)), some (.int a1), some (.ref (B + u2)), some (.int ea3), some (.int x), none] [] σ) (he : ∀ w, z = .inr w → Sum.elim (fun x => KJ (Rep D B shpC) A 6 0 0 Q p l e ({ frames := 2, cells := 0, slots := 0, locals := 44 } : Room) s m args below meth c 0 0 79 [some (.ref (B + 16)), some (.int a1), some (.ref (B + u2)), some (.int ea3), some (.int x), none] [] σ) (fun r => ∀ (pc : Nat) (L : List (Option Value)), narrow .boolean (.int r) = .int r → decode cX2_hasTwins pc = .ok (.ireturn, 1) → KJ (Rep D B shpC) A 6 0 0 Q p l e ({ frames := 2, cells := 0, slots := 0, locals := 44 } : Room) s m args below meth c 0 0 pc L [.int r] σ) w) : KJ (Rep D B shpC) A 6 0 0 Q p l e ({ frames := 2, cells := 0, slots := 0, locals := 44 } : Room) s m args below meth c 0 0 12 [some (.ref (B + 16)), some (.int a1), some (.ref (B + u2)), some (.int ea3), some (.int x), none] [] σ := by
  unfold fX2_hasTwins_l12 at h
  refine k_iload hF dX2_hasTwins_12 rfl ?_
  refine k_bipush hF (v := (24 : Int32)) dX2_hasTwins_14 (by decide) ?_
  refine k_icmp_ge hF (tgt := 79) dX2_hasTwins_16 (by decide) (fun c2 => ?_) (fun c2 => ?_)
  · replace h := ite_t c2 h
    exact he _ (Option.some.inj h).symm
  · replace h := ite_f c2 h
    refine k_iload hF dX2_hasTwins_19 rfl ?_
    refine k_aload_n hF dX2_hasTwins_21 rfl ?_
    refine k_alen hF (v := (24 : Int32)) q2 dX2_hasTwins_22 (by decide) ?_
    refine k_icmp_ge hF (tgt := 79) dX2_hasTwins_23 (by decide) (fun c3 => ?_) (fun c3 => ?_)
    · replace h := ite_t c3 h
      exact he _ (Option.some.inj h).symm
    · replace h := ite_f c3 h
      refine k_iconst hF dX2_hasTwins_26 ci_0 ?_
      refine k_istore hF (L' := [some (.ref (B + 16)), some (.int a1), some (.ref (B + u2)), some (.int ea3), some (.int x), some (.int (0 : Int32))]) dX2_hasTwins_27 (by decide) rfl ?_
      obtain ⟨x12, hx12, h⟩ := bind_some h
      refine k_loop (P := fun xq => KJ (Rep D B shpC) A 6 0 0 Q p l e ({ frames := 2, cells := 0, slots := 0, locals := 44 } : Room) s m args below meth c 0 0 29 [some (.ref (B + 16)), some (.int a1), some (.ref (B + u2)), some (.int ea3), some (.int x), some (.int xq)] [] σ) (C := fun wq => Sum.elim (fun xq => KJ (Rep D B shpC) A 6 0 0 Q p l e ({ frames := 2, cells := 0, slots := 0, locals := 44 } : Room) s m args below meth c 0 0 73 [some (.ref (B + 16)), some (.int a1), some (.ref (B + u2)), some (.int ea3), some (.int x), some (.int xq)] [] σ) (fun rq => ∀ (pc : Nat) (L : List (Option Value)), narrow .boolean (.int rq) = .int rq → decode cX2_hasTwins pc = .ok (.ireturn, 1) → KJ (Rep D B shpC) A 6 0 0 Q p l e ({ frames := 2, cells := 0, slots := 0, locals := 44 } : Room) s m args below meth c 0 0 pc L [.int rq] σ) wq) (fun x z hz hc he => wX2_hasTwins_l29 hF hA hbs q2 hz hc he) hx12 ?_
      rcases x12 with x13 | r14
      · show KJ (Rep D B shpC) A 6 0 0 Q p l e ({ frames := 2, cells := 0, slots := 0, locals := 44 } : Room) s m args below meth c 0 0 73 [some (.ref (B + 16)), some (.int a1), some (.ref (B + u2)), some (.int ea3), some (.int x), some (.int x13)] [] σ
        replace h : _ = some z := h
        refine k_iinc hF (v := (x + (1 : Int32))) (L' := [some (.ref (B + 16)), some (.int a1), some (.ref (B + u2)), some (.int ea3), some (.int (x + (1 : Int32))), some (.int x13)]) dX2_hasTwins_73 rfl (by first | rfl | (congr 1)) (by decide) rfl ?_
        refine k_goto hF dX2_hasTwins_76 (tgt := 12) (by decide) ?_
        refine k_kill 5 rfl ?_
        exact hc _ (Option.some.inj h).symm
      · replace h : some (.inr (.inr (r14))) = some z := h
        exact he _ (Option.some.inj h).symm
set_option maxHeartbeats 4000000 in
set_option maxRecDepth 100000 in
theorem wX2_hasTwins {p : Program} {l : Launch} {e : Env} {s : State} {m : MethodId} {args : Array Value} {below : List Frame} {meth : Method} {c : Code} {Q : State → Prop} {A : Nat → Prop} {D : DD} {base B : Nat} (hF : KF D base cX2_hasTwins RX2 A 6 0 0 p l e ({ frames := 2, cells := 0, slots := 0, locals := 44 } : Room) s m args below meth c) (hA : ∀ q, RA B shpC q → A q) (hbs : base ≤ B) {σ : St} {a1 : Int32} {u2 : Nat} (q2 : shpC[u2]? = some (.inr (0, 24, fun _ => 0))) {z : Int32} (h : fX2_hasTwins σ a1 u2 = some z) (hr : ∀ (pc : Nat) (L : List (Option Value)), narrow .boolean (.int z) = .int z → decode cX2_hasTwins pc = .ok (.ireturn, 1) → KJ (Rep D B shpC) A 6 0 0 Q p l e ({ frames := 2, cells := 0, slots := 0, locals := 44 } : Room) s m args below meth c 0 0 pc L [.int z] σ) : KJ (Rep D B shpC) A 6 0 0 Q p l e ({ frames := 2, cells := 0, slots := 0, locals := 44 } : Room) s m args below meth c 0 0 0 [some (.ref (B + 16)), some (.int a1), some (.ref (B + u2)), none, none, none] [] σ := by
  unfold fX2_hasTwins at h
  refine k_aload_n hF dX2_hasTwins_0 rfl ?_
  refine k_get hF (v := .ref (B + 1)) shC_16 fl_X2_22_X2 dX2_hasTwins_1 rfl ?_
  refine k_iload_n hF dX2_hasTwins_4 rfl ?_
  obtain ⟨v1, hv1, h⟩ := bind_some h
  refine k_callV hF hA (as := [.int a1]) (ct_X6_labelled hbs hv1) mv_X2_42 shC_1 rfl rfl rfl ⟨Nat.le_of_ble_eq_true rfl, Nat.le_of_ble_eq_true rfl⟩ (Nat.le_of_ble_eq_true rfl) dX2_hasTwins_5 ?_
  refine k_st (st2 := [.int v1]) rfl ?_
  refine k_istore_n hF (L' := [some (.ref (B + 16)), some (.int a1), some (.ref (B + u2)), some (.int v1), none, none]) dX2_hasTwins_8 (by decide) rfl ?_
  refine k_iconst hF dX2_hasTwins_9 ci_0 ?_
  refine k_istore hF (L' := [some (.ref (B + 16)), some (.int a1), some (.ref (B + u2)), some (.int v1), some (.int (0 : Int32)), none]) dX2_hasTwins_10 (by decide) rfl ?_
  obtain ⟨x15, hx15, h⟩ := bind_some h
  refine k_loop (P := fun xq => KJ (Rep D B shpC) A 6 0 0 Q p l e ({ frames := 2, cells := 0, slots := 0, locals := 44 } : Room) s m args below meth c 0 0 12 [some (.ref (B + 16)), some (.int a1), some (.ref (B + u2)), some (.int v1), some (.int xq), none] [] σ) (C := fun wq => Sum.elim (fun xq => KJ (Rep D B shpC) A 6 0 0 Q p l e ({ frames := 2, cells := 0, slots := 0, locals := 44 } : Room) s m args below meth c 0 0 79 [some (.ref (B + 16)), some (.int a1), some (.ref (B + u2)), some (.int v1), some (.int xq), none] [] σ) (fun rq => ∀ (pc : Nat) (L : List (Option Value)), narrow .boolean (.int rq) = .int rq → decode cX2_hasTwins pc = .ok (.ireturn, 1) → KJ (Rep D B shpC) A 6 0 0 Q p l e ({ frames := 2, cells := 0, slots := 0, locals := 44 } : Room) s m args below meth c 0 0 pc L [.int rq] σ) wq) (fun x z hz hc he => wX2_hasTwins_l12 hF hA hbs q2 hz hc he) hx15 ?_
  rcases x15 with x16 | r17
  · show KJ (Rep D B shpC) A 6 0 0 Q p l e ({ frames := 2, cells := 0, slots := 0, locals := 44 } : Room) s m args below meth c 0 0 79 [some (.ref (B + 16)), some (.int a1), some (.ref (B + u2)), some (.int v1), some (.int x16), none] [] σ
    replace h : _ = some z := h
    refine k_iconst hF dX2_hasTwins_79 ci_0 ?_
    cases h
    exact hr _ _ nar_0 dX2_hasTwins_80
  · replace h : some (r17) = some z := h
    cases h; exact hr
theorem ct_X2_hasTwins {l : Launch} {D : DD} {base B : Nat} (hbs : base ≤ B) {σ : St} {a1 : Int32} {u2 : Nat} (q2 : shpC[u2]? = some (.inr (0, 24, fun _ => 0))) {r : Int32} (h : fX2_hasTwins σ a1 u2 = some r) : MetR l D B shpC base yX2_hasTwins cX2_hasTwins 6 (some .boolean) 2 44 [.ref (B + 16), .int a1, .ref (B + u2)] σ (some (.int r)) σ :=
  MetR.of (by decide +kernel) (fun v hv => by simp only [List.mem_cons, List.not_mem_nil, or_false] at hv; rcases hv with rfl | rfl | rfl <;> rfl) (Nat.le_of_ble_eq_true rfl) hbs (fun p e s m args below meth c hF hr => wX2_hasTwins hF (fun q hq => hq) hbs q2 h (fun pc L hn hd => k_iret hF hr hn hd))
set_option maxHeartbeats 4000000 in
set_option maxRecDepth 100000 in
theorem wX2_isAllowed_j46 {p : Program} {l : Launch} {e : Env} {s : State} {m : MethodId} {args : Array Value} {below : List Frame} {meth : Method} {c : Code} {Q : State → Prop} {A : Nat → Prop} {D : DD} {base B : Nat} (hF : KF D base cX2_isAllowed RX2 A 4 0 0 p l e ({ frames := 0, cells := 0, slots := 0, locals := 0 } : Room) s m args below meth c) (hA : ∀ q, RA B shpC q → A q) (hbs : base ≤ B) {σ : St} {a1 : Int32} {a2 : Int32} {a3 : Int32} {z : Int32} (h : fX2_isAllowed_j46 σ a1 a2 a3 = some z) (hr : ∀ (pc : Nat) (L : List (Option Value)), narrow .boolean (.int z) = .int z → decode cX2_isAllowed pc = .ok (.ireturn, 1) → KJ (Rep D B shpC) A 4 0 0 Q p l e ({ frames := 0, cells := 0, slots := 0, locals := 0 } : Room) s m args below meth c 0 0 pc L [.int z] σ) : KJ (Rep D B shpC) A 4 0 0 Q p l e ({ frames := 0, cells := 0, slots := 0, locals := 0 } : Room) s m args below meth c 0 0 46 [some (.ref (B + 16)), some (.int a1), some (.int a2), some (.int a3)] [] σ := by
  unfold fX2_isAllowed_j46 at h
  refine k_iconst hF dX2_isAllowed_46 ci_1 ?_
  refine k_goto hF dX2_isAllowed_47 (tgt := 51) (by decide) ?_
  cases h
  exact hr _ _ nar_1 dX2_isAllowed_51
set_option maxHeartbeats 4000000 in
set_option maxRecDepth 100000 in
theorem wX2_isAllowed_j50 {p : Program} {l : Launch} {e : Env} {s : State} {m : MethodId} {args : Array Value} {below : List Frame} {meth : Method} {c : Code} {Q : State → Prop} {A : Nat → Prop} {D : DD} {base B : Nat} (hF : KF D base cX2_isAllowed RX2 A 4 0 0 p l e ({ frames := 0, cells := 0, slots := 0, locals := 0 } : Room) s m args below meth c) (hA : ∀ q, RA B shpC q → A q) (hbs : base ≤ B) {σ : St} {a1 : Int32} {a2 : Int32} {a3 : Int32} {z : Int32} (h : fX2_isAllowed_j50 σ a1 a2 a3 = some z) (hr : ∀ (pc : Nat) (L : List (Option Value)), narrow .boolean (.int z) = .int z → decode cX2_isAllowed pc = .ok (.ireturn, 1) → KJ (Rep D B shpC) A 4 0 0 Q p l e ({ frames := 0, cells := 0, slots := 0, locals := 0 } : Room) s m args below meth c 0 0 pc L [.int z] σ) : KJ (Rep D B shpC) A 4 0 0 Q p l e ({ frames := 0, cells := 0, slots := 0, locals := 0 } : Room) s m args below meth c 0 0 50 [some (.ref (B + 16)), some (.int a1), some (.int a2), some (.int a3)] [] σ := by
  unfold fX2_isAllowed_j50 at h
  refine k_iconst hF dX2_isAllowed_50 ci_0 ?_
  cases h
  exact hr _ _ nar_0 dX2_isAllowed_51
set_option maxHeartbeats 4000000 in
set_option maxRecDepth 100000 in
theorem wX2_isAllowed {p : Program} {l : Launch} {e : Env} {s : State} {m : MethodId} {args : Array Value} {below : List Frame} {meth : Method} {c : Code} {Q : State → Prop} {A : Nat → Prop} {D : DD} {base B : Nat} (hF : KF D base cX2_isAllowed RX2 A 4 0 0 p l e ({ frames := 0, cells := 0, slots := 0, locals := 0 } : Room) s m args below meth c) (hA : ∀ q, RA B shpC q → A q) (hbs : base ≤ B) {σ : St} {a1 : Int32} {a2 : Int32} {a3 : Int32} {z : Int32} (h : fX2_isAllowed σ a1 a2 a3 = some z) (hr : ∀ (pc : Nat) (L : List (Option Value)), narrow .boolean (.int z) = .int z → decode cX2_isAllowed pc = .ok (.ireturn, 1) → KJ (Rep D B shpC) A 4 0 0 Q p l e ({ frames := 0, cells := 0, slots := 0, locals := 0 } : Room) s m args below meth c 0 0 pc L [.int z] σ) : KJ (Rep D B shpC) A 4 0 0 Q p l e ({ frames := 0, cells := 0, slots := 0, locals := 0 } : Room) s m args below meth c 0 0 0 [some (.ref (B + 16)), some (.int a1), some (.int a2), some (.int a3)] [] σ := by
  unfold fX2_isAllowed at h
  refine k_aload_n hF dX2_isAllowed_0 rfl ?_
  refine k_get hF (v := .ref (B + 18)) shC_16 fl_X2_15_X2 dX2_isAllowed_1 rfl ?_
  refine k_iload_n hF dX2_isAllowed_4 rfl ?_
  obtain ⟨g1, h⟩ := gd_some h
  refine k_iald hF shC_18 dX2_isAllowed_5 g1 ?_
  refine k_iconst hF dX2_isAllowed_6 ci_m1 ?_
  refine k_icmp_eq hF (tgt := 46) dX2_isAllowed_7 (by decide) (fun c2 => ?_) (fun c2 => ?_)
  · replace h := ite_t c2 h
    exact wX2_isAllowed_j46 hF hA hbs h hr
  · replace h := ite_f c2 h
    refine k_aload_n hF dX2_isAllowed_10 rfl ?_
    refine k_get hF (v := .ref (B + 1)) shC_16 fl_X2_22_X2 dX2_isAllowed_11 rfl ?_
    refine k_get hF (v := .ref (B + 4)) shC_1 fl_X2_36_X6 dX2_isAllowed_14 rfl ?_
    refine k_iload_n hF dX2_isAllowed_17 rfl ?_
    obtain ⟨g3, h⟩ := gd_some h
    refine k_iald hF shC_4 dX2_isAllowed_18 g3 ?_
    refine k_aload_n hF dX2_isAllowed_19 rfl ?_
    refine k_get hF (v := .ref (B + 18)) shC_16 fl_X2_15_X2 dX2_isAllowed_20 rfl ?_
    refine k_iload_n hF dX2_isAllowed_23 rfl ?_
    obtain ⟨g4, h⟩ := gd_some h
    refine k_iald hF shC_18 dX2_isAllowed_24 g4 ?_
    refine k_icmp_ne hF (tgt := 50) dX2_isAllowed_25 (by decide) (fun c5 => ?_) (fun c5 => ?_)
    · replace h := ite_f c5 h
      exact wX2_isAllowed_j50 hF hA hbs h hr
    · replace h := ite_t c5 h
      refine k_aload_n hF dX2_isAllowed_28 rfl ?_
      refine k_get hF (v := .ref (B + 1)) shC_16 fl_X2_22_X2 dX2_isAllowed_29 rfl ?_
      refine k_get hF (v := .ref (B + 4)) shC_1 fl_X2_36_X6 dX2_isAllowed_32 rfl ?_
      refine k_iload_n hF dX2_isAllowed_35 rfl ?_
      obtain ⟨g6, h⟩ := gd_some h
      refine k_iald hF shC_4 dX2_isAllowed_36 g6 ?_
      refine k_aload_n hF dX2_isAllowed_37 rfl ?_
      refine k_get hF (v := .ref (B + 19)) shC_16 fl_X2_19_X2 dX2_isAllowed_38 rfl ?_
      refine k_iload_n hF dX2_isAllowed_41 rfl ?_
      obtain ⟨g7, h⟩ := gd_some h
      refine k_iald hF shC_19 dX2_isAllowed_42 g7 ?_
      refine k_icmp_ne hF (tgt := 50) dX2_isAllowed_43 (by decide) (fun c8 => ?_) (fun c8 => ?_)
      · replace h := ite_f c8 h
        exact wX2_isAllowed_j50 hF hA hbs h hr
      · replace h := ite_t c8 h
        exact wX2_isAllowed_j46 hF hA hbs h hr
theorem ct_X2_isAllowed {l : Launch} {D : DD} {base B : Nat} (hbs : base ≤ B) {σ : St} {a1 : Int32} {a2 : Int32} {a3 : Int32} {r : Int32} (h : fX2_isAllowed σ a1 a2 a3 = some r) : MetR l D B shpC base yX2_isAllowed cX2_isAllowed 4 (some .boolean) 0 0 [.ref (B + 16), .int a1, .int a2, .int a3] σ (some (.int r)) σ :=
  MetR.of (by decide +kernel) (fun v hv => by simp only [List.mem_cons, List.not_mem_nil, or_false] at hv; rcases hv with rfl | rfl | rfl | rfl <;> rfl) (Nat.le_of_ble_eq_true rfl) hbs (fun p e s m args below meth c hF hr => wX2_isAllowed hF (fun q hq => hq) hbs h (fun pc L hn hd => k_iret hF hr hn hd))
set_option maxHeartbeats 4000000 in
set_option maxRecDepth 100000 in
theorem wX3_load_j39 {p : Program} {l : Launch} {e : Env} {s : State} {m : MethodId} {args : Array Value} {below : List Frame} {meth : Method} {c : Code} {Q : State → Prop} {A : Nat → Prop} {D : DD} {base B : Nat} (hF : KF D base cX3_load RX3 A 4 0 0 p l e ({ frames := 1, cells := 0, slots := 0, locals := 21 } : Room) s m args below meth c) (hA : ∀ q, RA B shpC q → A q) (hbs : base ≤ B) {σ : St} {a1 : Int32} {b2 : Int32} {b3 : Int32} {z : ((Int32 × Int32) ⊕ (Int32 × Int32))} (h : fX3_load_j39 σ a1 b2 b3 = some z) (hc : ∀ x, z = .inl x → KJ (Rep D B shpC) A 4 0 0 Q p l e ({ frames := 1, cells := 0, slots := 0, locals := 21 } : Room) s m args below meth c 0 0 4 [some (.ref (B + 20)), some (.int a1), some (.int x.1), some (.int x.2)] [] σ) (he : ∀ w, z = .inr w → KJ (Rep D B shpC) A 4 0 0 Q p l e ({ frames := 1, cells := 0, slots := 0, locals := 21 } : Room) s m args below meth c 0 0 45 [some (.ref (B + 20)), some (.int a1), some (.int w.1), some (.int w.2)] [] σ) : KJ (Rep D B shpC) A 4 0 0 Q p l e ({ frames := 1, cells := 0, slots := 0, locals := 21 } : Room) s m args below meth c 0 0 39 [some (.ref (B + 20)), some (.int a1), some (.int b2), some (.int b3)] [] σ := by
  unfold fX3_load_j39 at h
  refine k_iinc hF (v := (b3 + (1 : Int32))) (L' := [some (.ref (B + 20)), some (.int a1), some (.int b2), some (.int (b3 + (1 : Int32)))]) dX3_load_39 rfl (by first | rfl | (congr 1)) (by decide) rfl ?_
  refine k_goto hF dX3_load_42 (tgt := 4) (by decide) ?_
  exact hc _ (Option.some.inj h).symm
set_option maxHeartbeats 4000000 in
set_option maxRecDepth 100000 in
theorem wX3_load_l4 {p : Program} {l : Launch} {e : Env} {s : State} {m : MethodId} {args : Array Value} {below : List Frame} {meth : Method} {c : Code} {Q : State → Prop} {A : Nat → Prop} {D : DD} {base B : Nat} (hF : KF D base cX3_load RX3 A 4 0 0 p l e ({ frames := 1, cells := 0, slots := 0, locals := 21 } : Room) s m args below meth c) (hA : ∀ q, RA B shpC q → A q) (hbs : base ≤ B) {σ : St} {a1 : Int32} {x : (Int32 × Int32)} {z : ((Int32 × Int32) ⊕ (Int32 × Int32))} (h : fX3_load_l4 σ a1 x = some z) (hc : ∀ x, z = .inl x → KJ (Rep D B shpC) A 4 0 0 Q p l e ({ frames := 1, cells := 0, slots := 0, locals := 21 } : Room) s m args below meth c 0 0 4 [some (.ref (B + 20)), some (.int a1), some (.int x.1), some (.int x.2)] [] σ) (he : ∀ w, z = .inr w → KJ (Rep D B shpC) A 4 0 0 Q p l e ({ frames := 1, cells := 0, slots := 0, locals := 21 } : Room) s m args below meth c 0 0 45 [some (.ref (B + 20)), some (.int a1), some (.int w.1), some (.int w.2)] [] σ) : KJ (Rep D B shpC) A 4 0 0 Q p l e ({ frames := 1, cells := 0, slots := 0, locals := 21 } : Room) s m args below meth c 0 0 4 [some (.ref (B + 20)), some (.int a1), some (.int x.1), some (.int x.2)] [] σ := by
  unfold fX3_load_l4 at h
  refine k_iload_n hF dX3_load_4 rfl ?_
  refine k_aload_n hF dX3_load_5 rfl ?_
  refine k_get hF (v := .ref (B + 1)) shC_20 fl_X3_19_X3 dX3_load_6 rfl ?_
  refine k_get hF (v := .int (gi σ 1 2)) shC_1 fl_X3_27_X6 dX3_load_9 rfl ?_
  refine k_icmp_ge hF (tgt := 45) dX3_load_12 (by decide) (fun c1 => ?_) (fun c1 => ?_)
  · replace h := ite_t c1 h
    exact he _ (Option.some.inj h).symm
  · replace h := ite_f c1 h
    refine k_aload_n hF dX3_load_15 rfl ?_
    refine k_get hF (v := .ref (B + 1)) shC_20 fl_X3_19_X3 dX3_load_16 rfl ?_
    refine k_iload_n hF dX3_load_19 rfl ?_
    obtain ⟨v2, hv2, h⟩ := bind_some h
    refine k_callU hF hA (as := [.int x.2]) (ct_X7_isThereN hbs hv2) mu_X3_33 shC_1 rfl rfl rfl ⟨Nat.le_of_ble_eq_true rfl, Nat.le_of_ble_eq_true rfl⟩ (Nat.le_of_ble_eq_true rfl) dX3_load_20 ?_
    refine k_st (st2 := [.int v2]) rfl ?_
    refine k_if_eq hF (tgt := 39) dX3_load_23 (by decide) (fun c3 => ?_) (fun c3 => ?_)
    · replace h := ite_t c3 h
      exact wX3_load_j39 hF hA hbs h hc he
    · replace h := ite_f c3 h
      refine k_aload_n hF dX3_load_26 rfl ?_
      refine k_get hF (v := .ref (B + 21)) shC_20 fl_X3_9_X3 dX3_load_27 rfl ?_
      refine k_iload_n hF dX3_load_30 rfl ?_
      obtain ⟨g4, h⟩ := gd_some h
      refine k_iald hF shC_21 dX3_load_31 g4 ?_
      refine k_iload_n hF dX3_load_32 rfl ?_
      refine k_icmp_ne hF (tgt := 39) dX3_load_33 (by decide) (fun c5 => ?_) (fun c5 => ?_)
      · replace h := ite_f c5 h
        exact wX3_load_j39 hF hA hbs h hc he
      · replace h := ite_t c5 h
        refine k_iinc hF (v := (x.1 + (1 : Int32))) (L' := [some (.ref (B + 20)), some (.int a1), some (.int (x.1 + (1 : Int32))), some (.int x.2)]) dX3_load_36 rfl (by first | rfl | (congr 1)) (by decide) rfl ?_
        exact wX3_load_j39 hF hA hbs h hc he
set_option maxHeartbeats 4000000 in
set_option maxRecDepth 100000 in
theorem wX3_load {p : Program} {l : Launch} {e : Env} {s : State} {m : MethodId} {args : Array Value} {below : List Frame} {meth : Method} {c : Code} {Q : State → Prop} {A : Nat → Prop} {D : DD} {base B : Nat} (hF : KF D base cX3_load RX3 A 4 0 0 p l e ({ frames := 1, cells := 0, slots := 0, locals := 21 } : Room) s m args below meth c) (hA : ∀ q, RA B shpC q → A q) (hbs : base ≤ B) {σ : St} {a1 : Int32} {z : Int32} (h : fX3_load σ a1 = some z) (hr : ∀ (pc : Nat) (L : List (Option Value)), narrow .int (.int z) = .int z → decode cX3_load pc = .ok (.ireturn, 1) → KJ (Rep D B shpC) A 4 0 0 Q p l e ({ frames := 1, cells := 0, slots := 0, locals := 21 } : Room) s m args below meth c 0 0 pc L [.int z] σ) : KJ (Rep D B shpC) A 4 0 0 Q p l e ({ frames := 1, cells := 0, slots := 0, locals := 21 } : Room) s m args below meth c 0 0 0 [some (.ref (B + 20)), some (.int a1), none, none] [] σ := by
  unfold fX3_load at h
  refine k_iconst hF dX3_load_0 ci_0 ?_
  refine k_istore_n hF (L' := [some (.ref (B + 20)), some (.int a1), some (.int (0 : Int32)), none]) dX3_load_1 (by decide) rfl ?_
  refine k_iconst hF dX3_load_2 ci_0 ?_
  refine k_istore_n hF (L' := [some (.ref (B + 20)), some (.int a1), some (.int (0 : Int32)), some (.int (0 : Int32))]) dX3_load_3 (by decide) rfl ?_
  obtain ⟨x6, hx6, h⟩ := bind_some h
  refine k_loop (P := fun xq => KJ (Rep D B shpC) A 4 0 0 Q p l e ({ frames := 1, cells := 0, slots := 0, locals := 21 } : Room) s m args below meth c 0 0 4 [some (.ref (B + 20)), some (.int a1), some (.int xq.1), some (.int xq.2)] [] σ) (C := fun xq => KJ (Rep D B shpC) A 4 0 0 Q p l e ({ frames := 1, cells := 0, slots := 0, locals := 21 } : Room) s m args below meth c 0 0 45 [some (.ref (B + 20)), some (.int a1), some (.int xq.1), some (.int xq.2)] [] σ) (fun x z hz hc he => wX3_load_l4 hF hA hbs hz hc he) hx6 ?_
  show KJ (Rep D B shpC) A 4 0 0 Q p l e ({ frames := 1, cells := 0, slots := 0, locals := 21 } : Room) s m args below meth c 0 0 45 [some (.ref (B + 20)), some (.int a1), some (.int x6.1), some (.int x6.2)] [] σ
  refine k_iload_n hF dX3_load_45 rfl ?_
  cases h
  exact hr _ _ rfl dX3_load_46
theorem ct_X3_load {l : Launch} {D : DD} {base B : Nat} (hbs : base ≤ B) {σ : St} {a1 : Int32} {r : Int32} (h : fX3_load σ a1 = some r) : MetR l D B shpC base yX3_load cX3_load 4 (some .int) 1 21 [.ref (B + 20), .int a1] σ (some (.int r)) σ :=
  MetR.of (by decide +kernel) (fun v hv => by simp only [List.mem_cons, List.not_mem_nil, or_false] at hv; rcases hv with rfl | rfl <;> rfl) (Nat.le_of_ble_eq_true rfl) hbs (fun p e s m args below meth c hF hr => wX3_load hF (fun q hq => hq) hbs h (fun pc L hn hd => k_iret hF hr hn hd))
set_option maxHeartbeats 4000000 in
set_option maxRecDepth 100000 in
theorem wX3_emptiest_j39 {p : Program} {l : Launch} {e : Env} {s : State} {m : MethodId} {args : Array Value} {below : List Frame} {meth : Method} {c : Code} {Q : State → Prop} {A : Nat → Prop} {D : DD} {base B : Nat} (hF : KF D base cX3_emptiest RX3 A 5 0 0 p l e ({ frames := 2, cells := 0, slots := 0, locals := 44 } : Room) s m args below meth c) (hA : ∀ q, RA B shpC q → A q) (hbs : base ≤ B) {σ : St} {b1 : Int32} {b2 : Int32} {b3 : Int32} {z : ((Int32 × Int32 × Int32) ⊕ (Int32 × Int32 × Int32))} (h : fX3_emptiest_j39 σ b1 b2 b3 = some z) (hc : ∀ x, z = .inl x → KJ (Rep D B shpC) A 5 0 0 Q p l e ({ frames := 2, cells := 0, slots := 0, locals := 44 } : Room) s m args below meth c 0 0 7 [some (.ref (B + 20)), some (.int x.1), some (.int x.2.1), some (.int x.2.2), none] [] σ) (he : ∀ w, z = .inr w → KJ (Rep D B shpC) A 5 0 0 Q p l e ({ frames := 2, cells := 0, slots := 0, locals := 44 } : Room) s m args below meth c 0 0 45 [some (.ref (B + 20)), some (.int w.1), some (.int w.2.1), some (.int w.2.2), none] [] σ) : KJ (Rep D B shpC) A 5 0 0 Q p l e ({ frames := 2, cells := 0, slots := 0, locals := 44 } : Room) s m args below meth c 0 0 39 [some (.ref (B + 20)), some (.int b1), some (.int b2), some (.int b3), none] [] σ := by
  unfold fX3_emptiest_j39 at h
  refine k_iinc hF (v := (b3 + (1 : Int32))) (L' := [some (.ref (B + 20)), some (.int b1), some (.int b2), some (.int (b3 + (1 : Int32))), none]) dX3_emptiest_39 rfl (by first | rfl | (congr 1)) (by decide) rfl ?_
  refine k_goto hF dX3_emptiest_42 (tgt := 7) (by decide) ?_
  exact hc _ (Option.some.inj h).symm
set_option maxHeartbeats 4000000 in
set_option maxRecDepth 100000 in
theorem wX3_emptiest_l7 {p : Program} {l : Launch} {e : Env} {s : State} {m : MethodId} {args : Array Value} {below : List Frame} {meth : Method} {c : Code} {Q : State → Prop} {A : Nat → Prop} {D : DD} {base B : Nat} (hF : KF D base cX3_emptiest RX3 A 5 0 0 p l e ({ frames := 2, cells := 0, slots := 0, locals := 44 } : Room) s m args below meth c) (hA : ∀ q, RA B shpC q → A q) (hbs : base ≤ B) {σ : St} {x : (Int32 × Int32 × Int32)} {z : ((Int32 × Int32 × Int32) ⊕ (Int32 × Int32 × Int32))} (h : fX3_emptiest_l7 σ x = some z) (hc : ∀ x, z = .inl x → KJ (Rep D B shpC) A 5 0 0 Q p l e ({ frames := 2, cells := 0, slots := 0, locals := 44 } : Room) s m args below meth c 0 0 7 [some (.ref (B + 20)), some (.int x.1), some (.int x.2.1), some (.int x.2.2), none] [] σ) (he : ∀ w, z = .inr w → KJ (Rep D B shpC) A 5 0 0 Q p l e ({ frames := 2, cells := 0, slots := 0, locals := 44 } : Room) s m args below meth c 0 0 45 [some (.ref (B + 20)), some (.int w.1), some (.int w.2.1), some (.int w.2.2), none] [] σ) : KJ (Rep D B shpC) A 5 0 0 Q p l e ({ frames := 2, cells := 0, slots := 0, locals := 44 } : Room) s m args below meth c 0 0 7 [some (.ref (B + 20)), some (.int x.1), some (.int x.2.1), some (.int x.2.2), none] [] σ := by
  unfold fX3_emptiest_l7 at h
  refine k_iload_n hF dX3_emptiest_7 rfl ?_
  refine k_iconst hF dX3_emptiest_8 ci_3 ?_
  refine k_icmp_ge hF (tgt := 45) dX3_emptiest_9 (by decide) (fun c1 => ?_) (fun c1 => ?_)
  · replace h := ite_t c1 h
    exact he _ (Option.some.inj h).symm
  · replace h := ite_f c1 h
    refine k_aload_n hF dX3_emptiest_12 rfl ?_
    refine k_iload_n hF dX3_emptiest_13 rfl ?_
    obtain ⟨v2, hv2, h⟩ := bind_some h
    refine k_callV hF hA (as := [.int x.2.2]) (ct_X3_load hbs hv2) mv_X3_37 shC_20 rfl rfl rfl ⟨Nat.le_of_ble_eq_true rfl, Nat.le_of_ble_eq_true rfl⟩ (Nat.le_of_ble_eq_true rfl) dX3_emptiest_14 ?_
    refine k_st (st2 := [.int v2]) rfl ?_
    refine k_istore hF (L' := [some (.ref (B + 20)), some (.int x.1), some (.int x.2.1), some (.int x.2.2), some (.int v2)]) dX3_emptiest_17 (by decide) rfl ?_
    refine k_aload_n hF dX3_emptiest_19 rfl ?_
    refine k_get hF (v := .ref (B + 22)) shC_20 fl_X3_15_X3 dX3_emptiest_20 rfl ?_
    refine k_iload_n hF dX3_emptiest_23 rfl ?_
    obtain ⟨g3, h⟩ := gd_some h
    refine k_zald hF shC_22 dX3_emptiest_24 g3 ?_
    refine k_if_eq hF (tgt := 39) dX3_emptiest_25 (by decide) (fun c4 => ?_) (fun c4 => ?_)
    · replace h := ite_t c4 h
      refine k_kill 4 rfl ?_
      exact wX3_emptiest_j39 hF hA hbs h hc he
    · replace h := ite_f c4 h
      refine k_iload hF dX3_emptiest_28 rfl ?_
      refine k_iload_n hF dX3_emptiest_30 rfl ?_
      refine k_icmp_ge hF (tgt := 39) dX3_emptiest_31 (by decide) (fun c5 => ?_) (fun c5 => ?_)
      · replace h := ite_t c5 h
        refine k_kill 4 rfl ?_
        exact wX3_emptiest_j39 hF hA hbs h hc he
      · replace h := ite_f c5 h
        refine k_iload_n hF dX3_emptiest_34 rfl ?_
        refine k_istore_n hF (L' := [some (.ref (B + 20)), some (.int x.2.2), some (.int x.2.1), some (.int x.2.2), some (.int v2)]) dX3_emptiest_35 (by decide) rfl ?_
        refine k_iload hF dX3_emptiest_36 rfl ?_
        refine k_istore_n hF (L' := [some (.ref (B + 20)), some (.int x.2.2), some (.int v2), some (.int x.2.2), some (.int v2)]) dX3_emptiest_38 (by decide) rfl ?_
        refine k_kill 4 rfl ?_
        exact wX3_emptiest_j39 hF hA hbs h hc he
set_option maxHeartbeats 4000000 in
set_option maxRecDepth 100000 in
theorem wX3_emptiest {p : Program} {l : Launch} {e : Env} {s : State} {m : MethodId} {args : Array Value} {below : List Frame} {meth : Method} {c : Code} {Q : State → Prop} {A : Nat → Prop} {D : DD} {base B : Nat} (hF : KF D base cX3_emptiest RX3 A 5 0 0 p l e ({ frames := 2, cells := 0, slots := 0, locals := 44 } : Room) s m args below meth c) (hA : ∀ q, RA B shpC q → A q) (hbs : base ≤ B) {σ : St} {z : Int32} (h : fX3_emptiest σ = some z) (hr : ∀ (pc : Nat) (L : List (Option Value)), narrow .int (.int z) = .int z → decode cX3_emptiest pc = .ok (.ireturn, 1) → KJ (Rep D B shpC) A 5 0 0 Q p l e ({ frames := 2, cells := 0, slots := 0, locals := 44 } : Room) s m args below meth c 0 0 pc L [.int z] σ) : KJ (Rep D B shpC) A 5 0 0 Q p l e ({ frames := 2, cells := 0, slots := 0, locals := 44 } : Room) s m args below meth c 0 0 0 [some (.ref (B + 20)), none, none, none, none] [] σ := by
  unfold fX3_emptiest at h
  refine k_iconst hF dX3_emptiest_0 ci_m1 ?_
  refine k_istore_n hF (L' := [some (.ref (B + 20)), some (.int (-1 : Int32)), none, none, none]) dX3_emptiest_1 (by decide) rfl ?_
  refine k_bipush hF (v := (25 : Int32)) dX3_emptiest_2 (by decide) ?_
  refine k_istore_n hF (L' := [some (.ref (B + 20)), some (.int (-1 : Int32)), some (.int (25 : Int32)), none, none]) dX3_emptiest_4 (by decide) rfl ?_
  refine k_iconst hF dX3_emptiest_5 ci_0 ?_
  refine k_istore_n hF (L' := [some (.ref (B + 20)), some (.int (-1 : Int32)), some (.int (25 : Int32)), some (.int (0 : Int32)), none]) dX3_emptiest_6 (by decide) rfl ?_
  obtain ⟨x6, hx6, h⟩ := bind_some h
  refine k_loop (P := fun xq => KJ (Rep D B shpC) A 5 0 0 Q p l e ({ frames := 2, cells := 0, slots := 0, locals := 44 } : Room) s m args below meth c 0 0 7 [some (.ref (B + 20)), some (.int xq.1), some (.int xq.2.1), some (.int xq.2.2), none] [] σ) (C := fun xq => KJ (Rep D B shpC) A 5 0 0 Q p l e ({ frames := 2, cells := 0, slots := 0, locals := 44 } : Room) s m args below meth c 0 0 45 [some (.ref (B + 20)), some (.int xq.1), some (.int xq.2.1), some (.int xq.2.2), none] [] σ) (fun x z hz hc he => wX3_emptiest_l7 hF hA hbs hz hc he) hx6 ?_
  show KJ (Rep D B shpC) A 5 0 0 Q p l e ({ frames := 2, cells := 0, slots := 0, locals := 44 } : Room) s m args below meth c 0 0 45 [some (.ref (B + 20)), some (.int x6.1), some (.int x6.2.1), some (.int x6.2.2), none] [] σ
  refine k_iload_n hF dX3_emptiest_45 rfl ?_
  cases h
  exact hr _ _ rfl dX3_emptiest_46
theorem ct_X3_emptiest {l : Launch} {D : DD} {base B : Nat} (hbs : base ≤ B) {σ : St} {r : Int32} (h : fX3_emptiest σ = some r) : MetR l D B shpC base yX3_emptiest cX3_emptiest 5 (some .int) 2 44 [.ref (B + 20)] σ (some (.int r)) σ :=
  MetR.of (by decide +kernel) (fun v hv => by simp only [List.mem_cons, List.not_mem_nil, or_false] at hv; rcases hv with rfl <;> rfl) (Nat.le_of_ble_eq_true rfl) hbs (fun p e s m args below meth c hF hr => wX3_emptiest hF (fun q hq => hq) hbs h (fun pc L hn hd => k_iret hF hr hn hd))
set_option maxHeartbeats 4000000 in
set_option maxRecDepth 100000 in
theorem wX3_reachable_j47 {p : Program} {l : Launch} {e : Env} {s : State} {m : MethodId} {args : Array Value} {below : List Frame} {meth : Method} {c : Code} {Q : State → Prop} {A : Nat → Prop} {D : DD} {base B : Nat} (hF : KF D base cX3_reachable RX3 A 3 0 0 p l e ({ frames := 1, cells := 0, slots := 0, locals := 21 } : Room) s m args below meth c) (hA : ∀ q, RA B shpC q → A q) (hbs : base ≤ B) {σ : St} {b1 : Int32} {b2 : Int32} {z : ((Int32 × Int32) ⊕ (Int32 × Int32))} (h : fX3_reachable_j47 σ b1 b2 = some z) (hc : ∀ x, z = .inl x → KJ (Rep D B shpC) A 3 0 0 Q p l e ({ frames := 1, cells := 0, slots := 0, locals := 21 } : Room) s m args below meth c 0 0 4 [some (.ref (B + 20)), some (.int x.1), some (.int x.2)] [] σ) (he : ∀ w, z = .inr w → KJ (Rep D B shpC) A 3 0 0 Q p l e ({ frames := 1, cells := 0, slots := 0, locals := 21 } : Room) s m args below meth c 0 0 53 [some (.ref (B + 20)), some (.int w.1), some (.int w.2)] [] σ) : KJ (Rep D B shpC) A 3 0 0 Q p l e ({ frames := 1, cells := 0, slots := 0, locals := 21 } : Room) s m args below meth c 0 0 47 [some (.ref (B + 20)), some (.int b1), some (.int b2)] [] σ := by
  unfold fX3_reachable_j47 at h
  refine k_iinc hF (v := (b2 + (1 : Int32))) (L' := [some (.ref (B + 20)), some (.int b1), some (.int (b2 + (1 : Int32)))]) dX3_reachable_47 rfl (by first | rfl | (congr 1)) (by decide) rfl ?_
  refine k_goto hF dX3_reachable_50 (tgt := 4) (by decide) ?_
  exact hc _ (Option.some.inj h).symm
set_option maxHeartbeats 4000000 in
set_option maxRecDepth 100000 in
theorem wX3_reachable_l4 {p : Program} {l : Launch} {e : Env} {s : State} {m : MethodId} {args : Array Value} {below : List Frame} {meth : Method} {c : Code} {Q : State → Prop} {A : Nat → Prop} {D : DD} {base B : Nat} (hF : KF D base cX3_reachable RX3 A 3 0 0 p l e ({ frames := 1, cells := 0, slots := 0, locals := 21 } : Room) s m args below meth c) (hA : ∀ q, RA B shpC q → A q) (hbs : base ≤ B) {σ : St} {x : (Int32 × Int32)} {z : ((Int32 × Int32) ⊕ (Int32 × Int32))} (h : fX3_reachable_l4 σ x = some z) (hc : ∀ x, z = .inl x → KJ (Rep D B shpC) A 3 0 0 Q p l e ({ frames := 1, cells := 0, slots := 0, locals := 21 } : Room) s m args below meth c 0 0 4 [some (.ref (B + 20)), some (.int x.1), some (.int x.2)] [] σ) (he : ∀ w, z = .inr w → KJ (Rep D B shpC) A 3 0 0 Q p l e ({ frames := 1, cells := 0, slots := 0, locals := 21 } : Room) s m args below meth c 0 0 53 [some (.ref (B + 20)), some (.int w.1), some (.int w.2)] [] σ) : KJ (Rep D B shpC) A 3 0 0 Q p l e ({ frames := 1, cells := 0, slots := 0, locals := 21 } : Room) s m args below meth c 0 0 4 [some (.ref (B + 20)), some (.int x.1), some (.int x.2)] [] σ := by
  unfold fX3_reachable_l4 at h
  refine k_iload_n hF dX3_reachable_4 rfl ?_
  refine k_aload_n hF dX3_reachable_5 rfl ?_
  refine k_get hF (v := .ref (B + 1)) shC_20 fl_X3_19_X3 dX3_reachable_6 rfl ?_
  refine k_get hF (v := .int (gi σ 1 2)) shC_1 fl_X3_27_X6 dX3_reachable_9 rfl ?_
  refine k_icmp_ge hF (tgt := 53) dX3_reachable_12 (by decide) (fun c1 => ?_) (fun c1 => ?_)
  · replace h := ite_t c1 h
    exact he _ (Option.some.inj h).symm
  · replace h := ite_f c1 h
    refine k_aload_n hF dX3_reachable_15 rfl ?_
    refine k_get hF (v := .ref (B + 1)) shC_20 fl_X3_19_X3 dX3_reachable_16 rfl ?_
    refine k_iload_n hF dX3_reachable_19 rfl ?_
    obtain ⟨v2, hv2, h⟩ := bind_some h
    refine k_callU hF hA (as := [.int x.2]) (ct_X7_isThereN hbs hv2) mu_X3_33 shC_1 rfl rfl rfl ⟨Nat.le_of_ble_eq_true rfl, Nat.le_of_ble_eq_true rfl⟩ (Nat.le_of_ble_eq_true rfl) dX3_reachable_20 ?_
    refine k_st (st2 := [.int v2]) rfl ?_
    refine k_if_eq hF (tgt := 47) dX3_reachable_23 (by decide) (fun c3 => ?_) (fun c3 => ?_)
    · replace h := ite_t c3 h
      exact wX3_reachable_j47 hF hA hbs h hc he
    · replace h := ite_f c3 h
      refine k_aload_n hF dX3_reachable_26 rfl ?_
      refine k_get hF (v := .ref (B + 22)) shC_20 fl_X3_15_X3 dX3_reachable_27 rfl ?_
      refine k_aload_n hF dX3_reachable_30 rfl ?_
      refine k_get hF (v := .ref (B + 21)) shC_20 fl_X3_9_X3 dX3_reachable_31 rfl ?_
      refine k_iload_n hF dX3_reachable_34 rfl ?_
      obtain ⟨g4, h⟩ := gd_some h
      refine k_iald hF shC_21 dX3_reachable_35 g4 ?_
      obtain ⟨g5, h⟩ := gd_some h
      refine k_zald hF shC_22 dX3_reachable_36 g5 ?_
      refine k_if_eq hF (tgt := 47) dX3_reachable_37 (by decide) (fun c6 => ?_) (fun c6 => ?_)
      · replace h := ite_t c6 h
        exact wX3_reachable_j47 hF hA hbs h hc he
      · replace h := ite_f c6 h
        refine k_iload_n hF dX3_reachable_40 rfl ?_
        refine k_iload_n hF dX3_reachable_41 rfl ?_
        obtain ⟨v7, hv7, h⟩ := bind_some h
        refine k_callSN hF hA (as := [.int x.2]) (ct_X10_bit hbs hv7) msn_X3_41 rfl rfl ⟨Nat.le_of_ble_eq_true rfl, Nat.le_of_ble_eq_true rfl⟩ (Nat.le_of_ble_eq_true rfl) dX3_reachable_42 ?_
        refine k_st (st2 := [.int v7, .int x.1]) rfl ?_
        refine k_ior hF dX3_reachable_45 ?_
        refine k_istore_n hF (L' := [some (.ref (B + 20)), some (.int (x.1 ||| v7)), some (.int x.2)]) dX3_reachable_46 (by decide) rfl ?_
        exact wX3_reachable_j47 hF hA hbs h hc he
set_option maxHeartbeats 4000000 in
set_option maxRecDepth 100000 in
theorem wX3_reachable {p : Program} {l : Launch} {e : Env} {s : State} {m : MethodId} {args : Array Value} {below : List Frame} {meth : Method} {c : Code} {Q : State → Prop} {A : Nat → Prop} {D : DD} {base B : Nat} (hF : KF D base cX3_reachable RX3 A 3 0 0 p l e ({ frames := 1, cells := 0, slots := 0, locals := 21 } : Room) s m args below meth c) (hA : ∀ q, RA B shpC q → A q) (hbs : base ≤ B) {σ : St} {z : Int32} (h : fX3_reachable σ = some z) (hr : ∀ (pc : Nat) (L : List (Option Value)), narrow .int (.int z) = .int z → decode cX3_reachable pc = .ok (.ireturn, 1) → KJ (Rep D B shpC) A 3 0 0 Q p l e ({ frames := 1, cells := 0, slots := 0, locals := 21 } : Room) s m args below meth c 0 0 pc L [.int z] σ) : KJ (Rep D B shpC) A 3 0 0 Q p l e ({ frames := 1, cells := 0, slots := 0, locals := 21 } : Room) s m args below meth c 0 0 0 [some (.ref (B + 20)), none, none] [] σ := by
  unfold fX3_reachable at h
  refine k_iconst hF dX3_reachable_0 ci_0 ?_
  refine k_istore_n hF (L' := [some (.ref (B + 20)), some (.int (0 : Int32)), none]) dX3_reachable_1 (by decide) rfl ?_
  refine k_iconst hF dX3_reachable_2 ci_0 ?_
  refine k_istore_n hF (L' := [some (.ref (B + 20)), some (.int (0 : Int32)), some (.int (0 : Int32))]) dX3_reachable_3 (by decide) rfl ?_
  obtain ⟨x8, hx8, h⟩ := bind_some h
  refine k_loop (P := fun xq => KJ (Rep D B shpC) A 3 0 0 Q p l e ({ frames := 1, cells := 0, slots := 0, locals := 21 } : Room) s m args below meth c 0 0 4 [some (.ref (B + 20)), some (.int xq.1), some (.int xq.2)] [] σ) (C := fun xq => KJ (Rep D B shpC) A 3 0 0 Q p l e ({ frames := 1, cells := 0, slots := 0, locals := 21 } : Room) s m args below meth c 0 0 53 [some (.ref (B + 20)), some (.int xq.1), some (.int xq.2)] [] σ) (fun x z hz hc he => wX3_reachable_l4 hF hA hbs hz hc he) hx8 ?_
  show KJ (Rep D B shpC) A 3 0 0 Q p l e ({ frames := 1, cells := 0, slots := 0, locals := 21 } : Room) s m args below meth c 0 0 53 [some (.ref (B + 20)), some (.int x8.1), some (.int x8.2)] [] σ
  refine k_iload_n hF dX3_reachable_53 rfl ?_
  cases h
  exact hr _ _ rfl dX3_reachable_54
theorem ct_X3_reachable {l : Launch} {D : DD} {base B : Nat} (hbs : base ≤ B) {σ : St} {r : Int32} (h : fX3_reachable σ = some r) : MetR l D B shpC base yX3_reachable cX3_reachable 3 (some .int) 1 21 [.ref (B + 20)] σ (some (.int r)) σ :=
  MetR.of (by decide +kernel) (fun v hv => by simp only [List.mem_cons, List.not_mem_nil, or_false] at hv; rcases hv with rfl <;> rfl) (Nat.le_of_ble_eq_true rfl) hbs (fun p e s m args below meth c hF hr => wX3_reachable hF (fun q hq => hq) hbs h (fun pc L hn hd => k_iret hF hr hn hd))
set_option maxHeartbeats 4000000 in
set_option maxRecDepth 100000 in
theorem wX3_isCut {p : Program} {l : Launch} {e : Env} {s : State} {m : MethodId} {args : Array Value} {below : List Frame} {meth : Method} {c : Code} {Q : State → Prop} {A : Nat → Prop} {D : DD} {base B : Nat} (hF : KF D base cX3_isCut RX3 A 2 0 0 p l e ({ frames := 0, cells := 0, slots := 0, locals := 0 } : Room) s m args below meth c) (hA : ∀ q, RA B shpC q → A q) (hbs : base ≤ B) {σ : St} {a1 : Int32} {z : Int32} (h : fX3_isCut σ a1 = some z) (hr : ∀ (pc : Nat) (L : List (Option Value)), narrow .boolean (.int z) = .int z → decode cX3_isCut pc = .ok (.ireturn, 1) → KJ (Rep D B shpC) A 2 0 0 Q p l e ({ frames := 0, cells := 0, slots := 0, locals := 0 } : Room) s m args below meth c 0 0 pc L [.int z] σ) : KJ (Rep D B shpC) A 2 0 0 Q p l e ({ frames := 0, cells := 0, slots := 0, locals := 0 } : Room) s m args below meth c 0 0 0 [some (.ref (B + 20)), some (.int a1)] [] σ := by
  unfold fX3_isCut at h
  refine k_aload_n hF dX3_isCut_0 rfl ?_
  refine k_get hF (v := .ref (B + 21)) shC_20 fl_X3_9_X3 dX3_isCut_1 rfl ?_
  refine k_aload_n hF dX3_isCut_4 rfl ?_
  refine k_get hF (v := .ref (B + 10)) shC_20 fl_X3_23_X3 dX3_isCut_5 rfl ?_
  refine k_get hF (v := .ref (B + 13)) shC_10 fl_X3_44_X0 dX3_isCut_8 rfl ?_
  refine k_iload_n hF dX3_isCut_11 rfl ?_
  obtain ⟨g1, h⟩ := gd_some h
  refine k_iald hF shC_13 dX3_isCut_12 g1 ?_
  obtain ⟨g2, h⟩ := gd_some h
  refine k_iald hF shC_21 dX3_isCut_13 g2 ?_
  refine k_aload_n hF dX3_isCut_14 rfl ?_
  refine k_get hF (v := .ref (B + 21)) shC_20 fl_X3_9_X3 dX3_isCut_15 rfl ?_
  refine k_aload_n hF dX3_isCut_18 rfl ?_
  refine k_get hF (v := .ref (B + 10)) shC_20 fl_X3_23_X3 dX3_isCut_19 rfl ?_
  refine k_get hF (v := .ref (B + 15)) shC_10 fl_X3_49_X0 dX3_isCut_22 rfl ?_
  refine k_iload_n hF dX3_isCut_25 rfl ?_
  obtain ⟨g3, h⟩ := gd_some h
  refine k_iald hF shC_15 dX3_isCut_26 g3 ?_
  obtain ⟨g4, h⟩ := gd_some h
  refine k_iald hF shC_21 dX3_isCut_27 g4 ?_
  refine k_icmp_eq hF (tgt := 35) dX3_isCut_28 (by decide) (fun c5 => ?_) (fun c5 => ?_)
  · replace h := ite_t c5 h
    refine k_iconst hF dX3_isCut_35 ci_0 ?_
    cases h
    exact hr _ _ nar_0 dX3_isCut_36
  · replace h := ite_f c5 h
    refine k_iconst hF dX3_isCut_31 ci_1 ?_
    refine k_goto hF dX3_isCut_32 (tgt := 36) (by decide) ?_
    cases h
    exact hr _ _ nar_1 dX3_isCut_36
theorem ct_X3_isCut {l : Launch} {D : DD} {base B : Nat} (hbs : base ≤ B) {σ : St} {a1 : Int32} {r : Int32} (h : fX3_isCut σ a1 = some r) : MetR l D B shpC base yX3_isCut cX3_isCut 2 (some .boolean) 0 0 [.ref (B + 20), .int a1] σ (some (.int r)) σ :=
  MetR.of (by decide +kernel) (fun v hv => by simp only [List.mem_cons, List.not_mem_nil, or_false] at hv; rcases hv with rfl | rfl <;> rfl) (Nat.le_of_ble_eq_true rfl) hbs (fun p e s m args below meth c hF hr => wX3_isCut hF (fun q hq => hq) hbs h (fun pc L hn hd => k_iret hF hr hn hd))
set_option maxHeartbeats 4000000 in
set_option maxRecDepth 100000 in
theorem wX3_copied_j94 {p : Program} {l : Launch} {e : Env} {s : State} {m : MethodId} {args : Array Value} {below : List Frame} {meth : Method} {c : Code} {Q : State → Prop} {A : Nat → Prop} {D : DD} {base B : Nat} (hF : KF D base cX3_copied RX3 A 6 0 0 p l e ({ frames := 1, cells := 0, slots := 0, locals := 21 } : Room) s m args below meth c) (hA : ∀ q, RA B shpC q → A q) (hbs : base ≤ B) {σ : St} {a1 : Int32} {b2 : Int32} {b3 : Int32} {z : ((Int32 × Int32) ⊕ (Int32 × Int32))} (h : fX3_copied_j94 σ a1 b2 b3 = some z) (hc : ∀ x, z = .inl x → KJ (Rep D B shpC) A 6 0 0 Q p l e ({ frames := 1, cells := 0, slots := 0, locals := 21 } : Room) s m args below meth c 0 0 4 [some (.ref (B + 20)), some (.int a1), some (.int x.1), some (.int x.2), none, none] [] σ) (he : ∀ w, z = .inr w → KJ (Rep D B shpC) A 6 0 0 Q p l e ({ frames := 1, cells := 0, slots := 0, locals := 21 } : Room) s m args below meth c 0 0 100 [some (.ref (B + 20)), some (.int a1), some (.int w.1), some (.int w.2), none, none] [] σ) : KJ (Rep D B shpC) A 6 0 0 Q p l e ({ frames := 1, cells := 0, slots := 0, locals := 21 } : Room) s m args below meth c 0 0 94 [some (.ref (B + 20)), some (.int a1), some (.int b2), some (.int b3), none, none] [] σ := by
  unfold fX3_copied_j94 at h
  refine k_iinc hF (v := (b3 + (1 : Int32))) (L' := [some (.ref (B + 20)), some (.int a1), some (.int b2), some (.int (b3 + (1 : Int32))), none, none]) dX3_copied_94 rfl (by first | rfl | (congr 1)) (by decide) rfl ?_
  refine k_goto hF dX3_copied_97 (tgt := 4) (by decide) ?_
  exact hc _ (Option.some.inj h).symm
set_option maxHeartbeats 4000000 in
set_option maxRecDepth 100000 in
theorem wX3_copied_j75 {p : Program} {l : Launch} {e : Env} {s : State} {m : MethodId} {args : Array Value} {below : List Frame} {meth : Method} {c : Code} {Q : State → Prop} {A : Nat → Prop} {D : DD} {base B : Nat} (hF : KF D base cX3_copied RX3 A 6 0 0 p l e ({ frames := 1, cells := 0, slots := 0, locals := 21 } : Room) s m args below meth c) (hA : ∀ q, RA B shpC q → A q) (hbs : base ≤ B) {σ : St} {a1 : Int32} {b2 : Int32} {b3 : Int32} {b4 : Int32} {b5 : Int32} {z : ((Int32 × Int32) ⊕ (Int32 × Int32))} (h : fX3_copied_j75 σ a1 b2 b3 b4 b5 = some z) (hc : ∀ x, z = .inl x → KJ (Rep D B shpC) A 6 0 0 Q p l e ({ frames := 1, cells := 0, slots := 0, locals := 21 } : Room) s m args below meth c 0 0 4 [some (.ref (B + 20)), some (.int a1), some (.int x.1), some (.int x.2), none, none] [] σ) (he : ∀ w, z = .inr w → KJ (Rep D B shpC) A 6 0 0 Q p l e ({ frames := 1, cells := 0, slots := 0, locals := 21 } : Room) s m args below meth c 0 0 100 [some (.ref (B + 20)), some (.int a1), some (.int w.1), some (.int w.2), none, none] [] σ) : KJ (Rep D B shpC) A 6 0 0 Q p l e ({ frames := 1, cells := 0, slots := 0, locals := 21 } : Room) s m args below meth c 0 0 75 [some (.ref (B + 20)), some (.int a1), some (.int b2), some (.int b3), some (.int b4), some (.int b5)] [] σ := by
  unfold fX3_copied_j75 at h
  refine k_aload_n hF dX3_copied_75 rfl ?_
  refine k_get hF (v := .ref (B + 21)) shC_20 fl_X3_9_X3 dX3_copied_76 rfl ?_
  refine k_iload hF dX3_copied_79 rfl ?_
  obtain ⟨g12, h⟩ := gd_some h
  refine k_iald hF shC_21 dX3_copied_81 g12 ?_
  refine k_iload_n hF dX3_copied_82 rfl ?_
  refine k_icmp_ne hF (tgt := 94) dX3_copied_83 (by decide) (fun c13 => ?_) (fun c13 => ?_)
  · replace h := ite_f c13 h
    refine k_kill 4 rfl ?_
    refine k_kill 5 rfl ?_
    exact wX3_copied_j94 hF hA hbs h hc he
  · replace h := ite_t c13 h
    refine k_iload_n hF dX3_copied_86 rfl ?_
    refine k_iload hF dX3_copied_87 rfl ?_
    obtain ⟨v14, hv14, h⟩ := bind_some h
    refine k_callSN hF hA (as := [.int b4]) (ct_X10_bit hbs hv14) msn_X3_41 rfl rfl ⟨Nat.le_of_ble_eq_true rfl, Nat.le_of_ble_eq_true rfl⟩ (Nat.le_of_ble_eq_true rfl) dX3_copied_89 ?_
    refine k_st (st2 := [.int v14, .int b2]) rfl ?_
    refine k_ior hF dX3_copied_92 ?_
    refine k_istore_n hF (L' := [some (.ref (B + 20)), some (.int a1), some (.int (b2 ||| v14)), some (.int b3), some (.int b4), some (.int b5)]) dX3_copied_93 (by decide) rfl ?_
    refine k_kill 4 rfl ?_
    refine k_kill 5 rfl ?_
    exact wX3_copied_j94 hF hA hbs h hc he
set_option maxHeartbeats 4000000 in
set_option maxRecDepth 100000 in
theorem wX3_copied_l4 {p : Program} {l : Launch} {e : Env} {s : State} {m : MethodId} {args : Array Value} {below : List Frame} {meth : Method} {c : Code} {Q : State → Prop} {A : Nat → Prop} {D : DD} {base B : Nat} (hF : KF D base cX3_copied RX3 A 6 0 0 p l e ({ frames := 1, cells := 0, slots := 0, locals := 21 } : Room) s m args below meth c) (hA : ∀ q, RA B shpC q → A q) (hbs : base ≤ B) {σ : St} {a1 : Int32} {x : (Int32 × Int32)} {z : ((Int32 × Int32) ⊕ (Int32 × Int32))} (h : fX3_copied_l4 σ a1 x = some z) (hc : ∀ x, z = .inl x → KJ (Rep D B shpC) A 6 0 0 Q p l e ({ frames := 1, cells := 0, slots := 0, locals := 21 } : Room) s m args below meth c 0 0 4 [some (.ref (B + 20)), some (.int a1), some (.int x.1), some (.int x.2), none, none] [] σ) (he : ∀ w, z = .inr w → KJ (Rep D B shpC) A 6 0 0 Q p l e ({ frames := 1, cells := 0, slots := 0, locals := 21 } : Room) s m args below meth c 0 0 100 [some (.ref (B + 20)), some (.int a1), some (.int w.1), some (.int w.2), none, none] [] σ) : KJ (Rep D B shpC) A 6 0 0 Q p l e ({ frames := 1, cells := 0, slots := 0, locals := 21 } : Room) s m args below meth c 0 0 4 [some (.ref (B + 20)), some (.int a1), some (.int x.1), some (.int x.2), none, none] [] σ := by
  unfold fX3_copied_l4 at h
  refine k_iload_n hF dX3_copied_4 rfl ?_
  refine k_aload_n hF dX3_copied_5 rfl ?_
  refine k_get hF (v := .ref (B + 10)) shC_20 fl_X3_23_X3 dX3_copied_6 rfl ?_
  refine k_get hF (v := .int (gi σ 10 2)) shC_10 fl_X3_52_X0 dX3_copied_9 rfl ?_
  refine k_icmp_ge hF (tgt := 100) dX3_copied_12 (by decide) (fun c1 => ?_) (fun c1 => ?_)
  · replace h := ite_t c1 h
    exact he _ (Option.some.inj h).symm
  · replace h := ite_f c1 h
    refine k_aload_n hF dX3_copied_15 rfl ?_
    refine k_get hF (v := .ref (B + 10)) shC_20 fl_X3_23_X3 dX3_copied_16 rfl ?_
    refine k_iload_n hF dX3_copied_19 rfl ?_
    obtain ⟨v2, hv2, h⟩ := bind_some h
    refine k_callU hF hA (as := [.int x.2]) (ct_X7_isThereE hbs hv2) mu_X3_53 shC_10 rfl rfl rfl ⟨Nat.le_of_ble_eq_true rfl, Nat.le_of_ble_eq_true rfl⟩ (Nat.le_of_ble_eq_true rfl) dX3_copied_20 ?_
    refine k_st (st2 := [.int v2]) rfl ?_
    refine k_if_eq hF (tgt := 94) dX3_copied_23 (by decide) (fun c3 => ?_) (fun c3 => ?_)
    · replace h := ite_t c3 h
      exact wX3_copied_j94 hF hA hbs h hc he
    · replace h := ite_f c3 h
      refine k_aload_n hF dX3_copied_26 rfl ?_
      refine k_iload_n hF dX3_copied_27 rfl ?_
      obtain ⟨v4, hv4, h⟩ := bind_some h
      refine k_callV hF hA (as := [.int x.2]) (ct_X3_isCut hbs hv4) mv_X3_54 shC_20 rfl rfl rfl ⟨Nat.le_of_ble_eq_true rfl, Nat.le_of_ble_eq_true rfl⟩ (Nat.le_of_ble_eq_true rfl) dX3_copied_28 ?_
      refine k_st (st2 := [.int v4]) rfl ?_
      refine k_if_eq hF (tgt := 94) dX3_copied_31 (by decide) (fun c5 => ?_) (fun c5 => ?_)
      · replace h := ite_t c5 h
        exact wX3_copied_j94 hF hA hbs h hc he
      · replace h := ite_f c5 h
        refine k_aload_n hF dX3_copied_34 rfl ?_
        refine k_get hF (v := .ref (B + 10)) shC_20 fl_X3_23_X3 dX3_copied_35 rfl ?_
        refine k_get hF (v := .ref (B + 13)) shC_10 fl_X3_44_X0 dX3_copied_38 rfl ?_
        refine k_iload_n hF dX3_copied_41 rfl ?_
        obtain ⟨g6, h⟩ := gd_some h
        refine k_iald hF shC_13 dX3_copied_42 g6 ?_
        obtain ⟨n7, hn7, h⟩ := lt_some h
        refine k_st (st2 := [.int n7]) (by rw [hn7]) ?_
        refine k_istore hF (L' := [some (.ref (B + 20)), some (.int a1), some (.int x.1), some (.int x.2), some (.int n7), none]) dX3_copied_43 (by decide) rfl ?_
        refine k_aload_n hF dX3_copied_45 rfl ?_
        refine k_get hF (v := .ref (B + 10)) shC_20 fl_X3_23_X3 dX3_copied_46 rfl ?_
        refine k_get hF (v := .ref (B + 15)) shC_10 fl_X3_49_X0 dX3_copied_49 rfl ?_
        refine k_iload_n hF dX3_copied_52 rfl ?_
        obtain ⟨g8, h⟩ := gd_some h
        refine k_iald hF shC_15 dX3_copied_53 g8 ?_
        obtain ⟨n9, hn9, h⟩ := lt_some h
        refine k_st (st2 := [.int n9]) (by rw [hn9]) ?_
        refine k_istore hF (L' := [some (.ref (B + 20)), some (.int a1), some (.int x.1), some (.int x.2), some (.int n7), some (.int n9)]) dX3_copied_54 (by decide) rfl ?_
        refine k_aload_n hF dX3_copied_56 rfl ?_
        refine k_get hF (v := .ref (B + 21)) shC_20 fl_X3_9_X3 dX3_copied_57 rfl ?_
        refine k_iload hF dX3_copied_60 rfl ?_
        obtain ⟨g10, h⟩ := gd_some h
        refine k_iald hF shC_21 dX3_copied_62 g10 ?_
        refine k_iload_n hF dX3_copied_63 rfl ?_
        refine k_icmp_ne hF (tgt := 75) dX3_copied_64 (by decide) (fun c11 => ?_) (fun c11 => ?_)
        · replace h := ite_f c11 h
          exact wX3_copied_j75 hF hA hbs h hc he
        · replace h := ite_t c11 h
          refine k_iload_n hF dX3_copied_67 rfl ?_
          refine k_iload hF dX3_copied_68 rfl ?_
          obtain ⟨v15, hv15, h⟩ := bind_some h
          refine k_callSN hF hA (as := [.int n9]) (ct_X10_bit hbs hv15) msn_X3_41 rfl rfl ⟨Nat.le_of_ble_eq_true rfl, Nat.le_of_ble_eq_true rfl⟩ (Nat.le_of_ble_eq_true rfl) dX3_copied_70 ?_
          refine k_st (st2 := [.int v15, .int x.1]) rfl ?_
          refine k_ior hF dX3_copied_73 ?_
          refine k_istore_n hF (L' := [some (.ref (B + 20)), some (.int a1), some (.int (x.1 ||| v15)), some (.int x.2), some (.int n7), some (.int n9)]) dX3_copied_74 (by decide) rfl ?_
          exact wX3_copied_j75 hF hA hbs h hc he
set_option maxHeartbeats 4000000 in
set_option maxRecDepth 100000 in
theorem wX3_copied {p : Program} {l : Launch} {e : Env} {s : State} {m : MethodId} {args : Array Value} {below : List Frame} {meth : Method} {c : Code} {Q : State → Prop} {A : Nat → Prop} {D : DD} {base B : Nat} (hF : KF D base cX3_copied RX3 A 6 0 0 p l e ({ frames := 1, cells := 0, slots := 0, locals := 21 } : Room) s m args below meth c) (hA : ∀ q, RA B shpC q → A q) (hbs : base ≤ B) {σ : St} {a1 : Int32} {z : Int32} (h : fX3_copied σ a1 = some z) (hr : ∀ (pc : Nat) (L : List (Option Value)), narrow .int (.int z) = .int z → decode cX3_copied pc = .ok (.ireturn, 1) → KJ (Rep D B shpC) A 6 0 0 Q p l e ({ frames := 1, cells := 0, slots := 0, locals := 21 } : Room) s m args below meth c 0 0 pc L [.int z] σ) : KJ (Rep D B shpC) A 6 0 0 Q p l e ({ frames := 1, cells := 0, slots := 0, locals := 21 } : Room) s m args below meth c 0 0 0 [some (.ref (B + 20)), some (.int a1), none, none, none, none] [] σ := by
  unfold fX3_copied at h
  refine k_iconst hF dX3_copied_0 ci_0 ?_
  refine k_istore_n hF (L' := [some (.ref (B + 20)), some (.int a1), some (.int (0 : Int32)), none, none, none]) dX3_copied_1 (by decide) rfl ?_
  refine k_iconst hF dX3_copied_2 ci_0 ?_
  refine k_istore_n hF (L' := [some (.ref (B + 20)), some (.int a1), some (.int (0 : Int32)), some (.int (0 : Int32)), none, none]) dX3_copied_3 (by decide) rfl ?_
  obtain ⟨x16, hx16, h⟩ := bind_some h
  refine k_loop (P := fun xq => KJ (Rep D B shpC) A 6 0 0 Q p l e ({ frames := 1, cells := 0, slots := 0, locals := 21 } : Room) s m args below meth c 0 0 4 [some (.ref (B + 20)), some (.int a1), some (.int xq.1), some (.int xq.2), none, none] [] σ) (C := fun xq => KJ (Rep D B shpC) A 6 0 0 Q p l e ({ frames := 1, cells := 0, slots := 0, locals := 21 } : Room) s m args below meth c 0 0 100 [some (.ref (B + 20)), some (.int a1), some (.int xq.1), some (.int xq.2), none, none] [] σ) (fun x z hz hc he => wX3_copied_l4 hF hA hbs hz hc he) hx16 ?_
  show KJ (Rep D B shpC) A 6 0 0 Q p l e ({ frames := 1, cells := 0, slots := 0, locals := 21 } : Room) s m args below meth c 0 0 100 [some (.ref (B + 20)), some (.int a1), some (.int x16.1), some (.int x16.2), none, none] [] σ
  refine k_iload_n hF dX3_copied_100 rfl ?_
  cases h
  exact hr _ _ rfl dX3_copied_101
theorem ct_X3_copied {l : Launch} {D : DD} {base B : Nat} (hbs : base ≤ B) {σ : St} {a1 : Int32} {r : Int32} (h : fX3_copied σ a1 = some r) : MetR l D B shpC base yX3_copied cX3_copied 6 (some .int) 1 21 [.ref (B + 20), .int a1] σ (some (.int r)) σ :=
  MetR.of (by decide +kernel) (fun v hv => by simp only [List.mem_cons, List.not_mem_nil, or_false] at hv; rcases hv with rfl | rfl <;> rfl) (Nat.le_of_ble_eq_true rfl) hbs (fun p e s m args below meth c hF hr => wX3_copied hF (fun q hq => hq) hbs h (fun pc L hn hd => k_iret hF hr hn hd))
set_option maxHeartbeats 4000000 in
set_option maxRecDepth 100000 in
theorem wX3_cutFewer_j144 {p : Program} {l : Launch} {e : Env} {s : State} {m : MethodId} {args : Array Value} {below : List Frame} {meth : Method} {c : Code} {Q : State → Prop} {A : Nat → Prop} {D : DD} {base B : Nat} (hF : KF D base cX3_cutFewer RX3 A 8 0 0 p l e ({ frames := 1, cells := 0, slots := 0, locals := 21 } : Room) s m args below meth c) (hA : ∀ q, RA B shpC q → A q) (hbs : base ≤ B) {σ : St} {a1 : Int32} {a2 : Int32} {b3 : Int32} {b4 : Int32} {z : ((Int32 × Int32) ⊕ (Int32 × Int32))} (h : fX3_cutFewer_j144 σ a1 a2 b3 b4 = some z) (hc : ∀ x, z = .inl x → KJ (Rep D B shpC) A 8 0 0 Q p l e ({ frames := 1, cells := 0, slots := 0, locals := 21 } : Room) s m args below meth c 0 0 5 [some (.ref (B + 20)), some (.int a1), some (.int a2), some (.int x.1), some (.int x.2), none, none, none] [] σ) (he : ∀ w, z = .inr w → KJ (Rep D B shpC) A 8 0 0 Q p l e ({ frames := 1, cells := 0, slots := 0, locals := 21 } : Room) s m args below meth c 0 0 150 [some (.ref (B + 20)), some (.int a1), some (.int a2), some (.int w.1), some (.int w.2), none, none, none] [] σ) : KJ (Rep D B shpC) A 8 0 0 Q p l e ({ frames := 1, cells := 0, slots := 0, locals := 21 } : Room) s m args below meth c 0 0 144 [some (.ref (B + 20)), some (.int a1), some (.int a2), some (.int b3), some (.int b4), none, none, none] [] σ := by
  unfold fX3_cutFewer_j144 at h
  refine k_iinc hF (v := (b4 + (1 : Int32))) (L' := [some (.ref (B + 20)), some (.int a1), some (.int a2), some (.int b3), some (.int (b4 + (1 : Int32))), none, none, none]) dX3_cutFewer_144 rfl (by first | rfl | (congr 1)) (by decide) rfl ?_
  refine k_goto hF dX3_cutFewer_147 (tgt := 5) (by decide) ?_
  exact hc _ (Option.some.inj h).symm
set_option maxHeartbeats 4000000 in
set_option maxRecDepth 100000 in
theorem wX3_cutFewer_j141 {p : Program} {l : Launch} {e : Env} {s : State} {m : MethodId} {args : Array Value} {below : List Frame} {meth : Method} {c : Code} {Q : State → Prop} {A : Nat → Prop} {D : DD} {base B : Nat} (hF : KF D base cX3_cutFewer RX3 A 8 0 0 p l e ({ frames := 1, cells := 0, slots := 0, locals := 21 } : Room) s m args below meth c) (hA : ∀ q, RA B shpC q → A q) (hbs : base ≤ B) {σ : St} {a1 : Int32} {a2 : Int32} {b4 : Int32} {t0 : Int32} {t1 : Int32} {t2 : Int32} {z : ((Int32 × Int32) ⊕ (Int32 × Int32))} (h : fX3_cutFewer_j141 σ a1 a2 b4 t0 t1 t2 = some z) (hc : ∀ x, z = .inl x → KJ (Rep D B shpC) A 8 0 0 Q p l e ({ frames := 1, cells := 0, slots := 0, locals := 21 } : Room) s m args below meth c 0 0 5 [some (.ref (B + 20)), some (.int a1), some (.int a2), some (.int x.1), some (.int x.2), none, none, none] [] σ) (he : ∀ w, z = .inr w → KJ (Rep D B shpC) A 8 0 0 Q p l e ({ frames := 1, cells := 0, slots := 0, locals := 21 } : Room) s m args below meth c 0 0 150 [some (.ref (B + 20)), some (.int a1), some (.int a2), some (.int w.1), some (.int w.2), none, none, none] [] σ) : KJ (Rep D B shpC) A 8 0 0 Q p l e ({ frames := 1, cells := 0, slots := 0, locals := 21 } : Room) s m args below meth c 0 0 141 [some (.ref (B + 20)), some (.int a1), some (.int a2), none, some (.int b4), none, none, none] [.int t0, .int t1, .int t2] σ := by
  unfold fX3_cutFewer_j141 at h
  refine k_isub hF dX3_cutFewer_141 ?_
  refine k_iadd hF dX3_cutFewer_142 ?_
  refine k_istore_n hF (L' := [some (.ref (B + 20)), some (.int a1), some (.int a2), some (.int (t2 + (t1 - t0))), some (.int b4), none, none, none]) dX3_cutFewer_143 (by decide) rfl ?_
  exact wX3_cutFewer_j144 hF hA hbs h hc he
set_option maxHeartbeats 4000000 in
set_option maxRecDepth 100000 in
theorem wX3_cutFewer_j130 {p : Program} {l : Launch} {e : Env} {s : State} {m : MethodId} {args : Array Value} {below : List Frame} {meth : Method} {c : Code} {Q : State → Prop} {A : Nat → Prop} {D : DD} {base B : Nat} (hF : KF D base cX3_cutFewer RX3 A 8 0 0 p l e ({ frames := 1, cells := 0, slots := 0, locals := 21 } : Room) s m args below meth c) (hA : ∀ q, RA B shpC q → A q) (hbs : base ≤ B) {σ : St} {a1 : Int32} {a2 : Int32} {b4 : Int32} {b7 : Int32} {t0 : Int32} {t1 : Int32} {z : ((Int32 × Int32) ⊕ (Int32 × Int32))} (h : fX3_cutFewer_j130 σ a1 a2 b4 b7 t0 t1 = some z) (hc : ∀ x, z = .inl x → KJ (Rep D B shpC) A 8 0 0 Q p l e ({ frames := 1, cells := 0, slots := 0, locals := 21 } : Room) s m args below meth c 0 0 5 [some (.ref (B + 20)), some (.int a1), some (.int a2), some (.int x.1), some (.int x.2), none, none, none] [] σ) (he : ∀ w, z = .inr w → KJ (Rep D B shpC) A 8 0 0 Q p l e ({ frames := 1, cells := 0, slots := 0, locals := 21 } : Room) s m args below meth c 0 0 150 [some (.ref (B + 20)), some (.int a1), some (.int a2), some (.int w.1), some (.int w.2), none, none, none] [] σ) : KJ (Rep D B shpC) A 8 0 0 Q p l e ({ frames := 1, cells := 0, slots := 0, locals := 21 } : Room) s m args below meth c 0 0 130 [some (.ref (B + 20)), some (.int a1), some (.int a2), none, some (.int b4), none, none, some (.int b7)] [.int t0, .int t1] σ := by
  unfold fX3_cutFewer_j130 at h
  refine k_iload hF dX3_cutFewer_130 rfl ?_
  refine k_iload_n hF dX3_cutFewer_132 rfl ?_
  refine k_icmp_eq hF (tgt := 140) dX3_cutFewer_133 (by decide) (fun c15 => ?_) (fun c15 => ?_)
  · replace h := ite_t c15 h
    refine k_iconst hF dX3_cutFewer_140 ci_0 ?_
    refine k_kill 7 rfl ?_
    exact wX3_cutFewer_j141 hF hA hbs h hc he
  · replace h := ite_f c15 h
    refine k_iconst hF dX3_cutFewer_136 ci_1 ?_
    refine k_goto hF dX3_cutFewer_137 (tgt := 141) (by decide) ?_
    refine k_kill 7 rfl ?_
    exact wX3_cutFewer_j141 hF hA hbs h hc he
set_option maxHeartbeats 4000000 in
set_option maxRecDepth 100000 in
theorem wX3_cutFewer_j110 {p : Program} {l : Launch} {e : Env} {s : State} {m : MethodId} {args : Array Value} {below : List Frame} {meth : Method} {c : Code} {Q : State → Prop} {A : Nat → Prop} {D : DD} {base B : Nat} (hF : KF D base cX3_cutFewer RX3 A 8 0 0 p l e ({ frames := 1, cells := 0, slots := 0, locals := 21 } : Room) s m args below meth c) (hA : ∀ q, RA B shpC q → A q) (hbs : base ≤ B) {σ : St} {a1 : Int32} {a2 : Int32} {b3 : Int32} {b4 : Int32} {t0 : Int32} {z : ((Int32 × Int32) ⊕ (Int32 × Int32))} (h : fX3_cutFewer_j110 σ a1 a2 b3 b4 t0 = some z) (hc : ∀ x, z = .inl x → KJ (Rep D B shpC) A 8 0 0 Q p l e ({ frames := 1, cells := 0, slots := 0, locals := 21 } : Room) s m args below meth c 0 0 5 [some (.ref (B + 20)), some (.int a1), some (.int a2), some (.int x.1), some (.int x.2), none, none, none] [] σ) (he : ∀ w, z = .inr w → KJ (Rep D B shpC) A 8 0 0 Q p l e ({ frames := 1, cells := 0, slots := 0, locals := 21 } : Room) s m args below meth c 0 0 150 [some (.ref (B + 20)), some (.int a1), some (.int a2), some (.int w.1), some (.int w.2), none, none, none] [] σ) : KJ (Rep D B shpC) A 8 0 0 Q p l e ({ frames := 1, cells := 0, slots := 0, locals := 21 } : Room) s m args below meth c 0 0 110 [some (.ref (B + 20)), some (.int a1), some (.int a2), some (.int b3), some (.int b4), none, none, none] [.int t0, .ref (B + 21)] σ := by
  unfold fX3_cutFewer_j110 at h
  obtain ⟨g11, h⟩ := gd_some h
  refine k_iald hF shC_21 dX3_cutFewer_110 g11 ?_
  obtain ⟨n12, hn12, h⟩ := lt_some h
  refine k_st (st2 := [.int n12]) (by rw [hn12]) ?_
  refine k_istore hF (L' := [some (.ref (B + 20)), some (.int a1), some (.int a2), some (.int b3), some (.int b4), none, none, some (.int n12)]) dX3_cutFewer_111 (by decide) rfl ?_
  refine k_iload_n hF dX3_cutFewer_113 rfl ?_
  refine k_iload hF dX3_cutFewer_114 rfl ?_
  refine k_aload_n hF dX3_cutFewer_116 rfl ?_
  refine k_get hF (v := .ref (B + 21)) shC_20 fl_X3_9_X3 dX3_cutFewer_117 rfl ?_
  refine k_iload_n hF dX3_cutFewer_120 rfl ?_
  obtain ⟨g13, h⟩ := gd_some h
  refine k_iald hF shC_21 dX3_cutFewer_121 g13 ?_
  refine k_icmp_eq hF (tgt := 129) dX3_cutFewer_122 (by decide) (fun c14 => ?_) (fun c14 => ?_)
  · replace h := ite_t c14 h
    refine k_iconst hF dX3_cutFewer_129 ci_0 ?_
    refine k_kill 3 rfl ?_
    exact wX3_cutFewer_j130 hF hA hbs h hc he
  · replace h := ite_f c14 h
    refine k_iconst hF dX3_cutFewer_125 ci_1 ?_
    refine k_goto hF dX3_cutFewer_126 (tgt := 130) (by decide) ?_
    refine k_kill 3 rfl ?_
    exact wX3_cutFewer_j130 hF hA hbs h hc he
set_option maxHeartbeats 4000000 in
set_option maxRecDepth 100000 in
theorem wX3_cutFewer_j57 {p : Program} {l : Launch} {e : Env} {s : State} {m : MethodId} {args : Array Value} {below : List Frame} {meth : Method} {c : Code} {Q : State → Prop} {A : Nat → Prop} {D : DD} {base B : Nat} (hF : KF D base cX3_cutFewer RX3 A 8 0 0 p l e ({ frames := 1, cells := 0, slots := 0, locals := 21 } : Room) s m args below meth c) (hA : ∀ q, RA B shpC q → A q) (hbs : base ≤ B) {σ : St} {a1 : Int32} {a2 : Int32} {b3 : Int32} {b4 : Int32} {b5 : Int32} {t0 : Int32} {z : ((Int32 × Int32) ⊕ (Int32 × Int32))} (h : fX3_cutFewer_j57 σ a1 a2 b3 b4 b5 t0 = some z) (hc : ∀ x, z = .inl x → KJ (Rep D B shpC) A 8 0 0 Q p l e ({ frames := 1, cells := 0, slots := 0, locals := 21 } : Room) s m args below meth c 0 0 5 [some (.ref (B + 20)), some (.int a1), some (.int a2), some (.int x.1), some (.int x.2), none, none, none] [] σ) (he : ∀ w, z = .inr w → KJ (Rep D B shpC) A 8 0 0 Q p l e ({ frames := 1, cells := 0, slots := 0, locals := 21 } : Room) s m args below meth c 0 0 150 [some (.ref (B + 20)), some (.int a1), some (.int a2), some (.int w.1), some (.int w.2), none, none, none] [] σ) : KJ (Rep D B shpC) A 8 0 0 Q p l e ({ frames := 1, cells := 0, slots := 0, locals := 21 } : Room) s m args below meth c 0 0 57 [some (.ref (B + 20)), some (.int a1), some (.int a2), some (.int b3), some (.int b4), some (.int b5), none, none] [.int t0] σ := by
  unfold fX3_cutFewer_j57 at h
  refine k_istore hF (L' := [some (.ref (B + 20)), some (.int a1), some (.int a2), some (.int b3), some (.int b4), some (.int b5), some (.int t0), none]) dX3_cutFewer_57 (by decide) rfl ?_
  refine k_aload_n hF dX3_cutFewer_59 rfl ?_
  refine k_get hF (v := .ref (B + 10)) shC_20 fl_X3_23_X3 dX3_cutFewer_60 rfl ?_
  refine k_iload hF dX3_cutFewer_63 rfl ?_
  obtain ⟨v6, hv6, h⟩ := bind_some h
  refine k_callU hF hA (as := [.int b4]) (ct_X7_isThereE hbs hv6) mu_X3_53 shC_10 rfl rfl rfl ⟨Nat.le_of_ble_eq_true rfl, Nat.le_of_ble_eq_true rfl⟩ (Nat.le_of_ble_eq_true rfl) dX3_cutFewer_65 ?_
  refine k_st (st2 := [.int v6]) rfl ?_
  refine k_if_eq hF (tgt := 144) dX3_cutFewer_68 (by decide) (fun c7 => ?_) (fun c7 => ?_)
  · replace h := ite_t c7 h
    refine k_kill 5 rfl ?_
    refine k_kill 6 rfl ?_
    exact wX3_cutFewer_j144 hF hA hbs h hc he
  · replace h := ite_f c7 h
    refine k_iload hF dX3_cutFewer_71 rfl ?_
    refine k_iload hF dX3_cutFewer_73 rfl ?_
    refine k_icmp_eq hF (tgt := 144) dX3_cutFewer_75 (by decide) (fun c8 => ?_) (fun c8 => ?_)
    · replace h := ite_t c8 h
      refine k_kill 5 rfl ?_
      refine k_kill 6 rfl ?_
      exact wX3_cutFewer_j144 hF hA hbs h hc he
    · replace h := ite_f c8 h
      refine k_aload_n hF dX3_cutFewer_78 rfl ?_
      refine k_get hF (v := .ref (B + 21)) shC_20 fl_X3_9_X3 dX3_cutFewer_79 rfl ?_
      refine k_iload hF dX3_cutFewer_82 rfl ?_
      refine k_if_eq hF (tgt := 100) dX3_cutFewer_84 (by decide) (fun c9 => ?_) (fun c9 => ?_)
      · replace h := ite_t c9 h
        refine k_aload_n hF dX3_cutFewer_100 rfl ?_
        refine k_get hF (v := .ref (B + 10)) shC_20 fl_X3_23_X3 dX3_cutFewer_101 rfl ?_
        refine k_get hF (v := .ref (B + 13)) shC_10 fl_X3_44_X0 dX3_cutFewer_104 rfl ?_
        refine k_iload hF dX3_cutFewer_107 rfl ?_
        obtain ⟨g10, h⟩ := gd_some h
        refine k_iald hF shC_13 dX3_cutFewer_109 g10 ?_
        refine k_kill 5 rfl ?_
        refine k_kill 6 rfl ?_
        exact wX3_cutFewer_j110 hF hA hbs h hc he
      · replace h := ite_f c9 h
        refine k_aload_n hF dX3_cutFewer_87 rfl ?_
        refine k_get hF (v := .ref (B + 10)) shC_20 fl_X3_23_X3 dX3_cutFewer_88 rfl ?_
        refine k_get hF (v := .ref (B + 15)) shC_10 fl_X3_49_X0 dX3_cutFewer_91 rfl ?_
        refine k_iload hF dX3_cutFewer_94 rfl ?_
        obtain ⟨g16, h⟩ := gd_some h
        refine k_iald hF shC_15 dX3_cutFewer_96 g16 ?_
        refine k_goto hF dX3_cutFewer_97 (tgt := 110) (by decide) ?_
        refine k_kill 5 rfl ?_
        refine k_kill 6 rfl ?_
        exact wX3_cutFewer_j110 hF hA hbs h hc he
set_option maxHeartbeats 4000000 in
set_option maxRecDepth 100000 in
theorem wX3_cutFewer_j36 {p : Program} {l : Launch} {e : Env} {s : State} {m : MethodId} {args : Array Value} {below : List Frame} {meth : Method} {c : Code} {Q : State → Prop} {A : Nat → Prop} {D : DD} {base B : Nat} (hF : KF D base cX3_cutFewer RX3 A 8 0 0 p l e ({ frames := 1, cells := 0, slots := 0, locals := 21 } : Room) s m args below meth c) (hA : ∀ q, RA B shpC q → A q) (hbs : base ≤ B) {σ : St} {a1 : Int32} {a2 : Int32} {b3 : Int32} {b4 : Int32} {t0 : Int32} {z : ((Int32 × Int32) ⊕ (Int32 × Int32))} (h : fX3_cutFewer_j36 σ a1 a2 b3 b4 t0 = some z) (hc : ∀ x, z = .inl x → KJ (Rep D B shpC) A 8 0 0 Q p l e ({ frames := 1, cells := 0, slots := 0, locals := 21 } : Room) s m args below meth c 0 0 5 [some (.ref (B + 20)), some (.int a1), some (.int a2), some (.int x.1), some (.int x.2), none, none, none] [] σ) (he : ∀ w, z = .inr w → KJ (Rep D B shpC) A 8 0 0 Q p l e ({ frames := 1, cells := 0, slots := 0, locals := 21 } : Room) s m args below meth c 0 0 150 [some (.ref (B + 20)), some (.int a1), some (.int a2), some (.int w.1), some (.int w.2), none, none, none] [] σ) : KJ (Rep D B shpC) A 8 0 0 Q p l e ({ frames := 1, cells := 0, slots := 0, locals := 21 } : Room) s m args below meth c 0 0 36 [some (.ref (B + 20)), some (.int a1), some (.int a2), some (.int b3), some (.int b4), none, none, none] [.int t0] σ := by
  unfold fX3_cutFewer_j36 at h
  refine k_istore hF (L' := [some (.ref (B + 20)), some (.int a1), some (.int a2), some (.int b3), some (.int b4), some (.int t0), none, none]) dX3_cutFewer_36 (by decide) rfl ?_
  refine k_aload_n hF dX3_cutFewer_38 rfl ?_
  refine k_get hF (v := .ref (B + 10)) shC_20 fl_X3_23_X3 dX3_cutFewer_39 rfl ?_
  refine k_get hF (v := .ref (B + 15)) shC_10 fl_X3_49_X0 dX3_cutFewer_42 rfl ?_
  refine k_iload hF dX3_cutFewer_45 rfl ?_
  obtain ⟨g4, h⟩ := gd_some h
  refine k_iald hF shC_15 dX3_cutFewer_47 g4 ?_
  refine k_iload_n hF dX3_cutFewer_48 rfl ?_
  refine k_icmp_ne hF (tgt := 56) dX3_cutFewer_49 (by decide) (fun c5 => ?_) (fun c5 => ?_)
  · replace h := ite_f c5 h
    refine k_iconst hF dX3_cutFewer_56 ci_0 ?_
    exact wX3_cutFewer_j57 hF hA hbs h hc he
  · replace h := ite_t c5 h
    refine k_iconst hF dX3_cutFewer_52 ci_1 ?_
    refine k_goto hF dX3_cutFewer_53 (tgt := 57) (by decide) ?_
    exact wX3_cutFewer_j57 hF hA hbs h hc he
set_option maxHeartbeats 4000000 in
set_option maxRecDepth 100000 in
theorem wX3_cutFewer_l5 {p : Program} {l : Launch} {e : Env} {s : State} {m : MethodId} {args : Array Value} {below : List Frame} {meth : Method} {c : Code} {Q : State → Prop} {A : Nat → Prop} {D : DD} {base B : Nat} (hF : KF D base cX3_cutFewer RX3 A 8 0 0 p l e ({ frames := 1, cells := 0, slots := 0, locals := 21 } : Room) s m args below meth c) (hA : ∀ q, RA B shpC q → A q) (hbs : base ≤ B) {σ : St} {a1 : Int32} {a2 : Int32} {x : (Int32 × Int32)} {z : ((Int32 × Int32) ⊕ (Int32 × Int32))} (h : fX3_cutFewer_l5 σ a1 a2 x = some z) (hc : ∀ x, z = .inl x → KJ (Rep D B shpC) A 8 0 0 Q p l e ({ frames := 1, cells := 0, slots := 0, locals := 21 } : Room) s m args below meth c 0 0 5 [some (.ref (B + 20)), some (.int a1), some (.int a2), some (.int x.1), some (.int x.2), none, none, none] [] σ) (he : ∀ w, z = .inr w → KJ (Rep D B shpC) A 8 0 0 Q p l e ({ frames := 1, cells := 0, slots := 0, locals := 21 } : Room) s m args below meth c 0 0 150 [some (.ref (B + 20)), some (.int a1), some (.int a2), some (.int w.1), some (.int w.2), none, none, none] [] σ) : KJ (Rep D B shpC) A 8 0 0 Q p l e ({ frames := 1, cells := 0, slots := 0, locals := 21 } : Room) s m args below meth c 0 0 5 [some (.ref (B + 20)), some (.int a1), some (.int a2), some (.int x.1), some (.int x.2), none, none, none] [] σ := by
  unfold fX3_cutFewer_l5 at h
  refine k_iload hF dX3_cutFewer_5 rfl ?_
  refine k_aload_n hF dX3_cutFewer_7 rfl ?_
  refine k_get hF (v := .ref (B + 10)) shC_20 fl_X3_23_X3 dX3_cutFewer_8 rfl ?_
  refine k_get hF (v := .int (gi σ 10 2)) shC_10 fl_X3_52_X0 dX3_cutFewer_11 rfl ?_
  refine k_icmp_ge hF (tgt := 150) dX3_cutFewer_14 (by decide) (fun c1 => ?_) (fun c1 => ?_)
  · replace h := ite_t c1 h
    exact he _ (Option.some.inj h).symm
  · replace h := ite_f c1 h
    refine k_aload_n hF dX3_cutFewer_17 rfl ?_
    refine k_get hF (v := .ref (B + 10)) shC_20 fl_X3_23_X3 dX3_cutFewer_18 rfl ?_
    refine k_get hF (v := .ref (B + 13)) shC_10 fl_X3_44_X0 dX3_cutFewer_21 rfl ?_
    refine k_iload hF dX3_cutFewer_24 rfl ?_
    obtain ⟨g2, h⟩ := gd_some h
    refine k_iald hF shC_13 dX3_cutFewer_26 g2 ?_
    refine k_iload_n hF dX3_cutFewer_27 rfl ?_
    refine k_icmp_ne hF (tgt := 35) dX3_cutFewer_28 (by decide) (fun c3 => ?_) (fun c3 => ?_)
    · replace h := ite_f c3 h
      refine k_iconst hF dX3_cutFewer_35 ci_0 ?_
      exact wX3_cutFewer_j36 hF hA hbs h hc he
    · replace h := ite_t c3 h
      refine k_iconst hF dX3_cutFewer_31 ci_1 ?_
      refine k_goto hF dX3_cutFewer_32 (tgt := 36) (by decide) ?_
      exact wX3_cutFewer_j36 hF hA hbs h hc he
set_option maxHeartbeats 4000000 in
set_option maxRecDepth 100000 in
theorem wX3_cutFewer {p : Program} {l : Launch} {e : Env} {s : State} {m : MethodId} {args : Array Value} {below : List Frame} {meth : Method} {c : Code} {Q : State → Prop} {A : Nat → Prop} {D : DD} {base B : Nat} (hF : KF D base cX3_cutFewer RX3 A 8 0 0 p l e ({ frames := 1, cells := 0, slots := 0, locals := 21 } : Room) s m args below meth c) (hA : ∀ q, RA B shpC q → A q) (hbs : base ≤ B) {σ : St} {a1 : Int32} {a2 : Int32} {z : Int32} (h : fX3_cutFewer σ a1 a2 = some z) (hr : ∀ (pc : Nat) (L : List (Option Value)), narrow .int (.int z) = .int z → decode cX3_cutFewer pc = .ok (.ireturn, 1) → KJ (Rep D B shpC) A 8 0 0 Q p l e ({ frames := 1, cells := 0, slots := 0, locals := 21 } : Room) s m args below meth c 0 0 pc L [.int z] σ) : KJ (Rep D B shpC) A 8 0 0 Q p l e ({ frames := 1, cells := 0, slots := 0, locals := 21 } : Room) s m args below meth c 0 0 0 [some (.ref (B + 20)), some (.int a1), some (.int a2), none, none, none, none, none] [] σ := by
  unfold fX3_cutFewer at h
  refine k_iconst hF dX3_cutFewer_0 ci_0 ?_
  refine k_istore_n hF (L' := [some (.ref (B + 20)), some (.int a1), some (.int a2), some (.int (0 : Int32)), none, none, none, none]) dX3_cutFewer_1 (by decide) rfl ?_
  refine k_iconst hF dX3_cutFewer_2 ci_0 ?_
  refine k_istore hF (L' := [some (.ref (B + 20)), some (.int a1), some (.int a2), some (.int (0 : Int32)), some (.int (0 : Int32)), none, none, none]) dX3_cutFewer_3 (by decide) rfl ?_
  obtain ⟨x17, hx17, h⟩ := bind_some h
  refine k_loop (P := fun xq => KJ (Rep D B shpC) A 8 0 0 Q p l e ({ frames := 1, cells := 0, slots := 0, locals := 21 } : Room) s m args below meth c 0 0 5 [some (.ref (B + 20)), some (.int a1), some (.int a2), some (.int xq.1), some (.int xq.2), none, none, none] [] σ) (C := fun xq => KJ (Rep D B shpC) A 8 0 0 Q p l e ({ frames := 1, cells := 0, slots := 0, locals := 21 } : Room) s m args below meth c 0 0 150 [some (.ref (B + 20)), some (.int a1), some (.int a2), some (.int xq.1), some (.int xq.2), none, none, none] [] σ) (fun x z hz hc he => wX3_cutFewer_l5 hF hA hbs hz hc he) hx17 ?_
  show KJ (Rep D B shpC) A 8 0 0 Q p l e ({ frames := 1, cells := 0, slots := 0, locals := 21 } : Room) s m args below meth c 0 0 150 [some (.ref (B + 20)), some (.int a1), some (.int a2), some (.int x17.1), some (.int x17.2), none, none, none] [] σ
  refine k_iload_n hF dX3_cutFewer_150 rfl ?_
  cases h
  exact hr _ _ rfl dX3_cutFewer_151
theorem ct_X3_cutFewer {l : Launch} {D : DD} {base B : Nat} (hbs : base ≤ B) {σ : St} {a1 : Int32} {a2 : Int32} {r : Int32} (h : fX3_cutFewer σ a1 a2 = some r) : MetR l D B shpC base yX3_cutFewer cX3_cutFewer 8 (some .int) 1 21 [.ref (B + 20), .int a1, .int a2] σ (some (.int r)) σ :=
  MetR.of (by decide +kernel) (fun v hv => by simp only [List.mem_cons, List.not_mem_nil, or_false] at hv; rcases hv with rfl | rfl | rfl <;> rfl) (Nat.le_of_ble_eq_true rfl) hbs (fun p e s m args below meth c hF hr => wX3_cutFewer hF (fun q hq => hq) hbs h (fun pc L hn hd => k_iret hF hr hn hd))
set_option maxHeartbeats 4000000 in
set_option maxRecDepth 100000 in
theorem wX3_moveBest_j146 {p : Program} {l : Launch} {e : Env} {s : State} {m : MethodId} {args : Array Value} {below : List Frame} {meth : Method} {c : Code} {Q : State → Prop} {A : Nat → Prop} {D : DD} {base B : Nat} (hF : KF D base cX3_moveBest RX3 A 11 0 0 p l e ({ frames := 3, cells := 0, slots := 0, locals := 68 } : Room) s m args below meth c) (hA : ∀ q, RA B shpC q → A q) (hbs : base ≤ B) {σ : St} {ea2b : Int32} {ea3b : Int32} {ea7b : Int32} {b4 : Int32} {b5 : Int32} {b6 : Int32} {b8 : Int32} {z : ((Int32 × Int32 × Int32 × Int32) ⊕ (Int32 × Int32 × Int32 × Int32))} (h : fX3_moveBest_j146 σ ea2b ea3b ea7b b4 b5 b6 b8 = some z) (hc : ∀ x, z = .inl x → KJ (Rep D B shpC) A 11 0 0 Q p l e ({ frames := 3, cells := 0, slots := 0, locals := 68 } : Room) s m args below meth c 0 0 52 [some (.ref (B + 20)), none, some (.int ea2b), some (.int ea3b), some (.int x.1), some (.int x.2.1), some (.int x.2.2.1), some (.int ea7b), some (.int x.2.2.2), none, none] [] σ) (he : ∀ w, z = .inr w → KJ (Rep D B shpC) A 11 0 0 Q p l e ({ frames := 3, cells := 0, slots := 0, locals := 68 } : Room) s m args below meth c 0 0 152 [some (.ref (B + 20)), none, some (.int ea2b), some (.int ea3b), some (.int w.1), some (.int w.2.1), some (.int w.2.2.1), some (.int ea7b), some (.int w.2.2.2), none, none] [] σ) : KJ (Rep D B shpC) A 11 0 0 Q p l e ({ frames := 3, cells := 0, slots := 0, locals := 68 } : Room) s m args below meth c 0 0 146 [some (.ref (B + 20)), none, some (.int ea2b), some (.int ea3b), some (.int b4), some (.int b5), some (.int b6), some (.int ea7b), some (.int b8), none, none] [] σ := by
  unfold fX3_moveBest_j146 at h
  refine k_iinc hF (v := (b8 + (1 : Int32))) (L' := [some (.ref (B + 20)), none, some (.int ea2b), some (.int ea3b), some (.int b4), some (.int b5), some (.int b6), some (.int ea7b), some (.int (b8 + (1 : Int32))), none, none]) dX3_moveBest_146 rfl (by first | rfl | (congr 1)) (by decide) rfl ?_
  refine k_goto hF dX3_moveBest_149 (tgt := 52) (by decide) ?_
  exact hc _ (Option.some.inj h).symm
set_option maxHeartbeats 4000000 in
set_option maxRecDepth 100000 in
theorem wX3_moveBest_j125 {p : Program} {l : Launch} {e : Env} {s : State} {m : MethodId} {args : Array Value} {below : List Frame} {meth : Method} {c : Code} {Q : State → Prop} {A : Nat → Prop} {D : DD} {base B : Nat} (hF : KF D base cX3_moveBest RX3 A 11 0 0 p l e ({ frames := 3, cells := 0, slots := 0, locals := 68 } : Room) s m args below meth c) (hA : ∀ q, RA B shpC q → A q) (hbs : base ≤ B) {σ : St} {ea2b : Int32} {ea3b : Int32} {ea7b : Int32} {b4 : Int32} {b5 : Int32} {b6 : Int32} {b8 : Int32} {t0 : Int32} {z : ((Int32 × Int32 × Int32 × Int32) ⊕ (Int32 × Int32 × Int32 × Int32))} (h : fX3_moveBest_j125 σ ea2b ea3b ea7b b4 b5 b6 b8 t0 = some z) (hc : ∀ x, z = .inl x → KJ (Rep D B shpC) A 11 0 0 Q p l e ({ frames := 3, cells := 0, slots := 0, locals := 68 } : Room) s m args below meth c 0 0 52 [some (.ref (B + 20)), none, some (.int ea2b), some (.int ea3b), some (.int x.1), some (.int x.2.1), some (.int x.2.2.1), some (.int ea7b), some (.int x.2.2.2), none, none] [] σ) (he : ∀ w, z = .inr w → KJ (Rep D B shpC) A 11 0 0 Q p l e ({ frames := 3, cells := 0, slots := 0, locals := 68 } : Room) s m args below meth c 0 0 152 [some (.ref (B + 20)), none, some (.int ea2b), some (.int ea3b), some (.int w.1), some (.int w.2.1), some (.int w.2.2.1), some (.int ea7b), some (.int w.2.2.2), none, none] [] σ) : KJ (Rep D B shpC) A 11 0 0 Q p l e ({ frames := 3, cells := 0, slots := 0, locals := 68 } : Room) s m args below meth c 0 0 125 [some (.ref (B + 20)), none, some (.int ea2b), some (.int ea3b), some (.int b4), some (.int b5), some (.int b6), some (.int ea7b), some (.int b8), none, none] [.int t0] σ := by
  unfold fX3_moveBest_j125 at h
  refine k_istore hF (L' := [some (.ref (B + 20)), none, some (.int ea2b), some (.int ea3b), some (.int b4), some (.int b5), some (.int b6), some (.int ea7b), some (.int b8), none, some (.int t0)]) dX3_moveBest_125 (by decide) rfl ?_
  refine k_iload hF dX3_moveBest_127 rfl ?_
  refine k_iload hF dX3_moveBest_129 rfl ?_
  refine k_icmp_le hF (tgt := 146) dX3_moveBest_131 (by decide) (fun c10 => ?_) (fun c10 => ?_)
  · replace h := ite_t c10 h
    refine k_kill 10 rfl ?_
    exact wX3_moveBest_j146 hF hA hbs h hc he
  · replace h := ite_f c10 h
    refine k_iload hF dX3_moveBest_134 rfl ?_
    refine k_istore hF (L' := [some (.ref (B + 20)), none, some (.int ea2b), some (.int ea3b), some (.int ea7b), some (.int b5), some (.int b6), some (.int ea7b), some (.int b8), none, some (.int t0)]) dX3_moveBest_136 (by decide) rfl ?_
    refine k_iload hF dX3_moveBest_138 rfl ?_
    refine k_istore hF (L' := [some (.ref (B + 20)), none, some (.int ea2b), some (.int ea3b), some (.int ea7b), some (.int b8), some (.int b6), some (.int ea7b), some (.int b8), none, some (.int t0)]) dX3_moveBest_140 (by decide) rfl ?_
    refine k_iload hF dX3_moveBest_142 rfl ?_
    refine k_istore hF (L' := [some (.ref (B + 20)), none, some (.int ea2b), some (.int ea3b), some (.int ea7b), some (.int b8), some (.int t0), some (.int ea7b), some (.int b8), none, some (.int t0)]) dX3_moveBest_144 (by decide) rfl ?_
    refine k_kill 10 rfl ?_
    exact wX3_moveBest_j146 hF hA hbs h hc he
set_option maxHeartbeats 4000000 in
set_option maxRecDepth 100000 in
theorem wX3_moveBest_j106 {p : Program} {l : Launch} {e : Env} {s : State} {m : MethodId} {args : Array Value} {below : List Frame} {meth : Method} {c : Code} {Q : State → Prop} {A : Nat → Prop} {D : DD} {base B : Nat} (hF : KF D base cX3_moveBest RX3 A 11 0 0 p l e ({ frames := 3, cells := 0, slots := 0, locals := 68 } : Room) s m args below meth c) (hA : ∀ q, RA B shpC q → A q) (hbs : base ≤ B) {σ : St} {ea2b : Int32} {ea3b : Int32} {ea7b : Int32} {b4 : Int32} {b5 : Int32} {b6 : Int32} {b8 : Int32} {t0 : Int32} {z : ((Int32 × Int32 × Int32 × Int32) ⊕ (Int32 × Int32 × Int32 × Int32))} (h : fX3_moveBest_j106 σ ea2b ea3b ea7b b4 b5 b6 b8 t0 = some z) (hc : ∀ x, z = .inl x → KJ (Rep D B shpC) A 11 0 0 Q p l e ({ frames := 3, cells := 0, slots := 0, locals := 68 } : Room) s m args below meth c 0 0 52 [some (.ref (B + 20)), none, some (.int ea2b), some (.int ea3b), some (.int x.1), some (.int x.2.1), some (.int x.2.2.1), some (.int ea7b), some (.int x.2.2.2), none, none] [] σ) (he : ∀ w, z = .inr w → KJ (Rep D B shpC) A 11 0 0 Q p l e ({ frames := 3, cells := 0, slots := 0, locals := 68 } : Room) s m args below meth c 0 0 152 [some (.ref (B + 20)), none, some (.int ea2b), some (.int ea3b), some (.int w.1), some (.int w.2.1), some (.int w.2.2.1), some (.int ea7b), some (.int w.2.2.2), none, none] [] σ) : KJ (Rep D B shpC) A 11 0 0 Q p l e ({ frames := 3, cells := 0, slots := 0, locals := 68 } : Room) s m args below meth c 0 0 106 [some (.ref (B + 20)), none, some (.int ea2b), some (.int ea3b), some (.int b4), some (.int b5), some (.int b6), some (.int ea7b), some (.int b8), none, none] [.int t0] σ := by
  unfold fX3_moveBest_j106 at h
  refine k_istore hF (L' := [some (.ref (B + 20)), none, some (.int ea2b), some (.int ea3b), some (.int b4), some (.int b5), some (.int b6), some (.int ea7b), some (.int b8), some (.int t0), none]) dX3_moveBest_106 (by decide) rfl ?_
  refine k_iload hF dX3_moveBest_108 rfl ?_
  refine k_if_eq hF (tgt := 124) dX3_moveBest_110 (by decide) (fun c9 => ?_) (fun c9 => ?_)
  · replace h := ite_t c9 h
    refine k_iconst hF dX3_moveBest_124 ci_0 ?_
    refine k_kill 9 rfl ?_
    exact wX3_moveBest_j125 hF hA hbs h hc he
  · replace h := ite_f c9 h
    refine k_aload_n hF dX3_moveBest_113 rfl ?_
    refine k_iload hF dX3_moveBest_114 rfl ?_
    refine k_iload hF dX3_moveBest_116 rfl ?_
    obtain ⟨v11, hv11, h⟩ := bind_some h
    refine k_callV hF hA (as := [.int ea7b, .int b8]) (ct_X3_cutFewer hbs hv11) mv_X3_68 shC_20 rfl rfl rfl ⟨Nat.le_of_ble_eq_true rfl, Nat.le_of_ble_eq_true rfl⟩ (Nat.le_of_ble_eq_true rfl) dX3_moveBest_118 ?_
    refine k_st (st2 := [.int v11]) rfl ?_
    refine k_goto hF dX3_moveBest_121 (tgt := 125) (by decide) ?_
    refine k_kill 9 rfl ?_
    exact wX3_moveBest_j125 hF hA hbs h hc he
set_option maxHeartbeats 4000000 in
set_option maxRecDepth 100000 in
theorem wX3_moveBest_j105 {p : Program} {l : Launch} {e : Env} {s : State} {m : MethodId} {args : Array Value} {below : List Frame} {meth : Method} {c : Code} {Q : State → Prop} {A : Nat → Prop} {D : DD} {base B : Nat} (hF : KF D base cX3_moveBest RX3 A 11 0 0 p l e ({ frames := 3, cells := 0, slots := 0, locals := 68 } : Room) s m args below meth c) (hA : ∀ q, RA B shpC q → A q) (hbs : base ≤ B) {σ : St} {ea2b : Int32} {ea3b : Int32} {ea7b : Int32} {b4 : Int32} {b5 : Int32} {b6 : Int32} {b8 : Int32} {z : ((Int32 × Int32 × Int32 × Int32) ⊕ (Int32 × Int32 × Int32 × Int32))} (h : fX3_moveBest_j105 σ ea2b ea3b ea7b b4 b5 b6 b8 = some z) (hc : ∀ x, z = .inl x → KJ (Rep D B shpC) A 11 0 0 Q p l e ({ frames := 3, cells := 0, slots := 0, locals := 68 } : Room) s m args below meth c 0 0 52 [some (.ref (B + 20)), none, some (.int ea2b), some (.int ea3b), some (.int x.1), some (.int x.2.1), some (.int x.2.2.1), some (.int ea7b), some (.int x.2.2.2), none, none] [] σ) (he : ∀ w, z = .inr w → KJ (Rep D B shpC) A 11 0 0 Q p l e ({ frames := 3, cells := 0, slots := 0, locals := 68 } : Room) s m args below meth c 0 0 152 [some (.ref (B + 20)), none, some (.int ea2b), some (.int ea3b), some (.int w.1), some (.int w.2.1), some (.int w.2.2.1), some (.int ea7b), some (.int w.2.2.2), none, none] [] σ) : KJ (Rep D B shpC) A 11 0 0 Q p l e ({ frames := 3, cells := 0, slots := 0, locals := 68 } : Room) s m args below meth c 0 0 105 [some (.ref (B + 20)), none, some (.int ea2b), some (.int ea3b), some (.int b4), some (.int b5), some (.int b6), some (.int ea7b), some (.int b8), none, none] [] σ := by
  unfold fX3_moveBest_j105 at h
  refine k_iconst hF dX3_moveBest_105 ci_0 ?_
  exact wX3_moveBest_j106 hF hA hbs h hc he
set_option maxHeartbeats 4000000 in
set_option maxRecDepth 100000 in
theorem wX3_moveBest_l52 {p : Program} {l : Launch} {e : Env} {s : State} {m : MethodId} {args : Array Value} {below : List Frame} {meth : Method} {c : Code} {Q : State → Prop} {A : Nat → Prop} {D : DD} {base B : Nat} (hF : KF D base cX3_moveBest RX3 A 11 0 0 p l e ({ frames := 3, cells := 0, slots := 0, locals := 68 } : Room) s m args below meth c) (hA : ∀ q, RA B shpC q → A q) (hbs : base ≤ B) {σ : St} {ea2b : Int32} {ea3b : Int32} {ea7b : Int32} {x : (Int32 × Int32 × Int32 × Int32)} {z : ((Int32 × Int32 × Int32 × Int32) ⊕ (Int32 × Int32 × Int32 × Int32))} (h : fX3_moveBest_l52 σ ea2b ea3b ea7b x = some z) (hc : ∀ x, z = .inl x → KJ (Rep D B shpC) A 11 0 0 Q p l e ({ frames := 3, cells := 0, slots := 0, locals := 68 } : Room) s m args below meth c 0 0 52 [some (.ref (B + 20)), none, some (.int ea2b), some (.int ea3b), some (.int x.1), some (.int x.2.1), some (.int x.2.2.1), some (.int ea7b), some (.int x.2.2.2), none, none] [] σ) (he : ∀ w, z = .inr w → KJ (Rep D B shpC) A 11 0 0 Q p l e ({ frames := 3, cells := 0, slots := 0, locals := 68 } : Room) s m args below meth c 0 0 152 [some (.ref (B + 20)), none, some (.int ea2b), some (.int ea3b), some (.int w.1), some (.int w.2.1), some (.int w.2.2.1), some (.int ea7b), some (.int w.2.2.2), none, none] [] σ) : KJ (Rep D B shpC) A 11 0 0 Q p l e ({ frames := 3, cells := 0, slots := 0, locals := 68 } : Room) s m args below meth c 0 0 52 [some (.ref (B + 20)), none, some (.int ea2b), some (.int ea3b), some (.int x.1), some (.int x.2.1), some (.int x.2.2.1), some (.int ea7b), some (.int x.2.2.2), none, none] [] σ := by
  unfold fX3_moveBest_l52 at h
  refine k_iload hF dX3_moveBest_52 rfl ?_
  refine k_iconst hF dX3_moveBest_54 ci_3 ?_
  refine k_icmp_ge hF (tgt := 152) dX3_moveBest_55 (by decide) (fun c6 => ?_) (fun c6 => ?_)
  · replace h := ite_t c6 h
    exact he _ (Option.some.inj h).symm
  · replace h := ite_f c6 h
    refine k_iload_n hF dX3_moveBest_58 rfl ?_
    refine k_iload hF dX3_moveBest_59 rfl ?_
    obtain ⟨v7, hv7, h⟩ := bind_some h
    refine k_callSN hF hA (as := [.int ea3b, .int ea7b]) (ct_X10_has hbs hv7) msn_X3_64 rfl rfl ⟨Nat.le_of_ble_eq_true rfl, Nat.le_of_ble_eq_true rfl⟩ (Nat.le_of_ble_eq_true rfl) dX3_moveBest_61 ?_
    refine k_st (st2 := [.int v7]) rfl ?_
    refine k_if_eq hF (tgt := 105) dX3_moveBest_64 (by decide) (fun c8 => ?_) (fun c8 => ?_)
    · replace h := ite_t c8 h
      exact wX3_moveBest_j105 hF hA hbs h hc he
    · replace h := ite_f c8 h
      refine k_aload_n hF dX3_moveBest_67 rfl ?_
      refine k_get hF (v := .ref (B + 22)) shC_20 fl_X3_15_X3 dX3_moveBest_68 rfl ?_
      refine k_iload hF dX3_moveBest_71 rfl ?_
      obtain ⟨g12, h⟩ := gd_some h
      refine k_zald hF shC_22 dX3_moveBest_73 g12 ?_
      refine k_if_eq hF (tgt := 105) dX3_moveBest_74 (by decide) (fun c13 => ?_) (fun c13 => ?_)
      · replace h := ite_t c13 h
        exact wX3_moveBest_j105 hF hA hbs h hc he
      · replace h := ite_f c13 h
        refine k_iload hF dX3_moveBest_77 rfl ?_
        refine k_aload_n hF dX3_moveBest_79 rfl ?_
        refine k_get hF (v := .ref (B + 21)) shC_20 fl_X3_9_X3 dX3_moveBest_80 rfl ?_
        refine k_iload hF dX3_moveBest_83 rfl ?_
        obtain ⟨g14, h⟩ := gd_some h
        refine k_iald hF shC_21 dX3_moveBest_85 g14 ?_
        refine k_icmp_eq hF (tgt := 105) dX3_moveBest_86 (by decide) (fun c15 => ?_) (fun c15 => ?_)
        · replace h := ite_t c15 h
          exact wX3_moveBest_j105 hF hA hbs h hc he
        · replace h := ite_f c15 h
          refine k_aload_n hF dX3_moveBest_89 rfl ?_
          refine k_iload hF dX3_moveBest_90 rfl ?_
          obtain ⟨v16, hv16, h⟩ := bind_some h
          refine k_callV hF hA (as := [.int x.2.2.2]) (ct_X3_load hbs hv16) mv_X3_37 shC_20 rfl rfl rfl ⟨Nat.le_of_ble_eq_true rfl, Nat.le_of_ble_eq_true rfl⟩ (Nat.le_of_ble_eq_true rfl) dX3_moveBest_92 ?_
          refine k_st (st2 := [.int v16]) rfl ?_
          refine k_iconst hF dX3_moveBest_95 ci_1 ?_
          refine k_iadd hF dX3_moveBest_96 ?_
          refine k_iload_n hF dX3_moveBest_97 rfl ?_
          refine k_icmp_gt hF (tgt := 105) dX3_moveBest_98 (by decide) (fun c17 => ?_) (fun c17 => ?_)
          · replace h := ite_t c17 h
            exact wX3_moveBest_j105 hF hA hbs h hc he
          · replace h := ite_f c17 h
            refine k_iconst hF dX3_moveBest_101 ci_1 ?_
            refine k_goto hF dX3_moveBest_102 (tgt := 106) (by decide) ?_
            exact wX3_moveBest_j106 hF hA hbs h hc he
set_option maxHeartbeats 4000000 in
set_option maxRecDepth 100000 in
theorem wX3_moveBest_l37 {p : Program} {l : Launch} {e : Env} {s : State} {m : MethodId} {args : Array Value} {below : List Frame} {meth : Method} {c : Code} {Q : State → Prop} {A : Nat → Prop} {D : DD} {base B : Nat} (hF : KF D base cX3_moveBest RX3 A 11 0 0 p l e ({ frames := 3, cells := 0, slots := 0, locals := 68 } : Room) s m args below meth c) (hA : ∀ q, RA B shpC q → A q) (hbs : base ≤ B) {σ : St} {ea2 : Int32} {ea3 : Int32} {x : (Int32 × Int32 × Int32 × Int32)} {z : ((Int32 × Int32 × Int32 × Int32) ⊕ (Int32 × Int32 × Int32 × Int32))} (h : fX3_moveBest_l37 σ ea2 ea3 x = some z) (hc : ∀ x, z = .inl x → KJ (Rep D B shpC) A 11 0 0 Q p l e ({ frames := 3, cells := 0, slots := 0, locals := 68 } : Room) s m args below meth c 0 0 37 [some (.ref (B + 20)), none, some (.int ea2), some (.int ea3), some (.int x.1), some (.int x.2.1), some (.int x.2.2.1), some (.int x.2.2.2), none, none, none] [] σ) (he : ∀ w, z = .inr w → KJ (Rep D B shpC) A 11 0 0 Q p l e ({ frames := 3, cells := 0, slots := 0, locals := 68 } : Room) s m args below meth c 0 0 158 [some (.ref (B + 20)), none, some (.int ea2), some (.int ea3), some (.int w.1), some (.int w.2.1), some (.int w.2.2.1), some (.int w.2.2.2), none, none, none] [] σ) : KJ (Rep D B shpC) A 11 0 0 Q p l e ({ frames := 3, cells := 0, slots := 0, locals := 68 } : Room) s m args below meth c 0 0 37 [some (.ref (B + 20)), none, some (.int ea2), some (.int ea3), some (.int x.1), some (.int x.2.1), some (.int x.2.2.1), some (.int x.2.2.2), none, none, none] [] σ := by
  unfold fX3_moveBest_l37 at h
  refine k_iload hF dX3_moveBest_37 rfl ?_
  refine k_aload_n hF dX3_moveBest_39 rfl ?_
  refine k_get hF (v := .ref (B + 1)) shC_20 fl_X3_19_X3 dX3_moveBest_40 rfl ?_
  refine k_get hF (v := .int (gi σ 1 2)) shC_1 fl_X3_27_X6 dX3_moveBest_43 rfl ?_
  refine k_icmp_ge hF (tgt := 158) dX3_moveBest_46 (by decide) (fun c5 => ?_) (fun c5 => ?_)
  · replace h := ite_t c5 h
    exact he _ (Option.some.inj h).symm
  · replace h := ite_f c5 h
    refine k_iconst hF dX3_moveBest_49 ci_0 ?_
    refine k_istore hF (L' := [some (.ref (B + 20)), none, some (.int ea2), some (.int ea3), some (.int x.1), some (.int x.2.1), some (.int x.2.2.1), some (.int x.2.2.2), some (.int (0 : Int32)), none, none]) dX3_moveBest_50 (by decide) rfl ?_
    obtain ⟨x18, hx18, h⟩ := bind_some h
    refine k_loop (P := fun xq => KJ (Rep D B shpC) A 11 0 0 Q p l e ({ frames := 3, cells := 0, slots := 0, locals := 68 } : Room) s m args below meth c 0 0 52 [some (.ref (B + 20)), none, some (.int ea2), some (.int ea3), some (.int xq.1), some (.int xq.2.1), some (.int xq.2.2.1), some (.int x.2.2.2), some (.int xq.2.2.2), none, none] [] σ) (C := fun xq => KJ (Rep D B shpC) A 11 0 0 Q p l e ({ frames := 3, cells := 0, slots := 0, locals := 68 } : Room) s m args below meth c 0 0 152 [some (.ref (B + 20)), none, some (.int ea2), some (.int ea3), some (.int xq.1), some (.int xq.2.1), some (.int xq.2.2.1), some (.int x.2.2.2), some (.int xq.2.2.2), none, none] [] σ) (fun x z hz hc he => wX3_moveBest_l52 hF hA hbs hz hc he) hx18 ?_
    show KJ (Rep D B shpC) A 11 0 0 Q p l e ({ frames := 3, cells := 0, slots := 0, locals := 68 } : Room) s m args below meth c 0 0 152 [some (.ref (B + 20)), none, some (.int ea2), some (.int ea3), some (.int x18.1), some (.int x18.2.1), some (.int x18.2.2.1), some (.int x.2.2.2), some (.int x18.2.2.2), none, none] [] σ
    refine k_iinc hF (v := (x.2.2.2 + (1 : Int32))) (L' := [some (.ref (B + 20)), none, some (.int ea2), some (.int ea3), some (.int x18.1), some (.int x18.2.1), some (.int x18.2.2.1), some (.int (x.2.2.2 + (1 : Int32))), some (.int x18.2.2.2), none, none]) dX3_moveBest_152 rfl (by first | rfl | (congr 1)) (by decide) rfl ?_
    refine k_goto hF dX3_moveBest_155 (tgt := 37) (by decide) ?_
    refine k_kill 8 rfl ?_
    exact hc _ (Option.some.inj h).symm
set_option maxHeartbeats 4000000 in
set_option maxRecDepth 100000 in
theorem wX3_moveBest_j173 {p : Program} {l : Launch} {e : Env} {s : State} {m : MethodId} {args : Array Value} {below : List Frame} {meth : Method} {c : Code} {Q : State → Prop} {A : Nat → Prop} {D : DD} {base B : Nat} (hF : KF D base cX3_moveBest RX3 A 11 0 0 p l e ({ frames := 3, cells := 0, slots := 0, locals := 68 } : Room) s m args below meth c) (hA : ∀ q, RA B shpC q → A q) (hbs : base ≤ B) {σ : St} {b4 : Int32} {z : (Int32 × St)} (h : fX3_moveBest_j173 σ b4 = some z) (hr : ∀ (pc : Nat) (L : List (Option Value)), narrow .int (.int z.1) = .int z.1 → decode cX3_moveBest pc = .ok (.ireturn, 1) → KJ (Rep D B shpC) A 11 0 0 Q p l e ({ frames := 3, cells := 0, slots := 0, locals := 68 } : Room) s m args below meth c 0 0 pc L [.int z.1] z.2) : KJ (Rep D B shpC) A 11 0 0 Q p l e ({ frames := 3, cells := 0, slots := 0, locals := 68 } : Room) s m args below meth c 0 0 173 [some (.ref (B + 20)), none, none, none, some (.int b4), none, none, none, none, none, none] [] σ := by
  unfold fX3_moveBest_j173 at h
  refine k_iload hF dX3_moveBest_173 rfl ?_
  cases h
  exact hr _ _ rfl dX3_moveBest_175
set_option maxHeartbeats 4000000 in
set_option maxRecDepth 100000 in
theorem wX3_moveBest {p : Program} {l : Launch} {e : Env} {s : State} {m : MethodId} {args : Array Value} {below : List Frame} {meth : Method} {c : Code} {Q : State → Prop} {A : Nat → Prop} {D : DD} {base B : Nat} (hF : KF D base cX3_moveBest RX3 A 11 0 0 p l e ({ frames := 3, cells := 0, slots := 0, locals := 68 } : Room) s m args below meth c) (hA : ∀ q, RA B shpC q → A q) (hbs : base ≤ B) {σ : St} {z : (Int32 × St)} (h : fX3_moveBest σ = some z) (hr : ∀ (pc : Nat) (L : List (Option Value)), narrow .int (.int z.1) = .int z.1 → decode cX3_moveBest pc = .ok (.ireturn, 1) → KJ (Rep D B shpC) A 11 0 0 Q p l e ({ frames := 3, cells := 0, slots := 0, locals := 68 } : Room) s m args below meth c 0 0 pc L [.int z.1] z.2) : KJ (Rep D B shpC) A 11 0 0 Q p l e ({ frames := 3, cells := 0, slots := 0, locals := 68 } : Room) s m args below meth c 0 0 0 [some (.ref (B + 20)), none, none, none, none, none, none, none, none, none, none] [] σ := by
  unfold fX3_moveBest at h
  refine k_aload_n hF dX3_moveBest_0 rfl ?_
  obtain ⟨v1, hv1, h⟩ := bind_some h
  refine k_callV hF hA (as := []) (ct_X3_emptiest hbs hv1) mv_X3_57 shC_20 rfl rfl rfl ⟨Nat.le_of_ble_eq_true rfl, Nat.le_of_ble_eq_true rfl⟩ (Nat.le_of_ble_eq_true rfl) dX3_moveBest_1 ?_
  refine k_st (st2 := [.int v1]) rfl ?_
  refine k_istore_n hF (L' := [some (.ref (B + 20)), some (.int v1), none, none, none, none, none, none, none, none, none]) dX3_moveBest_4 (by decide) rfl ?_
  refine k_iload_n hF dX3_moveBest_5 rfl ?_
  refine k_iconst hF dX3_moveBest_6 ci_m1 ?_
  refine k_icmp_ne hF (tgt := 12) dX3_moveBest_7 (by decide) (fun c2 => ?_) (fun c2 => ?_)
  · replace h := ite_f c2 h
    refine k_aload_n hF dX3_moveBest_12 rfl ?_
    refine k_iload_n hF dX3_moveBest_13 rfl ?_
    obtain ⟨v3, hv3, h⟩ := bind_some h
    refine k_callV hF hA (as := [.int v1]) (ct_X3_load hbs hv3) mv_X3_37 shC_20 rfl rfl rfl ⟨Nat.le_of_ble_eq_true rfl, Nat.le_of_ble_eq_true rfl⟩ (Nat.le_of_ble_eq_true rfl) dX3_moveBest_14 ?_
    refine k_st (st2 := [.int v3]) rfl ?_
    refine k_iconst hF dX3_moveBest_17 ci_2 ?_
    refine k_iadd hF dX3_moveBest_18 ?_
    refine k_istore_n hF (L' := [some (.ref (B + 20)), some (.int v1), some (.int (v3 + (2 : Int32))), none, none, none, none, none, none, none, none]) dX3_moveBest_19 (by decide) rfl ?_
    refine k_aload_n hF dX3_moveBest_20 rfl ?_
    obtain ⟨v4, hv4, h⟩ := bind_some h
    refine k_callV hF hA (as := []) (ct_X3_reachable hbs hv4) mv_X3_61 shC_20 rfl rfl rfl ⟨Nat.le_of_ble_eq_true rfl, Nat.le_of_ble_eq_true rfl⟩ (Nat.le_of_ble_eq_true rfl) dX3_moveBest_21 ?_
    refine k_st (st2 := [.int v4]) rfl ?_
    refine k_istore_n hF (L' := [some (.ref (B + 20)), some (.int v1), some (.int (v3 + (2 : Int32))), some (.int v4), none, none, none, none, none, none, none]) dX3_moveBest_24 (by decide) rfl ?_
    refine k_iconst hF dX3_moveBest_25 ci_m1 ?_
    refine k_istore hF (L' := [some (.ref (B + 20)), some (.int v1), some (.int (v3 + (2 : Int32))), some (.int v4), some (.int (-1 : Int32)), none, none, none, none, none, none]) dX3_moveBest_26 (by decide) rfl ?_
    refine k_iconst hF dX3_moveBest_28 ci_m1 ?_
    refine k_istore hF (L' := [some (.ref (B + 20)), some (.int v1), some (.int (v3 + (2 : Int32))), some (.int v4), some (.int (-1 : Int32)), some (.int (-1 : Int32)), none, none, none, none, none]) dX3_moveBest_29 (by decide) rfl ?_
    refine k_iconst hF dX3_moveBest_31 ci_0 ?_
    refine k_istore hF (L' := [some (.ref (B + 20)), some (.int v1), some (.int (v3 + (2 : Int32))), some (.int v4), some (.int (-1 : Int32)), some (.int (-1 : Int32)), some (.int (0 : Int32)), none, none, none, none]) dX3_moveBest_32 (by decide) rfl ?_
    refine k_iconst hF dX3_moveBest_34 ci_0 ?_
    refine k_istore hF (L' := [some (.ref (B + 20)), some (.int v1), some (.int (v3 + (2 : Int32))), some (.int v4), some (.int (-1 : Int32)), some (.int (-1 : Int32)), some (.int (0 : Int32)), some (.int (0 : Int32)), none, none, none]) dX3_moveBest_35 (by decide) rfl ?_
    refine k_kill 1 rfl ?_
    obtain ⟨x19, hx19, h⟩ := bind_some h
    refine k_loop (P := fun xq => KJ (Rep D B shpC) A 11 0 0 Q p l e ({ frames := 3, cells := 0, slots := 0, locals := 68 } : Room) s m args below meth c 0 0 37 [some (.ref (B + 20)), none, some (.int (v3 + (2 : Int32))), some (.int v4), some (.int xq.1), some (.int xq.2.1), some (.int xq.2.2.1), some (.int xq.2.2.2), none, none, none] [] σ) (C := fun xq => KJ (Rep D B shpC) A 11 0 0 Q p l e ({ frames := 3, cells := 0, slots := 0, locals := 68 } : Room) s m args below meth c 0 0 158 [some (.ref (B + 20)), none, some (.int (v3 + (2 : Int32))), some (.int v4), some (.int xq.1), some (.int xq.2.1), some (.int xq.2.2.1), some (.int xq.2.2.2), none, none, none] [] σ) (fun x z hz hc he => wX3_moveBest_l37 hF hA hbs hz hc he) hx19 ?_
    show KJ (Rep D B shpC) A 11 0 0 Q p l e ({ frames := 3, cells := 0, slots := 0, locals := 68 } : Room) s m args below meth c 0 0 158 [some (.ref (B + 20)), none, some (.int (v3 + (2 : Int32))), some (.int v4), some (.int x19.1), some (.int x19.2.1), some (.int x19.2.2.1), some (.int x19.2.2.2), none, none, none] [] σ
    refine k_iload hF dX3_moveBest_158 rfl ?_
    refine k_iconst hF dX3_moveBest_160 ci_m1 ?_
    refine k_icmp_eq hF (tgt := 173) dX3_moveBest_161 (by decide) (fun c20 => ?_) (fun c20 => ?_)
    · replace h := ite_t c20 h
      refine k_kill 2 rfl ?_
      refine k_kill 3 rfl ?_
      refine k_kill 5 rfl ?_
      refine k_kill 6 rfl ?_
      refine k_kill 7 rfl ?_
      exact wX3_moveBest_j173 hF hA hbs h hr
    · replace h := ite_f c20 h
      refine k_aload_n hF dX3_moveBest_164 rfl ?_
      refine k_get hF (v := .ref (B + 21)) shC_20 fl_X3_9_X3 dX3_moveBest_165 rfl ?_
      refine k_iload hF dX3_moveBest_168 rfl ?_
      refine k_iload hF dX3_moveBest_170 rfl ?_
      obtain ⟨g21, h⟩ := gd_some h
      refine k_iast hF hA shC_21 dX3_moveBest_172 g21 ?_
      obtain ⟨σ22, hσ22, h⟩ := lt_some h
      refine k_sig hσ22 ?_
      refine k_kill 2 rfl ?_
      refine k_kill 3 rfl ?_
      refine k_kill 5 rfl ?_
      refine k_kill 6 rfl ?_
      refine k_kill 7 rfl ?_
      exact wX3_moveBest_j173 hF hA hbs h hr
  · replace h := ite_t c2 h
    refine k_iconst hF dX3_moveBest_10 ci_m1 ?_
    cases h
    exact hr _ _ rfl dX3_moveBest_11
theorem ct_X3_moveBest {l : Launch} {D : DD} {base B : Nat} (hbs : base ≤ B) {σ : St} {r : (Int32 × St)} (h : fX3_moveBest σ = some r) : MetR l D B shpC base yX3_moveBest cX3_moveBest 11 (some .int) 3 68 [.ref (B + 20)] σ (some (.int r.1)) r.2 :=
  MetR.of (by decide +kernel) (fun v hv => by simp only [List.mem_cons, List.not_mem_nil, or_false] at hv; rcases hv with rfl <;> rfl) (Nat.le_of_ble_eq_true rfl) hbs (fun p e s m args below meth c hF hr => wX3_moveBest hF (fun q hq => hq) hbs h (fun pc L hn hd => k_iret hF hr hn hd))
set_option maxHeartbeats 4000000 in
set_option maxRecDepth 100000 in
theorem wX4_comeTo {p : Program} {l : Launch} {e : Env} {s : State} {m : MethodId} {args : Array Value} {below : List Frame} {meth : Method} {c : Code} {Q : State → Prop} {A : Nat → Prop} {D : DD} {base B : Nat} (hF : KF D base cX4_comeTo RX4 A 2 0 0 p l e ({ frames := 1, cells := 0, slots := 0, locals := 20 } : Room) s m args below meth c) (hA : ∀ q, RA B shpC q → A q) (hbs : base ≤ B) {σ : St} {a1 : Int32} {z : St} (h : fX4_comeTo σ a1 = some z) (hr : ∀ (pc : Nat) (L : List (Option Value)), decode cX4_comeTo pc = .ok (.return_, 1) → KJ (Rep D B shpC) A 2 0 0 Q p l e ({ frames := 1, cells := 0, slots := 0, locals := 20 } : Room) s m args below meth c 0 0 pc L [] z) : KJ (Rep D B shpC) A 2 0 0 Q p l e ({ frames := 1, cells := 0, slots := 0, locals := 20 } : Room) s m args below meth c 0 0 0 [some (.ref (B + 53)), some (.int a1)] [] σ := by
  unfold fX4_comeTo at h
  refine k_aload_n hF dX4_comeTo_0 rfl ?_
  refine k_get hF (v := .ref (B + 54)) shC_53 fl_X4_9_X4 dX4_comeTo_1 rfl ?_
  refine k_iload_n hF dX4_comeTo_4 rfl ?_
  refine k_iload_n hF dX4_comeTo_5 rfl ?_
  obtain ⟨g1, h⟩ := gd_some h
  refine k_iast hF hA shC_54 dX4_comeTo_6 g1 ?_
  obtain ⟨σ2, hσ2, h⟩ := lt_some h
  refine k_sig hσ2 ?_
  refine k_aload_n hF dX4_comeTo_7 rfl ?_
  refine k_dup hF dX4_comeTo_8 rfl ?_
  refine k_get hF (v := .int (gi σ2 53 3)) shC_53 fl_X4_18_X4 dX4_comeTo_9 rfl ?_
  refine k_iload_n hF dX4_comeTo_12 rfl ?_
  obtain ⟨v3, hv3, h⟩ := bind_some h
  refine k_callSN hF hA (as := [.int a1]) (ct_X10_bit hbs hv3) msn_X4_26 rfl rfl ⟨Nat.le_of_ble_eq_true rfl, Nat.le_of_ble_eq_true rfl⟩ (Nat.le_of_ble_eq_true rfl) dX4_comeTo_13 ?_
  refine k_st (st2 := [.int v3, .int (gi σ2 53 3), .ref (B + 53)]) rfl ?_
  refine k_ior hF dX4_comeTo_16 ?_
  refine k_putI hF hA shC_53 fp_X4_18_X4 dX4_comeTo_17 rfl rfl rfl ?_
  obtain ⟨σ4, hσ4, h⟩ := lt_some h
  refine k_sig hσ4 ?_
  cases h
  exact hr _ _ dX4_comeTo_20
theorem ct_X4_comeTo {l : Launch} {D : DD} {base B : Nat} (hbs : base ≤ B) {σ : St} {a1 : Int32} {r : St} (h : fX4_comeTo σ a1 = some r) : MetR l D B shpC base yX4_comeTo cX4_comeTo 2 none 1 20 [.ref (B + 53), .int a1] σ none r :=
  MetR.of (by decide +kernel) (fun v hv => by simp only [List.mem_cons, List.not_mem_nil, or_false] at hv; rcases hv with rfl | rfl <;> rfl) (Nat.le_of_ble_eq_true rfl) hbs (fun p e s m args below meth c hF hr => wX4_comeTo hF (fun q hq => hq) hbs h (fun pc L hd => k_vret hF hr hd))
set_option maxHeartbeats 4000000 in
set_option maxRecDepth 100000 in
theorem wX4_startAnew_l2 {p : Program} {l : Launch} {e : Env} {s : State} {m : MethodId} {args : Array Value} {below : List Frame} {meth : Method} {c : Code} {Q : State → Prop} {A : Nat → Prop} {D : DD} {base B : Nat} (hF : KF D base cX4_startAnew RX4 A 3 0 0 p l e ({ frames := 0, cells := 0, slots := 0, locals := 0 } : Room) s m args below meth c) (hA : ∀ q, RA B shpC q → A q) (hbs : base ≤ B) {σ : St} {a1 : Int32} {x : (St × Int32)} {z : ((St × Int32) ⊕ (St × Int32))} (h : fX4_startAnew_l2 σ a1 x = some z) (hc : ∀ x, z = .inl x → KJ (Rep D B shpC) A 3 0 0 Q p l e ({ frames := 0, cells := 0, slots := 0, locals := 0 } : Room) s m args below meth c 0 0 2 [some (.ref (B + 53)), some (.int a1), some (.int x.2)] [] x.1) (he : ∀ w, z = .inr w → KJ (Rep D B shpC) A 3 0 0 Q p l e ({ frames := 0, cells := 0, slots := 0, locals := 0 } : Room) s m args below meth c 0 0 21 [some (.ref (B + 53)), some (.int a1), some (.int w.2)] [] w.1) : KJ (Rep D B shpC) A 3 0 0 Q p l e ({ frames := 0, cells := 0, slots := 0, locals := 0 } : Room) s m args below meth c 0 0 2 [some (.ref (B + 53)), some (.int a1), some (.int x.2)] [] x.1 := by
  unfold fX4_startAnew_l2 at h
  refine k_iload_n hF dX4_startAnew_2 rfl ?_
  refine k_bipush hF (v := (24 : Int32)) dX4_startAnew_3 (by decide) ?_
  refine k_icmp_ge hF (tgt := 21) dX4_startAnew_5 (by decide) (fun c1 => ?_) (fun c1 => ?_)
  · replace h := ite_t c1 h
    exact he _ (Option.some.inj h).symm
  · replace h := ite_f c1 h
    refine k_aload_n hF dX4_startAnew_8 rfl ?_
    refine k_get hF (v := .ref (B + 54)) shC_53 fl_X4_9_X4 dX4_startAnew_9 rfl ?_
    refine k_iload_n hF dX4_startAnew_12 rfl ?_
    refine k_iload_n hF dX4_startAnew_13 rfl ?_
    obtain ⟨g2, h⟩ := gd_some h
    refine k_iast hF hA shC_54 dX4_startAnew_14 g2 ?_
    obtain ⟨σ3, hσ3, h⟩ := lt_some h
    refine k_sig hσ3 ?_
    refine k_iinc hF (v := (x.2 + (1 : Int32))) (L' := [some (.ref (B + 53)), some (.int a1), some (.int (x.2 + (1 : Int32)))]) dX4_startAnew_15 rfl (by first | rfl | (congr 1)) (by decide) rfl ?_
    refine k_goto hF dX4_startAnew_18 (tgt := 2) (by decide) ?_
    exact hc _ (Option.some.inj h).symm
set_option maxHeartbeats 4000000 in
set_option maxRecDepth 100000 in
theorem wX4_startAnew {p : Program} {l : Launch} {e : Env} {s : State} {m : MethodId} {args : Array Value} {below : List Frame} {meth : Method} {c : Code} {Q : State → Prop} {A : Nat → Prop} {D : DD} {base B : Nat} (hF : KF D base cX4_startAnew RX4 A 3 0 0 p l e ({ frames := 0, cells := 0, slots := 0, locals := 0 } : Room) s m args below meth c) (hA : ∀ q, RA B shpC q → A q) (hbs : base ≤ B) {σ : St} {a1 : Int32} {z : St} (h : fX4_startAnew σ a1 = some z) (hr : ∀ (pc : Nat) (L : List (Option Value)), decode cX4_startAnew pc = .ok (.return_, 1) → KJ (Rep D B shpC) A 3 0 0 Q p l e ({ frames := 0, cells := 0, slots := 0, locals := 0 } : Room) s m args below meth c 0 0 pc L [] z) : KJ (Rep D B shpC) A 3 0 0 Q p l e ({ frames := 0, cells := 0, slots := 0, locals := 0 } : Room) s m args below meth c 0 0 0 [some (.ref (B + 53)), some (.int a1), none] [] σ := by
  unfold fX4_startAnew at h
  refine k_iconst hF dX4_startAnew_0 ci_0 ?_
  refine k_istore_n hF (L' := [some (.ref (B + 53)), some (.int a1), some (.int (0 : Int32))]) dX4_startAnew_1 (by decide) rfl ?_
  obtain ⟨x4, hx4, h⟩ := bind_some h
  refine k_loop (P := fun xq => KJ (Rep D B shpC) A 3 0 0 Q p l e ({ frames := 0, cells := 0, slots := 0, locals := 0 } : Room) s m args below meth c 0 0 2 [some (.ref (B + 53)), some (.int a1), some (.int xq.2)] [] xq.1) (C := fun xq => KJ (Rep D B shpC) A 3 0 0 Q p l e ({ frames := 0, cells := 0, slots := 0, locals := 0 } : Room) s m args below meth c 0 0 21 [some (.ref (B + 53)), some (.int a1), some (.int xq.2)] [] xq.1) (fun x z hz hc he => wX4_startAnew_l2 hF hA hbs hz hc he) hx4 ?_
  show KJ (Rep D B shpC) A 3 0 0 Q p l e ({ frames := 0, cells := 0, slots := 0, locals := 0 } : Room) s m args below meth c 0 0 21 [some (.ref (B + 53)), some (.int a1), some (.int x4.2)] [] x4.1
  refine k_aload_n hF dX4_startAnew_21 rfl ?_
  refine k_iload_n hF dX4_startAnew_22 rfl ?_
  refine k_putI hF hA shC_53 fp_X4_18_X4 dX4_startAnew_23 rfl rfl rfl ?_
  obtain ⟨σ5, hσ5, h⟩ := lt_some h
  refine k_sig hσ5 ?_
  cases h
  exact hr _ _ dX4_startAnew_26
theorem ct_X4_startAnew {l : Launch} {D : DD} {base B : Nat} (hbs : base ≤ B) {σ : St} {a1 : Int32} {r : St} (h : fX4_startAnew σ a1 = some r) : MetR l D B shpC base yX4_startAnew cX4_startAnew 3 none 0 0 [.ref (B + 53), .int a1] σ none r :=
  MetR.of (by decide +kernel) (fun v hv => by simp only [List.mem_cons, List.not_mem_nil, or_false] at hv; rcases hv with rfl | rfl <;> rfl) (Nat.le_of_ble_eq_true rfl) hbs (fun p e s m args below meth c hF hr => wX4_startAnew hF (fun q hq => hq) hbs h (fun pc L hd => k_vret hF hr hd))
set_option maxHeartbeats 4000000 in
set_option maxRecDepth 100000 in
theorem wX4_sendAlong {p : Program} {l : Launch} {e : Env} {s : State} {m : MethodId} {args : Array Value} {below : List Frame} {meth : Method} {c : Code} {Q : State → Prop} {A : Nat → Prop} {D : DD} {base B : Nat} (hF : KF D base cX4_sendAlong RX4 A 4 0 0 p l e ({ frames := 1, cells := 0, slots := 0, locals := 21 } : Room) s m args below meth c) (hA : ∀ q, RA B shpC q → A q) (hbs : base ≤ B) {σ : St} {a1 : Int32} {a2 : Int32} {a3 : Int32} {z : St} (h : fX4_sendAlong σ a1 a2 a3 = some z) (hr : ∀ (pc : Nat) (L : List (Option Value)), decode cX4_sendAlong pc = .ok (.return_, 1) → KJ (Rep D B shpC) A 4 0 0 Q p l e ({ frames := 1, cells := 0, slots := 0, locals := 21 } : Room) s m args below meth c 0 0 pc L [] z) : KJ (Rep D B shpC) A 4 0 0 Q p l e ({ frames := 1, cells := 0, slots := 0, locals := 21 } : Room) s m args below meth c 0 0 0 [some (.ref (B + 53)), some (.int a1), some (.int a2), some (.int a3)] [] σ := by
  unfold fX4_sendAlong at h
  refine k_iload_n hF dX4_sendAlong_0 rfl ?_
  refine k_iload_n hF dX4_sendAlong_1 rfl ?_
  obtain ⟨v1, hv1, h⟩ := bind_some h
  refine k_callSN hF hA (as := [.int a1, .int a2]) (ct_X10_has hbs hv1) msn_X4_49 rfl rfl ⟨Nat.le_of_ble_eq_true rfl, Nat.le_of_ble_eq_true rfl⟩ (Nat.le_of_ble_eq_true rfl) dX4_sendAlong_2 ?_
  refine k_st (st2 := [.int v1]) rfl ?_
  refine k_if_eq hF (tgt := 48) dX4_sendAlong_5 (by decide) (fun c2 => ?_) (fun c2 => ?_)
  · replace h := ite_t c2 h
    cases h
    exact hr _ _ dX4_sendAlong_48
  · replace h := ite_f c2 h
    refine k_aload_n hF dX4_sendAlong_8 rfl ?_
    refine k_get hF (v := .ref (B + 55)) shC_53 fl_X4_15_X4 dX4_sendAlong_9 rfl ?_
    refine k_iload_n hF dX4_sendAlong_12 rfl ?_
    obtain ⟨g3, h⟩ := gd_some h
    refine k_iald hF shC_55 dX4_sendAlong_13 g3 ?_
    refine k_aload_n hF dX4_sendAlong_14 rfl ?_
    refine k_get hF (v := .ref (B + 54)) shC_53 fl_X4_9_X4 dX4_sendAlong_15 rfl ?_
    refine k_iload_n hF dX4_sendAlong_18 rfl ?_
    obtain ⟨g4, h⟩ := gd_some h
    refine k_iald hF shC_54 dX4_sendAlong_19 g4 ?_
    refine k_icmp_ge hF (tgt := 48) dX4_sendAlong_20 (by decide) (fun c5 => ?_) (fun c5 => ?_)
    · replace h := ite_t c5 h
      cases h
      exact hr _ _ dX4_sendAlong_48
    · replace h := ite_f c5 h
      refine k_aload_n hF dX4_sendAlong_23 rfl ?_
      refine k_get hF (v := .ref (B + 54)) shC_53 fl_X4_9_X4 dX4_sendAlong_24 rfl ?_
      refine k_iload_n hF dX4_sendAlong_27 rfl ?_
      refine k_aload_n hF dX4_sendAlong_28 rfl ?_
      refine k_get hF (v := .ref (B + 55)) shC_53 fl_X4_15_X4 dX4_sendAlong_29 rfl ?_
      refine k_iload_n hF dX4_sendAlong_32 rfl ?_
      obtain ⟨g6, h⟩ := gd_some h
      refine k_iald hF shC_55 dX4_sendAlong_33 g6 ?_
      obtain ⟨g7, h⟩ := gd_some h
      refine k_iast hF hA shC_54 dX4_sendAlong_34 g7 ?_
      obtain ⟨σ8, hσ8, h⟩ := lt_some h
      refine k_sig hσ8 ?_
      refine k_aload_n hF dX4_sendAlong_35 rfl ?_
      refine k_dup hF dX4_sendAlong_36 rfl ?_
      refine k_get hF (v := .int (gi σ8 53 3)) shC_53 fl_X4_18_X4 dX4_sendAlong_37 rfl ?_
      refine k_iload_n hF dX4_sendAlong_40 rfl ?_
      obtain ⟨v9, hv9, h⟩ := bind_some h
      refine k_callSN hF hA (as := [.int a3]) (ct_X10_bit hbs hv9) msn_X4_26 rfl rfl ⟨Nat.le_of_ble_eq_true rfl, Nat.le_of_ble_eq_true rfl⟩ (Nat.le_of_ble_eq_true rfl) dX4_sendAlong_41 ?_
      refine k_st (st2 := [.int v9, .int (gi σ8 53 3), .ref (B + 53)]) rfl ?_
      refine k_ior hF dX4_sendAlong_44 ?_
      refine k_putI hF hA shC_53 fp_X4_18_X4 dX4_sendAlong_45 rfl rfl rfl ?_
      obtain ⟨σ10, hσ10, h⟩ := lt_some h
      refine k_sig hσ10 ?_
      cases h
      exact hr _ _ dX4_sendAlong_48
theorem ct_X4_sendAlong {l : Launch} {D : DD} {base B : Nat} (hbs : base ≤ B) {σ : St} {a1 : Int32} {a2 : Int32} {a3 : Int32} {r : St} (h : fX4_sendAlong σ a1 a2 a3 = some r) : MetR l D B shpC base yX4_sendAlong cX4_sendAlong 4 none 1 21 [.ref (B + 53), .int a1, .int a2, .int a3] σ none r :=
  MetR.of (by decide +kernel) (fun v hv => by simp only [List.mem_cons, List.not_mem_nil, or_false] at hv; rcases hv with rfl | rfl | rfl | rfl <;> rfl) (Nat.le_of_ble_eq_true rfl) hbs (fun p e s m args below meth c hF hr => wX4_sendAlong hF (fun q hq => hq) hbs h (fun pc L hd => k_vret hF hr hd))
