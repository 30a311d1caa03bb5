set_option maxHeartbeats 4000000 in
set_option maxRecDepth 100000 in
theorem wX11_time {p : Program} {l : Launch} {e : Env} {s : State} {m : MethodId} {args : Array Value} {below : List Frame} {meth : Method} {c : Code} {Q : State → Prop} {A : Nat → Prop} {D : DD} {base B : Nat} (hF : KF D base cX11_time RX11 A 1 0 0 p l e ({ frames := 0, cells := 0, slots := 0, locals := 0 } : Room) s m args below meth c) (hA : ∀ q, RA B shpR q → A q) (hbs : base ≤ B) {σ : St} {z : (Int32 × St)} (h : fX11_time σ = some z) (hr : ∀ (pc : Nat) (L : List (Option Value)), narrow .int (.int z.1) = .int z.1 → decode cX11_time pc = .ok (.ireturn, 1) → KJ (Rep D B shpR) A 1 0 0 Q p l e ({ frames := 0, cells := 0, slots := 0, locals := 0 } : Room) s m args below meth c 0 0 pc L [.int z.1] z.2) : KJ (Rep D B shpR) A 1 0 0 Q p l e ({ frames := 0, cells := 0, slots := 0, locals := 0 } : Room) s m args below meth c 0 0 0 [some (.ref (B + 0))] [] σ := by
  unfold fX11_time at h
  refine k_aload_n hF dX11_time_0 rfl ?_
  refine k_iconst hF dX11_time_1 ci_0 ?_
  refine k_putI hF hA shR_0 fp_X11_138_X11 dX11_time_2 rfl rfl rfl ?_
  obtain ⟨σ1, hσ1, h⟩ := lt_some h
  refine k_sig hσ1 ?_
  refine k_aload_n hF dX11_time_5 rfl ?_
  refine k_get hF (v := .int (gi σ1 0 0)) shR_0 fl_X11_160_X11 dX11_time_6 rfl ?_
  cases h
  exact hr _ _ rfl dX11_time_9
theorem ct_X11_time {l : Launch} {D : DD} {base B : Nat} (hbs : base ≤ B) {σ : St} {r : (Int32 × St)} (h : fX11_time σ = some r) : MetR l D B shpR base yX11_time cX11_time 1 (some .int) 0 0 [.ref (B + 0)] σ (some (.int r.1)) r.2 :=
  MetR.of (by decide +kernel) (fun v hv => by simp only [List.mem_cons, List.not_mem_nil, or_false] at hv; rcases hv with rfl <;> rfl) (Nat.le_of_ble_eq_true rfl) hbs (fun p e s m args below meth c hF hr => wX11_time hF (fun q hq => hq) hbs h (fun pc L hn hd => k_iret hF hr hn hd))
set_option maxHeartbeats 4000000 in
set_option maxRecDepth 100000 in
theorem wX11_valueAt_j69 {p : Program} {l : Launch} {e : Env} {s : State} {m : MethodId} {args : Array Value} {below : List Frame} {meth : Method} {c : Code} {Q : State → Prop} {A : Nat → Prop} {D : DD} {base B : Nat} (hF : KF D base cX11_valueAt RX11 A 5 0 0 p l e ({ frames := 1, cells := 0, slots := 0, locals := 24 } : Room) s m args below meth c) (hA : ∀ q, RA B shpR q → A q) (hbs : base ≤ B) {σ : St} {a1 : Int32} {a2 : Int32} {t0 : Int32} {z : (Int32 × St)} (h : fX11_valueAt_j69 σ a1 a2 t0 = some z) (hr : ∀ (pc : Nat) (L : List (Option Value)), narrow .int (.int z.1) = .int z.1 → decode cX11_valueAt pc = .ok (.ireturn, 1) → KJ (Rep D B shpR) A 5 0 0 Q p l e ({ frames := 1, cells := 0, slots := 0, locals := 24 } : Room) s m args below meth c 0 0 pc L [.int z.1] z.2) : KJ (Rep D B shpR) A 5 0 0 Q p l e ({ frames := 1, cells := 0, slots := 0, locals := 24 } : Room) s m args below meth c 0 0 69 [some (.ref (B + 0)), some (.int a1), some (.int a2), none, none] [.int t0, .ref (B + 0)] σ := by
  unfold fX11_valueAt_j69 at h
  obtain ⟨v6, hv6, h⟩ := bind_some h
  refine k_callV hF hA (as := [.int t0]) (ct_X11_fails hbs hv6) mv_X11_181 shR_0 rfl rfl rfl ⟨Nat.le_of_ble_eq_true rfl, Nat.le_of_ble_eq_true rfl⟩ (Nat.le_of_ble_eq_true rfl) dX11_valueAt_69 ?_
  refine k_st (st2 := [.int v6.1]) rfl ?_
  refine k_if_eq hF (tgt := 79) dX11_valueAt_72 (by decide) (fun c7 => ?_) (fun c7 => ?_)
  · replace h := ite_t c7 h
    refine k_aload_n hF dX11_valueAt_79 rfl ?_
    refine k_iload_n hF dX11_valueAt_80 rfl ?_
    refine k_iload_n hF dX11_valueAt_81 rfl ?_
    obtain ⟨v8, hv8, h⟩ := bind_some h
    refine k_callV hF hA (as := [.int a1, .int a2]) (ct_X11_valueThen hbs hv8) mv_X11_229 shR_0 rfl rfl rfl ⟨Nat.le_of_ble_eq_true rfl, Nat.le_of_ble_eq_true rfl⟩ (Nat.le_of_ble_eq_true rfl) dX11_valueAt_82 ?_
    refine k_st (st2 := [.int v8]) rfl ?_
    cases h
    exact hr _ _ rfl dX11_valueAt_85
  · replace h := ite_f c7 h
    refine k_iconst hF dX11_valueAt_75 ci_0 ?_
    refine k_goto hF dX11_valueAt_76 (tgt := 85) (by decide) ?_
    cases h
    exact hr _ _ rfl dX11_valueAt_85
set_option maxHeartbeats 4000000 in
set_option maxRecDepth 100000 in
theorem wX11_valueAt_j48 {p : Program} {l : Launch} {e : Env} {s : State} {m : MethodId} {args : Array Value} {below : List Frame} {meth : Method} {c : Code} {Q : State → Prop} {A : Nat → Prop} {D : DD} {base B : Nat} (hF : KF D base cX11_valueAt RX11 A 5 0 0 p l e ({ frames := 1, cells := 0, slots := 0, locals := 24 } : Room) s m args below meth c) (hA : ∀ q, RA B shpR q → A q) (hbs : base ≤ B) {σ : St} {a1 : Int32} {a2 : Int32} {b3 : Int32} {t0 : Int32} {z : (Int32 × St)} (h : fX11_valueAt_j48 σ a1 a2 b3 t0 = some z) (hr : ∀ (pc : Nat) (L : List (Option Value)), narrow .int (.int z.1) = .int z.1 → decode cX11_valueAt pc = .ok (.ireturn, 1) → KJ (Rep D B shpR) A 5 0 0 Q p l e ({ frames := 1, cells := 0, slots := 0, locals := 24 } : Room) s m args below meth c 0 0 pc L [.int z.1] z.2) : KJ (Rep D B shpR) A 5 0 0 Q p l e ({ frames := 1, cells := 0, slots := 0, locals := 24 } : Room) s m args below meth c 0 0 48 [some (.ref (B + 0)), some (.int a1), some (.int a2), some (.int b3), none] [.int t0] σ := by
  unfold fX11_valueAt_j48 at h
  refine k_istore hF (L' := [some (.ref (B + 0)), some (.int a1), some (.int a2), some (.int b3), some (.int t0)]) dX11_valueAt_48 (by decide) rfl ?_
  refine k_aload_n hF dX11_valueAt_50 rfl ?_
  refine k_iload_n hF dX11_valueAt_51 rfl ?_
  refine k_if_ne hF (tgt := 59) dX11_valueAt_52 (by decide) (fun c4 => ?_) (fun c4 => ?_)
  · replace h := ite_f c4 h
    refine k_iload hF dX11_valueAt_59 rfl ?_
    refine k_if_eq hF (tgt := 68) dX11_valueAt_61 (by decide) (fun c5 => ?_) (fun c5 => ?_)
    · replace h := ite_t c5 h
      refine k_iconst hF dX11_valueAt_68 ci_1 ?_
      refine k_kill 3 rfl ?_
      refine k_kill 4 rfl ?_
      exact wX11_valueAt_j69 hF hA hbs h hr
    · replace h := ite_f c5 h
      refine k_iconst hF dX11_valueAt_64 ci_0 ?_
      refine k_goto hF dX11_valueAt_65 (tgt := 69) (by decide) ?_
      refine k_kill 3 rfl ?_
      refine k_kill 4 rfl ?_
      exact wX11_valueAt_j69 hF hA hbs h hr
  · replace h := ite_t c4 h
    refine k_iconst hF dX11_valueAt_55 ci_2 ?_
    refine k_goto hF dX11_valueAt_56 (tgt := 69) (by decide) ?_
    refine k_kill 3 rfl ?_
    refine k_kill 4 rfl ?_
    exact wX11_valueAt_j69 hF hA hbs h hr
set_option maxHeartbeats 4000000 in
set_option maxRecDepth 100000 in
theorem wX11_valueAt_j47 {p : Program} {l : Launch} {e : Env} {s : State} {m : MethodId} {args : Array Value} {below : List Frame} {meth : Method} {c : Code} {Q : State → Prop} {A : Nat → Prop} {D : DD} {base B : Nat} (hF : KF D base cX11_valueAt RX11 A 5 0 0 p l e ({ frames := 1, cells := 0, slots := 0, locals := 24 } : Room) s m args below meth c) (hA : ∀ q, RA B shpR q → A q) (hbs : base ≤ B) {σ : St} {a1 : Int32} {a2 : Int32} {b3 : Int32} {z : (Int32 × St)} (h : fX11_valueAt_j47 σ a1 a2 b3 = some z) (hr : ∀ (pc : Nat) (L : List (Option Value)), narrow .int (.int z.1) = .int z.1 → decode cX11_valueAt pc = .ok (.ireturn, 1) → KJ (Rep D B shpR) A 5 0 0 Q p l e ({ frames := 1, cells := 0, slots := 0, locals := 24 } : Room) s m args below meth c 0 0 pc L [.int z.1] z.2) : KJ (Rep D B shpR) A 5 0 0 Q p l e ({ frames := 1, cells := 0, slots := 0, locals := 24 } : Room) s m args below meth c 0 0 47 [some (.ref (B + 0)), some (.int a1), some (.int a2), some (.int b3), none] [] σ := by
  unfold fX11_valueAt_j47 at h
  refine k_iconst hF dX11_valueAt_47 ci_0 ?_
  exact wX11_valueAt_j48 hF hA hbs h hr
set_option maxHeartbeats 4000000 in
set_option maxRecDepth 100000 in
theorem wX11_valueAt {p : Program} {l : Launch} {e : Env} {s : State} {m : MethodId} {args : Array Value} {below : List Frame} {meth : Method} {c : Code} {Q : State → Prop} {A : Nat → Prop} {D : DD} {base B : Nat} (hF : KF D base cX11_valueAt RX11 A 5 0 0 p l e ({ frames := 1, cells := 0, slots := 0, locals := 24 } : Room) s m args below meth c) (hA : ∀ q, RA B shpR q → A q) (hbs : base ≤ B) {σ : St} {a1 : Int32} {a2 : Int32} {z : (Int32 × St)} (h : fX11_valueAt σ a1 a2 = some z) (hr : ∀ (pc : Nat) (L : List (Option Value)), narrow .int (.int z.1) = .int z.1 → decode cX11_valueAt pc = .ok (.ireturn, 1) → KJ (Rep D B shpR) A 5 0 0 Q p l e ({ frames := 1, cells := 0, slots := 0, locals := 24 } : Room) s m args below meth c 0 0 pc L [.int z.1] z.2) : KJ (Rep D B shpR) A 5 0 0 Q p l e ({ frames := 1, cells := 0, slots := 0, locals := 24 } : Room) s m args below meth c 0 0 0 [some (.ref (B + 0)), some (.int a1), some (.int a2), none, none] [] σ := by
  unfold fX11_valueAt at h
  refine k_iload_n hF dX11_valueAt_0 rfl ?_
  refine k_iconst hF dX11_valueAt_1 ci_0 ?_
  refine k_aload_n hF dX11_valueAt_2 rfl ?_
  refine k_get hF (v := .int (gi σ 0 0)) shR_0 fl_X11_160_X11 dX11_valueAt_3 rfl ?_
  obtain ⟨v1, hv1, h⟩ := bind_some h
  refine k_callS hF hA (as := [.int a2, .int (0 : Int32), .int (gi σ 0 0)]) (ct_X11_isIn hbs hv1) ms_X11_146 rfl rfl ⟨Nat.le_of_ble_eq_true rfl, Nat.le_of_ble_eq_true rfl⟩ (Nat.le_of_ble_eq_true rfl) dX11_valueAt_6 ?_
  refine k_st (st2 := [.int v1]) rfl ?_
  refine k_istore_n hF (L' := [some (.ref (B + 0)), some (.int a1), some (.int a2), some (.int v1), none]) dX11_valueAt_9 (by decide) rfl ?_
  refine k_iload_n hF dX11_valueAt_10 rfl ?_
  refine k_iconst hF dX11_valueAt_11 ci_0 ?_
  refine k_aload_n hF dX11_valueAt_12 rfl ?_
  refine k_get hF (v := .int (gi σ 0 1)) shR_0 fl_X11_150_X11 dX11_valueAt_13 rfl ?_
  refine k_iconst hF dX11_valueAt_16 ci_1 ?_
  refine k_isub hF dX11_valueAt_17 ?_
  obtain ⟨v2, hv2, h⟩ := bind_some h
  refine k_callS hF hA (as := [.int a1, .int (0 : Int32), .int ((gi σ 0 1) - (1 : Int32))]) (ct_X11_isIn hbs hv2) ms_X11_146 rfl rfl ⟨Nat.le_of_ble_eq_true rfl, Nat.le_of_ble_eq_true rfl⟩ (Nat.le_of_ble_eq_true rfl) dX11_valueAt_18 ?_
  refine k_st (st2 := [.int v2]) rfl ?_
  refine k_if_eq hF (tgt := 47) dX11_valueAt_21 (by decide) (fun c3 => ?_) (fun c3 => ?_)
  · replace h := ite_t c3 h
    exact wX11_valueAt_j47 hF hA hbs h hr
  · replace h := ite_f c3 h
    refine k_aload_n hF dX11_valueAt_24 rfl ?_
    refine k_get hF (v := .ref (B + 4)) shR_0 fl_X11_19_X11 dX11_valueAt_25 rfl ?_
    refine k_iload_n hF dX11_valueAt_28 rfl ?_
    obtain ⟨g9, h⟩ := gd_some h
    refine k_iald hF shR_4 dX11_valueAt_29 g9 ?_
    refine k_aload_n hF dX11_valueAt_30 rfl ?_
    refine k_get hF (v := .ref (B + 5)) shR_0 fl_X11_22_X11 dX11_valueAt_31 rfl ?_
    refine k_iload_n hF dX11_valueAt_34 rfl ?_
    obtain ⟨g10, h⟩ := gd_some h
    refine k_iald hF shR_5 dX11_valueAt_35 g10 ?_
    refine k_iload_n hF dX11_valueAt_36 rfl ?_
    obtain ⟨v11, hv11, h⟩ := bind_some h
    refine k_callS hF hA (as := [.int (gi σ 4 a1.toNatClampNeg), .int (gi σ 5 a1.toNatClampNeg), .int a2]) (ct_X11_wasThere hbs hv11) ms_X11_220 rfl rfl ⟨Nat.le_of_ble_eq_true rfl, Nat.le_of_ble_eq_true rfl⟩ (Nat.le_of_ble_eq_true rfl) dX11_valueAt_37 ?_
    refine k_st (st2 := [.int v11]) rfl ?_
    refine k_if_eq hF (tgt := 47) dX11_valueAt_40 (by decide) (fun c12 => ?_) (fun c12 => ?_)
    · replace h := ite_t c12 h
      exact wX11_valueAt_j47 hF hA hbs h hr
    · replace h := ite_f c12 h
      refine k_iconst hF dX11_valueAt_43 ci_1 ?_
      refine k_goto hF dX11_valueAt_44 (tgt := 48) (by decide) ?_
      exact wX11_valueAt_j48 hF hA hbs h hr
theorem ct_X11_valueAt {l : Launch} {D : DD} {base B : Nat} (hbs : base ≤ B) {σ : St} {a1 : Int32} {a2 : Int32} {r : (Int32 × St)} (h : fX11_valueAt σ a1 a2 = some r) : MetR l D B shpR base yX11_valueAt cX11_valueAt 5 (some .int) 1 24 [.ref (B + 0), .int a1, .int a2] σ (some (.int r.1)) r.2 :=
  MetR.of (by decide +kernel) (fun v hv => by simp only [List.mem_cons, List.not_mem_nil, or_false] at hv; rcases hv with rfl | rfl | rfl <;> rfl) (Nat.le_of_ble_eq_true rfl) hbs (fun p e s m args below meth c hF hr => wX11_valueAt hF (fun q hq => hq) hbs h (fun pc L hn hd => k_iret hF hr hn hd))
set_option maxHeartbeats 4000000 in
set_option maxRecDepth 100000 in
theorem wX11_sizeAt_j64 {p : Program} {l : Launch} {e : Env} {s : State} {m : MethodId} {args : Array Value} {below : List Frame} {meth : Method} {c : Code} {Q : State → Prop} {A : Nat → Prop} {D : DD} {base B : Nat} (hF : KF D base cX11_sizeAt RX11 A 4 0 0 p l e ({ frames := 1, cells := 0, slots := 0, locals := 22 } : Room) s m args below meth c) (hA : ∀ q, RA B shpR q → A q) (hbs : base ≤ B) {σ : St} {a1 : Int32} {b3 : Int32} {t0 : Int32} {t1 : Int32} {z : ((Int32 × Int32) ⊕ (Int32 × Int32))} (h : fX11_sizeAt_j64 σ a1 b3 t0 t1 = some z) (hc : ∀ x, z = .inl x → KJ (Rep D B shpR) A 4 0 0 Q p l e ({ frames := 1, cells := 0, slots := 0, locals := 22 } : Room) s m args below meth c 0 0 30 [some (.ref (B + 0)), some (.int a1), some (.int x.1), some (.int x.2)] [] σ) (he : ∀ w, z = .inr w → KJ (Rep D B shpR) A 4 0 0 Q p l e ({ frames := 1, cells := 0, slots := 0, locals := 22 } : Room) s m args below meth c 0 0 72 [some (.ref (B + 0)), some (.int a1), some (.int w.1), some (.int w.2)] [] σ) : KJ (Rep D B shpR) A 4 0 0 Q p l e ({ frames := 1, cells := 0, slots := 0, locals := 22 } : Room) s m args below meth c 0 0 64 [some (.ref (B + 0)), some (.int a1), none, some (.int b3)] [.int t0, .int t1] σ := by
  unfold fX11_sizeAt_j64 at h
  refine k_iadd hF dX11_sizeAt_64 ?_
  refine k_istore_n hF (L' := [some (.ref (B + 0)), some (.int a1), some (.int (t1 + t0)), some (.int b3)]) dX11_sizeAt_65 (by decide) rfl ?_
  refine k_iinc hF (v := (b3 + (1 : Int32))) (L' := [some (.ref (B + 0)), some (.int a1), some (.int (t1 + t0)), some (.int (b3 + (1 : Int32)))]) dX11_sizeAt_66 rfl (by first | rfl | (congr 1)) (by decide) rfl ?_
  refine k_goto hF dX11_sizeAt_69 (tgt := 30) (by decide) ?_
  exact hc _ (Option.some.inj h).symm
set_option maxHeartbeats 4000000 in
set_option maxRecDepth 100000 in
theorem wX11_sizeAt_l30 {p : Program} {l : Launch} {e : Env} {s : State} {m : MethodId} {args : Array Value} {below : List Frame} {meth : Method} {c : Code} {Q : State → Prop} {A : Nat → Prop} {D : DD} {base B : Nat} (hF : KF D base cX11_sizeAt RX11 A 4 0 0 p l e ({ frames := 1, cells := 0, slots := 0, locals := 22 } : Room) s m args below meth c) (hA : ∀ q, RA B shpR q → A q) (hbs : base ≤ B) {σ : St} {a1 : Int32} {x : (Int32 × Int32)} {z : ((Int32 × Int32) ⊕ (Int32 × Int32))} (h : fX11_sizeAt_l30 σ a1 x = some z) (hc : ∀ x, z = .inl x → KJ (Rep D B shpR) A 4 0 0 Q p l e ({ frames := 1, cells := 0, slots := 0, locals := 22 } : Room) s m args below meth c 0 0 30 [some (.ref (B + 0)), some (.int a1), some (.int x.1), some (.int x.2)] [] σ) (he : ∀ w, z = .inr w → KJ (Rep D B shpR) A 4 0 0 Q p l e ({ frames := 1, cells := 0, slots := 0, locals := 22 } : Room) s m args below meth c 0 0 72 [some (.ref (B + 0)), some (.int a1), some (.int w.1), some (.int w.2)] [] σ) : KJ (Rep D B shpR) A 4 0 0 Q p l e ({ frames := 1, cells := 0, slots := 0, locals := 22 } : Room) s m args below meth c 0 0 30 [some (.ref (B + 0)), some (.int a1), some (.int x.1), some (.int x.2)] [] σ := by
  unfold fX11_sizeAt_l30 at h
  refine k_iload_n hF dX11_sizeAt_30 rfl ?_
  refine k_aload_n hF dX11_sizeAt_31 rfl ?_
  refine k_get hF (v := .int (gi σ 0 1)) shR_0 fl_X11_150_X11 dX11_sizeAt_32 rfl ?_
  refine k_icmp_ge hF (tgt := 72) dX11_sizeAt_35 (by decide) (fun c5 => ?_) (fun c5 => ?_)
  · replace h := ite_t c5 h
    exact he _ (Option.some.inj h).symm
  · replace h := ite_f c5 h
    refine k_iload_n hF dX11_sizeAt_38 rfl ?_
    refine k_aload_n hF dX11_sizeAt_39 rfl ?_
    refine k_get hF (v := .ref (B + 4)) shR_0 fl_X11_19_X11 dX11_sizeAt_40 rfl ?_
    refine k_iload_n hF dX11_sizeAt_43 rfl ?_
    obtain ⟨g6, h⟩ := gd_some h
    refine k_iald hF shR_4 dX11_sizeAt_44 g6 ?_
    refine k_aload_n hF dX11_sizeAt_45 rfl ?_
    refine k_get hF (v := .ref (B + 5)) shR_0 fl_X11_22_X11 dX11_sizeAt_46 rfl ?_
    refine k_iload_n hF dX11_sizeAt_49 rfl ?_
    obtain ⟨g7, h⟩ := gd_some h
    refine k_iald hF shR_5 dX11_sizeAt_50 g7 ?_
    refine k_iload_n hF dX11_sizeAt_51 rfl ?_
    obtain ⟨v8, hv8, h⟩ := bind_some h
    refine k_callS hF hA (as := [.int (gi σ 4 x.2.toNatClampNeg), .int (gi σ 5 x.2.toNatClampNeg), .int a1]) (ct_X11_wasThere hbs hv8) ms_X11_220 rfl rfl ⟨Nat.le_of_ble_eq_true rfl, Nat.le_of_ble_eq_true rfl⟩ (Nat.le_of_ble_eq_true rfl) dX11_sizeAt_52 ?_
    refine k_st (st2 := [.int v8, .int x.1]) rfl ?_
    refine k_if_eq hF (tgt := 63) dX11_sizeAt_55 (by decide) (fun c9 => ?_) (fun c9 => ?_)
    · replace h := ite_t c9 h
      refine k_iconst hF dX11_sizeAt_63 ci_0 ?_
      refine k_kill 2 rfl ?_
      exact wX11_sizeAt_j64 hF hA hbs h hc he
    · replace h := ite_f c9 h
      refine k_bipush hF (v := (100 : Int32)) dX11_sizeAt_58 (by decide) ?_
      refine k_goto hF dX11_sizeAt_60 (tgt := 64) (by decide) ?_
      refine k_kill 2 rfl ?_
      exact wX11_sizeAt_j64 hF hA hbs h hc he
set_option maxHeartbeats 4000000 in
set_option maxRecDepth 100000 in
theorem wX11_sizeAt_j107 {p : Program} {l : Launch} {e : Env} {s : State} {m : MethodId} {args : Array Value} {below : List Frame} {meth : Method} {c : Code} {Q : State → Prop} {A : Nat → Prop} {D : DD} {base B : Nat} (hF : KF D base cX11_sizeAt RX11 A 4 0 0 p l e ({ frames := 1, cells := 0, slots := 0, locals := 22 } : Room) s m args below meth c) (hA : ∀ q, RA B shpR q → A q) (hbs : base ≤ B) {σ : St} {a1 : Int32} {b3 : Int32} {t0 : Int32} {t1 : Int32} {z : ((Int32 × Int32) ⊕ (Int32 × Int32))} (h : fX11_sizeAt_j107 σ a1 b3 t0 t1 = some z) (hc : ∀ x, z = .inl x → KJ (Rep D B shpR) A 4 0 0 Q p l e ({ frames := 1, cells := 0, slots := 0, locals := 22 } : Room) s m args below meth c 0 0 74 [some (.ref (B + 0)), some (.int a1), some (.int x.1), some (.int x.2)] [] σ) (he : ∀ w, z = .inr w → KJ (Rep D B shpR) A 4 0 0 Q p l e ({ frames := 1, cells := 0, slots := 0, locals := 22 } : Room) s m args below meth c 0 0 115 [some (.ref (B + 0)), some (.int a1), some (.int w.1), some (.int w.2)] [] σ) : KJ (Rep D B shpR) A 4 0 0 Q p l e ({ frames := 1, cells := 0, slots := 0, locals := 22 } : Room) s m args below meth c 0 0 107 [some (.ref (B + 0)), some (.int a1), none, some (.int b3)] [.int t0, .int t1] σ := by
  unfold fX11_sizeAt_j107 at h
  refine k_iadd hF dX11_sizeAt_107 ?_
  refine k_istore_n hF (L' := [some (.ref (B + 0)), some (.int a1), some (.int (t1 + t0)), some (.int b3)]) dX11_sizeAt_108 (by decide) rfl ?_
  refine k_iinc hF (v := (b3 + (1 : Int32))) (L' := [some (.ref (B + 0)), some (.int a1), some (.int (t1 + t0)), some (.int (b3 + (1 : Int32)))]) dX11_sizeAt_109 rfl (by first | rfl | (congr 1)) (by decide) rfl ?_
  refine k_goto hF dX11_sizeAt_112 (tgt := 74) (by decide) ?_
  exact hc _ (Option.some.inj h).symm
set_option maxHeartbeats 4000000 in
set_option maxRecDepth 100000 in
theorem wX11_sizeAt_l74 {p : Program} {l : Launch} {e : Env} {s : State} {m : MethodId} {args : Array Value} {below : List Frame} {meth : Method} {c : Code} {Q : State → Prop} {A : Nat → Prop} {D : DD} {base B : Nat} (hF : KF D base cX11_sizeAt RX11 A 4 0 0 p l e ({ frames := 1, cells := 0, slots := 0, locals := 22 } : Room) s m args below meth c) (hA : ∀ q, RA B shpR q → A q) (hbs : base ≤ B) {σ : St} {a1 : Int32} {x : (Int32 × Int32)} {z : ((Int32 × Int32) ⊕ (Int32 × Int32))} (h : fX11_sizeAt_l74 σ a1 x = some z) (hc : ∀ x, z = .inl x → KJ (Rep D B shpR) A 4 0 0 Q p l e ({ frames := 1, cells := 0, slots := 0, locals := 22 } : Room) s m args below meth c 0 0 74 [some (.ref (B + 0)), some (.int a1), some (.int x.1), some (.int x.2)] [] σ) (he : ∀ w, z = .inr w → KJ (Rep D B shpR) A 4 0 0 Q p l e ({ frames := 1, cells := 0, slots := 0, locals := 22 } : Room) s m args below meth c 0 0 115 [some (.ref (B + 0)), some (.int a1), some (.int w.1), some (.int w.2)] [] σ) : KJ (Rep D B shpR) A 4 0 0 Q p l e ({ frames := 1, cells := 0, slots := 0, locals := 22 } : Room) s m args below meth c 0 0 74 [some (.ref (B + 0)), some (.int a1), some (.int x.1), some (.int x.2)] [] σ := by
  unfold fX11_sizeAt_l74 at h
  refine k_iload_n hF dX11_sizeAt_74 rfl ?_
  refine k_aload_n hF dX11_sizeAt_75 rfl ?_
  refine k_get hF (v := .int (gi σ 0 15)) shR_0 fl_X11_154_X11 dX11_sizeAt_76 rfl ?_
  refine k_icmp_ge hF (tgt := 115) dX11_sizeAt_79 (by decide) (fun c11 => ?_) (fun c11 => ?_)
  · replace h := ite_t c11 h
    exact he _ (Option.some.inj h).symm
  · replace h := ite_f c11 h
    refine k_iload_n hF dX11_sizeAt_82 rfl ?_
    refine k_aload_n hF dX11_sizeAt_83 rfl ?_
    refine k_get hF (v := .ref (B + 16)) shR_0 fl_X11_57_X11 dX11_sizeAt_84 rfl ?_
    refine k_iload_n hF dX11_sizeAt_87 rfl ?_
    obtain ⟨g12, h⟩ := gd_some h
    refine k_iald hF shR_16 dX11_sizeAt_88 g12 ?_
    refine k_aload_n hF dX11_sizeAt_89 rfl ?_
    refine k_get hF (v := .ref (B + 17)) shR_0 fl_X11_60_X11 dX11_sizeAt_90 rfl ?_
    refine k_iload_n hF dX11_sizeAt_93 rfl ?_
    obtain ⟨g13, h⟩ := gd_some h
    refine k_iald hF shR_17 dX11_sizeAt_94 g13 ?_
    refine k_iload_n hF dX11_sizeAt_95 rfl ?_
    obtain ⟨v14, hv14, h⟩ := bind_some h
    refine k_callS hF hA (as := [.int (gi σ 16 x.2.toNatClampNeg), .int (gi σ 17 x.2.toNatClampNeg), .int a1]) (ct_X11_wasThere hbs hv14) ms_X11_220 rfl rfl ⟨Nat.le_of_ble_eq_true rfl, Nat.le_of_ble_eq_true rfl⟩ (Nat.le_of_ble_eq_true rfl) dX11_sizeAt_96 ?_
    refine k_st (st2 := [.int v14, .int x.1]) rfl ?_
    refine k_if_eq hF (tgt := 106) dX11_sizeAt_99 (by decide) (fun c15 => ?_) (fun c15 => ?_)
    · replace h := ite_t c15 h
      refine k_iconst hF dX11_sizeAt_106 ci_0 ?_
      refine k_kill 2 rfl ?_
      exact wX11_sizeAt_j107 hF hA hbs h hc he
    · replace h := ite_f c15 h
      refine k_iconst hF dX11_sizeAt_102 ci_1 ?_
      refine k_goto hF dX11_sizeAt_103 (tgt := 107) (by decide) ?_
      refine k_kill 2 rfl ?_
      exact wX11_sizeAt_j107 hF hA hbs h hc he
set_option maxHeartbeats 4000000 in
set_option maxRecDepth 100000 in
theorem wX11_sizeAt_j18 {p : Program} {l : Launch} {e : Env} {s : State} {m : MethodId} {args : Array Value} {below : List Frame} {meth : Method} {c : Code} {Q : State → Prop} {A : Nat → Prop} {D : DD} {base B : Nat} (hF : KF D base cX11_sizeAt RX11 A 4 0 0 p l e ({ frames := 1, cells := 0, slots := 0, locals := 22 } : Room) s m args below meth c) (hA : ∀ q, RA B shpR q → A q) (hbs : base ≤ B) {σ : St} {a1 : Int32} {t0 : Int32} {z : (Int32 × St)} (h : fX11_sizeAt_j18 σ a1 t0 = some z) (hr : ∀ (pc : Nat) (L : List (Option Value)), narrow .int (.int z.1) = .int z.1 → decode cX11_sizeAt pc = .ok (.ireturn, 1) → KJ (Rep D B shpR) A 4 0 0 Q p l e ({ frames := 1, cells := 0, slots := 0, locals := 22 } : Room) s m args below meth c 0 0 pc L [.int z.1] z.2) : KJ (Rep D B shpR) A 4 0 0 Q p l e ({ frames := 1, cells := 0, slots := 0, locals := 22 } : Room) s m args below meth c 0 0 18 [some (.ref (B + 0)), some (.int a1), none, none] [.int t0, .ref (B + 0)] σ := by
  unfold fX11_sizeAt_j18 at h
  obtain ⟨v3, hv3, h⟩ := bind_some h
  refine k_callV hF hA (as := [.int t0]) (ct_X11_fails hbs hv3) mv_X11_181 shR_0 rfl rfl rfl ⟨Nat.le_of_ble_eq_true rfl, Nat.le_of_ble_eq_true rfl⟩ (Nat.le_of_ble_eq_true rfl) dX11_sizeAt_18 ?_
  refine k_st (st2 := [.int v3.1]) rfl ?_
  refine k_if_eq hF (tgt := 26) dX11_sizeAt_21 (by decide) (fun c4 => ?_) (fun c4 => ?_)
  · replace h := ite_t c4 h
    refine k_iconst hF dX11_sizeAt_26 ci_0 ?_
    refine k_istore_n hF (L' := [some (.ref (B + 0)), some (.int a1), some (.int (0 : Int32)), none]) dX11_sizeAt_27 (by decide) rfl ?_
    refine k_iconst hF dX11_sizeAt_28 ci_0 ?_
    refine k_istore_n hF (L' := [some (.ref (B + 0)), some (.int a1), some (.int (0 : Int32)), some (.int (0 : Int32))]) dX11_sizeAt_29 (by decide) rfl ?_
    obtain ⟨x10, hx10, h⟩ := bind_some h
    refine k_loop (P := fun xq => KJ (Rep D B shpR) A 4 0 0 Q p l e ({ frames := 1, cells := 0, slots := 0, locals := 22 } : Room) s m args below meth c 0 0 30 [some (.ref (B + 0)), some (.int a1), some (.int xq.1), some (.int xq.2)] [] v3.2) (C := fun xq => KJ (Rep D B shpR) A 4 0 0 Q p l e ({ frames := 1, cells := 0, slots := 0, locals := 22 } : Room) s m args below meth c 0 0 72 [some (.ref (B + 0)), some (.int a1), some (.int xq.1), some (.int xq.2)] [] v3.2) (fun x z hz hc he => wX11_sizeAt_l30 hF hA hbs hz hc he) hx10 ?_
    show KJ (Rep D B shpR) A 4 0 0 Q p l e ({ frames := 1, cells := 0, slots := 0, locals := 22 } : Room) s m args below meth c 0 0 72 [some (.ref (B + 0)), some (.int a1), some (.int x10.1), some (.int x10.2)] [] v3.2
    refine k_iconst hF dX11_sizeAt_72 ci_0 ?_
    refine k_istore_n hF (L' := [some (.ref (B + 0)), some (.int a1), some (.int x10.1), some (.int (0 : Int32))]) dX11_sizeAt_73 (by decide) rfl ?_
    obtain ⟨x16, hx16, h⟩ := bind_some h
    refine k_loop (P := fun xq => KJ (Rep D B shpR) A 4 0 0 Q p l e ({ frames := 1, cells := 0, slots := 0, locals := 22 } : Room) s m args below meth c 0 0 74 [some (.ref (B + 0)), some (.int a1), some (.int xq.1), some (.int xq.2)] [] v3.2) (C := fun xq => KJ (Rep D B shpR) A 4 0 0 Q p l e ({ frames := 1, cells := 0, slots := 0, locals := 22 } : Room) s m args below meth c 0 0 115 [some (.ref (B + 0)), some (.int a1), some (.int xq.1), some (.int xq.2)] [] v3.2) (fun x z hz hc he => wX11_sizeAt_l74 hF hA hbs hz hc he) hx16 ?_
    show KJ (Rep D B shpR) A 4 0 0 Q p l e ({ frames := 1, cells := 0, slots := 0, locals := 22 } : Room) s m args below meth c 0 0 115 [some (.ref (B + 0)), some (.int a1), some (.int x16.1), some (.int x16.2)] [] v3.2
    refine k_iload_n hF dX11_sizeAt_115 rfl ?_
    cases h
    exact hr _ _ rfl dX11_sizeAt_116
  · replace h := ite_f c4 h
    refine k_iconst hF dX11_sizeAt_24 ci_0 ?_
    cases h
    exact hr _ _ rfl dX11_sizeAt_25
set_option maxHeartbeats 4000000 in
set_option maxRecDepth 100000 in
theorem wX11_sizeAt {p : Program} {l : Launch} {e : Env} {s : State} {m : MethodId} {args : Array Value} {below : List Frame} {meth : Method} {c : Code} {Q : State → Prop} {A : Nat → Prop} {D : DD} {base B : Nat} (hF : KF D base cX11_sizeAt RX11 A 4 0 0 p l e ({ frames := 1, cells := 0, slots := 0, locals := 22 } : Room) s m args below meth c) (hA : ∀ q, RA B shpR q → A q) (hbs : base ≤ B) {σ : St} {a1 : Int32} {z : (Int32 × St)} (h : fX11_sizeAt σ a1 = some z) (hr : ∀ (pc : Nat) (L : List (Option Value)), narrow .int (.int z.1) = .int z.1 → decode cX11_sizeAt pc = .ok (.ireturn, 1) → KJ (Rep D B shpR) A 4 0 0 Q p l e ({ frames := 1, cells := 0, slots := 0, locals := 22 } : Room) s m args below meth c 0 0 pc L [.int z.1] z.2) : KJ (Rep D B shpR) A 4 0 0 Q p l e ({ frames := 1, cells := 0, slots := 0, locals := 22 } : Room) s m args below meth c 0 0 0 [some (.ref (B + 0)), some (.int a1), none, none] [] σ := by
  unfold fX11_sizeAt at h
  refine k_aload_n hF dX11_sizeAt_0 rfl ?_
  refine k_iload_n hF dX11_sizeAt_1 rfl ?_
  refine k_iconst hF dX11_sizeAt_2 ci_0 ?_
  refine k_aload_n hF dX11_sizeAt_3 rfl ?_
  refine k_get hF (v := .int (gi σ 0 0)) shR_0 fl_X11_160_X11 dX11_sizeAt_4 rfl ?_
  obtain ⟨v1, hv1, h⟩ := bind_some h
  refine k_callS hF hA (as := [.int a1, .int (0 : Int32), .int (gi σ 0 0)]) (ct_X11_isIn hbs hv1) ms_X11_146 rfl rfl ⟨Nat.le_of_ble_eq_true rfl, Nat.le_of_ble_eq_true rfl⟩ (Nat.le_of_ble_eq_true rfl) dX11_sizeAt_7 ?_
  refine k_st (st2 := [.int v1, .ref (B + 0)]) rfl ?_
  refine k_if_eq hF (tgt := 17) dX11_sizeAt_10 (by decide) (fun c2 => ?_) (fun c2 => ?_)
  · replace h := ite_t c2 h
    refine k_iconst hF dX11_sizeAt_17 ci_1 ?_
    exact wX11_sizeAt_j18 hF hA hbs h hr
  · replace h := ite_f c2 h
    refine k_iconst hF dX11_sizeAt_13 ci_0 ?_
    refine k_goto hF dX11_sizeAt_14 (tgt := 18) (by decide) ?_
    exact wX11_sizeAt_j18 hF hA hbs h hr
theorem ct_X11_sizeAt {l : Launch} {D : DD} {base B : Nat} (hbs : base ≤ B) {σ : St} {a1 : Int32} {r : (Int32 × St)} (h : fX11_sizeAt σ a1 = some r) : MetR l D B shpR base yX11_sizeAt cX11_sizeAt 4 (some .int) 1 22 [.ref (B + 0), .int a1] σ (some (.int r.1)) r.2 :=
  MetR.of (by decide +kernel) (fun v hv => by simp only [List.mem_cons, List.not_mem_nil, or_false] at hv; rcases hv with rfl | rfl <;> rfl) (Nat.le_of_ble_eq_true rfl) hbs (fun p e s m args below meth c hF hr => wX11_sizeAt hF (fun q hq => hq) hbs h (fun pc L hn hd => k_iret hF hr hn hd))
set_option maxHeartbeats 4000000 in
set_option maxRecDepth 100000 in
theorem wX11_joined_j35 {p : Program} {l : Launch} {e : Env} {s : State} {m : MethodId} {args : Array Value} {below : List Frame} {meth : Method} {c : Code} {Q : State → Prop} {A : Nat → Prop} {D : DD} {base B : Nat} (hF : KF D base cX11_joined RX11 A 5 0 0 p l e ({ frames := 1, cells := 0, slots := 0, locals := 21 } : Room) s m args below meth c) (hA : ∀ q, RA B shpR q → A q) (hbs : base ≤ B) {σ : St} {a1 : Int32} {a2 : Int32} {b4 : Int32} {t0 : Int32} {t1 : Int32} {z : ((Int32 × Int32) ⊕ (Int32 × Int32))} (h : fX11_joined_j35 σ a1 a2 b4 t0 t1 = some z) (hc : ∀ x, z = .inl x → KJ (Rep D B shpR) A 5 0 0 Q p l e ({ frames := 1, cells := 0, slots := 0, locals := 21 } : Room) s m args below meth c 0 0 5 [some (.ref (B + 0)), some (.int a1), some (.int a2), some (.int x.1), some (.int x.2)] [] σ) (he : ∀ w, z = .inr w → KJ (Rep D B shpR) A 5 0 0 Q p l e ({ frames := 1, cells := 0, slots := 0, locals := 21 } : Room) s m args below meth c 0 0 43 [some (.ref (B + 0)), some (.int a1), some (.int a2), some (.int w.1), some (.int w.2)] [] σ) : KJ (Rep D B shpR) A 5 0 0 Q p l e ({ frames := 1, cells := 0, slots := 0, locals := 21 } : Room) s m args below meth c 0 0 35 [some (.ref (B + 0)), some (.int a1), some (.int a2), none, some (.int b4)] [.int t0, .int t1] σ := by
  unfold fX11_joined_j35 at h
  refine k_ior hF dX11_joined_35 ?_
  refine k_istore_n hF (L' := [some (.ref (B + 0)), some (.int a1), some (.int a2), some (.int (t1 ||| t0)), some (.int b4)]) dX11_joined_36 (by decide) rfl ?_
  refine k_iinc hF (v := (b4 + (1 : Int32))) (L' := [some (.ref (B + 0)), some (.int a1), some (.int a2), some (.int (t1 ||| t0)), some (.int (b4 + (1 : Int32)))]) dX11_joined_37 rfl (by first | rfl | (congr 1)) (by decide) rfl ?_
  refine k_goto hF dX11_joined_40 (tgt := 5) (by decide) ?_
  exact hc _ (Option.some.inj h).symm
set_option maxHeartbeats 4000000 in
set_option maxRecDepth 100000 in
theorem wX11_joined_l5 {p : Program} {l : Launch} {e : Env} {s : State} {m : MethodId} {args : Array Value} {below : List Frame} {meth : Method} {c : Code} {Q : State → Prop} {A : Nat → Prop} {D : DD} {base B : Nat} (hF : KF D base cX11_joined RX11 A 5 0 0 p l e ({ frames := 1, cells := 0, slots := 0, locals := 21 } : Room) s m args below meth c) (hA : ∀ q, RA B shpR q → A q) (hbs : base ≤ B) {σ : St} {a1 : Int32} {a2 : Int32} {x : (Int32 × Int32)} {z : ((Int32 × Int32) ⊕ (Int32 × Int32))} (h : fX11_joined_l5 σ a1 a2 x = some z) (hc : ∀ x, z = .inl x → KJ (Rep D B shpR) A 5 0 0 Q p l e ({ frames := 1, cells := 0, slots := 0, locals := 21 } : Room) s m args below meth c 0 0 5 [some (.ref (B + 0)), some (.int a1), some (.int a2), some (.int x.1), some (.int x.2)] [] σ) (he : ∀ w, z = .inr w → KJ (Rep D B shpR) A 5 0 0 Q p l e ({ frames := 1, cells := 0, slots := 0, locals := 21 } : Room) s m args below meth c 0 0 43 [some (.ref (B + 0)), some (.int a1), some (.int a2), some (.int w.1), some (.int w.2)] [] σ) : KJ (Rep D B shpR) A 5 0 0 Q p l e ({ frames := 1, cells := 0, slots := 0, locals := 21 } : Room) s m args below meth c 0 0 5 [some (.ref (B + 0)), some (.int a1), some (.int a2), some (.int x.1), some (.int x.2)] [] σ := by
  unfold fX11_joined_l5 at h
  refine k_iload hF dX11_joined_5 rfl ?_
  refine k_bipush hF (v := (24 : Int32)) dX11_joined_7 (by decide) ?_
  refine k_icmp_ge hF (tgt := 43) dX11_joined_9 (by decide) (fun c1 => ?_) (fun c1 => ?_)
  · replace h := ite_t c1 h
    exact he _ (Option.some.inj h).symm
  · replace h := ite_f c1 h
    refine k_iload_n hF dX11_joined_12 rfl ?_
    refine k_iload_n hF dX11_joined_13 rfl ?_
    refine k_iload hF dX11_joined_14 rfl ?_
    obtain ⟨v2, hv2, h⟩ := bind_some h
    refine k_callS hF hA (as := [.int a1, .int x.2]) (ct_X11_has hbs hv2) ms_X11_142 rfl rfl ⟨Nat.le_of_ble_eq_true rfl, Nat.le_of_ble_eq_true rfl⟩ (Nat.le_of_ble_eq_true rfl) dX11_joined_16 ?_
    refine k_st (st2 := [.int v2, .int x.1]) rfl ?_
    refine k_if_eq hF (tgt := 34) dX11_joined_19 (by decide) (fun c3 => ?_) (fun c3 => ?_)
    · replace h := ite_t c3 h
      refine k_iconst hF dX11_joined_34 ci_0 ?_
      refine k_kill 3 rfl ?_
      exact wX11_joined_j35 hF hA hbs h hc he
    · replace h := ite_f c3 h
      refine k_aload_n hF dX11_joined_22 rfl ?_
      refine k_get hF (v := .ref (B + 41)) shR_0 fl_X11_132_X11 dX11_joined_23 rfl ?_
      refine k_iload_n hF dX11_joined_26 rfl ?_
      refine k_iload hF dX11_joined_27 rfl ?_
      refine k_iadd hF dX11_joined_29 ?_
      obtain ⟨g4, h⟩ := gd_some h
      refine k_iald hF shR_41 dX11_joined_30 g4 ?_
      refine k_goto hF dX11_joined_31 (tgt := 35) (by decide) ?_
      refine k_kill 3 rfl ?_
      exact wX11_joined_j35 hF hA hbs h hc he
set_option maxHeartbeats 4000000 in
set_option maxRecDepth 100000 in
theorem wX11_joined {p : Program} {l : Launch} {e : Env} {s : State} {m : MethodId} {args : Array Value} {below : List Frame} {meth : Method} {c : Code} {Q : State → Prop} {A : Nat → Prop} {D : DD} {base B : Nat} (hF : KF D base cX11_joined RX11 A 5 0 0 p l e ({ frames := 1, cells := 0, slots := 0, locals := 21 } : Room) s m args below meth c) (hA : ∀ q, RA B shpR q → A q) (hbs : base ≤ B) {σ : St} {a1 : Int32} {a2 : Int32} {z : Int32} (h : fX11_joined σ a1 a2 = some z) (hr : ∀ (pc : Nat) (L : List (Option Value)), narrow .int (.int z) = .int z → decode cX11_joined pc = .ok (.ireturn, 1) → KJ (Rep D B shpR) A 5 0 0 Q p l e ({ frames := 1, cells := 0, slots := 0, locals := 21 } : Room) s m args below meth c 0 0 pc L [.int z] σ) : KJ (Rep D B shpR) A 5 0 0 Q p l e ({ frames := 1, cells := 0, slots := 0, locals := 21 } : Room) s m args below meth c 0 0 0 [some (.ref (B + 0)), some (.int a1), some (.int a2), none, none] [] σ := by
  unfold fX11_joined at h
  refine k_iconst hF dX11_joined_0 ci_0 ?_
  refine k_istore_n hF (L' := [some (.ref (B + 0)), some (.int a1), some (.int a2), some (.int (0 : Int32)), none]) dX11_joined_1 (by decide) rfl ?_
  refine k_iconst hF dX11_joined_2 ci_0 ?_
  refine k_istore hF (L' := [some (.ref (B + 0)), some (.int a1), some (.int a2), some (.int (0 : Int32)), some (.int (0 : Int32))]) dX11_joined_3 (by decide) rfl ?_
  obtain ⟨x5, hx5, h⟩ := bind_some h
  refine k_loop (P := fun xq => KJ (Rep D B shpR) A 5 0 0 Q p l e ({ frames := 1, cells := 0, slots := 0, locals := 21 } : Room) s m args below meth c 0 0 5 [some (.ref (B + 0)), some (.int a1), some (.int a2), some (.int xq.1), some (.int xq.2)] [] σ) (C := fun xq => KJ (Rep D B shpR) A 5 0 0 Q p l e ({ frames := 1, cells := 0, slots := 0, locals := 21 } : Room) s m args below meth c 0 0 43 [some (.ref (B + 0)), some (.int a1), some (.int a2), some (.int xq.1), some (.int xq.2)] [] σ) (fun x z hz hc he => wX11_joined_l5 hF hA hbs hz hc he) hx5 ?_
  show KJ (Rep D B shpR) A 5 0 0 Q p l e ({ frames := 1, cells := 0, slots := 0, locals := 21 } : Room) s m args below meth c 0 0 43 [some (.ref (B + 0)), some (.int a1), some (.int a2), some (.int x5.1), some (.int x5.2)] [] σ
  refine k_iload_n hF dX11_joined_43 rfl ?_
  cases h
  exact hr _ _ rfl dX11_joined_44
theorem ct_X11_joined {l : Launch} {D : DD} {base B : Nat} (hbs : base ≤ B) {σ : St} {a1 : Int32} {a2 : Int32} {r : Int32} (h : fX11_joined σ a1 a2 = some r) : MetR l D B shpR base yX11_joined cX11_joined 5 (some .int) 1 21 [.ref (B + 0), .int a1, .int a2] σ (some (.int r)) σ :=
  MetR.of (by decide +kernel) (fun v hv => by simp only [List.mem_cons, List.not_mem_nil, or_false] at hv; rcases hv with rfl | rfl | rfl <;> rfl) (Nat.le_of_ble_eq_true rfl) hbs (fun p e s m args below meth c hF hr => wX11_joined hF (fun q hq => hq) hbs h (fun pc L hn hd => k_iret hF hr hn hd))
set_option maxHeartbeats 4000000 in
set_option maxRecDepth 100000 in
theorem wX11_infers_l2 {p : Program} {l : Launch} {e : Env} {s : State} {m : MethodId} {args : Array Value} {below : List Frame} {meth : Method} {c : Code} {Q : State → Prop} {A : Nat → Prop} {D : DD} {base B : Nat} (hF : KF D base cX11_infers RX11 A 6 0 0 p l e ({ frames := 2, cells := 0, slots := 0, locals := 45 } : Room) s m args below meth c) (hA : ∀ q, RA B shpR q → A q) (hbs : base ≤ B) {σ : St} {x : (St × Int32)} {z : ((St × Int32) ⊕ (St × Int32))} (h : fX11_infers_l2 σ x = some z) (hc : ∀ x, z = .inl x → KJ (Rep D B shpR) A 6 0 0 Q p l e ({ frames := 2, cells := 0, slots := 0, locals := 45 } : Room) s m args below meth c 0 0 2 [some (.ref (B + 0)), some (.int x.2), none, none, none, none] [] x.1) (he : ∀ w, z = .inr w → KJ (Rep D B shpR) A 6 0 0 Q p l e ({ frames := 2, cells := 0, slots := 0, locals := 45 } : Room) s m args below meth c 0 0 21 [some (.ref (B + 0)), some (.int w.2), none, none, none, none] [] w.1) : KJ (Rep D B shpR) A 6 0 0 Q p l e ({ frames := 2, cells := 0, slots := 0, locals := 45 } : Room) s m args below meth c 0 0 2 [some (.ref (B + 0)), some (.int x.2), none, none, none, none] [] x.1 := by
  unfold fX11_infers_l2 at h
  refine k_iload_n hF dX11_infers_2 rfl ?_
  refine k_bipush hF (v := (96 : Int32)) dX11_infers_3 (by decide) ?_
  refine k_icmp_ge hF (tgt := 21) dX11_infers_5 (by decide) (fun c1 => ?_) (fun c1 => ?_)
  · replace h := ite_t c1 h
    exact he _ (Option.some.inj h).symm
  · replace h := ite_f c1 h
    refine k_aload_n hF dX11_infers_8 rfl ?_
    refine k_get hF (v := .ref (B + 40)) shR_0 fl_X11_129_X11 dX11_infers_9 rfl ?_
    refine k_iload_n hF dX11_infers_12 rfl ?_
    refine k_iconst hF dX11_infers_13 ci_0 ?_
    obtain ⟨g2, h⟩ := gd_some h
    refine k_iast hF hA shR_40 dX11_infers_14 g2 ?_
    obtain ⟨σ3, hσ3, h⟩ := lt_some h
    refine k_sig hσ3 ?_
    refine k_iinc hF (v := (x.2 + (1 : Int32))) (L' := [some (.ref (B + 0)), some (.int (x.2 + (1 : Int32))), none, none, none, none]) dX11_infers_15 rfl (by first | rfl | (congr 1)) (by decide) rfl ?_
    refine k_goto hF dX11_infers_18 (tgt := 2) (by decide) ?_
    exact hc _ (Option.some.inj h).symm
set_option maxHeartbeats 4000000 in
set_option maxRecDepth 100000 in
theorem wX11_infers_j73 {p : Program} {l : Launch} {e : Env} {s : State} {m : MethodId} {args : Array Value} {below : List Frame} {meth : Method} {c : Code} {Q : State → Prop} {A : Nat → Prop} {D : DD} {base B : Nat} (hF : KF D base cX11_infers RX11 A 6 0 0 p l e ({ frames := 2, cells := 0, slots := 0, locals := 45 } : Room) s m args below meth c) (hA : ∀ q, RA B shpR q → A q) (hbs : base ≤ B) {σ : St} {b1 : Int32} {t0 : Int32} {t1 : Int32} {t2 : Int32} {z : ((St × Int32) ⊕ (St × Int32))} (h : fX11_infers_j73 σ b1 t0 t1 t2 = some z) (hc : ∀ x, z = .inl x → KJ (Rep D B shpR) A 6 0 0 Q p l e ({ frames := 2, cells := 0, slots := 0, locals := 45 } : Room) s m args below meth c 0 0 23 [some (.ref (B + 0)), some (.int x.2), none, none, none, none] [] x.1) (he : ∀ w, z = .inr w → KJ (Rep D B shpR) A 6 0 0 Q p l e ({ frames := 2, cells := 0, slots := 0, locals := 45 } : Room) s m args below meth c 0 0 81 [some (.ref (B + 0)), some (.int w.2), none, none, none, none] [] w.1) : KJ (Rep D B shpR) A 6 0 0 Q p l e ({ frames := 2, cells := 0, slots := 0, locals := 45 } : Room) s m args below meth c 0 0 73 [some (.ref (B + 0)), some (.int b1), none, none, none, none] [.int t0, .int t1, .int t2, .ref (B + 40)] σ := by
  unfold fX11_infers_j73 at h
  refine k_ior hF dX11_infers_73 ?_
  obtain ⟨g11, h⟩ := gd_some h
  refine k_iast hF hA shR_40 dX11_infers_74 g11 ?_
  obtain ⟨σ12, hσ12, h⟩ := lt_some h
  refine k_sig hσ12 ?_
  refine k_iinc hF (v := (b1 + (1 : Int32))) (L' := [some (.ref (B + 0)), some (.int (b1 + (1 : Int32))), none, none, none, none]) dX11_infers_75 rfl (by first | rfl | (congr 1)) (by decide) rfl ?_
  refine k_goto hF dX11_infers_78 (tgt := 23) (by decide) ?_
  exact hc _ (Option.some.inj h).symm
set_option maxHeartbeats 4000000 in
set_option maxRecDepth 100000 in
theorem wX11_infers_l23 {p : Program} {l : Launch} {e : Env} {s : State} {m : MethodId} {args : Array Value} {below : List Frame} {meth : Method} {c : Code} {Q : State → Prop} {A : Nat → Prop} {D : DD} {base B : Nat} (hF : KF D base cX11_infers RX11 A 6 0 0 p l e ({ frames := 2, cells := 0, slots := 0, locals := 45 } : Room) s m args below meth c) (hA : ∀ q, RA B shpR q → A q) (hbs : base ≤ B) {σ : St} {x : (St × Int32)} {z : ((St × Int32) ⊕ (St × Int32))} (h : fX11_infers_l23 σ x = some z) (hc : ∀ x, z = .inl x → KJ (Rep D B shpR) A 6 0 0 Q p l e ({ frames := 2, cells := 0, slots := 0, locals := 45 } : Room) s m args below meth c 0 0 23 [some (.ref (B + 0)), some (.int x.2), none, none, none, none] [] x.1) (he : ∀ w, z = .inr w → KJ (Rep D B shpR) A 6 0 0 Q p l e ({ frames := 2, cells := 0, slots := 0, locals := 45 } : Room) s m args below meth c 0 0 81 [some (.ref (B + 0)), some (.int w.2), none, none, none, none] [] w.1) : KJ (Rep D B shpR) A 6 0 0 Q p l e ({ frames := 2, cells := 0, slots := 0, locals := 45 } : Room) s m args below meth c 0 0 23 [some (.ref (B + 0)), some (.int x.2), none, none, none, none] [] x.1 := by
  unfold fX11_infers_l23 at h
  refine k_iload_n hF dX11_infers_23 rfl ?_
  refine k_aload_n hF dX11_infers_24 rfl ?_
  refine k_get hF (v := .int (gi x.1 0 15)) shR_0 fl_X11_154_X11 dX11_infers_25 rfl ?_
  refine k_icmp_ge hF (tgt := 81) dX11_infers_28 (by decide) (fun c5 => ?_) (fun c5 => ?_)
  · replace h := ite_t c5 h
    exact he _ (Option.some.inj h).symm
  · replace h := ite_f c5 h
    refine k_aload_n hF dX11_infers_31 rfl ?_
    refine k_get hF (v := .ref (B + 40)) shR_0 fl_X11_129_X11 dX11_infers_32 rfl ?_
    refine k_bipush hF (v := (24 : Int32)) dX11_infers_35 (by decide) ?_
    refine k_aload_n hF dX11_infers_37 rfl ?_
    refine k_get hF (v := .ref (B + 15)) shR_0 fl_X11_54_X11 dX11_infers_38 rfl ?_
    refine k_iload_n hF dX11_infers_41 rfl ?_
    obtain ⟨g6, h⟩ := gd_some h
    refine k_iald hF shR_15 dX11_infers_42 g6 ?_
    refine k_imul hF dX11_infers_43 ?_
    refine k_aload_n hF dX11_infers_44 rfl ?_
    refine k_get hF (v := .ref (B + 13)) shR_0 fl_X11_48_X11 dX11_infers_45 rfl ?_
    refine k_iload_n hF dX11_infers_48 rfl ?_
    obtain ⟨g7, h⟩ := gd_some h
    refine k_iald hF shR_13 dX11_infers_49 g7 ?_
    refine k_iadd hF dX11_infers_50 ?_
    refine k_dup2 hF dX11_infers_51 rfl rfl ?_
    obtain ⟨g8, h⟩ := gd_some h
    refine k_iald hF shR_40 dX11_infers_52 g8 ?_
    refine k_aload_n hF dX11_infers_53 rfl ?_
    refine k_iload_n hF dX11_infers_54 rfl ?_
    obtain ⟨v9, hv9, h⟩ := bind_some h
    refine k_callV hF hA (as := [.int x.2]) (ct_X11_isEdge hbs hv9) mv_X11_195 shR_0 rfl rfl rfl ⟨Nat.le_of_ble_eq_true rfl, Nat.le_of_ble_eq_true rfl⟩ (Nat.le_of_ble_eq_true rfl) dX11_infers_55 ?_
    refine k_st (st2 := [.int v9, .int (gi x.1 40 (((24 : Int32) * (gi x.1 15 x.2.toNatClampNeg)) + (gi x.1 13 x.2.toNatClampNeg)).toNatClampNeg), .int (((24 : Int32) * (gi x.1 15 x.2.toNatClampNeg)) + (gi x.1 13 x.2.toNatClampNeg)), .ref (B + 40)]) rfl ?_
    refine k_if_eq hF (tgt := 72) dX11_infers_58 (by decide) (fun c10 => ?_) (fun c10 => ?_)
    · replace h := ite_t c10 h
      refine k_iconst hF dX11_infers_72 ci_0 ?_
      exact wX11_infers_j73 hF hA hbs h hc he
    · replace h := ite_f c10 h
      refine k_iconst hF dX11_infers_61 ci_1 ?_
      refine k_aload_n hF dX11_infers_62 rfl ?_
      refine k_get hF (v := .ref (B + 14)) shR_0 fl_X11_51_X11 dX11_infers_63 rfl ?_
      refine k_iload_n hF dX11_infers_66 rfl ?_
      obtain ⟨g13, h⟩ := gd_some h
      refine k_iald hF shR_14 dX11_infers_67 g13 ?_
      refine k_ishl hF dX11_infers_68 ?_
      refine k_goto hF dX11_infers_69 (tgt := 73) (by decide) ?_
      exact wX11_infers_j73 hF hA hbs h hc he
set_option maxHeartbeats 4000000 in
set_option maxRecDepth 100000 in
theorem wX11_infers_l83 {p : Program} {l : Launch} {e : Env} {s : State} {m : MethodId} {args : Array Value} {below : List Frame} {meth : Method} {c : Code} {Q : State → Prop} {A : Nat → Prop} {D : DD} {base B : Nat} (hF : KF D base cX11_infers RX11 A 6 0 0 p l e ({ frames := 2, cells := 0, slots := 0, locals := 45 } : Room) s m args below meth c) (hA : ∀ q, RA B shpR q → A q) (hbs : base ≤ B) {σ : St} {x : (St × Int32)} {z : ((St × Int32) ⊕ (St × Int32))} (h : fX11_infers_l83 σ x = some z) (hc : ∀ x, z = .inl x → KJ (Rep D B shpR) A 6 0 0 Q p l e ({ frames := 2, cells := 0, slots := 0, locals := 45 } : Room) s m args below meth c 0 0 83 [some (.ref (B + 0)), some (.int x.2), none, none, none, none] [] x.1) (he : ∀ w, z = .inr w → KJ (Rep D B shpR) A 6 0 0 Q p l e ({ frames := 2, cells := 0, slots := 0, locals := 45 } : Room) s m args below meth c 0 0 107 [some (.ref (B + 0)), some (.int w.2), none, none, none, none] [] w.1) : KJ (Rep D B shpR) A 6 0 0 Q p l e ({ frames := 2, cells := 0, slots := 0, locals := 45 } : Room) s m args below meth c 0 0 83 [some (.ref (B + 0)), some (.int x.2), none, none, none, none] [] x.1 := by
  unfold fX11_infers_l83 at h
  refine k_iload_n hF dX11_infers_83 rfl ?_
  refine k_bipush hF (v := (96 : Int32)) dX11_infers_84 (by decide) ?_
  refine k_icmp_ge hF (tgt := 107) dX11_infers_86 (by decide) (fun c15 => ?_) (fun c15 => ?_)
  · replace h := ite_t c15 h
    exact he _ (Option.some.inj h).symm
  · replace h := ite_f c15 h
    refine k_aload_n hF dX11_infers_89 rfl ?_
    refine k_get hF (v := .ref (B + 41)) shR_0 fl_X11_132_X11 dX11_infers_90 rfl ?_
    refine k_iload_n hF dX11_infers_93 rfl ?_
    refine k_aload_n hF dX11_infers_94 rfl ?_
    refine k_get hF (v := .ref (B + 40)) shR_0 fl_X11_129_X11 dX11_infers_95 rfl ?_
    refine k_iload_n hF dX11_infers_98 rfl ?_
    obtain ⟨g16, h⟩ := gd_some h
    refine k_iald hF shR_40 dX11_infers_99 g16 ?_
    obtain ⟨g17, h⟩ := gd_some h
    refine k_iast hF hA shR_41 dX11_infers_100 g17 ?_
    obtain ⟨σ18, hσ18, h⟩ := lt_some h
    refine k_sig hσ18 ?_
    refine k_iinc hF (v := (x.2 + (1 : Int32))) (L' := [some (.ref (B + 0)), some (.int (x.2 + (1 : Int32))), none, none, none, none]) dX11_infers_101 rfl (by first | rfl | (congr 1)) (by decide) rfl ?_
    refine k_goto hF dX11_infers_104 (tgt := 83) (by decide) ?_
    exact hc _ (Option.some.inj h).symm
set_option maxHeartbeats 4000000 in
set_option maxRecDepth 100000 in
theorem wX11_infers_j210 {p : Program} {l : Launch} {e : Env} {s : State} {m : MethodId} {args : Array Value} {below : List Frame} {meth : Method} {c : Code} {Q : State → Prop} {A : Nat → Prop} {D : DD} {base B : Nat} (hF : KF D base cX11_infers RX11 A 6 0 0 p l e ({ frames := 2, cells := 0, slots := 0, locals := 45 } : Room) s m args below meth c) (hA : ∀ q, RA B shpR q → A q) (hbs : base ≤ B) {σ : St} {ea2c : Int32} {b3 : Int32} {b4 : Int32} {b5 : Int32} {t0 : Int32} {z : ((St × Int32 × Int32) ⊕ (St × Int32 × Int32))} (h : fX11_infers_j210 σ ea2c b3 b4 b5 t0 = some z) (hc : ∀ x, z = .inl x → KJ (Rep D B shpR) A 6 0 0 Q p l e ({ frames := 2, cells := 0, slots := 0, locals := 45 } : Room) s m args below meth c 0 0 127 [some (.ref (B + 0)), some (.int x.2.1), some (.int ea2c), some (.int x.2.2), none, none] [] x.1) (he : ∀ w, z = .inr w → KJ (Rep D B shpR) A 6 0 0 Q p l e ({ frames := 2, cells := 0, slots := 0, locals := 45 } : Room) s m args below meth c 0 0 229 [some (.ref (B + 0)), some (.int w.2.1), some (.int ea2c), some (.int w.2.2), none, none] [] w.1) : KJ (Rep D B shpR) A 6 0 0 Q p l e ({ frames := 2, cells := 0, slots := 0, locals := 45 } : Room) s m args below meth c 0 0 210 [some (.ref (B + 0)), none, some (.int ea2c), some (.int b3), some (.int b4), some (.int b5)] [.int t0] σ := by
  unfold fX11_infers_j210 at h
  refine k_istore_n hF (L' := [some (.ref (B + 0)), some (.int t0), some (.int ea2c), some (.int b3), some (.int b4), some (.int b5)]) dX11_infers_210 (by decide) rfl ?_
  refine k_aload_n hF dX11_infers_211 rfl ?_
  refine k_get hF (v := .ref (B + 41)) shR_0 fl_X11_132_X11 dX11_infers_212 rfl ?_
  refine k_iload hF dX11_infers_215 rfl ?_
  refine k_dup2 hF dX11_infers_217 rfl rfl ?_
  obtain ⟨g32, h⟩ := gd_some h
  refine k_iald hF shR_41 dX11_infers_218 g32 ?_
  refine k_iload hF dX11_infers_219 rfl ?_
  refine k_ior hF dX11_infers_221 ?_
  obtain ⟨g33, h⟩ := gd_some h
  refine k_iast hF hA shR_41 dX11_infers_222 g33 ?_
  obtain ⟨σ34, hσ34, h⟩ := lt_some h
  refine k_sig hσ34 ?_
  refine k_iinc hF (v := (b3 + (1 : Int32))) (L' := [some (.ref (B + 0)), some (.int t0), some (.int ea2c), some (.int (b3 + (1 : Int32))), some (.int b4), some (.int b5)]) dX11_infers_223 rfl (by first | rfl | (congr 1)) (by decide) rfl ?_
  refine k_goto hF dX11_infers_226 (tgt := 127) (by decide) ?_
  refine k_kill 4 rfl ?_
  refine k_kill 5 rfl ?_
  exact hc _ (Option.some.inj h).symm
set_option maxHeartbeats 4000000 in
set_option maxRecDepth 100000 in
theorem wX11_infers_j205 {p : Program} {l : Launch} {e : Env} {s : State} {m : MethodId} {args : Array Value} {below : List Frame} {meth : Method} {c : Code} {Q : State → Prop} {A : Nat → Prop} {D : DD} {base B : Nat} (hF : KF D base cX11_infers RX11 A 6 0 0 p l e ({ frames := 2, cells := 0, slots := 0, locals := 45 } : Room) s m args below meth c) (hA : ∀ q, RA B shpR q → A q) (hbs : base ≤ B) {σ : St} {ea2c : Int32} {b3 : Int32} {b4 : Int32} {b5 : Int32} {z : ((St × Int32 × Int32) ⊕ (St × Int32 × Int32))} (h : fX11_infers_j205 σ ea2c b3 b4 b5 = some z) (hc : ∀ x, z = .inl x → KJ (Rep D B shpR) A 6 0 0 Q p l e ({ frames := 2, cells := 0, slots := 0, locals := 45 } : Room) s m args below meth c 0 0 127 [some (.ref (B + 0)), some (.int x.2.1), some (.int ea2c), some (.int x.2.2), none, none] [] x.1) (he : ∀ w, z = .inr w → KJ (Rep D B shpR) A 6 0 0 Q p l e ({ frames := 2, cells := 0, slots := 0, locals := 45 } : Room) s m args below meth c 0 0 229 [some (.ref (B + 0)), some (.int w.2.1), some (.int ea2c), some (.int w.2.2), none, none] [] w.1) : KJ (Rep D B shpR) A 6 0 0 Q p l e ({ frames := 2, cells := 0, slots := 0, locals := 45 } : Room) s m args below meth c 0 0 205 [some (.ref (B + 0)), none, some (.int ea2c), some (.int b3), some (.int b4), some (.int b5)] [] σ := by
  unfold fX11_infers_j205 at h
  refine k_iconst hF dX11_infers_205 ci_1 ?_
  refine k_goto hF dX11_infers_206 (tgt := 210) (by decide) ?_
  exact wX11_infers_j210 hF hA hbs h hc he
set_option maxHeartbeats 4000000 in
set_option maxRecDepth 100000 in
theorem wX11_infers_l127 {p : Program} {l : Launch} {e : Env} {s : State} {m : MethodId} {args : Array Value} {below : List Frame} {meth : Method} {c : Code} {Q : State → Prop} {A : Nat → Prop} {D : DD} {base B : Nat} (hF : KF D base cX11_infers RX11 A 6 0 0 p l e ({ frames := 2, cells := 0, slots := 0, locals := 45 } : Room) s m args below meth c) (hA : ∀ q, RA B shpR q → A q) (hbs : base ≤ B) {σ : St} {ea2c : Int32} {x : (St × Int32 × Int32)} {z : ((St × Int32 × Int32) ⊕ (St × Int32 × Int32))} (h : fX11_infers_l127 σ ea2c x = some z) (hc : ∀ x, z = .inl x → KJ (Rep D B shpR) A 6 0 0 Q p l e ({ frames := 2, cells := 0, slots := 0, locals := 45 } : Room) s m args below meth c 0 0 127 [some (.ref (B + 0)), some (.int x.2.1), some (.int ea2c), some (.int x.2.2), none, none] [] x.1) (he : ∀ w, z = .inr w → KJ (Rep D B shpR) A 6 0 0 Q p l e ({ frames := 2, cells := 0, slots := 0, locals := 45 } : Room) s m args below meth c 0 0 229 [some (.ref (B + 0)), some (.int w.2.1), some (.int ea2c), some (.int w.2.2), none, none] [] w.1) : KJ (Rep D B shpR) A 6 0 0 Q p l e ({ frames := 2, cells := 0, slots := 0, locals := 45 } : Room) s m args below meth c 0 0 127 [some (.ref (B + 0)), some (.int x.2.1), some (.int ea2c), some (.int x.2.2), none, none] [] x.1 := by
  unfold fX11_infers_l127 at h
  refine k_iload_n hF dX11_infers_127 rfl ?_
  refine k_bipush hF (v := (24 : Int32)) dX11_infers_128 (by decide) ?_
  refine k_icmp_ge hF (tgt := 229) dX11_infers_130 (by decide) (fun c22 => ?_) (fun c22 => ?_)
  · replace h := ite_t c22 h
    exact he _ (Option.some.inj h).symm
  · replace h := ite_f c22 h
    refine k_aload_n hF dX11_infers_133 rfl ?_
    refine k_get hF (v := .ref (B + 39)) shR_0 fl_X11_126_X11 dX11_infers_134 rfl ?_
    refine k_iload_n hF dX11_infers_137 rfl ?_
    obtain ⟨g23, h⟩ := gd_some h
    refine k_zald hF shR_39 dX11_infers_138 g23 ?_
    refine k_if_ne hF (tgt := 229) dX11_infers_139 (by decide) (fun c24 => ?_) (fun c24 => ?_)
    · replace h := ite_f c24 h
      exact he _ (Option.some.inj h).symm
    · replace h := ite_t c24 h
      refine k_aload_n hF dX11_infers_142 rfl ?_
      refine k_aload_n hF dX11_infers_143 rfl ?_
      refine k_get hF (v := .ref (B + 41)) shR_0 fl_X11_132_X11 dX11_infers_144 rfl ?_
      refine k_bipush hF (v := (24 : Int32)) dX11_infers_147 (by decide) ?_
      refine k_aload_n hF dX11_infers_149 rfl ?_
      refine k_get hF (v := .ref (B + 36)) shR_0 fl_X11_117_X11 dX11_infers_150 rfl ?_
      refine k_iload_n hF dX11_infers_153 rfl ?_
      obtain ⟨g25, h⟩ := gd_some h
      refine k_iald hF shR_36 dX11_infers_154 g25 ?_
      refine k_imul hF dX11_infers_155 ?_
      refine k_iload_n hF dX11_infers_156 rfl ?_
      refine k_iadd hF dX11_infers_157 ?_
      obtain ⟨g26, h⟩ := gd_some h
      refine k_iald hF shR_41 dX11_infers_158 g26 ?_
      refine k_bipush hF (v := (24 : Int32)) dX11_infers_159 (by decide) ?_
      refine k_aload_n hF dX11_infers_161 rfl ?_
      refine k_get hF (v := .ref (B + 37)) shR_0 fl_X11_120_X11 dX11_infers_162 rfl ?_
      refine k_iload_n hF dX11_infers_165 rfl ?_
      obtain ⟨g27, h⟩ := gd_some h
      refine k_iald hF shR_37 dX11_infers_166 g27 ?_
      refine k_imul hF dX11_infers_167 ?_
      obtain ⟨v28, hv28, h⟩ := bind_some h
      refine k_callV hF hA (as := [.int (gi x.1 41 (((24 : Int32) * (gi x.1 36 ea2c.toNatClampNeg)) + x.2.2).toNatClampNeg), .int ((24 : Int32) * (gi x.1 37 ea2c.toNatClampNeg))]) (ct_X11_joined hbs hv28) mv_X11_245 shR_0 rfl rfl rfl ⟨Nat.le_of_ble_eq_true rfl, Nat.le_of_ble_eq_true rfl⟩ (Nat.le_of_ble_eq_true rfl) dX11_infers_168 ?_
      refine k_st (st2 := [.int v28]) rfl ?_
      refine k_istore hF (L' := [some (.ref (B + 0)), some (.int x.2.1), some (.int ea2c), some (.int x.2.2), some (.int v28), none]) dX11_infers_171 (by decide) rfl ?_
      refine k_bipush hF (v := (24 : Int32)) dX11_infers_173 (by decide) ?_
      refine k_aload_n hF dX11_infers_175 rfl ?_
      refine k_get hF (v := .ref (B + 38)) shR_0 fl_X11_123_X11 dX11_infers_176 rfl ?_
      refine k_iload_n hF dX11_infers_179 rfl ?_
      obtain ⟨g29, h⟩ := gd_some h
      refine k_iald hF shR_38 dX11_infers_180 g29 ?_
      refine k_imul hF dX11_infers_181 ?_
      refine k_iload_n hF dX11_infers_182 rfl ?_
      refine k_iadd hF dX11_infers_183 ?_
      obtain ⟨n30, hn30, h⟩ := lt_some h
      refine k_st (st2 := [.int n30]) (by rw [hn30]) ?_
      refine k_istore hF (L' := [some (.ref (B + 0)), some (.int x.2.1), some (.int ea2c), some (.int x.2.2), some (.int v28), some (.int n30)]) dX11_infers_184 (by decide) rfl ?_
      refine k_iload_n hF dX11_infers_186 rfl ?_
      refine k_if_ne hF (tgt := 205) dX11_infers_187 (by decide) (fun c31 => ?_) (fun c31 => ?_)
      · replace h := ite_f c31 h
        refine k_kill 1 rfl ?_
        exact wX11_infers_j205 hF hA hbs h hc he
      · replace h := ite_t c31 h
        refine k_iload hF dX11_infers_190 rfl ?_
        refine k_aload_n hF dX11_infers_192 rfl ?_
        refine k_get hF (v := .ref (B + 41)) shR_0 fl_X11_132_X11 dX11_infers_193 rfl ?_
        refine k_iload hF dX11_infers_196 rfl ?_
        obtain ⟨g35, h⟩ := gd_some h
        refine k_iald hF shR_41 dX11_infers_198 g35 ?_
        refine k_iconst hF dX11_infers_199 ci_m1 ?_
        refine k_ixor hF dX11_infers_200 ?_
        refine k_iand hF dX11_infers_201 ?_
        refine k_if_eq hF (tgt := 209) dX11_infers_202 (by decide) (fun c36 => ?_) (fun c36 => ?_)
        · replace h := ite_t c36 h
          refine k_iconst hF dX11_infers_209 ci_0 ?_
          refine k_kill 1 rfl ?_
          exact wX11_infers_j210 hF hA hbs h hc he
        · replace h := ite_f c36 h
          refine k_kill 1 rfl ?_
          exact wX11_infers_j205 hF hA hbs h hc he
set_option maxHeartbeats 4000000 in
set_option maxRecDepth 100000 in
theorem wX11_infers_l117 {p : Program} {l : Launch} {e : Env} {s : State} {m : MethodId} {args : Array Value} {below : List Frame} {meth : Method} {c : Code} {Q : State → Prop} {A : Nat → Prop} {D : DD} {base B : Nat} (hF : KF D base cX11_infers RX11 A 6 0 0 p l e ({ frames := 2, cells := 0, slots := 0, locals := 45 } : Room) s m args below meth c) (hA : ∀ q, RA B shpR q → A q) (hbs : base ≤ B) {σ : St} {x : (St × Int32 × Int32)} {z : ((St × Int32 × Int32) ⊕ (St × Int32 × Int32))} (h : fX11_infers_l117 σ x = some z) (hc : ∀ x, z = .inl x → KJ (Rep D B shpR) A 6 0 0 Q p l e ({ frames := 2, cells := 0, slots := 0, locals := 45 } : Room) s m args below meth c 0 0 117 [some (.ref (B + 0)), some (.int x.2.1), some (.int x.2.2), none, none, none] [] x.1) (he : ∀ w, z = .inr w → KJ (Rep D B shpR) A 6 0 0 Q p l e ({ frames := 2, cells := 0, slots := 0, locals := 45 } : Room) s m args below meth c 0 0 235 [some (.ref (B + 0)), some (.int w.2.1), some (.int w.2.2), none, none, none] [] w.1) : KJ (Rep D B shpR) A 6 0 0 Q p l e ({ frames := 2, cells := 0, slots := 0, locals := 45 } : Room) s m args below meth c 0 0 117 [some (.ref (B + 0)), some (.int x.2.1), some (.int x.2.2), none, none, none] [] x.1 := by
  unfold fX11_infers_l117 at h
  refine k_iload_n hF dX11_infers_117 rfl ?_
  refine k_aload_n hF dX11_infers_118 rfl ?_
  refine k_get hF (v := .int (gi x.1 0 42)) shR_0 fl_X11_242_X11 dX11_infers_119 rfl ?_
  refine k_icmp_ge hF (tgt := 235) dX11_infers_122 (by decide) (fun c21 => ?_) (fun c21 => ?_)
  · replace h := ite_t c21 h
    exact he _ (Option.some.inj h).symm
  · replace h := ite_f c21 h
    refine k_iconst hF dX11_infers_125 ci_0 ?_
    refine k_istore_n hF (L' := [some (.ref (B + 0)), some (.int x.2.1), some (.int x.2.2), some (.int (0 : Int32)), none, none]) dX11_infers_126 (by decide) rfl ?_
    obtain ⟨x37, hx37, h⟩ := bind_some h
    refine k_loop (P := fun xq => KJ (Rep D B shpR) A 6 0 0 Q p l e ({ frames := 2, cells := 0, slots := 0, locals := 45 } : Room) s m args below meth c 0 0 127 [some (.ref (B + 0)), some (.int xq.2.1), some (.int x.2.2), some (.int xq.2.2), none, none] [] xq.1) (C := fun xq => KJ (Rep D B shpR) A 6 0 0 Q p l e ({ frames := 2, cells := 0, slots := 0, locals := 45 } : Room) s m args below meth c 0 0 229 [some (.ref (B + 0)), some (.int xq.2.1), some (.int x.2.2), some (.int xq.2.2), none, none] [] xq.1) (fun x z hz hc he => wX11_infers_l127 hF hA hbs hz hc he) hx37 ?_
    show KJ (Rep D B shpR) A 6 0 0 Q p l e ({ frames := 2, cells := 0, slots := 0, locals := 45 } : Room) s m args below meth c 0 0 229 [some (.ref (B + 0)), some (.int x37.2.1), some (.int x.2.2), some (.int x37.2.2), none, none] [] x37.1
    refine k_iinc hF (v := (x.2.2 + (1 : Int32))) (L' := [some (.ref (B + 0)), some (.int x37.2.1), some (.int (x.2.2 + (1 : Int32))), some (.int x37.2.2), none, none]) dX11_infers_229 rfl (by first | rfl | (congr 1)) (by decide) rfl ?_
    refine k_goto hF dX11_infers_232 (tgt := 117) (by decide) ?_
    refine k_kill 3 rfl ?_
    exact hc _ (Option.some.inj h).symm
set_option maxHeartbeats 4000000 in
set_option maxRecDepth 100000 in
theorem wX11_infers_l109 {p : Program} {l : Launch} {e : Env} {s : State} {m : MethodId} {args : Array Value} {below : List Frame} {meth : Method} {c : Code} {Q : State → Prop} {A : Nat → Prop} {D : DD} {base B : Nat} (hF : KF D base cX11_infers RX11 A 6 0 0 p l e ({ frames := 2, cells := 0, slots := 0, locals := 45 } : Room) s m args below meth c) (hA : ∀ q, RA B shpR q → A q) (hbs : base ≤ B) {σ : St} {x : (St × Int32)} {z : ((St × Int32) ⊕ (St × Int32))} (h : fX11_infers_l109 σ x = some z) (hc : ∀ x, z = .inl x → KJ (Rep D B shpR) A 6 0 0 Q p l e ({ frames := 2, cells := 0, slots := 0, locals := 45 } : Room) s m args below meth c 0 0 109 [some (.ref (B + 0)), some (.int x.2), none, none, none, none] [] x.1) (he : ∀ w, z = .inr w → KJ (Rep D B shpR) A 6 0 0 Q p l e ({ frames := 2, cells := 0, slots := 0, locals := 45 } : Room) s m args below meth c 0 0 238 [some (.ref (B + 0)), some (.int w.2), none, none, none, none] [] w.1) : KJ (Rep D B shpR) A 6 0 0 Q p l e ({ frames := 2, cells := 0, slots := 0, locals := 45 } : Room) s m args below meth c 0 0 109 [some (.ref (B + 0)), some (.int x.2), none, none, none, none] [] x.1 := by
  unfold fX11_infers_l109 at h
  refine k_iload_n hF dX11_infers_109 rfl ?_
  refine k_if_eq hF (tgt := 238) dX11_infers_110 (by decide) (fun c20 => ?_) (fun c20 => ?_)
  · replace h := ite_t c20 h
    exact he _ (Option.some.inj h).symm
  · replace h := ite_f c20 h
    refine k_iconst hF dX11_infers_113 ci_0 ?_
    refine k_istore_n hF (L' := [some (.ref (B + 0)), some (.int (0 : Int32)), none, none, none, none]) dX11_infers_114 (by decide) rfl ?_
    refine k_iconst hF dX11_infers_115 ci_0 ?_
    refine k_istore_n hF (L' := [some (.ref (B + 0)), some (.int (0 : Int32)), some (.int (0 : Int32)), none, none, none]) dX11_infers_116 (by decide) rfl ?_
    obtain ⟨x38, hx38, h⟩ := bind_some h
    refine k_loop (P := fun xq => KJ (Rep D B shpR) A 6 0 0 Q p l e ({ frames := 2, cells := 0, slots := 0, locals := 45 } : Room) s m args below meth c 0 0 117 [some (.ref (B + 0)), some (.int xq.2.1), some (.int xq.2.2), none, none, none] [] xq.1) (C := fun xq => KJ (Rep D B shpR) A 6 0 0 Q p l e ({ frames := 2, cells := 0, slots := 0, locals := 45 } : Room) s m args below meth c 0 0 235 [some (.ref (B + 0)), some (.int xq.2.1), some (.int xq.2.2), none, none, none] [] xq.1) (fun x z hz hc he => wX11_infers_l117 hF hA hbs hz hc he) hx38 ?_
    show KJ (Rep D B shpR) A 6 0 0 Q p l e ({ frames := 2, cells := 0, slots := 0, locals := 45 } : Room) s m args below meth c 0 0 235 [some (.ref (B + 0)), some (.int x38.2.1), some (.int x38.2.2), none, none, none] [] x38.1
    refine k_goto hF dX11_infers_235 (tgt := 109) (by decide) ?_
    refine k_kill 2 rfl ?_
    exact hc _ (Option.some.inj h).symm
set_option maxHeartbeats 4000000 in
set_option maxRecDepth 100000 in
theorem wX11_infers {p : Program} {l : Launch} {e : Env} {s : State} {m : MethodId} {args : Array Value} {below : List Frame} {meth : Method} {c : Code} {Q : State → Prop} {A : Nat → Prop} {D : DD} {base B : Nat} (hF : KF D base cX11_infers RX11 A 6 0 0 p l e ({ frames := 2, cells := 0, slots := 0, locals := 45 } : Room) s m args below meth c) (hA : ∀ q, RA B shpR q → A q) (hbs : base ≤ B) {σ : St} {z : St} (h : fX11_infers σ = some z) (hr : ∀ (pc : Nat) (L : List (Option Value)), decode cX11_infers pc = .ok (.return_, 1) → KJ (Rep D B shpR) A 6 0 0 Q p l e ({ frames := 2, cells := 0, slots := 0, locals := 45 } : Room) s m args below meth c 0 0 pc L [] z) : KJ (Rep D B shpR) A 6 0 0 Q p l e ({ frames := 2, cells := 0, slots := 0, locals := 45 } : Room) s m args below meth c 0 0 0 [some (.ref (B + 0)), none, none, none, none, none] [] σ := by
  unfold fX11_infers at h
  refine k_iconst hF dX11_infers_0 ci_0 ?_
  refine k_istore_n hF (L' := [some (.ref (B + 0)), some (.int (0 : Int32)), none, none, none, none]) dX11_infers_1 (by decide) rfl ?_
  obtain ⟨x4, hx4, h⟩ := bind_some h
  refine k_loop (P := fun xq => KJ (Rep D B shpR) A 6 0 0 Q p l e ({ frames := 2, cells := 0, slots := 0, locals := 45 } : Room) s m args below meth c 0 0 2 [some (.ref (B + 0)), some (.int xq.2), none, none, none, none] [] xq.1) (C := fun xq => KJ (Rep D B shpR) A 6 0 0 Q p l e ({ frames := 2, cells := 0, slots := 0, locals := 45 } : Room) s m args below meth c 0 0 21 [some (.ref (B + 0)), some (.int xq.2), none, none, none, none] [] xq.1) (fun x z hz hc he => wX11_infers_l2 hF hA hbs hz hc he) hx4 ?_
  show KJ (Rep D B shpR) A 6 0 0 Q p l e ({ frames := 2, cells := 0, slots := 0, locals := 45 } : Room) s m args below meth c 0 0 21 [some (.ref (B + 0)), some (.int x4.2), none, none, none, none] [] x4.1
  refine k_iconst hF dX11_infers_21 ci_0 ?_
  refine k_istore_n hF (L' := [some (.ref (B + 0)), some (.int (0 : Int32)), none, none, none, none]) dX11_infers_22 (by decide) rfl ?_
  obtain ⟨x14, hx14, h⟩ := bind_some h
  refine k_loop (P := fun xq => KJ (Rep D B shpR) A 6 0 0 Q p l e ({ frames := 2, cells := 0, slots := 0, locals := 45 } : Room) s m args below meth c 0 0 23 [some (.ref (B + 0)), some (.int xq.2), none, none, none, none] [] xq.1) (C := fun xq => KJ (Rep D B shpR) A 6 0 0 Q p l e ({ frames := 2, cells := 0, slots := 0, locals := 45 } : Room) s m args below meth c 0 0 81 [some (.ref (B + 0)), some (.int xq.2), none, none, none, none] [] xq.1) (fun x z hz hc he => wX11_infers_l23 hF hA hbs hz hc he) hx14 ?_
  show KJ (Rep D B shpR) A 6 0 0 Q p l e ({ frames := 2, cells := 0, slots := 0, locals := 45 } : Room) s m args below meth c 0 0 81 [some (.ref (B + 0)), some (.int x14.2), none, none, none, none] [] x14.1
  refine k_iconst hF dX11_infers_81 ci_0 ?_
  refine k_istore_n hF (L' := [some (.ref (B + 0)), some (.int (0 : Int32)), none, none, none, none]) dX11_infers_82 (by decide) rfl ?_
  obtain ⟨x19, hx19, h⟩ := bind_some h
  refine k_loop (P := fun xq => KJ (Rep D B shpR) A 6 0 0 Q p l e ({ frames := 2, cells := 0, slots := 0, locals := 45 } : Room) s m args below meth c 0 0 83 [some (.ref (B + 0)), some (.int xq.2), none, none, none, none] [] xq.1) (C := fun xq => KJ (Rep D B shpR) A 6 0 0 Q p l e ({ frames := 2, cells := 0, slots := 0, locals := 45 } : Room) s m args below meth c 0 0 107 [some (.ref (B + 0)), some (.int xq.2), none, none, none, none] [] xq.1) (fun x z hz hc he => wX11_infers_l83 hF hA hbs hz hc he) hx19 ?_
  show KJ (Rep D B shpR) A 6 0 0 Q p l e ({ frames := 2, cells := 0, slots := 0, locals := 45 } : Room) s m args below meth c 0 0 107 [some (.ref (B + 0)), some (.int x19.2), none, none, none, none] [] x19.1
  refine k_iconst hF dX11_infers_107 ci_1 ?_
  refine k_istore_n hF (L' := [some (.ref (B + 0)), some (.int (1 : Int32)), none, none, none, none]) dX11_infers_108 (by decide) rfl ?_
  obtain ⟨x39, hx39, h⟩ := bind_some h
  refine k_loop (P := fun xq => KJ (Rep D B shpR) A 6 0 0 Q p l e ({ frames := 2, cells := 0, slots := 0, locals := 45 } : Room) s m args below meth c 0 0 109 [some (.ref (B + 0)), some (.int xq.2), none, none, none, none] [] xq.1) (C := fun xq => KJ (Rep D B shpR) A 6 0 0 Q p l e ({ frames := 2, cells := 0, slots := 0, locals := 45 } : Room) s m args below meth c 0 0 238 [some (.ref (B + 0)), some (.int xq.2), none, none, none, none] [] xq.1) (fun x z hz hc he => wX11_infers_l109 hF hA hbs hz hc he) hx39 ?_
  show KJ (Rep D B shpR) A 6 0 0 Q p l e ({ frames := 2, cells := 0, slots := 0, locals := 45 } : Room) s m args below meth c 0 0 238 [some (.ref (B + 0)), some (.int x39.2), none, none, none, none] [] x39.1
  cases h
  exact hr _ _ dX11_infers_238
theorem ct_X11_infers {l : Launch} {D : DD} {base B : Nat} (hbs : base ≤ B) {σ : St} {r : St} (h : fX11_infers σ = some r) : MetR l D B shpR base yX11_infers cX11_infers 6 none 2 45 [.ref (B + 0)] σ none r :=
  MetR.of (by decide +kernel) (fun v hv => by simp only [List.mem_cons, List.not_mem_nil, or_false] at hv; rcases hv with rfl <;> rfl) (Nat.le_of_ble_eq_true rfl) hbs (fun p e s m args below meth c hF hr => wX11_infers hF (fun q hq => hq) hbs h (fun pc L hd => k_vret hF hr hd))
set_option maxHeartbeats 4000000 in
set_option maxRecDepth 100000 in
theorem wX11_inferredNow_l8 {p : Program} {l : Launch} {e : Env} {s : State} {m : MethodId} {args : Array Value} {below : List Frame} {meth : Method} {c : Code} {Q : State → Prop} {A : Nat → Prop} {D : DD} {base B : Nat} (hF : KF D base cX11_inferredNow RX11 A 3 0 0 p l e ({ frames := 3, cells := 0, slots := 0, locals := 70 } : Room) s m args below meth c) (hA : ∀ q, RA B shpR q → A q) (hbs : base ≤ B) {σ : St} {x : (Int32 × Int32)} {z : ((Int32 × Int32) ⊕ (Int32 × Int32))} (h : fX11_inferredNow_l8 σ x = some z) (hc : ∀ x, z = .inl x → KJ (Rep D B shpR) A 3 0 0 Q p l e ({ frames := 3, cells := 0, slots := 0, locals := 70 } : Room) s m args below meth c 0 0 8 [some (.ref (B + 0)), some (.int x.1), some (.int x.2)] [] σ) (he : ∀ w, z = .inr w → KJ (Rep D B shpR) A 3 0 0 Q p l e ({ frames := 3, cells := 0, slots := 0, locals := 70 } : Room) s m args below meth c 0 0 41 [some (.ref (B + 0)), some (.int w.1), some (.int w.2)] [] σ) : KJ (Rep D B shpR) A 3 0 0 Q p l e ({ frames := 3, cells := 0, slots := 0, locals := 70 } : Room) s m args below meth c 0 0 8 [some (.ref (B + 0)), some (.int x.1), some (.int x.2)] [] σ := by
  unfold fX11_inferredNow_l8 at h
  refine k_iload_n hF dX11_inferredNow_8 rfl ?_
  refine k_bipush hF (v := (96 : Int32)) dX11_inferredNow_9 (by decide) ?_
  refine k_icmp_ge hF (tgt := 41) dX11_inferredNow_11 (by decide) (fun c2 => ?_) (fun c2 => ?_)
  · replace h := ite_t c2 h
    exact he _ (Option.some.inj h).symm
  · replace h := ite_f c2 h
    refine k_iload_n hF dX11_inferredNow_14 rfl ?_
    refine k_aload_n hF dX11_inferredNow_15 rfl ?_
    refine k_get hF (v := .ref (B + 41)) shR_0 fl_X11_132_X11 dX11_inferredNow_16 rfl ?_
    refine k_iload_n hF dX11_inferredNow_19 rfl ?_
    obtain ⟨g3, h⟩ := gd_some h
    refine k_iald hF shR_41 dX11_inferredNow_20 g3 ?_
    refine k_aload_n hF dX11_inferredNow_21 rfl ?_
    refine k_get hF (v := .ref (B + 40)) shR_0 fl_X11_129_X11 dX11_inferredNow_22 rfl ?_
    refine k_iload_n hF dX11_inferredNow_25 rfl ?_
    obtain ⟨g4, h⟩ := gd_some h
    refine k_iald hF shR_40 dX11_inferredNow_26 g4 ?_
    refine k_iconst hF dX11_inferredNow_27 ci_m1 ?_
    refine k_ixor hF dX11_inferredNow_28 ?_
    refine k_iand hF dX11_inferredNow_29 ?_
    obtain ⟨v5, hv5, h⟩ := bind_some h
    refine k_callS hF hA (as := [.int ((gi σ 41 x.2.toNatClampNeg) &&& ((gi σ 40 x.2.toNatClampNeg) ^^^ (-1 : Int32)))]) (ct_X11_size hbs hv5) ms_X11_214 rfl rfl ⟨Nat.le_of_ble_eq_true rfl, Nat.le_of_ble_eq_true rfl⟩ (Nat.le_of_ble_eq_true rfl) dX11_inferredNow_30 ?_
    refine k_st (st2 := [.int v5, .int x.1]) rfl ?_
    refine k_iadd hF dX11_inferredNow_33 ?_
    refine k_istore_n hF (L' := [some (.ref (B + 0)), some (.int (x.1 + v5)), some (.int x.2)]) dX11_inferredNow_34 (by decide) rfl ?_
    refine k_iinc hF (v := (x.2 + (1 : Int32))) (L' := [some (.ref (B + 0)), some (.int (x.1 + v5)), some (.int (x.2 + (1 : Int32)))]) dX11_inferredNow_35 rfl (by first | rfl | (congr 1)) (by decide) rfl ?_
    refine k_goto hF dX11_inferredNow_38 (tgt := 8) (by decide) ?_
    exact hc _ (Option.some.inj h).symm
set_option maxHeartbeats 4000000 in
set_option maxRecDepth 100000 in
theorem wX11_inferredNow {p : Program} {l : Launch} {e : Env} {s : State} {m : MethodId} {args : Array Value} {below : List Frame} {meth : Method} {c : Code} {Q : State → Prop} {A : Nat → Prop} {D : DD} {base B : Nat} (hF : KF D base cX11_inferredNow RX11 A 3 0 0 p l e ({ frames := 3, cells := 0, slots := 0, locals := 70 } : Room) s m args below meth c) (hA : ∀ q, RA B shpR q → A q) (hbs : base ≤ B) {σ : St} {z : (Int32 × St)} (h : fX11_inferredNow σ = some z) (hr : ∀ (pc : Nat) (L : List (Option Value)), narrow .int (.int z.1) = .int z.1 → decode cX11_inferredNow pc = .ok (.ireturn, 1) → KJ (Rep D B shpR) A 3 0 0 Q p l e ({ frames := 3, cells := 0, slots := 0, locals := 70 } : Room) s m args below meth c 0 0 pc L [.int z.1] z.2) : KJ (Rep D B shpR) A 3 0 0 Q p l e ({ frames := 3, cells := 0, slots := 0, locals := 70 } : Room) s m args below meth c 0 0 0 [some (.ref (B + 0)), none, none] [] σ := by
  unfold fX11_inferredNow at h
  refine k_aload_n hF dX11_inferredNow_0 rfl ?_
  obtain ⟨v1, hv1, h⟩ := bind_some h
  refine k_callV hF hA (as := []) (ct_X11_infers hbs hv1) mv_X11_248 shR_0 rfl rfl rfl ⟨Nat.le_of_ble_eq_true rfl, Nat.le_of_ble_eq_true rfl⟩ (Nat.le_of_ble_eq_true rfl) dX11_inferredNow_1 ?_
  refine k_st (st2 := []) rfl ?_
  refine k_iconst hF dX11_inferredNow_4 ci_0 ?_
  refine k_istore_n hF (L' := [some (.ref (B + 0)), some (.int (0 : Int32)), none]) dX11_inferredNow_5 (by decide) rfl ?_
  refine k_iconst hF dX11_inferredNow_6 ci_0 ?_
  refine k_istore_n hF (L' := [some (.ref (B + 0)), some (.int (0 : Int32)), some (.int (0 : Int32))]) dX11_inferredNow_7 (by decide) rfl ?_
  obtain ⟨x6, hx6, h⟩ := bind_some h
  refine k_loop (P := fun xq => KJ (Rep D B shpR) A 3 0 0 Q p l e ({ frames := 3, cells := 0, slots := 0, locals := 70 } : Room) s m args below meth c 0 0 8 [some (.ref (B + 0)), some (.int xq.1), some (.int xq.2)] [] v1) (C := fun xq => KJ (Rep D B shpR) A 3 0 0 Q p l e ({ frames := 3, cells := 0, slots := 0, locals := 70 } : Room) s m args below meth c 0 0 41 [some (.ref (B + 0)), some (.int xq.1), some (.int xq.2)] [] v1) (fun x z hz hc he => wX11_inferredNow_l8 hF hA hbs hz hc he) hx6 ?_
  show KJ (Rep D B shpR) A 3 0 0 Q p l e ({ frames := 3, cells := 0, slots := 0, locals := 70 } : Room) s m args below meth c 0 0 41 [some (.ref (B + 0)), some (.int x6.1), some (.int x6.2)] [] v1
  refine k_iload_n hF dX11_inferredNow_41 rfl ?_
  cases h
  exact hr _ _ rfl dX11_inferredNow_42
theorem ct_X11_inferredNow {l : Launch} {D : DD} {base B : Nat} (hbs : base ≤ B) {σ : St} {r : (Int32 × St)} (h : fX11_inferredNow σ = some r) : MetR l D B shpR base yX11_inferredNow cX11_inferredNow 3 (some .int) 3 70 [.ref (B + 0)] σ (some (.int r.1)) r.2 :=
  MetR.of (by decide +kernel) (fun v hv => by simp only [List.mem_cons, List.not_mem_nil, or_false] at hv; rcases hv with rfl <;> rfl) (Nat.le_of_ble_eq_true rfl) hbs (fun p e s m args below meth c hF hr => wX11_inferredNow hF (fun q hq => hq) hbs h (fun pc L hn hd => k_iret hF hr hn hd))
set_option maxHeartbeats 4000000 in
set_option maxRecDepth 100000 in
theorem wX11_rule_j52 {p : Program} {l : Launch} {e : Env} {s : State} {m : MethodId} {args : Array Value} {below : List Frame} {meth : Method} {c : Code} {Q : State → Prop} {A : Nat → Prop} {D : DD} {base B : Nat} (hF : KF D base cX11_rule RX11 A 5 0 0 p l e ({ frames := 2, cells := 0, slots := 0, locals := 42 } : Room) s m args below meth c) (hA : ∀ q, RA B shpR q → A q) (hbs : base ≤ B) {σ : St} {a1 : Int32} {a2 : Int32} {a3 : Int32} {t0 : Int32} {z : (Int32 × St)} (h : fX11_rule_j52 σ a1 a2 a3 t0 = some z) (hr : ∀ (pc : Nat) (L : List (Option Value)), narrow .int (.int z.1) = .int z.1 → decode cX11_rule pc = .ok (.ireturn, 1) → KJ (Rep D B shpR) A 5 0 0 Q p l e ({ frames := 2, cells := 0, slots := 0, locals := 42 } : Room) s m args below meth c 0 0 pc L [.int z.1] z.2) : KJ (Rep D B shpR) A 5 0 0 Q p l e ({ frames := 2, cells := 0, slots := 0, locals := 42 } : Room) s m args below meth c 0 0 52 [some (.ref (B + 0)), some (.int a1), some (.int a2), some (.int a3), none] [.int t0, .ref (B + 0)] σ := by
  unfold fX11_rule_j52 at h
  obtain ⟨v5, hv5, h⟩ := bind_some h
  refine k_callV hF hA (as := [.int t0]) (ct_X11_fails hbs hv5) mv_X11_181 shR_0 rfl rfl rfl ⟨Nat.le_of_ble_eq_true rfl, Nat.le_of_ble_eq_true rfl⟩ (Nat.le_of_ble_eq_true rfl) dX11_rule_52 ?_
  refine k_st (st2 := [.int v5.1]) rfl ?_
  refine k_if_eq hF (tgt := 60) dX11_rule_55 (by decide) (fun c6 => ?_) (fun c6 => ?_)
  · replace h := ite_t c6 h
    refine k_aload_n hF dX11_rule_60 rfl ?_
    refine k_get hF (v := .ref (B + 36)) shR_0 fl_X11_117_X11 dX11_rule_61 rfl ?_
    refine k_aload_n hF dX11_rule_64 rfl ?_
    refine k_get hF (v := .int (gi v5.2 0 42)) shR_0 fl_X11_242_X11 dX11_rule_65 rfl ?_
    refine k_iload_n hF dX11_rule_68 rfl ?_
    obtain ⟨g7, h⟩ := gd_some h
    refine k_iast hF hA shR_36 dX11_rule_69 g7 ?_
    obtain ⟨σ8, hσ8, h⟩ := lt_some h
    refine k_sig hσ8 ?_
    refine k_aload_n hF dX11_rule_70 rfl ?_
    refine k_get hF (v := .ref (B + 37)) shR_0 fl_X11_120_X11 dX11_rule_71 rfl ?_
    refine k_aload_n hF dX11_rule_74 rfl ?_
    refine k_get hF (v := .int (gi σ8 0 42)) shR_0 fl_X11_242_X11 dX11_rule_75 rfl ?_
    refine k_iload_n hF dX11_rule_78 rfl ?_
    obtain ⟨g9, h⟩ := gd_some h
    refine k_iast hF hA shR_37 dX11_rule_79 g9 ?_
    obtain ⟨σ10, hσ10, h⟩ := lt_some h
    refine k_sig hσ10 ?_
    refine k_aload_n hF dX11_rule_80 rfl ?_
    refine k_get hF (v := .ref (B + 38)) shR_0 fl_X11_123_X11 dX11_rule_81 rfl ?_
    refine k_aload_n hF dX11_rule_84 rfl ?_
    refine k_get hF (v := .int (gi σ10 0 42)) shR_0 fl_X11_242_X11 dX11_rule_85 rfl ?_
    refine k_iload_n hF dX11_rule_88 rfl ?_
    obtain ⟨g11, h⟩ := gd_some h
    refine k_iast hF hA shR_38 dX11_rule_89 g11 ?_
    obtain ⟨σ12, hσ12, h⟩ := lt_some h
    refine k_sig hσ12 ?_
    refine k_aload_n hF dX11_rule_90 rfl ?_
    refine k_dup hF dX11_rule_91 rfl ?_
    refine k_get hF (v := .int (gi σ12 0 42)) shR_0 fl_X11_242_X11 dX11_rule_92 rfl ?_
    refine k_iconst hF dX11_rule_95 ci_1 ?_
    refine k_iadd hF dX11_rule_96 ?_
    refine k_putI hF hA shR_0 fp_X11_242_X11 dX11_rule_97 rfl rfl rfl ?_
    obtain ⟨σ13, hσ13, h⟩ := lt_some h
    refine k_sig hσ13 ?_
    refine k_aload_n hF dX11_rule_100 rfl ?_
    refine k_get hF (v := .int (gi σ13 0 42)) shR_0 fl_X11_242_X11 dX11_rule_101 rfl ?_
    refine k_iconst hF dX11_rule_104 ci_1 ?_
    refine k_isub hF dX11_rule_105 ?_
    cases h
    exact hr _ _ rfl dX11_rule_106
  · replace h := ite_f c6 h
    refine k_iconst hF dX11_rule_58 ci_0 ?_
    cases h
    exact hr _ _ rfl dX11_rule_59
set_option maxHeartbeats 4000000 in
set_option maxRecDepth 100000 in
theorem wX11_rule_j26 {p : Program} {l : Launch} {e : Env} {s : State} {m : MethodId} {args : Array Value} {below : List Frame} {meth : Method} {c : Code} {Q : State → Prop} {A : Nat → Prop} {D : DD} {base B : Nat} (hF : KF D base cX11_rule RX11 A 5 0 0 p l e ({ frames := 2, cells := 0, slots := 0, locals := 42 } : Room) s m args below meth c) (hA : ∀ q, RA B shpR q → A q) (hbs : base ≤ B) {σ : St} {a1 : Int32} {a2 : Int32} {a3 : Int32} {t0 : Int32} {z : (Int32 × St)} (h : fX11_rule_j26 σ a1 a2 a3 t0 = some z) (hr : ∀ (pc : Nat) (L : List (Option Value)), narrow .int (.int z.1) = .int z.1 → decode cX11_rule pc = .ok (.ireturn, 1) → KJ (Rep D B shpR) A 5 0 0 Q p l e ({ frames := 2, cells := 0, slots := 0, locals := 42 } : Room) s m args below meth c 0 0 pc L [.int z.1] z.2) : KJ (Rep D B shpR) A 5 0 0 Q p l e ({ frames := 2, cells := 0, slots := 0, locals := 42 } : Room) s m args below meth c 0 0 26 [some (.ref (B + 0)), some (.int a1), some (.int a2), some (.int a3), none] [.int t0] σ := by
  unfold fX11_rule_j26 at h
  refine k_istore hF (L' := [some (.ref (B + 0)), some (.int a1), some (.int a2), some (.int a3), some (.int t0)]) dX11_rule_26 (by decide) rfl ?_
  refine k_aload_n hF dX11_rule_28 rfl ?_
  refine k_iload hF dX11_rule_29 rfl ?_
  refine k_if_ne hF (tgt := 38) dX11_rule_31 (by decide) (fun c3 => ?_) (fun c3 => ?_)
  · replace h := ite_f c3 h
    refine k_aload_n hF dX11_rule_38 rfl ?_
    refine k_get hF (v := .int (gi σ 0 42)) shR_0 fl_X11_242_X11 dX11_rule_39 rfl ?_
    refine k_bipush hF (v := (6 : Int32)) dX11_rule_42 (by decide) ?_
    refine k_icmp_ne hF (tgt := 51) dX11_rule_44 (by decide) (fun c4 => ?_) (fun c4 => ?_)
    · replace h := ite_f c4 h
      refine k_iconst hF dX11_rule_51 ci_0 ?_
      refine k_kill 4 rfl ?_
      exact wX11_rule_j52 hF hA hbs h hr
    · replace h := ite_t c4 h
      refine k_iconst hF dX11_rule_47 ci_2 ?_
      refine k_goto hF dX11_rule_48 (tgt := 52) (by decide) ?_
      refine k_kill 4 rfl ?_
      exact wX11_rule_j52 hF hA hbs h hr
  · replace h := ite_t c3 h
    refine k_iconst hF dX11_rule_34 ci_1 ?_
    refine k_goto hF dX11_rule_35 (tgt := 52) (by decide) ?_
    refine k_kill 4 rfl ?_
    exact wX11_rule_j52 hF hA hbs h hr
set_option maxHeartbeats 4000000 in
set_option maxRecDepth 100000 in
theorem wX11_rule_j25 {p : Program} {l : Launch} {e : Env} {s : State} {m : MethodId} {args : Array Value} {below : List Frame} {meth : Method} {c : Code} {Q : State → Prop} {A : Nat → Prop} {D : DD} {base B : Nat} (hF : KF D base cX11_rule RX11 A 5 0 0 p l e ({ frames := 2, cells := 0, slots := 0, locals := 42 } : Room) s m args below meth c) (hA : ∀ q, RA B shpR q → A q) (hbs : base ≤ B) {σ : St} {a1 : Int32} {a2 : Int32} {a3 : Int32} {z : (Int32 × St)} (h : fX11_rule_j25 σ a1 a2 a3 = some z) (hr : ∀ (pc : Nat) (L : List (Option Value)), narrow .int (.int z.1) = .int z.1 → decode cX11_rule pc = .ok (.ireturn, 1) → KJ (Rep D B shpR) A 5 0 0 Q p l e ({ frames := 2, cells := 0, slots := 0, locals := 42 } : Room) s m args below meth c 0 0 pc L [.int z.1] z.2) : KJ (Rep D B shpR) A 5 0 0 Q p l e ({ frames := 2, cells := 0, slots := 0, locals := 42 } : Room) s m args below meth c 0 0 25 [some (.ref (B + 0)), some (.int a1), some (.int a2), some (.int a3), none] [] σ := by
  unfold fX11_rule_j25 at h
  refine k_iconst hF dX11_rule_25 ci_0 ?_
  exact wX11_rule_j26 hF hA hbs h hr
set_option maxHeartbeats 4000000 in
set_option maxRecDepth 100000 in
theorem wX11_rule {p : Program} {l : Launch} {e : Env} {s : State} {m : MethodId} {args : Array Value} {below : List Frame} {meth : Method} {c : Code} {Q : State → Prop} {A : Nat → Prop} {D : DD} {base B : Nat} (hF : KF D base cX11_rule RX11 A 5 0 0 p l e ({ frames := 2, cells := 0, slots := 0, locals := 42 } : Room) s m args below meth c) (hA : ∀ q, RA B shpR q → A q) (hbs : base ≤ B) {σ : St} {a1 : Int32} {a2 : Int32} {a3 : Int32} {z : (Int32 × St)} (h : fX11_rule σ a1 a2 a3 = some z) (hr : ∀ (pc : Nat) (L : List (Option Value)), narrow .int (.int z.1) = .int z.1 → decode cX11_rule pc = .ok (.ireturn, 1) → KJ (Rep D B shpR) A 5 0 0 Q p l e ({ frames := 2, cells := 0, slots := 0, locals := 42 } : Room) s m args below meth c 0 0 pc L [.int z.1] z.2) : KJ (Rep D B shpR) A 5 0 0 Q p l e ({ frames := 2, cells := 0, slots := 0, locals := 42 } : Room) s m args below meth c 0 0 0 [some (.ref (B + 0)), some (.int a1), some (.int a2), some (.int a3), none] [] σ := by
  unfold fX11_rule at h
  refine k_iload_n hF dX11_rule_0 rfl ?_
  obtain ⟨v1, hv1, h⟩ := bind_some h
  refine k_callS hF hA (as := [.int a1]) (ct_X11_isLabel hbs hv1) ms_X11_171 rfl rfl ⟨Nat.le_of_ble_eq_true rfl, Nat.le_of_ble_eq_true rfl⟩ (Nat.le_of_ble_eq_true rfl) dX11_rule_1 ?_
  refine k_st (st2 := [.int v1]) rfl ?_
  refine k_if_eq hF (tgt := 25) dX11_rule_4 (by decide) (fun c2 => ?_) (fun c2 => ?_)
  · replace h := ite_t c2 h
    exact wX11_rule_j25 hF hA hbs h hr
  · replace h := ite_f c2 h
    refine k_iload_n hF dX11_rule_7 rfl ?_
    obtain ⟨v14, hv14, h⟩ := bind_some h
    refine k_callS hF hA (as := [.int a2]) (ct_X11_isLabel hbs hv14) ms_X11_171 rfl rfl ⟨Nat.le_of_ble_eq_true rfl, Nat.le_of_ble_eq_true rfl⟩ (Nat.le_of_ble_eq_true rfl) dX11_rule_8 ?_
    refine k_st (st2 := [.int v14]) rfl ?_
    refine k_if_eq hF (tgt := 25) dX11_rule_11 (by decide) (fun c15 => ?_) (fun c15 => ?_)
    · replace h := ite_t c15 h
      exact wX11_rule_j25 hF hA hbs h hr
    · replace h := ite_f c15 h
      refine k_iload_n hF dX11_rule_14 rfl ?_
      obtain ⟨v16, hv16, h⟩ := bind_some h
      refine k_callS hF hA (as := [.int a3]) (ct_X11_isLabel hbs hv16) ms_X11_171 rfl rfl ⟨Nat.le_of_ble_eq_true rfl, Nat.le_of_ble_eq_true rfl⟩ (Nat.le_of_ble_eq_true rfl) dX11_rule_15 ?_
      refine k_st (st2 := [.int v16]) rfl ?_
      refine k_if_eq hF (tgt := 25) dX11_rule_18 (by decide) (fun c17 => ?_) (fun c17 => ?_)
      · replace h := ite_t c17 h
        exact wX11_rule_j25 hF hA hbs h hr
      · replace h := ite_f c17 h
        refine k_iconst hF dX11_rule_21 ci_1 ?_
        refine k_goto hF dX11_rule_22 (tgt := 26) (by decide) ?_
        exact wX11_rule_j26 hF hA hbs h hr
theorem ct_X11_rule {l : Launch} {D : DD} {base B : Nat} (hbs : base ≤ B) {σ : St} {a1 : Int32} {a2 : Int32} {a3 : Int32} {r : (Int32 × St)} (h : fX11_rule σ a1 a2 a3 = some r) : MetR l D B shpR base yX11_rule cX11_rule 5 (some .int) 2 42 [.ref (B + 0), .int a1, .int a2, .int a3] σ (some (.int r.1)) r.2 :=
  MetR.of (by decide +kernel) (fun v hv => by simp only [List.mem_cons, List.not_mem_nil, or_false] at hv; rcases hv with rfl | rfl | rfl | rfl <;> rfl) (Nat.le_of_ble_eq_true rfl) hbs (fun p e s m args below meth c hF hr => wX11_rule hF (fun q hq => hq) hbs h (fun pc L hn hd => k_iret hF hr hn hd))
set_option maxHeartbeats 4000000 in
set_option maxRecDepth 100000 in
theorem wX11_dropRule_j29 {p : Program} {l : Launch} {e : Env} {s : State} {m : MethodId} {args : Array Value} {below : List Frame} {meth : Method} {c : Code} {Q : State → Prop} {A : Nat → Prop} {D : DD} {base B : Nat} (hF : KF D base cX11_dropRule RX11 A 3 0 0 p l e ({ frames := 4, cells := 0, slots := 0, locals := 92 } : Room) s m args below meth c) (hA : ∀ q, RA B shpR q → A q) (hbs : base ≤ B) {σ : St} {a1 : Int32} {t0 : Int32} {z : (Int32 × St)} (h : fX11_dropRule_j29 σ a1 t0 = some z) (hr : ∀ (pc : Nat) (L : List (Option Value)), narrow .int (.int z.1) = .int z.1 → decode cX11_dropRule pc = .ok (.ireturn, 1) → KJ (Rep D B shpR) A 3 0 0 Q p l e ({ frames := 4, cells := 0, slots := 0, locals := 92 } : Room) s m args below meth c 0 0 pc L [.int z.1] z.2) : KJ (Rep D B shpR) A 3 0 0 Q p l e ({ frames := 4, cells := 0, slots := 0, locals := 92 } : Room) s m args below meth c 0 0 29 [some (.ref (B + 0)), some (.int a1), none] [.int t0, .ref (B + 0)] σ := by
  unfold fX11_dropRule_j29 at h
  obtain ⟨v3, hv3, h⟩ := bind_some h
  refine k_callV hF hA (as := [.int t0]) (ct_X11_fails hbs hv3) mv_X11_181 shR_0 rfl rfl rfl ⟨Nat.le_of_ble_eq_true rfl, Nat.le_of_ble_eq_true rfl⟩ (Nat.le_of_ble_eq_true rfl) dX11_dropRule_29 ?_
  refine k_st (st2 := [.int v3.1]) rfl ?_
  refine k_if_eq hF (tgt := 37) dX11_dropRule_32 (by decide) (fun c4 => ?_) (fun c4 => ?_)
  · replace h := ite_t c4 h
    refine k_aload_n hF dX11_dropRule_37 rfl ?_
    obtain ⟨v5, hv5, h⟩ := bind_some h
    refine k_callV hF hA (as := []) (ct_X11_inferredNow hbs hv5) mv_X11_251 shR_0 rfl rfl rfl ⟨Nat.le_of_ble_eq_true rfl, Nat.le_of_ble_eq_true rfl⟩ (Nat.le_of_ble_eq_true rfl) dX11_dropRule_38 ?_
    refine k_st (st2 := [.int v5.1]) rfl ?_
    refine k_istore_n hF (L' := [some (.ref (B + 0)), some (.int a1), some (.int v5.1)]) dX11_dropRule_41 (by decide) rfl ?_
    refine k_aload_n hF dX11_dropRule_42 rfl ?_
    refine k_get hF (v := .ref (B + 39)) shR_0 fl_X11_126_X11 dX11_dropRule_43 rfl ?_
    refine k_iload_n hF dX11_dropRule_46 rfl ?_
    refine k_iconst hF dX11_dropRule_47 ci_1 ?_
    obtain ⟨g6, h⟩ := gd_some h
    refine k_zast hF hA shR_39 dX11_dropRule_48 g6 rfl ?_
    obtain ⟨σ7, hσ7, h⟩ := lt_some h
    refine k_sig hσ7 ?_
    refine k_iload_n hF dX11_dropRule_49 rfl ?_
    refine k_aload_n hF dX11_dropRule_50 rfl ?_
    obtain ⟨v8, hv8, h⟩ := bind_some h
    refine k_callV hF hA (as := []) (ct_X11_inferredNow hbs hv8) mv_X11_251 shR_0 rfl rfl rfl ⟨Nat.le_of_ble_eq_true rfl, Nat.le_of_ble_eq_true rfl⟩ (Nat.le_of_ble_eq_true rfl) dX11_dropRule_51 ?_
    refine k_st (st2 := [.int v8.1, .int v5.1]) rfl ?_
    refine k_isub hF dX11_dropRule_54 ?_
    cases h
    exact hr _ _ rfl dX11_dropRule_55
  · replace h := ite_f c4 h
    refine k_iconst hF dX11_dropRule_35 ci_0 ?_
    cases h
    exact hr _ _ rfl dX11_dropRule_36
set_option maxHeartbeats 4000000 in
set_option maxRecDepth 100000 in
theorem wX11_dropRule_j28 {p : Program} {l : Launch} {e : Env} {s : State} {m : MethodId} {args : Array Value} {below : List Frame} {meth : Method} {c : Code} {Q : State → Prop} {A : Nat → Prop} {D : DD} {base B : Nat} (hF : KF D base cX11_dropRule RX11 A 3 0 0 p l e ({ frames := 4, cells := 0, slots := 0, locals := 92 } : Room) s m args below meth c) (hA : ∀ q, RA B shpR q → A q) (hbs : base ≤ B) {σ : St} {a1 : Int32} {z : (Int32 × St)} (h : fX11_dropRule_j28 σ a1 = some z) (hr : ∀ (pc : Nat) (L : List (Option Value)), narrow .int (.int z.1) = .int z.1 → decode cX11_dropRule pc = .ok (.ireturn, 1) → KJ (Rep D B shpR) A 3 0 0 Q p l e ({ frames := 4, cells := 0, slots := 0, locals := 92 } : Room) s m args below meth c 0 0 pc L [.int z.1] z.2) : KJ (Rep D B shpR) A 3 0 0 Q p l e ({ frames := 4, cells := 0, slots := 0, locals := 92 } : Room) s m args below meth c 0 0 28 [some (.ref (B + 0)), some (.int a1), none] [.ref (B + 0)] σ := by
  unfold fX11_dropRule_j28 at h
  refine k_iconst hF dX11_dropRule_28 ci_1 ?_
  exact wX11_dropRule_j29 hF hA hbs h hr
set_option maxHeartbeats 4000000 in
set_option maxRecDepth 100000 in
theorem wX11_dropRule {p : Program} {l : Launch} {e : Env} {s : State} {m : MethodId} {args : Array Value} {below : List Frame} {meth : Method} {c : Code} {Q : State → Prop} {A : Nat → Prop} {D : DD} {base B : Nat} (hF : KF D base cX11_dropRule RX11 A 3 0 0 p l e ({ frames := 4, cells := 0, slots := 0, locals := 92 } : Room) s m args below meth c) (hA : ∀ q, RA B shpR q → A q) (hbs : base ≤ B) {σ : St} {a1 : Int32} {z : (Int32 × St)} (h : fX11_dropRule σ a1 = some z) (hr : ∀ (pc : Nat) (L : List (Option Value)), narrow .int (.int z.1) = .int z.1 → decode cX11_dropRule pc = .ok (.ireturn, 1) → KJ (Rep D B shpR) A 3 0 0 Q p l e ({ frames := 4, cells := 0, slots := 0, locals := 92 } : Room) s m args below meth c 0 0 pc L [.int z.1] z.2) : KJ (Rep D B shpR) A 3 0 0 Q p l e ({ frames := 4, cells := 0, slots := 0, locals := 92 } : Room) s m args below meth c 0 0 0 [some (.ref (B + 0)), some (.int a1), none] [] σ := by
  unfold fX11_dropRule at h
  refine k_aload_n hF dX11_dropRule_0 rfl ?_
  refine k_iload_n hF dX11_dropRule_1 rfl ?_
  refine k_iconst hF dX11_dropRule_2 ci_0 ?_
  refine k_aload_n hF dX11_dropRule_3 rfl ?_
  refine k_get hF (v := .int (gi σ 0 42)) shR_0 fl_X11_242_X11 dX11_dropRule_4 rfl ?_
  refine k_iconst hF dX11_dropRule_7 ci_1 ?_
  refine k_isub hF dX11_dropRule_8 ?_
  obtain ⟨v1, hv1, h⟩ := bind_some h
  refine k_callS hF hA (as := [.int a1, .int (0 : Int32), .int ((gi σ 0 42) - (1 : Int32))]) (ct_X11_isIn hbs hv1) ms_X11_146 rfl rfl ⟨Nat.le_of_ble_eq_true rfl, Nat.le_of_ble_eq_true rfl⟩ (Nat.le_of_ble_eq_true rfl) dX11_dropRule_9 ?_
  refine k_st (st2 := [.int v1, .ref (B + 0)]) rfl ?_
  refine k_if_eq hF (tgt := 28) dX11_dropRule_12 (by decide) (fun c2 => ?_) (fun c2 => ?_)
  · replace h := ite_t c2 h
    exact wX11_dropRule_j28 hF hA hbs h hr
  · replace h := ite_f c2 h
    refine k_aload_n hF dX11_dropRule_15 rfl ?_
    refine k_get hF (v := .ref (B + 39)) shR_0 fl_X11_126_X11 dX11_dropRule_16 rfl ?_
    refine k_iload_n hF dX11_dropRule_19 rfl ?_
    obtain ⟨g9, h⟩ := gd_some h
    refine k_zald hF shR_39 dX11_dropRule_20 g9 ?_
    refine k_if_ne hF (tgt := 28) dX11_dropRule_21 (by decide) (fun c10 => ?_) (fun c10 => ?_)
    · replace h := ite_f c10 h
      exact wX11_dropRule_j28 hF hA hbs h hr
    · replace h := ite_t c10 h
      refine k_iconst hF dX11_dropRule_24 ci_0 ?_
      refine k_goto hF dX11_dropRule_25 (tgt := 29) (by decide) ?_
      exact wX11_dropRule_j29 hF hA hbs h hr
theorem ct_X11_dropRule {l : Launch} {D : DD} {base B : Nat} (hbs : base ≤ B) {σ : St} {a1 : Int32} {r : (Int32 × St)} (h : fX11_dropRule σ a1 = some r) : MetR l D B shpR base yX11_dropRule cX11_dropRule 3 (some .int) 4 92 [.ref (B + 0), .int a1] σ (some (.int r.1)) r.2 :=
  MetR.of (by decide +kernel) (fun v hv => by simp only [List.mem_cons, List.not_mem_nil, or_false] at hv; rcases hv with rfl | rfl <;> rfl) (Nat.le_of_ble_eq_true rfl) hbs (fun p e s m args below meth c hF hr => wX11_dropRule hF (fun q hq => hq) hbs h (fun pc L hn hd => k_iret hF hr hn hd))
set_option maxHeartbeats 4000000 in
set_option maxRecDepth 100000 in
theorem wX11_inferred {p : Program} {l : Launch} {e : Env} {s : State} {m : MethodId} {args : Array Value} {below : List Frame} {meth : Method} {c : Code} {Q : State → Prop} {A : Nat → Prop} {D : DD} {base B : Nat} (hF : KF D base cX11_inferred RX11 A 1 0 0 p l e ({ frames := 4, cells := 0, slots := 0, locals := 92 } : Room) s m args below meth c) (hA : ∀ q, RA B shpR q → A q) (hbs : base ≤ B) {σ : St} {z : (Int32 × St)} (h : fX11_inferred σ = some z) (hr : ∀ (pc : Nat) (L : List (Option Value)), narrow .int (.int z.1) = .int z.1 → decode cX11_inferred pc = .ok (.ireturn, 1) → KJ (Rep D B shpR) A 1 0 0 Q p l e ({ frames := 4, cells := 0, slots := 0, locals := 92 } : Room) s m args below meth c 0 0 pc L [.int z.1] z.2) : KJ (Rep D B shpR) A 1 0 0 Q p l e ({ frames := 4, cells := 0, slots := 0, locals := 92 } : Room) s m args below meth c 0 0 0 [some (.ref (B + 0))] [] σ := by
  unfold fX11_inferred at h
  refine k_aload_n hF dX11_inferred_0 rfl ?_
  refine k_iconst hF dX11_inferred_1 ci_0 ?_
  refine k_putI hF hA shR_0 fp_X11_138_X11 dX11_inferred_2 rfl rfl rfl ?_
  obtain ⟨σ1, hσ1, h⟩ := lt_some h
  refine k_sig hσ1 ?_
  refine k_aload_n hF dX11_inferred_5 rfl ?_
  obtain ⟨v2, hv2, h⟩ := bind_some h
  refine k_callV hF hA (as := []) (ct_X11_inferredNow hbs hv2) mv_X11_251 shR_0 rfl rfl rfl ⟨Nat.le_of_ble_eq_true rfl, Nat.le_of_ble_eq_true rfl⟩ (Nat.le_of_ble_eq_true rfl) dX11_inferred_6 ?_
  refine k_st (st2 := [.int v2.1]) rfl ?_
  cases h
  exact hr _ _ rfl dX11_inferred_9
theorem ct_X11_inferred {l : Launch} {D : DD} {base B : Nat} (hbs : base ≤ B) {σ : St} {r : (Int32 × St)} (h : fX11_inferred σ = some r) : MetR l D B shpR base yX11_inferred cX11_inferred 1 (some .int) 4 92 [.ref (B + 0)] σ (some (.int r.1)) r.2 :=
  MetR.of (by decide +kernel) (fun v hv => by simp only [List.mem_cons, List.not_mem_nil, or_false] at hv; rcases hv with rfl <;> rfl) (Nat.le_of_ble_eq_true rfl) hbs (fun p e s m args below meth c hF hr => wX11_inferred hF (fun q hq => hq) hbs h (fun pc L hn hd => k_iret hF hr hn hd))
set_option maxHeartbeats 4000000 in
set_option maxRecDepth 100000 in
theorem wX11_reasons_j117 {p : Program} {l : Launch} {e : Env} {s : State} {m : MethodId} {args : Array Value} {below : List Frame} {meth : Method} {c : Code} {Q : State → Prop} {A : Nat → Prop} {D : DD} {base B : Nat} (hF : KF D base cX11_reasons RX11 A 8 0 0 p l e ({ frames := 3, cells := 0, slots := 0, locals := 70 } : Room) s m args below meth c) (hA : ∀ q, RA B shpR q → A q) (hbs : base ≤ B) {σ : St} {a1 : Int32} {a2 : Int32} {a3 : Int32} {b6 : Int32} {t0 : Int32} {t1 : Int32} {z : ((Int32 × Int32) ⊕ (Int32 × Int32))} (h : fX11_reasons_j117 σ a1 a2 a3 b6 t0 t1 = some z) (hc : ∀ x, z = .inl x → KJ (Rep D B shpR) A 8 0 0 Q p l e ({ frames := 3, cells := 0, slots := 0, locals := 70 } : Room) s m args below meth c 0 0 59 [some (.ref (B + 0)), some (.int a1), some (.int a2), some (.int a3), none, some (.int x.1), some (.int x.2), none] [] σ) (he : ∀ w, z = .inr w → KJ (Rep D B shpR) A 8 0 0 Q p l e ({ frames := 3, cells := 0, slots := 0, locals := 70 } : Room) s m args below meth c 0 0 126 [some (.ref (B + 0)), some (.int a1), some (.int a2), some (.int a3), none, some (.int w.1), some (.int w.2), none] [] σ) : KJ (Rep D B shpR) A 8 0 0 Q p l e ({ frames := 3, cells := 0, slots := 0, locals := 70 } : Room) s m args below meth c 0 0 117 [some (.ref (B + 0)), some (.int a1), some (.int a2), some (.int a3), none, none, some (.int b6), none] [.int t0, .int t1] σ := by
  unfold fX11_reasons_j117 at h
  refine k_iadd hF dX11_reasons_117 ?_
  refine k_istore hF (L' := [some (.ref (B + 0)), some (.int a1), some (.int a2), some (.int a3), none, some (.int (t1 + t0)), some (.int b6), none]) dX11_reasons_118 (by decide) rfl ?_
  refine k_iinc hF (v := (b6 + (1 : Int32))) (L' := [some (.ref (B + 0)), some (.int a1), some (.int a2), some (.int a3), none, some (.int (t1 + t0)), some (.int (b6 + (1 : Int32))), none]) dX11_reasons_120 rfl (by first | rfl | (congr 1)) (by decide) rfl ?_
  refine k_goto hF dX11_reasons_123 (tgt := 59) (by decide) ?_
  exact hc _ (Option.some.inj h).symm
set_option maxHeartbeats 4000000 in
set_option maxRecDepth 100000 in
theorem wX11_reasons_j116 {p : Program} {l : Launch} {e : Env} {s : State} {m : MethodId} {args : Array Value} {below : List Frame} {meth : Method} {c : Code} {Q : State → Prop} {A : Nat → Prop} {D : DD} {base B : Nat} (hF : KF D base cX11_reasons RX11 A 8 0 0 p l e ({ frames := 3, cells := 0, slots := 0, locals := 70 } : Room) s m args below meth c) (hA : ∀ q, RA B shpR q → A q) (hbs : base ≤ B) {σ : St} {a1 : Int32} {a2 : Int32} {a3 : Int32} {b6 : Int32} {t0 : Int32} {z : ((Int32 × Int32) ⊕ (Int32 × Int32))} (h : fX11_reasons_j116 σ a1 a2 a3 b6 t0 = some z) (hc : ∀ x, z = .inl x → KJ (Rep D B shpR) A 8 0 0 Q p l e ({ frames := 3, cells := 0, slots := 0, locals := 70 } : Room) s m args below meth c 0 0 59 [some (.ref (B + 0)), some (.int a1), some (.int a2), some (.int a3), none, some (.int x.1), some (.int x.2), none] [] σ) (he : ∀ w, z = .inr w → KJ (Rep D B shpR) A 8 0 0 Q p l e ({ frames := 3, cells := 0, slots := 0, locals := 70 } : Room) s m args below meth c 0 0 126 [some (.ref (B + 0)), some (.int a1), some (.int a2), some (.int a3), none, some (.int w.1), some (.int w.2), none] [] σ) : KJ (Rep D B shpR) A 8 0 0 Q p l e ({ frames := 3, cells := 0, slots := 0, locals := 70 } : Room) s m args below meth c 0 0 116 [some (.ref (B + 0)), some (.int a1), some (.int a2), some (.int a3), none, none, some (.int b6), none] [.int t0] σ := by
  unfold fX11_reasons_j116 at h
  refine k_iconst hF dX11_reasons_116 ci_0 ?_
  exact wX11_reasons_j117 hF hA hbs h hc he
set_option maxHeartbeats 4000000 in
set_option maxRecDepth 100000 in
theorem wX11_reasons_l59 {p : Program} {l : Launch} {e : Env} {s : State} {m : MethodId} {args : Array Value} {below : List Frame} {meth : Method} {c : Code} {Q : State → Prop} {A : Nat → Prop} {D : DD} {base B : Nat} (hF : KF D base cX11_reasons RX11 A 8 0 0 p l e ({ frames := 3, cells := 0, slots := 0, locals := 70 } : Room) s m args below meth c) (hA : ∀ q, RA B shpR q → A q) (hbs : base ≤ B) {σ : St} {a1 : Int32} {a2 : Int32} {a3 : Int32} {x : (Int32 × Int32)} {z : ((Int32 × Int32) ⊕ (Int32 × Int32))} (h : fX11_reasons_l59 σ a1 a2 a3 x = some z) (hc : ∀ x, z = .inl x → KJ (Rep D B shpR) A 8 0 0 Q p l e ({ frames := 3, cells := 0, slots := 0, locals := 70 } : Room) s m args below meth c 0 0 59 [some (.ref (B + 0)), some (.int a1), some (.int a2), some (.int a3), none, some (.int x.1), some (.int x.2), none] [] σ) (he : ∀ w, z = .inr w → KJ (Rep D B shpR) A 8 0 0 Q p l e ({ frames := 3, cells := 0, slots := 0, locals := 70 } : Room) s m args below meth c 0 0 126 [some (.ref (B + 0)), some (.int a1), some (.int a2), some (.int a3), none, some (.int w.1), some (.int w.2), none] [] σ) : KJ (Rep D B shpR) A 8 0 0 Q p l e ({ frames := 3, cells := 0, slots := 0, locals := 70 } : Room) s m args below meth c 0 0 59 [some (.ref (B + 0)), some (.int a1), some (.int a2), some (.int a3), none, some (.int x.1), some (.int x.2), none] [] σ := by
  unfold fX11_reasons_l59 at h
  refine k_iload hF dX11_reasons_59 rfl ?_
  refine k_aload_n hF dX11_reasons_61 rfl ?_
  refine k_get hF (v := .int (gi σ 0 15)) shR_0 fl_X11_154_X11 dX11_reasons_62 rfl ?_
  refine k_icmp_ge hF (tgt := 126) dX11_reasons_65 (by decide) (fun c7 => ?_) (fun c7 => ?_)
  · replace h := ite_t c7 h
    exact he _ (Option.some.inj h).symm
  · replace h := ite_f c7 h
    refine k_iload hF dX11_reasons_68 rfl ?_
    refine k_aload_n hF dX11_reasons_70 rfl ?_
    refine k_iload hF dX11_reasons_71 rfl ?_
    obtain ⟨v8, hv8, h⟩ := bind_some h
    refine k_callV hF hA (as := [.int x.2]) (ct_X11_isEdge hbs hv8) mv_X11_195 shR_0 rfl rfl rfl ⟨Nat.le_of_ble_eq_true rfl, Nat.le_of_ble_eq_true rfl⟩ (Nat.le_of_ble_eq_true rfl) dX11_reasons_73 ?_
    refine k_st (st2 := [.int v8, .int x.1]) rfl ?_
    refine k_if_eq hF (tgt := 116) dX11_reasons_76 (by decide) (fun c9 => ?_) (fun c9 => ?_)
    · replace h := ite_t c9 h
      refine k_kill 5 rfl ?_
      exact wX11_reasons_j116 hF hA hbs h hc he
    · replace h := ite_f c9 h
      refine k_aload_n hF dX11_reasons_79 rfl ?_
      refine k_get hF (v := .ref (B + 13)) shR_0 fl_X11_48_X11 dX11_reasons_80 rfl ?_
      refine k_iload hF dX11_reasons_83 rfl ?_
      obtain ⟨g10, h⟩ := gd_some h
      refine k_iald hF shR_13 dX11_reasons_85 g10 ?_
      refine k_iload_n hF dX11_reasons_86 rfl ?_
      refine k_icmp_ne hF (tgt := 116) dX11_reasons_87 (by decide) (fun c11 => ?_) (fun c11 => ?_)
      · replace h := ite_f c11 h
        refine k_kill 5 rfl ?_
        exact wX11_reasons_j116 hF hA hbs h hc he
      · replace h := ite_t c11 h
        refine k_aload_n hF dX11_reasons_90 rfl ?_
        refine k_get hF (v := .ref (B + 14)) shR_0 fl_X11_51_X11 dX11_reasons_91 rfl ?_
        refine k_iload hF dX11_reasons_94 rfl ?_
        obtain ⟨g12, h⟩ := gd_some h
        refine k_iald hF shR_14 dX11_reasons_96 g12 ?_
        refine k_iload_n hF dX11_reasons_97 rfl ?_
        refine k_icmp_ne hF (tgt := 116) dX11_reasons_98 (by decide) (fun c13 => ?_) (fun c13 => ?_)
        · replace h := ite_f c13 h
          refine k_kill 5 rfl ?_
          exact wX11_reasons_j116 hF hA hbs h hc he
        · replace h := ite_t c13 h
          refine k_aload_n hF dX11_reasons_101 rfl ?_
          refine k_get hF (v := .ref (B + 15)) shR_0 fl_X11_54_X11 dX11_reasons_102 rfl ?_
          refine k_iload hF dX11_reasons_105 rfl ?_
          obtain ⟨g14, h⟩ := gd_some h
          refine k_iald hF shR_15 dX11_reasons_107 g14 ?_
          refine k_iload_n hF dX11_reasons_108 rfl ?_
          refine k_icmp_ne hF (tgt := 116) dX11_reasons_109 (by decide) (fun c15 => ?_) (fun c15 => ?_)
          · replace h := ite_f c15 h
            refine k_kill 5 rfl ?_
            exact wX11_reasons_j116 hF hA hbs h hc he
          · replace h := ite_t c15 h
            refine k_iconst hF dX11_reasons_112 ci_1 ?_
            refine k_goto hF dX11_reasons_113 (tgt := 117) (by decide) ?_
            refine k_kill 5 rfl ?_
            exact wX11_reasons_j117 hF hA hbs h hc he
set_option maxHeartbeats 4000000 in
set_option maxRecDepth 100000 in
theorem wX11_reasons_j226 {p : Program} {l : Launch} {e : Env} {s : State} {m : MethodId} {args : Array Value} {below : List Frame} {meth : Method} {c : Code} {Q : State → Prop} {A : Nat → Prop} {D : DD} {base B : Nat} (hF : KF D base cX11_reasons RX11 A 8 0 0 p l e ({ frames := 3, cells := 0, slots := 0, locals := 70 } : Room) s m args below meth c) (hA : ∀ q, RA B shpR q → A q) (hbs : base ≤ B) {σ : St} {a1 : Int32} {a2 : Int32} {a3 : Int32} {ea6b : Int32} {b7 : Int32} {t0 : Int32} {t1 : Int32} {z : ((Int32 × Int32) ⊕ (Int32 × Int32))} (h : fX11_reasons_j226 σ a1 a2 a3 ea6b b7 t0 t1 = some z) (hc : ∀ x, z = .inl x → KJ (Rep D B shpR) A 8 0 0 Q p l e ({ frames := 3, cells := 0, slots := 0, locals := 70 } : Room) s m args below meth c 0 0 141 [some (.ref (B + 0)), some (.int a1), some (.int a2), some (.int a3), none, some (.int x.1), some (.int ea6b), some (.int x.2)] [] σ) (he : ∀ w, z = .inr w → KJ (Rep D B shpR) A 8 0 0 Q p l e ({ frames := 3, cells := 0, slots := 0, locals := 70 } : Room) s m args below meth c 0 0 235 [some (.ref (B + 0)), some (.int a1), some (.int a2), some (.int a3), none, some (.int w.1), some (.int ea6b), some (.int w.2)] [] σ) : KJ (Rep D B shpR) A 8 0 0 Q p l e ({ frames := 3, cells := 0, slots := 0, locals := 70 } : Room) s m args below meth c 0 0 226 [some (.ref (B + 0)), some (.int a1), some (.int a2), some (.int a3), none, none, some (.int ea6b), some (.int b7)] [.int t0, .int t1] σ := by
  unfold fX11_reasons_j226 at h
  refine k_iadd hF dX11_reasons_226 ?_
  refine k_istore hF (L' := [some (.ref (B + 0)), some (.int a1), some (.int a2), some (.int a3), none, some (.int (t1 + t0)), some (.int ea6b), some (.int b7)]) dX11_reasons_227 (by decide) rfl ?_
  refine k_iinc hF (v := (b7 + (1 : Int32))) (L' := [some (.ref (B + 0)), some (.int a1), some (.int a2), some (.int a3), none, some (.int (t1 + t0)), some (.int ea6b), some (.int (b7 + (1 : Int32)))]) dX11_reasons_229 rfl (by first | rfl | (congr 1)) (by decide) rfl ?_
  refine k_goto hF dX11_reasons_232 (tgt := 141) (by decide) ?_
  exact hc _ (Option.some.inj h).symm
set_option maxHeartbeats 4000000 in
set_option maxRecDepth 100000 in
theorem wX11_reasons_j225 {p : Program} {l : Launch} {e : Env} {s : State} {m : MethodId} {args : Array Value} {below : List Frame} {meth : Method} {c : Code} {Q : State → Prop} {A : Nat → Prop} {D : DD} {base B : Nat} (hF : KF D base cX11_reasons RX11 A 8 0 0 p l e ({ frames := 3, cells := 0, slots := 0, locals := 70 } : Room) s m args below meth c) (hA : ∀ q, RA B shpR q → A q) (hbs : base ≤ B) {σ : St} {a1 : Int32} {a2 : Int32} {a3 : Int32} {ea6b : Int32} {b7 : Int32} {t0 : Int32} {z : ((Int32 × Int32) ⊕ (Int32 × Int32))} (h : fX11_reasons_j225 σ a1 a2 a3 ea6b b7 t0 = some z) (hc : ∀ x, z = .inl x → KJ (Rep D B shpR) A 8 0 0 Q p l e ({ frames := 3, cells := 0, slots := 0, locals := 70 } : Room) s m args below meth c 0 0 141 [some (.ref (B + 0)), some (.int a1), some (.int a2), some (.int a3), none, some (.int x.1), some (.int ea6b), some (.int x.2)] [] σ) (he : ∀ w, z = .inr w → KJ (Rep D B shpR) A 8 0 0 Q p l e ({ frames := 3, cells := 0, slots := 0, locals := 70 } : Room) s m args below meth c 0 0 235 [some (.ref (B + 0)), some (.int a1), some (.int a2), some (.int a3), none, some (.int w.1), some (.int ea6b), some (.int w.2)] [] σ) : KJ (Rep D B shpR) A 8 0 0 Q p l e ({ frames := 3, cells := 0, slots := 0, locals := 70 } : Room) s m args below meth c 0 0 225 [some (.ref (B + 0)), some (.int a1), some (.int a2), some (.int a3), none, none, some (.int ea6b), some (.int b7)] [.int t0] σ := by
  unfold fX11_reasons_j225 at h
  refine k_iconst hF dX11_reasons_225 ci_0 ?_
  exact wX11_reasons_j226 hF hA hbs h hc he
set_option maxHeartbeats 4000000 in
set_option maxRecDepth 100000 in
theorem wX11_reasons_l141 {p : Program} {l : Launch} {e : Env} {s : State} {m : MethodId} {args : Array Value} {below : List Frame} {meth : Method} {c : Code} {Q : State → Prop} {A : Nat → Prop} {D : DD} {base B : Nat} (hF : KF D base cX11_reasons RX11 A 8 0 0 p l e ({ frames := 3, cells := 0, slots := 0, locals := 70 } : Room) s m args below meth c) (hA : ∀ q, RA B shpR q → A q) (hbs : base ≤ B) {σ : St} {a1 : Int32} {a2 : Int32} {a3 : Int32} {ea6b : Int32} {x : (Int32 × Int32)} {z : ((Int32 × Int32) ⊕ (Int32 × Int32))} (h : fX11_reasons_l141 σ a1 a2 a3 ea6b x = some z) (hc : ∀ x, z = .inl x → KJ (Rep D B shpR) A 8 0 0 Q p l e ({ frames := 3, cells := 0, slots := 0, locals := 70 } : Room) s m args below meth c 0 0 141 [some (.ref (B + 0)), some (.int a1), some (.int a2), some (.int a3), none, some (.int x.1), some (.int ea6b), some (.int x.2)] [] σ) (he : ∀ w, z = .inr w → KJ (Rep D B shpR) A 8 0 0 Q p l e ({ frames := 3, cells := 0, slots := 0, locals := 70 } : Room) s m args below meth c 0 0 235 [some (.ref (B + 0)), some (.int a1), some (.int a2), some (.int a3), none, some (.int w.1), some (.int ea6b), some (.int w.2)] [] σ) : KJ (Rep D B shpR) A 8 0 0 Q p l e ({ frames := 3, cells := 0, slots := 0, locals := 70 } : Room) s m args below meth c 0 0 141 [some (.ref (B + 0)), some (.int a1), some (.int a2), some (.int a3), none, some (.int x.1), some (.int ea6b), some (.int x.2)] [] σ := by
  unfold fX11_reasons_l141 at h
  refine k_iload hF dX11_reasons_141 rfl ?_
  refine k_bipush hF (v := (24 : Int32)) dX11_reasons_143 (by decide) ?_
  refine k_icmp_ge hF (tgt := 235) dX11_reasons_145 (by decide) (fun c18 => ?_) (fun c18 => ?_)
  · replace h := ite_t c18 h
    exact he _ (Option.some.inj h).symm
  · replace h := ite_f c18 h
    refine k_aload_n hF dX11_reasons_148 rfl ?_
    refine k_get hF (v := .ref (B + 39)) shR_0 fl_X11_126_X11 dX11_reasons_149 rfl ?_
    refine k_iload hF dX11_reasons_152 rfl ?_
    obtain ⟨g19, h⟩ := gd_some h
    refine k_zald hF shR_39 dX11_reasons_154 g19 ?_
    refine k_if_ne hF (tgt := 235) dX11_reasons_155 (by decide) (fun c20 => ?_) (fun c20 => ?_)
    · replace h := ite_f c20 h
      exact he _ (Option.some.inj h).symm
    · replace h := ite_t c20 h
      refine k_aload_n hF dX11_reasons_158 rfl ?_
      refine k_get hF (v := .ref (B + 38)) shR_0 fl_X11_123_X11 dX11_reasons_159 rfl ?_
      refine k_iload hF dX11_reasons_162 rfl ?_
      obtain ⟨g21, h⟩ := gd_some h
      refine k_iald hF shR_38 dX11_reasons_164 g21 ?_
      refine k_iload_n hF dX11_reasons_165 rfl ?_
      refine k_icmp_ne hF (tgt := 235) dX11_reasons_166 (by decide) (fun c22 => ?_) (fun c22 => ?_)
      · replace h := ite_f c22 h
        exact he _ (Option.some.inj h).symm
      · replace h := ite_t c22 h
        refine k_iload hF dX11_reasons_169 rfl ?_
        refine k_aload_n hF dX11_reasons_171 rfl ?_
        refine k_get hF (v := .ref (B + 41)) shR_0 fl_X11_132_X11 dX11_reasons_172 rfl ?_
        refine k_bipush hF (v := (24 : Int32)) dX11_reasons_175 (by decide) ?_
        refine k_aload_n hF dX11_reasons_177 rfl ?_
        refine k_get hF (v := .ref (B + 36)) shR_0 fl_X11_117_X11 dX11_reasons_178 rfl ?_
        refine k_iload hF dX11_reasons_181 rfl ?_
        obtain ⟨g23, h⟩ := gd_some h
        refine k_iald hF shR_36 dX11_reasons_183 g23 ?_
        refine k_imul hF dX11_reasons_184 ?_
        refine k_iload_n hF dX11_reasons_185 rfl ?_
        refine k_iadd hF dX11_reasons_186 ?_
        obtain ⟨g24, h⟩ := gd_some h
        refine k_iald hF shR_41 dX11_reasons_187 g24 ?_
        refine k_iload hF dX11_reasons_188 rfl ?_
        obtain ⟨v25, hv25, h⟩ := bind_some h
        refine k_callS hF hA (as := [.int (gi σ 41 (((24 : Int32) * (gi σ 36 ea6b.toNatClampNeg)) + a1).toNatClampNeg), .int x.2]) (ct_X11_has hbs hv25) ms_X11_142 rfl rfl ⟨Nat.le_of_ble_eq_true rfl, Nat.le_of_ble_eq_true rfl⟩ (Nat.le_of_ble_eq_true rfl) dX11_reasons_190 ?_
        refine k_st (st2 := [.int v25, .int x.1]) rfl ?_
        refine k_if_eq hF (tgt := 225) dX11_reasons_193 (by decide) (fun c26 => ?_) (fun c26 => ?_)
        · replace h := ite_t c26 h
          refine k_kill 5 rfl ?_
          exact wX11_reasons_j225 hF hA hbs h hc he
        · replace h := ite_f c26 h
          refine k_aload_n hF dX11_reasons_196 rfl ?_
          refine k_get hF (v := .ref (B + 41)) shR_0 fl_X11_132_X11 dX11_reasons_197 rfl ?_
          refine k_bipush hF (v := (24 : Int32)) dX11_reasons_200 (by decide) ?_
          refine k_aload_n hF dX11_reasons_202 rfl ?_
          refine k_get hF (v := .ref (B + 37)) shR_0 fl_X11_120_X11 dX11_reasons_203 rfl ?_
          refine k_iload hF dX11_reasons_206 rfl ?_
          obtain ⟨g27, h⟩ := gd_some h
          refine k_iald hF shR_37 dX11_reasons_208 g27 ?_
          refine k_imul hF dX11_reasons_209 ?_
          refine k_iload hF dX11_reasons_210 rfl ?_
          refine k_iadd hF dX11_reasons_212 ?_
          obtain ⟨g28, h⟩ := gd_some h
          refine k_iald hF shR_41 dX11_reasons_213 g28 ?_
          refine k_iload_n hF dX11_reasons_214 rfl ?_
          obtain ⟨v29, hv29, h⟩ := bind_some h
          refine k_callS hF hA (as := [.int (gi σ 41 (((24 : Int32) * (gi σ 37 ea6b.toNatClampNeg)) + x.2).toNatClampNeg), .int a3]) (ct_X11_has hbs hv29) ms_X11_142 rfl rfl ⟨Nat.le_of_ble_eq_true rfl, Nat.le_of_ble_eq_true rfl⟩ (Nat.le_of_ble_eq_true rfl) dX11_reasons_215 ?_
          refine k_st (st2 := [.int v29, .int x.1]) rfl ?_
          refine k_if_eq hF (tgt := 225) dX11_reasons_218 (by decide) (fun c30 => ?_) (fun c30 => ?_)
          · replace h := ite_t c30 h
            refine k_kill 5 rfl ?_
            exact wX11_reasons_j225 hF hA hbs h hc he
          · replace h := ite_f c30 h
            refine k_iconst hF dX11_reasons_221 ci_1 ?_
            refine k_goto hF dX11_reasons_222 (tgt := 226) (by decide) ?_
            refine k_kill 5 rfl ?_
            exact wX11_reasons_j226 hF hA hbs h hc he
set_option maxHeartbeats 4000000 in
set_option maxRecDepth 100000 in
theorem wX11_reasons_l129 {p : Program} {l : Launch} {e : Env} {s : State} {m : MethodId} {args : Array Value} {below : List Frame} {meth : Method} {c : Code} {Q : State → Prop} {A : Nat → Prop} {D : DD} {base B : Nat} (hF : KF D base cX11_reasons RX11 A 8 0 0 p l e ({ frames := 3, cells := 0, slots := 0, locals := 70 } : Room) s m args below meth c) (hA : ∀ q, RA B shpR q → A q) (hbs : base ≤ B) {σ : St} {a1 : Int32} {a2 : Int32} {a3 : Int32} {x : (Int32 × Int32)} {z : ((Int32 × Int32) ⊕ (Int32 × Int32))} (h : fX11_reasons_l129 σ a1 a2 a3 x = some z) (hc : ∀ x, z = .inl x → KJ (Rep D B shpR) A 8 0 0 Q p l e ({ frames := 3, cells := 0, slots := 0, locals := 70 } : Room) s m args below meth c 0 0 129 [some (.ref (B + 0)), some (.int a1), some (.int a2), some (.int a3), none, some (.int x.1), some (.int x.2), none] [] σ) (he : ∀ w, z = .inr w → KJ (Rep D B shpR) A 8 0 0 Q p l e ({ frames := 3, cells := 0, slots := 0, locals := 70 } : Room) s m args below meth c 0 0 241 [some (.ref (B + 0)), some (.int a1), some (.int a2), some (.int a3), none, some (.int w.1), some (.int w.2), none] [] σ) : KJ (Rep D B shpR) A 8 0 0 Q p l e ({ frames := 3, cells := 0, slots := 0, locals := 70 } : Room) s m args below meth c 0 0 129 [some (.ref (B + 0)), some (.int a1), some (.int a2), some (.int a3), none, some (.int x.1), some (.int x.2), none] [] σ := by
  unfold fX11_reasons_l129 at h
  refine k_iload hF dX11_reasons_129 rfl ?_
  refine k_aload_n hF dX11_reasons_131 rfl ?_
  refine k_get hF (v := .int (gi σ 0 42)) shR_0 fl_X11_242_X11 dX11_reasons_132 rfl ?_
  refine k_icmp_ge hF (tgt := 241) dX11_reasons_135 (by decide) (fun c17 => ?_) (fun c17 => ?_)
  · replace h := ite_t c17 h
    exact he _ (Option.some.inj h).symm
  · replace h := ite_f c17 h
    refine k_iconst hF dX11_reasons_138 ci_0 ?_
    refine k_istore hF (L' := [some (.ref (B + 0)), some (.int a1), some (.int a2), some (.int a3), none, some (.int x.1), some (.int x.2), some (.int (0 : Int32))]) dX11_reasons_139 (by decide) rfl ?_
    obtain ⟨x31, hx31, h⟩ := bind_some h
    refine k_loop (P := fun xq => KJ (Rep D B shpR) A 8 0 0 Q p l e ({ frames := 3, cells := 0, slots := 0, locals := 70 } : Room) s m args below meth c 0 0 141 [some (.ref (B + 0)), some (.int a1), some (.int a2), some (.int a3), none, some (.int xq.1), some (.int x.2), some (.int xq.2)] [] σ) (C := fun xq => KJ (Rep D B shpR) A 8 0 0 Q p l e ({ frames := 3, cells := 0, slots := 0, locals := 70 } : Room) s m args below meth c 0 0 235 [some (.ref (B + 0)), some (.int a1), some (.int a2), some (.int a3), none, some (.int xq.1), some (.int x.2), some (.int xq.2)] [] σ) (fun x z hz hc he => wX11_reasons_l141 hF hA hbs hz hc he) hx31 ?_
    show KJ (Rep D B shpR) A 8 0 0 Q p l e ({ frames := 3, cells := 0, slots := 0, locals := 70 } : Room) s m args below meth c 0 0 235 [some (.ref (B + 0)), some (.int a1), some (.int a2), some (.int a3), none, some (.int x31.1), some (.int x.2), some (.int x31.2)] [] σ
    refine k_iinc hF (v := (x.2 + (1 : Int32))) (L' := [some (.ref (B + 0)), some (.int a1), some (.int a2), some (.int a3), none, some (.int x31.1), some (.int (x.2 + (1 : Int32))), some (.int x31.2)]) dX11_reasons_235 rfl (by first | rfl | (congr 1)) (by decide) rfl ?_
    refine k_goto hF dX11_reasons_238 (tgt := 129) (by decide) ?_
    refine k_kill 7 rfl ?_
    exact hc _ (Option.some.inj h).symm
set_option maxHeartbeats 4000000 in
set_option maxRecDepth 100000 in
theorem wX11_reasons_j41 {p : Program} {l : Launch} {e : Env} {s : State} {m : MethodId} {args : Array Value} {below : List Frame} {meth : Method} {c : Code} {Q : State → Prop} {A : Nat → Prop} {D : DD} {base B : Nat} (hF : KF D base cX11_reasons RX11 A 8 0 0 p l e ({ frames := 3, cells := 0, slots := 0, locals := 70 } : Room) s m args below meth c) (hA : ∀ q, RA B shpR q → A q) (hbs : base ≤ B) {σ : St} {a1 : Int32} {a2 : Int32} {a3 : Int32} {t0 : Int32} {z : (Int32 × St)} (h : fX11_reasons_j41 σ a1 a2 a3 t0 = some z) (hr : ∀ (pc : Nat) (L : List (Option Value)), narrow .int (.int z.1) = .int z.1 → decode cX11_reasons pc = .ok (.ireturn, 1) → KJ (Rep D B shpR) A 8 0 0 Q p l e ({ frames := 3, cells := 0, slots := 0, locals := 70 } : Room) s m args below meth c 0 0 pc L [.int z.1] z.2) : KJ (Rep D B shpR) A 8 0 0 Q p l e ({ frames := 3, cells := 0, slots := 0, locals := 70 } : Room) s m args below meth c 0 0 41 [some (.ref (B + 0)), some (.int a1), some (.int a2), some (.int a3), none, none, none, none] [.int t0, .ref (B + 0)] σ := by
  unfold fX11_reasons_j41 at h
  obtain ⟨v4, hv4, h⟩ := bind_some h
  refine k_callV hF hA (as := [.int t0]) (ct_X11_fails hbs hv4) mv_X11_181 shR_0 rfl rfl rfl ⟨Nat.le_of_ble_eq_true rfl, Nat.le_of_ble_eq_true rfl⟩ (Nat.le_of_ble_eq_true rfl) dX11_reasons_41 ?_
  refine k_st (st2 := [.int v4.1]) rfl ?_
  refine k_if_eq hF (tgt := 49) dX11_reasons_44 (by decide) (fun c5 => ?_) (fun c5 => ?_)
  · replace h := ite_t c5 h
    refine k_aload_n hF dX11_reasons_49 rfl ?_
    obtain ⟨v6, hv6, h⟩ := bind_some h
    refine k_callV hF hA (as := []) (ct_X11_infers hbs hv6) mv_X11_248 shR_0 rfl rfl rfl ⟨Nat.le_of_ble_eq_true rfl, Nat.le_of_ble_eq_true rfl⟩ (Nat.le_of_ble_eq_true rfl) dX11_reasons_50 ?_
    refine k_st (st2 := []) rfl ?_
    refine k_iconst hF dX11_reasons_53 ci_0 ?_
    refine k_istore hF (L' := [some (.ref (B + 0)), some (.int a1), some (.int a2), some (.int a3), none, some (.int (0 : Int32)), none, none]) dX11_reasons_54 (by decide) rfl ?_
    refine k_iconst hF dX11_reasons_56 ci_0 ?_
    refine k_istore hF (L' := [some (.ref (B + 0)), some (.int a1), some (.int a2), some (.int a3), none, some (.int (0 : Int32)), some (.int (0 : Int32)), none]) dX11_reasons_57 (by decide) rfl ?_
    obtain ⟨x16, hx16, h⟩ := bind_some h
    refine k_loop (P := fun xq => KJ (Rep D B shpR) A 8 0 0 Q p l e ({ frames := 3, cells := 0, slots := 0, locals := 70 } : Room) s m args below meth c 0 0 59 [some (.ref (B + 0)), some (.int a1), some (.int a2), some (.int a3), none, some (.int xq.1), some (.int xq.2), none] [] v6) (C := fun xq => KJ (Rep D B shpR) A 8 0 0 Q p l e ({ frames := 3, cells := 0, slots := 0, locals := 70 } : Room) s m args below meth c 0 0 126 [some (.ref (B + 0)), some (.int a1), some (.int a2), some (.int a3), none, some (.int xq.1), some (.int xq.2), none] [] v6) (fun x z hz hc he => wX11_reasons_l59 hF hA hbs hz hc he) hx16 ?_
    show KJ (Rep D B shpR) A 8 0 0 Q p l e ({ frames := 3, cells := 0, slots := 0, locals := 70 } : Room) s m args below meth c 0 0 126 [some (.ref (B + 0)), some (.int a1), some (.int a2), some (.int a3), none, some (.int x16.1), some (.int x16.2), none] [] v6
    refine k_iconst hF dX11_reasons_126 ci_0 ?_
    refine k_istore hF (L' := [some (.ref (B + 0)), some (.int a1), some (.int a2), some (.int a3), none, some (.int x16.1), some (.int (0 : Int32)), none]) dX11_reasons_127 (by decide) rfl ?_
    obtain ⟨x32, hx32, h⟩ := bind_some h
    refine k_loop (P := fun xq => KJ (Rep D B shpR) A 8 0 0 Q p l e ({ frames := 3, cells := 0, slots := 0, locals := 70 } : Room) s m args below meth c 0 0 129 [some (.ref (B + 0)), some (.int a1), some (.int a2), some (.int a3), none, some (.int xq.1), some (.int xq.2), none] [] v6) (C := fun xq => KJ (Rep D B shpR) A 8 0 0 Q p l e ({ frames := 3, cells := 0, slots := 0, locals := 70 } : Room) s m args below meth c 0 0 241 [some (.ref (B + 0)), some (.int a1), some (.int a2), some (.int a3), none, some (.int xq.1), some (.int xq.2), none] [] v6) (fun x z hz hc he => wX11_reasons_l129 hF hA hbs hz hc he) hx32 ?_
    show KJ (Rep D B shpR) A 8 0 0 Q p l e ({ frames := 3, cells := 0, slots := 0, locals := 70 } : Room) s m args below meth c 0 0 241 [some (.ref (B + 0)), some (.int a1), some (.int a2), some (.int a3), none, some (.int x32.1), some (.int x32.2), none] [] v6
    refine k_iload hF dX11_reasons_241 rfl ?_
    cases h
    exact hr _ _ rfl dX11_reasons_243
  · replace h := ite_f c5 h
    refine k_iconst hF dX11_reasons_47 ci_0 ?_
    cases h
    exact hr _ _ rfl dX11_reasons_48
set_option maxHeartbeats 4000000 in
set_option maxRecDepth 100000 in
theorem wX11_reasons_j28 {p : Program} {l : Launch} {e : Env} {s : State} {m : MethodId} {args : Array Value} {below : List Frame} {meth : Method} {c : Code} {Q : State → Prop} {A : Nat → Prop} {D : DD} {base B : Nat} (hF : KF D base cX11_reasons RX11 A 8 0 0 p l e ({ frames := 3, cells := 0, slots := 0, locals := 70 } : Room) s m args below meth c) (hA : ∀ q, RA B shpR q → A q) (hbs : base ≤ B) {σ : St} {a1 : Int32} {a2 : Int32} {a3 : Int32} {t0 : Int32} {z : (Int32 × St)} (h : fX11_reasons_j28 σ a1 a2 a3 t0 = some z) (hr : ∀ (pc : Nat) (L : List (Option Value)), narrow .int (.int z.1) = .int z.1 → decode cX11_reasons pc = .ok (.ireturn, 1) → KJ (Rep D B shpR) A 8 0 0 Q p l e ({ frames := 3, cells := 0, slots := 0, locals := 70 } : Room) s m args below meth c 0 0 pc L [.int z.1] z.2) : KJ (Rep D B shpR) A 8 0 0 Q p l e ({ frames := 3, cells := 0, slots := 0, locals := 70 } : Room) s m args below meth c 0 0 28 [some (.ref (B + 0)), some (.int a1), some (.int a2), some (.int a3), none, none, none, none] [.int t0] σ := by
  unfold fX11_reasons_j28 at h
  refine k_istore hF (L' := [some (.ref (B + 0)), some (.int a1), some (.int a2), some (.int a3), some (.int t0), none, none, none]) dX11_reasons_28 (by decide) rfl ?_
  refine k_aload_n hF dX11_reasons_30 rfl ?_
  refine k_iload hF dX11_reasons_31 rfl ?_
  refine k_if_eq hF (tgt := 40) dX11_reasons_33 (by decide) (fun c3 => ?_) (fun c3 => ?_)
  · replace h := ite_t c3 h
    refine k_iconst hF dX11_reasons_40 ci_1 ?_
    refine k_kill 4 rfl ?_
    exact wX11_reasons_j41 hF hA hbs h hr
  · replace h := ite_f c3 h
    refine k_iconst hF dX11_reasons_36 ci_0 ?_
    refine k_goto hF dX11_reasons_37 (tgt := 41) (by decide) ?_
    refine k_kill 4 rfl ?_
    exact wX11_reasons_j41 hF hA hbs h hr
set_option maxHeartbeats 4000000 in
set_option maxRecDepth 100000 in
theorem wX11_reasons_j27 {p : Program} {l : Launch} {e : Env} {s : State} {m : MethodId} {args : Array Value} {below : List Frame} {meth : Method} {c : Code} {Q : State → Prop} {A : Nat → Prop} {D : DD} {base B : Nat} (hF : KF D base cX11_reasons RX11 A 8 0 0 p l e ({ frames := 3, cells := 0, slots := 0, locals := 70 } : Room) s m args below meth c) (hA : ∀ q, RA B shpR q → A q) (hbs : base ≤ B) {σ : St} {a1 : Int32} {a2 : Int32} {a3 : Int32} {z : (Int32 × St)} (h : fX11_reasons_j27 σ a1 a2 a3 = some z) (hr : ∀ (pc : Nat) (L : List (Option Value)), narrow .int (.int z.1) = .int z.1 → decode cX11_reasons pc = .ok (.ireturn, 1) → KJ (Rep D B shpR) A 8 0 0 Q p l e ({ frames := 3, cells := 0, slots := 0, locals := 70 } : Room) s m args below meth c 0 0 pc L [.int z.1] z.2) : KJ (Rep D B shpR) A 8 0 0 Q p l e ({ frames := 3, cells := 0, slots := 0, locals := 70 } : Room) s m args below meth c 0 0 27 [some (.ref (B + 0)), some (.int a1), some (.int a2), some (.int a3), none, none, none, none] [] σ := by
  unfold fX11_reasons_j27 at h
  refine k_iconst hF dX11_reasons_27 ci_0 ?_
  exact wX11_reasons_j28 hF hA hbs h hr
set_option maxHeartbeats 4000000 in
set_option maxRecDepth 100000 in
theorem wX11_reasons {p : Program} {l : Launch} {e : Env} {s : State} {m : MethodId} {args : Array Value} {below : List Frame} {meth : Method} {c : Code} {Q : State → Prop} {A : Nat → Prop} {D : DD} {base B : Nat} (hF : KF D base cX11_reasons RX11 A 8 0 0 p l e ({ frames := 3, cells := 0, slots := 0, locals := 70 } : Room) s m args below meth c) (hA : ∀ q, RA B shpR q → A q) (hbs : base ≤ B) {σ : St} {a1 : Int32} {a2 : Int32} {a3 : Int32} {z : (Int32 × St)} (h : fX11_reasons σ a1 a2 a3 = some z) (hr : ∀ (pc : Nat) (L : List (Option Value)), narrow .int (.int z.1) = .int z.1 → decode cX11_reasons pc = .ok (.ireturn, 1) → KJ (Rep D B shpR) A 8 0 0 Q p l e ({ frames := 3, cells := 0, slots := 0, locals := 70 } : Room) s m args below meth c 0 0 pc L [.int z.1] z.2) : KJ (Rep D B shpR) A 8 0 0 Q p l e ({ frames := 3, cells := 0, slots := 0, locals := 70 } : Room) s m args below meth c 0 0 0 [some (.ref (B + 0)), some (.int a1), some (.int a2), some (.int a3), none, none, none, none] [] σ := by
  unfold fX11_reasons at h
  refine k_aload_n hF dX11_reasons_0 rfl ?_
  refine k_iload_n hF dX11_reasons_1 rfl ?_
  obtain ⟨v1, hv1, h⟩ := bind_some h
  refine k_callV hF hA (as := [.int a1]) (ct_X11_isNode hbs hv1) mv_X11_163 shR_0 rfl rfl rfl ⟨Nat.le_of_ble_eq_true rfl, Nat.le_of_ble_eq_true rfl⟩ (Nat.le_of_ble_eq_true rfl) dX11_reasons_2 ?_
  refine k_st (st2 := [.int v1]) rfl ?_
  refine k_if_eq hF (tgt := 27) dX11_reasons_5 (by decide) (fun c2 => ?_) (fun c2 => ?_)
  · replace h := ite_t c2 h
    exact wX11_reasons_j27 hF hA hbs h hr
  · replace h := ite_f c2 h
    refine k_aload_n hF dX11_reasons_8 rfl ?_
    refine k_iload_n hF dX11_reasons_9 rfl ?_
    obtain ⟨v33, hv33, h⟩ := bind_some h
    refine k_callV hF hA (as := [.int a3]) (ct_X11_isNode hbs hv33) mv_X11_163 shR_0 rfl rfl rfl ⟨Nat.le_of_ble_eq_true rfl, Nat.le_of_ble_eq_true rfl⟩ (Nat.le_of_ble_eq_true rfl) dX11_reasons_10 ?_
    refine k_st (st2 := [.int v33]) rfl ?_
    refine k_if_eq hF (tgt := 27) dX11_reasons_13 (by decide) (fun c34 => ?_) (fun c34 => ?_)
    · replace h := ite_t c34 h
      exact wX11_reasons_j27 hF hA hbs h hr
    · replace h := ite_f c34 h
      refine k_iload_n hF dX11_reasons_16 rfl ?_
      obtain ⟨v35, hv35, h⟩ := bind_some h
      refine k_callS hF hA (as := [.int a2]) (ct_X11_isLabel hbs hv35) ms_X11_171 rfl rfl ⟨Nat.le_of_ble_eq_true rfl, Nat.le_of_ble_eq_true rfl⟩ (Nat.le_of_ble_eq_true rfl) dX11_reasons_17 ?_
      refine k_st (st2 := [.int v35]) rfl ?_
      refine k_if_eq hF (tgt := 27) dX11_reasons_20 (by decide) (fun c36 => ?_) (fun c36 => ?_)
      · replace h := ite_t c36 h
        exact wX11_reasons_j27 hF hA hbs h hr
      · replace h := ite_f c36 h
        refine k_iconst hF dX11_reasons_23 ci_1 ?_
        refine k_goto hF dX11_reasons_24 (tgt := 28) (by decide) ?_
        exact wX11_reasons_j28 hF hA hbs h hr
theorem ct_X11_reasons {l : Launch} {D : DD} {base B : Nat} (hbs : base ≤ B) {σ : St} {a1 : Int32} {a2 : Int32} {a3 : Int32} {r : (Int32 × St)} (h : fX11_reasons σ a1 a2 a3 = some r) : MetR l D B shpR base yX11_reasons cX11_reasons 8 (some .int) 3 70 [.ref (B + 0), .int a1, .int a2, .int a3] σ (some (.int r.1)) r.2 :=
  MetR.of (by decide +kernel) (fun v hv => by simp only [List.mem_cons, List.not_mem_nil, or_false] at hv; rcases hv with rfl | rfl | rfl | rfl <;> rfl) (Nat.le_of_ble_eq_true rfl) hbs (fun p e s m args below meth c hF hr => wX11_reasons hF (fun q hq => hq) hbs h (fun pc L hn hd => k_iret hF hr hn hd))
set_option maxHeartbeats 4000000 in
set_option maxRecDepth 100000 in
theorem wX11_needed {p : Program} {l : Launch} {e : Env} {s : State} {m : MethodId} {args : Array Value} {below : List Frame} {meth : Method} {c : Code} {Q : State → Prop} {A : Nat → Prop} {D : DD} {base B : Nat} (hF : KF D base cX11_needed RX11 A 1 0 0 p l e ({ frames := 0, cells := 0, slots := 0, locals := 0 } : Room) s m args below meth c) (hA : ∀ q, RA B shpR q → A q) (hbs : base ≤ B) {σ : St} {a0 : Int32} {z : Int32} (h : fX11_needed σ a0 = some z) (hr : ∀ (pc : Nat) (L : List (Option Value)), narrow .int (.int z) = .int z → decode cX11_needed pc = .ok (.ireturn, 1) → KJ (Rep D B shpR) A 1 0 0 Q p l e ({ frames := 0, cells := 0, slots := 0, locals := 0 } : Room) s m args below meth c 0 0 pc L [.int z] σ) : KJ (Rep D B shpR) A 1 0 0 Q p l e ({ frames := 0, cells := 0, slots := 0, locals := 0 } : Room) s m args below meth c 0 0 0 [some (.int a0)] [] σ := by
  unfold fX11_needed at h
  refine k_iload_n hF dX11_needed_0 rfl ?_
  refine k_iconst hF dX11_needed_1 ci_3 ?_
  refine k_icmp_ge hF (tgt := 9) dX11_needed_2 (by decide) (fun c1 => ?_) (fun c1 => ?_)
  · replace h := ite_t c1 h
    refine k_iload_n hF dX11_needed_9 rfl ?_
    refine k_iconst hF dX11_needed_10 ci_5 ?_
    refine k_icmp_ne hF (tgt := 18) dX11_needed_11 (by decide) (fun c2 => ?_) (fun c2 => ?_)
    · replace h := ite_f c2 h
      refine k_iconst hF dX11_needed_18 ci_2 ?_
      cases h
      exact hr _ _ rfl dX11_needed_19
    · replace h := ite_t c2 h
      refine k_iconst hF dX11_needed_14 ci_1 ?_
      refine k_goto hF dX11_needed_15 (tgt := 19) (by decide) ?_
      cases h
      exact hr _ _ rfl dX11_needed_19
  · replace h := ite_f c1 h
    refine k_iconst hF dX11_needed_5 ci_0 ?_
    refine k_goto hF dX11_needed_6 (tgt := 19) (by decide) ?_
    cases h
    exact hr _ _ rfl dX11_needed_19
theorem ct_X11_needed {l : Launch} {D : DD} {base B : Nat} (hbs : base ≤ B) {σ : St} {a0 : Int32} {r : Int32} (h : fX11_needed σ a0 = some r) : MetR l D B shpR base yX11_needed cX11_needed 1 (some .int) 0 0 [.int a0] σ (some (.int r)) σ :=
  MetR.of (by decide +kernel) (fun v hv => by simp only [List.mem_cons, List.not_mem_nil, or_false] at hv; rcases hv with rfl <;> rfl) (Nat.le_of_ble_eq_true rfl) hbs (fun p e s m args below meth c hF hr => wX11_needed hF (fun q hq => hq) hbs h (fun pc L hn hd => k_iret hF hr hn hd))
set_option maxHeartbeats 4000000 in
set_option maxRecDepth 100000 in
theorem wX11_step_j156 {p : Program} {l : Launch} {e : Env} {s : State} {m : MethodId} {args : Array Value} {below : List Frame} {meth : Method} {c : Code} {Q : State → Prop} {A : Nat → Prop} {D : DD} {base B : Nat} (hF : KF D base cX11_step RX11 A 6 0 0 p l e ({ frames := 2, cells := 0, slots := 0, locals := 42 } : Room) s m args below meth c) (hA : ∀ q, RA B shpR q → A q) (hbs : base ≤ B) {σ : St} {a1 : Int32} {a2 : Int32} {t0 : Int32} {t1 : Int32} {z : (Int32 × St)} (h : fX11_step_j156 σ a1 a2 t0 t1 = some z) (hr : ∀ (pc : Nat) (L : List (Option Value)), narrow .int (.int z.1) = .int z.1 → decode cX11_step pc = .ok (.ireturn, 1) → KJ (Rep D B shpR) A 6 0 0 Q p l e ({ frames := 2, cells := 0, slots := 0, locals := 42 } : Room) s m args below meth c 0 0 pc L [.int z.1] z.2) : KJ (Rep D B shpR) A 6 0 0 Q p l e ({ frames := 2, cells := 0, slots := 0, locals := 42 } : Room) s m args below meth c 0 0 156 [some (.ref (B + 0)), some (.int a1), some (.int a2), none, none, none] [.int t0, .int t1, .ref (B + 0)] σ := by
  unfold fX11_step_j156 at h
  refine k_iadd hF dX11_step_156 ?_
  refine k_putI hF hA shR_0 fp_X11_257_X11 dX11_step_157 rfl rfl rfl ?_
  obtain ⟨σ17, hσ17, h⟩ := lt_some h
  refine k_sig hσ17 ?_
  refine k_aload_n hF dX11_step_160 rfl ?_
  refine k_get hF (v := .int (gi σ17 0 35)) shR_0 fl_X11_257_X11 dX11_step_161 rfl ?_
  cases h
  exact hr _ _ rfl dX11_step_164
set_option maxHeartbeats 4000000 in
set_option maxRecDepth 100000 in
theorem wX11_step_j94 {p : Program} {l : Launch} {e : Env} {s : State} {m : MethodId} {args : Array Value} {below : List Frame} {meth : Method} {c : Code} {Q : State → Prop} {A : Nat → Prop} {D : DD} {base B : Nat} (hF : KF D base cX11_step RX11 A 6 0 0 p l e ({ frames := 2, cells := 0, slots := 0, locals := 42 } : Room) s m args below meth c) (hA : ∀ q, RA B shpR q → A q) (hbs : base ≤ B) {σ : St} {a1 : Int32} {a2 : Int32} {t0 : Int32} {z : (Int32 × St)} (h : fX11_step_j94 σ a1 a2 t0 = some z) (hr : ∀ (pc : Nat) (L : List (Option Value)), narrow .int (.int z.1) = .int z.1 → decode cX11_step pc = .ok (.ireturn, 1) → KJ (Rep D B shpR) A 6 0 0 Q p l e ({ frames := 2, cells := 0, slots := 0, locals := 42 } : Room) s m args below meth c 0 0 pc L [.int z.1] z.2) : KJ (Rep D B shpR) A 6 0 0 Q p l e ({ frames := 2, cells := 0, slots := 0, locals := 42 } : Room) s m args below meth c 0 0 94 [some (.ref (B + 0)), some (.int a1), some (.int a2), none, none, none] [.int t0, .ref (B + 0)] σ := by
  unfold fX11_step_j94 at h
  obtain ⟨v8, hv8, h⟩ := bind_some h
  refine k_callV hF hA (as := [.int t0]) (ct_X11_fails hbs hv8) mv_X11_181 shR_0 rfl rfl rfl ⟨Nat.le_of_ble_eq_true rfl, Nat.le_of_ble_eq_true rfl⟩ (Nat.le_of_ble_eq_true rfl) dX11_step_94 ?_
  refine k_st (st2 := [.int v8.1]) rfl ?_
  refine k_if_eq hF (tgt := 102) dX11_step_97 (by decide) (fun c9 => ?_) (fun c9 => ?_)
  · replace h := ite_t c9 h
    refine k_aload_n hF dX11_step_102 rfl ?_
    refine k_get hF (v := .ref (B + 31)) shR_0 fl_X11_102_X11 dX11_step_103 rfl ?_
    refine k_aload_n hF dX11_step_106 rfl ?_
    refine k_get hF (v := .int (gi v8.2 0 34)) shR_0 fl_X11_254_X11 dX11_step_107 rfl ?_
    refine k_iload_n hF dX11_step_110 rfl ?_
    obtain ⟨g10, h⟩ := gd_some h
    refine k_iast hF hA shR_31 dX11_step_111 g10 ?_
    obtain ⟨σ11, hσ11, h⟩ := lt_some h
    refine k_sig hσ11 ?_
    refine k_aload_n hF dX11_step_112 rfl ?_
    refine k_get hF (v := .ref (B + 32)) shR_0 fl_X11_105_X11 dX11_step_113 rfl ?_
    refine k_aload_n hF dX11_step_116 rfl ?_
    refine k_get hF (v := .int (gi σ11 0 34)) shR_0 fl_X11_254_X11 dX11_step_117 rfl ?_
    refine k_iload_n hF dX11_step_120 rfl ?_
    obtain ⟨g12, h⟩ := gd_some h
    refine k_iast hF hA shR_32 dX11_step_121 g12 ?_
    obtain ⟨σ13, hσ13, h⟩ := lt_some h
    refine k_sig hσ13 ?_
    refine k_aload_n hF dX11_step_122 rfl ?_
    refine k_dup hF dX11_step_123 rfl ?_
    refine k_get hF (v := .int (gi σ13 0 34)) shR_0 fl_X11_254_X11 dX11_step_124 rfl ?_
    refine k_iconst hF dX11_step_127 ci_1 ?_
    refine k_iadd hF dX11_step_128 ?_
    refine k_putI hF hA shR_0 fp_X11_254_X11 dX11_step_129 rfl rfl rfl ?_
    obtain ⟨σ14, hσ14, h⟩ := lt_some h
    refine k_sig hσ14 ?_
    refine k_aload_n hF dX11_step_132 rfl ?_
    refine k_dup hF dX11_step_133 rfl ?_
    refine k_get hF (v := .int (gi σ14 0 35)) shR_0 fl_X11_257_X11 dX11_step_134 rfl ?_
    refine k_iload_n hF dX11_step_137 rfl ?_
    refine k_iconst hF dX11_step_138 ci_3 ?_
    refine k_icmp_ge hF (tgt := 146) dX11_step_139 (by decide) (fun c15 => ?_) (fun c15 => ?_)
    · replace h := ite_t c15 h
      refine k_iload_n hF dX11_step_146 rfl ?_
      refine k_iconst hF dX11_step_147 ci_5 ?_
      refine k_icmp_ne hF (tgt := 155) dX11_step_148 (by decide) (fun c16 => ?_) (fun c16 => ?_)
      · replace h := ite_f c16 h
        refine k_iconst hF dX11_step_155 ci_m1 ?_
        exact wX11_step_j156 hF hA hbs h hr
      · replace h := ite_t c16 h
        refine k_iconst hF dX11_step_151 ci_0 ?_
        refine k_goto hF dX11_step_152 (tgt := 156) (by decide) ?_
        exact wX11_step_j156 hF hA hbs h hr
    · replace h := ite_f c15 h
      refine k_iconst hF dX11_step_142 ci_1 ?_
      refine k_goto hF dX11_step_143 (tgt := 156) (by decide) ?_
      exact wX11_step_j156 hF hA hbs h hr
  · replace h := ite_f c9 h
    refine k_iconst hF dX11_step_100 ci_0 ?_
    cases h
    exact hr _ _ rfl dX11_step_101
set_option maxHeartbeats 4000000 in
set_option maxRecDepth 100000 in
theorem wX11_step_j89 {p : Program} {l : Launch} {e : Env} {s : State} {m : MethodId} {args : Array Value} {below : List Frame} {meth : Method} {c : Code} {Q : State → Prop} {A : Nat → Prop} {D : DD} {base B : Nat} (hF : KF D base cX11_step RX11 A 6 0 0 p l e ({ frames := 2, cells := 0, slots := 0, locals := 42 } : Room) s m args below meth c) (hA : ∀ q, RA B shpR q → A q) (hbs : base ≤ B) {σ : St} {a1 : Int32} {a2 : Int32} {z : (Int32 × St)} (h : fX11_step_j89 σ a1 a2 = some z) (hr : ∀ (pc : Nat) (L : List (Option Value)), narrow .int (.int z.1) = .int z.1 → decode cX11_step pc = .ok (.ireturn, 1) → KJ (Rep D B shpR) A 6 0 0 Q p l e ({ frames := 2, cells := 0, slots := 0, locals := 42 } : Room) s m args below meth c 0 0 pc L [.int z.1] z.2) : KJ (Rep D B shpR) A 6 0 0 Q p l e ({ frames := 2, cells := 0, slots := 0, locals := 42 } : Room) s m args below meth c 0 0 89 [some (.ref (B + 0)), some (.int a1), some (.int a2), none, none, none] [.ref (B + 0)] σ := by
  unfold fX11_step_j89 at h
  refine k_iconst hF dX11_step_89 ci_3 ?_
  refine k_goto hF dX11_step_90 (tgt := 94) (by decide) ?_
  exact wX11_step_j94 hF hA hbs h hr
set_option maxHeartbeats 4000000 in
set_option maxRecDepth 100000 in
theorem wX11_step_j40 {p : Program} {l : Launch} {e : Env} {s : State} {m : MethodId} {args : Array Value} {below : List Frame} {meth : Method} {c : Code} {Q : State → Prop} {A : Nat → Prop} {D : DD} {base B : Nat} (hF : KF D base cX11_step RX11 A 6 0 0 p l e ({ frames := 2, cells := 0, slots := 0, locals := 42 } : Room) s m args below meth c) (hA : ∀ q, RA B shpR q → A q) (hbs : base ≤ B) {σ : St} {a1 : Int32} {a2 : Int32} {b3 : Int32} {b4 : Int32} {t0 : Int32} {z : (Int32 × St)} (h : fX11_step_j40 σ a1 a2 b3 b4 t0 = some z) (hr : ∀ (pc : Nat) (L : List (Option Value)), narrow .int (.int z.1) = .int z.1 → decode cX11_step pc = .ok (.ireturn, 1) → KJ (Rep D B shpR) A 6 0 0 Q p l e ({ frames := 2, cells := 0, slots := 0, locals := 42 } : Room) s m args below meth c 0 0 pc L [.int z.1] z.2) : KJ (Rep D B shpR) A 6 0 0 Q p l e ({ frames := 2, cells := 0, slots := 0, locals := 42 } : Room) s m args below meth c 0 0 40 [some (.ref (B + 0)), some (.int a1), some (.int a2), some (.int b3), some (.int b4), none] [.int t0] σ := by
  unfold fX11_step_j40 at h
  refine k_istore hF (L' := [some (.ref (B + 0)), some (.int a1), some (.int a2), some (.int b3), some (.int b4), some (.int t0)]) dX11_step_40 (by decide) rfl ?_
  refine k_aload_n hF dX11_step_42 rfl ?_
  refine k_iload_n hF dX11_step_43 rfl ?_
  refine k_if_ne hF (tgt := 51) dX11_step_44 (by decide) (fun c4 => ?_) (fun c4 => ?_)
  · replace h := ite_f c4 h
    refine k_iload hF dX11_step_51 rfl ?_
    refine k_if_ne hF (tgt := 60) dX11_step_53 (by decide) (fun c5 => ?_) (fun c5 => ?_)
    · replace h := ite_f c5 h
      refine k_iload hF dX11_step_60 rfl ?_
      refine k_if_ne hF (tgt := 69) dX11_step_62 (by decide) (fun c6 => ?_) (fun c6 => ?_)
      · replace h := ite_f c6 h
        refine k_aload_n hF dX11_step_69 rfl ?_
        refine k_get hF (v := .int (gi σ 0 34)) shR_0 fl_X11_254_X11 dX11_step_70 rfl ?_
        refine k_bipush hF (v := (12 : Int32)) dX11_step_73 (by decide) ?_
        refine k_icmp_eq hF (tgt := 89) dX11_step_75 (by decide) (fun c7 => ?_) (fun c7 => ?_)
        · replace h := ite_t c7 h
          refine k_kill 3 rfl ?_
          refine k_kill 4 rfl ?_
          refine k_kill 5 rfl ?_
          exact wX11_step_j89 hF hA hbs h hr
        · replace h := ite_f c7 h
          refine k_aload_n hF dX11_step_78 rfl ?_
          refine k_get hF (v := .int (gi σ 0 35)) shR_0 fl_X11_257_X11 dX11_step_79 rfl ?_
          refine k_iload_n hF dX11_step_82 rfl ?_
          obtain ⟨v18, hv18, h⟩ := bind_some h
          refine k_callS hF hA (as := [.int a1]) (ct_X11_needed hbs hv18) ms_X11_260 rfl rfl ⟨Nat.le_of_ble_eq_true rfl, Nat.le_of_ble_eq_true rfl⟩ (Nat.le_of_ble_eq_true rfl) dX11_step_83 ?_
          refine k_st (st2 := [.int v18, .int (gi σ 0 35), .ref (B + 0)]) rfl ?_
          refine k_icmp_ge hF (tgt := 93) dX11_step_86 (by decide) (fun c19 => ?_) (fun c19 => ?_)
          · replace h := ite_t c19 h
            refine k_iconst hF dX11_step_93 ci_0 ?_
            refine k_kill 3 rfl ?_
            refine k_kill 4 rfl ?_
            refine k_kill 5 rfl ?_
            exact wX11_step_j94 hF hA hbs h hr
          · replace h := ite_f c19 h
            refine k_kill 3 rfl ?_
            refine k_kill 4 rfl ?_
            refine k_kill 5 rfl ?_
            exact wX11_step_j89 hF hA hbs h hr
      · replace h := ite_t c6 h
        refine k_iconst hF dX11_step_65 ci_2 ?_
        refine k_goto hF dX11_step_66 (tgt := 94) (by decide) ?_
        refine k_kill 3 rfl ?_
        refine k_kill 4 rfl ?_
        refine k_kill 5 rfl ?_
        exact wX11_step_j94 hF hA hbs h hr
    · replace h := ite_t c5 h
      refine k_iconst hF dX11_step_56 ci_1 ?_
      refine k_goto hF dX11_step_57 (tgt := 94) (by decide) ?_
      refine k_kill 3 rfl ?_
      refine k_kill 4 rfl ?_
      refine k_kill 5 rfl ?_
      exact wX11_step_j94 hF hA hbs h hr
  · replace h := ite_t c4 h
    refine k_iconst hF dX11_step_47 ci_2 ?_
    refine k_goto hF dX11_step_48 (tgt := 94) (by decide) ?_
    refine k_kill 3 rfl ?_
    refine k_kill 4 rfl ?_
    refine k_kill 5 rfl ?_
    exact wX11_step_j94 hF hA hbs h hr
set_option maxHeartbeats 4000000 in
set_option maxRecDepth 100000 in
theorem wX11_step_j35 {p : Program} {l : Launch} {e : Env} {s : State} {m : MethodId} {args : Array Value} {below : List Frame} {meth : Method} {c : Code} {Q : State → Prop} {A : Nat → Prop} {D : DD} {base B : Nat} (hF : KF D base cX11_step RX11 A 6 0 0 p l e ({ frames := 2, cells := 0, slots := 0, locals := 42 } : Room) s m args below meth c) (hA : ∀ q, RA B shpR q → A q) (hbs : base ≤ B) {σ : St} {a1 : Int32} {a2 : Int32} {b3 : Int32} {b4 : Int32} {z : (Int32 × St)} (h : fX11_step_j35 σ a1 a2 b3 b4 = some z) (hr : ∀ (pc : Nat) (L : List (Option Value)), narrow .int (.int z.1) = .int z.1 → decode cX11_step pc = .ok (.ireturn, 1) → KJ (Rep D B shpR) A 6 0 0 Q p l e ({ frames := 2, cells := 0, slots := 0, locals := 42 } : Room) s m args below meth c 0 0 pc L [.int z.1] z.2) : KJ (Rep D B shpR) A 6 0 0 Q p l e ({ frames := 2, cells := 0, slots := 0, locals := 42 } : Room) s m args below meth c 0 0 35 [some (.ref (B + 0)), some (.int a1), some (.int a2), some (.int b3), some (.int b4), none] [] σ := by
  unfold fX11_step_j35 at h
  refine k_iconst hF dX11_step_35 ci_1 ?_
  refine k_goto hF dX11_step_36 (tgt := 40) (by decide) ?_
  exact wX11_step_j40 hF hA hbs h hr
set_option maxHeartbeats 4000000 in
set_option maxRecDepth 100000 in
theorem wX11_step_j24 {p : Program} {l : Launch} {e : Env} {s : State} {m : MethodId} {args : Array Value} {below : List Frame} {meth : Method} {c : Code} {Q : State → Prop} {A : Nat → Prop} {D : DD} {base B : Nat} (hF : KF D base cX11_step RX11 A 6 0 0 p l e ({ frames := 2, cells := 0, slots := 0, locals := 42 } : Room) s m args below meth c) (hA : ∀ q, RA B shpR q → A q) (hbs : base ≤ B) {σ : St} {a1 : Int32} {a2 : Int32} {b3 : Int32} {t0 : Int32} {z : (Int32 × St)} (h : fX11_step_j24 σ a1 a2 b3 t0 = some z) (hr : ∀ (pc : Nat) (L : List (Option Value)), narrow .int (.int z.1) = .int z.1 → decode cX11_step pc = .ok (.ireturn, 1) → KJ (Rep D B shpR) A 6 0 0 Q p l e ({ frames := 2, cells := 0, slots := 0, locals := 42 } : Room) s m args below meth c 0 0 pc L [.int z.1] z.2) : KJ (Rep D B shpR) A 6 0 0 Q p l e ({ frames := 2, cells := 0, slots := 0, locals := 42 } : Room) s m args below meth c 0 0 24 [some (.ref (B + 0)), some (.int a1), some (.int a2), some (.int b3), none, none] [.int t0] σ := by
  unfold fX11_step_j24 at h
  refine k_istore hF (L' := [some (.ref (B + 0)), some (.int a1), some (.int a2), some (.int b3), some (.int t0), none]) dX11_step_24 (by decide) rfl ?_
  refine k_iload_n hF dX11_step_26 rfl ?_
  refine k_iconst hF dX11_step_27 ci_3 ?_
  refine k_icmp_lt hF (tgt := 35) dX11_step_28 (by decide) (fun c3 => ?_) (fun c3 => ?_)
  · replace h := ite_t c3 h
    exact wX11_step_j35 hF hA hbs h hr
  · replace h := ite_f c3 h
    refine k_iload_n hF dX11_step_31 rfl ?_
    refine k_if_ne hF (tgt := 39) dX11_step_32 (by decide) (fun c20 => ?_) (fun c20 => ?_)
    · replace h := ite_f c20 h
      refine k_iconst hF dX11_step_39 ci_0 ?_
      exact wX11_step_j40 hF hA hbs h hr
    · replace h := ite_t c20 h
      exact wX11_step_j35 hF hA hbs h hr
set_option maxHeartbeats 4000000 in
set_option maxRecDepth 100000 in
theorem wX11_step_j19 {p : Program} {l : Launch} {e : Env} {s : State} {m : MethodId} {args : Array Value} {below : List Frame} {meth : Method} {c : Code} {Q : State → Prop} {A : Nat → Prop} {D : DD} {base B : Nat} (hF : KF D base cX11_step RX11 A 6 0 0 p l e ({ frames := 2, cells := 0, slots := 0, locals := 42 } : Room) s m args below meth c) (hA : ∀ q, RA B shpR q → A q) (hbs : base ≤ B) {σ : St} {a1 : Int32} {a2 : Int32} {b3 : Int32} {z : (Int32 × St)} (h : fX11_step_j19 σ a1 a2 b3 = some z) (hr : ∀ (pc : Nat) (L : List (Option Value)), narrow .int (.int z.1) = .int z.1 → decode cX11_step pc = .ok (.ireturn, 1) → KJ (Rep D B shpR) A 6 0 0 Q p l e ({ frames := 2, cells := 0, slots := 0, locals := 42 } : Room) s m args below meth c 0 0 pc L [.int z.1] z.2) : KJ (Rep D B shpR) A 6 0 0 Q p l e ({ frames := 2, cells := 0, slots := 0, locals := 42 } : Room) s m args below meth c 0 0 19 [some (.ref (B + 0)), some (.int a1), some (.int a2), some (.int b3), none, none] [] σ := by
  unfold fX11_step_j19 at h
  refine k_iconst hF dX11_step_19 ci_1 ?_
  refine k_goto hF dX11_step_20 (tgt := 24) (by decide) ?_
  exact wX11_step_j24 hF hA hbs h hr
set_option maxHeartbeats 4000000 in
set_option maxRecDepth 100000 in
theorem wX11_step {p : Program} {l : Launch} {e : Env} {s : State} {m : MethodId} {args : Array Value} {below : List Frame} {meth : Method} {c : Code} {Q : State → Prop} {A : Nat → Prop} {D : DD} {base B : Nat} (hF : KF D base cX11_step RX11 A 6 0 0 p l e ({ frames := 2, cells := 0, slots := 0, locals := 42 } : Room) s m args below meth c) (hA : ∀ q, RA B shpR q → A q) (hbs : base ≤ B) {σ : St} {a1 : Int32} {a2 : Int32} {z : (Int32 × St)} (h : fX11_step σ a1 a2 = some z) (hr : ∀ (pc : Nat) (L : List (Option Value)), narrow .int (.int z.1) = .int z.1 → decode cX11_step pc = .ok (.ireturn, 1) → KJ (Rep D B shpR) A 6 0 0 Q p l e ({ frames := 2, cells := 0, slots := 0, locals := 42 } : Room) s m args below meth c 0 0 pc L [.int z.1] z.2) : KJ (Rep D B shpR) A 6 0 0 Q p l e ({ frames := 2, cells := 0, slots := 0, locals := 42 } : Room) s m args below meth c 0 0 0 [some (.ref (B + 0)), some (.int a1), some (.int a2), none, none, none] [] σ := by
  unfold fX11_step at h
  refine k_iload_n hF dX11_step_0 rfl ?_
  refine k_iconst hF dX11_step_1 ci_0 ?_
  refine k_iconst hF dX11_step_2 ci_5 ?_
  obtain ⟨v1, hv1, h⟩ := bind_some h
  refine k_callS hF hA (as := [.int a1, .int (0 : Int32), .int (5 : Int32)]) (ct_X11_isIn hbs hv1) ms_X11_146 rfl rfl ⟨Nat.le_of_ble_eq_true rfl, Nat.le_of_ble_eq_true rfl⟩ (Nat.le_of_ble_eq_true rfl) dX11_step_3 ?_
  refine k_st (st2 := [.int v1]) rfl ?_
  refine k_istore_n hF (L' := [some (.ref (B + 0)), some (.int a1), some (.int a2), some (.int v1), none, none]) dX11_step_6 (by decide) rfl ?_
  refine k_iload_n hF dX11_step_7 rfl ?_
  refine k_iconst hF dX11_step_8 ci_3 ?_
  refine k_icmp_ge hF (tgt := 19) dX11_step_9 (by decide) (fun c2 => ?_) (fun c2 => ?_)
  · replace h := ite_t c2 h
    exact wX11_step_j19 hF hA hbs h hr
  · replace h := ite_f c2 h
    refine k_iload_n hF dX11_step_12 rfl ?_
    obtain ⟨v21, hv21, h⟩ := bind_some h
    refine k_callS hF hA (as := [.int a2]) (ct_X11_isLabel hbs hv21) ms_X11_171 rfl rfl ⟨Nat.le_of_ble_eq_true rfl, Nat.le_of_ble_eq_true rfl⟩ (Nat.le_of_ble_eq_true rfl) dX11_step_13 ?_
    refine k_st (st2 := [.int v21]) rfl ?_
    refine k_if_eq hF (tgt := 23) dX11_step_16 (by decide) (fun c22 => ?_) (fun c22 => ?_)
    · replace h := ite_t c22 h
      refine k_iconst hF dX11_step_23 ci_0 ?_
      exact wX11_step_j24 hF hA hbs h hr
    · replace h := ite_f c22 h
      exact wX11_step_j19 hF hA hbs h hr
theorem ct_X11_step {l : Launch} {D : DD} {base B : Nat} (hbs : base ≤ B) {σ : St} {a1 : Int32} {a2 : Int32} {r : (Int32 × St)} (h : fX11_step σ a1 a2 = some r) : MetR l D B shpR base yX11_step cX11_step 6 (some .int) 2 42 [.ref (B + 0), .int a1, .int a2] σ (some (.int r.1)) r.2 :=
  MetR.of (by decide +kernel) (fun v hv => by simp only [List.mem_cons, List.not_mem_nil, or_false] at hv; rcases hv with rfl | rfl | rfl <;> rfl) (Nat.le_of_ble_eq_true rfl) hbs (fun p e s m args below meth c hF hr => wX11_step hF (fun q hq => hq) hbs h (fun pc L hn hd => k_iret hF hr hn hd))
set_option maxHeartbeats 4000000 in
set_option maxRecDepth 100000 in
theorem wX11_pattern_l33 {p : Program} {l : Launch} {e : Env} {s : State} {m : MethodId} {args : Array Value} {below : List Frame} {meth : Method} {c : Code} {Q : State → Prop} {A : Nat → Prop} {D : DD} {base B : Nat} (hF : KF D base cX11_pattern RX11 A 2 0 0 p l e ({ frames := 1, cells := 0, slots := 0, locals := 21 } : Room) s m args below meth c) (hA : ∀ q, RA B shpR q → A q) (hbs : base ≤ B) {σ : St} {x : (St × Int32)} {z : ((St × Int32) ⊕ (St × Int32))} (h : fX11_pattern_l33 σ x = some z) (hc : ∀ x, z = .inl x → KJ (Rep D B shpR) A 2 0 0 Q p l e ({ frames := 1, cells := 0, slots := 0, locals := 21 } : Room) s m args below meth c 0 0 33 [some (.ref (B + 0)), some (.int x.2)] [] x.1) (he : ∀ w, z = .inr w → KJ (Rep D B shpR) A 2 0 0 Q p l e ({ frames := 1, cells := 0, slots := 0, locals := 21 } : Room) s m args below meth c 0 0 87 [some (.ref (B + 0)), some (.int w.2)] [] w.1) : KJ (Rep D B shpR) A 2 0 0 Q p l e ({ frames := 1, cells := 0, slots := 0, locals := 21 } : Room) s m args below meth c 0 0 33 [some (.ref (B + 0)), some (.int x.2)] [] x.1 := by
  unfold fX11_pattern_l33 at h
  refine k_iload_n hF dX11_pattern_33 rfl ?_
  refine k_aload_n hF dX11_pattern_34 rfl ?_
  refine k_get hF (v := .int (gi x.1 0 34)) shR_0 fl_X11_254_X11 dX11_pattern_35 rfl ?_
  refine k_icmp_ge hF (tgt := 87) dX11_pattern_38 (by decide) (fun c4 => ?_) (fun c4 => ?_)
  · replace h := ite_t c4 h
    exact he _ (Option.some.inj h).symm
  · replace h := ite_f c4 h
    refine k_aload_n hF dX11_pattern_41 rfl ?_
    refine k_get hF (v := .ref (B + 34)) shR_0 fl_X11_111_X11 dX11_pattern_42 rfl ?_
    refine k_bipush hF (v := (12 : Int32)) dX11_pattern_45 (by decide) ?_
    refine k_aload_n hF dX11_pattern_47 rfl ?_
    refine k_get hF (v := .int (gi x.1 0 38)) shR_0 fl_X11_263_X11 dX11_pattern_48 rfl ?_
    refine k_imul hF dX11_pattern_51 ?_
    refine k_iload_n hF dX11_pattern_52 rfl ?_
    refine k_iadd hF dX11_pattern_53 ?_
    refine k_aload_n hF dX11_pattern_54 rfl ?_
    refine k_get hF (v := .ref (B + 31)) shR_0 fl_X11_102_X11 dX11_pattern_55 rfl ?_
    refine k_iload_n hF dX11_pattern_58 rfl ?_
    obtain ⟨g5, h⟩ := gd_some h
    refine k_iald hF shR_31 dX11_pattern_59 g5 ?_
    obtain ⟨g6, h⟩ := gd_some h
    refine k_iast hF hA shR_34 dX11_pattern_60 g6 ?_
    obtain ⟨σ7, hσ7, h⟩ := lt_some h
    refine k_sig hσ7 ?_
    refine k_aload_n hF dX11_pattern_61 rfl ?_
    refine k_get hF (v := .ref (B + 35)) shR_0 fl_X11_114_X11 dX11_pattern_62 rfl ?_
    refine k_bipush hF (v := (12 : Int32)) dX11_pattern_65 (by decide) ?_
    refine k_aload_n hF dX11_pattern_67 rfl ?_
    refine k_get hF (v := .int (gi σ7 0 38)) shR_0 fl_X11_263_X11 dX11_pattern_68 rfl ?_
    refine k_imul hF dX11_pattern_71 ?_
    refine k_iload_n hF dX11_pattern_72 rfl ?_
    refine k_iadd hF dX11_pattern_73 ?_
    refine k_aload_n hF dX11_pattern_74 rfl ?_
    refine k_get hF (v := .ref (B + 32)) shR_0 fl_X11_105_X11 dX11_pattern_75 rfl ?_
    refine k_iload_n hF dX11_pattern_78 rfl ?_
    obtain ⟨g8, h⟩ := gd_some h
    refine k_iald hF shR_32 dX11_pattern_79 g8 ?_
    obtain ⟨g9, h⟩ := gd_some h
    refine k_iast hF hA shR_35 dX11_pattern_80 g9 ?_
    obtain ⟨σ10, hσ10, h⟩ := lt_some h
    refine k_sig hσ10 ?_
    refine k_iinc hF (v := (x.2 + (1 : Int32))) (L' := [some (.ref (B + 0)), some (.int (x.2 + (1 : Int32)))]) dX11_pattern_81 rfl (by first | rfl | (congr 1)) (by decide) rfl ?_
    refine k_goto hF dX11_pattern_84 (tgt := 33) (by decide) ?_
    exact hc _ (Option.some.inj h).symm
set_option maxHeartbeats 4000000 in
set_option maxRecDepth 100000 in
theorem wX11_pattern_j23 {p : Program} {l : Launch} {e : Env} {s : State} {m : MethodId} {args : Array Value} {below : List Frame} {meth : Method} {c : Code} {Q : State → Prop} {A : Nat → Prop} {D : DD} {base B : Nat} (hF : KF D base cX11_pattern RX11 A 2 0 0 p l e ({ frames := 1, cells := 0, slots := 0, locals := 21 } : Room) s m args below meth c) (hA : ∀ q, RA B shpR q → A q) (hbs : base ≤ B) {σ : St} {t0 : Int32} {z : (Int32 × St)} (h : fX11_pattern_j23 σ t0 = some z) (hr : ∀ (pc : Nat) (L : List (Option Value)), narrow .int (.int z.1) = .int z.1 → decode cX11_pattern pc = .ok (.ireturn, 1) → KJ (Rep D B shpR) A 2 0 0 Q p l e ({ frames := 1, cells := 0, slots := 0, locals := 21 } : Room) s m args below meth c 0 0 pc L [.int z.1] z.2) : KJ (Rep D B shpR) A 2 0 0 Q p l e ({ frames := 1, cells := 0, slots := 0, locals := 21 } : Room) s m args below meth c 0 0 23 [some (.ref (B + 0)), none] [.int t0, .ref (B + 0)] σ := by
  unfold fX11_pattern_j23 at h
  obtain ⟨v2, hv2, h⟩ := bind_some h
  refine k_callV hF hA (as := [.int t0]) (ct_X11_fails hbs hv2) mv_X11_181 shR_0 rfl rfl rfl ⟨Nat.le_of_ble_eq_true rfl, Nat.le_of_ble_eq_true rfl⟩ (Nat.le_of_ble_eq_true rfl) dX11_pattern_23 ?_
  refine k_st (st2 := [.int v2.1]) rfl ?_
  refine k_if_eq hF (tgt := 31) dX11_pattern_26 (by decide) (fun c3 => ?_) (fun c3 => ?_)
  · replace h := ite_t c3 h
    refine k_iconst hF dX11_pattern_31 ci_0 ?_
    refine k_istore_n hF (L' := [some (.ref (B + 0)), some (.int (0 : Int32))]) dX11_pattern_32 (by decide) rfl ?_
    obtain ⟨x11, hx11, h⟩ := bind_some h
    refine k_loop (P := fun xq => KJ (Rep D B shpR) A 2 0 0 Q p l e ({ frames := 1, cells := 0, slots := 0, locals := 21 } : Room) s m args below meth c 0 0 33 [some (.ref (B + 0)), some (.int xq.2)] [] xq.1) (C := fun xq => KJ (Rep D B shpR) A 2 0 0 Q p l e ({ frames := 1, cells := 0, slots := 0, locals := 21 } : Room) s m args below meth c 0 0 87 [some (.ref (B + 0)), some (.int xq.2)] [] xq.1) (fun x z hz hc he => wX11_pattern_l33 hF hA hbs hz hc he) hx11 ?_
    show KJ (Rep D B shpR) A 2 0 0 Q p l e ({ frames := 1, cells := 0, slots := 0, locals := 21 } : Room) s m args below meth c 0 0 87 [some (.ref (B + 0)), some (.int x11.2)] [] x11.1
    refine k_aload_n hF dX11_pattern_87 rfl ?_
    refine k_get hF (v := .ref (B + 33)) shR_0 fl_X11_108_X11 dX11_pattern_88 rfl ?_
    refine k_aload_n hF dX11_pattern_91 rfl ?_
    refine k_get hF (v := .int (gi x11.1 0 38)) shR_0 fl_X11_263_X11 dX11_pattern_92 rfl ?_
    refine k_aload_n hF dX11_pattern_95 rfl ?_
    refine k_get hF (v := .int (gi x11.1 0 34)) shR_0 fl_X11_254_X11 dX11_pattern_96 rfl ?_
    obtain ⟨g12, h⟩ := gd_some h
    refine k_iast hF hA shR_33 dX11_pattern_99 g12 ?_
    obtain ⟨σ13, hσ13, h⟩ := lt_some h
    refine k_sig hσ13 ?_
    refine k_aload_n hF dX11_pattern_100 rfl ?_
    refine k_iconst hF dX11_pattern_101 ci_0 ?_
    refine k_putI hF hA shR_0 fp_X11_254_X11 dX11_pattern_102 rfl rfl rfl ?_
    obtain ⟨σ14, hσ14, h⟩ := lt_some h
    refine k_sig hσ14 ?_
    refine k_aload_n hF dX11_pattern_105 rfl ?_
    refine k_iconst hF dX11_pattern_106 ci_0 ?_
    refine k_putI hF hA shR_0 fp_X11_257_X11 dX11_pattern_107 rfl rfl rfl ?_
    obtain ⟨σ15, hσ15, h⟩ := lt_some h
    refine k_sig hσ15 ?_
    refine k_aload_n hF dX11_pattern_110 rfl ?_
    refine k_dup hF dX11_pattern_111 rfl ?_
    refine k_get hF (v := .int (gi σ15 0 38)) shR_0 fl_X11_263_X11 dX11_pattern_112 rfl ?_
    refine k_iconst hF dX11_pattern_115 ci_1 ?_
    refine k_iadd hF dX11_pattern_116 ?_
    refine k_putI hF hA shR_0 fp_X11_263_X11 dX11_pattern_117 rfl rfl rfl ?_
    obtain ⟨σ16, hσ16, h⟩ := lt_some h
    refine k_sig hσ16 ?_
    refine k_aload_n hF dX11_pattern_120 rfl ?_
    refine k_get hF (v := .int (gi σ16 0 38)) shR_0 fl_X11_263_X11 dX11_pattern_121 rfl ?_
    refine k_iconst hF dX11_pattern_124 ci_1 ?_
    refine k_isub hF dX11_pattern_125 ?_
    cases h
    exact hr _ _ rfl dX11_pattern_126
  · replace h := ite_f c3 h
    refine k_iconst hF dX11_pattern_29 ci_0 ?_
    cases h
    exact hr _ _ rfl dX11_pattern_30
set_option maxHeartbeats 4000000 in
set_option maxRecDepth 100000 in
theorem wX11_pattern_j18 {p : Program} {l : Launch} {e : Env} {s : State} {m : MethodId} {args : Array Value} {below : List Frame} {meth : Method} {c : Code} {Q : State → Prop} {A : Nat → Prop} {D : DD} {base B : Nat} (hF : KF D base cX11_pattern RX11 A 2 0 0 p l e ({ frames := 1, cells := 0, slots := 0, locals := 21 } : Room) s m args below meth c) (hA : ∀ q, RA B shpR q → A q) (hbs : base ≤ B) {σ : St} {z : (Int32 × St)} (h : fX11_pattern_j18 σ = some z) (hr : ∀ (pc : Nat) (L : List (Option Value)), narrow .int (.int z.1) = .int z.1 → decode cX11_pattern pc = .ok (.ireturn, 1) → KJ (Rep D B shpR) A 2 0 0 Q p l e ({ frames := 1, cells := 0, slots := 0, locals := 21 } : Room) s m args below meth c 0 0 pc L [.int z.1] z.2) : KJ (Rep D B shpR) A 2 0 0 Q p l e ({ frames := 1, cells := 0, slots := 0, locals := 21 } : Room) s m args below meth c 0 0 18 [some (.ref (B + 0)), none] [.ref (B + 0)] σ := by
  unfold fX11_pattern_j18 at h
  refine k_iconst hF dX11_pattern_18 ci_1 ?_
  refine k_goto hF dX11_pattern_19 (tgt := 23) (by decide) ?_
  exact wX11_pattern_j23 hF hA hbs h hr
set_option maxHeartbeats 4000000 in
set_option maxRecDepth 100000 in
theorem wX11_pattern {p : Program} {l : Launch} {e : Env} {s : State} {m : MethodId} {args : Array Value} {below : List Frame} {meth : Method} {c : Code} {Q : State → Prop} {A : Nat → Prop} {D : DD} {base B : Nat} (hF : KF D base cX11_pattern RX11 A 2 0 0 p l e ({ frames := 1, cells := 0, slots := 0, locals := 21 } : Room) s m args below meth c) (hA : ∀ q, RA B shpR q → A q) (hbs : base ≤ B) {σ : St} {z : (Int32 × St)} (h : fX11_pattern σ = some z) (hr : ∀ (pc : Nat) (L : List (Option Value)), narrow .int (.int z.1) = .int z.1 → decode cX11_pattern pc = .ok (.ireturn, 1) → KJ (Rep D B shpR) A 2 0 0 Q p l e ({ frames := 1, cells := 0, slots := 0, locals := 21 } : Room) s m args below meth c 0 0 pc L [.int z.1] z.2) : KJ (Rep D B shpR) A 2 0 0 Q p l e ({ frames := 1, cells := 0, slots := 0, locals := 21 } : Room) s m args below meth c 0 0 0 [some (.ref (B + 0)), none] [] σ := by
  unfold fX11_pattern at h
  refine k_aload_n hF dX11_pattern_0 rfl ?_
  refine k_aload_n hF dX11_pattern_1 rfl ?_
  refine k_get hF (v := .int (gi σ 0 35)) shR_0 fl_X11_257_X11 dX11_pattern_2 rfl ?_
  refine k_iconst hF dX11_pattern_5 ci_1 ?_
  refine k_icmp_ne hF (tgt := 18) dX11_pattern_6 (by decide) (fun c1 => ?_) (fun c1 => ?_)
  · replace h := ite_f c1 h
    exact wX11_pattern_j18 hF hA hbs h hr
  · replace h := ite_t c1 h
    refine k_aload_n hF dX11_pattern_9 rfl ?_
    refine k_get hF (v := .int (gi σ 0 38)) shR_0 fl_X11_263_X11 dX11_pattern_10 rfl ?_
    refine k_bipush hF (v := (6 : Int32)) dX11_pattern_13 (by decide) ?_
    refine k_icmp_ne hF (tgt := 22) dX11_pattern_15 (by decide) (fun c17 => ?_) (fun c17 => ?_)
    · replace h := ite_f c17 h
      refine k_iconst hF dX11_pattern_22 ci_0 ?_
      exact wX11_pattern_j23 hF hA hbs h hr
    · replace h := ite_t c17 h
      exact wX11_pattern_j18 hF hA hbs h hr
theorem ct_X11_pattern {l : Launch} {D : DD} {base B : Nat} (hbs : base ≤ B) {σ : St} {r : (Int32 × St)} (h : fX11_pattern σ = some r) : MetR l D B shpR base yX11_pattern cX11_pattern 2 (some .int) 1 21 [.ref (B + 0)] σ (some (.int r.1)) r.2 :=
  MetR.of (by decide +kernel) (fun v hv => by simp only [List.mem_cons, List.not_mem_nil, or_false] at hv; rcases hv with rfl <;> rfl) (Nat.le_of_ble_eq_true rfl) hbs (fun p e s m args below meth c hF hr => wX11_pattern hF (fun q hq => hq) hbs h (fun pc L hn hd => k_iret hF hr hn hd))
set_option maxHeartbeats 4000000 in
set_option maxRecDepth 100000 in
theorem wX11_reached_j46 {p : Program} {l : Launch} {e : Env} {s : State} {m : MethodId} {args : Array Value} {below : List Frame} {meth : Method} {c : Code} {Q : State → Prop} {A : Nat → Prop} {D : DD} {base B : Nat} (hF : KF D base cX11_reached RX11 A 4 0 0 p l e ({ frames := 2, cells := 0, slots := 0, locals := 43 } : Room) s m args below meth c) (hA : ∀ q, RA B shpR q → A q) (hbs : base ≤ B) {σ : St} {a1 : Int32} {b3 : Int32} {t0 : Int32} {t1 : Int32} {z : ((Int32 × Int32) ⊕ (Int32 × Int32))} (h : fX11_reached_j46 σ a1 b3 t0 t1 = some z) (hc : ∀ x, z = .inl x → KJ (Rep D B shpR) A 4 0 0 Q p l e ({ frames := 2, cells := 0, slots := 0, locals := 43 } : Room) s m args below meth c 0 0 4 [some (.ref (B + 0)), some (.int a1), some (.int x.1), some (.int x.2)] [] σ) (he : ∀ w, z = .inr w → KJ (Rep D B shpR) A 4 0 0 Q p l e ({ frames := 2, cells := 0, slots := 0, locals := 43 } : Room) s m args below meth c 0 0 54 [some (.ref (B + 0)), some (.int a1), some (.int w.1), some (.int w.2)] [] σ) : KJ (Rep D B shpR) A 4 0 0 Q p l e ({ frames := 2, cells := 0, slots := 0, locals := 43 } : Room) s m args below meth c 0 0 46 [some (.ref (B + 0)), some (.int a1), none, some (.int b3)] [.int t0, .int t1] σ := by
  unfold fX11_reached_j46 at h
  refine k_ior hF dX11_reached_46 ?_
  refine k_istore_n hF (L' := [some (.ref (B + 0)), some (.int a1), some (.int (t1 ||| t0)), some (.int b3)]) dX11_reached_47 (by decide) rfl ?_
  refine k_iinc hF (v := (b3 + (1 : Int32))) (L' := [some (.ref (B + 0)), some (.int a1), some (.int (t1 ||| t0)), some (.int (b3 + (1 : Int32)))]) dX11_reached_48 rfl (by first | rfl | (congr 1)) (by decide) rfl ?_
  refine k_goto hF dX11_reached_51 (tgt := 4) (by decide) ?_
  exact hc _ (Option.some.inj h).symm
set_option maxHeartbeats 4000000 in
set_option maxRecDepth 100000 in
theorem wX11_reached_j45 {p : Program} {l : Launch} {e : Env} {s : State} {m : MethodId} {args : Array Value} {below : List Frame} {meth : Method} {c : Code} {Q : State → Prop} {A : Nat → Prop} {D : DD} {base B : Nat} (hF : KF D base cX11_reached RX11 A 4 0 0 p l e ({ frames := 2, cells := 0, slots := 0, locals := 43 } : Room) s m args below meth c) (hA : ∀ q, RA B shpR q → A q) (hbs : base ≤ B) {σ : St} {a1 : Int32} {b3 : Int32} {t0 : Int32} {z : ((Int32 × Int32) ⊕ (Int32 × Int32))} (h : fX11_reached_j45 σ a1 b3 t0 = some z) (hc : ∀ x, z = .inl x → KJ (Rep D B shpR) A 4 0 0 Q p l e ({ frames := 2, cells := 0, slots := 0, locals := 43 } : Room) s m args below meth c 0 0 4 [some (.ref (B + 0)), some (.int a1), some (.int x.1), some (.int x.2)] [] σ) (he : ∀ w, z = .inr w → KJ (Rep D B shpR) A 4 0 0 Q p l e ({ frames := 2, cells := 0, slots := 0, locals := 43 } : Room) s m args below meth c 0 0 54 [some (.ref (B + 0)), some (.int a1), some (.int w.1), some (.int w.2)] [] σ) : KJ (Rep D B shpR) A 4 0 0 Q p l e ({ frames := 2, cells := 0, slots := 0, locals := 43 } : Room) s m args below meth c 0 0 45 [some (.ref (B + 0)), some (.int a1), none, some (.int b3)] [.int t0] σ := by
  unfold fX11_reached_j45 at h
  refine k_iconst hF dX11_reached_45 ci_0 ?_
  exact wX11_reached_j46 hF hA hbs h hc he
set_option maxHeartbeats 4000000 in
set_option maxRecDepth 100000 in
theorem wX11_reached_j39 {p : Program} {l : Launch} {e : Env} {s : State} {m : MethodId} {args : Array Value} {below : List Frame} {meth : Method} {c : Code} {Q : State → Prop} {A : Nat → Prop} {D : DD} {base B : Nat} (hF : KF D base cX11_reached RX11 A 4 0 0 p l e ({ frames := 2, cells := 0, slots := 0, locals := 43 } : Room) s m args below meth c) (hA : ∀ q, RA B shpR q → A q) (hbs : base ≤ B) {σ : St} {a1 : Int32} {b3 : Int32} {t0 : Int32} {z : ((Int32 × Int32) ⊕ (Int32 × Int32))} (h : fX11_reached_j39 σ a1 b3 t0 = some z) (hc : ∀ x, z = .inl x → KJ (Rep D B shpR) A 4 0 0 Q p l e ({ frames := 2, cells := 0, slots := 0, locals := 43 } : Room) s m args below meth c 0 0 4 [some (.ref (B + 0)), some (.int a1), some (.int x.1), some (.int x.2)] [] σ) (he : ∀ w, z = .inr w → KJ (Rep D B shpR) A 4 0 0 Q p l e ({ frames := 2, cells := 0, slots := 0, locals := 43 } : Room) s m args below meth c 0 0 54 [some (.ref (B + 0)), some (.int a1), some (.int w.1), some (.int w.2)] [] σ) : KJ (Rep D B shpR) A 4 0 0 Q p l e ({ frames := 2, cells := 0, slots := 0, locals := 43 } : Room) s m args below meth c 0 0 39 [some (.ref (B + 0)), some (.int a1), none, some (.int b3)] [.int t0] σ := by
  unfold fX11_reached_j39 at h
  refine k_iconst hF dX11_reached_39 ci_1 ?_
  refine k_iload_n hF dX11_reached_40 rfl ?_
  refine k_ishl hF dX11_reached_41 ?_
  refine k_goto hF dX11_reached_42 (tgt := 46) (by decide) ?_
  exact wX11_reached_j46 hF hA hbs h hc he
set_option maxHeartbeats 4000000 in
set_option maxRecDepth 100000 in
theorem wX11_reached_l4 {p : Program} {l : Launch} {e : Env} {s : State} {m : MethodId} {args : Array Value} {below : List Frame} {meth : Method} {c : Code} {Q : State → Prop} {A : Nat → Prop} {D : DD} {base B : Nat} (hF : KF D base cX11_reached RX11 A 4 0 0 p l e ({ frames := 2, cells := 0, slots := 0, locals := 43 } : Room) s m args below meth c) (hA : ∀ q, RA B shpR q → A q) (hbs : base ≤ B) {σ : St} {a1 : Int32} {x : (Int32 × Int32)} {z : ((Int32 × Int32) ⊕ (Int32 × Int32))} (h : fX11_reached_l4 σ a1 x = some z) (hc : ∀ x, z = .inl x → KJ (Rep D B shpR) A 4 0 0 Q p l e ({ frames := 2, cells := 0, slots := 0, locals := 43 } : Room) s m args below meth c 0 0 4 [some (.ref (B + 0)), some (.int a1), some (.int x.1), some (.int x.2)] [] σ) (he : ∀ w, z = .inr w → KJ (Rep D B shpR) A 4 0 0 Q p l e ({ frames := 2, cells := 0, slots := 0, locals := 43 } : Room) s m args below meth c 0 0 54 [some (.ref (B + 0)), some (.int a1), some (.int w.1), some (.int w.2)] [] σ) : KJ (Rep D B shpR) A 4 0 0 Q p l e ({ frames := 2, cells := 0, slots := 0, locals := 43 } : Room) s m args below meth c 0 0 4 [some (.ref (B + 0)), some (.int a1), some (.int x.1), some (.int x.2)] [] σ := by
  unfold fX11_reached_l4 at h
  refine k_iload_n hF dX11_reached_4 rfl ?_
  refine k_aload_n hF dX11_reached_5 rfl ?_
  refine k_get hF (v := .int (gi σ 0 1)) shR_0 fl_X11_150_X11 dX11_reached_6 rfl ?_
  refine k_icmp_ge hF (tgt := 54) dX11_reached_9 (by decide) (fun c1 => ?_) (fun c1 => ?_)
  · replace h := ite_t c1 h
    exact he _ (Option.some.inj h).symm
  · replace h := ite_f c1 h
    refine k_iload_n hF dX11_reached_12 rfl ?_
    refine k_aload_n hF dX11_reached_13 rfl ?_
    refine k_iload_n hF dX11_reached_14 rfl ?_
    obtain ⟨v2, hv2, h⟩ := bind_some h
    refine k_callV hF hA (as := [.int x.2]) (ct_X11_isNode hbs hv2) mv_X11_163 shR_0 rfl rfl rfl ⟨Nat.le_of_ble_eq_true rfl, Nat.le_of_ble_eq_true rfl⟩ (Nat.le_of_ble_eq_true rfl) dX11_reached_15 ?_
    refine k_st (st2 := [.int v2, .int x.1]) rfl ?_
    refine k_if_eq hF (tgt := 45) dX11_reached_18 (by decide) (fun c3 => ?_) (fun c3 => ?_)
    · replace h := ite_t c3 h
      refine k_kill 2 rfl ?_
      exact wX11_reached_j45 hF hA hbs h hc he
    · replace h := ite_f c3 h
      refine k_iload_n hF dX11_reached_21 rfl ?_
      refine k_if_ne hF (tgt := 39) dX11_reached_22 (by decide) (fun c4 => ?_) (fun c4 => ?_)
      · replace h := ite_f c4 h
        refine k_kill 2 rfl ?_
        exact wX11_reached_j39 hF hA hbs h hc he
      · replace h := ite_t c4 h
        refine k_aload_n hF dX11_reached_25 rfl ?_
        refine k_get hF (v := .ref (B + 21)) shR_0 fl_X11_72_X11 dX11_reached_26 rfl ?_
        refine k_aload_n hF dX11_reached_29 rfl ?_
        refine k_get hF (v := .ref (B + 3)) shR_0 fl_X11_16_X11 dX11_reached_30 rfl ?_
        refine k_iload_n hF dX11_reached_33 rfl ?_
        obtain ⟨g5, h⟩ := gd_some h
        refine k_iald hF shR_3 dX11_reached_34 g5 ?_
        obtain ⟨g6, h⟩ := gd_some h
        refine k_zald hF shR_21 dX11_reached_35 g6 ?_
        refine k_if_ne hF (tgt := 45) dX11_reached_36 (by decide) (fun c7 => ?_) (fun c7 => ?_)
        · replace h := ite_f c7 h
          refine k_kill 2 rfl ?_
          exact wX11_reached_j45 hF hA hbs h hc he
        · replace h := ite_t c7 h
          refine k_kill 2 rfl ?_
          exact wX11_reached_j39 hF hA hbs h hc he
set_option maxHeartbeats 4000000 in
set_option maxRecDepth 100000 in
theorem wX11_reached {p : Program} {l : Launch} {e : Env} {s : State} {m : MethodId} {args : Array Value} {below : List Frame} {meth : Method} {c : Code} {Q : State → Prop} {A : Nat → Prop} {D : DD} {base B : Nat} (hF : KF D base cX11_reached RX11 A 4 0 0 p l e ({ frames := 2, cells := 0, slots := 0, locals := 43 } : Room) s m args below meth c) (hA : ∀ q, RA B shpR q → A q) (hbs : base ≤ B) {σ : St} {a1 : Int32} {z : Int32} (h : fX11_reached σ a1 = some z) (hr : ∀ (pc : Nat) (L : List (Option Value)), narrow .int (.int z) = .int z → decode cX11_reached pc = .ok (.ireturn, 1) → KJ (Rep D B shpR) A 4 0 0 Q p l e ({ frames := 2, cells := 0, slots := 0, locals := 43 } : Room) s m args below meth c 0 0 pc L [.int z] σ) : KJ (Rep D B shpR) A 4 0 0 Q p l e ({ frames := 2, cells := 0, slots := 0, locals := 43 } : Room) s m args below meth c 0 0 0 [some (.ref (B + 0)), some (.int a1), none, none] [] σ := by
  unfold fX11_reached at h
  refine k_iconst hF dX11_reached_0 ci_0 ?_
  refine k_istore_n hF (L' := [some (.ref (B + 0)), some (.int a1), some (.int (0 : Int32)), none]) dX11_reached_1 (by decide) rfl ?_
  refine k_iconst hF dX11_reached_2 ci_0 ?_
  refine k_istore_n hF (L' := [some (.ref (B + 0)), some (.int a1), some (.int (0 : Int32)), some (.int (0 : Int32))]) dX11_reached_3 (by decide) rfl ?_
  obtain ⟨x8, hx8, h⟩ := bind_some h
  refine k_loop (P := fun xq => KJ (Rep D B shpR) A 4 0 0 Q p l e ({ frames := 2, cells := 0, slots := 0, locals := 43 } : Room) s m args below meth c 0 0 4 [some (.ref (B + 0)), some (.int a1), some (.int xq.1), some (.int xq.2)] [] σ) (C := fun xq => KJ (Rep D B shpR) A 4 0 0 Q p l e ({ frames := 2, cells := 0, slots := 0, locals := 43 } : Room) s m args below meth c 0 0 54 [some (.ref (B + 0)), some (.int a1), some (.int xq.1), some (.int xq.2)] [] σ) (fun x z hz hc he => wX11_reached_l4 hF hA hbs hz hc he) hx8 ?_
  show KJ (Rep D B shpR) A 4 0 0 Q p l e ({ frames := 2, cells := 0, slots := 0, locals := 43 } : Room) s m args below meth c 0 0 54 [some (.ref (B + 0)), some (.int a1), some (.int x8.1), some (.int x8.2)] [] σ
  refine k_iload_n hF dX11_reached_54 rfl ?_
  cases h
  exact hr _ _ rfl dX11_reached_55
theorem ct_X11_reached {l : Launch} {D : DD} {base B : Nat} (hbs : base ≤ B) {σ : St} {a1 : Int32} {r : Int32} (h : fX11_reached σ a1 = some r) : MetR l D B shpR base yX11_reached cX11_reached 4 (some .int) 2 43 [.ref (B + 0), .int a1] σ (some (.int r)) σ :=
  MetR.of (by decide +kernel) (fun v hv => by simp only [List.mem_cons, List.not_mem_nil, or_false] at hv; rcases hv with rfl | rfl <;> rfl) (Nat.le_of_ble_eq_true rfl) hbs (fun p e s m args below meth c hF hr => wX11_reached hF (fun q hq => hq) hbs h (fun pc L hn hd => k_iret hF hr hn hd))
set_option maxHeartbeats 4000000 in
set_option maxRecDepth 100000 in
theorem wX11_begins_l11 {p : Program} {l : Launch} {e : Env} {s : State} {m : MethodId} {args : Array Value} {below : List Frame} {meth : Method} {c : Code} {Q : State → Prop} {A : Nat → Prop} {D : DD} {base B : Nat} (hF : KF D base cX11_begins RX11 A 7 0 0 p l e ({ frames := 1, cells := 0, slots := 0, locals := 21 } : Room) s m args below meth c) (hA : ∀ q, RA B shpR q → A q) (hbs : base ≤ B) {σ : St} {a1 : Int32} {a2 : Int32} {a3 : Int32} {ea4 : Int32} {x : (St × Int32)} {z : ((St × Int32) ⊕ (St × Int32))} (h : fX11_begins_l11 σ a1 a2 a3 ea4 x = some z) (hc : ∀ x, z = .inl x → KJ (Rep D B shpR) A 7 0 0 Q p l e ({ frames := 1, cells := 0, slots := 0, locals := 21 } : Room) s m args below meth c 0 0 11 [some (.ref (B + 0)), some (.int a1), some (.int a2), some (.int a3), some (.int ea4), some (.int x.2), none] [] x.1) (he : ∀ w, z = .inr w → KJ (Rep D B shpR) A 7 0 0 Q p l e ({ frames := 1, cells := 0, slots := 0, locals := 21 } : Room) s m args below meth c 0 0 34 [some (.ref (B + 0)), some (.int a1), some (.int a2), some (.int a3), some (.int ea4), some (.int w.2), none] [] w.1) : KJ (Rep D B shpR) A 7 0 0 Q p l e ({ frames := 1, cells := 0, slots := 0, locals := 21 } : Room) s m args below meth c 0 0 11 [some (.ref (B + 0)), some (.int a1), some (.int a2), some (.int a3), some (.int ea4), some (.int x.2), none] [] x.1 := by
  unfold fX11_begins_l11 at h
  refine k_iload hF dX11_begins_11 rfl ?_
  refine k_bipush hF (v := (24 : Int32)) dX11_begins_13 (by decide) ?_
  refine k_icmp_ge hF (tgt := 34) dX11_begins_15 (by decide) (fun c3 => ?_) (fun c3 => ?_)
  · replace h := ite_t c3 h
    exact he _ (Option.some.inj h).symm
  · replace h := ite_f c3 h
    refine k_aload_n hF dX11_begins_18 rfl ?_
    refine k_get hF (v := .ref (B + 42)) shR_0 fl_X11_135_X11 dX11_begins_19 rfl ?_
    refine k_iload_n hF dX11_begins_22 rfl ?_
    refine k_iload hF dX11_begins_23 rfl ?_
    refine k_iadd hF dX11_begins_25 ?_
    refine k_iconst hF dX11_begins_26 ci_0 ?_
    obtain ⟨g4, h⟩ := gd_some h
    refine k_iast hF hA shR_42 dX11_begins_27 g4 ?_
    obtain ⟨σ5, hσ5, h⟩ := lt_some h
    refine k_sig hσ5 ?_
    refine k_iinc hF (v := (x.2 + (1 : Int32))) (L' := [some (.ref (B + 0)), some (.int a1), some (.int a2), some (.int a3), some (.int ea4), some (.int (x.2 + (1 : Int32))), none]) dX11_begins_28 rfl (by first | rfl | (congr 1)) (by decide) rfl ?_
    refine k_goto hF dX11_begins_31 (tgt := 11) (by decide) ?_
    exact hc _ (Option.some.inj h).symm
set_option maxHeartbeats 4000000 in
set_option maxRecDepth 100000 in
theorem wX11_begins_j215 {p : Program} {l : Launch} {e : Env} {s : State} {m : MethodId} {args : Array Value} {below : List Frame} {meth : Method} {c : Code} {Q : State → Prop} {A : Nat → Prop} {D : DD} {base B : Nat} (hF : KF D base cX11_begins RX11 A 7 0 0 p l e ({ frames := 1, cells := 0, slots := 0, locals := 21 } : Room) s m args below meth c) (hA : ∀ q, RA B shpR q → A q) (hbs : base ≤ B) {σ : St} {a1 : Int32} {a2 : Int32} {a3 : Int32} {ea4 : Int32} {b5 : Int32} {z : ((St × Int32) ⊕ (St × Int32))} (h : fX11_begins_j215 σ a1 a2 a3 ea4 b5 = some z) (hc : ∀ x, z = .inl x → KJ (Rep D B shpR) A 7 0 0 Q p l e ({ frames := 1, cells := 0, slots := 0, locals := 21 } : Room) s m args below meth c 0 0 37 [some (.ref (B + 0)), some (.int a1), some (.int a2), some (.int a3), some (.int ea4), some (.int x.2), none] [] x.1) (he : ∀ w, z = .inr w → KJ (Rep D B shpR) A 7 0 0 Q p l e ({ frames := 1, cells := 0, slots := 0, locals := 21 } : Room) s m args below meth c 0 0 221 [some (.ref (B + 0)), some (.int a1), some (.int a2), some (.int a3), some (.int ea4), some (.int w.2), none] [] w.1) : KJ (Rep D B shpR) A 7 0 0 Q p l e ({ frames := 1, cells := 0, slots := 0, locals := 21 } : Room) s m args below meth c 0 0 215 [some (.ref (B + 0)), some (.int a1), some (.int a2), some (.int a3), some (.int ea4), some (.int b5), none] [] σ := by
  unfold fX11_begins_j215 at h
  refine k_iinc hF (v := (b5 + (1 : Int32))) (L' := [some (.ref (B + 0)), some (.int a1), some (.int a2), some (.int a3), some (.int ea4), some (.int (b5 + (1 : Int32))), none]) dX11_begins_215 rfl (by first | rfl | (congr 1)) (by decide) rfl ?_
  refine k_goto hF dX11_begins_218 (tgt := 37) (by decide) ?_
  exact hc _ (Option.some.inj h).symm
set_option maxHeartbeats 4000000 in
set_option maxRecDepth 100000 in
theorem wX11_begins_j207 {p : Program} {l : Launch} {e : Env} {s : State} {m : MethodId} {args : Array Value} {below : List Frame} {meth : Method} {c : Code} {Q : State → Prop} {A : Nat → Prop} {D : DD} {base B : Nat} (hF : KF D base cX11_begins RX11 A 7 0 0 p l e ({ frames := 1, cells := 0, slots := 0, locals := 21 } : Room) s m args below meth c) (hA : ∀ q, RA B shpR q → A q) (hbs : base ≤ B) {σ : St} {a1 : Int32} {a2 : Int32} {a3 : Int32} {ea4b : Int32} {ea5b : Int32} {b6 : Int32} {t0 : Int32} {t1 : Int32} {t2 : Int32} {z : ((St × Int32) ⊕ (St × Int32))} (h : fX11_begins_j207 σ a1 a2 a3 ea4b ea5b b6 t0 t1 t2 = some z) (hc : ∀ x, z = .inl x → KJ (Rep D B shpR) A 7 0 0 Q p l e ({ frames := 1, cells := 0, slots := 0, locals := 21 } : Room) s m args below meth c 0 0 152 [some (.ref (B + 0)), some (.int a1), some (.int a2), some (.int a3), some (.int ea4b), some (.int ea5b), some (.int x.2)] [] x.1) (he : ∀ w, z = .inr w → KJ (Rep D B shpR) A 7 0 0 Q p l e ({ frames := 1, cells := 0, slots := 0, locals := 21 } : Room) s m args below meth c 0 0 215 [some (.ref (B + 0)), some (.int a1), some (.int a2), some (.int a3), some (.int ea4b), some (.int ea5b), some (.int w.2)] [] w.1) : KJ (Rep D B shpR) A 7 0 0 Q p l e ({ frames := 1, cells := 0, slots := 0, locals := 21 } : Room) s m args below meth c 0 0 207 [some (.ref (B + 0)), some (.int a1), some (.int a2), some (.int a3), some (.int ea4b), some (.int ea5b), some (.int b6)] [.int t0, .int t1, .int t2, .ref (B + 42)] σ := by
  unfold fX11_begins_j207 at h
  refine k_ior hF dX11_begins_207 ?_
  obtain ⟨g18, h⟩ := gd_some h
  refine k_iast hF hA shR_42 dX11_begins_208 g18 ?_
  obtain ⟨σ19, hσ19, h⟩ := lt_some h
  refine k_sig hσ19 ?_
  refine k_iinc hF (v := (b6 + (1 : Int32))) (L' := [some (.ref (B + 0)), some (.int a1), some (.int a2), some (.int a3), some (.int ea4b), some (.int ea5b), some (.int (b6 + (1 : Int32)))]) dX11_begins_209 rfl (by first | rfl | (congr 1)) (by decide) rfl ?_
  refine k_goto hF dX11_begins_212 (tgt := 152) (by decide) ?_
  exact hc _ (Option.some.inj h).symm
set_option maxHeartbeats 4000000 in
set_option maxRecDepth 100000 in
theorem wX11_begins_j206 {p : Program} {l : Launch} {e : Env} {s : State} {m : MethodId} {args : Array Value} {below : List Frame} {meth : Method} {c : Code} {Q : State → Prop} {A : Nat → Prop} {D : DD} {base B : Nat} (hF : KF D base cX11_begins RX11 A 7 0 0 p l e ({ frames := 1, cells := 0, slots := 0, locals := 21 } : Room) s m args below meth c) (hA : ∀ q, RA B shpR q → A q) (hbs : base ≤ B) {σ : St} {a1 : Int32} {a2 : Int32} {a3 : Int32} {ea4b : Int32} {ea5b : Int32} {b6 : Int32} {t0 : Int32} {t1 : Int32} {z : ((St × Int32) ⊕ (St × Int32))} (h : fX11_begins_j206 σ a1 a2 a3 ea4b ea5b b6 t0 t1 = some z) (hc : ∀ x, z = .inl x → KJ (Rep D B shpR) A 7 0 0 Q p l e ({ frames := 1, cells := 0, slots := 0, locals := 21 } : Room) s m args below meth c 0 0 152 [some (.ref (B + 0)), some (.int a1), some (.int a2), some (.int a3), some (.int ea4b), some (.int ea5b), some (.int x.2)] [] x.1) (he : ∀ w, z = .inr w → KJ (Rep D B shpR) A 7 0 0 Q p l e ({ frames := 1, cells := 0, slots := 0, locals := 21 } : Room) s m args below meth c 0 0 215 [some (.ref (B + 0)), some (.int a1), some (.int a2), some (.int a3), some (.int ea4b), some (.int ea5b), some (.int w.2)] [] w.1) : KJ (Rep D B shpR) A 7 0 0 Q p l e ({ frames := 1, cells := 0, slots := 0, locals := 21 } : Room) s m args below meth c 0 0 206 [some (.ref (B + 0)), some (.int a1), some (.int a2), some (.int a3), some (.int ea4b), some (.int ea5b), some (.int b6)] [.int t0, .int t1, .ref (B + 42)] σ := by
  unfold fX11_begins_j206 at h
  refine k_iconst hF dX11_begins_206 ci_0 ?_
  exact wX11_begins_j207 hF hA hbs h hc he
set_option maxHeartbeats 4000000 in
set_option maxRecDepth 100000 in
theorem wX11_begins_l152 {p : Program} {l : Launch} {e : Env} {s : State} {m : MethodId} {args : Array Value} {below : List Frame} {meth : Method} {c : Code} {Q : State → Prop} {A : Nat → Prop} {D : DD} {base B : Nat} (hF : KF D base cX11_begins RX11 A 7 0 0 p l e ({ frames := 1, cells := 0, slots := 0, locals := 21 } : Room) s m args below meth c) (hA : ∀ q, RA B shpR q → A q) (hbs : base ≤ B) {σ : St} {a1 : Int32} {a2 : Int32} {a3 : Int32} {ea4b : Int32} {ea5b : Int32} {x : (St × Int32)} {z : ((St × Int32) ⊕ (St × Int32))} (h : fX11_begins_l152 σ a1 a2 a3 ea4b ea5b x = some z) (hc : ∀ x, z = .inl x → KJ (Rep D B shpR) A 7 0 0 Q p l e ({ frames := 1, cells := 0, slots := 0, locals := 21 } : Room) s m args below meth c 0 0 152 [some (.ref (B + 0)), some (.int a1), some (.int a2), some (.int a3), some (.int ea4b), some (.int ea5b), some (.int x.2)] [] x.1) (he : ∀ w, z = .inr w → KJ (Rep D B shpR) A 7 0 0 Q p l e ({ frames := 1, cells := 0, slots := 0, locals := 21 } : Room) s m args below meth c 0 0 215 [some (.ref (B + 0)), some (.int a1), some (.int a2), some (.int a3), some (.int ea4b), some (.int ea5b), some (.int w.2)] [] w.1) : KJ (Rep D B shpR) A 7 0 0 Q p l e ({ frames := 1, cells := 0, slots := 0, locals := 21 } : Room) s m args below meth c 0 0 152 [some (.ref (B + 0)), some (.int a1), some (.int a2), some (.int a3), some (.int ea4b), some (.int ea5b), some (.int x.2)] [] x.1 := by
  unfold fX11_begins_l152 at h
  refine k_iload hF dX11_begins_152 rfl ?_
  refine k_bipush hF (v := (24 : Int32)) dX11_begins_154 (by decide) ?_
  refine k_icmp_ge hF (tgt := 215) dX11_begins_156 (by decide) (fun c14 => ?_) (fun c14 => ?_)
  · replace h := ite_t c14 h
    exact he _ (Option.some.inj h).symm
  · replace h := ite_f c14 h
    refine k_aload_n hF dX11_begins_159 rfl ?_
    refine k_get hF (v := .ref (B + 42)) shR_0 fl_X11_135_X11 dX11_begins_160 rfl ?_
    refine k_iload_n hF dX11_begins_163 rfl ?_
    refine k_iload hF dX11_begins_164 rfl ?_
    refine k_iadd hF dX11_begins_166 ?_
    refine k_dup2 hF dX11_begins_167 rfl rfl ?_
    obtain ⟨g15, h⟩ := gd_some h
    refine k_iald hF shR_42 dX11_begins_168 g15 ?_
    refine k_iload_n hF dX11_begins_169 rfl ?_
    refine k_iload hF dX11_begins_170 rfl ?_
    obtain ⟨v16, hv16, h⟩ := bind_some h
    refine k_callS hF hA (as := [.int a3, .int x.2]) (ct_X11_has hbs hv16) ms_X11_142 rfl rfl ⟨Nat.le_of_ble_eq_true rfl, Nat.le_of_ble_eq_true rfl⟩ (Nat.le_of_ble_eq_true rfl) dX11_begins_172 ?_
    refine k_st (st2 := [.int v16, .int (gi x.1 42 (a2 + x.2).toNatClampNeg), .int (a2 + x.2), .ref (B + 42)]) rfl ?_
    refine k_if_eq hF (tgt := 206) dX11_begins_175 (by decide) (fun c17 => ?_) (fun c17 => ?_)
    · replace h := ite_t c17 h
      exact wX11_begins_j206 hF hA hbs h hc he
    · replace h := ite_f c17 h
      refine k_aload_n hF dX11_begins_178 rfl ?_
      refine k_get hF (v := .ref (B + 41)) shR_0 fl_X11_132_X11 dX11_begins_179 rfl ?_
      refine k_bipush hF (v := (24 : Int32)) dX11_begins_182 (by decide) ?_
      refine k_iload hF dX11_begins_184 rfl ?_
      refine k_imul hF dX11_begins_186 ?_
      refine k_iload hF dX11_begins_187 rfl ?_
      refine k_iadd hF dX11_begins_189 ?_
      obtain ⟨g20, h⟩ := gd_some h
      refine k_iald hF shR_41 dX11_begins_190 g20 ?_
      refine k_iload hF dX11_begins_191 rfl ?_
      obtain ⟨v21, hv21, h⟩ := bind_some h
      refine k_callS hF hA (as := [.int (gi x.1 41 (((24 : Int32) * ea4b) + ea5b).toNatClampNeg), .int x.2]) (ct_X11_has hbs hv21) ms_X11_142 rfl rfl ⟨Nat.le_of_ble_eq_true rfl, Nat.le_of_ble_eq_true rfl⟩ (Nat.le_of_ble_eq_true rfl) dX11_begins_193 ?_
      refine k_st (st2 := [.int v21, .int (gi x.1 42 (a2 + x.2).toNatClampNeg), .int (a2 + x.2), .ref (B + 42)]) rfl ?_
      refine k_if_eq hF (tgt := 206) dX11_begins_196 (by decide) (fun c22 => ?_) (fun c22 => ?_)
      · replace h := ite_t c22 h
        exact wX11_begins_j206 hF hA hbs h hc he
      · replace h := ite_f c22 h
        refine k_iconst hF dX11_begins_199 ci_1 ?_
        refine k_iload hF dX11_begins_200 rfl ?_
        refine k_ishl hF dX11_begins_202 ?_
        refine k_goto hF dX11_begins_203 (tgt := 207) (by decide) ?_
        exact wX11_begins_j207 hF hA hbs h hc he
set_option maxHeartbeats 4000000 in
set_option maxRecDepth 100000 in
theorem wX11_begins_j140 {p : Program} {l : Launch} {e : Env} {s : State} {m : MethodId} {args : Array Value} {below : List Frame} {meth : Method} {c : Code} {Q : State → Prop} {A : Nat → Prop} {D : DD} {base B : Nat} (hF : KF D base cX11_begins RX11 A 7 0 0 p l e ({ frames := 1, cells := 0, slots := 0, locals := 21 } : Room) s m args below meth c) (hA : ∀ q, RA B shpR q → A q) (hbs : base ≤ B) {σ : St} {a1 : Int32} {a2 : Int32} {a3 : Int32} {ea4 : Int32} {b5 : Int32} {z : ((St × Int32) ⊕ (St × Int32))} (h : fX11_begins_j140 σ a1 a2 a3 ea4 b5 = some z) (hc : ∀ x, z = .inl x → KJ (Rep D B shpR) A 7 0 0 Q p l e ({ frames := 1, cells := 0, slots := 0, locals := 21 } : Room) s m args below meth c 0 0 37 [some (.ref (B + 0)), some (.int a1), some (.int a2), some (.int a3), some (.int ea4), some (.int x.2), none] [] x.1) (he : ∀ w, z = .inr w → KJ (Rep D B shpR) A 7 0 0 Q p l e ({ frames := 1, cells := 0, slots := 0, locals := 21 } : Room) s m args below meth c 0 0 221 [some (.ref (B + 0)), some (.int a1), some (.int a2), some (.int a3), some (.int ea4), some (.int w.2), none] [] w.1) : KJ (Rep D B shpR) A 7 0 0 Q p l e ({ frames := 1, cells := 0, slots := 0, locals := 21 } : Room) s m args below meth c 0 0 140 [some (.ref (B + 0)), some (.int a1), some (.int a2), some (.int a3), some (.int ea4), some (.int b5), none] [] σ := by
  unfold fX11_begins_j140 at h
  refine k_iload_n hF dX11_begins_140 rfl ?_
  refine k_iload hF dX11_begins_141 rfl ?_
  obtain ⟨v12, hv12, h⟩ := bind_some h
  refine k_callS hF hA (as := [.int a3, .int b5]) (ct_X11_has hbs hv12) ms_X11_142 rfl rfl ⟨Nat.le_of_ble_eq_true rfl, Nat.le_of_ble_eq_true rfl⟩ (Nat.le_of_ble_eq_true rfl) dX11_begins_143 ?_
  refine k_st (st2 := [.int v12]) rfl ?_
  refine k_if_eq hF (tgt := 215) dX11_begins_146 (by decide) (fun c13 => ?_) (fun c13 => ?_)
  · replace h := ite_t c13 h
    exact wX11_begins_j215 hF hA hbs h hc he
  · replace h := ite_f c13 h
    refine k_iconst hF dX11_begins_149 ci_0 ?_
    refine k_istore hF (L' := [some (.ref (B + 0)), some (.int a1), some (.int a2), some (.int a3), some (.int ea4), some (.int b5), some (.int (0 : Int32))]) dX11_begins_150 (by decide) rfl ?_
    obtain ⟨x23, hx23, h⟩ := bind_some h
    refine k_loop (P := fun xq => KJ (Rep D B shpR) A 7 0 0 Q p l e ({ frames := 1, cells := 0, slots := 0, locals := 21 } : Room) s m args below meth c 0 0 152 [some (.ref (B + 0)), some (.int a1), some (.int a2), some (.int a3), some (.int ea4), some (.int b5), some (.int xq.2)] [] xq.1) (C := fun xq => KJ (Rep D B shpR) A 7 0 0 Q p l e ({ frames := 1, cells := 0, slots := 0, locals := 21 } : Room) s m args below meth c 0 0 215 [some (.ref (B + 0)), some (.int a1), some (.int a2), some (.int a3), some (.int ea4), some (.int b5), some (.int xq.2)] [] xq.1) (fun x z hz hc he => wX11_begins_l152 hF hA hbs hz hc he) hx23 ?_
    show KJ (Rep D B shpR) A 7 0 0 Q p l e ({ frames := 1, cells := 0, slots := 0, locals := 21 } : Room) s m args below meth c 0 0 215 [some (.ref (B + 0)), some (.int a1), some (.int a2), some (.int a3), some (.int ea4), some (.int b5), some (.int x23.2)] [] x23.1
    refine k_kill 6 rfl ?_
    exact wX11_begins_j215 hF hA hbs h hc he
set_option maxHeartbeats 4000000 in
set_option maxRecDepth 100000 in
theorem wX11_begins_j136 {p : Program} {l : Launch} {e : Env} {s : State} {m : MethodId} {args : Array Value} {below : List Frame} {meth : Method} {c : Code} {Q : State → Prop} {A : Nat → Prop} {D : DD} {base B : Nat} (hF : KF D base cX11_begins RX11 A 7 0 0 p l e ({ frames := 1, cells := 0, slots := 0, locals := 21 } : Room) s m args below meth c) (hA : ∀ q, RA B shpR q → A q) (hbs : base ≤ B) {σ : St} {a1 : Int32} {a2 : Int32} {a3 : Int32} {ea4 : Int32} {b5 : Int32} {t0 : Int32} {t1 : Int32} {z : ((St × Int32) ⊕ (St × Int32))} (h : fX11_begins_j136 σ a1 a2 a3 ea4 b5 t0 t1 = some z) (hc : ∀ x, z = .inl x → KJ (Rep D B shpR) A 7 0 0 Q p l e ({ frames := 1, cells := 0, slots := 0, locals := 21 } : Room) s m args below meth c 0 0 37 [some (.ref (B + 0)), some (.int a1), some (.int a2), some (.int a3), some (.int ea4), some (.int x.2), none] [] x.1) (he : ∀ w, z = .inr w → KJ (Rep D B shpR) A 7 0 0 Q p l e ({ frames := 1, cells := 0, slots := 0, locals := 21 } : Room) s m args below meth c 0 0 221 [some (.ref (B + 0)), some (.int a1), some (.int a2), some (.int a3), some (.int ea4), some (.int w.2), none] [] w.1) : KJ (Rep D B shpR) A 7 0 0 Q p l e ({ frames := 1, cells := 0, slots := 0, locals := 21 } : Room) s m args below meth c 0 0 136 [some (.ref (B + 0)), some (.int a1), some (.int a2), some (.int a3), some (.int ea4), some (.int b5), none] [.int t0, .int t1, .ref (B + 42)] σ := by
  unfold fX11_begins_j136 at h
  obtain ⟨g28, h⟩ := gd_some h
  refine k_iast hF hA shR_42 dX11_begins_136 g28 ?_
  obtain ⟨σ29, hσ29, h⟩ := lt_some h
  refine k_sig hσ29 ?_
  refine k_goto hF dX11_begins_137 (tgt := 215) (by decide) ?_
  exact wX11_begins_j215 hF hA hbs h hc he
set_option maxHeartbeats 4000000 in
set_option maxRecDepth 100000 in
theorem wX11_begins_j89 {p : Program} {l : Launch} {e : Env} {s : State} {m : MethodId} {args : Array Value} {below : List Frame} {meth : Method} {c : Code} {Q : State → Prop} {A : Nat → Prop} {D : DD} {base B : Nat} (hF : KF D base cX11_begins RX11 A 7 0 0 p l e ({ frames := 1, cells := 0, slots := 0, locals := 21 } : Room) s m args below meth c) (hA : ∀ q, RA B shpR q → A q) (hbs : base ≤ B) {σ : St} {a1 : Int32} {a2 : Int32} {a3 : Int32} {ea4 : Int32} {b5 : Int32} {z : ((St × Int32) ⊕ (St × Int32))} (h : fX11_begins_j89 σ a1 a2 a3 ea4 b5 = some z) (hc : ∀ x, z = .inl x → KJ (Rep D B shpR) A 7 0 0 Q p l e ({ frames := 1, cells := 0, slots := 0, locals := 21 } : Room) s m args below meth c 0 0 37 [some (.ref (B + 0)), some (.int a1), some (.int a2), some (.int a3), some (.int ea4), some (.int x.2), none] [] x.1) (he : ∀ w, z = .inr w → KJ (Rep D B shpR) A 7 0 0 Q p l e ({ frames := 1, cells := 0, slots := 0, locals := 21 } : Room) s m args below meth c 0 0 221 [some (.ref (B + 0)), some (.int a1), some (.int a2), some (.int a3), some (.int ea4), some (.int w.2), none] [] w.1) : KJ (Rep D B shpR) A 7 0 0 Q p l e ({ frames := 1, cells := 0, slots := 0, locals := 21 } : Room) s m args below meth c 0 0 89 [some (.ref (B + 0)), some (.int a1), some (.int a2), some (.int a3), some (.int ea4), some (.int b5), none] [] σ := by
  unfold fX11_begins_j89 at h
  refine k_iload_n hF dX11_begins_89 rfl ?_
  refine k_iload hF dX11_begins_90 rfl ?_
  obtain ⟨v10, hv10, h⟩ := bind_some h
  refine k_callS hF hA (as := [.int a3, .int b5]) (ct_X11_has hbs hv10) ms_X11_142 rfl rfl ⟨Nat.le_of_ble_eq_true rfl, Nat.le_of_ble_eq_true rfl⟩ (Nat.le_of_ble_eq_true rfl) dX11_begins_92 ?_
  refine k_st (st2 := [.int v10]) rfl ?_
  refine k_if_eq hF (tgt := 140) dX11_begins_95 (by decide) (fun c11 => ?_) (fun c11 => ?_)
  · replace h := ite_t c11 h
    exact wX11_begins_j140 hF hA hbs h hc he
  · replace h := ite_f c11 h
    refine k_aload_n hF dX11_begins_98 rfl ?_
    refine k_get hF (v := .ref (B + 34)) shR_0 fl_X11_111_X11 dX11_begins_99 rfl ?_
    refine k_iload_n hF dX11_begins_102 rfl ?_
    obtain ⟨g24, h⟩ := gd_some h
    refine k_iald hF shR_34 dX11_begins_103 g24 ?_
    refine k_iconst hF dX11_begins_104 ci_2 ?_
    refine k_icmp_ne hF (tgt := 140) dX11_begins_105 (by decide) (fun c25 => ?_) (fun c25 => ?_)
    · replace h := ite_f c25 h
      exact wX11_begins_j140 hF hA hbs h hc he
    · replace h := ite_t c25 h
      refine k_aload_n hF dX11_begins_108 rfl ?_
      refine k_get hF (v := .ref (B + 42)) shR_0 fl_X11_135_X11 dX11_begins_109 rfl ?_
      refine k_iload_n hF dX11_begins_112 rfl ?_
      refine k_iload hF dX11_begins_113 rfl ?_
      refine k_iadd hF dX11_begins_115 ?_
      refine k_aload_n hF dX11_begins_116 rfl ?_
      refine k_get hF (v := .ref (B + 1)) shR_0 fl_X11_7_X11 dX11_begins_117 rfl ?_
      refine k_iload hF dX11_begins_120 rfl ?_
      obtain ⟨g26, h⟩ := gd_some h
      refine k_iald hF shR_1 dX11_begins_122 g26 ?_
      refine k_iload hF dX11_begins_123 rfl ?_
      refine k_icmp_ne hF (tgt := 135) dX11_begins_125 (by decide) (fun c27 => ?_) (fun c27 => ?_)
      · replace h := ite_f c27 h
        refine k_iconst hF dX11_begins_135 ci_0 ?_
        exact wX11_begins_j136 hF hA hbs h hc he
      · replace h := ite_t c27 h
        refine k_iconst hF dX11_begins_128 ci_1 ?_
        refine k_iload hF dX11_begins_129 rfl ?_
        refine k_ishl hF dX11_begins_131 ?_
        refine k_goto hF dX11_begins_132 (tgt := 136) (by decide) ?_
        exact wX11_begins_j136 hF hA hbs h hc he
set_option maxHeartbeats 4000000 in
set_option maxRecDepth 100000 in
theorem wX11_begins_l37 {p : Program} {l : Launch} {e : Env} {s : State} {m : MethodId} {args : Array Value} {below : List Frame} {meth : Method} {c : Code} {Q : State → Prop} {A : Nat → Prop} {D : DD} {base B : Nat} (hF : KF D base cX11_begins RX11 A 7 0 0 p l e ({ frames := 1, cells := 0, slots := 0, locals := 21 } : Room) s m args below meth c) (hA : ∀ q, RA B shpR q → A q) (hbs : base ≤ B) {σ : St} {a1 : Int32} {a2 : Int32} {a3 : Int32} {ea4 : Int32} {x : (St × Int32)} {z : ((St × Int32) ⊕ (St × Int32))} (h : fX11_begins_l37 σ a1 a2 a3 ea4 x = some z) (hc : ∀ x, z = .inl x → KJ (Rep D B shpR) A 7 0 0 Q p l e ({ frames := 1, cells := 0, slots := 0, locals := 21 } : Room) s m args below meth c 0 0 37 [some (.ref (B + 0)), some (.int a1), some (.int a2), some (.int a3), some (.int ea4), some (.int x.2), none] [] x.1) (he : ∀ w, z = .inr w → KJ (Rep D B shpR) A 7 0 0 Q p l e ({ frames := 1, cells := 0, slots := 0, locals := 21 } : Room) s m args below meth c 0 0 221 [some (.ref (B + 0)), some (.int a1), some (.int a2), some (.int a3), some (.int ea4), some (.int w.2), none] [] w.1) : KJ (Rep D B shpR) A 7 0 0 Q p l e ({ frames := 1, cells := 0, slots := 0, locals := 21 } : Room) s m args below meth c 0 0 37 [some (.ref (B + 0)), some (.int a1), some (.int a2), some (.int a3), some (.int ea4), some (.int x.2), none] [] x.1 := by
  unfold fX11_begins_l37 at h
  refine k_iload hF dX11_begins_37 rfl ?_
  refine k_bipush hF (v := (24 : Int32)) dX11_begins_39 (by decide) ?_
  refine k_icmp_ge hF (tgt := 221) dX11_begins_41 (by decide) (fun c7 => ?_) (fun c7 => ?_)
  · replace h := ite_t c7 h
    exact he _ (Option.some.inj h).symm
  · replace h := ite_f c7 h
    refine k_iload_n hF dX11_begins_44 rfl ?_
    refine k_iload hF dX11_begins_45 rfl ?_
    obtain ⟨v8, hv8, h⟩ := bind_some h
    refine k_callS hF hA (as := [.int a3, .int x.2]) (ct_X11_has hbs hv8) ms_X11_142 rfl rfl ⟨Nat.le_of_ble_eq_true rfl, Nat.le_of_ble_eq_true rfl⟩ (Nat.le_of_ble_eq_true rfl) dX11_begins_47 ?_
    refine k_st (st2 := [.int v8]) rfl ?_
    refine k_if_eq hF (tgt := 89) dX11_begins_50 (by decide) (fun c9 => ?_) (fun c9 => ?_)
    · replace h := ite_t c9 h
      exact wX11_begins_j89 hF hA hbs h hc he
    · replace h := ite_f c9 h
      refine k_aload_n hF dX11_begins_53 rfl ?_
      refine k_get hF (v := .ref (B + 34)) shR_0 fl_X11_111_X11 dX11_begins_54 rfl ?_
      refine k_iload_n hF dX11_begins_57 rfl ?_
      obtain ⟨g30, h⟩ := gd_some h
      refine k_iald hF shR_34 dX11_begins_58 g30 ?_
      refine k_if_ne hF (tgt := 89) dX11_begins_59 (by decide) (fun c31 => ?_) (fun c31 => ?_)
      · replace h := ite_f c31 h
        exact wX11_begins_j89 hF hA hbs h hc he
      · replace h := ite_t c31 h
        refine k_aload_n hF dX11_begins_62 rfl ?_
        refine k_get hF (v := .ref (B + 42)) shR_0 fl_X11_135_X11 dX11_begins_63 rfl ?_
        refine k_iload_n hF dX11_begins_66 rfl ?_
        refine k_iload hF dX11_begins_67 rfl ?_
        refine k_iadd hF dX11_begins_69 ?_
        refine k_aload_n hF dX11_begins_70 rfl ?_
        refine k_get hF (v := .ref (B + 41)) shR_0 fl_X11_132_X11 dX11_begins_71 rfl ?_
        refine k_bipush hF (v := (24 : Int32)) dX11_begins_74 (by decide) ?_
        refine k_iload hF dX11_begins_76 rfl ?_
        refine k_imul hF dX11_begins_78 ?_
        refine k_iload hF dX11_begins_79 rfl ?_
        refine k_iadd hF dX11_begins_81 ?_
        obtain ⟨g32, h⟩ := gd_some h
        refine k_iald hF shR_41 dX11_begins_82 g32 ?_
        refine k_iload_n hF dX11_begins_83 rfl ?_
        refine k_iand hF dX11_begins_84 ?_
        obtain ⟨g33, h⟩ := gd_some h
        refine k_iast hF hA shR_42 dX11_begins_85 g33 ?_
        obtain ⟨σ34, hσ34, h⟩ := lt_some h
        refine k_sig hσ34 ?_
        refine k_goto hF dX11_begins_86 (tgt := 215) (by decide) ?_
        exact wX11_begins_j215 hF hA hbs h hc he
set_option maxHeartbeats 4000000 in
set_option maxRecDepth 100000 in
theorem wX11_begins {p : Program} {l : Launch} {e : Env} {s : State} {m : MethodId} {args : Array Value} {below : List Frame} {meth : Method} {c : Code} {Q : State → Prop} {A : Nat → Prop} {D : DD} {base B : Nat} (hF : KF D base cX11_begins RX11 A 7 0 0 p l e ({ frames := 1, cells := 0, slots := 0, locals := 21 } : Room) s m args below meth c) (hA : ∀ q, RA B shpR q → A q) (hbs : base ≤ B) {σ : St} {a1 : Int32} {a2 : Int32} {a3 : Int32} {z : St} (h : fX11_begins σ a1 a2 a3 = some z) (hr : ∀ (pc : Nat) (L : List (Option Value)), decode cX11_begins pc = .ok (.return_, 1) → KJ (Rep D B shpR) A 7 0 0 Q p l e ({ frames := 1, cells := 0, slots := 0, locals := 21 } : Room) s m args below meth c 0 0 pc L [] z) : KJ (Rep D B shpR) A 7 0 0 Q p l e ({ frames := 1, cells := 0, slots := 0, locals := 21 } : Room) s m args below meth c 0 0 0 [some (.ref (B + 0)), some (.int a1), some (.int a2), some (.int a3), none, none, none] [] σ := by
  unfold fX11_begins at h
  refine k_aload_n hF dX11_begins_0 rfl ?_
  refine k_get hF (v := .ref (B + 35)) shR_0 fl_X11_114_X11 dX11_begins_1 rfl ?_
  refine k_iload_n hF dX11_begins_4 rfl ?_
  obtain ⟨g1, h⟩ := gd_some h
  refine k_iald hF shR_35 dX11_begins_5 g1 ?_
  obtain ⟨n2, hn2, h⟩ := lt_some h
  refine k_st (st2 := [.int n2]) (by rw [hn2]) ?_
  refine k_istore hF (L' := [some (.ref (B + 0)), some (.int a1), some (.int a2), some (.int a3), some (.int n2), none, none]) dX11_begins_6 (by decide) rfl ?_
  refine k_iconst hF dX11_begins_8 ci_0 ?_
  refine k_istore hF (L' := [some (.ref (B + 0)), some (.int a1), some (.int a2), some (.int a3), some (.int n2), some (.int (0 : Int32)), none]) dX11_begins_9 (by decide) rfl ?_
  obtain ⟨x6, hx6, h⟩ := bind_some h
  refine k_loop (P := fun xq => KJ (Rep D B shpR) A 7 0 0 Q p l e ({ frames := 1, cells := 0, slots := 0, locals := 21 } : Room) s m args below meth c 0 0 11 [some (.ref (B + 0)), some (.int a1), some (.int a2), some (.int a3), some (.int n2), some (.int xq.2), none] [] xq.1) (C := fun xq => KJ (Rep D B shpR) A 7 0 0 Q p l e ({ frames := 1, cells := 0, slots := 0, locals := 21 } : Room) s m args below meth c 0 0 34 [some (.ref (B + 0)), some (.int a1), some (.int a2), some (.int a3), some (.int n2), some (.int xq.2), none] [] xq.1) (fun x z hz hc he => wX11_begins_l11 hF hA hbs hz hc he) hx6 ?_
  show KJ (Rep D B shpR) A 7 0 0 Q p l e ({ frames := 1, cells := 0, slots := 0, locals := 21 } : Room) s m args below meth c 0 0 34 [some (.ref (B + 0)), some (.int a1), some (.int a2), some (.int a3), some (.int n2), some (.int x6.2), none] [] x6.1
  refine k_iconst hF dX11_begins_34 ci_0 ?_
  refine k_istore hF (L' := [some (.ref (B + 0)), some (.int a1), some (.int a2), some (.int a3), some (.int n2), some (.int (0 : Int32)), none]) dX11_begins_35 (by decide) rfl ?_
  obtain ⟨x35, hx35, h⟩ := bind_some h
  refine k_loop (P := fun xq => KJ (Rep D B shpR) A 7 0 0 Q p l e ({ frames := 1, cells := 0, slots := 0, locals := 21 } : Room) s m args below meth c 0 0 37 [some (.ref (B + 0)), some (.int a1), some (.int a2), some (.int a3), some (.int n2), some (.int xq.2), none] [] xq.1) (C := fun xq => KJ (Rep D B shpR) A 7 0 0 Q p l e ({ frames := 1, cells := 0, slots := 0, locals := 21 } : Room) s m args below meth c 0 0 221 [some (.ref (B + 0)), some (.int a1), some (.int a2), some (.int a3), some (.int n2), some (.int xq.2), none] [] xq.1) (fun x z hz hc he => wX11_begins_l37 hF hA hbs hz hc he) hx35 ?_
  show KJ (Rep D B shpR) A 7 0 0 Q p l e ({ frames := 1, cells := 0, slots := 0, locals := 21 } : Room) s m args below meth c 0 0 221 [some (.ref (B + 0)), some (.int a1), some (.int a2), some (.int a3), some (.int n2), some (.int x35.2), none] [] x35.1
  cases h
  exact hr _ _ dX11_begins_221
theorem ct_X11_begins {l : Launch} {D : DD} {base B : Nat} (hbs : base ≤ B) {σ : St} {a1 : Int32} {a2 : Int32} {a3 : Int32} {r : St} (h : fX11_begins σ a1 a2 a3 = some r) : MetR l D B shpR base yX11_begins cX11_begins 7 none 1 21 [.ref (B + 0), .int a1, .int a2, .int a3] σ none r :=
  MetR.of (by decide +kernel) (fun v hv => by simp only [List.mem_cons, List.not_mem_nil, or_false] at hv; rcases hv with rfl | rfl | rfl | rfl <;> rfl) (Nat.le_of_ble_eq_true rfl) hbs (fun p e s m args below meth c hF hr => wX11_begins hF (fun q hq => hq) hbs h (fun pc L hd => k_vret hF hr hd))
set_option maxHeartbeats 4000000 in
set_option maxRecDepth 100000 in
theorem wX11_closes_j32 {p : Program} {l : Launch} {e : Env} {s : State} {m : MethodId} {args : Array Value} {below : List Frame} {meth : Method} {c : Code} {Q : State → Prop} {A : Nat → Prop} {D : DD} {base B : Nat} (hF : KF D base cX11_closes RX11 A 5 0 0 p l e ({ frames := 1, cells := 0, slots := 0, locals := 21 } : Room) s m args below meth c) (hA : ∀ q, RA B shpR q → A q) (hbs : base ≤ B) {σ : St} {a1 : Int32} {a2 : Int32} {b3 : Int32} {t0 : Int32} {t1 : Int32} {t2 : Int32} {z : ((St × Int32) ⊕ (St × Int32))} (h : fX11_closes_j32 σ a1 a2 b3 t0 t1 t2 = some z) (hc : ∀ x, z = .inl x → KJ (Rep D B shpR) A 5 0 0 Q p l e ({ frames := 1, cells := 0, slots := 0, locals := 21 } : Room) s m args below meth c 0 0 2 [some (.ref (B + 0)), some (.int a1), some (.int a2), some (.int x.2), none] [] x.1) (he : ∀ w, z = .inr w → KJ (Rep D B shpR) A 5 0 0 Q p l e ({ frames := 1, cells := 0, slots := 0, locals := 21 } : Room) s m args below meth c 0 0 40 [some (.ref (B + 0)), some (.int a1), some (.int a2), some (.int w.2), none] [] w.1) : KJ (Rep D B shpR) A 5 0 0 Q p l e ({ frames := 1, cells := 0, slots := 0, locals := 21 } : Room) s m args below meth c 0 0 32 [some (.ref (B + 0)), some (.int a1), some (.int a2), some (.int b3), none] [.int t0, .int t1, .int t2, .ref (B + 42)] σ := by
  unfold fX11_closes_j32 at h
  refine k_ior hF dX11_closes_32 ?_
  obtain ⟨g5, h⟩ := gd_some h
  refine k_iast hF hA shR_42 dX11_closes_33 g5 ?_
  obtain ⟨σ6, hσ6, h⟩ := lt_some h
  refine k_sig hσ6 ?_
  refine k_iinc hF (v := (b3 + (1 : Int32))) (L' := [some (.ref (B + 0)), some (.int a1), some (.int a2), some (.int (b3 + (1 : Int32))), none]) dX11_closes_34 rfl (by first | rfl | (congr 1)) (by decide) rfl ?_
  refine k_goto hF dX11_closes_37 (tgt := 2) (by decide) ?_
  exact hc _ (Option.some.inj h).symm
set_option maxHeartbeats 4000000 in
set_option maxRecDepth 100000 in
theorem wX11_closes_l2 {p : Program} {l : Launch} {e : Env} {s : State} {m : MethodId} {args : Array Value} {below : List Frame} {meth : Method} {c : Code} {Q : State → Prop} {A : Nat → Prop} {D : DD} {base B : Nat} (hF : KF D base cX11_closes RX11 A 5 0 0 p l e ({ frames := 1, cells := 0, slots := 0, locals := 21 } : Room) s m args below meth c) (hA : ∀ q, RA B shpR q → A q) (hbs : base ≤ B) {σ : St} {a1 : Int32} {a2 : Int32} {x : (St × Int32)} {z : ((St × Int32) ⊕ (St × Int32))} (h : fX11_closes_l2 σ a1 a2 x = some z) (hc : ∀ x, z = .inl x → KJ (Rep D B shpR) A 5 0 0 Q p l e ({ frames := 1, cells := 0, slots := 0, locals := 21 } : Room) s m args below meth c 0 0 2 [some (.ref (B + 0)), some (.int a1), some (.int a2), some (.int x.2), none] [] x.1) (he : ∀ w, z = .inr w → KJ (Rep D B shpR) A 5 0 0 Q p l e ({ frames := 1, cells := 0, slots := 0, locals := 21 } : Room) s m args below meth c 0 0 40 [some (.ref (B + 0)), some (.int a1), some (.int a2), some (.int w.2), none] [] w.1) : KJ (Rep D B shpR) A 5 0 0 Q p l e ({ frames := 1, cells := 0, slots := 0, locals := 21 } : Room) s m args below meth c 0 0 2 [some (.ref (B + 0)), some (.int a1), some (.int a2), some (.int x.2), none] [] x.1 := by
  unfold fX11_closes_l2 at h
  refine k_iload_n hF dX11_closes_2 rfl ?_
  refine k_bipush hF (v := (24 : Int32)) dX11_closes_3 (by decide) ?_
  refine k_icmp_ge hF (tgt := 40) dX11_closes_5 (by decide) (fun c1 => ?_) (fun c1 => ?_)
  · replace h := ite_t c1 h
    exact he _ (Option.some.inj h).symm
  · replace h := ite_f c1 h
    refine k_aload_n hF dX11_closes_8 rfl ?_
    refine k_get hF (v := .ref (B + 42)) shR_0 fl_X11_135_X11 dX11_closes_9 rfl ?_
    refine k_iload_n hF dX11_closes_12 rfl ?_
    refine k_iload_n hF dX11_closes_13 rfl ?_
    refine k_iadd hF dX11_closes_14 ?_
    refine k_dup2 hF dX11_closes_15 rfl rfl ?_
    obtain ⟨g2, h⟩ := gd_some h
    refine k_iald hF shR_42 dX11_closes_16 g2 ?_
    refine k_iload_n hF dX11_closes_17 rfl ?_
    refine k_iload_n hF dX11_closes_18 rfl ?_
    obtain ⟨v3, hv3, h⟩ := bind_some h
    refine k_callS hF hA (as := [.int a2, .int x.2]) (ct_X11_has hbs hv3) ms_X11_142 rfl rfl ⟨Nat.le_of_ble_eq_true rfl, Nat.le_of_ble_eq_true rfl⟩ (Nat.le_of_ble_eq_true rfl) dX11_closes_19 ?_
    refine k_st (st2 := [.int v3, .int (gi x.1 42 (a1 + x.2).toNatClampNeg), .int (a1 + x.2), .ref (B + 42)]) rfl ?_
    refine k_if_eq hF (tgt := 31) dX11_closes_22 (by decide) (fun c4 => ?_) (fun c4 => ?_)
    · replace h := ite_t c4 h
      refine k_iconst hF dX11_closes_31 ci_0 ?_
      exact wX11_closes_j32 hF hA hbs h hc he
    · replace h := ite_f c4 h
      refine k_iconst hF dX11_closes_25 ci_1 ?_
      refine k_iload_n hF dX11_closes_26 rfl ?_
      refine k_ishl hF dX11_closes_27 ?_
      refine k_goto hF dX11_closes_28 (tgt := 32) (by decide) ?_
      exact wX11_closes_j32 hF hA hbs h hc he
set_option maxHeartbeats 4000000 in
set_option maxRecDepth 100000 in
theorem wX11_closes_j96 {p : Program} {l : Launch} {e : Env} {s : State} {m : MethodId} {args : Array Value} {below : List Frame} {meth : Method} {c : Code} {Q : State → Prop} {A : Nat → Prop} {D : DD} {base B : Nat} (hF : KF D base cX11_closes RX11 A 5 0 0 p l e ({ frames := 1, cells := 0, slots := 0, locals := 21 } : Room) s m args below meth c) (hA : ∀ q, RA B shpR q → A q) (hbs : base ≤ B) {σ : St} {a1 : Int32} {a2 : Int32} {ea3b : Int32} {b4 : Int32} {t0 : Int32} {t1 : Int32} {t2 : Int32} {z : ((St × Int32) ⊕ (St × Int32))} (h : fX11_closes_j96 σ a1 a2 ea3b b4 t0 t1 t2 = some z) (hc : ∀ x, z = .inl x → KJ (Rep D B shpR) A 5 0 0 Q p l e ({ frames := 1, cells := 0, slots := 0, locals := 21 } : Room) s m args below meth c 0 0 51 [some (.ref (B + 0)), some (.int a1), some (.int a2), some (.int ea3b), some (.int x.2)] [] x.1) (he : ∀ w, z = .inr w → KJ (Rep D B shpR) A 5 0 0 Q p l e ({ frames := 1, cells := 0, slots := 0, locals := 21 } : Room) s m args below meth c 0 0 104 [some (.ref (B + 0)), some (.int a1), some (.int a2), some (.int ea3b), some (.int w.2)] [] w.1) : KJ (Rep D B shpR) A 5 0 0 Q p l e ({ frames := 1, cells := 0, slots := 0, locals := 21 } : Room) s m args below meth c 0 0 96 [some (.ref (B + 0)), some (.int a1), some (.int a2), some (.int ea3b), some (.int b4)] [.int t0, .int t1, .int t2, .ref (B + 42)] σ := by
  unfold fX11_closes_j96 at h
  refine k_ior hF dX11_closes_96 ?_
  obtain ⟨g14, h⟩ := gd_some h
  refine k_iast hF hA shR_42 dX11_closes_97 g14 ?_
  obtain ⟨σ15, hσ15, h⟩ := lt_some h
  refine k_sig hσ15 ?_
  refine k_iinc hF (v := (b4 + (1 : Int32))) (L' := [some (.ref (B + 0)), some (.int a1), some (.int a2), some (.int ea3b), some (.int (b4 + (1 : Int32)))]) dX11_closes_98 rfl (by first | rfl | (congr 1)) (by decide) rfl ?_
  refine k_goto hF dX11_closes_101 (tgt := 51) (by decide) ?_
  exact hc _ (Option.some.inj h).symm
set_option maxHeartbeats 4000000 in
set_option maxRecDepth 100000 in
theorem wX11_closes_l51 {p : Program} {l : Launch} {e : Env} {s : State} {m : MethodId} {args : Array Value} {below : List Frame} {meth : Method} {c : Code} {Q : State → Prop} {A : Nat → Prop} {D : DD} {base B : Nat} (hF : KF D base cX11_closes RX11 A 5 0 0 p l e ({ frames := 1, cells := 0, slots := 0, locals := 21 } : Room) s m args below meth c) (hA : ∀ q, RA B shpR q → A q) (hbs : base ≤ B) {σ : St} {a1 : Int32} {a2 : Int32} {ea3b : Int32} {x : (St × Int32)} {z : ((St × Int32) ⊕ (St × Int32))} (h : fX11_closes_l51 σ a1 a2 ea3b x = some z) (hc : ∀ x, z = .inl x → KJ (Rep D B shpR) A 5 0 0 Q p l e ({ frames := 1, cells := 0, slots := 0, locals := 21 } : Room) s m args below meth c 0 0 51 [some (.ref (B + 0)), some (.int a1), some (.int a2), some (.int ea3b), some (.int x.2)] [] x.1) (he : ∀ w, z = .inr w → KJ (Rep D B shpR) A 5 0 0 Q p l e ({ frames := 1, cells := 0, slots := 0, locals := 21 } : Room) s m args below meth c 0 0 104 [some (.ref (B + 0)), some (.int a1), some (.int a2), some (.int ea3b), some (.int w.2)] [] w.1) : KJ (Rep D B shpR) A 5 0 0 Q p l e ({ frames := 1, cells := 0, slots := 0, locals := 21 } : Room) s m args below meth c 0 0 51 [some (.ref (B + 0)), some (.int a1), some (.int a2), some (.int ea3b), some (.int x.2)] [] x.1 := by
  unfold fX11_closes_l51 at h
  refine k_iload hF dX11_closes_51 rfl ?_
  refine k_bipush hF (v := (24 : Int32)) dX11_closes_53 (by decide) ?_
  refine k_icmp_ge hF (tgt := 104) dX11_closes_55 (by decide) (fun c9 => ?_) (fun c9 => ?_)
  · replace h := ite_t c9 h
    exact he _ (Option.some.inj h).symm
  · replace h := ite_f c9 h
    refine k_aload_n hF dX11_closes_58 rfl ?_
    refine k_get hF (v := .ref (B + 42)) shR_0 fl_X11_135_X11 dX11_closes_59 rfl ?_
    refine k_iload_n hF dX11_closes_62 rfl ?_
    refine k_iload hF dX11_closes_63 rfl ?_
    refine k_iadd hF dX11_closes_65 ?_
    refine k_dup2 hF dX11_closes_66 rfl rfl ?_
    obtain ⟨g10, h⟩ := gd_some h
    refine k_iald hF shR_42 dX11_closes_67 g10 ?_
    refine k_aload_n hF dX11_closes_68 rfl ?_
    refine k_get hF (v := .ref (B + 42)) shR_0 fl_X11_135_X11 dX11_closes_69 rfl ?_
    refine k_iload_n hF dX11_closes_72 rfl ?_
    refine k_iload hF dX11_closes_73 rfl ?_
    refine k_iadd hF dX11_closes_75 ?_
    obtain ⟨g11, h⟩ := gd_some h
    refine k_iald hF shR_42 dX11_closes_76 g11 ?_
    refine k_iload_n hF dX11_closes_77 rfl ?_
    obtain ⟨v12, hv12, h⟩ := bind_some h
    refine k_callS hF hA (as := [.int (gi x.1 42 (a1 + x.2).toNatClampNeg), .int ea3b]) (ct_X11_has hbs hv12) ms_X11_142 rfl rfl ⟨Nat.le_of_ble_eq_true rfl, Nat.le_of_ble_eq_true rfl⟩ (Nat.le_of_ble_eq_true rfl) dX11_closes_78 ?_
    refine k_st (st2 := [.int v12, .int (gi x.1 42 (a1 + x.2).toNatClampNeg), .int (a1 + x.2), .ref (B + 42)]) rfl ?_
    refine k_if_eq hF (tgt := 95) dX11_closes_81 (by decide) (fun c13 => ?_) (fun c13 => ?_)
    · replace h := ite_t c13 h
      refine k_iconst hF dX11_closes_95 ci_0 ?_
      exact wX11_closes_j96 hF hA hbs h hc he
    · replace h := ite_f c13 h
      refine k_aload_n hF dX11_closes_84 rfl ?_
      refine k_get hF (v := .ref (B + 42)) shR_0 fl_X11_135_X11 dX11_closes_85 rfl ?_
      refine k_iload_n hF dX11_closes_88 rfl ?_
      refine k_iload_n hF dX11_closes_89 rfl ?_
      refine k_iadd hF dX11_closes_90 ?_
      obtain ⟨g16, h⟩ := gd_some h
      refine k_iald hF shR_42 dX11_closes_91 g16 ?_
      refine k_goto hF dX11_closes_92 (tgt := 96) (by decide) ?_
      exact wX11_closes_j96 hF hA hbs h hc he
set_option maxHeartbeats 4000000 in
set_option maxRecDepth 100000 in
theorem wX11_closes_l42 {p : Program} {l : Launch} {e : Env} {s : State} {m : MethodId} {args : Array Value} {below : List Frame} {meth : Method} {c : Code} {Q : State → Prop} {A : Nat → Prop} {D : DD} {base B : Nat} (hF : KF D base cX11_closes RX11 A 5 0 0 p l e ({ frames := 1, cells := 0, slots := 0, locals := 21 } : Room) s m args below meth c) (hA : ∀ q, RA B shpR q → A q) (hbs : base ≤ B) {σ : St} {a1 : Int32} {a2 : Int32} {x : (St × Int32)} {z : ((St × Int32) ⊕ (St × Int32))} (h : fX11_closes_l42 σ a1 a2 x = some z) (hc : ∀ x, z = .inl x → KJ (Rep D B shpR) A 5 0 0 Q p l e ({ frames := 1, cells := 0, slots := 0, locals := 21 } : Room) s m args below meth c 0 0 42 [some (.ref (B + 0)), some (.int a1), some (.int a2), some (.int x.2), none] [] x.1) (he : ∀ w, z = .inr w → KJ (Rep D B shpR) A 5 0 0 Q p l e ({ frames := 1, cells := 0, slots := 0, locals := 21 } : Room) s m args below meth c 0 0 110 [some (.ref (B + 0)), some (.int a1), some (.int a2), some (.int w.2), none] [] w.1) : KJ (Rep D B shpR) A 5 0 0 Q p l e ({ frames := 1, cells := 0, slots := 0, locals := 21 } : Room) s m args below meth c 0 0 42 [some (.ref (B + 0)), some (.int a1), some (.int a2), some (.int x.2), none] [] x.1 := by
  unfold fX11_closes_l42 at h
  refine k_iload_n hF dX11_closes_42 rfl ?_
  refine k_bipush hF (v := (24 : Int32)) dX11_closes_43 (by decide) ?_
  refine k_icmp_ge hF (tgt := 110) dX11_closes_45 (by decide) (fun c8 => ?_) (fun c8 => ?_)
  · replace h := ite_t c8 h
    exact he _ (Option.some.inj h).symm
  · replace h := ite_f c8 h
    refine k_iconst hF dX11_closes_48 ci_0 ?_
    refine k_istore hF (L' := [some (.ref (B + 0)), some (.int a1), some (.int a2), some (.int x.2), some (.int (0 : Int32))]) dX11_closes_49 (by decide) rfl ?_
    obtain ⟨x17, hx17, h⟩ := bind_some h
    refine k_loop (P := fun xq => KJ (Rep D B shpR) A 5 0 0 Q p l e ({ frames := 1, cells := 0, slots := 0, locals := 21 } : Room) s m args below meth c 0 0 51 [some (.ref (B + 0)), some (.int a1), some (.int a2), some (.int x.2), some (.int xq.2)] [] xq.1) (C := fun xq => KJ (Rep D B shpR) A 5 0 0 Q p l e ({ frames := 1, cells := 0, slots := 0, locals := 21 } : Room) s m args below meth c 0 0 104 [some (.ref (B + 0)), some (.int a1), some (.int a2), some (.int x.2), some (.int xq.2)] [] xq.1) (fun x z hz hc he => wX11_closes_l51 hF hA hbs hz hc he) hx17 ?_
    show KJ (Rep D B shpR) A 5 0 0 Q p l e ({ frames := 1, cells := 0, slots := 0, locals := 21 } : Room) s m args below meth c 0 0 104 [some (.ref (B + 0)), some (.int a1), some (.int a2), some (.int x.2), some (.int x17.2)] [] x17.1
    refine k_iinc hF (v := (x.2 + (1 : Int32))) (L' := [some (.ref (B + 0)), some (.int a1), some (.int a2), some (.int (x.2 + (1 : Int32))), some (.int x17.2)]) dX11_closes_104 rfl (by first | rfl | (congr 1)) (by decide) rfl ?_
    refine k_goto hF dX11_closes_107 (tgt := 42) (by decide) ?_
    refine k_kill 4 rfl ?_
    exact hc _ (Option.some.inj h).symm
set_option maxHeartbeats 4000000 in
set_option maxRecDepth 100000 in
theorem wX11_closes {p : Program} {l : Launch} {e : Env} {s : State} {m : MethodId} {args : Array Value} {below : List Frame} {meth : Method} {c : Code} {Q : State → Prop} {A : Nat → Prop} {D : DD} {base B : Nat} (hF : KF D base cX11_closes RX11 A 5 0 0 p l e ({ frames := 1, cells := 0, slots := 0, locals := 21 } : Room) s m args below meth c) (hA : ∀ q, RA B shpR q → A q) (hbs : base ≤ B) {σ : St} {a1 : Int32} {a2 : Int32} {z : St} (h : fX11_closes σ a1 a2 = some z) (hr : ∀ (pc : Nat) (L : List (Option Value)), decode cX11_closes pc = .ok (.return_, 1) → KJ (Rep D B shpR) A 5 0 0 Q p l e ({ frames := 1, cells := 0, slots := 0, locals := 21 } : Room) s m args below meth c 0 0 pc L [] z) : KJ (Rep D B shpR) A 5 0 0 Q p l e ({ frames := 1, cells := 0, slots := 0, locals := 21 } : Room) s m args below meth c 0 0 0 [some (.ref (B + 0)), some (.int a1), some (.int a2), none, none] [] σ := by
  unfold fX11_closes at h
  refine k_iconst hF dX11_closes_0 ci_0 ?_
  refine k_istore_n hF (L' := [some (.ref (B + 0)), some (.int a1), some (.int a2), some (.int (0 : Int32)), none]) dX11_closes_1 (by decide) rfl ?_
  obtain ⟨x7, hx7, h⟩ := bind_some h
  refine k_loop (P := fun xq => KJ (Rep D B shpR) A 5 0 0 Q p l e ({ frames := 1, cells := 0, slots := 0, locals := 21 } : Room) s m args below meth c 0 0 2 [some (.ref (B + 0)), some (.int a1), some (.int a2), some (.int xq.2), none] [] xq.1) (C := fun xq => KJ (Rep D B shpR) A 5 0 0 Q p l e ({ frames := 1, cells := 0, slots := 0, locals := 21 } : Room) s m args below meth c 0 0 40 [some (.ref (B + 0)), some (.int a1), some (.int a2), some (.int xq.2), none] [] xq.1) (fun x z hz hc he => wX11_closes_l2 hF hA hbs hz hc he) hx7 ?_
  show KJ (Rep D B shpR) A 5 0 0 Q p l e ({ frames := 1, cells := 0, slots := 0, locals := 21 } : Room) s m args below meth c 0 0 40 [some (.ref (B + 0)), some (.int a1), some (.int a2), some (.int x7.2), none] [] x7.1
  refine k_iconst hF dX11_closes_40 ci_0 ?_
  refine k_istore_n hF (L' := [some (.ref (B + 0)), some (.int a1), some (.int a2), some (.int (0 : Int32)), none]) dX11_closes_41 (by decide) rfl ?_
  obtain ⟨x18, hx18, h⟩ := bind_some h
  refine k_loop (P := fun xq => KJ (Rep D B shpR) A 5 0 0 Q p l e ({ frames := 1, cells := 0, slots := 0, locals := 21 } : Room) s m args below meth c 0 0 42 [some (.ref (B + 0)), some (.int a1), some (.int a2), some (.int xq.2), none] [] xq.1) (C := fun xq => KJ (Rep D B shpR) A 5 0 0 Q p l e ({ frames := 1, cells := 0, slots := 0, locals := 21 } : Room) s m args below meth c 0 0 110 [some (.ref (B + 0)), some (.int a1), some (.int a2), some (.int xq.2), none] [] xq.1) (fun x z hz hc he => wX11_closes_l42 hF hA hbs hz hc he) hx18 ?_
  show KJ (Rep D B shpR) A 5 0 0 Q p l e ({ frames := 1, cells := 0, slots := 0, locals := 21 } : Room) s m args below meth c 0 0 110 [some (.ref (B + 0)), some (.int a1), some (.int a2), some (.int x18.2), none] [] x18.1
  cases h
  exact hr _ _ dX11_closes_110
theorem ct_X11_closes {l : Launch} {D : DD} {base B : Nat} (hbs : base ≤ B) {σ : St} {a1 : Int32} {a2 : Int32} {r : St} (h : fX11_closes σ a1 a2 = some r) : MetR l D B shpR base yX11_closes cX11_closes 5 none 1 21 [.ref (B + 0), .int a1, .int a2] σ none r :=
  MetR.of (by decide +kernel) (fun v hv => by simp only [List.mem_cons, List.not_mem_nil, or_false] at hv; rcases hv with rfl | rfl | rfl <;> rfl) (Nat.le_of_ble_eq_true rfl) hbs (fun p e s m args below meth c hF hr => wX11_closes hF (fun q hq => hq) hbs h (fun pc L hd => k_vret hF hr hd))
set_option maxHeartbeats 4000000 in
set_option maxRecDepth 100000 in
theorem wX11_joins_j91 {p : Program} {l : Launch} {e : Env} {s : State} {m : MethodId} {args : Array Value} {below : List Frame} {meth : Method} {c : Code} {Q : State → Prop} {A : Nat → Prop} {D : DD} {base B : Nat} (hF : KF D base cX11_joins RX11 A 6 0 0 p l e ({ frames := 1, cells := 0, slots := 0, locals := 21 } : Room) s m args below meth c) (hA : ∀ q, RA B shpR q → A q) (hbs : base ≤ B) {σ : St} {a1 : Int32} {a2 : Int32} {b3 : Int32} {b4 : Int32} {z : ((St × Int32) ⊕ (St × Int32))} (h : fX11_joins_j91 σ a1 a2 b3 b4 = some z) (hc : ∀ x, z = .inl x → KJ (Rep D B shpR) A 6 0 0 Q p l e ({ frames := 1, cells := 0, slots := 0, locals := 21 } : Room) s m args below meth c 0 0 2 [some (.ref (B + 0)), some (.int a1), some (.int a2), some (.int x.2), none, none] [] x.1) (he : ∀ w, z = .inr w → KJ (Rep D B shpR) A 6 0 0 Q p l e ({ frames := 1, cells := 0, slots := 0, locals := 21 } : Room) s m args below meth c 0 0 107 [some (.ref (B + 0)), some (.int a1), some (.int a2), some (.int w.2), none, none] [] w.1) : KJ (Rep D B shpR) A 6 0 0 Q p l e ({ frames := 1, cells := 0, slots := 0, locals := 21 } : Room) s m args below meth c 0 0 91 [some (.ref (B + 0)), some (.int a1), some (.int a2), some (.int b3), some (.int b4), none] [] σ := by
  unfold fX11_joins_j91 at h
  refine k_aload_n hF dX11_joins_91 rfl ?_
  refine k_get hF (v := .ref (B + 42)) shR_0 fl_X11_135_X11 dX11_joins_92 rfl ?_
  refine k_iload_n hF dX11_joins_95 rfl ?_
  refine k_iload_n hF dX11_joins_96 rfl ?_
  refine k_iadd hF dX11_joins_97 ?_
  refine k_iload hF dX11_joins_98 rfl ?_
  obtain ⟨g6, h⟩ := gd_some h
  refine k_iast hF hA shR_42 dX11_joins_100 g6 ?_
  obtain ⟨σ7, hσ7, h⟩ := lt_some h
  refine k_sig hσ7 ?_
  refine k_iinc hF (v := (b3 + (1 : Int32))) (L' := [some (.ref (B + 0)), some (.int a1), some (.int a2), some (.int (b3 + (1 : Int32))), some (.int b4), none]) dX11_joins_101 rfl (by first | rfl | (congr 1)) (by decide) rfl ?_
  refine k_goto hF dX11_joins_104 (tgt := 2) (by decide) ?_
  refine k_kill 4 rfl ?_
  exact hc _ (Option.some.inj h).symm
set_option maxHeartbeats 4000000 in
set_option maxRecDepth 100000 in
theorem wX11_joins_j82 {p : Program} {l : Launch} {e : Env} {s : State} {m : MethodId} {args : Array Value} {below : List Frame} {meth : Method} {c : Code} {Q : State → Prop} {A : Nat → Prop} {D : DD} {base B : Nat} (hF : KF D base cX11_joins RX11 A 6 0 0 p l e ({ frames := 1, cells := 0, slots := 0, locals := 21 } : Room) s m args below meth c) (hA : ∀ q, RA B shpR q → A q) (hbs : base ≤ B) {σ : St} {a1 : Int32} {a2 : Int32} {ea3b : Int32} {b5 : Int32} {t0 : Int32} {t1 : Int32} {z : ((Int32 × Int32) ⊕ (Int32 × Int32))} (h : fX11_joins_j82 σ a1 a2 ea3b b5 t0 t1 = some z) (hc : ∀ x, z = .inl x → KJ (Rep D B shpR) A 6 0 0 Q p l e ({ frames := 1, cells := 0, slots := 0, locals := 21 } : Room) s m args below meth c 0 0 41 [some (.ref (B + 0)), some (.int a1), some (.int a2), some (.int ea3b), some (.int x.1), some (.int x.2)] [] σ) (he : ∀ w, z = .inr w → KJ (Rep D B shpR) A 6 0 0 Q p l e ({ frames := 1, cells := 0, slots := 0, locals := 21 } : Room) s m args below meth c 0 0 91 [some (.ref (B + 0)), some (.int a1), some (.int a2), some (.int ea3b), some (.int w.1), some (.int w.2)] [] σ) : KJ (Rep D B shpR) A 6 0 0 Q p l e ({ frames := 1, cells := 0, slots := 0, locals := 21 } : Room) s m args below meth c 0 0 82 [some (.ref (B + 0)), some (.int a1), some (.int a2), some (.int ea3b), none, some (.int b5)] [.int t0, .int t1] σ := by
  unfold fX11_joins_j82 at h
  refine k_ior hF dX11_joins_82 ?_
  refine k_istore hF (L' := [some (.ref (B + 0)), some (.int a1), some (.int a2), some (.int ea3b), some (.int (t1 ||| t0)), some (.int b5)]) dX11_joins_83 (by decide) rfl ?_
  refine k_iinc hF (v := (b5 + (1 : Int32))) (L' := [some (.ref (B + 0)), some (.int a1), some (.int a2), some (.int ea3b), some (.int (t1 ||| t0)), some (.int (b5 + (1 : Int32)))]) dX11_joins_85 rfl (by first | rfl | (congr 1)) (by decide) rfl ?_
  refine k_goto hF dX11_joins_88 (tgt := 41) (by decide) ?_
  exact hc _ (Option.some.inj h).symm
set_option maxHeartbeats 4000000 in
set_option maxRecDepth 100000 in
theorem wX11_joins_l41 {p : Program} {l : Launch} {e : Env} {s : State} {m : MethodId} {args : Array Value} {below : List Frame} {meth : Method} {c : Code} {Q : State → Prop} {A : Nat → Prop} {D : DD} {base B : Nat} (hF : KF D base cX11_joins RX11 A 6 0 0 p l e ({ frames := 1, cells := 0, slots := 0, locals := 21 } : Room) s m args below meth c) (hA : ∀ q, RA B shpR q → A q) (hbs : base ≤ B) {σ : St} {a1 : Int32} {a2 : Int32} {ea3b : Int32} {x : (Int32 × Int32)} {z : ((Int32 × Int32) ⊕ (Int32 × Int32))} (h : fX11_joins_l41 σ a1 a2 ea3b x = some z) (hc : ∀ x, z = .inl x → KJ (Rep D B shpR) A 6 0 0 Q p l e ({ frames := 1, cells := 0, slots := 0, locals := 21 } : Room) s m args below meth c 0 0 41 [some (.ref (B + 0)), some (.int a1), some (.int a2), some (.int ea3b), some (.int x.1), some (.int x.2)] [] σ) (he : ∀ w, z = .inr w → KJ (Rep D B shpR) A 6 0 0 Q p l e ({ frames := 1, cells := 0, slots := 0, locals := 21 } : Room) s m args below meth c 0 0 91 [some (.ref (B + 0)), some (.int a1), some (.int a2), some (.int ea3b), some (.int w.1), some (.int w.2)] [] σ) : KJ (Rep D B shpR) A 6 0 0 Q p l e ({ frames := 1, cells := 0, slots := 0, locals := 21 } : Room) s m args below meth c 0 0 41 [some (.ref (B + 0)), some (.int a1), some (.int a2), some (.int ea3b), some (.int x.1), some (.int x.2)] [] σ := by
  unfold fX11_joins_l41 at h
  refine k_iload hF dX11_joins_41 rfl ?_
  refine k_bipush hF (v := (24 : Int32)) dX11_joins_43 (by decide) ?_
  refine k_icmp_ge hF (tgt := 91) dX11_joins_45 (by decide) (fun c8 => ?_) (fun c8 => ?_)
  · replace h := ite_t c8 h
    exact he _ (Option.some.inj h).symm
  · replace h := ite_f c8 h
    refine k_iload hF dX11_joins_48 rfl ?_
    refine k_aload_n hF dX11_joins_50 rfl ?_
    refine k_get hF (v := .ref (B + 42)) shR_0 fl_X11_135_X11 dX11_joins_51 rfl ?_
    refine k_iload_n hF dX11_joins_54 rfl ?_
    refine k_iload_n hF dX11_joins_55 rfl ?_
    refine k_iadd hF dX11_joins_56 ?_
    obtain ⟨g9, h⟩ := gd_some h
    refine k_iald hF shR_42 dX11_joins_57 g9 ?_
    refine k_iload hF dX11_joins_58 rfl ?_
    obtain ⟨v10, hv10, h⟩ := bind_some h
    refine k_callS hF hA (as := [.int (gi σ 42 (a2 + ea3b).toNatClampNeg), .int x.2]) (ct_X11_has hbs hv10) ms_X11_142 rfl rfl ⟨Nat.le_of_ble_eq_true rfl, Nat.le_of_ble_eq_true rfl⟩ (Nat.le_of_ble_eq_true rfl) dX11_joins_60 ?_
    refine k_st (st2 := [.int v10, .int x.1]) rfl ?_
    refine k_if_eq hF (tgt := 81) dX11_joins_63 (by decide) (fun c11 => ?_) (fun c11 => ?_)
    · replace h := ite_t c11 h
      refine k_iconst hF dX11_joins_81 ci_0 ?_
      refine k_kill 4 rfl ?_
      exact wX11_joins_j82 hF hA hbs h hc he
    · replace h := ite_f c11 h
      refine k_aload_n hF dX11_joins_66 rfl ?_
      refine k_get hF (v := .ref (B + 42)) shR_0 fl_X11_135_X11 dX11_joins_67 rfl ?_
      refine k_iload_n hF dX11_joins_70 rfl ?_
      refine k_bipush hF (v := (24 : Int32)) dX11_joins_71 (by decide) ?_
      refine k_iadd hF dX11_joins_73 ?_
      refine k_iload hF dX11_joins_74 rfl ?_
      refine k_iadd hF dX11_joins_76 ?_
      obtain ⟨g12, h⟩ := gd_some h
      refine k_iald hF shR_42 dX11_joins_77 g12 ?_
      refine k_goto hF dX11_joins_78 (tgt := 82) (by decide) ?_
      refine k_kill 4 rfl ?_
      exact wX11_joins_j82 hF hA hbs h hc he
set_option maxHeartbeats 4000000 in
set_option maxRecDepth 100000 in
theorem wX11_joins_l2 {p : Program} {l : Launch} {e : Env} {s : State} {m : MethodId} {args : Array Value} {below : List Frame} {meth : Method} {c : Code} {Q : State → Prop} {A : Nat → Prop} {D : DD} {base B : Nat} (hF : KF D base cX11_joins RX11 A 6 0 0 p l e ({ frames := 1, cells := 0, slots := 0, locals := 21 } : Room) s m args below meth c) (hA : ∀ q, RA B shpR q → A q) (hbs : base ≤ B) {σ : St} {a1 : Int32} {a2 : Int32} {x : (St × Int32)} {z : ((St × Int32) ⊕ (St × Int32))} (h : fX11_joins_l2 σ a1 a2 x = some z) (hc : ∀ x, z = .inl x → KJ (Rep D B shpR) A 6 0 0 Q p l e ({ frames := 1, cells := 0, slots := 0, locals := 21 } : Room) s m args below meth c 0 0 2 [some (.ref (B + 0)), some (.int a1), some (.int a2), some (.int x.2), none, none] [] x.1) (he : ∀ w, z = .inr w → KJ (Rep D B shpR) A 6 0 0 Q p l e ({ frames := 1, cells := 0, slots := 0, locals := 21 } : Room) s m args below meth c 0 0 107 [some (.ref (B + 0)), some (.int a1), some (.int a2), some (.int w.2), none, none] [] w.1) : KJ (Rep D B shpR) A 6 0 0 Q p l e ({ frames := 1, cells := 0, slots := 0, locals := 21 } : Room) s m args below meth c 0 0 2 [some (.ref (B + 0)), some (.int a1), some (.int a2), some (.int x.2), none, none] [] x.1 := by
  unfold fX11_joins_l2 at h
  refine k_iload_n hF dX11_joins_2 rfl ?_
  refine k_bipush hF (v := (24 : Int32)) dX11_joins_3 (by decide) ?_
  refine k_icmp_ge hF (tgt := 107) dX11_joins_5 (by decide) (fun c1 => ?_) (fun c1 => ?_)
  · replace h := ite_t c1 h
    exact he _ (Option.some.inj h).symm
  · replace h := ite_f c1 h
    refine k_aload_n hF dX11_joins_8 rfl ?_
    refine k_get hF (v := .ref (B + 42)) shR_0 fl_X11_135_X11 dX11_joins_9 rfl ?_
    refine k_iload_n hF dX11_joins_12 rfl ?_
    refine k_bipush hF (v := (24 : Int32)) dX11_joins_13 (by decide) ?_
    refine k_iadd hF dX11_joins_15 ?_
    refine k_iload_n hF dX11_joins_16 rfl ?_
    refine k_iadd hF dX11_joins_17 ?_
    obtain ⟨g2, h⟩ := gd_some h
    refine k_iald hF shR_42 dX11_joins_18 g2 ?_
    refine k_aload_n hF dX11_joins_19 rfl ?_
    refine k_get hF (v := .ref (B + 42)) shR_0 fl_X11_135_X11 dX11_joins_20 rfl ?_
    refine k_iload_n hF dX11_joins_23 rfl ?_
    refine k_iload_n hF dX11_joins_24 rfl ?_
    refine k_iadd hF dX11_joins_25 ?_
    obtain ⟨g3, h⟩ := gd_some h
    refine k_iald hF shR_42 dX11_joins_26 g3 ?_
    refine k_ior hF dX11_joins_27 ?_
    obtain ⟨n4, hn4, h⟩ := lt_some h
    refine k_st (st2 := [.int n4]) (by rw [hn4]) ?_
    refine k_istore hF (L' := [some (.ref (B + 0)), some (.int a1), some (.int a2), some (.int x.2), some (.int n4), none]) dX11_joins_28 (by decide) rfl ?_
    refine k_iload_n hF dX11_joins_30 rfl ?_
    refine k_iconst hF dX11_joins_31 ci_3 ?_
    refine k_icmp_ne hF (tgt := 91) dX11_joins_32 (by decide) (fun c5 => ?_) (fun c5 => ?_)
    · replace h := ite_f c5 h
      exact wX11_joins_j91 hF hA hbs h hc he
    · replace h := ite_t c5 h
      refine k_iconst hF dX11_joins_35 ci_0 ?_
      refine k_istore hF (L' := [some (.ref (B + 0)), some (.int a1), some (.int a2), some (.int x.2), some (.int (0 : Int32)), none]) dX11_joins_36 (by decide) rfl ?_
      refine k_iconst hF dX11_joins_38 ci_0 ?_
      refine k_istore hF (L' := [some (.ref (B + 0)), some (.int a1), some (.int a2), some (.int x.2), some (.int (0 : Int32)), some (.int (0 : Int32))]) dX11_joins_39 (by decide) rfl ?_
      obtain ⟨x13, hx13, h⟩ := bind_some h
      refine k_loop (P := fun xq => KJ (Rep D B shpR) A 6 0 0 Q p l e ({ frames := 1, cells := 0, slots := 0, locals := 21 } : Room) s m args below meth c 0 0 41 [some (.ref (B + 0)), some (.int a1), some (.int a2), some (.int x.2), some (.int xq.1), some (.int xq.2)] [] x.1) (C := fun xq => KJ (Rep D B shpR) A 6 0 0 Q p l e ({ frames := 1, cells := 0, slots := 0, locals := 21 } : Room) s m args below meth c 0 0 91 [some (.ref (B + 0)), some (.int a1), some (.int a2), some (.int x.2), some (.int xq.1), some (.int xq.2)] [] x.1) (fun x z hz hc he => wX11_joins_l41 hF hA hbs hz hc he) hx13 ?_
      show KJ (Rep D B shpR) A 6 0 0 Q p l e ({ frames := 1, cells := 0, slots := 0, locals := 21 } : Room) s m args below meth c 0 0 91 [some (.ref (B + 0)), some (.int a1), some (.int a2), some (.int x.2), some (.int x13.1), some (.int x13.2)] [] x.1
      refine k_kill 5 rfl ?_
      exact wX11_joins_j91 hF hA hbs h hc he
set_option maxHeartbeats 4000000 in
set_option maxRecDepth 100000 in
theorem wX11_joins {p : Program} {l : Launch} {e : Env} {s : State} {m : MethodId} {args : Array Value} {below : List Frame} {meth : Method} {c : Code} {Q : State → Prop} {A : Nat → Prop} {D : DD} {base B : Nat} (hF : KF D base cX11_joins RX11 A 6 0 0 p l e ({ frames := 1, cells := 0, slots := 0, locals := 21 } : Room) s m args below meth c) (hA : ∀ q, RA B shpR q → A q) (hbs : base ≤ B) {σ : St} {a1 : Int32} {a2 : Int32} {z : St} (h : fX11_joins σ a1 a2 = some z) (hr : ∀ (pc : Nat) (L : List (Option Value)), decode cX11_joins pc = .ok (.return_, 1) → KJ (Rep D B shpR) A 6 0 0 Q p l e ({ frames := 1, cells := 0, slots := 0, locals := 21 } : Room) s m args below meth c 0 0 pc L [] z) : KJ (Rep D B shpR) A 6 0 0 Q p l e ({ frames := 1, cells := 0, slots := 0, locals := 21 } : Room) s m args below meth c 0 0 0 [some (.ref (B + 0)), some (.int a1), some (.int a2), none, none, none] [] σ := by
  unfold fX11_joins at h
  refine k_iconst hF dX11_joins_0 ci_0 ?_
  refine k_istore_n hF (L' := [some (.ref (B + 0)), some (.int a1), some (.int a2), some (.int (0 : Int32)), none, none]) dX11_joins_1 (by decide) rfl ?_
  obtain ⟨x14, hx14, h⟩ := bind_some h
  refine k_loop (P := fun xq => KJ (Rep D B shpR) A 6 0 0 Q p l e ({ frames := 1, cells := 0, slots := 0, locals := 21 } : Room) s m args below meth c 0 0 2 [some (.ref (B + 0)), some (.int a1), some (.int a2), some (.int xq.2), none, none] [] xq.1) (C := fun xq => KJ (Rep D B shpR) A 6 0 0 Q p l e ({ frames := 1, cells := 0, slots := 0, locals := 21 } : Room) s m args below meth c 0 0 107 [some (.ref (B + 0)), some (.int a1), some (.int a2), some (.int xq.2), none, none] [] xq.1) (fun x z hz hc he => wX11_joins_l2 hF hA hbs hz hc he) hx14 ?_
  show KJ (Rep D B shpR) A 6 0 0 Q p l e ({ frames := 1, cells := 0, slots := 0, locals := 21 } : Room) s m args below meth c 0 0 107 [some (.ref (B + 0)), some (.int a1), some (.int a2), some (.int x14.2), none, none] [] x14.1
  cases h
  exact hr _ _ dX11_joins_107
theorem ct_X11_joins {l : Launch} {D : DD} {base B : Nat} (hbs : base ≤ B) {σ : St} {a1 : Int32} {a2 : Int32} {r : St} (h : fX11_joins σ a1 a2 = some r) : MetR l D B shpR base yX11_joins cX11_joins 6 none 1 21 [.ref (B + 0), .int a1, .int a2] σ none r :=
  MetR.of (by decide +kernel) (fun v hv => by simp only [List.mem_cons, List.not_mem_nil, or_false] at hv; rcases hv with rfl | rfl | rfl <;> rfl) (Nat.le_of_ble_eq_true rfl) hbs (fun p e s m args below meth c hF hr => wX11_joins hF (fun q hq => hq) hbs h (fun pc L hd => k_vret hF hr hd))
