set_option maxHeartbeats 4000000 in
set_option maxRecDepth 100000 in
theorem wX11_thrown {p : Program} {l : Launch} {e : Env} {s : State} {m : MethodId} {args : Array Value} {below : List Frame} {meth : Method} {c : Code} {Q : State → Prop} {A : Nat → Prop} {D : DD} {base B : Nat} (hF : KF D base cX11_thrown RX11 A 1 0 0 p l e ({ frames := 0, cells := 0, slots := 0, locals := 0 } : Room) s m args below meth c) (hA : ∀ q, RA B shpR q → A q) (hbs : base ≤ B) {σ : St} {z : Int32} (h : fX11_thrown σ = some z) (hr : ∀ (pc : Nat) (L : List (Option Value)), narrow .int (.int z) = .int z → decode cX11_thrown pc = .ok (.ireturn, 1) → KJ (Rep D B shpR) A 1 0 0 Q p l e ({ frames := 0, cells := 0, slots := 0, locals := 0 } : Room) s m args below meth c 0 0 pc L [.int z] σ) : KJ (Rep D B shpR) A 1 0 0 Q p l e ({ frames := 0, cells := 0, slots := 0, locals := 0 } : Room) s m args below meth c 0 0 0 [some (.ref (B + 0))] [] σ := by
  unfold fX11_thrown at h
  refine k_aload_n hF dX11_thrown_0 rfl ?_
  refine k_get hF (v := .int (gi σ 0 50)) shR_0 fl_X11_138_X11 dX11_thrown_1 rfl ?_
  cases h
  exact hr _ _ rfl dX11_thrown_4
theorem ct_X11_thrown {l : Launch} {D : DD} {base B : Nat} (hbs : base ≤ B) {σ : St} {r : Int32} (h : fX11_thrown σ = some r) : MetR l D B shpR base yX11_thrown cX11_thrown 1 (some .int) 0 0 [.ref (B + 0)] σ (some (.int r)) σ :=
  MetR.of (by decide +kernel) (fun v hv => by simp only [List.mem_cons, List.not_mem_nil, or_false] at hv; rcases hv with rfl <;> rfl) (Nat.le_of_ble_eq_true rfl) hbs (fun p e s m args below meth c hF hr => wX11_thrown hF (fun q hq => hq) hbs h (fun pc L hn hd => k_iret hF hr hn hd))
set_option maxHeartbeats 4000000 in
set_option maxRecDepth 100000 in
theorem wX11_fails {p : Program} {l : Launch} {e : Env} {s : State} {m : MethodId} {args : Array Value} {below : List Frame} {meth : Method} {c : Code} {Q : State → Prop} {A : Nat → Prop} {D : DD} {base B : Nat} (hF : KF D base cX11_fails RX11 A 2 0 0 p l e ({ frames := 0, cells := 0, slots := 0, locals := 0 } : Room) s m args below meth c) (hA : ∀ q, RA B shpR q → A q) (hbs : base ≤ B) {σ : St} {a1 : Int32} {z : (Int32 × St)} (h : fX11_fails σ a1 = some z) (hr : ∀ (pc : Nat) (L : List (Option Value)), narrow .boolean (.int z.1) = .int z.1 → decode cX11_fails pc = .ok (.ireturn, 1) → KJ (Rep D B shpR) A 2 0 0 Q p l e ({ frames := 0, cells := 0, slots := 0, locals := 0 } : Room) s m args below meth c 0 0 pc L [.int z.1] z.2) : KJ (Rep D B shpR) A 2 0 0 Q p l e ({ frames := 0, cells := 0, slots := 0, locals := 0 } : Room) s m args below meth c 0 0 0 [some (.ref (B + 0)), some (.int a1)] [] σ := by
  unfold fX11_fails at h
  refine k_aload_n hF dX11_fails_0 rfl ?_
  refine k_iload_n hF dX11_fails_1 rfl ?_
  refine k_putI hF hA shR_0 fp_X11_138_X11 dX11_fails_2 rfl rfl rfl ?_
  obtain ⟨σ1, hσ1, h⟩ := lt_some h
  refine k_sig hσ1 ?_
  refine k_iload_n hF dX11_fails_5 rfl ?_
  refine k_if_le hF (tgt := 13) dX11_fails_6 (by decide) (fun c2 => ?_) (fun c2 => ?_)
  · replace h := ite_t c2 h
    refine k_iconst hF dX11_fails_13 ci_0 ?_
    cases h
    exact hr _ _ nar_0 dX11_fails_14
  · replace h := ite_f c2 h
    refine k_iconst hF dX11_fails_9 ci_1 ?_
    refine k_goto hF dX11_fails_10 (tgt := 14) (by decide) ?_
    cases h
    exact hr _ _ nar_1 dX11_fails_14
theorem ct_X11_fails {l : Launch} {D : DD} {base B : Nat} (hbs : base ≤ B) {σ : St} {a1 : Int32} {r : (Int32 × St)} (h : fX11_fails σ a1 = some r) : MetR l D B shpR base yX11_fails cX11_fails 2 (some .boolean) 0 0 [.ref (B + 0), .int a1] σ (some (.int r.1)) r.2 :=
  MetR.of (by decide +kernel) (fun v hv => by simp only [List.mem_cons, List.not_mem_nil, or_false] at hv; rcases hv with rfl | rfl <;> rfl) (Nat.le_of_ble_eq_true rfl) hbs (fun p e s m args below meth c hF hr => wX11_fails hF (fun q hq => hq) hbs h (fun pc L hn hd => k_iret hF hr hn hd))
set_option maxHeartbeats 4000000 in
set_option maxRecDepth 100000 in
theorem wX11_isIn_j14 {p : Program} {l : Launch} {e : Env} {s : State} {m : MethodId} {args : Array Value} {below : List Frame} {meth : Method} {c : Code} {Q : State → Prop} {A : Nat → Prop} {D : DD} {base B : Nat} (hF : KF D base cX11_isIn RX11 A 3 0 0 p l e ({ frames := 0, cells := 0, slots := 0, locals := 0 } : Room) s m args below meth c) (hA : ∀ q, RA B shpR q → A q) (hbs : base ≤ B) {σ : St} {a0 : Int32} {a1 : Int32} {a2 : Int32} {z : Int32} (h : fX11_isIn_j14 σ a0 a1 a2 = some z) (hr : ∀ (pc : Nat) (L : List (Option Value)), narrow .boolean (.int z) = .int z → decode cX11_isIn pc = .ok (.ireturn, 1) → KJ (Rep D B shpR) A 3 0 0 Q p l e ({ frames := 0, cells := 0, slots := 0, locals := 0 } : Room) s m args below meth c 0 0 pc L [.int z] σ) : KJ (Rep D B shpR) A 3 0 0 Q p l e ({ frames := 0, cells := 0, slots := 0, locals := 0 } : Room) s m args below meth c 0 0 14 [some (.int a0), some (.int a1), some (.int a2)] [] σ := by
  unfold fX11_isIn_j14 at h
  refine k_iconst hF dX11_isIn_14 ci_0 ?_
  cases h
  exact hr _ _ nar_0 dX11_isIn_15
set_option maxHeartbeats 4000000 in
set_option maxRecDepth 100000 in
theorem wX11_isIn {p : Program} {l : Launch} {e : Env} {s : State} {m : MethodId} {args : Array Value} {below : List Frame} {meth : Method} {c : Code} {Q : State → Prop} {A : Nat → Prop} {D : DD} {base B : Nat} (hF : KF D base cX11_isIn RX11 A 3 0 0 p l e ({ frames := 0, cells := 0, slots := 0, locals := 0 } : Room) s m args below meth c) (hA : ∀ q, RA B shpR q → A q) (hbs : base ≤ B) {σ : St} {a0 : Int32} {a1 : Int32} {a2 : Int32} {z : Int32} (h : fX11_isIn σ a0 a1 a2 = some z) (hr : ∀ (pc : Nat) (L : List (Option Value)), narrow .boolean (.int z) = .int z → decode cX11_isIn pc = .ok (.ireturn, 1) → KJ (Rep D B shpR) A 3 0 0 Q p l e ({ frames := 0, cells := 0, slots := 0, locals := 0 } : Room) s m args below meth c 0 0 pc L [.int z] σ) : KJ (Rep D B shpR) A 3 0 0 Q p l e ({ frames := 0, cells := 0, slots := 0, locals := 0 } : Room) s m args below meth c 0 0 0 [some (.int a0), some (.int a1), some (.int a2)] [] σ := by
  unfold fX11_isIn at h
  refine k_iload_n hF dX11_isIn_0 rfl ?_
  refine k_iload_n hF dX11_isIn_1 rfl ?_
  refine k_icmp_lt hF (tgt := 14) dX11_isIn_2 (by decide) (fun c1 => ?_) (fun c1 => ?_)
  · replace h := ite_t c1 h
    exact wX11_isIn_j14 hF hA hbs h hr
  · replace h := ite_f c1 h
    refine k_iload_n hF dX11_isIn_5 rfl ?_
    refine k_iload_n hF dX11_isIn_6 rfl ?_
    refine k_icmp_gt hF (tgt := 14) dX11_isIn_7 (by decide) (fun c2 => ?_) (fun c2 => ?_)
    · replace h := ite_t c2 h
      exact wX11_isIn_j14 hF hA hbs h hr
    · replace h := ite_f c2 h
      refine k_iconst hF dX11_isIn_10 ci_1 ?_
      refine k_goto hF dX11_isIn_11 (tgt := 15) (by decide) ?_
      cases h
      exact hr _ _ nar_1 dX11_isIn_15
theorem ct_X11_isIn {l : Launch} {D : DD} {base B : Nat} (hbs : base ≤ B) {σ : St} {a0 : Int32} {a1 : Int32} {a2 : Int32} {r : Int32} (h : fX11_isIn σ a0 a1 a2 = some r) : MetR l D B shpR base yX11_isIn cX11_isIn 3 (some .boolean) 0 0 [.int a0, .int a1, .int a2] σ (some (.int r)) σ :=
  MetR.of (by decide +kernel) (fun v hv => by simp only [List.mem_cons, List.not_mem_nil, or_false] at hv; rcases hv with rfl | rfl | rfl <;> rfl) (Nat.le_of_ble_eq_true rfl) hbs (fun p e s m args below meth c hF hr => wX11_isIn hF (fun q hq => hq) hbs h (fun pc L hn hd => k_iret hF hr hn hd))
set_option maxHeartbeats 4000000 in
set_option maxRecDepth 100000 in
theorem wX11_has {p : Program} {l : Launch} {e : Env} {s : State} {m : MethodId} {args : Array Value} {below : List Frame} {meth : Method} {c : Code} {Q : State → Prop} {A : Nat → Prop} {D : DD} {base B : Nat} (hF : KF D base cX11_has RX11 A 2 0 0 p l e ({ frames := 0, cells := 0, slots := 0, locals := 0 } : Room) s m args below meth c) (hA : ∀ q, RA B shpR q → A q) (hbs : base ≤ B) {σ : St} {a0 : Int32} {a1 : Int32} {z : Int32} (h : fX11_has σ a0 a1 = some z) (hr : ∀ (pc : Nat) (L : List (Option Value)), narrow .boolean (.int z) = .int z → decode cX11_has pc = .ok (.ireturn, 1) → KJ (Rep D B shpR) A 2 0 0 Q p l e ({ frames := 0, cells := 0, slots := 0, locals := 0 } : Room) s m args below meth c 0 0 pc L [.int z] σ) : KJ (Rep D B shpR) A 2 0 0 Q p l e ({ frames := 0, cells := 0, slots := 0, locals := 0 } : Room) s m args below meth c 0 0 0 [some (.int a0), some (.int a1)] [] σ := by
  unfold fX11_has at h
  refine k_iload_n hF dX11_has_0 rfl ?_
  refine k_iload_n hF dX11_has_1 rfl ?_
  refine k_ishr hF dX11_has_2 ?_
  refine k_iconst hF dX11_has_3 ci_1 ?_
  refine k_iand hF dX11_has_4 ?_
  refine k_iconst hF dX11_has_5 ci_1 ?_
  refine k_icmp_ne hF (tgt := 13) dX11_has_6 (by decide) (fun c1 => ?_) (fun c1 => ?_)
  · replace h := ite_f c1 h
    refine k_iconst hF dX11_has_13 ci_0 ?_
    cases h
    exact hr _ _ nar_0 dX11_has_14
  · replace h := ite_t c1 h
    refine k_iconst hF dX11_has_9 ci_1 ?_
    refine k_goto hF dX11_has_10 (tgt := 14) (by decide) ?_
    cases h
    exact hr _ _ nar_1 dX11_has_14
theorem ct_X11_has {l : Launch} {D : DD} {base B : Nat} (hbs : base ≤ B) {σ : St} {a0 : Int32} {a1 : Int32} {r : Int32} (h : fX11_has σ a0 a1 = some r) : MetR l D B shpR base yX11_has cX11_has 2 (some .boolean) 0 0 [.int a0, .int a1] σ (some (.int r)) σ :=
  MetR.of (by decide +kernel) (fun v hv => by simp only [List.mem_cons, List.not_mem_nil, or_false] at hv; rcases hv with rfl | rfl <;> rfl) (Nat.le_of_ble_eq_true rfl) hbs (fun p e s m args below meth c hF hr => wX11_has hF (fun q hq => hq) hbs h (fun pc L hn hd => k_iret hF hr hn hd))
set_option maxHeartbeats 4000000 in
set_option maxRecDepth 100000 in
theorem wX11_size_j24 {p : Program} {l : Launch} {e : Env} {s : State} {m : MethodId} {args : Array Value} {below : List Frame} {meth : Method} {c : Code} {Q : State → Prop} {A : Nat → Prop} {D : DD} {base B : Nat} (hF : KF D base cX11_size RX11 A 3 0 0 p l e ({ frames := 1, cells := 0, slots := 0, locals := 21 } : Room) s m args below meth c) (hA : ∀ q, RA B shpR q → A q) (hbs : base ≤ B) {σ : St} {a0 : Int32} {b2 : Int32} {t0 : Int32} {t1 : Int32} {z : ((Int32 × Int32) ⊕ (Int32 × Int32))} (h : fX11_size_j24 σ a0 b2 t0 t1 = some z) (hc : ∀ x, z = .inl x → KJ (Rep D B shpR) A 3 0 0 Q p l e ({ frames := 1, cells := 0, slots := 0, locals := 21 } : Room) s m args below meth c 0 0 4 [some (.int a0), some (.int x.1), some (.int x.2)] [] σ) (he : ∀ w, z = .inr w → KJ (Rep D B shpR) A 3 0 0 Q p l e ({ frames := 1, cells := 0, slots := 0, locals := 21 } : Room) s m args below meth c 0 0 32 [some (.int a0), some (.int w.1), some (.int w.2)] [] σ) : KJ (Rep D B shpR) A 3 0 0 Q p l e ({ frames := 1, cells := 0, slots := 0, locals := 21 } : Room) s m args below meth c 0 0 24 [some (.int a0), none, some (.int b2)] [.int t0, .int t1] σ := by
  unfold fX11_size_j24 at h
  refine k_iadd hF dX11_size_24 ?_
  refine k_istore_n hF (L' := [some (.int a0), some (.int (t1 + t0)), some (.int b2)]) dX11_size_25 (by decide) rfl ?_
  refine k_iinc hF (v := (b2 + (1 : Int32))) (L' := [some (.int a0), some (.int (t1 + t0)), some (.int (b2 + (1 : Int32)))]) dX11_size_26 rfl (by first | rfl | (congr 1)) (by decide) rfl ?_
  refine k_goto hF dX11_size_29 (tgt := 4) (by decide) ?_
  exact hc _ (Option.some.inj h).symm
set_option maxHeartbeats 4000000 in
set_option maxRecDepth 100000 in
theorem wX11_size_l4 {p : Program} {l : Launch} {e : Env} {s : State} {m : MethodId} {args : Array Value} {below : List Frame} {meth : Method} {c : Code} {Q : State → Prop} {A : Nat → Prop} {D : DD} {base B : Nat} (hF : KF D base cX11_size RX11 A 3 0 0 p l e ({ frames := 1, cells := 0, slots := 0, locals := 21 } : Room) s m args below meth c) (hA : ∀ q, RA B shpR q → A q) (hbs : base ≤ B) {σ : St} {a0 : Int32} {x : (Int32 × Int32)} {z : ((Int32 × Int32) ⊕ (Int32 × Int32))} (h : fX11_size_l4 σ a0 x = some z) (hc : ∀ x, z = .inl x → KJ (Rep D B shpR) A 3 0 0 Q p l e ({ frames := 1, cells := 0, slots := 0, locals := 21 } : Room) s m args below meth c 0 0 4 [some (.int a0), some (.int x.1), some (.int x.2)] [] σ) (he : ∀ w, z = .inr w → KJ (Rep D B shpR) A 3 0 0 Q p l e ({ frames := 1, cells := 0, slots := 0, locals := 21 } : Room) s m args below meth c 0 0 32 [some (.int a0), some (.int w.1), some (.int w.2)] [] σ) : KJ (Rep D B shpR) A 3 0 0 Q p l e ({ frames := 1, cells := 0, slots := 0, locals := 21 } : Room) s m args below meth c 0 0 4 [some (.int a0), some (.int x.1), some (.int x.2)] [] σ := by
  unfold fX11_size_l4 at h
  refine k_iload_n hF dX11_size_4 rfl ?_
  refine k_bipush hF (v := (24 : Int32)) dX11_size_5 (by decide) ?_
  refine k_icmp_ge hF (tgt := 32) dX11_size_7 (by decide) (fun c1 => ?_) (fun c1 => ?_)
  · replace h := ite_t c1 h
    exact he _ (Option.some.inj h).symm
  · replace h := ite_f c1 h
    refine k_iload_n hF dX11_size_10 rfl ?_
    refine k_iload_n hF dX11_size_11 rfl ?_
    refine k_iload_n hF dX11_size_12 rfl ?_
    obtain ⟨v2, hv2, h⟩ := bind_some h
    refine k_callS hF hA (as := [.int a0, .int x.2]) (ct_X11_has hbs hv2) ms_X11_142 rfl rfl ⟨Nat.le_of_ble_eq_true rfl, Nat.le_of_ble_eq_true rfl⟩ (Nat.le_of_ble_eq_true rfl) dX11_size_13 ?_
    refine k_st (st2 := [.int v2, .int x.1]) rfl ?_
    refine k_if_eq hF (tgt := 23) dX11_size_16 (by decide) (fun c3 => ?_) (fun c3 => ?_)
    · replace h := ite_t c3 h
      refine k_iconst hF dX11_size_23 ci_0 ?_
      refine k_kill 1 rfl ?_
      exact wX11_size_j24 hF hA hbs h hc he
    · replace h := ite_f c3 h
      refine k_iconst hF dX11_size_19 ci_1 ?_
      refine k_goto hF dX11_size_20 (tgt := 24) (by decide) ?_
      refine k_kill 1 rfl ?_
      exact wX11_size_j24 hF hA hbs h hc he
set_option maxHeartbeats 4000000 in
set_option maxRecDepth 100000 in
theorem wX11_size {p : Program} {l : Launch} {e : Env} {s : State} {m : MethodId} {args : Array Value} {below : List Frame} {meth : Method} {c : Code} {Q : State → Prop} {A : Nat → Prop} {D : DD} {base B : Nat} (hF : KF D base cX11_size RX11 A 3 0 0 p l e ({ frames := 1, cells := 0, slots := 0, locals := 21 } : Room) s m args below meth c) (hA : ∀ q, RA B shpR q → A q) (hbs : base ≤ B) {σ : St} {a0 : Int32} {z : Int32} (h : fX11_size σ a0 = some z) (hr : ∀ (pc : Nat) (L : List (Option Value)), narrow .int (.int z) = .int z → decode cX11_size pc = .ok (.ireturn, 1) → KJ (Rep D B shpR) A 3 0 0 Q p l e ({ frames := 1, cells := 0, slots := 0, locals := 21 } : Room) s m args below meth c 0 0 pc L [.int z] σ) : KJ (Rep D B shpR) A 3 0 0 Q p l e ({ frames := 1, cells := 0, slots := 0, locals := 21 } : Room) s m args below meth c 0 0 0 [some (.int a0), none, none] [] σ := by
  unfold fX11_size at h
  refine k_iconst hF dX11_size_0 ci_0 ?_
  refine k_istore_n hF (L' := [some (.int a0), some (.int (0 : Int32)), none]) dX11_size_1 (by decide) rfl ?_
  refine k_iconst hF dX11_size_2 ci_0 ?_
  refine k_istore_n hF (L' := [some (.int a0), some (.int (0 : Int32)), some (.int (0 : Int32))]) dX11_size_3 (by decide) rfl ?_
  obtain ⟨x4, hx4, h⟩ := bind_some h
  refine k_loop (P := fun xq => KJ (Rep D B shpR) A 3 0 0 Q p l e ({ frames := 1, cells := 0, slots := 0, locals := 21 } : Room) s m args below meth c 0 0 4 [some (.int a0), some (.int xq.1), some (.int xq.2)] [] σ) (C := fun xq => KJ (Rep D B shpR) A 3 0 0 Q p l e ({ frames := 1, cells := 0, slots := 0, locals := 21 } : Room) s m args below meth c 0 0 32 [some (.int a0), some (.int xq.1), some (.int xq.2)] [] σ) (fun x z hz hc he => wX11_size_l4 hF hA hbs hz hc he) hx4 ?_
  show KJ (Rep D B shpR) A 3 0 0 Q p l e ({ frames := 1, cells := 0, slots := 0, locals := 21 } : Room) s m args below meth c 0 0 32 [some (.int a0), some (.int x4.1), some (.int x4.2)] [] σ
  refine k_iload_n hF dX11_size_32 rfl ?_
  cases h
  exact hr _ _ rfl dX11_size_33
theorem ct_X11_size {l : Launch} {D : DD} {base B : Nat} (hbs : base ≤ B) {σ : St} {a0 : Int32} {r : Int32} (h : fX11_size σ a0 = some r) : MetR l D B shpR base yX11_size cX11_size 3 (some .int) 1 21 [.int a0] σ (some (.int r)) σ :=
  MetR.of (by decide +kernel) (fun v hv => by simp only [List.mem_cons, List.not_mem_nil, or_false] at hv; rcases hv with rfl <;> rfl) (Nat.le_of_ble_eq_true rfl) hbs (fun p e s m args below meth c hF hr => wX11_size hF (fun q hq => hq) hbs h (fun pc L hn hd => k_iret hF hr hn hd))
set_option maxHeartbeats 4000000 in
set_option maxRecDepth 100000 in
theorem wX11_isLabel {p : Program} {l : Launch} {e : Env} {s : State} {m : MethodId} {args : Array Value} {below : List Frame} {meth : Method} {c : Code} {Q : State → Prop} {A : Nat → Prop} {D : DD} {base B : Nat} (hF : KF D base cX11_isLabel RX11 A 1 0 0 p l e ({ frames := 1, cells := 0, slots := 0, locals := 22 } : Room) s m args below meth c) (hA : ∀ q, RA B shpR q → A q) (hbs : base ≤ B) {σ : St} {a0 : Int32} {z : Int32} (h : fX11_isLabel σ a0 = some z) (hr : ∀ (pc : Nat) (L : List (Option Value)), narrow .boolean (.int z) = .int z → decode cX11_isLabel pc = .ok (.ireturn, 1) → KJ (Rep D B shpR) A 1 0 0 Q p l e ({ frames := 1, cells := 0, slots := 0, locals := 22 } : Room) s m args below meth c 0 0 pc L [.int z] σ) : KJ (Rep D B shpR) A 1 0 0 Q p l e ({ frames := 1, cells := 0, slots := 0, locals := 22 } : Room) s m args below meth c 0 0 0 [some (.int a0)] [] σ := by
  unfold fX11_isLabel at h
  refine k_iload_n hF dX11_isLabel_0 rfl ?_
  refine k_iconst hF dX11_isLabel_1 ci_0 ?_
  refine k_iconst hF dX11_isLabel_2 ci_3 ?_
  obtain ⟨v1, hv1, h⟩ := bind_some h
  refine k_callS hF hA (as := [.int a0, .int (0 : Int32), .int (3 : Int32)]) (ct_X11_isIn hbs hv1) ms_X11_146 rfl rfl ⟨Nat.le_of_ble_eq_true rfl, Nat.le_of_ble_eq_true rfl⟩ (Nat.le_of_ble_eq_true rfl) dX11_isLabel_3 ?_
  refine k_st (st2 := [.int v1]) rfl ?_
  obtain ⟨g2, h⟩ := gd_some h
  cases h
  exact hr _ _ (nar_z g2) dX11_isLabel_6
theorem ct_X11_isLabel {l : Launch} {D : DD} {base B : Nat} (hbs : base ≤ B) {σ : St} {a0 : Int32} {r : Int32} (h : fX11_isLabel σ a0 = some r) : MetR l D B shpR base yX11_isLabel cX11_isLabel 1 (some .boolean) 1 22 [.int a0] σ (some (.int r)) σ :=
  MetR.of (by decide +kernel) (fun v hv => by simp only [List.mem_cons, List.not_mem_nil, or_false] at hv; rcases hv with rfl <;> rfl) (Nat.le_of_ble_eq_true rfl) hbs (fun p e s m args below meth c hF hr => wX11_isLabel hF (fun q hq => hq) hbs h (fun pc L hn hd => k_iret hF hr hn hd))
set_option maxHeartbeats 4000000 in
set_option maxRecDepth 100000 in
theorem wX11_isMachine {p : Program} {l : Launch} {e : Env} {s : State} {m : MethodId} {args : Array Value} {below : List Frame} {meth : Method} {c : Code} {Q : State → Prop} {A : Nat → Prop} {D : DD} {base B : Nat} (hF : KF D base cX11_isMachine RX11 A 1 0 0 p l e ({ frames := 1, cells := 0, slots := 0, locals := 22 } : Room) s m args below meth c) (hA : ∀ q, RA B shpR q → A q) (hbs : base ≤ B) {σ : St} {a0 : Int32} {z : Int32} (h : fX11_isMachine σ a0 = some z) (hr : ∀ (pc : Nat) (L : List (Option Value)), narrow .boolean (.int z) = .int z → decode cX11_isMachine pc = .ok (.ireturn, 1) → KJ (Rep D B shpR) A 1 0 0 Q p l e ({ frames := 1, cells := 0, slots := 0, locals := 22 } : Room) s m args below meth c 0 0 pc L [.int z] σ) : KJ (Rep D B shpR) A 1 0 0 Q p l e ({ frames := 1, cells := 0, slots := 0, locals := 22 } : Room) s m args below meth c 0 0 0 [some (.int a0)] [] σ := by
  unfold fX11_isMachine at h
  refine k_iload_n hF dX11_isMachine_0 rfl ?_
  refine k_iconst hF dX11_isMachine_1 ci_0 ?_
  refine k_iconst hF dX11_isMachine_2 ci_2 ?_
  obtain ⟨v1, hv1, h⟩ := bind_some h
  refine k_callS hF hA (as := [.int a0, .int (0 : Int32), .int (2 : Int32)]) (ct_X11_isIn hbs hv1) ms_X11_146 rfl rfl ⟨Nat.le_of_ble_eq_true rfl, Nat.le_of_ble_eq_true rfl⟩ (Nat.le_of_ble_eq_true rfl) dX11_isMachine_3 ?_
  refine k_st (st2 := [.int v1]) rfl ?_
  obtain ⟨g2, h⟩ := gd_some h
  cases h
  exact hr _ _ (nar_z g2) dX11_isMachine_6
theorem ct_X11_isMachine {l : Launch} {D : DD} {base B : Nat} (hbs : base ≤ B) {σ : St} {a0 : Int32} {r : Int32} (h : fX11_isMachine σ a0 = some r) : MetR l D B shpR base yX11_isMachine cX11_isMachine 1 (some .boolean) 1 22 [.int a0] σ (some (.int r)) σ :=
  MetR.of (by decide +kernel) (fun v hv => by simp only [List.mem_cons, List.not_mem_nil, or_false] at hv; rcases hv with rfl <;> rfl) (Nat.le_of_ble_eq_true rfl) hbs (fun p e s m args below meth c hF hr => wX11_isMachine hF (fun q hq => hq) hbs h (fun pc L hn hd => k_iret hF hr hn hd))
set_option maxHeartbeats 4000000 in
set_option maxRecDepth 100000 in
theorem wX11_isNode_j29 {p : Program} {l : Launch} {e : Env} {s : State} {m : MethodId} {args : Array Value} {below : List Frame} {meth : Method} {c : Code} {Q : State → Prop} {A : Nat → Prop} {D : DD} {base B : Nat} (hF : KF D base cX11_isNode RX11 A 2 0 0 p l e ({ frames := 1, cells := 0, slots := 0, locals := 22 } : Room) s m args below meth c) (hA : ∀ q, RA B shpR q → A q) (hbs : base ≤ B) {σ : St} {a1 : Int32} {z : Int32} (h : fX11_isNode_j29 σ a1 = some z) (hr : ∀ (pc : Nat) (L : List (Option Value)), narrow .boolean (.int z) = .int z → decode cX11_isNode pc = .ok (.ireturn, 1) → KJ (Rep D B shpR) A 2 0 0 Q p l e ({ frames := 1, cells := 0, slots := 0, locals := 22 } : Room) s m args below meth c 0 0 pc L [.int z] σ) : KJ (Rep D B shpR) A 2 0 0 Q p l e ({ frames := 1, cells := 0, slots := 0, locals := 22 } : Room) s m args below meth c 0 0 29 [some (.ref (B + 0)), some (.int a1)] [] σ := by
  unfold fX11_isNode_j29 at h
  refine k_iconst hF dX11_isNode_29 ci_0 ?_
  cases h
  exact hr _ _ nar_0 dX11_isNode_30
set_option maxHeartbeats 4000000 in
set_option maxRecDepth 100000 in
theorem wX11_isNode {p : Program} {l : Launch} {e : Env} {s : State} {m : MethodId} {args : Array Value} {below : List Frame} {meth : Method} {c : Code} {Q : State → Prop} {A : Nat → Prop} {D : DD} {base B : Nat} (hF : KF D base cX11_isNode RX11 A 2 0 0 p l e ({ frames := 1, cells := 0, slots := 0, locals := 22 } : Room) s m args below meth c) (hA : ∀ q, RA B shpR q → A q) (hbs : base ≤ B) {σ : St} {a1 : Int32} {z : Int32} (h : fX11_isNode σ a1 = some z) (hr : ∀ (pc : Nat) (L : List (Option Value)), narrow .boolean (.int z) = .int z → decode cX11_isNode pc = .ok (.ireturn, 1) → KJ (Rep D B shpR) A 2 0 0 Q p l e ({ frames := 1, cells := 0, slots := 0, locals := 22 } : Room) s m args below meth c 0 0 pc L [.int z] σ) : KJ (Rep D B shpR) A 2 0 0 Q p l e ({ frames := 1, cells := 0, slots := 0, locals := 22 } : Room) s m args below meth c 0 0 0 [some (.ref (B + 0)), some (.int a1)] [] σ := by
  unfold fX11_isNode at h
  refine k_iload_n hF dX11_isNode_0 rfl ?_
  refine k_iconst hF dX11_isNode_1 ci_0 ?_
  refine k_aload_n hF dX11_isNode_2 rfl ?_
  refine k_get hF (v := .int (gi σ 0 1)) shR_0 fl_X11_150_X11 dX11_isNode_3 rfl ?_
  refine k_iconst hF dX11_isNode_6 ci_1 ?_
  refine k_isub hF dX11_isNode_7 ?_
  obtain ⟨v1, hv1, h⟩ := bind_some h
  refine k_callS hF hA (as := [.int a1, .int (0 : Int32), .int ((gi σ 0 1) - (1 : Int32))]) (ct_X11_isIn hbs hv1) ms_X11_146 rfl rfl ⟨Nat.le_of_ble_eq_true rfl, Nat.le_of_ble_eq_true rfl⟩ (Nat.le_of_ble_eq_true rfl) dX11_isNode_8 ?_
  refine k_st (st2 := [.int v1]) rfl ?_
  refine k_if_eq hF (tgt := 29) dX11_isNode_11 (by decide) (fun c2 => ?_) (fun c2 => ?_)
  · replace h := ite_t c2 h
    exact wX11_isNode_j29 hF hA hbs h hr
  · replace h := ite_f c2 h
    refine k_aload_n hF dX11_isNode_14 rfl ?_
    refine k_get hF (v := .ref (B + 5)) shR_0 fl_X11_22_X11 dX11_isNode_15 rfl ?_
    refine k_iload_n hF dX11_isNode_18 rfl ?_
    obtain ⟨g3, h⟩ := gd_some h
    refine k_iald hF shR_5 dX11_isNode_19 g3 ?_
    refine k_ldc hF kc_X11_153 dX11_isNode_20 ?_
    refine k_icmp_ne hF (tgt := 29) dX11_isNode_22 (by decide) (fun c4 => ?_) (fun c4 => ?_)
    · replace h := ite_f c4 h
      exact wX11_isNode_j29 hF hA hbs h hr
    · replace h := ite_t c4 h
      refine k_iconst hF dX11_isNode_25 ci_1 ?_
      refine k_goto hF dX11_isNode_26 (tgt := 30) (by decide) ?_
      cases h
      exact hr _ _ nar_1 dX11_isNode_30
theorem ct_X11_isNode {l : Launch} {D : DD} {base B : Nat} (hbs : base ≤ B) {σ : St} {a1 : Int32} {r : Int32} (h : fX11_isNode σ a1 = some r) : MetR l D B shpR base yX11_isNode cX11_isNode 2 (some .boolean) 1 22 [.ref (B + 0), .int a1] σ (some (.int r)) σ :=
  MetR.of (by decide +kernel) (fun v hv => by simp only [List.mem_cons, List.not_mem_nil, or_false] at hv; rcases hv with rfl | rfl <;> rfl) (Nat.le_of_ble_eq_true rfl) hbs (fun p e s m args below meth c hF hr => wX11_isNode hF (fun q hq => hq) hbs h (fun pc L hn hd => k_iret hF hr hn hd))
set_option maxHeartbeats 4000000 in
set_option maxRecDepth 100000 in
theorem wX11_isEdge_j29 {p : Program} {l : Launch} {e : Env} {s : State} {m : MethodId} {args : Array Value} {below : List Frame} {meth : Method} {c : Code} {Q : State → Prop} {A : Nat → Prop} {D : DD} {base B : Nat} (hF : KF D base cX11_isEdge RX11 A 2 0 0 p l e ({ frames := 1, cells := 0, slots := 0, locals := 22 } : Room) s m args below meth c) (hA : ∀ q, RA B shpR q → A q) (hbs : base ≤ B) {σ : St} {a1 : Int32} {z : Int32} (h : fX11_isEdge_j29 σ a1 = some z) (hr : ∀ (pc : Nat) (L : List (Option Value)), narrow .boolean (.int z) = .int z → decode cX11_isEdge pc = .ok (.ireturn, 1) → KJ (Rep D B shpR) A 2 0 0 Q p l e ({ frames := 1, cells := 0, slots := 0, locals := 22 } : Room) s m args below meth c 0 0 pc L [.int z] σ) : KJ (Rep D B shpR) A 2 0 0 Q p l e ({ frames := 1, cells := 0, slots := 0, locals := 22 } : Room) s m args below meth c 0 0 29 [some (.ref (B + 0)), some (.int a1)] [] σ := by
  unfold fX11_isEdge_j29 at h
  refine k_iconst hF dX11_isEdge_29 ci_0 ?_
  cases h
  exact hr _ _ nar_0 dX11_isEdge_30
set_option maxHeartbeats 4000000 in
set_option maxRecDepth 100000 in
theorem wX11_isEdge {p : Program} {l : Launch} {e : Env} {s : State} {m : MethodId} {args : Array Value} {below : List Frame} {meth : Method} {c : Code} {Q : State → Prop} {A : Nat → Prop} {D : DD} {base B : Nat} (hF : KF D base cX11_isEdge RX11 A 2 0 0 p l e ({ frames := 1, cells := 0, slots := 0, locals := 22 } : Room) s m args below meth c) (hA : ∀ q, RA B shpR q → A q) (hbs : base ≤ B) {σ : St} {a1 : Int32} {z : Int32} (h : fX11_isEdge σ a1 = some z) (hr : ∀ (pc : Nat) (L : List (Option Value)), narrow .boolean (.int z) = .int z → decode cX11_isEdge pc = .ok (.ireturn, 1) → KJ (Rep D B shpR) A 2 0 0 Q p l e ({ frames := 1, cells := 0, slots := 0, locals := 22 } : Room) s m args below meth c 0 0 pc L [.int z] σ) : KJ (Rep D B shpR) A 2 0 0 Q p l e ({ frames := 1, cells := 0, slots := 0, locals := 22 } : Room) s m args below meth c 0 0 0 [some (.ref (B + 0)), some (.int a1)] [] σ := by
  unfold fX11_isEdge at h
  refine k_iload_n hF dX11_isEdge_0 rfl ?_
  refine k_iconst hF dX11_isEdge_1 ci_0 ?_
  refine k_aload_n hF dX11_isEdge_2 rfl ?_
  refine k_get hF (v := .int (gi σ 0 15)) shR_0 fl_X11_154_X11 dX11_isEdge_3 rfl ?_
  refine k_iconst hF dX11_isEdge_6 ci_1 ?_
  refine k_isub hF dX11_isEdge_7 ?_
  obtain ⟨v1, hv1, h⟩ := bind_some h
  refine k_callS hF hA (as := [.int a1, .int (0 : Int32), .int ((gi σ 0 15) - (1 : Int32))]) (ct_X11_isIn hbs hv1) ms_X11_146 rfl rfl ⟨Nat.le_of_ble_eq_true rfl, Nat.le_of_ble_eq_true rfl⟩ (Nat.le_of_ble_eq_true rfl) dX11_isEdge_8 ?_
  refine k_st (st2 := [.int v1]) rfl ?_
  refine k_if_eq hF (tgt := 29) dX11_isEdge_11 (by decide) (fun c2 => ?_) (fun c2 => ?_)
  · replace h := ite_t c2 h
    exact wX11_isEdge_j29 hF hA hbs h hr
  · replace h := ite_f c2 h
    refine k_aload_n hF dX11_isEdge_14 rfl ?_
    refine k_get hF (v := .ref (B + 17)) shR_0 fl_X11_60_X11 dX11_isEdge_15 rfl ?_
    refine k_iload_n hF dX11_isEdge_18 rfl ?_
    obtain ⟨g3, h⟩ := gd_some h
    refine k_iald hF shR_17 dX11_isEdge_19 g3 ?_
    refine k_ldc hF kc_X11_153 dX11_isEdge_20 ?_
    refine k_icmp_ne hF (tgt := 29) dX11_isEdge_22 (by decide) (fun c4 => ?_) (fun c4 => ?_)
    · replace h := ite_f c4 h
      exact wX11_isEdge_j29 hF hA hbs h hr
    · replace h := ite_t c4 h
      refine k_iconst hF dX11_isEdge_25 ci_1 ?_
      refine k_goto hF dX11_isEdge_26 (tgt := 30) (by decide) ?_
      cases h
      exact hr _ _ nar_1 dX11_isEdge_30
theorem ct_X11_isEdge {l : Launch} {D : DD} {base B : Nat} (hbs : base ≤ B) {σ : St} {a1 : Int32} {r : Int32} (h : fX11_isEdge σ a1 = some r) : MetR l D B shpR base yX11_isEdge cX11_isEdge 2 (some .boolean) 1 22 [.ref (B + 0), .int a1] σ (some (.int r)) σ :=
  MetR.of (by decide +kernel) (fun v hv => by simp only [List.mem_cons, List.not_mem_nil, or_false] at hv; rcases hv with rfl | rfl <;> rfl) (Nat.le_of_ble_eq_true rfl) hbs (fun p e s m args below meth c hF hr => wX11_isEdge hF (fun q hq => hq) hbs h (fun pc L hn hd => k_iret hF hr hn hd))
set_option maxHeartbeats 4000000 in
set_option maxRecDepth 100000 in
theorem wX11_wasThere_j14 {p : Program} {l : Launch} {e : Env} {s : State} {m : MethodId} {args : Array Value} {below : List Frame} {meth : Method} {c : Code} {Q : State → Prop} {A : Nat → Prop} {D : DD} {base B : Nat} (hF : KF D base cX11_wasThere RX11 A 3 0 0 p l e ({ frames := 0, cells := 0, slots := 0, locals := 0 } : Room) s m args below meth c) (hA : ∀ q, RA B shpR q → A q) (hbs : base ≤ B) {σ : St} {a0 : Int32} {a1 : Int32} {a2 : Int32} {z : Int32} (h : fX11_wasThere_j14 σ a0 a1 a2 = some z) (hr : ∀ (pc : Nat) (L : List (Option Value)), narrow .boolean (.int z) = .int z → decode cX11_wasThere pc = .ok (.ireturn, 1) → KJ (Rep D B shpR) A 3 0 0 Q p l e ({ frames := 0, cells := 0, slots := 0, locals := 0 } : Room) s m args below meth c 0 0 pc L [.int z] σ) : KJ (Rep D B shpR) A 3 0 0 Q p l e ({ frames := 0, cells := 0, slots := 0, locals := 0 } : Room) s m args below meth c 0 0 14 [some (.int a0), some (.int a1), some (.int a2)] [] σ := by
  unfold fX11_wasThere_j14 at h
  refine k_iconst hF dX11_wasThere_14 ci_0 ?_
  cases h
  exact hr _ _ nar_0 dX11_wasThere_15
set_option maxHeartbeats 4000000 in
set_option maxRecDepth 100000 in
theorem wX11_wasThere {p : Program} {l : Launch} {e : Env} {s : State} {m : MethodId} {args : Array Value} {below : List Frame} {meth : Method} {c : Code} {Q : State → Prop} {A : Nat → Prop} {D : DD} {base B : Nat} (hF : KF D base cX11_wasThere RX11 A 3 0 0 p l e ({ frames := 0, cells := 0, slots := 0, locals := 0 } : Room) s m args below meth c) (hA : ∀ q, RA B shpR q → A q) (hbs : base ≤ B) {σ : St} {a0 : Int32} {a1 : Int32} {a2 : Int32} {z : Int32} (h : fX11_wasThere σ a0 a1 a2 = some z) (hr : ∀ (pc : Nat) (L : List (Option Value)), narrow .boolean (.int z) = .int z → decode cX11_wasThere pc = .ok (.ireturn, 1) → KJ (Rep D B shpR) A 3 0 0 Q p l e ({ frames := 0, cells := 0, slots := 0, locals := 0 } : Room) s m args below meth c 0 0 pc L [.int z] σ) : KJ (Rep D B shpR) A 3 0 0 Q p l e ({ frames := 0, cells := 0, slots := 0, locals := 0 } : Room) s m args below meth c 0 0 0 [some (.int a0), some (.int a1), some (.int a2)] [] σ := by
  unfold fX11_wasThere at h
  refine k_iload_n hF dX11_wasThere_0 rfl ?_
  refine k_iload_n hF dX11_wasThere_1 rfl ?_
  refine k_icmp_gt hF (tgt := 14) dX11_wasThere_2 (by decide) (fun c1 => ?_) (fun c1 => ?_)
  · replace h := ite_t c1 h
    exact wX11_wasThere_j14 hF hA hbs h hr
  · replace h := ite_f c1 h
    refine k_iload_n hF dX11_wasThere_5 rfl ?_
    refine k_iload_n hF dX11_wasThere_6 rfl ?_
    refine k_icmp_ge hF (tgt := 14) dX11_wasThere_7 (by decide) (fun c2 => ?_) (fun c2 => ?_)
    · replace h := ite_t c2 h
      exact wX11_wasThere_j14 hF hA hbs h hr
    · replace h := ite_f c2 h
      refine k_iconst hF dX11_wasThere_10 ci_1 ?_
      refine k_goto hF dX11_wasThere_11 (tgt := 15) (by decide) ?_
      cases h
      exact hr _ _ nar_1 dX11_wasThere_15
theorem ct_X11_wasThere {l : Launch} {D : DD} {base B : Nat} (hbs : base ≤ B) {σ : St} {a0 : Int32} {a1 : Int32} {a2 : Int32} {r : Int32} (h : fX11_wasThere σ a0 a1 a2 = some r) : MetR l D B shpR base yX11_wasThere cX11_wasThere 3 (some .boolean) 0 0 [.int a0, .int a1, .int a2] σ (some (.int r)) σ :=
  MetR.of (by decide +kernel) (fun v hv => by simp only [List.mem_cons, List.not_mem_nil, or_false] at hv; rcases hv with rfl | rfl | rfl <;> rfl) (Nat.le_of_ble_eq_true rfl) hbs (fun p e s m args below meth c hF hr => wX11_wasThere hF (fun q hq => hq) hbs h (fun pc L hn hd => k_iret hF hr hn hd))
set_option maxHeartbeats 4000000 in
set_option maxRecDepth 100000 in
theorem wX11_notes {p : Program} {l : Launch} {e : Env} {s : State} {m : MethodId} {args : Array Value} {below : List Frame} {meth : Method} {c : Code} {Q : State → Prop} {A : Nat → Prop} {D : DD} {base B : Nat} (hF : KF D base cX11_notes RX11 A 3 0 0 p l e ({ frames := 0, cells := 0, slots := 0, locals := 0 } : Room) s m args below meth c) (hA : ∀ q, RA B shpR q → A q) (hbs : base ≤ B) {σ : St} {a1 : Int32} {a2 : Int32} {z : St} (h : fX11_notes σ a1 a2 = some z) (hr : ∀ (pc : Nat) (L : List (Option Value)), decode cX11_notes pc = .ok (.return_, 1) → KJ (Rep D B shpR) A 3 0 0 Q p l e ({ frames := 0, cells := 0, slots := 0, locals := 0 } : Room) s m args below meth c 0 0 pc L [] z) : KJ (Rep D B shpR) A 3 0 0 Q p l e ({ frames := 0, cells := 0, slots := 0, locals := 0 } : Room) s m args below meth c 0 0 0 [some (.ref (B + 0)), some (.int a1), some (.int a2)] [] σ := by
  unfold fX11_notes at h
  refine k_aload_n hF dX11_notes_0 rfl ?_
  refine k_get hF (v := .ref (B + 2)) shR_0 fl_X11_13_X11 dX11_notes_1 rfl ?_
  refine k_iload_n hF dX11_notes_4 rfl ?_
  refine k_iload_n hF dX11_notes_5 rfl ?_
  obtain ⟨g1, h⟩ := gd_some h
  refine k_iast hF hA shR_2 dX11_notes_6 g1 ?_
  obtain ⟨σ2, hσ2, h⟩ := lt_some h
  refine k_sig hσ2 ?_
  refine k_aload_n hF dX11_notes_7 rfl ?_
  refine k_get hF (v := .ref (B + 10)) shR_0 fl_X11_39_X11 dX11_notes_8 rfl ?_
  refine k_aload_n hF dX11_notes_11 rfl ?_
  refine k_get hF (v := .int (gi σ2 0 11)) shR_0 fl_X11_157_X11 dX11_notes_12 rfl ?_
  refine k_iload_n hF dX11_notes_15 rfl ?_
  obtain ⟨g3, h⟩ := gd_some h
  refine k_iast hF hA shR_10 dX11_notes_16 g3 ?_
  obtain ⟨σ4, hσ4, h⟩ := lt_some h
  refine k_sig hσ4 ?_
  refine k_aload_n hF dX11_notes_17 rfl ?_
  refine k_get hF (v := .ref (B + 11)) shR_0 fl_X11_42_X11 dX11_notes_18 rfl ?_
  refine k_aload_n hF dX11_notes_21 rfl ?_
  refine k_get hF (v := .int (gi σ4 0 11)) shR_0 fl_X11_157_X11 dX11_notes_22 rfl ?_
  refine k_aload_n hF dX11_notes_25 rfl ?_
  refine k_get hF (v := .int (gi σ4 0 0)) shR_0 fl_X11_160_X11 dX11_notes_26 rfl ?_
  obtain ⟨g5, h⟩ := gd_some h
  refine k_iast hF hA shR_11 dX11_notes_29 g5 ?_
  obtain ⟨σ6, hσ6, h⟩ := lt_some h
  refine k_sig hσ6 ?_
  refine k_aload_n hF dX11_notes_30 rfl ?_
  refine k_get hF (v := .ref (B + 12)) shR_0 fl_X11_45_X11 dX11_notes_31 rfl ?_
  refine k_aload_n hF dX11_notes_34 rfl ?_
  refine k_get hF (v := .int (gi σ6 0 11)) shR_0 fl_X11_157_X11 dX11_notes_35 rfl ?_
  refine k_iload_n hF dX11_notes_38 rfl ?_
  obtain ⟨g7, h⟩ := gd_some h
  refine k_iast hF hA shR_12 dX11_notes_39 g7 ?_
  obtain ⟨σ8, hσ8, h⟩ := lt_some h
  refine k_sig hσ8 ?_
  refine k_aload_n hF dX11_notes_40 rfl ?_
  refine k_dup hF dX11_notes_41 rfl ?_
  refine k_get hF (v := .int (gi σ8 0 11)) shR_0 fl_X11_157_X11 dX11_notes_42 rfl ?_
  refine k_iconst hF dX11_notes_45 ci_1 ?_
  refine k_iadd hF dX11_notes_46 ?_
  refine k_putI hF hA shR_0 fp_X11_157_X11 dX11_notes_47 rfl rfl rfl ?_
  obtain ⟨σ9, hσ9, h⟩ := lt_some h
  refine k_sig hσ9 ?_
  refine k_aload_n hF dX11_notes_50 rfl ?_
  refine k_get hF (v := .ref (B + 6)) shR_0 fl_X11_25_X11 dX11_notes_51 rfl ?_
  refine k_iload_n hF dX11_notes_54 rfl ?_
  refine k_aload_n hF dX11_notes_55 rfl ?_
  refine k_get hF (v := .int (gi σ9 0 0)) shR_0 fl_X11_160_X11 dX11_notes_56 rfl ?_
  obtain ⟨g10, h⟩ := gd_some h
  refine k_iast hF hA shR_6 dX11_notes_59 g10 ?_
  obtain ⟨σ11, hσ11, h⟩ := lt_some h
  refine k_sig hσ11 ?_
  cases h
  exact hr _ _ dX11_notes_60
theorem ct_X11_notes {l : Launch} {D : DD} {base B : Nat} (hbs : base ≤ B) {σ : St} {a1 : Int32} {a2 : Int32} {r : St} (h : fX11_notes σ a1 a2 = some r) : MetR l D B shpR base yX11_notes cX11_notes 3 none 0 0 [.ref (B + 0), .int a1, .int a2] σ none r :=
  MetR.of (by decide +kernel) (fun v hv => by simp only [List.mem_cons, List.not_mem_nil, or_false] at hv; rcases hv with rfl | rfl | rfl <;> rfl) (Nat.le_of_ble_eq_true rfl) hbs (fun p e s m args below meth c hF hr => wX11_notes hF (fun q hq => hq) hbs h (fun pc L hd => k_vret hF hr hd))
set_option maxHeartbeats 4000000 in
set_option maxRecDepth 100000 in
theorem wX11_valueThen_j47 {p : Program} {l : Launch} {e : Env} {s : State} {m : MethodId} {args : Array Value} {below : List Frame} {meth : Method} {c : Code} {Q : State → Prop} {A : Nat → Prop} {D : DD} {base B : Nat} (hF : KF D base cX11_valueThen RX11 A 5 0 0 p l e ({ frames := 0, cells := 0, slots := 0, locals := 0 } : Room) s m args below meth c) (hA : ∀ q, RA B shpR q → A q) (hbs : base ≤ B) {σ : St} {a1 : Int32} {a2 : Int32} {b4 : Int32} {t0 : Int32} {z : ((Int32 × Int32) ⊕ (Int32 × Int32))} (h : fX11_valueThen_j47 σ a1 a2 b4 t0 = some z) (hc : ∀ x, z = .inl x → KJ (Rep D B shpR) A 5 0 0 Q p l e ({ frames := 0, cells := 0, slots := 0, locals := 0 } : Room) s m args below meth c 0 0 5 [some (.ref (B + 0)), some (.int a1), some (.int a2), some (.int x.1), some (.int x.2)] [] σ) (he : ∀ w, z = .inr w → KJ (Rep D B shpR) A 5 0 0 Q p l e ({ frames := 0, cells := 0, slots := 0, locals := 0 } : Room) s m args below meth c 0 0 54 [some (.ref (B + 0)), some (.int a1), some (.int a2), some (.int w.1), some (.int w.2)] [] σ) : KJ (Rep D B shpR) A 5 0 0 Q p l e ({ frames := 0, cells := 0, slots := 0, locals := 0 } : Room) s m args below meth c 0 0 47 [some (.ref (B + 0)), some (.int a1), some (.int a2), none, some (.int b4)] [.int t0] σ := by
  unfold fX11_valueThen_j47 at h
  refine k_istore_n hF (L' := [some (.ref (B + 0)), some (.int a1), some (.int a2), some (.int t0), some (.int b4)]) dX11_valueThen_47 (by decide) rfl ?_
  refine k_iinc hF (v := (b4 + (1 : Int32))) (L' := [some (.ref (B + 0)), some (.int a1), some (.int a2), some (.int t0), some (.int (b4 + (1 : Int32)))]) dX11_valueThen_48 rfl (by first | rfl | (congr 1)) (by decide) rfl ?_
  refine k_goto hF dX11_valueThen_51 (tgt := 5) (by decide) ?_
  exact hc _ (Option.some.inj h).symm
set_option maxHeartbeats 4000000 in
set_option maxRecDepth 100000 in
theorem wX11_valueThen_j46 {p : Program} {l : Launch} {e : Env} {s : State} {m : MethodId} {args : Array Value} {below : List Frame} {meth : Method} {c : Code} {Q : State → Prop} {A : Nat → Prop} {D : DD} {base B : Nat} (hF : KF D base cX11_valueThen RX11 A 5 0 0 p l e ({ frames := 0, cells := 0, slots := 0, locals := 0 } : Room) s m args below meth c) (hA : ∀ q, RA B shpR q → A q) (hbs : base ≤ B) {σ : St} {a1 : Int32} {a2 : Int32} {b3 : Int32} {b4 : Int32} {z : ((Int32 × Int32) ⊕ (Int32 × Int32))} (h : fX11_valueThen_j46 σ a1 a2 b3 b4 = some z) (hc : ∀ x, z = .inl x → KJ (Rep D B shpR) A 5 0 0 Q p l e ({ frames := 0, cells := 0, slots := 0, locals := 0 } : Room) s m args below meth c 0 0 5 [some (.ref (B + 0)), some (.int a1), some (.int a2), some (.int x.1), some (.int x.2)] [] σ) (he : ∀ w, z = .inr w → KJ (Rep D B shpR) A 5 0 0 Q p l e ({ frames := 0, cells := 0, slots := 0, locals := 0 } : Room) s m args below meth c 0 0 54 [some (.ref (B + 0)), some (.int a1), some (.int a2), some (.int w.1), some (.int w.2)] [] σ) : KJ (Rep D B shpR) A 5 0 0 Q p l e ({ frames := 0, cells := 0, slots := 0, locals := 0 } : Room) s m args below meth c 0 0 46 [some (.ref (B + 0)), some (.int a1), some (.int a2), some (.int b3), some (.int b4)] [] σ := by
  unfold fX11_valueThen_j46 at h
  refine k_iload_n hF dX11_valueThen_46 rfl ?_
  refine k_kill 3 rfl ?_
  exact wX11_valueThen_j47 hF hA hbs h hc he
set_option maxHeartbeats 4000000 in
set_option maxRecDepth 100000 in
theorem wX11_valueThen_l5 {p : Program} {l : Launch} {e : Env} {s : State} {m : MethodId} {args : Array Value} {below : List Frame} {meth : Method} {c : Code} {Q : State → Prop} {A : Nat → Prop} {D : DD} {base B : Nat} (hF : KF D base cX11_valueThen RX11 A 5 0 0 p l e ({ frames := 0, cells := 0, slots := 0, locals := 0 } : Room) s m args below meth c) (hA : ∀ q, RA B shpR q → A q) (hbs : base ≤ B) {σ : St} {a1 : Int32} {a2 : Int32} {x : (Int32 × Int32)} {z : ((Int32 × Int32) ⊕ (Int32 × Int32))} (h : fX11_valueThen_l5 σ a1 a2 x = some z) (hc : ∀ x, z = .inl x → KJ (Rep D B shpR) A 5 0 0 Q p l e ({ frames := 0, cells := 0, slots := 0, locals := 0 } : Room) s m args below meth c 0 0 5 [some (.ref (B + 0)), some (.int a1), some (.int a2), some (.int x.1), some (.int x.2)] [] σ) (he : ∀ w, z = .inr w → KJ (Rep D B shpR) A 5 0 0 Q p l e ({ frames := 0, cells := 0, slots := 0, locals := 0 } : Room) s m args below meth c 0 0 54 [some (.ref (B + 0)), some (.int a1), some (.int a2), some (.int w.1), some (.int w.2)] [] σ) : KJ (Rep D B shpR) A 5 0 0 Q p l e ({ frames := 0, cells := 0, slots := 0, locals := 0 } : Room) s m args below meth c 0 0 5 [some (.ref (B + 0)), some (.int a1), some (.int a2), some (.int x.1), some (.int x.2)] [] σ := by
  unfold fX11_valueThen_l5 at h
  refine k_iload hF dX11_valueThen_5 rfl ?_
  refine k_aload_n hF dX11_valueThen_7 rfl ?_
  refine k_get hF (v := .int (gi σ 0 11)) shR_0 fl_X11_157_X11 dX11_valueThen_8 rfl ?_
  refine k_icmp_ge hF (tgt := 54) dX11_valueThen_11 (by decide) (fun c1 => ?_) (fun c1 => ?_)
  · replace h := ite_t c1 h
    exact he _ (Option.some.inj h).symm
  · replace h := ite_f c1 h
    refine k_aload_n hF dX11_valueThen_14 rfl ?_
    refine k_get hF (v := .ref (B + 10)) shR_0 fl_X11_39_X11 dX11_valueThen_15 rfl ?_
    refine k_iload hF dX11_valueThen_18 rfl ?_
    obtain ⟨g2, h⟩ := gd_some h
    refine k_iald hF shR_10 dX11_valueThen_20 g2 ?_
    refine k_iload_n hF dX11_valueThen_21 rfl ?_
    refine k_icmp_ne hF (tgt := 46) dX11_valueThen_22 (by decide) (fun c3 => ?_) (fun c3 => ?_)
    · replace h := ite_f c3 h
      exact wX11_valueThen_j46 hF hA hbs h hc he
    · replace h := ite_t c3 h
      refine k_aload_n hF dX11_valueThen_25 rfl ?_
      refine k_get hF (v := .ref (B + 11)) shR_0 fl_X11_42_X11 dX11_valueThen_26 rfl ?_
      refine k_iload hF dX11_valueThen_29 rfl ?_
      obtain ⟨g4, h⟩ := gd_some h
      refine k_iald hF shR_11 dX11_valueThen_31 g4 ?_
      refine k_iload_n hF dX11_valueThen_32 rfl ?_
      refine k_icmp_gt hF (tgt := 46) dX11_valueThen_33 (by decide) (fun c5 => ?_) (fun c5 => ?_)
      · replace h := ite_t c5 h
        exact wX11_valueThen_j46 hF hA hbs h hc he
      · replace h := ite_f c5 h
        refine k_aload_n hF dX11_valueThen_36 rfl ?_
        refine k_get hF (v := .ref (B + 12)) shR_0 fl_X11_45_X11 dX11_valueThen_37 rfl ?_
        refine k_iload hF dX11_valueThen_40 rfl ?_
        obtain ⟨g6, h⟩ := gd_some h
        refine k_iald hF shR_12 dX11_valueThen_42 g6 ?_
        refine k_goto hF dX11_valueThen_43 (tgt := 47) (by decide) ?_
        refine k_kill 3 rfl ?_
        exact wX11_valueThen_j47 hF hA hbs h hc he
set_option maxHeartbeats 4000000 in
set_option maxRecDepth 100000 in
theorem wX11_valueThen {p : Program} {l : Launch} {e : Env} {s : State} {m : MethodId} {args : Array Value} {below : List Frame} {meth : Method} {c : Code} {Q : State → Prop} {A : Nat → Prop} {D : DD} {base B : Nat} (hF : KF D base cX11_valueThen RX11 A 5 0 0 p l e ({ frames := 0, cells := 0, slots := 0, locals := 0 } : Room) s m args below meth c) (hA : ∀ q, RA B shpR q → A q) (hbs : base ≤ B) {σ : St} {a1 : Int32} {a2 : Int32} {z : Int32} (h : fX11_valueThen σ a1 a2 = some z) (hr : ∀ (pc : Nat) (L : List (Option Value)), narrow .int (.int z) = .int z → decode cX11_valueThen pc = .ok (.ireturn, 1) → KJ (Rep D B shpR) A 5 0 0 Q p l e ({ frames := 0, cells := 0, slots := 0, locals := 0 } : Room) s m args below meth c 0 0 pc L [.int z] σ) : KJ (Rep D B shpR) A 5 0 0 Q p l e ({ frames := 0, cells := 0, slots := 0, locals := 0 } : Room) s m args below meth c 0 0 0 [some (.ref (B + 0)), some (.int a1), some (.int a2), none, none] [] σ := by
  unfold fX11_valueThen at h
  refine k_iconst hF dX11_valueThen_0 ci_0 ?_
  refine k_istore_n hF (L' := [some (.ref (B + 0)), some (.int a1), some (.int a2), some (.int (0 : Int32)), none]) dX11_valueThen_1 (by decide) rfl ?_
  refine k_iconst hF dX11_valueThen_2 ci_0 ?_
  refine k_istore hF (L' := [some (.ref (B + 0)), some (.int a1), some (.int a2), some (.int (0 : Int32)), some (.int (0 : Int32))]) dX11_valueThen_3 (by decide) rfl ?_
  obtain ⟨x7, hx7, h⟩ := bind_some h
  refine k_loop (P := fun xq => KJ (Rep D B shpR) A 5 0 0 Q p l e ({ frames := 0, cells := 0, slots := 0, locals := 0 } : Room) s m args below meth c 0 0 5 [some (.ref (B + 0)), some (.int a1), some (.int a2), some (.int xq.1), some (.int xq.2)] [] σ) (C := fun xq => KJ (Rep D B shpR) A 5 0 0 Q p l e ({ frames := 0, cells := 0, slots := 0, locals := 0 } : Room) s m args below meth c 0 0 54 [some (.ref (B + 0)), some (.int a1), some (.int a2), some (.int xq.1), some (.int xq.2)] [] σ) (fun x z hz hc he => wX11_valueThen_l5 hF hA hbs hz hc he) hx7 ?_
  show KJ (Rep D B shpR) A 5 0 0 Q p l e ({ frames := 0, cells := 0, slots := 0, locals := 0 } : Room) s m args below meth c 0 0 54 [some (.ref (B + 0)), some (.int a1), some (.int a2), some (.int x7.1), some (.int x7.2)] [] σ
  refine k_iload_n hF dX11_valueThen_54 rfl ?_
  cases h
  exact hr _ _ rfl dX11_valueThen_55
theorem ct_X11_valueThen {l : Launch} {D : DD} {base B : Nat} (hbs : base ≤ B) {σ : St} {a1 : Int32} {a2 : Int32} {r : Int32} (h : fX11_valueThen σ a1 a2 = some r) : MetR l D B shpR base yX11_valueThen cX11_valueThen 5 (some .int) 0 0 [.ref (B + 0), .int a1, .int a2] σ (some (.int r)) σ :=
  MetR.of (by decide +kernel) (fun v hv => by simp only [List.mem_cons, List.not_mem_nil, or_false] at hv; rcases hv with rfl | rfl | rfl <;> rfl) (Nat.le_of_ble_eq_true rfl) hbs (fun p e s m args below meth c hF hr => wX11_valueThen hF (fun q hq => hq) hbs h (fun pc L hn hd => k_iret hF hr hn hd))
set_option maxHeartbeats 4000000 in
set_option maxRecDepth 100000 in
theorem wX11_breaksKey_j62 {p : Program} {l : Launch} {e : Env} {s : State} {m : MethodId} {args : Array Value} {below : List Frame} {meth : Method} {c : Code} {Q : State → Prop} {A : Nat → Prop} {D : DD} {base B : Nat} (hF : KF D base cX11_breaksKey RX11 A 6 0 0 p l e ({ frames := 2, cells := 0, slots := 0, locals := 43 } : Room) s m args below meth c) (hA : ∀ q, RA B shpR q → A q) (hbs : base ≤ B) {σ : St} {a1 : Int32} {a2 : Int32} {a3 : Int32} {b5 : Int32} {t0 : Int32} {z : ((Int32 × Int32) ⊕ (Int32 × Int32))} (h : fX11_breaksKey_j62 σ a1 a2 a3 b5 t0 = some z) (hc : ∀ x, z = .inl x → KJ (Rep D B shpR) A 6 0 0 Q p l e ({ frames := 2, cells := 0, slots := 0, locals := 43 } : Room) s m args below meth c 0 0 6 [some (.ref (B + 0)), some (.int a1), some (.int a2), some (.int a3), some (.int x.1), some (.int x.2)] [] σ) (he : ∀ w, z = .inr w → KJ (Rep D B shpR) A 6 0 0 Q p l e ({ frames := 2, cells := 0, slots := 0, locals := 43 } : Room) s m args below meth c 0 0 70 [some (.ref (B + 0)), some (.int a1), some (.int a2), some (.int a3), some (.int w.1), some (.int w.2)] [] σ) : KJ (Rep D B shpR) A 6 0 0 Q p l e ({ frames := 2, cells := 0, slots := 0, locals := 43 } : Room) s m args below meth c 0 0 62 [some (.ref (B + 0)), some (.int a1), some (.int a2), some (.int a3), none, some (.int b5)] [.int t0] σ := by
  unfold fX11_breaksKey_j62 at h
  refine k_istore hF (L' := [some (.ref (B + 0)), some (.int a1), some (.int a2), some (.int a3), some (.int t0), some (.int b5)]) dX11_breaksKey_62 (by decide) rfl ?_
  refine k_iinc hF (v := (b5 + (1 : Int32))) (L' := [some (.ref (B + 0)), some (.int a1), some (.int a2), some (.int a3), some (.int t0), some (.int (b5 + (1 : Int32)))]) dX11_breaksKey_64 rfl (by first | rfl | (congr 1)) (by decide) rfl ?_
  refine k_goto hF dX11_breaksKey_67 (tgt := 6) (by decide) ?_
  exact hc _ (Option.some.inj h).symm
set_option maxHeartbeats 4000000 in
set_option maxRecDepth 100000 in
theorem wX11_breaksKey_j57 {p : Program} {l : Launch} {e : Env} {s : State} {m : MethodId} {args : Array Value} {below : List Frame} {meth : Method} {c : Code} {Q : State → Prop} {A : Nat → Prop} {D : DD} {base B : Nat} (hF : KF D base cX11_breaksKey RX11 A 6 0 0 p l e ({ frames := 2, cells := 0, slots := 0, locals := 43 } : Room) s m args below meth c) (hA : ∀ q, RA B shpR q → A q) (hbs : base ≤ B) {σ : St} {a1 : Int32} {a2 : Int32} {a3 : Int32} {b5 : Int32} {z : ((Int32 × Int32) ⊕ (Int32 × Int32))} (h : fX11_breaksKey_j57 σ a1 a2 a3 b5 = some z) (hc : ∀ x, z = .inl x → KJ (Rep D B shpR) A 6 0 0 Q p l e ({ frames := 2, cells := 0, slots := 0, locals := 43 } : Room) s m args below meth c 0 0 6 [some (.ref (B + 0)), some (.int a1), some (.int a2), some (.int a3), some (.int x.1), some (.int x.2)] [] σ) (he : ∀ w, z = .inr w → KJ (Rep D B shpR) A 6 0 0 Q p l e ({ frames := 2, cells := 0, slots := 0, locals := 43 } : Room) s m args below meth c 0 0 70 [some (.ref (B + 0)), some (.int a1), some (.int a2), some (.int a3), some (.int w.1), some (.int w.2)] [] σ) : KJ (Rep D B shpR) A 6 0 0 Q p l e ({ frames := 2, cells := 0, slots := 0, locals := 43 } : Room) s m args below meth c 0 0 57 [some (.ref (B + 0)), some (.int a1), some (.int a2), some (.int a3), none, some (.int b5)] [] σ := by
  unfold fX11_breaksKey_j57 at h
  refine k_iconst hF dX11_breaksKey_57 ci_1 ?_
  refine k_goto hF dX11_breaksKey_58 (tgt := 62) (by decide) ?_
  exact wX11_breaksKey_j62 hF hA hbs h hc he
set_option maxHeartbeats 4000000 in
set_option maxRecDepth 100000 in
theorem wX11_breaksKey_j61 {p : Program} {l : Launch} {e : Env} {s : State} {m : MethodId} {args : Array Value} {below : List Frame} {meth : Method} {c : Code} {Q : State → Prop} {A : Nat → Prop} {D : DD} {base B : Nat} (hF : KF D base cX11_breaksKey RX11 A 6 0 0 p l e ({ frames := 2, cells := 0, slots := 0, locals := 43 } : Room) s m args below meth c) (hA : ∀ q, RA B shpR q → A q) (hbs : base ≤ B) {σ : St} {a1 : Int32} {a2 : Int32} {a3 : Int32} {b5 : Int32} {z : ((Int32 × Int32) ⊕ (Int32 × Int32))} (h : fX11_breaksKey_j61 σ a1 a2 a3 b5 = some z) (hc : ∀ x, z = .inl x → KJ (Rep D B shpR) A 6 0 0 Q p l e ({ frames := 2, cells := 0, slots := 0, locals := 43 } : Room) s m args below meth c 0 0 6 [some (.ref (B + 0)), some (.int a1), some (.int a2), some (.int a3), some (.int x.1), some (.int x.2)] [] σ) (he : ∀ w, z = .inr w → KJ (Rep D B shpR) A 6 0 0 Q p l e ({ frames := 2, cells := 0, slots := 0, locals := 43 } : Room) s m args below meth c 0 0 70 [some (.ref (B + 0)), some (.int a1), some (.int a2), some (.int a3), some (.int w.1), some (.int w.2)] [] σ) : KJ (Rep D B shpR) A 6 0 0 Q p l e ({ frames := 2, cells := 0, slots := 0, locals := 43 } : Room) s m args below meth c 0 0 61 [some (.ref (B + 0)), some (.int a1), some (.int a2), some (.int a3), none, some (.int b5)] [] σ := by
  unfold fX11_breaksKey_j61 at h
  refine k_iconst hF dX11_breaksKey_61 ci_0 ?_
  exact wX11_breaksKey_j62 hF hA hbs h hc he
set_option maxHeartbeats 4000000 in
set_option maxRecDepth 100000 in
theorem wX11_breaksKey_l6 {p : Program} {l : Launch} {e : Env} {s : State} {m : MethodId} {args : Array Value} {below : List Frame} {meth : Method} {c : Code} {Q : State → Prop} {A : Nat → Prop} {D : DD} {base B : Nat} (hF : KF D base cX11_breaksKey RX11 A 6 0 0 p l e ({ frames := 2, cells := 0, slots := 0, locals := 43 } : Room) s m args below meth c) (hA : ∀ q, RA B shpR q → A q) (hbs : base ≤ B) {σ : St} {a1 : Int32} {a2 : Int32} {a3 : Int32} {x : (Int32 × Int32)} {z : ((Int32 × Int32) ⊕ (Int32 × Int32))} (h : fX11_breaksKey_l6 σ a1 a2 a3 x = some z) (hc : ∀ x, z = .inl x → KJ (Rep D B shpR) A 6 0 0 Q p l e ({ frames := 2, cells := 0, slots := 0, locals := 43 } : Room) s m args below meth c 0 0 6 [some (.ref (B + 0)), some (.int a1), some (.int a2), some (.int a3), some (.int x.1), some (.int x.2)] [] σ) (he : ∀ w, z = .inr w → KJ (Rep D B shpR) A 6 0 0 Q p l e ({ frames := 2, cells := 0, slots := 0, locals := 43 } : Room) s m args below meth c 0 0 70 [some (.ref (B + 0)), some (.int a1), some (.int a2), some (.int a3), some (.int w.1), some (.int w.2)] [] σ) : KJ (Rep D B shpR) A 6 0 0 Q p l e ({ frames := 2, cells := 0, slots := 0, locals := 43 } : Room) s m args below meth c 0 0 6 [some (.ref (B + 0)), some (.int a1), some (.int a2), some (.int a3), some (.int x.1), some (.int x.2)] [] σ := by
  unfold fX11_breaksKey_l6 at h
  refine k_iload hF dX11_breaksKey_6 rfl ?_
  refine k_aload_n hF dX11_breaksKey_8 rfl ?_
  refine k_get hF (v := .int (gi σ 0 1)) shR_0 fl_X11_150_X11 dX11_breaksKey_9 rfl ?_
  refine k_icmp_ge hF (tgt := 70) dX11_breaksKey_12 (by decide) (fun c1 => ?_) (fun c1 => ?_)
  · replace h := ite_t c1 h
    exact he _ (Option.some.inj h).symm
  · replace h := ite_f c1 h
    refine k_iload hF dX11_breaksKey_15 rfl ?_
    refine k_if_ne hF (tgt := 57) dX11_breaksKey_17 (by decide) (fun c2 => ?_) (fun c2 => ?_)
    · replace h := ite_f c2 h
      refine k_kill 4 rfl ?_
      exact wX11_breaksKey_j57 hF hA hbs h hc he
    · replace h := ite_t c2 h
      refine k_iload hF dX11_breaksKey_20 rfl ?_
      refine k_iload_n hF dX11_breaksKey_22 rfl ?_
      refine k_icmp_eq hF (tgt := 61) dX11_breaksKey_23 (by decide) (fun c3 => ?_) (fun c3 => ?_)
      · replace h := ite_t c3 h
        refine k_kill 4 rfl ?_
        exact wX11_breaksKey_j61 hF hA hbs h hc he
      · replace h := ite_f c3 h
        refine k_aload_n hF dX11_breaksKey_26 rfl ?_
        refine k_iload hF dX11_breaksKey_27 rfl ?_
        obtain ⟨v4, hv4, h⟩ := bind_some h
        refine k_callV hF hA (as := [.int x.2]) (ct_X11_isNode hbs hv4) mv_X11_163 shR_0 rfl rfl rfl ⟨Nat.le_of_ble_eq_true rfl, Nat.le_of_ble_eq_true rfl⟩ (Nat.le_of_ble_eq_true rfl) dX11_breaksKey_29 ?_
        refine k_st (st2 := [.int v4]) rfl ?_
        refine k_if_eq hF (tgt := 61) dX11_breaksKey_32 (by decide) (fun c5 => ?_) (fun c5 => ?_)
        · replace h := ite_t c5 h
          refine k_kill 4 rfl ?_
          exact wX11_breaksKey_j61 hF hA hbs h hc he
        · replace h := ite_f c5 h
          refine k_aload_n hF dX11_breaksKey_35 rfl ?_
          refine k_get hF (v := .ref (B + 1)) shR_0 fl_X11_7_X11 dX11_breaksKey_36 rfl ?_
          refine k_iload hF dX11_breaksKey_39 rfl ?_
          obtain ⟨g6, h⟩ := gd_some h
          refine k_iald hF shR_1 dX11_breaksKey_41 g6 ?_
          refine k_iload_n hF dX11_breaksKey_42 rfl ?_
          refine k_icmp_ne hF (tgt := 61) dX11_breaksKey_43 (by decide) (fun c7 => ?_) (fun c7 => ?_)
          · replace h := ite_f c7 h
            refine k_kill 4 rfl ?_
            exact wX11_breaksKey_j61 hF hA hbs h hc he
          · replace h := ite_t c7 h
            refine k_aload_n hF dX11_breaksKey_46 rfl ?_
            refine k_get hF (v := .ref (B + 2)) shR_0 fl_X11_13_X11 dX11_breaksKey_47 rfl ?_
            refine k_iload hF dX11_breaksKey_50 rfl ?_
            obtain ⟨g8, h⟩ := gd_some h
            refine k_iald hF shR_2 dX11_breaksKey_52 g8 ?_
            refine k_iload_n hF dX11_breaksKey_53 rfl ?_
            refine k_icmp_ne hF (tgt := 61) dX11_breaksKey_54 (by decide) (fun c9 => ?_) (fun c9 => ?_)
            · replace h := ite_f c9 h
              refine k_kill 4 rfl ?_
              exact wX11_breaksKey_j61 hF hA hbs h hc he
            · replace h := ite_t c9 h
              refine k_kill 4 rfl ?_
              exact wX11_breaksKey_j57 hF hA hbs h hc he
set_option maxHeartbeats 4000000 in
set_option maxRecDepth 100000 in
theorem wX11_breaksKey_j88 {p : Program} {l : Launch} {e : Env} {s : State} {m : MethodId} {args : Array Value} {below : List Frame} {meth : Method} {c : Code} {Q : State → Prop} {A : Nat → Prop} {D : DD} {base B : Nat} (hF : KF D base cX11_breaksKey RX11 A 6 0 0 p l e ({ frames := 2, cells := 0, slots := 0, locals := 43 } : Room) s m args below meth c) (hA : ∀ q, RA B shpR q → A q) (hbs : base ≤ B) {σ : St} {a1 : Int32} {a2 : Int32} {a3 : Int32} {z : Int32} (h : fX11_breaksKey_j88 σ a1 a2 a3 = some z) (hr : ∀ (pc : Nat) (L : List (Option Value)), narrow .boolean (.int z) = .int z → decode cX11_breaksKey pc = .ok (.ireturn, 1) → KJ (Rep D B shpR) A 6 0 0 Q p l e ({ frames := 2, cells := 0, slots := 0, locals := 43 } : Room) s m args below meth c 0 0 pc L [.int z] σ) : KJ (Rep D B shpR) A 6 0 0 Q p l e ({ frames := 2, cells := 0, slots := 0, locals := 43 } : Room) s m args below meth c 0 0 88 [some (.ref (B + 0)), some (.int a1), some (.int a2), some (.int a3), none, none] [] σ := by
  unfold fX11_breaksKey_j88 at h
  refine k_iconst hF dX11_breaksKey_88 ci_0 ?_
  cases h
  exact hr _ _ nar_0 dX11_breaksKey_89
set_option maxHeartbeats 4000000 in
set_option maxRecDepth 100000 in
theorem wX11_breaksKey {p : Program} {l : Launch} {e : Env} {s : State} {m : MethodId} {args : Array Value} {below : List Frame} {meth : Method} {c : Code} {Q : State → Prop} {A : Nat → Prop} {D : DD} {base B : Nat} (hF : KF D base cX11_breaksKey RX11 A 6 0 0 p l e ({ frames := 2, cells := 0, slots := 0, locals := 43 } : Room) s m args below meth c) (hA : ∀ q, RA B shpR q → A q) (hbs : base ≤ B) {σ : St} {a1 : Int32} {a2 : Int32} {a3 : Int32} {z : Int32} (h : fX11_breaksKey σ a1 a2 a3 = some z) (hr : ∀ (pc : Nat) (L : List (Option Value)), narrow .boolean (.int z) = .int z → decode cX11_breaksKey pc = .ok (.ireturn, 1) → KJ (Rep D B shpR) A 6 0 0 Q p l e ({ frames := 2, cells := 0, slots := 0, locals := 43 } : Room) s m args below meth c 0 0 pc L [.int z] σ) : KJ (Rep D B shpR) A 6 0 0 Q p l e ({ frames := 2, cells := 0, slots := 0, locals := 43 } : Room) s m args below meth c 0 0 0 [some (.ref (B + 0)), some (.int a1), some (.int a2), some (.int a3), none, none] [] σ := by
  unfold fX11_breaksKey at h
  refine k_iconst hF dX11_breaksKey_0 ci_0 ?_
  refine k_istore hF (L' := [some (.ref (B + 0)), some (.int a1), some (.int a2), some (.int a3), some (.int (0 : Int32)), none]) dX11_breaksKey_1 (by decide) rfl ?_
  refine k_iconst hF dX11_breaksKey_3 ci_0 ?_
  refine k_istore hF (L' := [some (.ref (B + 0)), some (.int a1), some (.int a2), some (.int a3), some (.int (0 : Int32)), some (.int (0 : Int32))]) dX11_breaksKey_4 (by decide) rfl ?_
  obtain ⟨x10, hx10, h⟩ := bind_some h
  refine k_loop (P := fun xq => KJ (Rep D B shpR) A 6 0 0 Q p l e ({ frames := 2, cells := 0, slots := 0, locals := 43 } : Room) s m args below meth c 0 0 6 [some (.ref (B + 0)), some (.int a1), some (.int a2), some (.int a3), some (.int xq.1), some (.int xq.2)] [] σ) (C := fun xq => KJ (Rep D B shpR) A 6 0 0 Q p l e ({ frames := 2, cells := 0, slots := 0, locals := 43 } : Room) s m args below meth c 0 0 70 [some (.ref (B + 0)), some (.int a1), some (.int a2), some (.int a3), some (.int xq.1), some (.int xq.2)] [] σ) (fun x z hz hc he => wX11_breaksKey_l6 hF hA hbs hz hc he) hx10 ?_
  show KJ (Rep D B shpR) A 6 0 0 Q p l e ({ frames := 2, cells := 0, slots := 0, locals := 43 } : Room) s m args below meth c 0 0 70 [some (.ref (B + 0)), some (.int a1), some (.int a2), some (.int a3), some (.int x10.1), some (.int x10.2)] [] σ
  refine k_aload_n hF dX11_breaksKey_70 rfl ?_
  refine k_get hF (v := .ref (B + 18)) shR_0 fl_X11_63_X11 dX11_breaksKey_71 rfl ?_
  refine k_iload_n hF dX11_breaksKey_74 rfl ?_
  obtain ⟨g11, h⟩ := gd_some h
  refine k_zald hF shR_18 dX11_breaksKey_75 g11 ?_
  refine k_if_eq hF (tgt := 88) dX11_breaksKey_76 (by decide) (fun c12 => ?_) (fun c12 => ?_)
  · replace h := ite_t c12 h
    refine k_kill 4 rfl ?_
    refine k_kill 5 rfl ?_
    exact wX11_breaksKey_j88 hF hA hbs h hr
  · replace h := ite_f c12 h
    refine k_iload hF dX11_breaksKey_79 rfl ?_
    refine k_if_eq hF (tgt := 88) dX11_breaksKey_81 (by decide) (fun c13 => ?_) (fun c13 => ?_)
    · replace h := ite_t c13 h
      refine k_kill 4 rfl ?_
      refine k_kill 5 rfl ?_
      exact wX11_breaksKey_j88 hF hA hbs h hr
    · replace h := ite_f c13 h
      refine k_iconst hF dX11_breaksKey_84 ci_1 ?_
      refine k_goto hF dX11_breaksKey_85 (tgt := 89) (by decide) ?_
      cases h
      exact hr _ _ nar_1 dX11_breaksKey_89
theorem ct_X11_breaksKey {l : Launch} {D : DD} {base B : Nat} (hbs : base ≤ B) {σ : St} {a1 : Int32} {a2 : Int32} {a3 : Int32} {r : Int32} (h : fX11_breaksKey σ a1 a2 a3 = some r) : MetR l D B shpR base yX11_breaksKey cX11_breaksKey 6 (some .boolean) 2 43 [.ref (B + 0), .int a1, .int a2, .int a3] σ (some (.int r)) σ :=
  MetR.of (by decide +kernel) (fun v hv => by simp only [List.mem_cons, List.not_mem_nil, or_false] at hv; rcases hv with rfl | rfl | rfl | rfl <;> rfl) (Nat.le_of_ble_eq_true rfl) hbs (fun p e s m args below meth c hF hr => wX11_breaksKey hF (fun q hq => hq) hbs h (fun pc L hn hd => k_iret hF hr hn hd))
set_option maxHeartbeats 4000000 in
set_option maxRecDepth 100000 in
theorem wX11_nodesOn_j36 {p : Program} {l : Launch} {e : Env} {s : State} {m : MethodId} {args : Array Value} {below : List Frame} {meth : Method} {c : Code} {Q : State → Prop} {A : Nat → Prop} {D : DD} {base B : Nat} (hF : KF D base cX11_nodesOn RX11 A 4 0 0 p l e ({ frames := 2, cells := 0, slots := 0, locals := 43 } : Room) s m args below meth c) (hA : ∀ q, RA B shpR q → A q) (hbs : base ≤ B) {σ : St} {a1 : Int32} {b3 : Int32} {t0 : Int32} {t1 : Int32} {z : ((Int32 × Int32) ⊕ (Int32 × Int32))} (h : fX11_nodesOn_j36 σ a1 b3 t0 t1 = some z) (hc : ∀ x, z = .inl x → KJ (Rep D B shpR) A 4 0 0 Q p l e ({ frames := 2, cells := 0, slots := 0, locals := 43 } : Room) s m args below meth c 0 0 4 [some (.ref (B + 0)), some (.int a1), some (.int x.1), some (.int x.2)] [] σ) (he : ∀ w, z = .inr w → KJ (Rep D B shpR) A 4 0 0 Q p l e ({ frames := 2, cells := 0, slots := 0, locals := 43 } : Room) s m args below meth c 0 0 44 [some (.ref (B + 0)), some (.int a1), some (.int w.1), some (.int w.2)] [] σ) : KJ (Rep D B shpR) A 4 0 0 Q p l e ({ frames := 2, cells := 0, slots := 0, locals := 43 } : Room) s m args below meth c 0 0 36 [some (.ref (B + 0)), some (.int a1), none, some (.int b3)] [.int t0, .int t1] σ := by
  unfold fX11_nodesOn_j36 at h
  refine k_iadd hF dX11_nodesOn_36 ?_
  refine k_istore_n hF (L' := [some (.ref (B + 0)), some (.int a1), some (.int (t1 + t0)), some (.int b3)]) dX11_nodesOn_37 (by decide) rfl ?_
  refine k_iinc hF (v := (b3 + (1 : Int32))) (L' := [some (.ref (B + 0)), some (.int a1), some (.int (t1 + t0)), some (.int (b3 + (1 : Int32)))]) dX11_nodesOn_38 rfl (by first | rfl | (congr 1)) (by decide) rfl ?_
  refine k_goto hF dX11_nodesOn_41 (tgt := 4) (by decide) ?_
  exact hc _ (Option.some.inj h).symm
set_option maxHeartbeats 4000000 in
set_option maxRecDepth 100000 in
theorem wX11_nodesOn_j35 {p : Program} {l : Launch} {e : Env} {s : State} {m : MethodId} {args : Array Value} {below : List Frame} {meth : Method} {c : Code} {Q : State → Prop} {A : Nat → Prop} {D : DD} {base B : Nat} (hF : KF D base cX11_nodesOn RX11 A 4 0 0 p l e ({ frames := 2, cells := 0, slots := 0, locals := 43 } : Room) s m args below meth c) (hA : ∀ q, RA B shpR q → A q) (hbs : base ≤ B) {σ : St} {a1 : Int32} {b3 : Int32} {t0 : Int32} {z : ((Int32 × Int32) ⊕ (Int32 × Int32))} (h : fX11_nodesOn_j35 σ a1 b3 t0 = some z) (hc : ∀ x, z = .inl x → KJ (Rep D B shpR) A 4 0 0 Q p l e ({ frames := 2, cells := 0, slots := 0, locals := 43 } : Room) s m args below meth c 0 0 4 [some (.ref (B + 0)), some (.int a1), some (.int x.1), some (.int x.2)] [] σ) (he : ∀ w, z = .inr w → KJ (Rep D B shpR) A 4 0 0 Q p l e ({ frames := 2, cells := 0, slots := 0, locals := 43 } : Room) s m args below meth c 0 0 44 [some (.ref (B + 0)), some (.int a1), some (.int w.1), some (.int w.2)] [] σ) : KJ (Rep D B shpR) A 4 0 0 Q p l e ({ frames := 2, cells := 0, slots := 0, locals := 43 } : Room) s m args below meth c 0 0 35 [some (.ref (B + 0)), some (.int a1), none, some (.int b3)] [.int t0] σ := by
  unfold fX11_nodesOn_j35 at h
  refine k_iconst hF dX11_nodesOn_35 ci_0 ?_
  exact wX11_nodesOn_j36 hF hA hbs h hc he
set_option maxHeartbeats 4000000 in
set_option maxRecDepth 100000 in
theorem wX11_nodesOn_l4 {p : Program} {l : Launch} {e : Env} {s : State} {m : MethodId} {args : Array Value} {below : List Frame} {meth : Method} {c : Code} {Q : State → Prop} {A : Nat → Prop} {D : DD} {base B : Nat} (hF : KF D base cX11_nodesOn RX11 A 4 0 0 p l e ({ frames := 2, cells := 0, slots := 0, locals := 43 } : Room) s m args below meth c) (hA : ∀ q, RA B shpR q → A q) (hbs : base ≤ B) {σ : St} {a1 : Int32} {x : (Int32 × Int32)} {z : ((Int32 × Int32) ⊕ (Int32 × Int32))} (h : fX11_nodesOn_l4 σ a1 x = some z) (hc : ∀ x, z = .inl x → KJ (Rep D B shpR) A 4 0 0 Q p l e ({ frames := 2, cells := 0, slots := 0, locals := 43 } : Room) s m args below meth c 0 0 4 [some (.ref (B + 0)), some (.int a1), some (.int x.1), some (.int x.2)] [] σ) (he : ∀ w, z = .inr w → KJ (Rep D B shpR) A 4 0 0 Q p l e ({ frames := 2, cells := 0, slots := 0, locals := 43 } : Room) s m args below meth c 0 0 44 [some (.ref (B + 0)), some (.int a1), some (.int w.1), some (.int w.2)] [] σ) : KJ (Rep D B shpR) A 4 0 0 Q p l e ({ frames := 2, cells := 0, slots := 0, locals := 43 } : Room) s m args below meth c 0 0 4 [some (.ref (B + 0)), some (.int a1), some (.int x.1), some (.int x.2)] [] σ := by
  unfold fX11_nodesOn_l4 at h
  refine k_iload_n hF dX11_nodesOn_4 rfl ?_
  refine k_aload_n hF dX11_nodesOn_5 rfl ?_
  refine k_get hF (v := .int (gi σ 0 1)) shR_0 fl_X11_150_X11 dX11_nodesOn_6 rfl ?_
  refine k_icmp_ge hF (tgt := 44) dX11_nodesOn_9 (by decide) (fun c1 => ?_) (fun c1 => ?_)
  · replace h := ite_t c1 h
    exact he _ (Option.some.inj h).symm
  · replace h := ite_f c1 h
    refine k_iload_n hF dX11_nodesOn_12 rfl ?_
    refine k_aload_n hF dX11_nodesOn_13 rfl ?_
    refine k_iload_n hF dX11_nodesOn_14 rfl ?_
    obtain ⟨v2, hv2, h⟩ := bind_some h
    refine k_callV hF hA (as := [.int x.2]) (ct_X11_isNode hbs hv2) mv_X11_163 shR_0 rfl rfl rfl ⟨Nat.le_of_ble_eq_true rfl, Nat.le_of_ble_eq_true rfl⟩ (Nat.le_of_ble_eq_true rfl) dX11_nodesOn_15 ?_
    refine k_st (st2 := [.int v2, .int x.1]) rfl ?_
    refine k_if_eq hF (tgt := 35) dX11_nodesOn_18 (by decide) (fun c3 => ?_) (fun c3 => ?_)
    · replace h := ite_t c3 h
      refine k_kill 2 rfl ?_
      exact wX11_nodesOn_j35 hF hA hbs h hc he
    · replace h := ite_f c3 h
      refine k_aload_n hF dX11_nodesOn_21 rfl ?_
      refine k_get hF (v := .ref (B + 3)) shR_0 fl_X11_16_X11 dX11_nodesOn_22 rfl ?_
      refine k_iload_n hF dX11_nodesOn_25 rfl ?_
      obtain ⟨g4, h⟩ := gd_some h
      refine k_iald hF shR_3 dX11_nodesOn_26 g4 ?_
      refine k_iload_n hF dX11_nodesOn_27 rfl ?_
      refine k_icmp_ne hF (tgt := 35) dX11_nodesOn_28 (by decide) (fun c5 => ?_) (fun c5 => ?_)
      · replace h := ite_f c5 h
        refine k_kill 2 rfl ?_
        exact wX11_nodesOn_j35 hF hA hbs h hc he
      · replace h := ite_t c5 h
        refine k_iconst hF dX11_nodesOn_31 ci_1 ?_
        refine k_goto hF dX11_nodesOn_32 (tgt := 36) (by decide) ?_
        refine k_kill 2 rfl ?_
        exact wX11_nodesOn_j36 hF hA hbs h hc he
set_option maxHeartbeats 4000000 in
set_option maxRecDepth 100000 in
theorem wX11_nodesOn {p : Program} {l : Launch} {e : Env} {s : State} {m : MethodId} {args : Array Value} {below : List Frame} {meth : Method} {c : Code} {Q : State → Prop} {A : Nat → Prop} {D : DD} {base B : Nat} (hF : KF D base cX11_nodesOn RX11 A 4 0 0 p l e ({ frames := 2, cells := 0, slots := 0, locals := 43 } : Room) s m args below meth c) (hA : ∀ q, RA B shpR q → A q) (hbs : base ≤ B) {σ : St} {a1 : Int32} {z : Int32} (h : fX11_nodesOn σ a1 = some z) (hr : ∀ (pc : Nat) (L : List (Option Value)), narrow .int (.int z) = .int z → decode cX11_nodesOn pc = .ok (.ireturn, 1) → KJ (Rep D B shpR) A 4 0 0 Q p l e ({ frames := 2, cells := 0, slots := 0, locals := 43 } : Room) s m args below meth c 0 0 pc L [.int z] σ) : KJ (Rep D B shpR) A 4 0 0 Q p l e ({ frames := 2, cells := 0, slots := 0, locals := 43 } : Room) s m args below meth c 0 0 0 [some (.ref (B + 0)), some (.int a1), none, none] [] σ := by
  unfold fX11_nodesOn at h
  refine k_iconst hF dX11_nodesOn_0 ci_0 ?_
  refine k_istore_n hF (L' := [some (.ref (B + 0)), some (.int a1), some (.int (0 : Int32)), none]) dX11_nodesOn_1 (by decide) rfl ?_
  refine k_iconst hF dX11_nodesOn_2 ci_0 ?_
  refine k_istore_n hF (L' := [some (.ref (B + 0)), some (.int a1), some (.int (0 : Int32)), some (.int (0 : Int32))]) dX11_nodesOn_3 (by decide) rfl ?_
  obtain ⟨x6, hx6, h⟩ := bind_some h
  refine k_loop (P := fun xq => KJ (Rep D B shpR) A 4 0 0 Q p l e ({ frames := 2, cells := 0, slots := 0, locals := 43 } : Room) s m args below meth c 0 0 4 [some (.ref (B + 0)), some (.int a1), some (.int xq.1), some (.int xq.2)] [] σ) (C := fun xq => KJ (Rep D B shpR) A 4 0 0 Q p l e ({ frames := 2, cells := 0, slots := 0, locals := 43 } : Room) s m args below meth c 0 0 44 [some (.ref (B + 0)), some (.int a1), some (.int xq.1), some (.int xq.2)] [] σ) (fun x z hz hc he => wX11_nodesOn_l4 hF hA hbs hz hc he) hx6 ?_
  show KJ (Rep D B shpR) A 4 0 0 Q p l e ({ frames := 2, cells := 0, slots := 0, locals := 43 } : Room) s m args below meth c 0 0 44 [some (.ref (B + 0)), some (.int a1), some (.int x6.1), some (.int x6.2)] [] σ
  refine k_iload_n hF dX11_nodesOn_44 rfl ?_
  cases h
  exact hr _ _ rfl dX11_nodesOn_45
theorem ct_X11_nodesOn {l : Launch} {D : DD} {base B : Nat} (hbs : base ≤ B) {σ : St} {a1 : Int32} {r : Int32} (h : fX11_nodesOn σ a1 = some r) : MetR l D B shpR base yX11_nodesOn cX11_nodesOn 4 (some .int) 2 43 [.ref (B + 0), .int a1] σ (some (.int r)) σ :=
  MetR.of (by decide +kernel) (fun v hv => by simp only [List.mem_cons, List.not_mem_nil, or_false] at hv; rcases hv with rfl | rfl <;> rfl) (Nat.le_of_ble_eq_true rfl) hbs (fun p e s m args below meth c hF hr => wX11_nodesOn hF (fun q hq => hq) hbs h (fun pc L hn hd => k_iret hF hr hn hd))
set_option maxHeartbeats 4000000 in
set_option maxRecDepth 100000 in
theorem wX11_emptiest_j41 {p : Program} {l : Launch} {e : Env} {s : State} {m : MethodId} {args : Array Value} {below : List Frame} {meth : Method} {c : Code} {Q : State → Prop} {A : Nat → Prop} {D : DD} {base B : Nat} (hF : KF D base cX11_emptiest RX11 A 3 0 0 p l e ({ frames := 3, cells := 0, slots := 0, locals := 66 } : Room) s m args below meth c) (hA : ∀ q, RA B shpR q → A q) (hbs : base ≤ B) {σ : St} {b2 : Int32} {t0 : Int32} {z : ((Int32 × Int32) ⊕ (Int32 × Int32))} (h : fX11_emptiest_j41 σ b2 t0 = some z) (hc : ∀ x, z = .inl x → KJ (Rep D B shpR) A 3 0 0 Q p l e ({ frames := 3, cells := 0, slots := 0, locals := 66 } : Room) s m args below meth c 0 0 4 [some (.ref (B + 0)), some (.int x.1), some (.int x.2)] [] σ) (he : ∀ w, z = .inr w → KJ (Rep D B shpR) A 3 0 0 Q p l e ({ frames := 3, cells := 0, slots := 0, locals := 66 } : Room) s m args below meth c 0 0 48 [some (.ref (B + 0)), some (.int w.1), some (.int w.2)] [] σ) : KJ (Rep D B shpR) A 3 0 0 Q p l e ({ frames := 3, cells := 0, slots := 0, locals := 66 } : Room) s m args below meth c 0 0 41 [some (.ref (B + 0)), none, some (.int b2)] [.int t0] σ := by
  unfold fX11_emptiest_j41 at h
  refine k_istore_n hF (L' := [some (.ref (B + 0)), some (.int t0), some (.int b2)]) dX11_emptiest_41 (by decide) rfl ?_
  refine k_iinc hF (v := (b2 + (1 : Int32))) (L' := [some (.ref (B + 0)), some (.int t0), some (.int (b2 + (1 : Int32)))]) dX11_emptiest_42 rfl (by first | rfl | (congr 1)) (by decide) rfl ?_
  refine k_goto hF dX11_emptiest_45 (tgt := 4) (by decide) ?_
  exact hc _ (Option.some.inj h).symm
set_option maxHeartbeats 4000000 in
set_option maxRecDepth 100000 in
theorem wX11_emptiest_j40 {p : Program} {l : Launch} {e : Env} {s : State} {m : MethodId} {args : Array Value} {below : List Frame} {meth : Method} {c : Code} {Q : State → Prop} {A : Nat → Prop} {D : DD} {base B : Nat} (hF : KF D base cX11_emptiest RX11 A 3 0 0 p l e ({ frames := 3, cells := 0, slots := 0, locals := 66 } : Room) s m args below meth c) (hA : ∀ q, RA B shpR q → A q) (hbs : base ≤ B) {σ : St} {b1 : Int32} {b2 : Int32} {z : ((Int32 × Int32) ⊕ (Int32 × Int32))} (h : fX11_emptiest_j40 σ b1 b2 = some z) (hc : ∀ x, z = .inl x → KJ (Rep D B shpR) A 3 0 0 Q p l e ({ frames := 3, cells := 0, slots := 0, locals := 66 } : Room) s m args below meth c 0 0 4 [some (.ref (B + 0)), some (.int x.1), some (.int x.2)] [] σ) (he : ∀ w, z = .inr w → KJ (Rep D B shpR) A 3 0 0 Q p l e ({ frames := 3, cells := 0, slots := 0, locals := 66 } : Room) s m args below meth c 0 0 48 [some (.ref (B + 0)), some (.int w.1), some (.int w.2)] [] σ) : KJ (Rep D B shpR) A 3 0 0 Q p l e ({ frames := 3, cells := 0, slots := 0, locals := 66 } : Room) s m args below meth c 0 0 40 [some (.ref (B + 0)), some (.int b1), some (.int b2)] [] σ := by
  unfold fX11_emptiest_j40 at h
  refine k_iload_n hF dX11_emptiest_40 rfl ?_
  refine k_kill 1 rfl ?_
  exact wX11_emptiest_j41 hF hA hbs h hc he
set_option maxHeartbeats 4000000 in
set_option maxRecDepth 100000 in
theorem wX11_emptiest_j36 {p : Program} {l : Launch} {e : Env} {s : State} {m : MethodId} {args : Array Value} {below : List Frame} {meth : Method} {c : Code} {Q : State → Prop} {A : Nat → Prop} {D : DD} {base B : Nat} (hF : KF D base cX11_emptiest RX11 A 3 0 0 p l e ({ frames := 3, cells := 0, slots := 0, locals := 66 } : Room) s m args below meth c) (hA : ∀ q, RA B shpR q → A q) (hbs : base ≤ B) {σ : St} {b2 : Int32} {z : ((Int32 × Int32) ⊕ (Int32 × Int32))} (h : fX11_emptiest_j36 σ b2 = some z) (hc : ∀ x, z = .inl x → KJ (Rep D B shpR) A 3 0 0 Q p l e ({ frames := 3, cells := 0, slots := 0, locals := 66 } : Room) s m args below meth c 0 0 4 [some (.ref (B + 0)), some (.int x.1), some (.int x.2)] [] σ) (he : ∀ w, z = .inr w → KJ (Rep D B shpR) A 3 0 0 Q p l e ({ frames := 3, cells := 0, slots := 0, locals := 66 } : Room) s m args below meth c 0 0 48 [some (.ref (B + 0)), some (.int w.1), some (.int w.2)] [] σ) : KJ (Rep D B shpR) A 3 0 0 Q p l e ({ frames := 3, cells := 0, slots := 0, locals := 66 } : Room) s m args below meth c 0 0 36 [some (.ref (B + 0)), none, some (.int b2)] [] σ := by
  unfold fX11_emptiest_j36 at h
  refine k_iload_n hF dX11_emptiest_36 rfl ?_
  refine k_goto hF dX11_emptiest_37 (tgt := 41) (by decide) ?_
  exact wX11_emptiest_j41 hF hA hbs h hc he
set_option maxHeartbeats 4000000 in
set_option maxRecDepth 100000 in
theorem wX11_emptiest_l4 {p : Program} {l : Launch} {e : Env} {s : State} {m : MethodId} {args : Array Value} {below : List Frame} {meth : Method} {c : Code} {Q : State → Prop} {A : Nat → Prop} {D : DD} {base B : Nat} (hF : KF D base cX11_emptiest RX11 A 3 0 0 p l e ({ frames := 3, cells := 0, slots := 0, locals := 66 } : Room) s m args below meth c) (hA : ∀ q, RA B shpR q → A q) (hbs : base ≤ B) {σ : St} {x : (Int32 × Int32)} {z : ((Int32 × Int32) ⊕ (Int32 × Int32))} (h : fX11_emptiest_l4 σ x = some z) (hc : ∀ x, z = .inl x → KJ (Rep D B shpR) A 3 0 0 Q p l e ({ frames := 3, cells := 0, slots := 0, locals := 66 } : Room) s m args below meth c 0 0 4 [some (.ref (B + 0)), some (.int x.1), some (.int x.2)] [] σ) (he : ∀ w, z = .inr w → KJ (Rep D B shpR) A 3 0 0 Q p l e ({ frames := 3, cells := 0, slots := 0, locals := 66 } : Room) s m args below meth c 0 0 48 [some (.ref (B + 0)), some (.int w.1), some (.int w.2)] [] σ) : KJ (Rep D B shpR) A 3 0 0 Q p l e ({ frames := 3, cells := 0, slots := 0, locals := 66 } : Room) s m args below meth c 0 0 4 [some (.ref (B + 0)), some (.int x.1), some (.int x.2)] [] σ := by
  unfold fX11_emptiest_l4 at h
  refine k_iload_n hF dX11_emptiest_4 rfl ?_
  refine k_iconst hF dX11_emptiest_5 ci_3 ?_
  refine k_icmp_ge hF (tgt := 48) dX11_emptiest_6 (by decide) (fun c1 => ?_) (fun c1 => ?_)
  · replace h := ite_t c1 h
    exact he _ (Option.some.inj h).symm
  · replace h := ite_f c1 h
    refine k_aload_n hF dX11_emptiest_9 rfl ?_
    refine k_get hF (v := .ref (B + 21)) shR_0 fl_X11_72_X11 dX11_emptiest_10 rfl ?_
    refine k_iload_n hF dX11_emptiest_13 rfl ?_
    obtain ⟨g2, h⟩ := gd_some h
    refine k_zald hF shR_21 dX11_emptiest_14 g2 ?_
    refine k_if_ne hF (tgt := 40) dX11_emptiest_15 (by decide) (fun c3 => ?_) (fun c3 => ?_)
    · replace h := ite_f c3 h
      exact wX11_emptiest_j40 hF hA hbs h hc he
    · replace h := ite_t c3 h
      refine k_iload_n hF dX11_emptiest_18 rfl ?_
      refine k_iconst hF dX11_emptiest_19 ci_m1 ?_
      refine k_icmp_eq hF (tgt := 36) dX11_emptiest_20 (by decide) (fun c4 => ?_) (fun c4 => ?_)
      · replace h := ite_t c4 h
        refine k_kill 1 rfl ?_
        exact wX11_emptiest_j36 hF hA hbs h hc he
      · replace h := ite_f c4 h
        refine k_aload_n hF dX11_emptiest_23 rfl ?_
        refine k_iload_n hF dX11_emptiest_24 rfl ?_
        obtain ⟨v5, hv5, h⟩ := bind_some h
        refine k_callV hF hA (as := [.int x.2]) (ct_X11_nodesOn hbs hv5) mv_X11_167 shR_0 rfl rfl rfl ⟨Nat.le_of_ble_eq_true rfl, Nat.le_of_ble_eq_true rfl⟩ (Nat.le_of_ble_eq_true rfl) dX11_emptiest_25 ?_
        refine k_st (st2 := [.int v5]) rfl ?_
        refine k_aload_n hF dX11_emptiest_28 rfl ?_
        refine k_iload_n hF dX11_emptiest_29 rfl ?_
        obtain ⟨v6, hv6, h⟩ := bind_some h
        refine k_callV hF hA (as := [.int x.1]) (ct_X11_nodesOn hbs hv6) mv_X11_167 shR_0 rfl rfl rfl ⟨Nat.le_of_ble_eq_true rfl, Nat.le_of_ble_eq_true rfl⟩ (Nat.le_of_ble_eq_true rfl) dX11_emptiest_30 ?_
        refine k_st (st2 := [.int v6, .int v5]) rfl ?_
        refine k_icmp_ge hF (tgt := 40) dX11_emptiest_33 (by decide) (fun c7 => ?_) (fun c7 => ?_)
        · replace h := ite_t c7 h
          exact wX11_emptiest_j40 hF hA hbs h hc he
        · replace h := ite_f c7 h
          refine k_kill 1 rfl ?_
          exact wX11_emptiest_j36 hF hA hbs h hc he
set_option maxHeartbeats 4000000 in
set_option maxRecDepth 100000 in
theorem wX11_emptiest {p : Program} {l : Launch} {e : Env} {s : State} {m : MethodId} {args : Array Value} {below : List Frame} {meth : Method} {c : Code} {Q : State → Prop} {A : Nat → Prop} {D : DD} {base B : Nat} (hF : KF D base cX11_emptiest RX11 A 3 0 0 p l e ({ frames := 3, cells := 0, slots := 0, locals := 66 } : Room) s m args below meth c) (hA : ∀ q, RA B shpR q → A q) (hbs : base ≤ B) {σ : St} {z : Int32} (h : fX11_emptiest σ = some z) (hr : ∀ (pc : Nat) (L : List (Option Value)), narrow .int (.int z) = .int z → decode cX11_emptiest pc = .ok (.ireturn, 1) → KJ (Rep D B shpR) A 3 0 0 Q p l e ({ frames := 3, cells := 0, slots := 0, locals := 66 } : Room) s m args below meth c 0 0 pc L [.int z] σ) : KJ (Rep D B shpR) A 3 0 0 Q p l e ({ frames := 3, cells := 0, slots := 0, locals := 66 } : Room) s m args below meth c 0 0 0 [some (.ref (B + 0)), none, none] [] σ := by
  unfold fX11_emptiest at h
  refine k_iconst hF dX11_emptiest_0 ci_m1 ?_
  refine k_istore_n hF (L' := [some (.ref (B + 0)), some (.int (-1 : Int32)), none]) dX11_emptiest_1 (by decide) rfl ?_
  refine k_iconst hF dX11_emptiest_2 ci_0 ?_
  refine k_istore_n hF (L' := [some (.ref (B + 0)), some (.int (-1 : Int32)), some (.int (0 : Int32))]) dX11_emptiest_3 (by decide) rfl ?_
  obtain ⟨x8, hx8, h⟩ := bind_some h
  refine k_loop (P := fun xq => KJ (Rep D B shpR) A 3 0 0 Q p l e ({ frames := 3, cells := 0, slots := 0, locals := 66 } : Room) s m args below meth c 0 0 4 [some (.ref (B + 0)), some (.int xq.1), some (.int xq.2)] [] σ) (C := fun xq => KJ (Rep D B shpR) A 3 0 0 Q p l e ({ frames := 3, cells := 0, slots := 0, locals := 66 } : Room) s m args below meth c 0 0 48 [some (.ref (B + 0)), some (.int xq.1), some (.int xq.2)] [] σ) (fun x z hz hc he => wX11_emptiest_l4 hF hA hbs hz hc he) hx8 ?_
  show KJ (Rep D B shpR) A 3 0 0 Q p l e ({ frames := 3, cells := 0, slots := 0, locals := 66 } : Room) s m args below meth c 0 0 48 [some (.ref (B + 0)), some (.int x8.1), some (.int x8.2)] [] σ
  refine k_iload_n hF dX11_emptiest_48 rfl ?_
  cases h
  exact hr _ _ rfl dX11_emptiest_49
theorem ct_X11_emptiest {l : Launch} {D : DD} {base B : Nat} (hbs : base ≤ B) {σ : St} {r : Int32} (h : fX11_emptiest σ = some r) : MetR l D B shpR base yX11_emptiest cX11_emptiest 3 (some .int) 3 66 [.ref (B + 0)] σ (some (.int r)) σ :=
  MetR.of (by decide +kernel) (fun v hv => by simp only [List.mem_cons, List.not_mem_nil, or_false] at hv; rcases hv with rfl <;> rfl) (Nat.le_of_ble_eq_true rfl) hbs (fun p e s m args below meth c hF hr => wX11_emptiest hF (fun q hq => hq) hbs h (fun pc L hn hd => k_iret hF hr hn hd))
set_option maxHeartbeats 4000000 in
set_option maxRecDepth 100000 in
theorem wX11_node_j61 {p : Program} {l : Launch} {e : Env} {s : State} {m : MethodId} {args : Array Value} {below : List Frame} {meth : Method} {c : Code} {Q : State → Prop} {A : Nat → Prop} {D : DD} {base B : Nat} (hF : KF D base cX11_node RX11 A 6 0 0 p l e ({ frames := 4, cells := 0, slots := 0, locals := 88 } : Room) s m args below meth c) (hA : ∀ q, RA B shpR q → A q) (hbs : base ≤ B) {σ : St} {a1 : Int32} {a2 : Int32} {t0 : Int32} {z : (Int32 × St)} (h : fX11_node_j61 σ a1 a2 t0 = some z) (hr : ∀ (pc : Nat) (L : List (Option Value)), narrow .int (.int z.1) = .int z.1 → decode cX11_node pc = .ok (.ireturn, 1) → KJ (Rep D B shpR) A 6 0 0 Q p l e ({ frames := 4, cells := 0, slots := 0, locals := 88 } : Room) s m args below meth c 0 0 pc L [.int z.1] z.2) : KJ (Rep D B shpR) A 6 0 0 Q p l e ({ frames := 4, cells := 0, slots := 0, locals := 88 } : Room) s m args below meth c 0 0 61 [some (.ref (B + 0)), some (.int a1), some (.int a2), none, none, none] [.int t0, .ref (B + 0)] σ := by
  unfold fX11_node_j61 at h
  obtain ⟨v6, hv6, h⟩ := bind_some h
  refine k_callV hF hA (as := [.int t0]) (ct_X11_fails hbs hv6) mv_X11_181 shR_0 rfl rfl rfl ⟨Nat.le_of_ble_eq_true rfl, Nat.le_of_ble_eq_true rfl⟩ (Nat.le_of_ble_eq_true rfl) dX11_node_61 ?_
  refine k_st (st2 := [.int v6.1]) rfl ?_
  refine k_if_eq hF (tgt := 69) dX11_node_64 (by decide) (fun c7 => ?_) (fun c7 => ?_)
  · replace h := ite_t c7 h
    refine k_aload_n hF dX11_node_69 rfl ?_
    refine k_get hF (v := .int (gi v6.2 0 1)) shR_0 fl_X11_150_X11 dX11_node_70 rfl ?_
    refine k_istore hF (L' := [some (.ref (B + 0)), some (.int a1), some (.int a2), none, some (.int (gi v6.2 0 1)), none]) dX11_node_73 (by decide) rfl ?_
    refine k_aload_n hF dX11_node_75 rfl ?_
    obtain ⟨v8, hv8, h⟩ := bind_some h
    refine k_callV hF hA (as := []) (ct_X11_emptiest hbs hv8) mv_X11_174 shR_0 rfl rfl rfl ⟨Nat.le_of_ble_eq_true rfl, Nat.le_of_ble_eq_true rfl⟩ (Nat.le_of_ble_eq_true rfl) dX11_node_76 ?_
    refine k_st (st2 := [.int v8]) rfl ?_
    refine k_istore hF (L' := [some (.ref (B + 0)), some (.int a1), some (.int a2), none, some (.int (gi v6.2 0 1)), some (.int v8)]) dX11_node_79 (by decide) rfl ?_
    refine k_aload_n hF dX11_node_81 rfl ?_
    refine k_dup hF dX11_node_82 rfl ?_
    refine k_get hF (v := .int (gi v6.2 0 0)) shR_0 fl_X11_160_X11 dX11_node_83 rfl ?_
    refine k_iconst hF dX11_node_86 ci_1 ?_
    refine k_iadd hF dX11_node_87 ?_
    refine k_putI hF hA shR_0 fp_X11_160_X11 dX11_node_88 rfl rfl rfl ?_
    obtain ⟨σ9, hσ9, h⟩ := lt_some h
    refine k_sig hσ9 ?_
    refine k_aload_n hF dX11_node_91 rfl ?_
    refine k_get hF (v := .ref (B + 1)) shR_0 fl_X11_7_X11 dX11_node_92 rfl ?_
    refine k_iload hF dX11_node_95 rfl ?_
    refine k_iload_n hF dX11_node_97 rfl ?_
    obtain ⟨g10, h⟩ := gd_some h
    refine k_iast hF hA shR_1 dX11_node_98 g10 ?_
    obtain ⟨σ11, hσ11, h⟩ := lt_some h
    refine k_sig hσ11 ?_
    refine k_aload_n hF dX11_node_99 rfl ?_
    refine k_get hF (v := .ref (B + 3)) shR_0 fl_X11_16_X11 dX11_node_100 rfl ?_
    refine k_iload hF dX11_node_103 rfl ?_
    refine k_iload hF dX11_node_105 rfl ?_
    obtain ⟨g12, h⟩ := gd_some h
    refine k_iast hF hA shR_3 dX11_node_107 g12 ?_
    obtain ⟨σ13, hσ13, h⟩ := lt_some h
    refine k_sig hσ13 ?_
    refine k_aload_n hF dX11_node_108 rfl ?_
    refine k_get hF (v := .ref (B + 4)) shR_0 fl_X11_19_X11 dX11_node_109 rfl ?_
    refine k_iload hF dX11_node_112 rfl ?_
    refine k_aload_n hF dX11_node_114 rfl ?_
    refine k_get hF (v := .int (gi σ13 0 0)) shR_0 fl_X11_160_X11 dX11_node_115 rfl ?_
    obtain ⟨g14, h⟩ := gd_some h
    refine k_iast hF hA shR_4 dX11_node_118 g14 ?_
    obtain ⟨σ15, hσ15, h⟩ := lt_some h
    refine k_sig hσ15 ?_
    refine k_aload_n hF dX11_node_119 rfl ?_
    refine k_get hF (v := .ref (B + 5)) shR_0 fl_X11_22_X11 dX11_node_120 rfl ?_
    refine k_iload hF dX11_node_123 rfl ?_
    refine k_ldc hF kc_X11_153 dX11_node_125 ?_
    obtain ⟨g16, h⟩ := gd_some h
    refine k_iast hF hA shR_5 dX11_node_127 g16 ?_
    obtain ⟨σ17, hσ17, h⟩ := lt_some h
    refine k_sig hσ17 ?_
    refine k_aload_n hF dX11_node_128 rfl ?_
    refine k_get hF (v := .ref (B + 7)) shR_0 fl_X11_28_X11 dX11_node_129 rfl ?_
    refine k_iload hF dX11_node_132 rfl ?_
    refine k_iload hF dX11_node_134 rfl ?_
    obtain ⟨g18, h⟩ := gd_some h
    refine k_iast hF hA shR_7 dX11_node_136 g18 ?_
    obtain ⟨σ19, hσ19, h⟩ := lt_some h
    refine k_sig hσ19 ?_
    refine k_aload_n hF dX11_node_137 rfl ?_
    refine k_get hF (v := .ref (B + 8)) shR_0 fl_X11_31_X11 dX11_node_138 rfl ?_
    refine k_iload hF dX11_node_141 rfl ?_
    refine k_iconst hF dX11_node_143 ci_1 ?_
    obtain ⟨g20, h⟩ := gd_some h
    refine k_zast hF hA shR_8 dX11_node_144 g20 rfl ?_
    obtain ⟨σ21, hσ21, h⟩ := lt_some h
    refine k_sig hσ21 ?_
    refine k_aload_n hF dX11_node_145 rfl ?_
    refine k_dup hF dX11_node_146 rfl ?_
    refine k_get hF (v := .int (gi σ21 0 1)) shR_0 fl_X11_150_X11 dX11_node_147 rfl ?_
    refine k_iconst hF dX11_node_150 ci_1 ?_
    refine k_iadd hF dX11_node_151 ?_
    refine k_putI hF hA shR_0 fp_X11_150_X11 dX11_node_152 rfl rfl rfl ?_
    obtain ⟨σ22, hσ22, h⟩ := lt_some h
    refine k_sig hσ22 ?_
    refine k_aload_n hF dX11_node_155 rfl ?_
    refine k_iload hF dX11_node_156 rfl ?_
    refine k_iload_n hF dX11_node_158 rfl ?_
    obtain ⟨v23, hv23, h⟩ := bind_some h
    refine k_callV hF hA (as := [.int (gi v6.2 0 1), .int a2]) (ct_X11_notes hbs hv23) mv_X11_184 shR_0 rfl rfl rfl ⟨Nat.le_of_ble_eq_true rfl, Nat.le_of_ble_eq_true rfl⟩ (Nat.le_of_ble_eq_true rfl) dX11_node_159 ?_
    refine k_st (st2 := []) rfl ?_
    refine k_iload hF dX11_node_162 rfl ?_
    cases h
    exact hr _ _ rfl dX11_node_164
  · replace h := ite_f c7 h
    refine k_iconst hF dX11_node_67 ci_0 ?_
    cases h
    exact hr _ _ rfl dX11_node_68
set_option maxHeartbeats 4000000 in
set_option maxRecDepth 100000 in
theorem wX11_node_j39 {p : Program} {l : Launch} {e : Env} {s : State} {m : MethodId} {args : Array Value} {below : List Frame} {meth : Method} {c : Code} {Q : State → Prop} {A : Nat → Prop} {D : DD} {base B : Nat} (hF : KF D base cX11_node RX11 A 6 0 0 p l e ({ frames := 4, cells := 0, slots := 0, locals := 88 } : Room) s m args below meth c) (hA : ∀ q, RA B shpR q → A q) (hbs : base ≤ B) {σ : St} {a1 : Int32} {a2 : Int32} {t0 : Int32} {z : (Int32 × St)} (h : fX11_node_j39 σ a1 a2 t0 = some z) (hr : ∀ (pc : Nat) (L : List (Option Value)), narrow .int (.int z.1) = .int z.1 → decode cX11_node pc = .ok (.ireturn, 1) → KJ (Rep D B shpR) A 6 0 0 Q p l e ({ frames := 4, cells := 0, slots := 0, locals := 88 } : Room) s m args below meth c 0 0 pc L [.int z.1] z.2) : KJ (Rep D B shpR) A 6 0 0 Q p l e ({ frames := 4, cells := 0, slots := 0, locals := 88 } : Room) s m args below meth c 0 0 39 [some (.ref (B + 0)), some (.int a1), some (.int a2), none, none, none] [.int t0] σ := by
  unfold fX11_node_j39 at h
  refine k_istore_n hF (L' := [some (.ref (B + 0)), some (.int a1), some (.int a2), some (.int t0), none, none]) dX11_node_39 (by decide) rfl ?_
  refine k_aload_n hF dX11_node_40 rfl ?_
  refine k_iload_n hF dX11_node_41 rfl ?_
  obtain ⟨v3, hv3, h⟩ := bind_some h
  refine k_callS hF hA (as := [.int a1]) (ct_X11_isLabel hbs hv3) ms_X11_171 rfl rfl ⟨Nat.le_of_ble_eq_true rfl, Nat.le_of_ble_eq_true rfl⟩ (Nat.le_of_ble_eq_true rfl) dX11_node_42 ?_
  refine k_st (st2 := [.int v3, .ref (B + 0)]) rfl ?_
  refine k_if_ne hF (tgt := 52) dX11_node_45 (by decide) (fun c4 => ?_) (fun c4 => ?_)
  · replace h := ite_f c4 h
    refine k_iload_n hF dX11_node_52 rfl ?_
    refine k_if_eq hF (tgt := 60) dX11_node_53 (by decide) (fun c5 => ?_) (fun c5 => ?_)
    · replace h := ite_t c5 h
      refine k_iconst hF dX11_node_60 ci_2 ?_
      refine k_kill 3 rfl ?_
      exact wX11_node_j61 hF hA hbs h hr
    · replace h := ite_f c5 h
      refine k_iconst hF dX11_node_56 ci_0 ?_
      refine k_goto hF dX11_node_57 (tgt := 61) (by decide) ?_
      refine k_kill 3 rfl ?_
      exact wX11_node_j61 hF hA hbs h hr
  · replace h := ite_t c4 h
    refine k_iconst hF dX11_node_48 ci_1 ?_
    refine k_goto hF dX11_node_49 (tgt := 61) (by decide) ?_
    refine k_kill 3 rfl ?_
    exact wX11_node_j61 hF hA hbs h hr
set_option maxHeartbeats 4000000 in
set_option maxRecDepth 100000 in
theorem wX11_node_j38 {p : Program} {l : Launch} {e : Env} {s : State} {m : MethodId} {args : Array Value} {below : List Frame} {meth : Method} {c : Code} {Q : State → Prop} {A : Nat → Prop} {D : DD} {base B : Nat} (hF : KF D base cX11_node RX11 A 6 0 0 p l e ({ frames := 4, cells := 0, slots := 0, locals := 88 } : Room) s m args below meth c) (hA : ∀ q, RA B shpR q → A q) (hbs : base ≤ B) {σ : St} {a1 : Int32} {a2 : Int32} {z : (Int32 × St)} (h : fX11_node_j38 σ a1 a2 = some z) (hr : ∀ (pc : Nat) (L : List (Option Value)), narrow .int (.int z.1) = .int z.1 → decode cX11_node pc = .ok (.ireturn, 1) → KJ (Rep D B shpR) A 6 0 0 Q p l e ({ frames := 4, cells := 0, slots := 0, locals := 88 } : Room) s m args below meth c 0 0 pc L [.int z.1] z.2) : KJ (Rep D B shpR) A 6 0 0 Q p l e ({ frames := 4, cells := 0, slots := 0, locals := 88 } : Room) s m args below meth c 0 0 38 [some (.ref (B + 0)), some (.int a1), some (.int a2), none, none, none] [] σ := by
  unfold fX11_node_j38 at h
  refine k_iconst hF dX11_node_38 ci_0 ?_
  exact wX11_node_j39 hF hA hbs h hr
set_option maxHeartbeats 4000000 in
set_option maxRecDepth 100000 in
theorem wX11_node {p : Program} {l : Launch} {e : Env} {s : State} {m : MethodId} {args : Array Value} {below : List Frame} {meth : Method} {c : Code} {Q : State → Prop} {A : Nat → Prop} {D : DD} {base B : Nat} (hF : KF D base cX11_node RX11 A 6 0 0 p l e ({ frames := 4, cells := 0, slots := 0, locals := 88 } : Room) s m args below meth c) (hA : ∀ q, RA B shpR q → A q) (hbs : base ≤ B) {σ : St} {a1 : Int32} {a2 : Int32} {z : (Int32 × St)} (h : fX11_node σ a1 a2 = some z) (hr : ∀ (pc : Nat) (L : List (Option Value)), narrow .int (.int z.1) = .int z.1 → decode cX11_node pc = .ok (.ireturn, 1) → KJ (Rep D B shpR) A 6 0 0 Q p l e ({ frames := 4, cells := 0, slots := 0, locals := 88 } : Room) s m args below meth c 0 0 pc L [.int z.1] z.2) : KJ (Rep D B shpR) A 6 0 0 Q p l e ({ frames := 4, cells := 0, slots := 0, locals := 88 } : Room) s m args below meth c 0 0 0 [some (.ref (B + 0)), some (.int a1), some (.int a2), none, none, none] [] σ := by
  unfold fX11_node at h
  refine k_iload_n hF dX11_node_0 rfl ?_
  obtain ⟨v1, hv1, h⟩ := bind_some h
  refine k_callS hF hA (as := [.int a1]) (ct_X11_isLabel hbs hv1) ms_X11_171 rfl rfl ⟨Nat.le_of_ble_eq_true rfl, Nat.le_of_ble_eq_true rfl⟩ (Nat.le_of_ble_eq_true rfl) dX11_node_1 ?_
  refine k_st (st2 := [.int v1]) rfl ?_
  refine k_if_eq hF (tgt := 38) dX11_node_4 (by decide) (fun c2 => ?_) (fun c2 => ?_)
  · replace h := ite_t c2 h
    exact wX11_node_j38 hF hA hbs h hr
  · replace h := ite_f c2 h
    refine k_aload_n hF dX11_node_7 rfl ?_
    refine k_get hF (v := .int (gi σ 0 1)) shR_0 fl_X11_150_X11 dX11_node_8 rfl ?_
    refine k_bipush hF (v := (24 : Int32)) dX11_node_11 (by decide) ?_
    refine k_icmp_ge hF (tgt := 38) dX11_node_13 (by decide) (fun c24 => ?_) (fun c24 => ?_)
    · replace h := ite_t c24 h
      exact wX11_node_j38 hF hA hbs h hr
    · replace h := ite_f c24 h
      refine k_aload_n hF dX11_node_16 rfl ?_
      obtain ⟨v25, hv25, h⟩ := bind_some h
      refine k_callV hF hA (as := []) (ct_X11_emptiest hbs hv25) mv_X11_174 shR_0 rfl rfl rfl ⟨Nat.le_of_ble_eq_true rfl, Nat.le_of_ble_eq_true rfl⟩ (Nat.le_of_ble_eq_true rfl) dX11_node_17 ?_
      refine k_st (st2 := [.int v25]) rfl ?_
      refine k_iconst hF dX11_node_20 ci_m1 ?_
      refine k_icmp_eq hF (tgt := 38) dX11_node_21 (by decide) (fun c26 => ?_) (fun c26 => ?_)
      · replace h := ite_t c26 h
        exact wX11_node_j38 hF hA hbs h hr
      · replace h := ite_f c26 h
        refine k_aload_n hF dX11_node_24 rfl ?_
        refine k_iconst hF dX11_node_25 ci_m1 ?_
        refine k_iload_n hF dX11_node_26 rfl ?_
        refine k_iload_n hF dX11_node_27 rfl ?_
        obtain ⟨v27, hv27, h⟩ := bind_some h
        refine k_callV hF hA (as := [.int (-1 : Int32), .int a1, .int a2]) (ct_X11_breaksKey hbs hv27) mv_X11_178 shR_0 rfl rfl rfl ⟨Nat.le_of_ble_eq_true rfl, Nat.le_of_ble_eq_true rfl⟩ (Nat.le_of_ble_eq_true rfl) dX11_node_28 ?_
        refine k_st (st2 := [.int v27]) rfl ?_
        refine k_if_ne hF (tgt := 38) dX11_node_31 (by decide) (fun c28 => ?_) (fun c28 => ?_)
        · replace h := ite_f c28 h
          exact wX11_node_j38 hF hA hbs h hr
        · replace h := ite_t c28 h
          refine k_iconst hF dX11_node_34 ci_1 ?_
          refine k_goto hF dX11_node_35 (tgt := 39) (by decide) ?_
          exact wX11_node_j39 hF hA hbs h hr
theorem ct_X11_node {l : Launch} {D : DD} {base B : Nat} (hbs : base ≤ B) {σ : St} {a1 : Int32} {a2 : Int32} {r : (Int32 × St)} (h : fX11_node σ a1 a2 = some r) : MetR l D B shpR base yX11_node cX11_node 6 (some .int) 4 88 [.ref (B + 0), .int a1, .int a2] σ (some (.int r.1)) r.2 :=
  MetR.of (by decide +kernel) (fun v hv => by simp only [List.mem_cons, List.not_mem_nil, or_false] at hv; rcases hv with rfl | rfl | rfl <;> rfl) (Nat.le_of_ble_eq_true rfl) hbs (fun p e s m args below meth c hF hr => wX11_node hF (fun q hq => hq) hbs h (fun pc L hn hd => k_iret hF hr hn hd))
set_option maxHeartbeats 4000000 in
set_option maxRecDepth 100000 in
theorem wX11_fitsShape_j40 {p : Program} {l : Launch} {e : Env} {s : State} {m : MethodId} {args : Array Value} {below : List Frame} {meth : Method} {c : Code} {Q : State → Prop} {A : Nat → Prop} {D : DD} {base B : Nat} (hF : KF D base cX11_fitsShape RX11 A 4 0 0 p l e ({ frames := 0, cells := 0, slots := 0, locals := 0 } : Room) s m args below meth c) (hA : ∀ q, RA B shpR q → A q) (hbs : base ≤ B) {σ : St} {a1 : Int32} {a2 : Int32} {a3 : Int32} {z : Int32} (h : fX11_fitsShape_j40 σ a1 a2 a3 = some z) (hr : ∀ (pc : Nat) (L : List (Option Value)), narrow .boolean (.int z) = .int z → decode cX11_fitsShape pc = .ok (.ireturn, 1) → KJ (Rep D B shpR) A 4 0 0 Q p l e ({ frames := 0, cells := 0, slots := 0, locals := 0 } : Room) s m args below meth c 0 0 pc L [.int z] σ) : KJ (Rep D B shpR) A 4 0 0 Q p l e ({ frames := 0, cells := 0, slots := 0, locals := 0 } : Room) s m args below meth c 0 0 40 [some (.ref (B + 0)), some (.int a1), some (.int a2), some (.int a3)] [] σ := by
  unfold fX11_fitsShape_j40 at h
  refine k_iconst hF dX11_fitsShape_40 ci_1 ?_
  refine k_goto hF dX11_fitsShape_41 (tgt := 45) (by decide) ?_
  cases h
  exact hr _ _ nar_1 dX11_fitsShape_45
set_option maxHeartbeats 4000000 in
set_option maxRecDepth 100000 in
theorem wX11_fitsShape_j44 {p : Program} {l : Launch} {e : Env} {s : State} {m : MethodId} {args : Array Value} {below : List Frame} {meth : Method} {c : Code} {Q : State → Prop} {A : Nat → Prop} {D : DD} {base B : Nat} (hF : KF D base cX11_fitsShape RX11 A 4 0 0 p l e ({ frames := 0, cells := 0, slots := 0, locals := 0 } : Room) s m args below meth c) (hA : ∀ q, RA B shpR q → A q) (hbs : base ≤ B) {σ : St} {a1 : Int32} {a2 : Int32} {a3 : Int32} {z : Int32} (h : fX11_fitsShape_j44 σ a1 a2 a3 = some z) (hr : ∀ (pc : Nat) (L : List (Option Value)), narrow .boolean (.int z) = .int z → decode cX11_fitsShape pc = .ok (.ireturn, 1) → KJ (Rep D B shpR) A 4 0 0 Q p l e ({ frames := 0, cells := 0, slots := 0, locals := 0 } : Room) s m args below meth c 0 0 pc L [.int z] σ) : KJ (Rep D B shpR) A 4 0 0 Q p l e ({ frames := 0, cells := 0, slots := 0, locals := 0 } : Room) s m args below meth c 0 0 44 [some (.ref (B + 0)), some (.int a1), some (.int a2), some (.int a3)] [] σ := by
  unfold fX11_fitsShape_j44 at h
  refine k_iconst hF dX11_fitsShape_44 ci_0 ?_
  cases h
  exact hr _ _ nar_0 dX11_fitsShape_45
set_option maxHeartbeats 4000000 in
set_option maxRecDepth 100000 in
theorem wX11_fitsShape {p : Program} {l : Launch} {e : Env} {s : State} {m : MethodId} {args : Array Value} {below : List Frame} {meth : Method} {c : Code} {Q : State → Prop} {A : Nat → Prop} {D : DD} {base B : Nat} (hF : KF D base cX11_fitsShape RX11 A 4 0 0 p l e ({ frames := 0, cells := 0, slots := 0, locals := 0 } : Room) s m args below meth c) (hA : ∀ q, RA B shpR q → A q) (hbs : base ≤ B) {σ : St} {a1 : Int32} {a2 : Int32} {a3 : Int32} {z : Int32} (h : fX11_fitsShape σ a1 a2 a3 = some z) (hr : ∀ (pc : Nat) (L : List (Option Value)), narrow .boolean (.int z) = .int z → decode cX11_fitsShape pc = .ok (.ireturn, 1) → KJ (Rep D B shpR) A 4 0 0 Q p l e ({ frames := 0, cells := 0, slots := 0, locals := 0 } : Room) s m args below meth c 0 0 pc L [.int z] σ) : KJ (Rep D B shpR) A 4 0 0 Q p l e ({ frames := 0, cells := 0, slots := 0, locals := 0 } : Room) s m args below meth c 0 0 0 [some (.ref (B + 0)), some (.int a1), some (.int a2), some (.int a3)] [] σ := by
  unfold fX11_fitsShape at h
  refine k_aload_n hF dX11_fitsShape_0 rfl ?_
  refine k_get hF (v := .ref (B + 19)) shR_0 fl_X11_66_X11 dX11_fitsShape_1 rfl ?_
  refine k_iload_n hF dX11_fitsShape_4 rfl ?_
  obtain ⟨g1, h⟩ := gd_some h
  refine k_iald hF shR_19 dX11_fitsShape_5 g1 ?_
  refine k_iconst hF dX11_fitsShape_6 ci_m1 ?_
  refine k_icmp_eq hF (tgt := 40) dX11_fitsShape_7 (by decide) (fun c2 => ?_) (fun c2 => ?_)
  · replace h := ite_t c2 h
    exact wX11_fitsShape_j40 hF hA hbs h hr
  · replace h := ite_f c2 h
    refine k_aload_n hF dX11_fitsShape_10 rfl ?_
    refine k_get hF (v := .ref (B + 1)) shR_0 fl_X11_7_X11 dX11_fitsShape_11 rfl ?_
    refine k_iload_n hF dX11_fitsShape_14 rfl ?_
    obtain ⟨g3, h⟩ := gd_some h
    refine k_iald hF shR_1 dX11_fitsShape_15 g3 ?_
    refine k_aload_n hF dX11_fitsShape_16 rfl ?_
    refine k_get hF (v := .ref (B + 19)) shR_0 fl_X11_66_X11 dX11_fitsShape_17 rfl ?_
    refine k_iload_n hF dX11_fitsShape_20 rfl ?_
    obtain ⟨g4, h⟩ := gd_some h
    refine k_iald hF shR_19 dX11_fitsShape_21 g4 ?_
    refine k_icmp_ne hF (tgt := 44) dX11_fitsShape_22 (by decide) (fun c5 => ?_) (fun c5 => ?_)
    · replace h := ite_f c5 h
      exact wX11_fitsShape_j44 hF hA hbs h hr
    · replace h := ite_t c5 h
      refine k_aload_n hF dX11_fitsShape_25 rfl ?_
      refine k_get hF (v := .ref (B + 1)) shR_0 fl_X11_7_X11 dX11_fitsShape_26 rfl ?_
      refine k_iload_n hF dX11_fitsShape_29 rfl ?_
      obtain ⟨g6, h⟩ := gd_some h
      refine k_iald hF shR_1 dX11_fitsShape_30 g6 ?_
      refine k_aload_n hF dX11_fitsShape_31 rfl ?_
      refine k_get hF (v := .ref (B + 20)) shR_0 fl_X11_69_X11 dX11_fitsShape_32 rfl ?_
      refine k_iload_n hF dX11_fitsShape_35 rfl ?_
      obtain ⟨g7, h⟩ := gd_some h
      refine k_iald hF shR_20 dX11_fitsShape_36 g7 ?_
      refine k_icmp_ne hF (tgt := 44) dX11_fitsShape_37 (by decide) (fun c8 => ?_) (fun c8 => ?_)
      · replace h := ite_f c8 h
        exact wX11_fitsShape_j44 hF hA hbs h hr
      · replace h := ite_t c8 h
        exact wX11_fitsShape_j40 hF hA hbs h hr
theorem ct_X11_fitsShape {l : Launch} {D : DD} {base B : Nat} (hbs : base ≤ B) {σ : St} {a1 : Int32} {a2 : Int32} {a3 : Int32} {r : Int32} (h : fX11_fitsShape σ a1 a2 a3 = some r) : MetR l D B shpR base yX11_fitsShape cX11_fitsShape 4 (some .boolean) 0 0 [.ref (B + 0), .int a1, .int a2, .int a3] σ (some (.int r)) σ :=
  MetR.of (by decide +kernel) (fun v hv => by simp only [List.mem_cons, List.not_mem_nil, or_false] at hv; rcases hv with rfl | rfl | rfl | rfl <;> rfl) (Nat.le_of_ble_eq_true rfl) hbs (fun p e s m args below meth c hF hr => wX11_fitsShape hF (fun q hq => hq) hbs h (fun pc L hn hd => k_iret hF hr hn hd))
set_option maxHeartbeats 4000000 in
set_option maxRecDepth 100000 in
theorem wX11_adds {p : Program} {l : Launch} {e : Env} {s : State} {m : MethodId} {args : Array Value} {below : List Frame} {meth : Method} {c : Code} {Q : State → Prop} {A : Nat → Prop} {D : DD} {base B : Nat} (hF : KF D base cX11_adds RX11 A 4 0 0 p l e ({ frames := 0, cells := 0, slots := 0, locals := 0 } : Room) s m args below meth c) (hA : ∀ q, RA B shpR q → A q) (hbs : base ≤ B) {σ : St} {a1 : Int32} {a2 : Int32} {a3 : Int32} {z : (Int32 × St)} (h : fX11_adds σ a1 a2 a3 = some z) (hr : ∀ (pc : Nat) (L : List (Option Value)), narrow .int (.int z.1) = .int z.1 → decode cX11_adds pc = .ok (.ireturn, 1) → KJ (Rep D B shpR) A 4 0 0 Q p l e ({ frames := 0, cells := 0, slots := 0, locals := 0 } : Room) s m args below meth c 0 0 pc L [.int z.1] z.2) : KJ (Rep D B shpR) A 4 0 0 Q p l e ({ frames := 0, cells := 0, slots := 0, locals := 0 } : Room) s m args below meth c 0 0 0 [some (.ref (B + 0)), some (.int a1), some (.int a2), some (.int a3)] [] σ := by
  unfold fX11_adds at h
  refine k_aload_n hF dX11_adds_0 rfl ?_
  refine k_get hF (v := .ref (B + 13)) shR_0 fl_X11_48_X11 dX11_adds_1 rfl ?_
  refine k_aload_n hF dX11_adds_4 rfl ?_
  refine k_get hF (v := .int (gi σ 0 15)) shR_0 fl_X11_154_X11 dX11_adds_5 rfl ?_
  refine k_iload_n hF dX11_adds_8 rfl ?_
  obtain ⟨g1, h⟩ := gd_some h
  refine k_iast hF hA shR_13 dX11_adds_9 g1 ?_
  obtain ⟨σ2, hσ2, h⟩ := lt_some h
  refine k_sig hσ2 ?_
  refine k_aload_n hF dX11_adds_10 rfl ?_
  refine k_get hF (v := .ref (B + 14)) shR_0 fl_X11_51_X11 dX11_adds_11 rfl ?_
  refine k_aload_n hF dX11_adds_14 rfl ?_
  refine k_get hF (v := .int (gi σ2 0 15)) shR_0 fl_X11_154_X11 dX11_adds_15 rfl ?_
  refine k_iload_n hF dX11_adds_18 rfl ?_
  obtain ⟨g3, h⟩ := gd_some h
  refine k_iast hF hA shR_14 dX11_adds_19 g3 ?_
  obtain ⟨σ4, hσ4, h⟩ := lt_some h
  refine k_sig hσ4 ?_
  refine k_aload_n hF dX11_adds_20 rfl ?_
  refine k_get hF (v := .ref (B + 15)) shR_0 fl_X11_54_X11 dX11_adds_21 rfl ?_
  refine k_aload_n hF dX11_adds_24 rfl ?_
  refine k_get hF (v := .int (gi σ4 0 15)) shR_0 fl_X11_154_X11 dX11_adds_25 rfl ?_
  refine k_iload_n hF dX11_adds_28 rfl ?_
  obtain ⟨g5, h⟩ := gd_some h
  refine k_iast hF hA shR_15 dX11_adds_29 g5 ?_
  obtain ⟨σ6, hσ6, h⟩ := lt_some h
  refine k_sig hσ6 ?_
  refine k_aload_n hF dX11_adds_30 rfl ?_
  refine k_get hF (v := .ref (B + 16)) shR_0 fl_X11_57_X11 dX11_adds_31 rfl ?_
  refine k_aload_n hF dX11_adds_34 rfl ?_
  refine k_get hF (v := .int (gi σ6 0 15)) shR_0 fl_X11_154_X11 dX11_adds_35 rfl ?_
  refine k_aload_n hF dX11_adds_38 rfl ?_
  refine k_get hF (v := .int (gi σ6 0 0)) shR_0 fl_X11_160_X11 dX11_adds_39 rfl ?_
  obtain ⟨g7, h⟩ := gd_some h
  refine k_iast hF hA shR_16 dX11_adds_42 g7 ?_
  obtain ⟨σ8, hσ8, h⟩ := lt_some h
  refine k_sig hσ8 ?_
  refine k_aload_n hF dX11_adds_43 rfl ?_
  refine k_get hF (v := .ref (B + 17)) shR_0 fl_X11_60_X11 dX11_adds_44 rfl ?_
  refine k_aload_n hF dX11_adds_47 rfl ?_
  refine k_get hF (v := .int (gi σ8 0 15)) shR_0 fl_X11_154_X11 dX11_adds_48 rfl ?_
  refine k_ldc hF kc_X11_153 dX11_adds_51 ?_
  obtain ⟨g9, h⟩ := gd_some h
  refine k_iast hF hA shR_17 dX11_adds_53 g9 ?_
  obtain ⟨σ10, hσ10, h⟩ := lt_some h
  refine k_sig hσ10 ?_
  refine k_aload_n hF dX11_adds_54 rfl ?_
  refine k_dup hF dX11_adds_55 rfl ?_
  refine k_get hF (v := .int (gi σ10 0 15)) shR_0 fl_X11_154_X11 dX11_adds_56 rfl ?_
  refine k_iconst hF dX11_adds_59 ci_1 ?_
  refine k_iadd hF dX11_adds_60 ?_
  refine k_putI hF hA shR_0 fp_X11_154_X11 dX11_adds_61 rfl rfl rfl ?_
  obtain ⟨σ11, hσ11, h⟩ := lt_some h
  refine k_sig hσ11 ?_
  refine k_aload_n hF dX11_adds_64 rfl ?_
  refine k_get hF (v := .ref (B + 6)) shR_0 fl_X11_25_X11 dX11_adds_65 rfl ?_
  refine k_iload_n hF dX11_adds_68 rfl ?_
  refine k_aload_n hF dX11_adds_69 rfl ?_
  refine k_get hF (v := .int (gi σ11 0 0)) shR_0 fl_X11_160_X11 dX11_adds_70 rfl ?_
  obtain ⟨g12, h⟩ := gd_some h
  refine k_iast hF hA shR_6 dX11_adds_73 g12 ?_
  obtain ⟨σ13, hσ13, h⟩ := lt_some h
  refine k_sig hσ13 ?_
  refine k_aload_n hF dX11_adds_74 rfl ?_
  refine k_get hF (v := .ref (B + 6)) shR_0 fl_X11_25_X11 dX11_adds_75 rfl ?_
  refine k_iload_n hF dX11_adds_78 rfl ?_
  refine k_aload_n hF dX11_adds_79 rfl ?_
  refine k_get hF (v := .int (gi σ13 0 0)) shR_0 fl_X11_160_X11 dX11_adds_80 rfl ?_
  obtain ⟨g14, h⟩ := gd_some h
  refine k_iast hF hA shR_6 dX11_adds_83 g14 ?_
  obtain ⟨σ15, hσ15, h⟩ := lt_some h
  refine k_sig hσ15 ?_
  refine k_aload_n hF dX11_adds_84 rfl ?_
  refine k_get hF (v := .ref (B + 8)) shR_0 fl_X11_31_X11 dX11_adds_85 rfl ?_
  refine k_iload_n hF dX11_adds_88 rfl ?_
  refine k_iconst hF dX11_adds_89 ci_1 ?_
  obtain ⟨g16, h⟩ := gd_some h
  refine k_zast hF hA shR_8 dX11_adds_90 g16 rfl ?_
  obtain ⟨σ17, hσ17, h⟩ := lt_some h
  refine k_sig hσ17 ?_
  refine k_aload_n hF dX11_adds_91 rfl ?_
  refine k_get hF (v := .ref (B + 8)) shR_0 fl_X11_31_X11 dX11_adds_92 rfl ?_
  refine k_iload_n hF dX11_adds_95 rfl ?_
  refine k_iconst hF dX11_adds_96 ci_1 ?_
  obtain ⟨g18, h⟩ := gd_some h
  refine k_zast hF hA shR_8 dX11_adds_97 g18 rfl ?_
  obtain ⟨σ19, hσ19, h⟩ := lt_some h
  refine k_sig hσ19 ?_
  refine k_aload_n hF dX11_adds_98 rfl ?_
  refine k_get hF (v := .int (gi σ19 0 15)) shR_0 fl_X11_154_X11 dX11_adds_99 rfl ?_
  refine k_iconst hF dX11_adds_102 ci_1 ?_
  refine k_isub hF dX11_adds_103 ?_
  cases h
  exact hr _ _ rfl dX11_adds_104
theorem ct_X11_adds {l : Launch} {D : DD} {base B : Nat} (hbs : base ≤ B) {σ : St} {a1 : Int32} {a2 : Int32} {a3 : Int32} {r : (Int32 × St)} (h : fX11_adds σ a1 a2 a3 = some r) : MetR l D B shpR base yX11_adds cX11_adds 4 (some .int) 0 0 [.ref (B + 0), .int a1, .int a2, .int a3] σ (some (.int r.1)) r.2 :=
  MetR.of (by decide +kernel) (fun v hv => by simp only [List.mem_cons, List.not_mem_nil, or_false] at hv; rcases hv with rfl | rfl | rfl | rfl <;> rfl) (Nat.le_of_ble_eq_true rfl) hbs (fun p e s m args below meth c hF hr => wX11_adds hF (fun q hq => hq) hbs h (fun pc L hn hd => k_iret hF hr hn hd))
set_option maxHeartbeats 4000000 in
set_option maxRecDepth 100000 in
theorem wX11_edge_j64 {p : Program} {l : Launch} {e : Env} {s : State} {m : MethodId} {args : Array Value} {below : List Frame} {meth : Method} {c : Code} {Q : State → Prop} {A : Nat → Prop} {D : DD} {base B : Nat} (hF : KF D base cX11_edge RX11 A 5 0 0 p l e ({ frames := 2, cells := 0, slots := 0, locals := 43 } : Room) s m args below meth c) (hA : ∀ q, RA B shpR q → A q) (hbs : base ≤ B) {σ : St} {a1 : Int32} {a2 : Int32} {a3 : Int32} {t0 : Int32} {z : (Int32 × St)} (h : fX11_edge_j64 σ a1 a2 a3 t0 = some z) (hr : ∀ (pc : Nat) (L : List (Option Value)), narrow .int (.int z.1) = .int z.1 → decode cX11_edge pc = .ok (.ireturn, 1) → KJ (Rep D B shpR) A 5 0 0 Q p l e ({ frames := 2, cells := 0, slots := 0, locals := 43 } : Room) s m args below meth c 0 0 pc L [.int z.1] z.2) : KJ (Rep D B shpR) A 5 0 0 Q p l e ({ frames := 2, cells := 0, slots := 0, locals := 43 } : Room) s m args below meth c 0 0 64 [some (.ref (B + 0)), some (.int a1), some (.int a2), some (.int a3), none] [.int t0, .ref (B + 0)] σ := by
  unfold fX11_edge_j64 at h
  obtain ⟨v5, hv5, h⟩ := bind_some h
  refine k_callV hF hA (as := [.int t0]) (ct_X11_fails hbs hv5) mv_X11_181 shR_0 rfl rfl rfl ⟨Nat.le_of_ble_eq_true rfl, Nat.le_of_ble_eq_true rfl⟩ (Nat.le_of_ble_eq_true rfl) dX11_edge_64 ?_
  refine k_st (st2 := [.int v5.1]) rfl ?_
  refine k_if_eq hF (tgt := 72) dX11_edge_67 (by decide) (fun c6 => ?_) (fun c6 => ?_)
  · replace h := ite_t c6 h
    refine k_aload_n hF dX11_edge_72 rfl ?_
    refine k_dup hF dX11_edge_73 rfl ?_
    refine k_get hF (v := .int (gi v5.2 0 0)) shR_0 fl_X11_160_X11 dX11_edge_74 rfl ?_
    refine k_iconst hF dX11_edge_77 ci_1 ?_
    refine k_iadd hF dX11_edge_78 ?_
    refine k_putI hF hA shR_0 fp_X11_160_X11 dX11_edge_79 rfl rfl rfl ?_
    obtain ⟨σ7, hσ7, h⟩ := lt_some h
    refine k_sig hσ7 ?_
    refine k_aload_n hF dX11_edge_82 rfl ?_
    refine k_iload_n hF dX11_edge_83 rfl ?_
    refine k_iload_n hF dX11_edge_84 rfl ?_
    refine k_iload_n hF dX11_edge_85 rfl ?_
    obtain ⟨v8, hv8, h⟩ := bind_some h
    refine k_callV hF hA (as := [.int a1, .int a2, .int a3]) (ct_X11_adds hbs hv8) mv_X11_191 shR_0 rfl rfl rfl ⟨Nat.le_of_ble_eq_true rfl, Nat.le_of_ble_eq_true rfl⟩ (Nat.le_of_ble_eq_true rfl) dX11_edge_86 ?_
    refine k_st (st2 := [.int v8.1]) rfl ?_
    cases h
    exact hr _ _ rfl dX11_edge_89
  · replace h := ite_f c6 h
    refine k_iconst hF dX11_edge_70 ci_0 ?_
    cases h
    exact hr _ _ rfl dX11_edge_71
set_option maxHeartbeats 4000000 in
set_option maxRecDepth 100000 in
theorem wX11_edge_j59 {p : Program} {l : Launch} {e : Env} {s : State} {m : MethodId} {args : Array Value} {below : List Frame} {meth : Method} {c : Code} {Q : State → Prop} {A : Nat → Prop} {D : DD} {base B : Nat} (hF : KF D base cX11_edge RX11 A 5 0 0 p l e ({ frames := 2, cells := 0, slots := 0, locals := 43 } : Room) s m args below meth c) (hA : ∀ q, RA B shpR q → A q) (hbs : base ≤ B) {σ : St} {a1 : Int32} {a2 : Int32} {a3 : Int32} {z : (Int32 × St)} (h : fX11_edge_j59 σ a1 a2 a3 = some z) (hr : ∀ (pc : Nat) (L : List (Option Value)), narrow .int (.int z.1) = .int z.1 → decode cX11_edge pc = .ok (.ireturn, 1) → KJ (Rep D B shpR) A 5 0 0 Q p l e ({ frames := 2, cells := 0, slots := 0, locals := 43 } : Room) s m args below meth c 0 0 pc L [.int z.1] z.2) : KJ (Rep D B shpR) A 5 0 0 Q p l e ({ frames := 2, cells := 0, slots := 0, locals := 43 } : Room) s m args below meth c 0 0 59 [some (.ref (B + 0)), some (.int a1), some (.int a2), some (.int a3), none] [.ref (B + 0)] σ := by
  unfold fX11_edge_j59 at h
  refine k_iconst hF dX11_edge_59 ci_2 ?_
  refine k_goto hF dX11_edge_60 (tgt := 64) (by decide) ?_
  exact wX11_edge_j64 hF hA hbs h hr
set_option maxHeartbeats 4000000 in
set_option maxRecDepth 100000 in
theorem wX11_edge_j28 {p : Program} {l : Launch} {e : Env} {s : State} {m : MethodId} {args : Array Value} {below : List Frame} {meth : Method} {c : Code} {Q : State → Prop} {A : Nat → Prop} {D : DD} {base B : Nat} (hF : KF D base cX11_edge RX11 A 5 0 0 p l e ({ frames := 2, cells := 0, slots := 0, locals := 43 } : Room) s m args below meth c) (hA : ∀ q, RA B shpR q → A q) (hbs : base ≤ B) {σ : St} {a1 : Int32} {a2 : Int32} {a3 : Int32} {t0 : Int32} {z : (Int32 × St)} (h : fX11_edge_j28 σ a1 a2 a3 t0 = some z) (hr : ∀ (pc : Nat) (L : List (Option Value)), narrow .int (.int z.1) = .int z.1 → decode cX11_edge pc = .ok (.ireturn, 1) → KJ (Rep D B shpR) A 5 0 0 Q p l e ({ frames := 2, cells := 0, slots := 0, locals := 43 } : Room) s m args below meth c 0 0 pc L [.int z.1] z.2) : KJ (Rep D B shpR) A 5 0 0 Q p l e ({ frames := 2, cells := 0, slots := 0, locals := 43 } : Room) s m args below meth c 0 0 28 [some (.ref (B + 0)), some (.int a1), some (.int a2), some (.int a3), none] [.int t0] σ := by
  unfold fX11_edge_j28 at h
  refine k_istore hF (L' := [some (.ref (B + 0)), some (.int a1), some (.int a2), some (.int a3), some (.int t0)]) dX11_edge_28 (by decide) rfl ?_
  refine k_aload_n hF dX11_edge_30 rfl ?_
  refine k_iload hF dX11_edge_31 rfl ?_
  refine k_if_ne hF (tgt := 40) dX11_edge_33 (by decide) (fun c3 => ?_) (fun c3 => ?_)
  · replace h := ite_f c3 h
    refine k_aload_n hF dX11_edge_40 rfl ?_
    refine k_get hF (v := .int (gi σ 0 15)) shR_0 fl_X11_154_X11 dX11_edge_41 rfl ?_
    refine k_bipush hF (v := (60 : Int32)) dX11_edge_44 (by decide) ?_
    refine k_icmp_eq hF (tgt := 59) dX11_edge_46 (by decide) (fun c4 => ?_) (fun c4 => ?_)
    · replace h := ite_t c4 h
      refine k_kill 4 rfl ?_
      exact wX11_edge_j59 hF hA hbs h hr
    · replace h := ite_f c4 h
      refine k_aload_n hF dX11_edge_49 rfl ?_
      refine k_iload_n hF dX11_edge_50 rfl ?_
      refine k_iload_n hF dX11_edge_51 rfl ?_
      refine k_iload_n hF dX11_edge_52 rfl ?_
      obtain ⟨v9, hv9, h⟩ := bind_some h
      refine k_callV hF hA (as := [.int a2, .int a1, .int a3]) (ct_X11_fitsShape hbs hv9) mv_X11_188 shR_0 rfl rfl rfl ⟨Nat.le_of_ble_eq_true rfl, Nat.le_of_ble_eq_true rfl⟩ (Nat.le_of_ble_eq_true rfl) dX11_edge_53 ?_
      refine k_st (st2 := [.int v9, .ref (B + 0)]) rfl ?_
      refine k_if_ne hF (tgt := 63) dX11_edge_56 (by decide) (fun c10 => ?_) (fun c10 => ?_)
      · replace h := ite_f c10 h
        refine k_iconst hF dX11_edge_63 ci_0 ?_
        refine k_kill 4 rfl ?_
        exact wX11_edge_j64 hF hA hbs h hr
      · replace h := ite_t c10 h
        refine k_kill 4 rfl ?_
        exact wX11_edge_j59 hF hA hbs h hr
  · replace h := ite_t c3 h
    refine k_iconst hF dX11_edge_36 ci_1 ?_
    refine k_goto hF dX11_edge_37 (tgt := 64) (by decide) ?_
    refine k_kill 4 rfl ?_
    exact wX11_edge_j64 hF hA hbs h hr
set_option maxHeartbeats 4000000 in
set_option maxRecDepth 100000 in
theorem wX11_edge_j27 {p : Program} {l : Launch} {e : Env} {s : State} {m : MethodId} {args : Array Value} {below : List Frame} {meth : Method} {c : Code} {Q : State → Prop} {A : Nat → Prop} {D : DD} {base B : Nat} (hF : KF D base cX11_edge RX11 A 5 0 0 p l e ({ frames := 2, cells := 0, slots := 0, locals := 43 } : Room) s m args below meth c) (hA : ∀ q, RA B shpR q → A q) (hbs : base ≤ B) {σ : St} {a1 : Int32} {a2 : Int32} {a3 : Int32} {z : (Int32 × St)} (h : fX11_edge_j27 σ a1 a2 a3 = some z) (hr : ∀ (pc : Nat) (L : List (Option Value)), narrow .int (.int z.1) = .int z.1 → decode cX11_edge pc = .ok (.ireturn, 1) → KJ (Rep D B shpR) A 5 0 0 Q p l e ({ frames := 2, cells := 0, slots := 0, locals := 43 } : Room) s m args below meth c 0 0 pc L [.int z.1] z.2) : KJ (Rep D B shpR) A 5 0 0 Q p l e ({ frames := 2, cells := 0, slots := 0, locals := 43 } : Room) s m args below meth c 0 0 27 [some (.ref (B + 0)), some (.int a1), some (.int a2), some (.int a3), none] [] σ := by
  unfold fX11_edge_j27 at h
  refine k_iconst hF dX11_edge_27 ci_0 ?_
  exact wX11_edge_j28 hF hA hbs h hr
set_option maxHeartbeats 4000000 in
set_option maxRecDepth 100000 in
theorem wX11_edge {p : Program} {l : Launch} {e : Env} {s : State} {m : MethodId} {args : Array Value} {below : List Frame} {meth : Method} {c : Code} {Q : State → Prop} {A : Nat → Prop} {D : DD} {base B : Nat} (hF : KF D base cX11_edge RX11 A 5 0 0 p l e ({ frames := 2, cells := 0, slots := 0, locals := 43 } : Room) s m args below meth c) (hA : ∀ q, RA B shpR q → A q) (hbs : base ≤ B) {σ : St} {a1 : Int32} {a2 : Int32} {a3 : Int32} {z : (Int32 × St)} (h : fX11_edge σ a1 a2 a3 = some z) (hr : ∀ (pc : Nat) (L : List (Option Value)), narrow .int (.int z.1) = .int z.1 → decode cX11_edge pc = .ok (.ireturn, 1) → KJ (Rep D B shpR) A 5 0 0 Q p l e ({ frames := 2, cells := 0, slots := 0, locals := 43 } : Room) s m args below meth c 0 0 pc L [.int z.1] z.2) : KJ (Rep D B shpR) A 5 0 0 Q p l e ({ frames := 2, cells := 0, slots := 0, locals := 43 } : Room) s m args below meth c 0 0 0 [some (.ref (B + 0)), some (.int a1), some (.int a2), some (.int a3), none] [] σ := by
  unfold fX11_edge at h
  refine k_aload_n hF dX11_edge_0 rfl ?_
  refine k_iload_n hF dX11_edge_1 rfl ?_
  obtain ⟨v1, hv1, h⟩ := bind_some h
  refine k_callV hF hA (as := [.int a1]) (ct_X11_isNode hbs hv1) mv_X11_163 shR_0 rfl rfl rfl ⟨Nat.le_of_ble_eq_true rfl, Nat.le_of_ble_eq_true rfl⟩ (Nat.le_of_ble_eq_true rfl) dX11_edge_2 ?_
  refine k_st (st2 := [.int v1]) rfl ?_
  refine k_if_eq hF (tgt := 27) dX11_edge_5 (by decide) (fun c2 => ?_) (fun c2 => ?_)
  · replace h := ite_t c2 h
    exact wX11_edge_j27 hF hA hbs h hr
  · replace h := ite_f c2 h
    refine k_aload_n hF dX11_edge_8 rfl ?_
    refine k_iload_n hF dX11_edge_9 rfl ?_
    obtain ⟨v11, hv11, h⟩ := bind_some h
    refine k_callV hF hA (as := [.int a3]) (ct_X11_isNode hbs hv11) mv_X11_163 shR_0 rfl rfl rfl ⟨Nat.le_of_ble_eq_true rfl, Nat.le_of_ble_eq_true rfl⟩ (Nat.le_of_ble_eq_true rfl) dX11_edge_10 ?_
    refine k_st (st2 := [.int v11]) rfl ?_
    refine k_if_eq hF (tgt := 27) dX11_edge_13 (by decide) (fun c12 => ?_) (fun c12 => ?_)
    · replace h := ite_t c12 h
      exact wX11_edge_j27 hF hA hbs h hr
    · replace h := ite_f c12 h
      refine k_iload_n hF dX11_edge_16 rfl ?_
      obtain ⟨v13, hv13, h⟩ := bind_some h
      refine k_callS hF hA (as := [.int a2]) (ct_X11_isLabel hbs hv13) ms_X11_171 rfl rfl ⟨Nat.le_of_ble_eq_true rfl, Nat.le_of_ble_eq_true rfl⟩ (Nat.le_of_ble_eq_true rfl) dX11_edge_17 ?_
      refine k_st (st2 := [.int v13]) rfl ?_
      refine k_if_eq hF (tgt := 27) dX11_edge_20 (by decide) (fun c14 => ?_) (fun c14 => ?_)
      · replace h := ite_t c14 h
        exact wX11_edge_j27 hF hA hbs h hr
      · replace h := ite_f c14 h
        refine k_iconst hF dX11_edge_23 ci_1 ?_
        refine k_goto hF dX11_edge_24 (tgt := 28) (by decide) ?_
        exact wX11_edge_j28 hF hA hbs h hr
theorem ct_X11_edge {l : Launch} {D : DD} {base B : Nat} (hbs : base ≤ B) {σ : St} {a1 : Int32} {a2 : Int32} {a3 : Int32} {r : (Int32 × St)} (h : fX11_edge σ a1 a2 a3 = some r) : MetR l D B shpR base yX11_edge cX11_edge 5 (some .int) 2 43 [.ref (B + 0), .int a1, .int a2, .int a3] σ (some (.int r.1)) r.2 :=
  MetR.of (by decide +kernel) (fun v hv => by simp only [List.mem_cons, List.not_mem_nil, or_false] at hv; rcases hv with rfl | rfl | rfl | rfl <;> rfl) (Nat.le_of_ble_eq_true rfl) hbs (fun p e s m args below meth c hF hr => wX11_edge hF (fun q hq => hq) hbs h (fun pc L hn hd => k_iret hF hr hn hd))
set_option maxHeartbeats 4000000 in
set_option maxRecDepth 100000 in
theorem wX11_set_j35 {p : Program} {l : Launch} {e : Env} {s : State} {m : MethodId} {args : Array Value} {below : List Frame} {meth : Method} {c : Code} {Q : State → Prop} {A : Nat → Prop} {D : DD} {base B : Nat} (hF : KF D base cX11_set RX11 A 5 0 0 p l e ({ frames := 3, cells := 0, slots := 0, locals := 68 } : Room) s m args below meth c) (hA : ∀ q, RA B shpR q → A q) (hbs : base ≤ B) {σ : St} {a1 : Int32} {a2 : Int32} {t0 : Int32} {z : (Int32 × St)} (h : fX11_set_j35 σ a1 a2 t0 = some z) (hr : ∀ (pc : Nat) (L : List (Option Value)), narrow .int (.int z.1) = .int z.1 → decode cX11_set pc = .ok (.ireturn, 1) → KJ (Rep D B shpR) A 5 0 0 Q p l e ({ frames := 3, cells := 0, slots := 0, locals := 68 } : Room) s m args below meth c 0 0 pc L [.int z.1] z.2) : KJ (Rep D B shpR) A 5 0 0 Q p l e ({ frames := 3, cells := 0, slots := 0, locals := 68 } : Room) s m args below meth c 0 0 35 [some (.ref (B + 0)), some (.int a1), some (.int a2), none, none] [.int t0, .ref (B + 0)] σ := by
  unfold fX11_set_j35 at h
  obtain ⟨v6, hv6, h⟩ := bind_some h
  refine k_callV hF hA (as := [.int t0]) (ct_X11_fails hbs hv6) mv_X11_181 shR_0 rfl rfl rfl ⟨Nat.le_of_ble_eq_true rfl, Nat.le_of_ble_eq_true rfl⟩ (Nat.le_of_ble_eq_true rfl) dX11_set_35 ?_
  refine k_st (st2 := [.int v6.1]) rfl ?_
  refine k_if_eq hF (tgt := 43) dX11_set_38 (by decide) (fun c7 => ?_) (fun c7 => ?_)
  · replace h := ite_t c7 h
    refine k_aload_n hF dX11_set_43 rfl ?_
    refine k_get hF (v := .ref (B + 2)) shR_0 fl_X11_13_X11 dX11_set_44 rfl ?_
    refine k_iload_n hF dX11_set_47 rfl ?_
    obtain ⟨g8, h⟩ := gd_some h
    refine k_iald hF shR_2 dX11_set_48 g8 ?_
    obtain ⟨n9, hn9, h⟩ := lt_some h
    refine k_st (st2 := [.int n9]) (by rw [hn9]) ?_
    refine k_istore hF (L' := [some (.ref (B + 0)), some (.int a1), some (.int a2), none, some (.int n9)]) dX11_set_49 (by decide) rfl ?_
    refine k_aload_n hF dX11_set_51 rfl ?_
    refine k_dup hF dX11_set_52 rfl ?_
    refine k_get hF (v := .int (gi v6.2 0 0)) shR_0 fl_X11_160_X11 dX11_set_53 rfl ?_
    refine k_iconst hF dX11_set_56 ci_1 ?_
    refine k_iadd hF dX11_set_57 ?_
    refine k_putI hF hA shR_0 fp_X11_160_X11 dX11_set_58 rfl rfl rfl ?_
    obtain ⟨σ10, hσ10, h⟩ := lt_some h
    refine k_sig hσ10 ?_
    refine k_aload_n hF dX11_set_61 rfl ?_
    refine k_iload_n hF dX11_set_62 rfl ?_
    refine k_iload_n hF dX11_set_63 rfl ?_
    obtain ⟨v11, hv11, h⟩ := bind_some h
    refine k_callV hF hA (as := [.int a1, .int a2]) (ct_X11_notes hbs hv11) mv_X11_184 shR_0 rfl rfl rfl ⟨Nat.le_of_ble_eq_true rfl, Nat.le_of_ble_eq_true rfl⟩ (Nat.le_of_ble_eq_true rfl) dX11_set_64 ?_
    refine k_st (st2 := []) rfl ?_
    refine k_iload hF dX11_set_67 rfl ?_
    cases h
    exact hr _ _ rfl dX11_set_69
  · replace h := ite_f c7 h
    refine k_iconst hF dX11_set_41 ci_0 ?_
    cases h
    exact hr _ _ rfl dX11_set_42
set_option maxHeartbeats 4000000 in
set_option maxRecDepth 100000 in
theorem wX11_set {p : Program} {l : Launch} {e : Env} {s : State} {m : MethodId} {args : Array Value} {below : List Frame} {meth : Method} {c : Code} {Q : State → Prop} {A : Nat → Prop} {D : DD} {base B : Nat} (hF : KF D base cX11_set RX11 A 5 0 0 p l e ({ frames := 3, cells := 0, slots := 0, locals := 68 } : Room) s m args below meth c) (hA : ∀ q, RA B shpR q → A q) (hbs : base ≤ B) {σ : St} {a1 : Int32} {a2 : Int32} {z : (Int32 × St)} (h : fX11_set σ a1 a2 = some z) (hr : ∀ (pc : Nat) (L : List (Option Value)), narrow .int (.int z.1) = .int z.1 → decode cX11_set pc = .ok (.ireturn, 1) → KJ (Rep D B shpR) A 5 0 0 Q p l e ({ frames := 3, cells := 0, slots := 0, locals := 68 } : Room) s m args below meth c 0 0 pc L [.int z.1] z.2) : KJ (Rep D B shpR) A 5 0 0 Q p l e ({ frames := 3, cells := 0, slots := 0, locals := 68 } : Room) s m args below meth c 0 0 0 [some (.ref (B + 0)), some (.int a1), some (.int a2), none, none] [] σ := by
  unfold fX11_set at h
  refine k_aload_n hF dX11_set_0 rfl ?_
  refine k_iload_n hF dX11_set_1 rfl ?_
  obtain ⟨v1, hv1, h⟩ := bind_some h
  refine k_callV hF hA (as := [.int a1]) (ct_X11_isNode hbs hv1) mv_X11_163 shR_0 rfl rfl rfl ⟨Nat.le_of_ble_eq_true rfl, Nat.le_of_ble_eq_true rfl⟩ (Nat.le_of_ble_eq_true rfl) dX11_set_2 ?_
  refine k_st (st2 := [.int v1]) rfl ?_
  refine k_istore_n hF (L' := [some (.ref (B + 0)), some (.int a1), some (.int a2), some (.int v1), none]) dX11_set_5 (by decide) rfl ?_
  refine k_aload_n hF dX11_set_6 rfl ?_
  refine k_iload_n hF dX11_set_7 rfl ?_
  refine k_if_ne hF (tgt := 15) dX11_set_8 (by decide) (fun c2 => ?_) (fun c2 => ?_)
  · replace h := ite_f c2 h
    refine k_aload_n hF dX11_set_15 rfl ?_
    refine k_iload_n hF dX11_set_16 rfl ?_
    refine k_aload_n hF dX11_set_17 rfl ?_
    refine k_get hF (v := .ref (B + 1)) shR_0 fl_X11_7_X11 dX11_set_18 rfl ?_
    refine k_iload_n hF dX11_set_21 rfl ?_
    obtain ⟨g3, h⟩ := gd_some h
    refine k_iald hF shR_1 dX11_set_22 g3 ?_
    refine k_iload_n hF dX11_set_23 rfl ?_
    obtain ⟨v4, hv4, h⟩ := bind_some h
    refine k_callV hF hA (as := [.int a1, .int (gi σ 1 a1.toNatClampNeg), .int a2]) (ct_X11_breaksKey hbs hv4) mv_X11_178 shR_0 rfl rfl rfl ⟨Nat.le_of_ble_eq_true rfl, Nat.le_of_ble_eq_true rfl⟩ (Nat.le_of_ble_eq_true rfl) dX11_set_24 ?_
    refine k_st (st2 := [.int v4, .ref (B + 0)]) rfl ?_
    refine k_if_eq hF (tgt := 34) dX11_set_27 (by decide) (fun c5 => ?_) (fun c5 => ?_)
    · replace h := ite_t c5 h
      refine k_iconst hF dX11_set_34 ci_0 ?_
      refine k_kill 3 rfl ?_
      exact wX11_set_j35 hF hA hbs h hr
    · replace h := ite_f c5 h
      refine k_iconst hF dX11_set_30 ci_2 ?_
      refine k_goto hF dX11_set_31 (tgt := 35) (by decide) ?_
      refine k_kill 3 rfl ?_
      exact wX11_set_j35 hF hA hbs h hr
  · replace h := ite_t c2 h
    refine k_iconst hF dX11_set_11 ci_1 ?_
    refine k_goto hF dX11_set_12 (tgt := 35) (by decide) ?_
    refine k_kill 3 rfl ?_
    exact wX11_set_j35 hF hA hbs h hr
theorem ct_X11_set {l : Launch} {D : DD} {base B : Nat} (hbs : base ≤ B) {σ : St} {a1 : Int32} {a2 : Int32} {r : (Int32 × St)} (h : fX11_set σ a1 a2 = some r) : MetR l D B shpR base yX11_set cX11_set 5 (some .int) 3 68 [.ref (B + 0), .int a1, .int a2] σ (some (.int r.1)) r.2 :=
  MetR.of (by decide +kernel) (fun v hv => by simp only [List.mem_cons, List.not_mem_nil, or_false] at hv; rcases hv with rfl | rfl | rfl <;> rfl) (Nat.le_of_ble_eq_true rfl) hbs (fun p e s m args below meth c hF hr => wX11_set hF (fun q hq => hq) hbs h (fun pc L hn hd => k_iret hF hr hn hd))
set_option maxHeartbeats 4000000 in
set_option maxRecDepth 100000 in
theorem wX11_wakes_l2 {p : Program} {l : Launch} {e : Env} {s : State} {m : MethodId} {args : Array Value} {below : List Frame} {meth : Method} {c : Code} {Q : State → Prop} {A : Nat → Prop} {D : DD} {base B : Nat} (hF : KF D base cX11_wakes RX11 A 2 0 0 p l e ({ frames := 2, cells := 0, slots := 0, locals := 43 } : Room) s m args below meth c) (hA : ∀ q, RA B shpR q → A q) (hbs : base ≤ B) {σ : St} {x : (St × Int32)} {z : ((St × Int32) ⊕ (St × Int32))} (h : fX11_wakes_l2 σ x = some z) (hc : ∀ x, z = .inl x → KJ (Rep D B shpR) A 2 0 0 Q p l e ({ frames := 2, cells := 0, slots := 0, locals := 43 } : Room) s m args below meth c 0 0 2 [some (.ref (B + 0)), some (.int x.2)] [] x.1) (he : ∀ w, z = .inr w → KJ (Rep D B shpR) A 2 0 0 Q p l e ({ frames := 2, cells := 0, slots := 0, locals := 43 } : Room) s m args below meth c 0 0 34 [some (.ref (B + 0)), some (.int w.2)] [] w.1) : KJ (Rep D B shpR) A 2 0 0 Q p l e ({ frames := 2, cells := 0, slots := 0, locals := 43 } : Room) s m args below meth c 0 0 2 [some (.ref (B + 0)), some (.int x.2)] [] x.1 := by
  unfold fX11_wakes_l2 at h
  refine k_iload_n hF dX11_wakes_2 rfl ?_
  refine k_aload_n hF dX11_wakes_3 rfl ?_
  refine k_get hF (v := .int (gi x.1 0 1)) shR_0 fl_X11_150_X11 dX11_wakes_4 rfl ?_
  refine k_icmp_ge hF (tgt := 34) dX11_wakes_7 (by decide) (fun c1 => ?_) (fun c1 => ?_)
  · replace h := ite_t c1 h
    exact he _ (Option.some.inj h).symm
  · replace h := ite_f c1 h
    refine k_aload_n hF dX11_wakes_10 rfl ?_
    refine k_get hF (v := .ref (B + 7)) shR_0 fl_X11_28_X11 dX11_wakes_11 rfl ?_
    refine k_iload_n hF dX11_wakes_14 rfl ?_
    refine k_iload_n hF dX11_wakes_15 rfl ?_
    obtain ⟨g2, h⟩ := gd_some h
    refine k_iast hF hA shR_7 dX11_wakes_16 g2 ?_
    obtain ⟨σ3, hσ3, h⟩ := lt_some h
    refine k_sig hσ3 ?_
    refine k_aload_n hF dX11_wakes_17 rfl ?_
    refine k_get hF (v := .ref (B + 8)) shR_0 fl_X11_31_X11 dX11_wakes_18 rfl ?_
    refine k_iload_n hF dX11_wakes_21 rfl ?_
    refine k_aload_n hF dX11_wakes_22 rfl ?_
    refine k_iload_n hF dX11_wakes_23 rfl ?_
    obtain ⟨v4, hv4, h⟩ := bind_some h
    refine k_callV hF hA (as := [.int x.2]) (ct_X11_isNode hbs hv4) mv_X11_163 shR_0 rfl rfl rfl ⟨Nat.le_of_ble_eq_true rfl, Nat.le_of_ble_eq_true rfl⟩ (Nat.le_of_ble_eq_true rfl) dX11_wakes_24 ?_
    refine k_st (st2 := [.int v4, .int x.2, .ref (B + 8)]) rfl ?_
    obtain ⟨g5, h⟩ := gd_some h
    obtain ⟨g6, h⟩ := gd_some h
    refine k_zast hF hA shR_8 dX11_wakes_27 g5 (nar_z g6) ?_
    obtain ⟨σ7, hσ7, h⟩ := lt_some h
    refine k_sig hσ7 ?_
    refine k_iinc hF (v := (x.2 + (1 : Int32))) (L' := [some (.ref (B + 0)), some (.int (x.2 + (1 : Int32)))]) dX11_wakes_28 rfl (by first | rfl | (congr 1)) (by decide) rfl ?_
    refine k_goto hF dX11_wakes_31 (tgt := 2) (by decide) ?_
    exact hc _ (Option.some.inj h).symm
set_option maxHeartbeats 4000000 in
set_option maxRecDepth 100000 in
theorem wX11_wakes {p : Program} {l : Launch} {e : Env} {s : State} {m : MethodId} {args : Array Value} {below : List Frame} {meth : Method} {c : Code} {Q : State → Prop} {A : Nat → Prop} {D : DD} {base B : Nat} (hF : KF D base cX11_wakes RX11 A 2 0 0 p l e ({ frames := 2, cells := 0, slots := 0, locals := 43 } : Room) s m args below meth c) (hA : ∀ q, RA B shpR q → A q) (hbs : base ≤ B) {σ : St} {z : St} (h : fX11_wakes σ = some z) (hr : ∀ (pc : Nat) (L : List (Option Value)), decode cX11_wakes pc = .ok (.return_, 1) → KJ (Rep D B shpR) A 2 0 0 Q p l e ({ frames := 2, cells := 0, slots := 0, locals := 43 } : Room) s m args below meth c 0 0 pc L [] z) : KJ (Rep D B shpR) A 2 0 0 Q p l e ({ frames := 2, cells := 0, slots := 0, locals := 43 } : Room) s m args below meth c 0 0 0 [some (.ref (B + 0)), none] [] σ := by
  unfold fX11_wakes at h
  refine k_iconst hF dX11_wakes_0 ci_0 ?_
  refine k_istore_n hF (L' := [some (.ref (B + 0)), some (.int (0 : Int32))]) dX11_wakes_1 (by decide) rfl ?_
  obtain ⟨x8, hx8, h⟩ := bind_some h
  refine k_loop (P := fun xq => KJ (Rep D B shpR) A 2 0 0 Q p l e ({ frames := 2, cells := 0, slots := 0, locals := 43 } : Room) s m args below meth c 0 0 2 [some (.ref (B + 0)), some (.int xq.2)] [] xq.1) (C := fun xq => KJ (Rep D B shpR) A 2 0 0 Q p l e ({ frames := 2, cells := 0, slots := 0, locals := 43 } : Room) s m args below meth c 0 0 34 [some (.ref (B + 0)), some (.int xq.2)] [] xq.1) (fun x z hz hc he => wX11_wakes_l2 hF hA hbs hz hc he) hx8 ?_
  show KJ (Rep D B shpR) A 2 0 0 Q p l e ({ frames := 2, cells := 0, slots := 0, locals := 43 } : Room) s m args below meth c 0 0 34 [some (.ref (B + 0)), some (.int x8.2)] [] x8.1
  cases h
  exact hr _ _ dX11_wakes_34
theorem ct_X11_wakes {l : Launch} {D : DD} {base B : Nat} (hbs : base ≤ B) {σ : St} {r : St} (h : fX11_wakes σ = some r) : MetR l D B shpR base yX11_wakes cX11_wakes 2 none 2 43 [.ref (B + 0)] σ none r :=
  MetR.of (by decide +kernel) (fun v hv => by simp only [List.mem_cons, List.not_mem_nil, or_false] at hv; rcases hv with rfl <;> rfl) (Nat.le_of_ble_eq_true rfl) hbs (fun p e s m args below meth c hF hr => wX11_wakes hF (fun q hq => hq) hbs h (fun pc L hd => k_vret hF hr hd))
set_option maxHeartbeats 4000000 in
set_option maxRecDepth 100000 in
theorem wX11_drops {p : Program} {l : Launch} {e : Env} {s : State} {m : MethodId} {args : Array Value} {below : List Frame} {meth : Method} {c : Code} {Q : State → Prop} {A : Nat → Prop} {D : DD} {base B : Nat} (hF : KF D base cX11_drops RX11 A 2 0 0 p l e ({ frames := 0, cells := 0, slots := 0, locals := 0 } : Room) s m args below meth c) (hA : ∀ q, RA B shpR q → A q) (hbs : base ≤ B) {σ : St} {a1 : Int32} {z : St} (h : fX11_drops σ a1 = some z) (hr : ∀ (pc : Nat) (L : List (Option Value)), decode cX11_drops pc = .ok (.return_, 1) → KJ (Rep D B shpR) A 2 0 0 Q p l e ({ frames := 0, cells := 0, slots := 0, locals := 0 } : Room) s m args below meth c 0 0 pc L [] z) : KJ (Rep D B shpR) A 2 0 0 Q p l e ({ frames := 0, cells := 0, slots := 0, locals := 0 } : Room) s m args below meth c 0 0 0 [some (.ref (B + 0)), some (.int a1)] [] σ := by
  unfold fX11_drops at h
  refine k_aload_n hF dX11_drops_0 rfl ?_
  refine k_get hF (v := .ref (B + 17)) shR_0 fl_X11_60_X11 dX11_drops_1 rfl ?_
  refine k_iload_n hF dX11_drops_4 rfl ?_
  refine k_aload_n hF dX11_drops_5 rfl ?_
  refine k_get hF (v := .int (gi σ 0 0)) shR_0 fl_X11_160_X11 dX11_drops_6 rfl ?_
  obtain ⟨g1, h⟩ := gd_some h
  refine k_iast hF hA shR_17 dX11_drops_9 g1 ?_
  obtain ⟨σ2, hσ2, h⟩ := lt_some h
  refine k_sig hσ2 ?_
  refine k_aload_n hF dX11_drops_10 rfl ?_
  refine k_get hF (v := .ref (B + 6)) shR_0 fl_X11_25_X11 dX11_drops_11 rfl ?_
  refine k_aload_n hF dX11_drops_14 rfl ?_
  refine k_get hF (v := .ref (B + 13)) shR_0 fl_X11_48_X11 dX11_drops_15 rfl ?_
  refine k_iload_n hF dX11_drops_18 rfl ?_
  obtain ⟨g3, h⟩ := gd_some h
  refine k_iald hF shR_13 dX11_drops_19 g3 ?_
  refine k_aload_n hF dX11_drops_20 rfl ?_
  refine k_get hF (v := .int (gi σ2 0 0)) shR_0 fl_X11_160_X11 dX11_drops_21 rfl ?_
  obtain ⟨g4, h⟩ := gd_some h
  refine k_iast hF hA shR_6 dX11_drops_24 g4 ?_
  obtain ⟨σ5, hσ5, h⟩ := lt_some h
  refine k_sig hσ5 ?_
  refine k_aload_n hF dX11_drops_25 rfl ?_
  refine k_get hF (v := .ref (B + 6)) shR_0 fl_X11_25_X11 dX11_drops_26 rfl ?_
  refine k_aload_n hF dX11_drops_29 rfl ?_
  refine k_get hF (v := .ref (B + 14)) shR_0 fl_X11_51_X11 dX11_drops_30 rfl ?_
  refine k_iload_n hF dX11_drops_33 rfl ?_
  obtain ⟨g6, h⟩ := gd_some h
  refine k_iald hF shR_14 dX11_drops_34 g6 ?_
  refine k_aload_n hF dX11_drops_35 rfl ?_
  refine k_get hF (v := .int (gi σ5 0 0)) shR_0 fl_X11_160_X11 dX11_drops_36 rfl ?_
  obtain ⟨g7, h⟩ := gd_some h
  refine k_iast hF hA shR_6 dX11_drops_39 g7 ?_
  obtain ⟨σ8, hσ8, h⟩ := lt_some h
  refine k_sig hσ8 ?_
  cases h
  exact hr _ _ dX11_drops_40
theorem ct_X11_drops {l : Launch} {D : DD} {base B : Nat} (hbs : base ≤ B) {σ : St} {a1 : Int32} {r : St} (h : fX11_drops σ a1 = some r) : MetR l D B shpR base yX11_drops cX11_drops 2 none 0 0 [.ref (B + 0), .int a1] σ none r :=
  MetR.of (by decide +kernel) (fun v hv => by simp only [List.mem_cons, List.not_mem_nil, or_false] at hv; rcases hv with rfl | rfl <;> rfl) (Nat.le_of_ble_eq_true rfl) hbs (fun p e s m args below meth c hF hr => wX11_drops hF (fun q hq => hq) hbs h (fun pc L hd => k_vret hF hr hd))
set_option maxHeartbeats 4000000 in
set_option maxRecDepth 100000 in
theorem wX11_dropEdge_j14 {p : Program} {l : Launch} {e : Env} {s : State} {m : MethodId} {args : Array Value} {below : List Frame} {meth : Method} {c : Code} {Q : State → Prop} {A : Nat → Prop} {D : DD} {base B : Nat} (hF : KF D base cX11_dropEdge RX11 A 2 0 0 p l e ({ frames := 3, cells := 0, slots := 0, locals := 64 } : Room) s m args below meth c) (hA : ∀ q, RA B shpR q → A q) (hbs : base ≤ B) {σ : St} {a1 : Int32} {t0 : Int32} {z : (Int32 × St)} (h : fX11_dropEdge_j14 σ a1 t0 = some z) (hr : ∀ (pc : Nat) (L : List (Option Value)), narrow .int (.int z.1) = .int z.1 → decode cX11_dropEdge pc = .ok (.ireturn, 1) → KJ (Rep D B shpR) A 2 0 0 Q p l e ({ frames := 3, cells := 0, slots := 0, locals := 64 } : Room) s m args below meth c 0 0 pc L [.int z.1] z.2) : KJ (Rep D B shpR) A 2 0 0 Q p l e ({ frames := 3, cells := 0, slots := 0, locals := 64 } : Room) s m args below meth c 0 0 14 [some (.ref (B + 0)), some (.int a1)] [.int t0, .ref (B + 0)] σ := by
  unfold fX11_dropEdge_j14 at h
  obtain ⟨v3, hv3, h⟩ := bind_some h
  refine k_callV hF hA (as := [.int t0]) (ct_X11_fails hbs hv3) mv_X11_181 shR_0 rfl rfl rfl ⟨Nat.le_of_ble_eq_true rfl, Nat.le_of_ble_eq_true rfl⟩ (Nat.le_of_ble_eq_true rfl) dX11_dropEdge_14 ?_
  refine k_st (st2 := [.int v3.1]) rfl ?_
  refine k_if_eq hF (tgt := 22) dX11_dropEdge_17 (by decide) (fun c4 => ?_) (fun c4 => ?_)
  · replace h := ite_t c4 h
    refine k_aload_n hF dX11_dropEdge_22 rfl ?_
    refine k_dup hF dX11_dropEdge_23 rfl ?_
    refine k_get hF (v := .int (gi v3.2 0 0)) shR_0 fl_X11_160_X11 dX11_dropEdge_24 rfl ?_
    refine k_iconst hF dX11_dropEdge_27 ci_1 ?_
    refine k_iadd hF dX11_dropEdge_28 ?_
    refine k_putI hF hA shR_0 fp_X11_160_X11 dX11_dropEdge_29 rfl rfl rfl ?_
    obtain ⟨σ5, hσ5, h⟩ := lt_some h
    refine k_sig hσ5 ?_
    refine k_aload_n hF dX11_dropEdge_32 rfl ?_
    refine k_iload_n hF dX11_dropEdge_33 rfl ?_
    obtain ⟨v6, hv6, h⟩ := bind_some h
    refine k_callV hF hA (as := [.int a1]) (ct_X11_drops hbs hv6) mv_X11_198 shR_0 rfl rfl rfl ⟨Nat.le_of_ble_eq_true rfl, Nat.le_of_ble_eq_true rfl⟩ (Nat.le_of_ble_eq_true rfl) dX11_dropEdge_34 ?_
    refine k_st (st2 := []) rfl ?_
    refine k_aload_n hF dX11_dropEdge_37 rfl ?_
    obtain ⟨v7, hv7, h⟩ := bind_some h
    refine k_callV hF hA (as := []) (ct_X11_wakes hbs hv7) mv_X11_202 shR_0 rfl rfl rfl ⟨Nat.le_of_ble_eq_true rfl, Nat.le_of_ble_eq_true rfl⟩ (Nat.le_of_ble_eq_true rfl) dX11_dropEdge_38 ?_
    refine k_st (st2 := []) rfl ?_
    refine k_aload_n hF dX11_dropEdge_41 rfl ?_
    refine k_get hF (v := .int (gi v7 0 0)) shR_0 fl_X11_160_X11 dX11_dropEdge_42 rfl ?_
    cases h
    exact hr _ _ rfl dX11_dropEdge_45
  · replace h := ite_f c4 h
    refine k_iconst hF dX11_dropEdge_20 ci_0 ?_
    cases h
    exact hr _ _ rfl dX11_dropEdge_21
set_option maxHeartbeats 4000000 in
set_option maxRecDepth 100000 in
theorem wX11_dropEdge {p : Program} {l : Launch} {e : Env} {s : State} {m : MethodId} {args : Array Value} {below : List Frame} {meth : Method} {c : Code} {Q : State → Prop} {A : Nat → Prop} {D : DD} {base B : Nat} (hF : KF D base cX11_dropEdge RX11 A 2 0 0 p l e ({ frames := 3, cells := 0, slots := 0, locals := 64 } : Room) s m args below meth c) (hA : ∀ q, RA B shpR q → A q) (hbs : base ≤ B) {σ : St} {a1 : Int32} {z : (Int32 × St)} (h : fX11_dropEdge σ a1 = some z) (hr : ∀ (pc : Nat) (L : List (Option Value)), narrow .int (.int z.1) = .int z.1 → decode cX11_dropEdge pc = .ok (.ireturn, 1) → KJ (Rep D B shpR) A 2 0 0 Q p l e ({ frames := 3, cells := 0, slots := 0, locals := 64 } : Room) s m args below meth c 0 0 pc L [.int z.1] z.2) : KJ (Rep D B shpR) A 2 0 0 Q p l e ({ frames := 3, cells := 0, slots := 0, locals := 64 } : Room) s m args below meth c 0 0 0 [some (.ref (B + 0)), some (.int a1)] [] σ := by
  unfold fX11_dropEdge at h
  refine k_aload_n hF dX11_dropEdge_0 rfl ?_
  refine k_aload_n hF dX11_dropEdge_1 rfl ?_
  refine k_iload_n hF dX11_dropEdge_2 rfl ?_
  obtain ⟨v1, hv1, h⟩ := bind_some h
  refine k_callV hF hA (as := [.int a1]) (ct_X11_isEdge hbs hv1) mv_X11_195 shR_0 rfl rfl rfl ⟨Nat.le_of_ble_eq_true rfl, Nat.le_of_ble_eq_true rfl⟩ (Nat.le_of_ble_eq_true rfl) dX11_dropEdge_3 ?_
  refine k_st (st2 := [.int v1, .ref (B + 0)]) rfl ?_
  refine k_if_eq hF (tgt := 13) dX11_dropEdge_6 (by decide) (fun c2 => ?_) (fun c2 => ?_)
  · replace h := ite_t c2 h
    refine k_iconst hF dX11_dropEdge_13 ci_1 ?_
    exact wX11_dropEdge_j14 hF hA hbs h hr
  · replace h := ite_f c2 h
    refine k_iconst hF dX11_dropEdge_9 ci_0 ?_
    refine k_goto hF dX11_dropEdge_10 (tgt := 14) (by decide) ?_
    exact wX11_dropEdge_j14 hF hA hbs h hr
theorem ct_X11_dropEdge {l : Launch} {D : DD} {base B : Nat} (hbs : base ≤ B) {σ : St} {a1 : Int32} {r : (Int32 × St)} (h : fX11_dropEdge σ a1 = some r) : MetR l D B shpR base yX11_dropEdge cX11_dropEdge 2 (some .int) 3 64 [.ref (B + 0), .int a1] σ (some (.int r.1)) r.2 :=
  MetR.of (by decide +kernel) (fun v hv => by simp only [List.mem_cons, List.not_mem_nil, or_false] at hv; rcases hv with rfl | rfl <;> rfl) (Nat.le_of_ble_eq_true rfl) hbs (fun p e s m args below meth c hF hr => wX11_dropEdge hF (fun q hq => hq) hbs h (fun pc L hn hd => k_iret hF hr hn hd))
set_option maxHeartbeats 4000000 in
set_option maxRecDepth 100000 in
theorem wX11_dropNode_j80 {p : Program} {l : Launch} {e : Env} {s : State} {m : MethodId} {args : Array Value} {below : List Frame} {meth : Method} {c : Code} {Q : State → Prop} {A : Nat → Prop} {D : DD} {base B : Nat} (hF : KF D base cX11_dropNode RX11 A 4 0 0 p l e ({ frames := 3, cells := 0, slots := 0, locals := 64 } : Room) s m args below meth c) (hA : ∀ q, RA B shpR q → A q) (hbs : base ≤ B) {σ : St} {a1 : Int32} {b2 : Int32} {b3 : Int32} {z : ((St × Int32 × Int32) ⊕ (St × Int32 × Int32))} (h : fX11_dropNode_j80 σ a1 b2 b3 = some z) (hc : ∀ x, z = .inl x → KJ (Rep D B shpR) A 4 0 0 Q p l e ({ frames := 3, cells := 0, slots := 0, locals := 64 } : Room) s m args below meth c 0 0 36 [some (.ref (B + 0)), some (.int a1), some (.int x.2.1), some (.int x.2.2)] [] x.1) (he : ∀ w, z = .inr w → KJ (Rep D B shpR) A 4 0 0 Q p l e ({ frames := 3, cells := 0, slots := 0, locals := 64 } : Room) s m args below meth c 0 0 86 [some (.ref (B + 0)), some (.int a1), some (.int w.2.1), some (.int w.2.2)] [] w.1) : KJ (Rep D B shpR) A 4 0 0 Q p l e ({ frames := 3, cells := 0, slots := 0, locals := 64 } : Room) s m args below meth c 0 0 80 [some (.ref (B + 0)), some (.int a1), some (.int b2), some (.int b3)] [] σ := by
  unfold fX11_dropNode_j80 at h
  refine k_iinc hF (v := (b3 + (1 : Int32))) (L' := [some (.ref (B + 0)), some (.int a1), some (.int b2), some (.int (b3 + (1 : Int32)))]) dX11_dropNode_80 rfl (by first | rfl | (congr 1)) (by decide) rfl ?_
  refine k_goto hF dX11_dropNode_83 (tgt := 36) (by decide) ?_
  exact hc _ (Option.some.inj h).symm
set_option maxHeartbeats 4000000 in
set_option maxRecDepth 100000 in
theorem wX11_dropNode_j72 {p : Program} {l : Launch} {e : Env} {s : State} {m : MethodId} {args : Array Value} {below : List Frame} {meth : Method} {c : Code} {Q : State → Prop} {A : Nat → Prop} {D : DD} {base B : Nat} (hF : KF D base cX11_dropNode RX11 A 4 0 0 p l e ({ frames := 3, cells := 0, slots := 0, locals := 64 } : Room) s m args below meth c) (hA : ∀ q, RA B shpR q → A q) (hbs : base ≤ B) {σ : St} {a1 : Int32} {b2 : Int32} {b3 : Int32} {z : ((St × Int32 × Int32) ⊕ (St × Int32 × Int32))} (h : fX11_dropNode_j72 σ a1 b2 b3 = some z) (hc : ∀ x, z = .inl x → KJ (Rep D B shpR) A 4 0 0 Q p l e ({ frames := 3, cells := 0, slots := 0, locals := 64 } : Room) s m args below meth c 0 0 36 [some (.ref (B + 0)), some (.int a1), some (.int x.2.1), some (.int x.2.2)] [] x.1) (he : ∀ w, z = .inr w → KJ (Rep D B shpR) A 4 0 0 Q p l e ({ frames := 3, cells := 0, slots := 0, locals := 64 } : Room) s m args below meth c 0 0 86 [some (.ref (B + 0)), some (.int a1), some (.int w.2.1), some (.int w.2.2)] [] w.1) : KJ (Rep D B shpR) A 4 0 0 Q p l e ({ frames := 3, cells := 0, slots := 0, locals := 64 } : Room) s m args below meth c 0 0 72 [some (.ref (B + 0)), some (.int a1), some (.int b2), some (.int b3)] [] σ := by
  unfold fX11_dropNode_j72 at h
  refine k_aload_n hF dX11_dropNode_72 rfl ?_
  refine k_iload_n hF dX11_dropNode_73 rfl ?_
  obtain ⟨v11, hv11, h⟩ := bind_some h
  refine k_callV hF hA (as := [.int b3]) (ct_X11_drops hbs hv11) mv_X11_198 shR_0 rfl rfl rfl ⟨Nat.le_of_ble_eq_true rfl, Nat.le_of_ble_eq_true rfl⟩ (Nat.le_of_ble_eq_true rfl) dX11_dropNode_74 ?_
  refine k_st (st2 := []) rfl ?_
  refine k_iinc hF (v := (b2 + (1 : Int32))) (L' := [some (.ref (B + 0)), some (.int a1), some (.int (b2 + (1 : Int32))), some (.int b3)]) dX11_dropNode_77 rfl (by first | rfl | (congr 1)) (by decide) rfl ?_
  exact wX11_dropNode_j80 hF hA hbs h hc he
set_option maxHeartbeats 4000000 in
set_option maxRecDepth 100000 in
theorem wX11_dropNode_l36 {p : Program} {l : Launch} {e : Env} {s : State} {m : MethodId} {args : Array Value} {below : List Frame} {meth : Method} {c : Code} {Q : State → Prop} {A : Nat → Prop} {D : DD} {base B : Nat} (hF : KF D base cX11_dropNode RX11 A 4 0 0 p l e ({ frames := 3, cells := 0, slots := 0, locals := 64 } : Room) s m args below meth c) (hA : ∀ q, RA B shpR q → A q) (hbs : base ≤ B) {σ : St} {a1 : Int32} {x : (St × Int32 × Int32)} {z : ((St × Int32 × Int32) ⊕ (St × Int32 × Int32))} (h : fX11_dropNode_l36 σ a1 x = some z) (hc : ∀ x, z = .inl x → KJ (Rep D B shpR) A 4 0 0 Q p l e ({ frames := 3, cells := 0, slots := 0, locals := 64 } : Room) s m args below meth c 0 0 36 [some (.ref (B + 0)), some (.int a1), some (.int x.2.1), some (.int x.2.2)] [] x.1) (he : ∀ w, z = .inr w → KJ (Rep D B shpR) A 4 0 0 Q p l e ({ frames := 3, cells := 0, slots := 0, locals := 64 } : Room) s m args below meth c 0 0 86 [some (.ref (B + 0)), some (.int a1), some (.int w.2.1), some (.int w.2.2)] [] w.1) : KJ (Rep D B shpR) A 4 0 0 Q p l e ({ frames := 3, cells := 0, slots := 0, locals := 64 } : Room) s m args below meth c 0 0 36 [some (.ref (B + 0)), some (.int a1), some (.int x.2.1), some (.int x.2.2)] [] x.1 := by
  unfold fX11_dropNode_l36 at h
  refine k_iload_n hF dX11_dropNode_36 rfl ?_
  refine k_aload_n hF dX11_dropNode_37 rfl ?_
  refine k_get hF (v := .int (gi x.1 0 15)) shR_0 fl_X11_154_X11 dX11_dropNode_38 rfl ?_
  refine k_icmp_ge hF (tgt := 86) dX11_dropNode_41 (by decide) (fun c6 => ?_) (fun c6 => ?_)
  · replace h := ite_t c6 h
    exact he _ (Option.some.inj h).symm
  · replace h := ite_f c6 h
    refine k_aload_n hF dX11_dropNode_44 rfl ?_
    refine k_iload_n hF dX11_dropNode_45 rfl ?_
    obtain ⟨v7, hv7, h⟩ := bind_some h
    refine k_callV hF hA (as := [.int x.2.2]) (ct_X11_isEdge hbs hv7) mv_X11_195 shR_0 rfl rfl rfl ⟨Nat.le_of_ble_eq_true rfl, Nat.le_of_ble_eq_true rfl⟩ (Nat.le_of_ble_eq_true rfl) dX11_dropNode_46 ?_
    refine k_st (st2 := [.int v7]) rfl ?_
    refine k_if_eq hF (tgt := 80) dX11_dropNode_49 (by decide) (fun c8 => ?_) (fun c8 => ?_)
    · replace h := ite_t c8 h
      exact wX11_dropNode_j80 hF hA hbs h hc he
    · replace h := ite_f c8 h
      refine k_aload_n hF dX11_dropNode_52 rfl ?_
      refine k_get hF (v := .ref (B + 13)) shR_0 fl_X11_48_X11 dX11_dropNode_53 rfl ?_
      refine k_iload_n hF dX11_dropNode_56 rfl ?_
      obtain ⟨g9, h⟩ := gd_some h
      refine k_iald hF shR_13 dX11_dropNode_57 g9 ?_
      refine k_iload_n hF dX11_dropNode_58 rfl ?_
      refine k_icmp_eq hF (tgt := 72) dX11_dropNode_59 (by decide) (fun c10 => ?_) (fun c10 => ?_)
      · replace h := ite_t c10 h
        exact wX11_dropNode_j72 hF hA hbs h hc he
      · replace h := ite_f c10 h
        refine k_aload_n hF dX11_dropNode_62 rfl ?_
        refine k_get hF (v := .ref (B + 14)) shR_0 fl_X11_51_X11 dX11_dropNode_63 rfl ?_
        refine k_iload_n hF dX11_dropNode_66 rfl ?_
        obtain ⟨g12, h⟩ := gd_some h
        refine k_iald hF shR_14 dX11_dropNode_67 g12 ?_
        refine k_iload_n hF dX11_dropNode_68 rfl ?_
        refine k_icmp_ne hF (tgt := 80) dX11_dropNode_69 (by decide) (fun c13 => ?_) (fun c13 => ?_)
        · replace h := ite_f c13 h
          exact wX11_dropNode_j80 hF hA hbs h hc he
        · replace h := ite_t c13 h
          exact wX11_dropNode_j72 hF hA hbs h hc he
set_option maxHeartbeats 4000000 in
set_option maxRecDepth 100000 in
theorem wX11_dropNode_j14 {p : Program} {l : Launch} {e : Env} {s : State} {m : MethodId} {args : Array Value} {below : List Frame} {meth : Method} {c : Code} {Q : State → Prop} {A : Nat → Prop} {D : DD} {base B : Nat} (hF : KF D base cX11_dropNode RX11 A 4 0 0 p l e ({ frames := 3, cells := 0, slots := 0, locals := 64 } : Room) s m args below meth c) (hA : ∀ q, RA B shpR q → A q) (hbs : base ≤ B) {σ : St} {a1 : Int32} {t0 : Int32} {z : (Int32 × St)} (h : fX11_dropNode_j14 σ a1 t0 = some z) (hr : ∀ (pc : Nat) (L : List (Option Value)), narrow .int (.int z.1) = .int z.1 → decode cX11_dropNode pc = .ok (.ireturn, 1) → KJ (Rep D B shpR) A 4 0 0 Q p l e ({ frames := 3, cells := 0, slots := 0, locals := 64 } : Room) s m args below meth c 0 0 pc L [.int z.1] z.2) : KJ (Rep D B shpR) A 4 0 0 Q p l e ({ frames := 3, cells := 0, slots := 0, locals := 64 } : Room) s m args below meth c 0 0 14 [some (.ref (B + 0)), some (.int a1), none, none] [.int t0, .ref (B + 0)] σ := by
  unfold fX11_dropNode_j14 at h
  obtain ⟨v3, hv3, h⟩ := bind_some h
  refine k_callV hF hA (as := [.int t0]) (ct_X11_fails hbs hv3) mv_X11_181 shR_0 rfl rfl rfl ⟨Nat.le_of_ble_eq_true rfl, Nat.le_of_ble_eq_true rfl⟩ (Nat.le_of_ble_eq_true rfl) dX11_dropNode_14 ?_
  refine k_st (st2 := [.int v3.1]) rfl ?_
  refine k_if_eq hF (tgt := 22) dX11_dropNode_17 (by decide) (fun c4 => ?_) (fun c4 => ?_)
  · replace h := ite_t c4 h
    refine k_aload_n hF dX11_dropNode_22 rfl ?_
    refine k_dup hF dX11_dropNode_23 rfl ?_
    refine k_get hF (v := .int (gi v3.2 0 0)) shR_0 fl_X11_160_X11 dX11_dropNode_24 rfl ?_
    refine k_iconst hF dX11_dropNode_27 ci_1 ?_
    refine k_iadd hF dX11_dropNode_28 ?_
    refine k_putI hF hA shR_0 fp_X11_160_X11 dX11_dropNode_29 rfl rfl rfl ?_
    obtain ⟨σ5, hσ5, h⟩ := lt_some h
    refine k_sig hσ5 ?_
    refine k_iconst hF dX11_dropNode_32 ci_0 ?_
    refine k_istore_n hF (L' := [some (.ref (B + 0)), some (.int a1), some (.int (0 : Int32)), none]) dX11_dropNode_33 (by decide) rfl ?_
    refine k_iconst hF dX11_dropNode_34 ci_0 ?_
    refine k_istore_n hF (L' := [some (.ref (B + 0)), some (.int a1), some (.int (0 : Int32)), some (.int (0 : Int32))]) dX11_dropNode_35 (by decide) rfl ?_
    obtain ⟨x14, hx14, h⟩ := bind_some h
    refine k_loop (P := fun xq => KJ (Rep D B shpR) A 4 0 0 Q p l e ({ frames := 3, cells := 0, slots := 0, locals := 64 } : Room) s m args below meth c 0 0 36 [some (.ref (B + 0)), some (.int a1), some (.int xq.2.1), some (.int xq.2.2)] [] xq.1) (C := fun xq => KJ (Rep D B shpR) A 4 0 0 Q p l e ({ frames := 3, cells := 0, slots := 0, locals := 64 } : Room) s m args below meth c 0 0 86 [some (.ref (B + 0)), some (.int a1), some (.int xq.2.1), some (.int xq.2.2)] [] xq.1) (fun x z hz hc he => wX11_dropNode_l36 hF hA hbs hz hc he) hx14 ?_
    show KJ (Rep D B shpR) A 4 0 0 Q p l e ({ frames := 3, cells := 0, slots := 0, locals := 64 } : Room) s m args below meth c 0 0 86 [some (.ref (B + 0)), some (.int a1), some (.int x14.2.1), some (.int x14.2.2)] [] x14.1
    refine k_aload_n hF dX11_dropNode_86 rfl ?_
    refine k_get hF (v := .ref (B + 5)) shR_0 fl_X11_22_X11 dX11_dropNode_87 rfl ?_
    refine k_iload_n hF dX11_dropNode_90 rfl ?_
    refine k_aload_n hF dX11_dropNode_91 rfl ?_
    refine k_get hF (v := .int (gi x14.1 0 0)) shR_0 fl_X11_160_X11 dX11_dropNode_92 rfl ?_
    obtain ⟨g15, h⟩ := gd_some h
    refine k_iast hF hA shR_5 dX11_dropNode_95 g15 ?_
    obtain ⟨σ16, hσ16, h⟩ := lt_some h
    refine k_sig hσ16 ?_
    refine k_aload_n hF dX11_dropNode_96 rfl ?_
    refine k_get hF (v := .ref (B + 6)) shR_0 fl_X11_25_X11 dX11_dropNode_97 rfl ?_
    refine k_iload_n hF dX11_dropNode_100 rfl ?_
    refine k_aload_n hF dX11_dropNode_101 rfl ?_
    refine k_get hF (v := .int (gi σ16 0 0)) shR_0 fl_X11_160_X11 dX11_dropNode_102 rfl ?_
    obtain ⟨g17, h⟩ := gd_some h
    refine k_iast hF hA shR_6 dX11_dropNode_105 g17 ?_
    obtain ⟨σ18, hσ18, h⟩ := lt_some h
    refine k_sig hσ18 ?_
    refine k_aload_n hF dX11_dropNode_106 rfl ?_
    obtain ⟨v19, hv19, h⟩ := bind_some h
    refine k_callV hF hA (as := []) (ct_X11_wakes hbs hv19) mv_X11_202 shR_0 rfl rfl rfl ⟨Nat.le_of_ble_eq_true rfl, Nat.le_of_ble_eq_true rfl⟩ (Nat.le_of_ble_eq_true rfl) dX11_dropNode_107 ?_
    refine k_st (st2 := []) rfl ?_
    refine k_iload_n hF dX11_dropNode_110 rfl ?_
    cases h
    exact hr _ _ rfl dX11_dropNode_111
  · replace h := ite_f c4 h
    refine k_iconst hF dX11_dropNode_20 ci_0 ?_
    cases h
    exact hr _ _ rfl dX11_dropNode_21
set_option maxHeartbeats 4000000 in
set_option maxRecDepth 100000 in
theorem wX11_dropNode {p : Program} {l : Launch} {e : Env} {s : State} {m : MethodId} {args : Array Value} {below : List Frame} {meth : Method} {c : Code} {Q : State → Prop} {A : Nat → Prop} {D : DD} {base B : Nat} (hF : KF D base cX11_dropNode RX11 A 4 0 0 p l e ({ frames := 3, cells := 0, slots := 0, locals := 64 } : Room) s m args below meth c) (hA : ∀ q, RA B shpR q → A q) (hbs : base ≤ B) {σ : St} {a1 : Int32} {z : (Int32 × St)} (h : fX11_dropNode σ a1 = some z) (hr : ∀ (pc : Nat) (L : List (Option Value)), narrow .int (.int z.1) = .int z.1 → decode cX11_dropNode pc = .ok (.ireturn, 1) → KJ (Rep D B shpR) A 4 0 0 Q p l e ({ frames := 3, cells := 0, slots := 0, locals := 64 } : Room) s m args below meth c 0 0 pc L [.int z.1] z.2) : KJ (Rep D B shpR) A 4 0 0 Q p l e ({ frames := 3, cells := 0, slots := 0, locals := 64 } : Room) s m args below meth c 0 0 0 [some (.ref (B + 0)), some (.int a1), none, none] [] σ := by
  unfold fX11_dropNode at h
  refine k_aload_n hF dX11_dropNode_0 rfl ?_
  refine k_aload_n hF dX11_dropNode_1 rfl ?_
  refine k_iload_n hF dX11_dropNode_2 rfl ?_
  obtain ⟨v1, hv1, h⟩ := bind_some h
  refine k_callV hF hA (as := [.int a1]) (ct_X11_isNode hbs hv1) mv_X11_163 shR_0 rfl rfl rfl ⟨Nat.le_of_ble_eq_true rfl, Nat.le_of_ble_eq_true rfl⟩ (Nat.le_of_ble_eq_true rfl) dX11_dropNode_3 ?_
  refine k_st (st2 := [.int v1, .ref (B + 0)]) rfl ?_
  refine k_if_eq hF (tgt := 13) dX11_dropNode_6 (by decide) (fun c2 => ?_) (fun c2 => ?_)
  · replace h := ite_t c2 h
    refine k_iconst hF dX11_dropNode_13 ci_1 ?_
    exact wX11_dropNode_j14 hF hA hbs h hr
  · replace h := ite_f c2 h
    refine k_iconst hF dX11_dropNode_9 ci_0 ?_
    refine k_goto hF dX11_dropNode_10 (tgt := 14) (by decide) ?_
    exact wX11_dropNode_j14 hF hA hbs h hr
theorem ct_X11_dropNode {l : Launch} {D : DD} {base B : Nat} (hbs : base ≤ B) {σ : St} {a1 : Int32} {r : (Int32 × St)} (h : fX11_dropNode σ a1 = some r) : MetR l D B shpR base yX11_dropNode cX11_dropNode 4 (some .int) 3 64 [.ref (B + 0), .int a1] σ (some (.int r.1)) r.2 :=
  MetR.of (by decide +kernel) (fun v hv => by simp only [List.mem_cons, List.not_mem_nil, or_false] at hv; rcases hv with rfl | rfl <;> rfl) (Nat.le_of_ble_eq_true rfl) hbs (fun p e s m args below meth c hF hr => wX11_dropNode hF (fun q hq => hq) hbs h (fun pc L hn hd => k_iret hF hr hn hd))
set_option maxHeartbeats 4000000 in
set_option maxRecDepth 100000 in
theorem wX11_isUnlike_j84 {p : Program} {l : Launch} {e : Env} {s : State} {m : MethodId} {args : Array Value} {below : List Frame} {meth : Method} {c : Code} {Q : State → Prop} {A : Nat → Prop} {D : DD} {base B : Nat} (hF : KF D base cX11_isUnlike RX11 A 5 0 0 p l e ({ frames := 2, cells := 0, slots := 0, locals := 43 } : Room) s m args below meth c) (hA : ∀ q, RA B shpR q → A q) (hbs : base ≤ B) {σ : St} {a1 : Int32} {ea3b : Int32} {b4 : Int32} {t0 : Int32} {z : ((Int32 × Int32) ⊕ (Int32 × Int32))} (h : fX11_isUnlike_j84 σ a1 ea3b b4 t0 = some z) (hc : ∀ x, z = .inl x → KJ (Rep D B shpR) A 5 0 0 Q p l e ({ frames := 2, cells := 0, slots := 0, locals := 43 } : Room) s m args below meth c 0 0 15 [some (.ref (B + 0)), some (.int a1), some (.int x.1), some (.int ea3b), some (.int x.2)] [] σ) (he : ∀ w, z = .inr w → KJ (Rep D B shpR) A 5 0 0 Q p l e ({ frames := 2, cells := 0, slots := 0, locals := 43 } : Room) s m args below meth c 0 0 91 [some (.ref (B + 0)), some (.int a1), some (.int w.1), some (.int ea3b), some (.int w.2)] [] σ) : KJ (Rep D B shpR) A 5 0 0 Q p l e ({ frames := 2, cells := 0, slots := 0, locals := 43 } : Room) s m args below meth c 0 0 84 [some (.ref (B + 0)), some (.int a1), none, some (.int ea3b), some (.int b4)] [.int t0] σ := by
  unfold fX11_isUnlike_j84 at h
  refine k_istore_n hF (L' := [some (.ref (B + 0)), some (.int a1), some (.int t0), some (.int ea3b), some (.int b4)]) dX11_isUnlike_84 (by decide) rfl ?_
  refine k_iinc hF (v := (b4 + (1 : Int32))) (L' := [some (.ref (B + 0)), some (.int a1), some (.int t0), some (.int ea3b), some (.int (b4 + (1 : Int32)))]) dX11_isUnlike_85 rfl (by first | rfl | (congr 1)) (by decide) rfl ?_
  refine k_goto hF dX11_isUnlike_88 (tgt := 15) (by decide) ?_
  exact hc _ (Option.some.inj h).symm
set_option maxHeartbeats 4000000 in
set_option maxRecDepth 100000 in
theorem wX11_isUnlike_j83 {p : Program} {l : Launch} {e : Env} {s : State} {m : MethodId} {args : Array Value} {below : List Frame} {meth : Method} {c : Code} {Q : State → Prop} {A : Nat → Prop} {D : DD} {base B : Nat} (hF : KF D base cX11_isUnlike RX11 A 5 0 0 p l e ({ frames := 2, cells := 0, slots := 0, locals := 43 } : Room) s m args below meth c) (hA : ∀ q, RA B shpR q → A q) (hbs : base ≤ B) {σ : St} {a1 : Int32} {ea3b : Int32} {b4 : Int32} {z : ((Int32 × Int32) ⊕ (Int32 × Int32))} (h : fX11_isUnlike_j83 σ a1 ea3b b4 = some z) (hc : ∀ x, z = .inl x → KJ (Rep D B shpR) A 5 0 0 Q p l e ({ frames := 2, cells := 0, slots := 0, locals := 43 } : Room) s m args below meth c 0 0 15 [some (.ref (B + 0)), some (.int a1), some (.int x.1), some (.int ea3b), some (.int x.2)] [] σ) (he : ∀ w, z = .inr w → KJ (Rep D B shpR) A 5 0 0 Q p l e ({ frames := 2, cells := 0, slots := 0, locals := 43 } : Room) s m args below meth c 0 0 91 [some (.ref (B + 0)), some (.int a1), some (.int w.1), some (.int ea3b), some (.int w.2)] [] σ) : KJ (Rep D B shpR) A 5 0 0 Q p l e ({ frames := 2, cells := 0, slots := 0, locals := 43 } : Room) s m args below meth c 0 0 83 [some (.ref (B + 0)), some (.int a1), none, some (.int ea3b), some (.int b4)] [] σ := by
  unfold fX11_isUnlike_j83 at h
  refine k_iconst hF dX11_isUnlike_83 ci_0 ?_
  exact wX11_isUnlike_j84 hF hA hbs h hc he
set_option maxHeartbeats 4000000 in
set_option maxRecDepth 100000 in
theorem wX11_isUnlike_j79 {p : Program} {l : Launch} {e : Env} {s : State} {m : MethodId} {args : Array Value} {below : List Frame} {meth : Method} {c : Code} {Q : State → Prop} {A : Nat → Prop} {D : DD} {base B : Nat} (hF : KF D base cX11_isUnlike RX11 A 5 0 0 p l e ({ frames := 2, cells := 0, slots := 0, locals := 43 } : Room) s m args below meth c) (hA : ∀ q, RA B shpR q → A q) (hbs : base ≤ B) {σ : St} {a1 : Int32} {ea3b : Int32} {b4 : Int32} {z : ((Int32 × Int32) ⊕ (Int32 × Int32))} (h : fX11_isUnlike_j79 σ a1 ea3b b4 = some z) (hc : ∀ x, z = .inl x → KJ (Rep D B shpR) A 5 0 0 Q p l e ({ frames := 2, cells := 0, slots := 0, locals := 43 } : Room) s m args below meth c 0 0 15 [some (.ref (B + 0)), some (.int a1), some (.int x.1), some (.int ea3b), some (.int x.2)] [] σ) (he : ∀ w, z = .inr w → KJ (Rep D B shpR) A 5 0 0 Q p l e ({ frames := 2, cells := 0, slots := 0, locals := 43 } : Room) s m args below meth c 0 0 91 [some (.ref (B + 0)), some (.int a1), some (.int w.1), some (.int ea3b), some (.int w.2)] [] σ) : KJ (Rep D B shpR) A 5 0 0 Q p l e ({ frames := 2, cells := 0, slots := 0, locals := 43 } : Room) s m args below meth c 0 0 79 [some (.ref (B + 0)), some (.int a1), none, some (.int ea3b), some (.int b4)] [] σ := by
  unfold fX11_isUnlike_j79 at h
  refine k_iconst hF dX11_isUnlike_79 ci_1 ?_
  refine k_goto hF dX11_isUnlike_80 (tgt := 84) (by decide) ?_
  exact wX11_isUnlike_j84 hF hA hbs h hc he
set_option maxHeartbeats 4000000 in
set_option maxRecDepth 100000 in
theorem wX11_isUnlike_l15 {p : Program} {l : Launch} {e : Env} {s : State} {m : MethodId} {args : Array Value} {below : List Frame} {meth : Method} {c : Code} {Q : State → Prop} {A : Nat → Prop} {D : DD} {base B : Nat} (hF : KF D base cX11_isUnlike RX11 A 5 0 0 p l e ({ frames := 2, cells := 0, slots := 0, locals := 43 } : Room) s m args below meth c) (hA : ∀ q, RA B shpR q → A q) (hbs : base ≤ B) {σ : St} {a1 : Int32} {ea3b : Int32} {x : (Int32 × Int32)} {z : ((Int32 × Int32) ⊕ (Int32 × Int32))} (h : fX11_isUnlike_l15 σ a1 ea3b x = some z) (hc : ∀ x, z = .inl x → KJ (Rep D B shpR) A 5 0 0 Q p l e ({ frames := 2, cells := 0, slots := 0, locals := 43 } : Room) s m args below meth c 0 0 15 [some (.ref (B + 0)), some (.int a1), some (.int x.1), some (.int ea3b), some (.int x.2)] [] σ) (he : ∀ w, z = .inr w → KJ (Rep D B shpR) A 5 0 0 Q p l e ({ frames := 2, cells := 0, slots := 0, locals := 43 } : Room) s m args below meth c 0 0 91 [some (.ref (B + 0)), some (.int a1), some (.int w.1), some (.int ea3b), some (.int w.2)] [] σ) : KJ (Rep D B shpR) A 5 0 0 Q p l e ({ frames := 2, cells := 0, slots := 0, locals := 43 } : Room) s m args below meth c 0 0 15 [some (.ref (B + 0)), some (.int a1), some (.int x.1), some (.int ea3b), some (.int x.2)] [] σ := by
  unfold fX11_isUnlike_l15 at h
  refine k_iload hF dX11_isUnlike_15 rfl ?_
  refine k_iload_n hF dX11_isUnlike_17 rfl ?_
  refine k_icmp_ge hF (tgt := 91) dX11_isUnlike_18 (by decide) (fun c2 => ?_) (fun c2 => ?_)
  · replace h := ite_t c2 h
    exact he _ (Option.some.inj h).symm
  · replace h := ite_f c2 h
    refine k_iload_n hF dX11_isUnlike_21 rfl ?_
    refine k_if_eq hF (tgt := 83) dX11_isUnlike_22 (by decide) (fun c3 => ?_) (fun c3 => ?_)
    · replace h := ite_t c3 h
      refine k_kill 2 rfl ?_
      exact wX11_isUnlike_j83 hF hA hbs h hc he
    · replace h := ite_f c3 h
      refine k_aload_n hF dX11_isUnlike_25 rfl ?_
      refine k_iload_n hF dX11_isUnlike_26 rfl ?_
      obtain ⟨v4, hv4, h⟩ := bind_some h
      refine k_callV hF hA (as := [.int ea3b]) (ct_X11_isNode hbs hv4) mv_X11_163 shR_0 rfl rfl rfl ⟨Nat.le_of_ble_eq_true rfl, Nat.le_of_ble_eq_true rfl⟩ (Nat.le_of_ble_eq_true rfl) dX11_isUnlike_27 ?_
      refine k_st (st2 := [.int v4]) rfl ?_
      refine k_if_eq hF (tgt := 79) dX11_isUnlike_30 (by decide) (fun c5 => ?_) (fun c5 => ?_)
      · replace h := ite_t c5 h
        refine k_kill 2 rfl ?_
        exact wX11_isUnlike_j79 hF hA hbs h hc he
      · replace h := ite_f c5 h
        refine k_aload_n hF dX11_isUnlike_33 rfl ?_
        refine k_iload hF dX11_isUnlike_34 rfl ?_
        obtain ⟨v6, hv6, h⟩ := bind_some h
        refine k_callV hF hA (as := [.int x.2]) (ct_X11_isNode hbs hv6) mv_X11_163 shR_0 rfl rfl rfl ⟨Nat.le_of_ble_eq_true rfl, Nat.le_of_ble_eq_true rfl⟩ (Nat.le_of_ble_eq_true rfl) dX11_isUnlike_36 ?_
        refine k_st (st2 := [.int v6]) rfl ?_
        refine k_if_eq hF (tgt := 79) dX11_isUnlike_39 (by decide) (fun c7 => ?_) (fun c7 => ?_)
        · replace h := ite_t c7 h
          refine k_kill 2 rfl ?_
          exact wX11_isUnlike_j79 hF hA hbs h hc he
        · replace h := ite_f c7 h
          refine k_aload_n hF dX11_isUnlike_42 rfl ?_
          refine k_get hF (v := .ref (B + 1)) shR_0 fl_X11_7_X11 dX11_isUnlike_43 rfl ?_
          refine k_iload_n hF dX11_isUnlike_46 rfl ?_
          obtain ⟨g8, h⟩ := gd_some h
          refine k_iald hF shR_1 dX11_isUnlike_47 g8 ?_
          refine k_iload_n hF dX11_isUnlike_48 rfl ?_
          refine k_icmp_ne hF (tgt := 79) dX11_isUnlike_49 (by decide) (fun c9 => ?_) (fun c9 => ?_)
          · replace h := ite_f c9 h
            refine k_kill 2 rfl ?_
            exact wX11_isUnlike_j79 hF hA hbs h hc he
          · replace h := ite_t c9 h
            refine k_aload_n hF dX11_isUnlike_52 rfl ?_
            refine k_get hF (v := .ref (B + 1)) shR_0 fl_X11_7_X11 dX11_isUnlike_53 rfl ?_
            refine k_iload hF dX11_isUnlike_56 rfl ?_
            obtain ⟨g10, h⟩ := gd_some h
            refine k_iald hF shR_1 dX11_isUnlike_58 g10 ?_
            refine k_iload_n hF dX11_isUnlike_59 rfl ?_
            refine k_icmp_ne hF (tgt := 79) dX11_isUnlike_60 (by decide) (fun c11 => ?_) (fun c11 => ?_)
            · replace h := ite_f c11 h
              refine k_kill 2 rfl ?_
              exact wX11_isUnlike_j79 hF hA hbs h hc he
            · replace h := ite_t c11 h
              refine k_aload_n hF dX11_isUnlike_63 rfl ?_
              refine k_get hF (v := .ref (B + 2)) shR_0 fl_X11_13_X11 dX11_isUnlike_64 rfl ?_
              refine k_iload_n hF dX11_isUnlike_67 rfl ?_
              obtain ⟨g12, h⟩ := gd_some h
              refine k_iald hF shR_2 dX11_isUnlike_68 g12 ?_
              refine k_aload_n hF dX11_isUnlike_69 rfl ?_
              refine k_get hF (v := .ref (B + 2)) shR_0 fl_X11_13_X11 dX11_isUnlike_70 rfl ?_
              refine k_iload hF dX11_isUnlike_73 rfl ?_
              obtain ⟨g13, h⟩ := gd_some h
              refine k_iald hF shR_2 dX11_isUnlike_75 g13 ?_
              refine k_icmp_eq hF (tgt := 83) dX11_isUnlike_76 (by decide) (fun c14 => ?_) (fun c14 => ?_)
              · replace h := ite_t c14 h
                refine k_kill 2 rfl ?_
                exact wX11_isUnlike_j83 hF hA hbs h hc he
              · replace h := ite_f c14 h
                refine k_kill 2 rfl ?_
                exact wX11_isUnlike_j79 hF hA hbs h hc he
set_option maxHeartbeats 4000000 in
set_option maxRecDepth 100000 in
theorem wX11_isUnlike_l4 {p : Program} {l : Launch} {e : Env} {s : State} {m : MethodId} {args : Array Value} {below : List Frame} {meth : Method} {c : Code} {Q : State → Prop} {A : Nat → Prop} {D : DD} {base B : Nat} (hF : KF D base cX11_isUnlike RX11 A 5 0 0 p l e ({ frames := 2, cells := 0, slots := 0, locals := 43 } : Room) s m args below meth c) (hA : ∀ q, RA B shpR q → A q) (hbs : base ≤ B) {σ : St} {a1 : Int32} {x : (Int32 × Int32)} {z : ((Int32 × Int32) ⊕ (Int32 × Int32))} (h : fX11_isUnlike_l4 σ a1 x = some z) (hc : ∀ x, z = .inl x → KJ (Rep D B shpR) A 5 0 0 Q p l e ({ frames := 2, cells := 0, slots := 0, locals := 43 } : Room) s m args below meth c 0 0 4 [some (.ref (B + 0)), some (.int a1), some (.int x.1), some (.int x.2), none] [] σ) (he : ∀ w, z = .inr w → KJ (Rep D B shpR) A 5 0 0 Q p l e ({ frames := 2, cells := 0, slots := 0, locals := 43 } : Room) s m args below meth c 0 0 97 [some (.ref (B + 0)), some (.int a1), some (.int w.1), some (.int w.2), none] [] σ) : KJ (Rep D B shpR) A 5 0 0 Q p l e ({ frames := 2, cells := 0, slots := 0, locals := 43 } : Room) s m args below meth c 0 0 4 [some (.ref (B + 0)), some (.int a1), some (.int x.1), some (.int x.2), none] [] σ := by
  unfold fX11_isUnlike_l4 at h
  refine k_iload_n hF dX11_isUnlike_4 rfl ?_
  refine k_aload_n hF dX11_isUnlike_5 rfl ?_
  refine k_get hF (v := .int (gi σ 0 1)) shR_0 fl_X11_150_X11 dX11_isUnlike_6 rfl ?_
  refine k_icmp_ge hF (tgt := 97) dX11_isUnlike_9 (by decide) (fun c1 => ?_) (fun c1 => ?_)
  · replace h := ite_t c1 h
    exact he _ (Option.some.inj h).symm
  · replace h := ite_f c1 h
    refine k_iconst hF dX11_isUnlike_12 ci_0 ?_
    refine k_istore hF (L' := [some (.ref (B + 0)), some (.int a1), some (.int x.1), some (.int x.2), some (.int (0 : Int32))]) dX11_isUnlike_13 (by decide) rfl ?_
    obtain ⟨x15, hx15, h⟩ := bind_some h
    refine k_loop (P := fun xq => KJ (Rep D B shpR) A 5 0 0 Q p l e ({ frames := 2, cells := 0, slots := 0, locals := 43 } : Room) s m args below meth c 0 0 15 [some (.ref (B + 0)), some (.int a1), some (.int xq.1), some (.int x.2), some (.int xq.2)] [] σ) (C := fun xq => KJ (Rep D B shpR) A 5 0 0 Q p l e ({ frames := 2, cells := 0, slots := 0, locals := 43 } : Room) s m args below meth c 0 0 91 [some (.ref (B + 0)), some (.int a1), some (.int xq.1), some (.int x.2), some (.int xq.2)] [] σ) (fun x z hz hc he => wX11_isUnlike_l15 hF hA hbs hz hc he) hx15 ?_
    show KJ (Rep D B shpR) A 5 0 0 Q p l e ({ frames := 2, cells := 0, slots := 0, locals := 43 } : Room) s m args below meth c 0 0 91 [some (.ref (B + 0)), some (.int a1), some (.int x15.1), some (.int x.2), some (.int x15.2)] [] σ
    refine k_iinc hF (v := (x.2 + (1 : Int32))) (L' := [some (.ref (B + 0)), some (.int a1), some (.int x15.1), some (.int (x.2 + (1 : Int32))), some (.int x15.2)]) dX11_isUnlike_91 rfl (by first | rfl | (congr 1)) (by decide) rfl ?_
    refine k_goto hF dX11_isUnlike_94 (tgt := 4) (by decide) ?_
    refine k_kill 4 rfl ?_
    exact hc _ (Option.some.inj h).symm
set_option maxHeartbeats 4000000 in
set_option maxRecDepth 100000 in
theorem wX11_isUnlike {p : Program} {l : Launch} {e : Env} {s : State} {m : MethodId} {args : Array Value} {below : List Frame} {meth : Method} {c : Code} {Q : State → Prop} {A : Nat → Prop} {D : DD} {base B : Nat} (hF : KF D base cX11_isUnlike RX11 A 5 0 0 p l e ({ frames := 2, cells := 0, slots := 0, locals := 43 } : Room) s m args below meth c) (hA : ∀ q, RA B shpR q → A q) (hbs : base ≤ B) {σ : St} {a1 : Int32} {z : Int32} (h : fX11_isUnlike σ a1 = some z) (hr : ∀ (pc : Nat) (L : List (Option Value)), narrow .boolean (.int z) = .int z → decode cX11_isUnlike pc = .ok (.ireturn, 1) → KJ (Rep D B shpR) A 5 0 0 Q p l e ({ frames := 2, cells := 0, slots := 0, locals := 43 } : Room) s m args below meth c 0 0 pc L [.int z] σ) : KJ (Rep D B shpR) A 5 0 0 Q p l e ({ frames := 2, cells := 0, slots := 0, locals := 43 } : Room) s m args below meth c 0 0 0 [some (.ref (B + 0)), some (.int a1), none, none, none] [] σ := by
  unfold fX11_isUnlike at h
  refine k_iconst hF dX11_isUnlike_0 ci_1 ?_
  refine k_istore_n hF (L' := [some (.ref (B + 0)), some (.int a1), some (.int (1 : Int32)), none, none]) dX11_isUnlike_1 (by decide) rfl ?_
  refine k_iconst hF dX11_isUnlike_2 ci_0 ?_
  refine k_istore_n hF (L' := [some (.ref (B + 0)), some (.int a1), some (.int (1 : Int32)), some (.int (0 : Int32)), none]) dX11_isUnlike_3 (by decide) rfl ?_
  obtain ⟨x16, hx16, h⟩ := bind_some h
  refine k_loop (P := fun xq => KJ (Rep D B shpR) A 5 0 0 Q p l e ({ frames := 2, cells := 0, slots := 0, locals := 43 } : Room) s m args below meth c 0 0 4 [some (.ref (B + 0)), some (.int a1), some (.int xq.1), some (.int xq.2), none] [] σ) (C := fun xq => KJ (Rep D B shpR) A 5 0 0 Q p l e ({ frames := 2, cells := 0, slots := 0, locals := 43 } : Room) s m args below meth c 0 0 97 [some (.ref (B + 0)), some (.int a1), some (.int xq.1), some (.int xq.2), none] [] σ) (fun x z hz hc he => wX11_isUnlike_l4 hF hA hbs hz hc he) hx16 ?_
  show KJ (Rep D B shpR) A 5 0 0 Q p l e ({ frames := 2, cells := 0, slots := 0, locals := 43 } : Room) s m args below meth c 0 0 97 [some (.ref (B + 0)), some (.int a1), some (.int x16.1), some (.int x16.2), none] [] σ
  refine k_iload_n hF dX11_isUnlike_97 rfl ?_
  obtain ⟨g17, h⟩ := gd_some h
  cases h
  exact hr _ _ (nar_z g17) dX11_isUnlike_98
theorem ct_X11_isUnlike {l : Launch} {D : DD} {base B : Nat} (hbs : base ≤ B) {σ : St} {a1 : Int32} {r : Int32} (h : fX11_isUnlike σ a1 = some r) : MetR l D B shpR base yX11_isUnlike cX11_isUnlike 5 (some .boolean) 2 43 [.ref (B + 0), .int a1] σ (some (.int r)) σ :=
  MetR.of (by decide +kernel) (fun v hv => by simp only [List.mem_cons, List.not_mem_nil, or_false] at hv; rcases hv with rfl | rfl <;> rfl) (Nat.le_of_ble_eq_true rfl) hbs (fun p e s m args below meth c hF hr => wX11_isUnlike hF (fun q hq => hq) hbs h (fun pc L hn hd => k_iret hF hr hn hd))
set_option maxHeartbeats 4000000 in
set_option maxRecDepth 100000 in
theorem wX11_key_j61 {p : Program} {l : Launch} {e : Env} {s : State} {m : MethodId} {args : Array Value} {below : List Frame} {meth : Method} {c : Code} {Q : State → Prop} {A : Nat → Prop} {D : DD} {base B : Nat} (hF : KF D base cX11_key RX11 A 2 0 0 p l e ({ frames := 3, cells := 0, slots := 0, locals := 67 } : Room) s m args below meth c) (hA : ∀ q, RA B shpR q → A q) (hbs : base ≤ B) {σ : St} {a1 : Int32} {t0 : Int32} {t1 : Int32} {z : (Int32 × St)} (h : fX11_key_j61 σ a1 t0 t1 = some z) (hr : ∀ (pc : Nat) (L : List (Option Value)), narrow .boolean (.int z.1) = .int z.1 → decode cX11_key pc = .ok (.ireturn, 1) → KJ (Rep D B shpR) A 2 0 0 Q p l e ({ frames := 3, cells := 0, slots := 0, locals := 67 } : Room) s m args below meth c 0 0 pc L [.int z.1] z.2) : KJ (Rep D B shpR) A 2 0 0 Q p l e ({ frames := 3, cells := 0, slots := 0, locals := 67 } : Room) s m args below meth c 0 0 61 [some (.ref (B + 0)), some (.int a1)] [.int t0, .int t1, .ref (B + 18)] σ := by
  unfold fX11_key_j61 at h
  obtain ⟨g9, h⟩ := gd_some h
  obtain ⟨g10, h⟩ := gd_some h
  refine k_zast hF hA shR_18 dX11_key_61 g9 (nar_z g10) ?_
  obtain ⟨σ11, hσ11, h⟩ := lt_some h
  refine k_sig hσ11 ?_
  refine k_aload_n hF dX11_key_62 rfl ?_
  refine k_get hF (v := .ref (B + 18)) shR_0 fl_X11_63_X11 dX11_key_63 rfl ?_
  refine k_iload_n hF dX11_key_66 rfl ?_
  obtain ⟨g12, h⟩ := gd_some h
  refine k_zald hF shR_18 dX11_key_67 g12 ?_
  obtain ⟨g13, h⟩ := gd_some h
  cases h
  exact hr _ _ (nar_z g13) dX11_key_68
set_option maxHeartbeats 4000000 in
set_option maxRecDepth 100000 in
theorem wX11_key_j34 {p : Program} {l : Launch} {e : Env} {s : State} {m : MethodId} {args : Array Value} {below : List Frame} {meth : Method} {c : Code} {Q : State → Prop} {A : Nat → Prop} {D : DD} {base B : Nat} (hF : KF D base cX11_key RX11 A 2 0 0 p l e ({ frames := 3, cells := 0, slots := 0, locals := 67 } : Room) s m args below meth c) (hA : ∀ q, RA B shpR q → A q) (hbs : base ≤ B) {σ : St} {a1 : Int32} {t0 : Int32} {z : (Int32 × St)} (h : fX11_key_j34 σ a1 t0 = some z) (hr : ∀ (pc : Nat) (L : List (Option Value)), narrow .boolean (.int z.1) = .int z.1 → decode cX11_key pc = .ok (.ireturn, 1) → KJ (Rep D B shpR) A 2 0 0 Q p l e ({ frames := 3, cells := 0, slots := 0, locals := 67 } : Room) s m args below meth c 0 0 pc L [.int z.1] z.2) : KJ (Rep D B shpR) A 2 0 0 Q p l e ({ frames := 3, cells := 0, slots := 0, locals := 67 } : Room) s m args below meth c 0 0 34 [some (.ref (B + 0)), some (.int a1)] [.int t0, .ref (B + 0)] σ := by
  unfold fX11_key_j34 at h
  obtain ⟨v5, hv5, h⟩ := bind_some h
  refine k_callV hF hA (as := [.int t0]) (ct_X11_fails hbs hv5) mv_X11_181 shR_0 rfl rfl rfl ⟨Nat.le_of_ble_eq_true rfl, Nat.le_of_ble_eq_true rfl⟩ (Nat.le_of_ble_eq_true rfl) dX11_key_34 ?_
  refine k_st (st2 := [.int v5.1]) rfl ?_
  refine k_if_eq hF (tgt := 42) dX11_key_37 (by decide) (fun c6 => ?_) (fun c6 => ?_)
  · replace h := ite_t c6 h
    refine k_aload_n hF dX11_key_42 rfl ?_
    refine k_get hF (v := .ref (B + 18)) shR_0 fl_X11_63_X11 dX11_key_43 rfl ?_
    refine k_iload_n hF dX11_key_46 rfl ?_
    refine k_aload_n hF dX11_key_47 rfl ?_
    refine k_get hF (v := .ref (B + 18)) shR_0 fl_X11_63_X11 dX11_key_48 rfl ?_
    refine k_iload_n hF dX11_key_51 rfl ?_
    obtain ⟨g7, h⟩ := gd_some h
    refine k_zald hF shR_18 dX11_key_52 g7 ?_
    refine k_if_ne hF (tgt := 60) dX11_key_53 (by decide) (fun c8 => ?_) (fun c8 => ?_)
    · replace h := ite_f c8 h
      refine k_iconst hF dX11_key_60 ci_0 ?_
      exact wX11_key_j61 hF hA hbs h hr
    · replace h := ite_t c8 h
      refine k_iconst hF dX11_key_56 ci_1 ?_
      refine k_goto hF dX11_key_57 (tgt := 61) (by decide) ?_
      exact wX11_key_j61 hF hA hbs h hr
  · replace h := ite_f c6 h
    refine k_iconst hF dX11_key_40 ci_0 ?_
    cases h
    exact hr _ _ nar_0 dX11_key_41
set_option maxHeartbeats 4000000 in
set_option maxRecDepth 100000 in
theorem wX11_key_j29 {p : Program} {l : Launch} {e : Env} {s : State} {m : MethodId} {args : Array Value} {below : List Frame} {meth : Method} {c : Code} {Q : State → Prop} {A : Nat → Prop} {D : DD} {base B : Nat} (hF : KF D base cX11_key RX11 A 2 0 0 p l e ({ frames := 3, cells := 0, slots := 0, locals := 67 } : Room) s m args below meth c) (hA : ∀ q, RA B shpR q → A q) (hbs : base ≤ B) {σ : St} {a1 : Int32} {z : (Int32 × St)} (h : fX11_key_j29 σ a1 = some z) (hr : ∀ (pc : Nat) (L : List (Option Value)), narrow .boolean (.int z.1) = .int z.1 → decode cX11_key pc = .ok (.ireturn, 1) → KJ (Rep D B shpR) A 2 0 0 Q p l e ({ frames := 3, cells := 0, slots := 0, locals := 67 } : Room) s m args below meth c 0 0 pc L [.int z.1] z.2) : KJ (Rep D B shpR) A 2 0 0 Q p l e ({ frames := 3, cells := 0, slots := 0, locals := 67 } : Room) s m args below meth c 0 0 29 [some (.ref (B + 0)), some (.int a1)] [.ref (B + 0)] σ := by
  unfold fX11_key_j29 at h
  refine k_iconst hF dX11_key_29 ci_0 ?_
  refine k_goto hF dX11_key_30 (tgt := 34) (by decide) ?_
  exact wX11_key_j34 hF hA hbs h hr
set_option maxHeartbeats 4000000 in
set_option maxRecDepth 100000 in
theorem wX11_key {p : Program} {l : Launch} {e : Env} {s : State} {m : MethodId} {args : Array Value} {below : List Frame} {meth : Method} {c : Code} {Q : State → Prop} {A : Nat → Prop} {D : DD} {base B : Nat} (hF : KF D base cX11_key RX11 A 2 0 0 p l e ({ frames := 3, cells := 0, slots := 0, locals := 67 } : Room) s m args below meth c) (hA : ∀ q, RA B shpR q → A q) (hbs : base ≤ B) {σ : St} {a1 : Int32} {z : (Int32 × St)} (h : fX11_key σ a1 = some z) (hr : ∀ (pc : Nat) (L : List (Option Value)), narrow .boolean (.int z.1) = .int z.1 → decode cX11_key pc = .ok (.ireturn, 1) → KJ (Rep D B shpR) A 2 0 0 Q p l e ({ frames := 3, cells := 0, slots := 0, locals := 67 } : Room) s m args below meth c 0 0 pc L [.int z.1] z.2) : KJ (Rep D B shpR) A 2 0 0 Q p l e ({ frames := 3, cells := 0, slots := 0, locals := 67 } : Room) s m args below meth c 0 0 0 [some (.ref (B + 0)), some (.int a1)] [] σ := by
  unfold fX11_key at h
  refine k_aload_n hF dX11_key_0 rfl ?_
  refine k_iload_n hF dX11_key_1 rfl ?_
  obtain ⟨v1, hv1, h⟩ := bind_some h
  refine k_callS hF hA (as := [.int a1]) (ct_X11_isLabel hbs hv1) ms_X11_171 rfl rfl ⟨Nat.le_of_ble_eq_true rfl, Nat.le_of_ble_eq_true rfl⟩ (Nat.le_of_ble_eq_true rfl) dX11_key_2 ?_
  refine k_st (st2 := [.int v1, .ref (B + 0)]) rfl ?_
  refine k_if_ne hF (tgt := 12) dX11_key_5 (by decide) (fun c2 => ?_) (fun c2 => ?_)
  · replace h := ite_f c2 h
    refine k_aload_n hF dX11_key_12 rfl ?_
    refine k_get hF (v := .ref (B + 18)) shR_0 fl_X11_63_X11 dX11_key_13 rfl ?_
    refine k_iload_n hF dX11_key_16 rfl ?_
    obtain ⟨g3, h⟩ := gd_some h
    refine k_zald hF shR_18 dX11_key_17 g3 ?_
    refine k_if_ne hF (tgt := 29) dX11_key_18 (by decide) (fun c4 => ?_) (fun c4 => ?_)
    · replace h := ite_f c4 h
      exact wX11_key_j29 hF hA hbs h hr
    · replace h := ite_t c4 h
      refine k_aload_n hF dX11_key_21 rfl ?_
      refine k_iload_n hF dX11_key_22 rfl ?_
      obtain ⟨v14, hv14, h⟩ := bind_some h
      refine k_callV hF hA (as := [.int a1]) (ct_X11_isUnlike hbs hv14) mv_X11_205 shR_0 rfl rfl rfl ⟨Nat.le_of_ble_eq_true rfl, Nat.le_of_ble_eq_true rfl⟩ (Nat.le_of_ble_eq_true rfl) dX11_key_23 ?_
      refine k_st (st2 := [.int v14, .ref (B + 0)]) rfl ?_
      refine k_if_eq hF (tgt := 33) dX11_key_26 (by decide) (fun c15 => ?_) (fun c15 => ?_)
      · replace h := ite_t c15 h
        refine k_iconst hF dX11_key_33 ci_2 ?_
        exact wX11_key_j34 hF hA hbs h hr
      · replace h := ite_f c15 h
        exact wX11_key_j29 hF hA hbs h hr
  · replace h := ite_t c2 h
    refine k_iconst hF dX11_key_8 ci_1 ?_
    refine k_goto hF dX11_key_9 (tgt := 34) (by decide) ?_
    exact wX11_key_j34 hF hA hbs h hr
theorem ct_X11_key {l : Launch} {D : DD} {base B : Nat} (hbs : base ≤ B) {σ : St} {a1 : Int32} {r : (Int32 × St)} (h : fX11_key σ a1 = some r) : MetR l D B shpR base yX11_key cX11_key 2 (some .boolean) 3 67 [.ref (B + 0), .int a1] σ (some (.int r.1)) r.2 :=
  MetR.of (by decide +kernel) (fun v hv => by simp only [List.mem_cons, List.not_mem_nil, or_false] at hv; rcases hv with rfl | rfl <;> rfl) (Nat.le_of_ble_eq_true rfl) hbs (fun p e s m args below meth c hF hr => wX11_key hF (fun q hq => hq) hbs h (fun pc L hn hd => k_iret hF hr hn hd))
set_option maxHeartbeats 4000000 in
set_option maxRecDepth 100000 in
theorem wX11_shape_j122 {p : Program} {l : Launch} {e : Env} {s : State} {m : MethodId} {args : Array Value} {below : List Frame} {meth : Method} {c : Code} {Q : State → Prop} {A : Nat → Prop} {D : DD} {base B : Nat} (hF : KF D base cX11_shape RX11 A 7 0 0 p l e ({ frames := 2, cells := 0, slots := 0, locals := 43 } : Room) s m args below meth c) (hA : ∀ q, RA B shpR q → A q) (hbs : base ≤ B) {σ : St} {a1 : Int32} {a2 : Int32} {a3 : Int32} {ea4 : Int32} {b6 : Int32} {t0 : Int32} {z : ((Int32 × Int32) ⊕ (Int32 × Int32))} (h : fX11_shape_j122 σ a1 a2 a3 ea4 b6 t0 = some z) (hc : ∀ x, z = .inl x → KJ (Rep D B shpR) A 7 0 0 Q p l e ({ frames := 2, cells := 0, slots := 0, locals := 43 } : Room) s m args below meth c 0 0 41 [some (.ref (B + 0)), some (.int a1), some (.int a2), some (.int a3), some (.int ea4), some (.int x.1), some (.int x.2)] [] σ) (he : ∀ w, z = .inr w → KJ (Rep D B shpR) A 7 0 0 Q p l e ({ frames := 2, cells := 0, slots := 0, locals := 43 } : Room) s m args below meth c 0 0 130 [some (.ref (B + 0)), some (.int a1), some (.int a2), some (.int a3), some (.int ea4), some (.int w.1), some (.int w.2)] [] σ) : KJ (Rep D B shpR) A 7 0 0 Q p l e ({ frames := 2, cells := 0, slots := 0, locals := 43 } : Room) s m args below meth c 0 0 122 [some (.ref (B + 0)), some (.int a1), some (.int a2), some (.int a3), some (.int ea4), none, some (.int b6)] [.int t0] σ := by
  unfold fX11_shape_j122 at h
  refine k_istore hF (L' := [some (.ref (B + 0)), some (.int a1), some (.int a2), some (.int a3), some (.int ea4), some (.int t0), some (.int b6)]) dX11_shape_122 (by decide) rfl ?_
  refine k_iinc hF (v := (b6 + (1 : Int32))) (L' := [some (.ref (B + 0)), some (.int a1), some (.int a2), some (.int a3), some (.int ea4), some (.int t0), some (.int (b6 + (1 : Int32)))]) dX11_shape_124 rfl (by first | rfl | (congr 1)) (by decide) rfl ?_
  refine k_goto hF dX11_shape_127 (tgt := 41) (by decide) ?_
  exact hc _ (Option.some.inj h).symm
set_option maxHeartbeats 4000000 in
set_option maxRecDepth 100000 in
theorem wX11_shape_j121 {p : Program} {l : Launch} {e : Env} {s : State} {m : MethodId} {args : Array Value} {below : List Frame} {meth : Method} {c : Code} {Q : State → Prop} {A : Nat → Prop} {D : DD} {base B : Nat} (hF : KF D base cX11_shape RX11 A 7 0 0 p l e ({ frames := 2, cells := 0, slots := 0, locals := 43 } : Room) s m args below meth c) (hA : ∀ q, RA B shpR q → A q) (hbs : base ≤ B) {σ : St} {a1 : Int32} {a2 : Int32} {a3 : Int32} {ea4 : Int32} {b6 : Int32} {z : ((Int32 × Int32) ⊕ (Int32 × Int32))} (h : fX11_shape_j121 σ a1 a2 a3 ea4 b6 = some z) (hc : ∀ x, z = .inl x → KJ (Rep D B shpR) A 7 0 0 Q p l e ({ frames := 2, cells := 0, slots := 0, locals := 43 } : Room) s m args below meth c 0 0 41 [some (.ref (B + 0)), some (.int a1), some (.int a2), some (.int a3), some (.int ea4), some (.int x.1), some (.int x.2)] [] σ) (he : ∀ w, z = .inr w → KJ (Rep D B shpR) A 7 0 0 Q p l e ({ frames := 2, cells := 0, slots := 0, locals := 43 } : Room) s m args below meth c 0 0 130 [some (.ref (B + 0)), some (.int a1), some (.int a2), some (.int a3), some (.int ea4), some (.int w.1), some (.int w.2)] [] σ) : KJ (Rep D B shpR) A 7 0 0 Q p l e ({ frames := 2, cells := 0, slots := 0, locals := 43 } : Room) s m args below meth c 0 0 121 [some (.ref (B + 0)), some (.int a1), some (.int a2), some (.int a3), some (.int ea4), none, some (.int b6)] [] σ := by
  unfold fX11_shape_j121 at h
  refine k_iconst hF dX11_shape_121 ci_0 ?_
  exact wX11_shape_j122 hF hA hbs h hc he
set_option maxHeartbeats 4000000 in
set_option maxRecDepth 100000 in
theorem wX11_shape_j117 {p : Program} {l : Launch} {e : Env} {s : State} {m : MethodId} {args : Array Value} {below : List Frame} {meth : Method} {c : Code} {Q : State → Prop} {A : Nat → Prop} {D : DD} {base B : Nat} (hF : KF D base cX11_shape RX11 A 7 0 0 p l e ({ frames := 2, cells := 0, slots := 0, locals := 43 } : Room) s m args below meth c) (hA : ∀ q, RA B shpR q → A q) (hbs : base ≤ B) {σ : St} {a1 : Int32} {a2 : Int32} {a3 : Int32} {ea4 : Int32} {b6 : Int32} {z : ((Int32 × Int32) ⊕ (Int32 × Int32))} (h : fX11_shape_j117 σ a1 a2 a3 ea4 b6 = some z) (hc : ∀ x, z = .inl x → KJ (Rep D B shpR) A 7 0 0 Q p l e ({ frames := 2, cells := 0, slots := 0, locals := 43 } : Room) s m args below meth c 0 0 41 [some (.ref (B + 0)), some (.int a1), some (.int a2), some (.int a3), some (.int ea4), some (.int x.1), some (.int x.2)] [] σ) (he : ∀ w, z = .inr w → KJ (Rep D B shpR) A 7 0 0 Q p l e ({ frames := 2, cells := 0, slots := 0, locals := 43 } : Room) s m args below meth c 0 0 130 [some (.ref (B + 0)), some (.int a1), some (.int a2), some (.int a3), some (.int ea4), some (.int w.1), some (.int w.2)] [] σ) : KJ (Rep D B shpR) A 7 0 0 Q p l e ({ frames := 2, cells := 0, slots := 0, locals := 43 } : Room) s m args below meth c 0 0 117 [some (.ref (B + 0)), some (.int a1), some (.int a2), some (.int a3), some (.int ea4), none, some (.int b6)] [] σ := by
  unfold fX11_shape_j117 at h
  refine k_iconst hF dX11_shape_117 ci_1 ?_
  refine k_goto hF dX11_shape_118 (tgt := 122) (by decide) ?_
  exact wX11_shape_j122 hF hA hbs h hc he
set_option maxHeartbeats 4000000 in
set_option maxRecDepth 100000 in
theorem wX11_shape_l41 {p : Program} {l : Launch} {e : Env} {s : State} {m : MethodId} {args : Array Value} {below : List Frame} {meth : Method} {c : Code} {Q : State → Prop} {A : Nat → Prop} {D : DD} {base B : Nat} (hF : KF D base cX11_shape RX11 A 7 0 0 p l e ({ frames := 2, cells := 0, slots := 0, locals := 43 } : Room) s m args below meth c) (hA : ∀ q, RA B shpR q → A q) (hbs : base ≤ B) {σ : St} {a1 : Int32} {a2 : Int32} {a3 : Int32} {ea4 : Int32} {x : (Int32 × Int32)} {z : ((Int32 × Int32) ⊕ (Int32 × Int32))} (h : fX11_shape_l41 σ a1 a2 a3 ea4 x = some z) (hc : ∀ x, z = .inl x → KJ (Rep D B shpR) A 7 0 0 Q p l e ({ frames := 2, cells := 0, slots := 0, locals := 43 } : Room) s m args below meth c 0 0 41 [some (.ref (B + 0)), some (.int a1), some (.int a2), some (.int a3), some (.int ea4), some (.int x.1), some (.int x.2)] [] σ) (he : ∀ w, z = .inr w → KJ (Rep D B shpR) A 7 0 0 Q p l e ({ frames := 2, cells := 0, slots := 0, locals := 43 } : Room) s m args below meth c 0 0 130 [some (.ref (B + 0)), some (.int a1), some (.int a2), some (.int a3), some (.int ea4), some (.int w.1), some (.int w.2)] [] σ) : KJ (Rep D B shpR) A 7 0 0 Q p l e ({ frames := 2, cells := 0, slots := 0, locals := 43 } : Room) s m args below meth c 0 0 41 [some (.ref (B + 0)), some (.int a1), some (.int a2), some (.int a3), some (.int ea4), some (.int x.1), some (.int x.2)] [] σ := by
  unfold fX11_shape_l41 at h
  refine k_iload hF dX11_shape_41 rfl ?_
  refine k_aload_n hF dX11_shape_43 rfl ?_
  refine k_get hF (v := .int (gi σ 0 15)) shR_0 fl_X11_154_X11 dX11_shape_44 rfl ?_
  refine k_icmp_ge hF (tgt := 130) dX11_shape_47 (by decide) (fun c3 => ?_) (fun c3 => ?_)
  · replace h := ite_t c3 h
    exact he _ (Option.some.inj h).symm
  · replace h := ite_f c3 h
    refine k_iload hF dX11_shape_50 rfl ?_
    refine k_if_eq hF (tgt := 130) dX11_shape_52 (by decide) (fun c4 => ?_) (fun c4 => ?_)
    · replace h := ite_t c4 h
      exact he _ (Option.some.inj h).symm
    · replace h := ite_f c4 h
      refine k_iload_n hF dX11_shape_55 rfl ?_
      refine k_iconst hF dX11_shape_56 ci_m1 ?_
      refine k_icmp_eq hF (tgt := 130) dX11_shape_57 (by decide) (fun c5 => ?_) (fun c5 => ?_)
      · replace h := ite_t c5 h
        exact he _ (Option.some.inj h).symm
      · replace h := ite_f c5 h
        refine k_iload hF dX11_shape_60 rfl ?_
        refine k_if_eq hF (tgt := 121) dX11_shape_62 (by decide) (fun c6 => ?_) (fun c6 => ?_)
        · replace h := ite_t c6 h
          refine k_kill 5 rfl ?_
          exact wX11_shape_j121 hF hA hbs h hc he
        · replace h := ite_f c6 h
          refine k_aload_n hF dX11_shape_65 rfl ?_
          refine k_iload hF dX11_shape_66 rfl ?_
          obtain ⟨v7, hv7, h⟩ := bind_some h
          refine k_callV hF hA (as := [.int x.2]) (ct_X11_isEdge hbs hv7) mv_X11_195 shR_0 rfl rfl rfl ⟨Nat.le_of_ble_eq_true rfl, Nat.le_of_ble_eq_true rfl⟩ (Nat.le_of_ble_eq_true rfl) dX11_shape_68 ?_
          refine k_st (st2 := [.int v7]) rfl ?_
          refine k_if_eq hF (tgt := 117) dX11_shape_71 (by decide) (fun c8 => ?_) (fun c8 => ?_)
          · replace h := ite_t c8 h
            refine k_kill 5 rfl ?_
            exact wX11_shape_j117 hF hA hbs h hc he
          · replace h := ite_f c8 h
            refine k_aload_n hF dX11_shape_74 rfl ?_
            refine k_get hF (v := .ref (B + 15)) shR_0 fl_X11_54_X11 dX11_shape_75 rfl ?_
            refine k_iload hF dX11_shape_78 rfl ?_
            obtain ⟨g9, h⟩ := gd_some h
            refine k_iald hF shR_15 dX11_shape_80 g9 ?_
            refine k_iload_n hF dX11_shape_81 rfl ?_
            refine k_icmp_ne hF (tgt := 117) dX11_shape_82 (by decide) (fun c10 => ?_) (fun c10 => ?_)
            · replace h := ite_f c10 h
              refine k_kill 5 rfl ?_
              exact wX11_shape_j117 hF hA hbs h hc he
            · replace h := ite_t c10 h
              refine k_aload_n hF dX11_shape_85 rfl ?_
              refine k_get hF (v := .ref (B + 1)) shR_0 fl_X11_7_X11 dX11_shape_86 rfl ?_
              refine k_aload_n hF dX11_shape_89 rfl ?_
              refine k_get hF (v := .ref (B + 13)) shR_0 fl_X11_48_X11 dX11_shape_90 rfl ?_
              refine k_iload hF dX11_shape_93 rfl ?_
              obtain ⟨g11, h⟩ := gd_some h
              refine k_iald hF shR_13 dX11_shape_95 g11 ?_
              obtain ⟨g12, h⟩ := gd_some h
              refine k_iald hF shR_1 dX11_shape_96 g12 ?_
              refine k_iload_n hF dX11_shape_97 rfl ?_
              refine k_icmp_ne hF (tgt := 121) dX11_shape_98 (by decide) (fun c13 => ?_) (fun c13 => ?_)
              · replace h := ite_f c13 h
                refine k_kill 5 rfl ?_
                exact wX11_shape_j121 hF hA hbs h hc he
              · replace h := ite_t c13 h
                refine k_aload_n hF dX11_shape_101 rfl ?_
                refine k_get hF (v := .ref (B + 1)) shR_0 fl_X11_7_X11 dX11_shape_102 rfl ?_
                refine k_aload_n hF dX11_shape_105 rfl ?_
                refine k_get hF (v := .ref (B + 14)) shR_0 fl_X11_51_X11 dX11_shape_106 rfl ?_
                refine k_iload hF dX11_shape_109 rfl ?_
                obtain ⟨g14, h⟩ := gd_some h
                refine k_iald hF shR_14 dX11_shape_111 g14 ?_
                obtain ⟨g15, h⟩ := gd_some h
                refine k_iald hF shR_1 dX11_shape_112 g15 ?_
                refine k_iload_n hF dX11_shape_113 rfl ?_
                refine k_icmp_ne hF (tgt := 121) dX11_shape_114 (by decide) (fun c16 => ?_) (fun c16 => ?_)
                · replace h := ite_f c16 h
                  refine k_kill 5 rfl ?_
                  exact wX11_shape_j121 hF hA hbs h hc he
                · replace h := ite_t c16 h
                  refine k_kill 5 rfl ?_
                  exact wX11_shape_j117 hF hA hbs h hc he
set_option maxHeartbeats 4000000 in
set_option maxRecDepth 100000 in
theorem wX11_shape_j150 {p : Program} {l : Launch} {e : Env} {s : State} {m : MethodId} {args : Array Value} {below : List Frame} {meth : Method} {c : Code} {Q : State → Prop} {A : Nat → Prop} {D : DD} {base B : Nat} (hF : KF D base cX11_shape RX11 A 7 0 0 p l e ({ frames := 2, cells := 0, slots := 0, locals := 43 } : Room) s m args below meth c) (hA : ∀ q, RA B shpR q → A q) (hbs : base ≤ B) {σ : St} {a1 : Int32} {a2 : Int32} {a3 : Int32} {t0 : Int32} {z : St} (h : fX11_shape_j150 σ a1 a2 a3 t0 = some z) (hr : ∀ (pc : Nat) (L : List (Option Value)), decode cX11_shape pc = .ok (.return_, 1) → KJ (Rep D B shpR) A 7 0 0 Q p l e ({ frames := 2, cells := 0, slots := 0, locals := 43 } : Room) s m args below meth c 0 0 pc L [] z) : KJ (Rep D B shpR) A 7 0 0 Q p l e ({ frames := 2, cells := 0, slots := 0, locals := 43 } : Room) s m args below meth c 0 0 150 [some (.ref (B + 0)), some (.int a1), some (.int a2), some (.int a3), none, none, none] [.int t0, .ref (B + 0)] σ := by
  unfold fX11_shape_j150 at h
  obtain ⟨v20, hv20, h⟩ := bind_some h
  refine k_callV hF hA (as := [.int t0]) (ct_X11_fails hbs hv20) mv_X11_181 shR_0 rfl rfl rfl ⟨Nat.le_of_ble_eq_true rfl, Nat.le_of_ble_eq_true rfl⟩ (Nat.le_of_ble_eq_true rfl) dX11_shape_150 ?_
  refine k_st (st2 := [.int v20.1]) rfl ?_
  refine k_if_ne hF (tgt := 170) dX11_shape_153 (by decide) (fun c21 => ?_) (fun c21 => ?_)
  · replace h := ite_f c21 h
    cases h
    exact hr _ _ dX11_shape_170
  · replace h := ite_t c21 h
    refine k_aload_n hF dX11_shape_156 rfl ?_
    refine k_get hF (v := .ref (B + 19)) shR_0 fl_X11_66_X11 dX11_shape_157 rfl ?_
    refine k_iload_n hF dX11_shape_160 rfl ?_
    refine k_iload_n hF dX11_shape_161 rfl ?_
    obtain ⟨g22, h⟩ := gd_some h
    refine k_iast hF hA shR_19 dX11_shape_162 g22 ?_
    obtain ⟨σ23, hσ23, h⟩ := lt_some h
    refine k_sig hσ23 ?_
    refine k_aload_n hF dX11_shape_163 rfl ?_
    refine k_get hF (v := .ref (B + 20)) shR_0 fl_X11_69_X11 dX11_shape_164 rfl ?_
    refine k_iload_n hF dX11_shape_167 rfl ?_
    refine k_iload_n hF dX11_shape_168 rfl ?_
    obtain ⟨g24, h⟩ := gd_some h
    refine k_iast hF hA shR_20 dX11_shape_169 g24 ?_
    obtain ⟨σ25, hσ25, h⟩ := lt_some h
    refine k_sig hσ25 ?_
    cases h
    exact hr _ _ dX11_shape_170
set_option maxHeartbeats 4000000 in
set_option maxRecDepth 100000 in
theorem wX11_shape_j33 {p : Program} {l : Launch} {e : Env} {s : State} {m : MethodId} {args : Array Value} {below : List Frame} {meth : Method} {c : Code} {Q : State → Prop} {A : Nat → Prop} {D : DD} {base B : Nat} (hF : KF D base cX11_shape RX11 A 7 0 0 p l e ({ frames := 2, cells := 0, slots := 0, locals := 43 } : Room) s m args below meth c) (hA : ∀ q, RA B shpR q → A q) (hbs : base ≤ B) {σ : St} {a1 : Int32} {a2 : Int32} {a3 : Int32} {t0 : Int32} {z : St} (h : fX11_shape_j33 σ a1 a2 a3 t0 = some z) (hr : ∀ (pc : Nat) (L : List (Option Value)), decode cX11_shape pc = .ok (.return_, 1) → KJ (Rep D B shpR) A 7 0 0 Q p l e ({ frames := 2, cells := 0, slots := 0, locals := 43 } : Room) s m args below meth c 0 0 pc L [] z) : KJ (Rep D B shpR) A 7 0 0 Q p l e ({ frames := 2, cells := 0, slots := 0, locals := 43 } : Room) s m args below meth c 0 0 33 [some (.ref (B + 0)), some (.int a1), some (.int a2), some (.int a3), none, none, none] [.int t0] σ := by
  unfold fX11_shape_j33 at h
  refine k_istore hF (L' := [some (.ref (B + 0)), some (.int a1), some (.int a2), some (.int a3), some (.int t0), none, none]) dX11_shape_33 (by decide) rfl ?_
  refine k_iconst hF dX11_shape_35 ci_1 ?_
  refine k_istore hF (L' := [some (.ref (B + 0)), some (.int a1), some (.int a2), some (.int a3), some (.int t0), some (.int (1 : Int32)), none]) dX11_shape_36 (by decide) rfl ?_
  refine k_iconst hF dX11_shape_38 ci_0 ?_
  refine k_istore hF (L' := [some (.ref (B + 0)), some (.int a1), some (.int a2), some (.int a3), some (.int t0), some (.int (1 : Int32)), some (.int (0 : Int32))]) dX11_shape_39 (by decide) rfl ?_
  obtain ⟨x17, hx17, h⟩ := bind_some h
  refine k_loop (P := fun xq => KJ (Rep D B shpR) A 7 0 0 Q p l e ({ frames := 2, cells := 0, slots := 0, locals := 43 } : Room) s m args below meth c 0 0 41 [some (.ref (B + 0)), some (.int a1), some (.int a2), some (.int a3), some (.int t0), some (.int xq.1), some (.int xq.2)] [] σ) (C := fun xq => KJ (Rep D B shpR) A 7 0 0 Q p l e ({ frames := 2, cells := 0, slots := 0, locals := 43 } : Room) s m args below meth c 0 0 130 [some (.ref (B + 0)), some (.int a1), some (.int a2), some (.int a3), some (.int t0), some (.int xq.1), some (.int xq.2)] [] σ) (fun x z hz hc he => wX11_shape_l41 hF hA hbs hz hc he) hx17 ?_
  show KJ (Rep D B shpR) A 7 0 0 Q p l e ({ frames := 2, cells := 0, slots := 0, locals := 43 } : Room) s m args below meth c 0 0 130 [some (.ref (B + 0)), some (.int a1), some (.int a2), some (.int a3), some (.int t0), some (.int x17.1), some (.int x17.2)] [] σ
  refine k_aload_n hF dX11_shape_130 rfl ?_
  refine k_iload hF dX11_shape_131 rfl ?_
  refine k_if_ne hF (tgt := 140) dX11_shape_133 (by decide) (fun c18 => ?_) (fun c18 => ?_)
  · replace h := ite_f c18 h
    refine k_iload hF dX11_shape_140 rfl ?_
    refine k_if_eq hF (tgt := 149) dX11_shape_142 (by decide) (fun c19 => ?_) (fun c19 => ?_)
    · replace h := ite_t c19 h
      refine k_iconst hF dX11_shape_149 ci_2 ?_
      refine k_kill 4 rfl ?_
      refine k_kill 5 rfl ?_
      refine k_kill 6 rfl ?_
      exact wX11_shape_j150 hF hA hbs h hr
    · replace h := ite_f c19 h
      refine k_iconst hF dX11_shape_145 ci_0 ?_
      refine k_goto hF dX11_shape_146 (tgt := 150) (by decide) ?_
      refine k_kill 4 rfl ?_
      refine k_kill 5 rfl ?_
      refine k_kill 6 rfl ?_
      exact wX11_shape_j150 hF hA hbs h hr
  · replace h := ite_t c18 h
    refine k_iconst hF dX11_shape_136 ci_1 ?_
    refine k_goto hF dX11_shape_137 (tgt := 150) (by decide) ?_
    refine k_kill 4 rfl ?_
    refine k_kill 5 rfl ?_
    refine k_kill 6 rfl ?_
    exact wX11_shape_j150 hF hA hbs h hr
set_option maxHeartbeats 4000000 in
set_option maxRecDepth 100000 in
theorem wX11_shape_j32 {p : Program} {l : Launch} {e : Env} {s : State} {m : MethodId} {args : Array Value} {below : List Frame} {meth : Method} {c : Code} {Q : State → Prop} {A : Nat → Prop} {D : DD} {base B : Nat} (hF : KF D base cX11_shape RX11 A 7 0 0 p l e ({ frames := 2, cells := 0, slots := 0, locals := 43 } : Room) s m args below meth c) (hA : ∀ q, RA B shpR q → A q) (hbs : base ≤ B) {σ : St} {a1 : Int32} {a2 : Int32} {a3 : Int32} {z : St} (h : fX11_shape_j32 σ a1 a2 a3 = some z) (hr : ∀ (pc : Nat) (L : List (Option Value)), decode cX11_shape pc = .ok (.return_, 1) → KJ (Rep D B shpR) A 7 0 0 Q p l e ({ frames := 2, cells := 0, slots := 0, locals := 43 } : Room) s m args below meth c 0 0 pc L [] z) : KJ (Rep D B shpR) A 7 0 0 Q p l e ({ frames := 2, cells := 0, slots := 0, locals := 43 } : Room) s m args below meth c 0 0 32 [some (.ref (B + 0)), some (.int a1), some (.int a2), some (.int a3), none, none, none] [] σ := by
  unfold fX11_shape_j32 at h
  refine k_iconst hF dX11_shape_32 ci_0 ?_
  exact wX11_shape_j33 hF hA hbs h hr
set_option maxHeartbeats 4000000 in
set_option maxRecDepth 100000 in
theorem wX11_shape_j28 {p : Program} {l : Launch} {e : Env} {s : State} {m : MethodId} {args : Array Value} {below : List Frame} {meth : Method} {c : Code} {Q : State → Prop} {A : Nat → Prop} {D : DD} {base B : Nat} (hF : KF D base cX11_shape RX11 A 7 0 0 p l e ({ frames := 2, cells := 0, slots := 0, locals := 43 } : Room) s m args below meth c) (hA : ∀ q, RA B shpR q → A q) (hbs : base ≤ B) {σ : St} {a1 : Int32} {a2 : Int32} {a3 : Int32} {z : St} (h : fX11_shape_j28 σ a1 a2 a3 = some z) (hr : ∀ (pc : Nat) (L : List (Option Value)), decode cX11_shape pc = .ok (.return_, 1) → KJ (Rep D B shpR) A 7 0 0 Q p l e ({ frames := 2, cells := 0, slots := 0, locals := 43 } : Room) s m args below meth c 0 0 pc L [] z) : KJ (Rep D B shpR) A 7 0 0 Q p l e ({ frames := 2, cells := 0, slots := 0, locals := 43 } : Room) s m args below meth c 0 0 28 [some (.ref (B + 0)), some (.int a1), some (.int a2), some (.int a3), none, none, none] [] σ := by
  unfold fX11_shape_j28 at h
  refine k_iconst hF dX11_shape_28 ci_1 ?_
  refine k_goto hF dX11_shape_29 (tgt := 33) (by decide) ?_
  exact wX11_shape_j33 hF hA hbs h hr
set_option maxHeartbeats 4000000 in
set_option maxRecDepth 100000 in
theorem wX11_shape {p : Program} {l : Launch} {e : Env} {s : State} {m : MethodId} {args : Array Value} {below : List Frame} {meth : Method} {c : Code} {Q : State → Prop} {A : Nat → Prop} {D : DD} {base B : Nat} (hF : KF D base cX11_shape RX11 A 7 0 0 p l e ({ frames := 2, cells := 0, slots := 0, locals := 43 } : Room) s m args below meth c) (hA : ∀ q, RA B shpR q → A q) (hbs : base ≤ B) {σ : St} {a1 : Int32} {a2 : Int32} {a3 : Int32} {z : St} (h : fX11_shape σ a1 a2 a3 = some z) (hr : ∀ (pc : Nat) (L : List (Option Value)), decode cX11_shape pc = .ok (.return_, 1) → KJ (Rep D B shpR) A 7 0 0 Q p l e ({ frames := 2, cells := 0, slots := 0, locals := 43 } : Room) s m args below meth c 0 0 pc L [] z) : KJ (Rep D B shpR) A 7 0 0 Q p l e ({ frames := 2, cells := 0, slots := 0, locals := 43 } : Room) s m args below meth c 0 0 0 [some (.ref (B + 0)), some (.int a1), some (.int a2), some (.int a3), none, none, none] [] σ := by
  unfold fX11_shape at h
  refine k_iload_n hF dX11_shape_0 rfl ?_
  obtain ⟨v1, hv1, h⟩ := bind_some h
  refine k_callS hF hA (as := [.int a1]) (ct_X11_isLabel hbs hv1) ms_X11_171 rfl rfl ⟨Nat.le_of_ble_eq_true rfl, Nat.le_of_ble_eq_true rfl⟩ (Nat.le_of_ble_eq_true rfl) dX11_shape_1 ?_
  refine k_st (st2 := [.int v1]) rfl ?_
  refine k_if_eq hF (tgt := 32) dX11_shape_4 (by decide) (fun c2 => ?_) (fun c2 => ?_)
  · replace h := ite_t c2 h
    exact wX11_shape_j32 hF hA hbs h hr
  · replace h := ite_f c2 h
    refine k_iload_n hF dX11_shape_7 rfl ?_
    refine k_iconst hF dX11_shape_8 ci_m1 ?_
    refine k_iconst hF dX11_shape_9 ci_3 ?_
    obtain ⟨v26, hv26, h⟩ := bind_some h
    refine k_callS hF hA (as := [.int a2, .int (-1 : Int32), .int (3 : Int32)]) (ct_X11_isIn hbs hv26) ms_X11_146 rfl rfl ⟨Nat.le_of_ble_eq_true rfl, Nat.le_of_ble_eq_true rfl⟩ (Nat.le_of_ble_eq_true rfl) dX11_shape_10 ?_
    refine k_st (st2 := [.int v26]) rfl ?_
    refine k_if_eq hF (tgt := 32) dX11_shape_13 (by decide) (fun c27 => ?_) (fun c27 => ?_)
    · replace h := ite_t c27 h
      exact wX11_shape_j32 hF hA hbs h hr
    · replace h := ite_f c27 h
      refine k_iload_n hF dX11_shape_16 rfl ?_
      refine k_iconst hF dX11_shape_17 ci_m1 ?_
      refine k_icmp_eq hF (tgt := 28) dX11_shape_18 (by decide) (fun c28 => ?_) (fun c28 => ?_)
      · replace h := ite_t c28 h
        exact wX11_shape_j28 hF hA hbs h hr
      · replace h := ite_f c28 h
        refine k_iload_n hF dX11_shape_21 rfl ?_
        obtain ⟨v29, hv29, h⟩ := bind_some h
        refine k_callS hF hA (as := [.int a3]) (ct_X11_isLabel hbs hv29) ms_X11_171 rfl rfl ⟨Nat.le_of_ble_eq_true rfl, Nat.le_of_ble_eq_true rfl⟩ (Nat.le_of_ble_eq_true rfl) dX11_shape_22 ?_
        refine k_st (st2 := [.int v29]) rfl ?_
        refine k_if_eq hF (tgt := 32) dX11_shape_25 (by decide) (fun c30 => ?_) (fun c30 => ?_)
        · replace h := ite_t c30 h
          exact wX11_shape_j32 hF hA hbs h hr
        · replace h := ite_f c30 h
          exact wX11_shape_j28 hF hA hbs h hr
theorem ct_X11_shape {l : Launch} {D : DD} {base B : Nat} (hbs : base ≤ B) {σ : St} {a1 : Int32} {a2 : Int32} {a3 : Int32} {r : St} (h : fX11_shape σ a1 a2 a3 = some r) : MetR l D B shpR base yX11_shape cX11_shape 7 none 2 43 [.ref (B + 0), .int a1, .int a2, .int a3] σ none r :=
  MetR.of (by decide +kernel) (fun v hv => by simp only [List.mem_cons, List.not_mem_nil, or_false] at hv; rcases hv with rfl | rfl | rfl | rfl <;> rfl) (Nat.le_of_ble_eq_true rfl) hbs (fun p e s m args below meth c hF hr => wX11_shape hF (fun q hq => hq) hbs h (fun pc L hd => k_vret hF hr hd))
set_option maxHeartbeats 4000000 in
set_option maxRecDepth 100000 in
theorem wX11_move_j58 {p : Program} {l : Launch} {e : Env} {s : State} {m : MethodId} {args : Array Value} {below : List Frame} {meth : Method} {c : Code} {Q : State → Prop} {A : Nat → Prop} {D : DD} {base B : Nat} (hF : KF D base cX11_move RX11 A 5 0 0 p l e ({ frames := 2, cells := 0, slots := 0, locals := 43 } : Room) s m args below meth c) (hA : ∀ q, RA B shpR q → A q) (hbs : base ≤ B) {σ : St} {a1 : Int32} {a2 : Int32} {t0 : Int32} {z : (Int32 × St)} (h : fX11_move_j58 σ a1 a2 t0 = some z) (hr : ∀ (pc : Nat) (L : List (Option Value)), narrow .int (.int z.1) = .int z.1 → decode cX11_move pc = .ok (.ireturn, 1) → KJ (Rep D B shpR) A 5 0 0 Q p l e ({ frames := 2, cells := 0, slots := 0, locals := 43 } : Room) s m args below meth c 0 0 pc L [.int z.1] z.2) : KJ (Rep D B shpR) A 5 0 0 Q p l e ({ frames := 2, cells := 0, slots := 0, locals := 43 } : Room) s m args below meth c 0 0 58 [some (.ref (B + 0)), some (.int a1), some (.int a2), none, none] [.int t0, .ref (B + 0)] σ := by
  unfold fX11_move_j58 at h
  obtain ⟨v7, hv7, h⟩ := bind_some h
  refine k_callV hF hA (as := [.int t0]) (ct_X11_fails hbs hv7) mv_X11_181 shR_0 rfl rfl rfl ⟨Nat.le_of_ble_eq_true rfl, Nat.le_of_ble_eq_true rfl⟩ (Nat.le_of_ble_eq_true rfl) dX11_move_58 ?_
  refine k_st (st2 := [.int v7.1]) rfl ?_
  refine k_if_eq hF (tgt := 66) dX11_move_61 (by decide) (fun c8 => ?_) (fun c8 => ?_)
  · replace h := ite_t c8 h
    refine k_aload_n hF dX11_move_66 rfl ?_
    refine k_get hF (v := .ref (B + 3)) shR_0 fl_X11_16_X11 dX11_move_67 rfl ?_
    refine k_iload_n hF dX11_move_70 rfl ?_
    obtain ⟨g9, h⟩ := gd_some h
    refine k_iald hF shR_3 dX11_move_71 g9 ?_
    obtain ⟨n10, hn10, h⟩ := lt_some h
    refine k_st (st2 := [.int n10]) (by rw [hn10]) ?_
    refine k_istore hF (L' := [some (.ref (B + 0)), some (.int a1), some (.int a2), none, some (.int n10)]) dX11_move_72 (by decide) rfl ?_
    refine k_aload_n hF dX11_move_74 rfl ?_
    refine k_get hF (v := .ref (B + 3)) shR_0 fl_X11_16_X11 dX11_move_75 rfl ?_
    refine k_iload_n hF dX11_move_78 rfl ?_
    refine k_iload_n hF dX11_move_79 rfl ?_
    obtain ⟨g11, h⟩ := gd_some h
    refine k_iast hF hA shR_3 dX11_move_80 g11 ?_
    obtain ⟨σ12, hσ12, h⟩ := lt_some h
    refine k_sig hσ12 ?_
    refine k_iload hF dX11_move_81 rfl ?_
    cases h
    exact hr _ _ rfl dX11_move_83
  · replace h := ite_f c8 h
    refine k_iconst hF dX11_move_64 ci_0 ?_
    cases h
    exact hr _ _ rfl dX11_move_65
set_option maxHeartbeats 4000000 in
set_option maxRecDepth 100000 in
theorem wX11_move_j53 {p : Program} {l : Launch} {e : Env} {s : State} {m : MethodId} {args : Array Value} {below : List Frame} {meth : Method} {c : Code} {Q : State → Prop} {A : Nat → Prop} {D : DD} {base B : Nat} (hF : KF D base cX11_move RX11 A 5 0 0 p l e ({ frames := 2, cells := 0, slots := 0, locals := 43 } : Room) s m args below meth c) (hA : ∀ q, RA B shpR q → A q) (hbs : base ≤ B) {σ : St} {a1 : Int32} {a2 : Int32} {z : (Int32 × St)} (h : fX11_move_j53 σ a1 a2 = some z) (hr : ∀ (pc : Nat) (L : List (Option Value)), narrow .int (.int z.1) = .int z.1 → decode cX11_move pc = .ok (.ireturn, 1) → KJ (Rep D B shpR) A 5 0 0 Q p l e ({ frames := 2, cells := 0, slots := 0, locals := 43 } : Room) s m args below meth c 0 0 pc L [.int z.1] z.2) : KJ (Rep D B shpR) A 5 0 0 Q p l e ({ frames := 2, cells := 0, slots := 0, locals := 43 } : Room) s m args below meth c 0 0 53 [some (.ref (B + 0)), some (.int a1), some (.int a2), none, none] [.ref (B + 0)] σ := by
  unfold fX11_move_j53 at h
  refine k_iconst hF dX11_move_53 ci_2 ?_
  refine k_goto hF dX11_move_54 (tgt := 58) (by decide) ?_
  exact wX11_move_j58 hF hA hbs h hr
set_option maxHeartbeats 4000000 in
set_option maxRecDepth 100000 in
theorem wX11_move_j20 {p : Program} {l : Launch} {e : Env} {s : State} {m : MethodId} {args : Array Value} {below : List Frame} {meth : Method} {c : Code} {Q : State → Prop} {A : Nat → Prop} {D : DD} {base B : Nat} (hF : KF D base cX11_move RX11 A 5 0 0 p l e ({ frames := 2, cells := 0, slots := 0, locals := 43 } : Room) s m args below meth c) (hA : ∀ q, RA B shpR q → A q) (hbs : base ≤ B) {σ : St} {a1 : Int32} {a2 : Int32} {t0 : Int32} {z : (Int32 × St)} (h : fX11_move_j20 σ a1 a2 t0 = some z) (hr : ∀ (pc : Nat) (L : List (Option Value)), narrow .int (.int z.1) = .int z.1 → decode cX11_move pc = .ok (.ireturn, 1) → KJ (Rep D B shpR) A 5 0 0 Q p l e ({ frames := 2, cells := 0, slots := 0, locals := 43 } : Room) s m args below meth c 0 0 pc L [.int z.1] z.2) : KJ (Rep D B shpR) A 5 0 0 Q p l e ({ frames := 2, cells := 0, slots := 0, locals := 43 } : Room) s m args below meth c 0 0 20 [some (.ref (B + 0)), some (.int a1), some (.int a2), none, none] [.int t0] σ := by
  unfold fX11_move_j20 at h
  refine k_istore_n hF (L' := [some (.ref (B + 0)), some (.int a1), some (.int a2), some (.int t0), none]) dX11_move_20 (by decide) rfl ?_
  refine k_aload_n hF dX11_move_21 rfl ?_
  refine k_iload_n hF dX11_move_22 rfl ?_
  refine k_if_ne hF (tgt := 30) dX11_move_23 (by decide) (fun c3 => ?_) (fun c3 => ?_)
  · replace h := ite_f c3 h
    refine k_aload_n hF dX11_move_30 rfl ?_
    refine k_get hF (v := .ref (B + 21)) shR_0 fl_X11_72_X11 dX11_move_31 rfl ?_
    refine k_aload_n hF dX11_move_34 rfl ?_
    refine k_get hF (v := .ref (B + 3)) shR_0 fl_X11_16_X11 dX11_move_35 rfl ?_
    refine k_iload_n hF dX11_move_38 rfl ?_
    obtain ⟨g4, h⟩ := gd_some h
    refine k_iald hF shR_3 dX11_move_39 g4 ?_
    obtain ⟨g5, h⟩ := gd_some h
    refine k_zald hF shR_21 dX11_move_40 g5 ?_
    refine k_if_ne hF (tgt := 53) dX11_move_41 (by decide) (fun c6 => ?_) (fun c6 => ?_)
    · replace h := ite_f c6 h
      refine k_kill 3 rfl ?_
      exact wX11_move_j53 hF hA hbs h hr
    · replace h := ite_t c6 h
      refine k_aload_n hF dX11_move_44 rfl ?_
      refine k_get hF (v := .ref (B + 21)) shR_0 fl_X11_72_X11 dX11_move_45 rfl ?_
      refine k_iload_n hF dX11_move_48 rfl ?_
      obtain ⟨g13, h⟩ := gd_some h
      refine k_zald hF shR_21 dX11_move_49 g13 ?_
      refine k_if_eq hF (tgt := 57) dX11_move_50 (by decide) (fun c14 => ?_) (fun c14 => ?_)
      · replace h := ite_t c14 h
        refine k_iconst hF dX11_move_57 ci_0 ?_
        refine k_kill 3 rfl ?_
        exact wX11_move_j58 hF hA hbs h hr
      · replace h := ite_f c14 h
        refine k_kill 3 rfl ?_
        exact wX11_move_j53 hF hA hbs h hr
  · replace h := ite_t c3 h
    refine k_iconst hF dX11_move_26 ci_1 ?_
    refine k_goto hF dX11_move_27 (tgt := 58) (by decide) ?_
    refine k_kill 3 rfl ?_
    exact wX11_move_j58 hF hA hbs h hr
set_option maxHeartbeats 4000000 in
set_option maxRecDepth 100000 in
theorem wX11_move_j19 {p : Program} {l : Launch} {e : Env} {s : State} {m : MethodId} {args : Array Value} {below : List Frame} {meth : Method} {c : Code} {Q : State → Prop} {A : Nat → Prop} {D : DD} {base B : Nat} (hF : KF D base cX11_move RX11 A 5 0 0 p l e ({ frames := 2, cells := 0, slots := 0, locals := 43 } : Room) s m args below meth c) (hA : ∀ q, RA B shpR q → A q) (hbs : base ≤ B) {σ : St} {a1 : Int32} {a2 : Int32} {z : (Int32 × St)} (h : fX11_move_j19 σ a1 a2 = some z) (hr : ∀ (pc : Nat) (L : List (Option Value)), narrow .int (.int z.1) = .int z.1 → decode cX11_move pc = .ok (.ireturn, 1) → KJ (Rep D B shpR) A 5 0 0 Q p l e ({ frames := 2, cells := 0, slots := 0, locals := 43 } : Room) s m args below meth c 0 0 pc L [.int z.1] z.2) : KJ (Rep D B shpR) A 5 0 0 Q p l e ({ frames := 2, cells := 0, slots := 0, locals := 43 } : Room) s m args below meth c 0 0 19 [some (.ref (B + 0)), some (.int a1), some (.int a2), none, none] [] σ := by
  unfold fX11_move_j19 at h
  refine k_iconst hF dX11_move_19 ci_0 ?_
  exact wX11_move_j20 hF hA hbs h hr
set_option maxHeartbeats 4000000 in
set_option maxRecDepth 100000 in
theorem wX11_move {p : Program} {l : Launch} {e : Env} {s : State} {m : MethodId} {args : Array Value} {below : List Frame} {meth : Method} {c : Code} {Q : State → Prop} {A : Nat → Prop} {D : DD} {base B : Nat} (hF : KF D base cX11_move RX11 A 5 0 0 p l e ({ frames := 2, cells := 0, slots := 0, locals := 43 } : Room) s m args below meth c) (hA : ∀ q, RA B shpR q → A q) (hbs : base ≤ B) {σ : St} {a1 : Int32} {a2 : Int32} {z : (Int32 × St)} (h : fX11_move σ a1 a2 = some z) (hr : ∀ (pc : Nat) (L : List (Option Value)), narrow .int (.int z.1) = .int z.1 → decode cX11_move pc = .ok (.ireturn, 1) → KJ (Rep D B shpR) A 5 0 0 Q p l e ({ frames := 2, cells := 0, slots := 0, locals := 43 } : Room) s m args below meth c 0 0 pc L [.int z.1] z.2) : KJ (Rep D B shpR) A 5 0 0 Q p l e ({ frames := 2, cells := 0, slots := 0, locals := 43 } : Room) s m args below meth c 0 0 0 [some (.ref (B + 0)), some (.int a1), some (.int a2), none, none] [] σ := by
  unfold fX11_move at h
  refine k_aload_n hF dX11_move_0 rfl ?_
  refine k_iload_n hF dX11_move_1 rfl ?_
  obtain ⟨v1, hv1, h⟩ := bind_some h
  refine k_callV hF hA (as := [.int a1]) (ct_X11_isNode hbs hv1) mv_X11_163 shR_0 rfl rfl rfl ⟨Nat.le_of_ble_eq_true rfl, Nat.le_of_ble_eq_true rfl⟩ (Nat.le_of_ble_eq_true rfl) dX11_move_2 ?_
  refine k_st (st2 := [.int v1]) rfl ?_
  refine k_if_eq hF (tgt := 19) dX11_move_5 (by decide) (fun c2 => ?_) (fun c2 => ?_)
  · replace h := ite_t c2 h
    exact wX11_move_j19 hF hA hbs h hr
  · replace h := ite_f c2 h
    refine k_iload_n hF dX11_move_8 rfl ?_
    obtain ⟨v15, hv15, h⟩ := bind_some h
    refine k_callS hF hA (as := [.int a2]) (ct_X11_isMachine hbs hv15) ms_X11_208 rfl rfl ⟨Nat.le_of_ble_eq_true rfl, Nat.le_of_ble_eq_true rfl⟩ (Nat.le_of_ble_eq_true rfl) dX11_move_9 ?_
    refine k_st (st2 := [.int v15]) rfl ?_
    refine k_if_eq hF (tgt := 19) dX11_move_12 (by decide) (fun c16 => ?_) (fun c16 => ?_)
    · replace h := ite_t c16 h
      exact wX11_move_j19 hF hA hbs h hr
    · replace h := ite_f c16 h
      refine k_iconst hF dX11_move_15 ci_1 ?_
      refine k_goto hF dX11_move_16 (tgt := 20) (by decide) ?_
      exact wX11_move_j20 hF hA hbs h hr
theorem ct_X11_move {l : Launch} {D : DD} {base B : Nat} (hbs : base ≤ B) {σ : St} {a1 : Int32} {a2 : Int32} {r : (Int32 × St)} (h : fX11_move σ a1 a2 = some r) : MetR l D B shpR base yX11_move cX11_move 5 (some .int) 2 43 [.ref (B + 0), .int a1, .int a2] σ (some (.int r.1)) r.2 :=
  MetR.of (by decide +kernel) (fun v hv => by simp only [List.mem_cons, List.not_mem_nil, or_false] at hv; rcases hv with rfl | rfl | rfl <;> rfl) (Nat.le_of_ble_eq_true rfl) hbs (fun p e s m args below meth c hF hr => wX11_move hF (fun q hq => hq) hbs h (fun pc L hn hd => k_iret hF hr hn hd))
