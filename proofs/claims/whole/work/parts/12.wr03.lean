set_option maxHeartbeats 4000000 in
set_option maxRecDepth 100000 in
theorem wX11_lays_j111 {p : Program} {l : Launch} {e : Env} {s : State} {m : MethodId} {args : Array Value} {below : List Frame} {meth : Method} {c : Code} {Q : State → Prop} {A : Nat → Prop} {D : DD} {base B : Nat} (hF : KF D base cX11_lays RX11 A 7 0 0 p l e ({ frames := 3, cells := 0, slots := 0, locals := 70 } : Room) s m args below meth c) (hA : ∀ q, RA B shpR q → A q) (hbs : base ≤ B) {σ : St} {a1 : Int32} {a2 : Int32} {ea3 : Int32} {b4 : Int32} {b5 : Int32} {z : ((St × Int32 × Int32) ⊕ (St × Int32 × Int32))} (h : fX11_lays_j111 σ a1 a2 ea3 b4 b5 = some z) (hc : ∀ x, z = .inl x → KJ (Rep D B shpR) A 7 0 0 Q p l e ({ frames := 3, cells := 0, slots := 0, locals := 70 } : Room) s m args below meth c 0 0 19 [some (.ref (B + 0)), some (.int a1), some (.int a2), some (.int ea3), some (.int x.2.1), some (.int x.2.2), none] [] x.1) (he : ∀ w, z = .inr w → KJ (Rep D B shpR) A 7 0 0 Q p l e ({ frames := 3, cells := 0, slots := 0, locals := 70 } : Room) s m args below meth c 0 0 117 [some (.ref (B + 0)), some (.int a1), some (.int a2), some (.int ea3), some (.int w.2.1), some (.int w.2.2), none] [] w.1) : KJ (Rep D B shpR) A 7 0 0 Q p l e ({ frames := 3, cells := 0, slots := 0, locals := 70 } : Room) s m args below meth c 0 0 111 [some (.ref (B + 0)), some (.int a1), some (.int a2), some (.int ea3), some (.int b4), some (.int b5), none] [] σ := by
  unfold fX11_lays_j111 at h
  refine k_iinc hF (v := (b5 + (1 : Int32))) (L' := [some (.ref (B + 0)), some (.int a1), some (.int a2), some (.int ea3), some (.int b4), some (.int (b5 + (1 : Int32))), none]) dX11_lays_111 rfl (by first | rfl | (congr 1)) (by decide) rfl ?_
  refine k_goto hF dX11_lays_114 (tgt := 19) (by decide) ?_
  exact hc _ (Option.some.inj h).symm
set_option maxHeartbeats 4000000 in
set_option maxRecDepth 100000 in
theorem wX11_lays_l19 {p : Program} {l : Launch} {e : Env} {s : State} {m : MethodId} {args : Array Value} {below : List Frame} {meth : Method} {c : Code} {Q : State → Prop} {A : Nat → Prop} {D : DD} {base B : Nat} (hF : KF D base cX11_lays RX11 A 7 0 0 p l e ({ frames := 3, cells := 0, slots := 0, locals := 70 } : Room) s m args below meth c) (hA : ∀ q, RA B shpR q → A q) (hbs : base ≤ B) {σ : St} {a1 : Int32} {a2 : Int32} {ea3 : Int32} {x : (St × Int32 × Int32)} {z : ((St × Int32 × Int32) ⊕ (St × Int32 × Int32))} (h : fX11_lays_l19 σ a1 a2 ea3 x = some z) (hc : ∀ x, z = .inl x → KJ (Rep D B shpR) A 7 0 0 Q p l e ({ frames := 3, cells := 0, slots := 0, locals := 70 } : Room) s m args below meth c 0 0 19 [some (.ref (B + 0)), some (.int a1), some (.int a2), some (.int ea3), some (.int x.2.1), some (.int x.2.2), none] [] x.1) (he : ∀ w, z = .inr w → KJ (Rep D B shpR) A 7 0 0 Q p l e ({ frames := 3, cells := 0, slots := 0, locals := 70 } : Room) s m args below meth c 0 0 117 [some (.ref (B + 0)), some (.int a1), some (.int a2), some (.int ea3), some (.int w.2.1), some (.int w.2.2), none] [] w.1) : KJ (Rep D B shpR) A 7 0 0 Q p l e ({ frames := 3, cells := 0, slots := 0, locals := 70 } : Room) s m args below meth c 0 0 19 [some (.ref (B + 0)), some (.int a1), some (.int a2), some (.int ea3), some (.int x.2.1), some (.int x.2.2), none] [] x.1 := by
  unfold fX11_lays_l19 at h
  refine k_iload hF dX11_lays_19 rfl ?_
  refine k_bipush hF (v := (12 : Int32)) dX11_lays_21 (by decide) ?_
  refine k_iload_n hF dX11_lays_23 rfl ?_
  refine k_imul hF dX11_lays_24 ?_
  refine k_aload_n hF dX11_lays_25 rfl ?_
  refine k_get hF (v := .ref (B + 33)) shR_0 fl_X11_108_X11 dX11_lays_26 rfl ?_
  refine k_iload_n hF dX11_lays_29 rfl ?_
  obtain ⟨g3, h⟩ := gd_some h
  refine k_iald hF shR_33 dX11_lays_30 g3 ?_
  refine k_iadd hF dX11_lays_31 ?_
  refine k_icmp_ge hF (tgt := 117) dX11_lays_32 (by decide) (fun c4 => ?_) (fun c4 => ?_)
  · replace h := ite_t c4 h
    exact he _ (Option.some.inj h).symm
  · replace h := ite_f c4 h
    refine k_bipush hF (v := (24 : Int32)) dX11_lays_35 (by decide) ?_
    refine k_iload hF dX11_lays_37 rfl ?_
    refine k_imul hF dX11_lays_39 ?_
    refine k_istore hF (L' := [some (.ref (B + 0)), some (.int a1), some (.int a2), some (.int ea3), some (.int x.2.1), some (.int x.2.2), some (.int ((24 : Int32) * x.2.1))]) dX11_lays_40 (by decide) rfl ?_
    refine k_aload_n hF dX11_lays_42 rfl ?_
    refine k_get hF (v := .ref (B + 34)) shR_0 fl_X11_111_X11 dX11_lays_43 rfl ?_
    refine k_iload hF dX11_lays_46 rfl ?_
    obtain ⟨g5, h⟩ := gd_some h
    refine k_iald hF shR_34 dX11_lays_48 g5 ?_
    refine k_iconst hF dX11_lays_49 ci_3 ?_
    refine k_icmp_ge hF (tgt := 68) dX11_lays_50 (by decide) (fun c6 => ?_) (fun c6 => ?_)
    · replace h := ite_t c6 h
      refine k_aload_n hF dX11_lays_68 rfl ?_
      refine k_get hF (v := .ref (B + 34)) shR_0 fl_X11_111_X11 dX11_lays_69 rfl ?_
      refine k_iload hF dX11_lays_72 rfl ?_
      obtain ⟨g7, h⟩ := gd_some h
      refine k_iald hF shR_34 dX11_lays_74 g7 ?_
      refine k_iconst hF dX11_lays_75 ci_5 ?_
      refine k_icmp_ne hF (tgt := 92) dX11_lays_76 (by decide) (fun c8 => ?_) (fun c8 => ?_)
      · replace h := ite_f c8 h
        refine k_iinc hF (v := (x.2.1 + (-1 : Int32))) (L' := [some (.ref (B + 0)), some (.int a1), some (.int a2), some (.int ea3), some (.int (x.2.1 + (-1 : Int32))), some (.int x.2.2), some (.int ((24 : Int32) * x.2.1))]) dX11_lays_92 rfl (by first | rfl | (congr 1)) (by decide) rfl ?_
        refine k_aload_n hF dX11_lays_95 rfl ?_
        refine k_aload_n hF dX11_lays_96 rfl ?_
        refine k_get hF (v := .ref (B + 34)) shR_0 fl_X11_111_X11 dX11_lays_97 rfl ?_
        refine k_iload hF dX11_lays_100 rfl ?_
        obtain ⟨g9, h⟩ := gd_some h
        refine k_iald hF shR_34 dX11_lays_102 g9 ?_
        refine k_iload hF dX11_lays_103 rfl ?_
        refine k_bipush hF (v := (48 : Int32)) dX11_lays_105 (by decide) ?_
        refine k_isub hF dX11_lays_107 ?_
        obtain ⟨v10, hv10, h⟩ := bind_some h
        refine k_callV hF hA (as := [.int (gi x.1 34 x.2.2.toNatClampNeg), .int (((24 : Int32) * x.2.1) - (48 : Int32))]) (ct_X11_joins hbs hv10) mv_X11_277 shR_0 rfl rfl rfl ⟨Nat.le_of_ble_eq_true rfl, Nat.le_of_ble_eq_true rfl⟩ (Nat.le_of_ble_eq_true rfl) dX11_lays_108 ?_
        refine k_st (st2 := []) rfl ?_
        refine k_kill 6 rfl ?_
        exact wX11_lays_j111 hF hA hbs h hc he
      · replace h := ite_t c8 h
        refine k_aload_n hF dX11_lays_79 rfl ?_
        refine k_iload hF dX11_lays_80 rfl ?_
        refine k_bipush hF (v := (24 : Int32)) dX11_lays_82 (by decide) ?_
        refine k_isub hF dX11_lays_84 ?_
        refine k_iload_n hF dX11_lays_85 rfl ?_
        obtain ⟨v11, hv11, h⟩ := bind_some h
        refine k_callV hF hA (as := [.int (((24 : Int32) * x.2.1) - (24 : Int32)), .int ea3]) (ct_X11_closes hbs hv11) mv_X11_274 shR_0 rfl rfl rfl ⟨Nat.le_of_ble_eq_true rfl, Nat.le_of_ble_eq_true rfl⟩ (Nat.le_of_ble_eq_true rfl) dX11_lays_86 ?_
        refine k_st (st2 := []) rfl ?_
        refine k_goto hF dX11_lays_89 (tgt := 111) (by decide) ?_
        refine k_kill 6 rfl ?_
        exact wX11_lays_j111 hF hA hbs h hc he
    · replace h := ite_f c6 h
      refine k_aload_n hF dX11_lays_53 rfl ?_
      refine k_iload hF dX11_lays_54 rfl ?_
      refine k_iload hF dX11_lays_56 rfl ?_
      refine k_iload_n hF dX11_lays_58 rfl ?_
      obtain ⟨v12, hv12, h⟩ := bind_some h
      refine k_callV hF hA (as := [.int x.2.2, .int ((24 : Int32) * x.2.1), .int ea3]) (ct_X11_begins hbs hv12) mv_X11_270 shR_0 rfl rfl rfl ⟨Nat.le_of_ble_eq_true rfl, Nat.le_of_ble_eq_true rfl⟩ (Nat.le_of_ble_eq_true rfl) dX11_lays_59 ?_
      refine k_st (st2 := []) rfl ?_
      refine k_iinc hF (v := (x.2.1 + (1 : Int32))) (L' := [some (.ref (B + 0)), some (.int a1), some (.int a2), some (.int ea3), some (.int (x.2.1 + (1 : Int32))), some (.int x.2.2), some (.int ((24 : Int32) * x.2.1))]) dX11_lays_62 rfl (by first | rfl | (congr 1)) (by decide) rfl ?_
      refine k_goto hF dX11_lays_65 (tgt := 111) (by decide) ?_
      refine k_kill 6 rfl ?_
      exact wX11_lays_j111 hF hA hbs h hc he
set_option maxHeartbeats 4000000 in
set_option maxRecDepth 100000 in
theorem wX11_lays {p : Program} {l : Launch} {e : Env} {s : State} {m : MethodId} {args : Array Value} {below : List Frame} {meth : Method} {c : Code} {Q : State → Prop} {A : Nat → Prop} {D : DD} {base B : Nat} (hF : KF D base cX11_lays RX11 A 7 0 0 p l e ({ frames := 3, cells := 0, slots := 0, locals := 70 } : Room) s m args below meth c) (hA : ∀ q, RA B shpR q → A q) (hbs : base ≤ B) {σ : St} {a1 : Int32} {a2 : Int32} {z : St} (h : fX11_lays σ a1 a2 = some z) (hr : ∀ (pc : Nat) (L : List (Option Value)), decode cX11_lays pc = .ok (.return_, 1) → KJ (Rep D B shpR) A 7 0 0 Q p l e ({ frames := 3, cells := 0, slots := 0, locals := 70 } : Room) s m args below meth c 0 0 pc L [] z) : KJ (Rep D B shpR) A 7 0 0 Q p l e ({ frames := 3, cells := 0, slots := 0, locals := 70 } : Room) s m args below meth c 0 0 0 [some (.ref (B + 0)), some (.int a1), some (.int a2), none, none, none, none] [] σ := by
  unfold fX11_lays at h
  refine k_aload_n hF dX11_lays_0 rfl ?_
  obtain ⟨v1, hv1, h⟩ := bind_some h
  refine k_callV hF hA (as := []) (ct_X11_infers hbs hv1) mv_X11_248 shR_0 rfl rfl rfl ⟨Nat.le_of_ble_eq_true rfl, Nat.le_of_ble_eq_true rfl⟩ (Nat.le_of_ble_eq_true rfl) dX11_lays_1 ?_
  refine k_st (st2 := []) rfl ?_
  refine k_aload_n hF dX11_lays_4 rfl ?_
  refine k_iload_n hF dX11_lays_5 rfl ?_
  obtain ⟨v2, hv2, h⟩ := bind_some h
  refine k_callV hF hA (as := [.int a2]) (ct_X11_reached hbs hv2) mv_X11_266 shR_0 rfl rfl rfl ⟨Nat.le_of_ble_eq_true rfl, Nat.le_of_ble_eq_true rfl⟩ (Nat.le_of_ble_eq_true rfl) dX11_lays_6 ?_
  refine k_st (st2 := [.int v2]) rfl ?_
  refine k_istore_n hF (L' := [some (.ref (B + 0)), some (.int a1), some (.int a2), some (.int v2), none, none, none]) dX11_lays_9 (by decide) rfl ?_
  refine k_iconst hF dX11_lays_10 ci_0 ?_
  refine k_istore hF (L' := [some (.ref (B + 0)), some (.int a1), some (.int a2), some (.int v2), some (.int (0 : Int32)), none, none]) dX11_lays_11 (by decide) rfl ?_
  refine k_bipush hF (v := (12 : Int32)) dX11_lays_13 (by decide) ?_
  refine k_iload_n hF dX11_lays_15 rfl ?_
  refine k_imul hF dX11_lays_16 ?_
  refine k_istore hF (L' := [some (.ref (B + 0)), some (.int a1), some (.int a2), some (.int v2), some (.int (0 : Int32)), some (.int ((12 : Int32) * a1)), none]) dX11_lays_17 (by decide) rfl ?_
  obtain ⟨x13, hx13, h⟩ := bind_some h
  refine k_loop (P := fun xq => KJ (Rep D B shpR) A 7 0 0 Q p l e ({ frames := 3, cells := 0, slots := 0, locals := 70 } : Room) s m args below meth c 0 0 19 [some (.ref (B + 0)), some (.int a1), some (.int a2), some (.int v2), some (.int xq.2.1), some (.int xq.2.2), none] [] xq.1) (C := fun xq => KJ (Rep D B shpR) A 7 0 0 Q p l e ({ frames := 3, cells := 0, slots := 0, locals := 70 } : Room) s m args below meth c 0 0 117 [some (.ref (B + 0)), some (.int a1), some (.int a2), some (.int v2), some (.int xq.2.1), some (.int xq.2.2), none] [] xq.1) (fun x z hz hc he => wX11_lays_l19 hF hA hbs hz hc he) hx13 ?_
  show KJ (Rep D B shpR) A 7 0 0 Q p l e ({ frames := 3, cells := 0, slots := 0, locals := 70 } : Room) s m args below meth c 0 0 117 [some (.ref (B + 0)), some (.int a1), some (.int a2), some (.int v2), some (.int x13.2.1), some (.int x13.2.2), none] [] x13.1
  cases h
  exact hr _ _ dX11_lays_117
theorem ct_X11_lays {l : Launch} {D : DD} {base B : Nat} (hbs : base ≤ B) {σ : St} {a1 : Int32} {a2 : Int32} {r : St} (h : fX11_lays σ a1 a2 = some r) : MetR l D B shpR base yX11_lays cX11_lays 7 none 3 70 [.ref (B + 0), .int a1, .int a2] σ none r :=
  MetR.of (by decide +kernel) (fun v hv => by simp only [List.mem_cons, List.not_mem_nil, or_false] at hv; rcases hv with rfl | rfl | rfl <;> rfl) (Nat.le_of_ble_eq_true rfl) hbs (fun p e s m args below meth c hF hr => wX11_lays hF (fun q hq => hq) hbs h (fun pc L hd => k_vret hF hr hd))
set_option maxHeartbeats 4000000 in
set_option maxRecDepth 100000 in
theorem wX11_isAsked_j26 {p : Program} {l : Launch} {e : Env} {s : State} {m : MethodId} {args : Array Value} {below : List Frame} {meth : Method} {c : Code} {Q : State → Prop} {A : Nat → Prop} {D : DD} {base B : Nat} (hF : KF D base cX11_isAsked RX11 A 3 0 0 p l e ({ frames := 2, cells := 0, slots := 0, locals := 43 } : Room) s m args below meth c) (hA : ∀ q, RA B shpR q → A q) (hbs : base ≤ B) {σ : St} {a1 : Int32} {a2 : Int32} {z : Int32} (h : fX11_isAsked_j26 σ a1 a2 = some z) (hr : ∀ (pc : Nat) (L : List (Option Value)), narrow .boolean (.int z) = .int z → decode cX11_isAsked pc = .ok (.ireturn, 1) → KJ (Rep D B shpR) A 3 0 0 Q p l e ({ frames := 2, cells := 0, slots := 0, locals := 43 } : Room) s m args below meth c 0 0 pc L [.int z] σ) : KJ (Rep D B shpR) A 3 0 0 Q p l e ({ frames := 2, cells := 0, slots := 0, locals := 43 } : Room) s m args below meth c 0 0 26 [some (.ref (B + 0)), some (.int a1), some (.int a2)] [] σ := by
  unfold fX11_isAsked_j26 at h
  refine k_iconst hF dX11_isAsked_26 ci_0 ?_
  cases h
  exact hr _ _ nar_0 dX11_isAsked_27
set_option maxHeartbeats 4000000 in
set_option maxRecDepth 100000 in
theorem wX11_isAsked {p : Program} {l : Launch} {e : Env} {s : State} {m : MethodId} {args : Array Value} {below : List Frame} {meth : Method} {c : Code} {Q : State → Prop} {A : Nat → Prop} {D : DD} {base B : Nat} (hF : KF D base cX11_isAsked RX11 A 3 0 0 p l e ({ frames := 2, cells := 0, slots := 0, locals := 43 } : Room) s m args below meth c) (hA : ∀ q, RA B shpR q → A q) (hbs : base ≤ B) {σ : St} {a1 : Int32} {a2 : Int32} {z : Int32} (h : fX11_isAsked σ a1 a2 = some z) (hr : ∀ (pc : Nat) (L : List (Option Value)), narrow .boolean (.int z) = .int z → decode cX11_isAsked pc = .ok (.ireturn, 1) → KJ (Rep D B shpR) A 3 0 0 Q p l e ({ frames := 2, cells := 0, slots := 0, locals := 43 } : Room) s m args below meth c 0 0 pc L [.int z] σ) : KJ (Rep D B shpR) A 3 0 0 Q p l e ({ frames := 2, cells := 0, slots := 0, locals := 43 } : Room) s m args below meth c 0 0 0 [some (.ref (B + 0)), some (.int a1), some (.int a2)] [] σ := by
  unfold fX11_isAsked at h
  refine k_iload_n hF dX11_isAsked_0 rfl ?_
  refine k_iconst hF dX11_isAsked_1 ci_0 ?_
  refine k_aload_n hF dX11_isAsked_2 rfl ?_
  refine k_get hF (v := .int (gi σ 0 38)) shR_0 fl_X11_263_X11 dX11_isAsked_3 rfl ?_
  refine k_iconst hF dX11_isAsked_6 ci_1 ?_
  refine k_isub hF dX11_isAsked_7 ?_
  obtain ⟨v1, hv1, h⟩ := bind_some h
  refine k_callS hF hA (as := [.int a1, .int (0 : Int32), .int ((gi σ 0 38) - (1 : Int32))]) (ct_X11_isIn hbs hv1) ms_X11_146 rfl rfl ⟨Nat.le_of_ble_eq_true rfl, Nat.le_of_ble_eq_true rfl⟩ (Nat.le_of_ble_eq_true rfl) dX11_isAsked_8 ?_
  refine k_st (st2 := [.int v1]) rfl ?_
  refine k_if_eq hF (tgt := 26) dX11_isAsked_11 (by decide) (fun c2 => ?_) (fun c2 => ?_)
  · replace h := ite_t c2 h
    exact wX11_isAsked_j26 hF hA hbs h hr
  · replace h := ite_f c2 h
    refine k_aload_n hF dX11_isAsked_14 rfl ?_
    refine k_iload_n hF dX11_isAsked_15 rfl ?_
    obtain ⟨v3, hv3, h⟩ := bind_some h
    refine k_callV hF hA (as := [.int a2]) (ct_X11_isNode hbs hv3) mv_X11_163 shR_0 rfl rfl rfl ⟨Nat.le_of_ble_eq_true rfl, Nat.le_of_ble_eq_true rfl⟩ (Nat.le_of_ble_eq_true rfl) dX11_isAsked_16 ?_
    refine k_st (st2 := [.int v3]) rfl ?_
    refine k_if_eq hF (tgt := 26) dX11_isAsked_19 (by decide) (fun c4 => ?_) (fun c4 => ?_)
    · replace h := ite_t c4 h
      exact wX11_isAsked_j26 hF hA hbs h hr
    · replace h := ite_f c4 h
      refine k_iconst hF dX11_isAsked_22 ci_1 ?_
      refine k_goto hF dX11_isAsked_23 (tgt := 27) (by decide) ?_
      cases h
      exact hr _ _ nar_1 dX11_isAsked_27
theorem ct_X11_isAsked {l : Launch} {D : DD} {base B : Nat} (hbs : base ≤ B) {σ : St} {a1 : Int32} {a2 : Int32} {r : Int32} (h : fX11_isAsked σ a1 a2 = some r) : MetR l D B shpR base yX11_isAsked cX11_isAsked 3 (some .boolean) 2 43 [.ref (B + 0), .int a1, .int a2] σ (some (.int r)) σ :=
  MetR.of (by decide +kernel) (fun v hv => by simp only [List.mem_cons, List.not_mem_nil, or_false] at hv; rcases hv with rfl | rfl | rfl <;> rfl) (Nat.le_of_ble_eq_true rfl) hbs (fun p e s m args below meth c hF hr => wX11_isAsked hF (fun q hq => hq) hbs h (fun pc L hn hd => k_iret hF hr hn hd))
set_option maxHeartbeats 4000000 in
set_option maxRecDepth 100000 in
theorem wX11_answer_j15 {p : Program} {l : Launch} {e : Env} {s : State} {m : MethodId} {args : Array Value} {below : List Frame} {meth : Method} {c : Code} {Q : State → Prop} {A : Nat → Prop} {D : DD} {base B : Nat} (hF : KF D base cX11_answer RX11 A 3 0 0 p l e ({ frames := 4, cells := 0, slots := 0, locals := 96 } : Room) s m args below meth c) (hA : ∀ q, RA B shpR q → A q) (hbs : base ≤ B) {σ : St} {a1 : Int32} {a2 : Int32} {t0 : Int32} {z : (Int32 × St)} (h : fX11_answer_j15 σ a1 a2 t0 = some z) (hr : ∀ (pc : Nat) (L : List (Option Value)), narrow .int (.int z.1) = .int z.1 → decode cX11_answer pc = .ok (.ireturn, 1) → KJ (Rep D B shpR) A 3 0 0 Q p l e ({ frames := 4, cells := 0, slots := 0, locals := 96 } : Room) s m args below meth c 0 0 pc L [.int z.1] z.2) : KJ (Rep D B shpR) A 3 0 0 Q p l e ({ frames := 4, cells := 0, slots := 0, locals := 96 } : Room) s m args below meth c 0 0 15 [some (.ref (B + 0)), some (.int a1), some (.int a2)] [.int t0, .ref (B + 0)] σ := by
  unfold fX11_answer_j15 at h
  obtain ⟨v3, hv3, h⟩ := bind_some h
  refine k_callV hF hA (as := [.int t0]) (ct_X11_fails hbs hv3) mv_X11_181 shR_0 rfl rfl rfl ⟨Nat.le_of_ble_eq_true rfl, Nat.le_of_ble_eq_true rfl⟩ (Nat.le_of_ble_eq_true rfl) dX11_answer_15 ?_
  refine k_st (st2 := [.int v3.1]) rfl ?_
  refine k_if_eq hF (tgt := 23) dX11_answer_18 (by decide) (fun c4 => ?_) (fun c4 => ?_)
  · replace h := ite_t c4 h
    refine k_aload_n hF dX11_answer_23 rfl ?_
    refine k_iload_n hF dX11_answer_24 rfl ?_
    refine k_iconst hF dX11_answer_25 ci_0 ?_
    obtain ⟨v5, hv5, h⟩ := bind_some h
    refine k_callV hF hA (as := [.int a1, .int (0 : Int32)]) (ct_X11_lays hbs hv5) mv_X11_283 shR_0 rfl rfl rfl ⟨Nat.le_of_ble_eq_true rfl, Nat.le_of_ble_eq_true rfl⟩ (Nat.le_of_ble_eq_true rfl) dX11_answer_26 ?_
    refine k_st (st2 := []) rfl ?_
    refine k_aload_n hF dX11_answer_29 rfl ?_
    refine k_get hF (v := .ref (B + 42)) shR_0 fl_X11_135_X11 dX11_answer_30 rfl ?_
    refine k_iload_n hF dX11_answer_33 rfl ?_
    obtain ⟨g6, h⟩ := gd_some h
    refine k_iald hF shR_42 dX11_answer_34 g6 ?_
    cases h
    exact hr _ _ rfl dX11_answer_35
  · replace h := ite_f c4 h
    refine k_iconst hF dX11_answer_21 ci_0 ?_
    cases h
    exact hr _ _ rfl dX11_answer_22
set_option maxHeartbeats 4000000 in
set_option maxRecDepth 100000 in
theorem wX11_answer {p : Program} {l : Launch} {e : Env} {s : State} {m : MethodId} {args : Array Value} {below : List Frame} {meth : Method} {c : Code} {Q : State → Prop} {A : Nat → Prop} {D : DD} {base B : Nat} (hF : KF D base cX11_answer RX11 A 3 0 0 p l e ({ frames := 4, cells := 0, slots := 0, locals := 96 } : Room) s m args below meth c) (hA : ∀ q, RA B shpR q → A q) (hbs : base ≤ B) {σ : St} {a1 : Int32} {a2 : Int32} {z : (Int32 × St)} (h : fX11_answer σ a1 a2 = some z) (hr : ∀ (pc : Nat) (L : List (Option Value)), narrow .int (.int z.1) = .int z.1 → decode cX11_answer pc = .ok (.ireturn, 1) → KJ (Rep D B shpR) A 3 0 0 Q p l e ({ frames := 4, cells := 0, slots := 0, locals := 96 } : Room) s m args below meth c 0 0 pc L [.int z.1] z.2) : KJ (Rep D B shpR) A 3 0 0 Q p l e ({ frames := 4, cells := 0, slots := 0, locals := 96 } : Room) s m args below meth c 0 0 0 [some (.ref (B + 0)), some (.int a1), some (.int a2)] [] σ := by
  unfold fX11_answer at h
  refine k_aload_n hF dX11_answer_0 rfl ?_
  refine k_aload_n hF dX11_answer_1 rfl ?_
  refine k_iload_n hF dX11_answer_2 rfl ?_
  refine k_iload_n hF dX11_answer_3 rfl ?_
  obtain ⟨v1, hv1, h⟩ := bind_some h
  refine k_callV hF hA (as := [.int a1, .int a2]) (ct_X11_isAsked hbs hv1) mv_X11_280 shR_0 rfl rfl rfl ⟨Nat.le_of_ble_eq_true rfl, Nat.le_of_ble_eq_true rfl⟩ (Nat.le_of_ble_eq_true rfl) dX11_answer_4 ?_
  refine k_st (st2 := [.int v1, .ref (B + 0)]) rfl ?_
  refine k_if_eq hF (tgt := 14) dX11_answer_7 (by decide) (fun c2 => ?_) (fun c2 => ?_)
  · replace h := ite_t c2 h
    refine k_iconst hF dX11_answer_14 ci_1 ?_
    exact wX11_answer_j15 hF hA hbs h hr
  · replace h := ite_f c2 h
    refine k_iconst hF dX11_answer_10 ci_0 ?_
    refine k_goto hF dX11_answer_11 (tgt := 15) (by decide) ?_
    exact wX11_answer_j15 hF hA hbs h hr
theorem ct_X11_answer {l : Launch} {D : DD} {base B : Nat} (hbs : base ≤ B) {σ : St} {a1 : Int32} {a2 : Int32} {r : (Int32 × St)} (h : fX11_answer σ a1 a2 = some r) : MetR l D B shpR base yX11_answer cX11_answer 3 (some .int) 4 96 [.ref (B + 0), .int a1, .int a2] σ (some (.int r.1)) r.2 :=
  MetR.of (by decide +kernel) (fun v hv => by simp only [List.mem_cons, List.not_mem_nil, or_false] at hv; rcases hv with rfl | rfl | rfl <;> rfl) (Nat.le_of_ble_eq_true rfl) hbs (fun p e s m args below meth c hF hr => wX11_answer hF (fun q hq => hq) hbs h (fun pc L hn hd => k_iret hF hr hn hd))
set_option maxHeartbeats 4000000 in
set_option maxRecDepth 100000 in
theorem wX11_answerAnew_j15 {p : Program} {l : Launch} {e : Env} {s : State} {m : MethodId} {args : Array Value} {below : List Frame} {meth : Method} {c : Code} {Q : State → Prop} {A : Nat → Prop} {D : DD} {base B : Nat} (hF : KF D base cX11_answerAnew RX11 A 3 0 0 p l e ({ frames := 4, cells := 0, slots := 0, locals := 96 } : Room) s m args below meth c) (hA : ∀ q, RA B shpR q → A q) (hbs : base ≤ B) {σ : St} {a1 : Int32} {a2 : Int32} {t0 : Int32} {z : (Int32 × St)} (h : fX11_answerAnew_j15 σ a1 a2 t0 = some z) (hr : ∀ (pc : Nat) (L : List (Option Value)), narrow .int (.int z.1) = .int z.1 → decode cX11_answerAnew pc = .ok (.ireturn, 1) → KJ (Rep D B shpR) A 3 0 0 Q p l e ({ frames := 4, cells := 0, slots := 0, locals := 96 } : Room) s m args below meth c 0 0 pc L [.int z.1] z.2) : KJ (Rep D B shpR) A 3 0 0 Q p l e ({ frames := 4, cells := 0, slots := 0, locals := 96 } : Room) s m args below meth c 0 0 15 [some (.ref (B + 0)), some (.int a1), some (.int a2)] [.int t0, .ref (B + 0)] σ := by
  unfold fX11_answerAnew_j15 at h
  obtain ⟨v3, hv3, h⟩ := bind_some h
  refine k_callV hF hA (as := [.int t0]) (ct_X11_fails hbs hv3) mv_X11_181 shR_0 rfl rfl rfl ⟨Nat.le_of_ble_eq_true rfl, Nat.le_of_ble_eq_true rfl⟩ (Nat.le_of_ble_eq_true rfl) dX11_answerAnew_15 ?_
  refine k_st (st2 := [.int v3.1]) rfl ?_
  refine k_if_eq hF (tgt := 23) dX11_answerAnew_18 (by decide) (fun c4 => ?_) (fun c4 => ?_)
  · replace h := ite_t c4 h
    refine k_aload_n hF dX11_answerAnew_23 rfl ?_
    refine k_iload_n hF dX11_answerAnew_24 rfl ?_
    refine k_iconst hF dX11_answerAnew_25 ci_0 ?_
    obtain ⟨v5, hv5, h⟩ := bind_some h
    refine k_callV hF hA (as := [.int a1, .int (0 : Int32)]) (ct_X11_lays hbs hv5) mv_X11_283 shR_0 rfl rfl rfl ⟨Nat.le_of_ble_eq_true rfl, Nat.le_of_ble_eq_true rfl⟩ (Nat.le_of_ble_eq_true rfl) dX11_answerAnew_26 ?_
    refine k_st (st2 := []) rfl ?_
    refine k_aload_n hF dX11_answerAnew_29 rfl ?_
    refine k_get hF (v := .ref (B + 42)) shR_0 fl_X11_135_X11 dX11_answerAnew_30 rfl ?_
    refine k_iload_n hF dX11_answerAnew_33 rfl ?_
    obtain ⟨g6, h⟩ := gd_some h
    refine k_iald hF shR_42 dX11_answerAnew_34 g6 ?_
    cases h
    exact hr _ _ rfl dX11_answerAnew_35
  · replace h := ite_f c4 h
    refine k_iconst hF dX11_answerAnew_21 ci_0 ?_
    cases h
    exact hr _ _ rfl dX11_answerAnew_22
set_option maxHeartbeats 4000000 in
set_option maxRecDepth 100000 in
theorem wX11_answerAnew {p : Program} {l : Launch} {e : Env} {s : State} {m : MethodId} {args : Array Value} {below : List Frame} {meth : Method} {c : Code} {Q : State → Prop} {A : Nat → Prop} {D : DD} {base B : Nat} (hF : KF D base cX11_answerAnew RX11 A 3 0 0 p l e ({ frames := 4, cells := 0, slots := 0, locals := 96 } : Room) s m args below meth c) (hA : ∀ q, RA B shpR q → A q) (hbs : base ≤ B) {σ : St} {a1 : Int32} {a2 : Int32} {z : (Int32 × St)} (h : fX11_answerAnew σ a1 a2 = some z) (hr : ∀ (pc : Nat) (L : List (Option Value)), narrow .int (.int z.1) = .int z.1 → decode cX11_answerAnew pc = .ok (.ireturn, 1) → KJ (Rep D B shpR) A 3 0 0 Q p l e ({ frames := 4, cells := 0, slots := 0, locals := 96 } : Room) s m args below meth c 0 0 pc L [.int z.1] z.2) : KJ (Rep D B shpR) A 3 0 0 Q p l e ({ frames := 4, cells := 0, slots := 0, locals := 96 } : Room) s m args below meth c 0 0 0 [some (.ref (B + 0)), some (.int a1), some (.int a2)] [] σ := by
  unfold fX11_answerAnew at h
  refine k_aload_n hF dX11_answerAnew_0 rfl ?_
  refine k_aload_n hF dX11_answerAnew_1 rfl ?_
  refine k_iload_n hF dX11_answerAnew_2 rfl ?_
  refine k_iload_n hF dX11_answerAnew_3 rfl ?_
  obtain ⟨v1, hv1, h⟩ := bind_some h
  refine k_callV hF hA (as := [.int a1, .int a2]) (ct_X11_isAsked hbs hv1) mv_X11_280 shR_0 rfl rfl rfl ⟨Nat.le_of_ble_eq_true rfl, Nat.le_of_ble_eq_true rfl⟩ (Nat.le_of_ble_eq_true rfl) dX11_answerAnew_4 ?_
  refine k_st (st2 := [.int v1, .ref (B + 0)]) rfl ?_
  refine k_if_eq hF (tgt := 14) dX11_answerAnew_7 (by decide) (fun c2 => ?_) (fun c2 => ?_)
  · replace h := ite_t c2 h
    refine k_iconst hF dX11_answerAnew_14 ci_1 ?_
    exact wX11_answerAnew_j15 hF hA hbs h hr
  · replace h := ite_f c2 h
    refine k_iconst hF dX11_answerAnew_10 ci_0 ?_
    refine k_goto hF dX11_answerAnew_11 (tgt := 15) (by decide) ?_
    exact wX11_answerAnew_j15 hF hA hbs h hr
theorem ct_X11_answerAnew {l : Launch} {D : DD} {base B : Nat} (hbs : base ≤ B) {σ : St} {a1 : Int32} {a2 : Int32} {r : (Int32 × St)} (h : fX11_answerAnew σ a1 a2 = some r) : MetR l D B shpR base yX11_answerAnew cX11_answerAnew 3 (some .int) 4 96 [.ref (B + 0), .int a1, .int a2] σ (some (.int r.1)) r.2 :=
  MetR.of (by decide +kernel) (fun v hv => by simp only [List.mem_cons, List.not_mem_nil, or_false] at hv; rcases hv with rfl | rfl | rfl <;> rfl) (Nat.le_of_ble_eq_true rfl) hbs (fun p e s m args below meth c hF hr => wX11_answerAnew hF (fun q hq => hq) hbs h (fun pc L hn hd => k_iret hF hr hn hd))
set_option maxHeartbeats 4000000 in
set_option maxRecDepth 100000 in
theorem wX11_pairs_l38 {p : Program} {l : Launch} {e : Env} {s : State} {m : MethodId} {args : Array Value} {below : List Frame} {meth : Method} {c : Code} {Q : State → Prop} {A : Nat → Prop} {D : DD} {base B : Nat} (hF : KF D base cX11_pairs RX11 A 4 0 0 p l e ({ frames := 4, cells := 0, slots := 0, locals := 96 } : Room) s m args below meth c) (hA : ∀ q, RA B shpR q → A q) (hbs : base ≤ B) {σ : St} {a1 : Int32} {x : (Int32 × Int32)} {z : ((Int32 × Int32) ⊕ (Int32 × Int32))} (h : fX11_pairs_l38 σ a1 x = some z) (hc : ∀ x, z = .inl x → KJ (Rep D B shpR) A 4 0 0 Q p l e ({ frames := 4, cells := 0, slots := 0, locals := 96 } : Room) s m args below meth c 0 0 38 [some (.ref (B + 0)), some (.int a1), some (.int x.1), some (.int x.2)] [] σ) (he : ∀ w, z = .inr w → KJ (Rep D B shpR) A 4 0 0 Q p l e ({ frames := 4, cells := 0, slots := 0, locals := 96 } : Room) s m args below meth c 0 0 62 [some (.ref (B + 0)), some (.int a1), some (.int w.1), some (.int w.2)] [] σ) : KJ (Rep D B shpR) A 4 0 0 Q p l e ({ frames := 4, cells := 0, slots := 0, locals := 96 } : Room) s m args below meth c 0 0 38 [some (.ref (B + 0)), some (.int a1), some (.int x.1), some (.int x.2)] [] σ := by
  unfold fX11_pairs_l38 at h
  refine k_iload_n hF dX11_pairs_38 rfl ?_
  refine k_bipush hF (v := (24 : Int32)) dX11_pairs_39 (by decide) ?_
  refine k_icmp_ge hF (tgt := 62) dX11_pairs_41 (by decide) (fun c6 => ?_) (fun c6 => ?_)
  · replace h := ite_t c6 h
    exact he _ (Option.some.inj h).symm
  · replace h := ite_f c6 h
    refine k_iload_n hF dX11_pairs_44 rfl ?_
    refine k_aload_n hF dX11_pairs_45 rfl ?_
    refine k_get hF (v := .ref (B + 42)) shR_0 fl_X11_135_X11 dX11_pairs_46 rfl ?_
    refine k_iload_n hF dX11_pairs_49 rfl ?_
    obtain ⟨g7, h⟩ := gd_some h
    refine k_iald hF shR_42 dX11_pairs_50 g7 ?_
    obtain ⟨v8, hv8, h⟩ := bind_some h
    refine k_callS hF hA (as := [.int (gi σ 42 x.2.toNatClampNeg)]) (ct_X11_size hbs hv8) ms_X11_214 rfl rfl ⟨Nat.le_of_ble_eq_true rfl, Nat.le_of_ble_eq_true rfl⟩ (Nat.le_of_ble_eq_true rfl) dX11_pairs_51 ?_
    refine k_st (st2 := [.int v8, .int x.1]) rfl ?_
    refine k_iadd hF dX11_pairs_54 ?_
    refine k_istore_n hF (L' := [some (.ref (B + 0)), some (.int a1), some (.int (x.1 + v8)), some (.int x.2)]) dX11_pairs_55 (by decide) rfl ?_
    refine k_iinc hF (v := (x.2 + (1 : Int32))) (L' := [some (.ref (B + 0)), some (.int a1), some (.int (x.1 + v8)), some (.int (x.2 + (1 : Int32)))]) dX11_pairs_56 rfl (by first | rfl | (congr 1)) (by decide) rfl ?_
    refine k_goto hF dX11_pairs_59 (tgt := 38) (by decide) ?_
    exact hc _ (Option.some.inj h).symm
set_option maxHeartbeats 4000000 in
set_option maxRecDepth 100000 in
theorem wX11_pairs_j20 {p : Program} {l : Launch} {e : Env} {s : State} {m : MethodId} {args : Array Value} {below : List Frame} {meth : Method} {c : Code} {Q : State → Prop} {A : Nat → Prop} {D : DD} {base B : Nat} (hF : KF D base cX11_pairs RX11 A 4 0 0 p l e ({ frames := 4, cells := 0, slots := 0, locals := 96 } : Room) s m args below meth c) (hA : ∀ q, RA B shpR q → A q) (hbs : base ≤ B) {σ : St} {a1 : Int32} {t0 : Int32} {z : (Int32 × St)} (h : fX11_pairs_j20 σ a1 t0 = some z) (hr : ∀ (pc : Nat) (L : List (Option Value)), narrow .int (.int z.1) = .int z.1 → decode cX11_pairs pc = .ok (.ireturn, 1) → KJ (Rep D B shpR) A 4 0 0 Q p l e ({ frames := 4, cells := 0, slots := 0, locals := 96 } : Room) s m args below meth c 0 0 pc L [.int z.1] z.2) : KJ (Rep D B shpR) A 4 0 0 Q p l e ({ frames := 4, cells := 0, slots := 0, locals := 96 } : Room) s m args below meth c 0 0 20 [some (.ref (B + 0)), some (.int a1), none, none] [.int t0, .ref (B + 0)] σ := by
  unfold fX11_pairs_j20 at h
  obtain ⟨v3, hv3, h⟩ := bind_some h
  refine k_callV hF hA (as := [.int t0]) (ct_X11_fails hbs hv3) mv_X11_181 shR_0 rfl rfl rfl ⟨Nat.le_of_ble_eq_true rfl, Nat.le_of_ble_eq_true rfl⟩ (Nat.le_of_ble_eq_true rfl) dX11_pairs_20 ?_
  refine k_st (st2 := [.int v3.1]) rfl ?_
  refine k_if_eq hF (tgt := 28) dX11_pairs_23 (by decide) (fun c4 => ?_) (fun c4 => ?_)
  · replace h := ite_t c4 h
    refine k_aload_n hF dX11_pairs_28 rfl ?_
    refine k_iload_n hF dX11_pairs_29 rfl ?_
    refine k_iconst hF dX11_pairs_30 ci_0 ?_
    obtain ⟨v5, hv5, h⟩ := bind_some h
    refine k_callV hF hA (as := [.int a1, .int (0 : Int32)]) (ct_X11_lays hbs hv5) mv_X11_283 shR_0 rfl rfl rfl ⟨Nat.le_of_ble_eq_true rfl, Nat.le_of_ble_eq_true rfl⟩ (Nat.le_of_ble_eq_true rfl) dX11_pairs_31 ?_
    refine k_st (st2 := []) rfl ?_
    refine k_iconst hF dX11_pairs_34 ci_0 ?_
    refine k_istore_n hF (L' := [some (.ref (B + 0)), some (.int a1), some (.int (0 : Int32)), none]) dX11_pairs_35 (by decide) rfl ?_
    refine k_iconst hF dX11_pairs_36 ci_0 ?_
    refine k_istore_n hF (L' := [some (.ref (B + 0)), some (.int a1), some (.int (0 : Int32)), some (.int (0 : Int32))]) dX11_pairs_37 (by decide) rfl ?_
    obtain ⟨x9, hx9, h⟩ := bind_some h
    refine k_loop (P := fun xq => KJ (Rep D B shpR) A 4 0 0 Q p l e ({ frames := 4, cells := 0, slots := 0, locals := 96 } : Room) s m args below meth c 0 0 38 [some (.ref (B + 0)), some (.int a1), some (.int xq.1), some (.int xq.2)] [] v5) (C := fun xq => KJ (Rep D B shpR) A 4 0 0 Q p l e ({ frames := 4, cells := 0, slots := 0, locals := 96 } : Room) s m args below meth c 0 0 62 [some (.ref (B + 0)), some (.int a1), some (.int xq.1), some (.int xq.2)] [] v5) (fun x z hz hc he => wX11_pairs_l38 hF hA hbs hz hc he) hx9 ?_
    show KJ (Rep D B shpR) A 4 0 0 Q p l e ({ frames := 4, cells := 0, slots := 0, locals := 96 } : Room) s m args below meth c 0 0 62 [some (.ref (B + 0)), some (.int a1), some (.int x9.1), some (.int x9.2)] [] v5
    refine k_iload_n hF dX11_pairs_62 rfl ?_
    cases h
    exact hr _ _ rfl dX11_pairs_63
  · replace h := ite_f c4 h
    refine k_iconst hF dX11_pairs_26 ci_0 ?_
    cases h
    exact hr _ _ rfl dX11_pairs_27
set_option maxHeartbeats 4000000 in
set_option maxRecDepth 100000 in
theorem wX11_pairs {p : Program} {l : Launch} {e : Env} {s : State} {m : MethodId} {args : Array Value} {below : List Frame} {meth : Method} {c : Code} {Q : State → Prop} {A : Nat → Prop} {D : DD} {base B : Nat} (hF : KF D base cX11_pairs RX11 A 4 0 0 p l e ({ frames := 4, cells := 0, slots := 0, locals := 96 } : Room) s m args below meth c) (hA : ∀ q, RA B shpR q → A q) (hbs : base ≤ B) {σ : St} {a1 : Int32} {z : (Int32 × St)} (h : fX11_pairs σ a1 = some z) (hr : ∀ (pc : Nat) (L : List (Option Value)), narrow .int (.int z.1) = .int z.1 → decode cX11_pairs pc = .ok (.ireturn, 1) → KJ (Rep D B shpR) A 4 0 0 Q p l e ({ frames := 4, cells := 0, slots := 0, locals := 96 } : Room) s m args below meth c 0 0 pc L [.int z.1] z.2) : KJ (Rep D B shpR) A 4 0 0 Q p l e ({ frames := 4, cells := 0, slots := 0, locals := 96 } : Room) s m args below meth c 0 0 0 [some (.ref (B + 0)), some (.int a1), none, none] [] σ := by
  unfold fX11_pairs at h
  refine k_aload_n hF dX11_pairs_0 rfl ?_
  refine k_iload_n hF dX11_pairs_1 rfl ?_
  refine k_iconst hF dX11_pairs_2 ci_0 ?_
  refine k_aload_n hF dX11_pairs_3 rfl ?_
  refine k_get hF (v := .int (gi σ 0 38)) shR_0 fl_X11_263_X11 dX11_pairs_4 rfl ?_
  refine k_iconst hF dX11_pairs_7 ci_1 ?_
  refine k_isub hF dX11_pairs_8 ?_
  obtain ⟨v1, hv1, h⟩ := bind_some h
  refine k_callS hF hA (as := [.int a1, .int (0 : Int32), .int ((gi σ 0 38) - (1 : Int32))]) (ct_X11_isIn hbs hv1) ms_X11_146 rfl rfl ⟨Nat.le_of_ble_eq_true rfl, Nat.le_of_ble_eq_true rfl⟩ (Nat.le_of_ble_eq_true rfl) dX11_pairs_9 ?_
  refine k_st (st2 := [.int v1, .ref (B + 0)]) rfl ?_
  refine k_if_eq hF (tgt := 19) dX11_pairs_12 (by decide) (fun c2 => ?_) (fun c2 => ?_)
  · replace h := ite_t c2 h
    refine k_iconst hF dX11_pairs_19 ci_1 ?_
    exact wX11_pairs_j20 hF hA hbs h hr
  · replace h := ite_f c2 h
    refine k_iconst hF dX11_pairs_15 ci_0 ?_
    refine k_goto hF dX11_pairs_16 (tgt := 20) (by decide) ?_
    exact wX11_pairs_j20 hF hA hbs h hr
theorem ct_X11_pairs {l : Launch} {D : DD} {base B : Nat} (hbs : base ≤ B) {σ : St} {a1 : Int32} {r : (Int32 × St)} (h : fX11_pairs σ a1 = some r) : MetR l D B shpR base yX11_pairs cX11_pairs 4 (some .int) 4 96 [.ref (B + 0), .int a1] σ (some (.int r.1)) r.2 :=
  MetR.of (by decide +kernel) (fun v hv => by simp only [List.mem_cons, List.not_mem_nil, or_false] at hv; rcases hv with rfl | rfl <;> rfl) (Nat.le_of_ble_eq_true rfl) hbs (fun p e s m args below meth c hF hr => wX11_pairs hF (fun q hq => hq) hbs h (fun pc L hn hd => k_iret hF hr hn hd))
set_option maxHeartbeats 4000000 in
set_option maxRecDepth 100000 in
theorem wX11_isWhole_j15 {p : Program} {l : Launch} {e : Env} {s : State} {m : MethodId} {args : Array Value} {below : List Frame} {meth : Method} {c : Code} {Q : State → Prop} {A : Nat → Prop} {D : DD} {base B : Nat} (hF : KF D base cX11_isWhole RX11 A 4 0 0 p l e ({ frames := 4, cells := 0, slots := 0, locals := 96 } : Room) s m args below meth c) (hA : ∀ q, RA B shpR q → A q) (hbs : base ≤ B) {σ : St} {a1 : Int32} {a2 : Int32} {t0 : Int32} {z : (Int32 × St)} (h : fX11_isWhole_j15 σ a1 a2 t0 = some z) (hr : ∀ (pc : Nat) (L : List (Option Value)), narrow .boolean (.int z.1) = .int z.1 → decode cX11_isWhole pc = .ok (.ireturn, 1) → KJ (Rep D B shpR) A 4 0 0 Q p l e ({ frames := 4, cells := 0, slots := 0, locals := 96 } : Room) s m args below meth c 0 0 pc L [.int z.1] z.2) : KJ (Rep D B shpR) A 4 0 0 Q p l e ({ frames := 4, cells := 0, slots := 0, locals := 96 } : Room) s m args below meth c 0 0 15 [some (.ref (B + 0)), some (.int a1), some (.int a2), none] [.int t0, .ref (B + 0)] σ := by
  unfold fX11_isWhole_j15 at h
  obtain ⟨v3, hv3, h⟩ := bind_some h
  refine k_callV hF hA (as := [.int t0]) (ct_X11_fails hbs hv3) mv_X11_181 shR_0 rfl rfl rfl ⟨Nat.le_of_ble_eq_true rfl, Nat.le_of_ble_eq_true rfl⟩ (Nat.le_of_ble_eq_true rfl) dX11_isWhole_15 ?_
  refine k_st (st2 := [.int v3.1]) rfl ?_
  refine k_if_eq hF (tgt := 23) dX11_isWhole_18 (by decide) (fun c4 => ?_) (fun c4 => ?_)
  · replace h := ite_t c4 h
    refine k_aload_n hF dX11_isWhole_23 rfl ?_
    refine k_iload_n hF dX11_isWhole_24 rfl ?_
    refine k_iconst hF dX11_isWhole_25 ci_0 ?_
    obtain ⟨v5, hv5, h⟩ := bind_some h
    refine k_callV hF hA (as := [.int a1, .int (0 : Int32)]) (ct_X11_lays hbs hv5) mv_X11_283 shR_0 rfl rfl rfl ⟨Nat.le_of_ble_eq_true rfl, Nat.le_of_ble_eq_true rfl⟩ (Nat.le_of_ble_eq_true rfl) dX11_isWhole_26 ?_
    refine k_st (st2 := []) rfl ?_
    refine k_aload_n hF dX11_isWhole_29 rfl ?_
    refine k_get hF (v := .ref (B + 42)) shR_0 fl_X11_135_X11 dX11_isWhole_30 rfl ?_
    refine k_iload_n hF dX11_isWhole_33 rfl ?_
    obtain ⟨g6, h⟩ := gd_some h
    refine k_iald hF shR_42 dX11_isWhole_34 g6 ?_
    obtain ⟨n7, hn7, h⟩ := lt_some h
    refine k_st (st2 := [.int n7]) (by rw [hn7]) ?_
    refine k_istore_n hF (L' := [some (.ref (B + 0)), some (.int a1), some (.int a2), some (.int n7)]) dX11_isWhole_35 (by decide) rfl ?_
    refine k_aload_n hF dX11_isWhole_36 rfl ?_
    refine k_iload_n hF dX11_isWhole_37 rfl ?_
    refine k_iconst hF dX11_isWhole_38 ci_1 ?_
    obtain ⟨v8, hv8, h⟩ := bind_some h
    refine k_callV hF hA (as := [.int a1, .int (1 : Int32)]) (ct_X11_lays hbs hv8) mv_X11_283 shR_0 rfl rfl rfl ⟨Nat.le_of_ble_eq_true rfl, Nat.le_of_ble_eq_true rfl⟩ (Nat.le_of_ble_eq_true rfl) dX11_isWhole_39 ?_
    refine k_st (st2 := []) rfl ?_
    refine k_iload_n hF dX11_isWhole_42 rfl ?_
    refine k_aload_n hF dX11_isWhole_43 rfl ?_
    refine k_get hF (v := .ref (B + 42)) shR_0 fl_X11_135_X11 dX11_isWhole_44 rfl ?_
    refine k_iload_n hF dX11_isWhole_47 rfl ?_
    obtain ⟨g9, h⟩ := gd_some h
    refine k_iald hF shR_42 dX11_isWhole_48 g9 ?_
    refine k_icmp_ne hF (tgt := 56) dX11_isWhole_49 (by decide) (fun c10 => ?_) (fun c10 => ?_)
    · replace h := ite_f c10 h
      refine k_iconst hF dX11_isWhole_56 ci_0 ?_
      cases h
      exact hr _ _ nar_0 dX11_isWhole_57
    · replace h := ite_t c10 h
      refine k_iconst hF dX11_isWhole_52 ci_1 ?_
      refine k_goto hF dX11_isWhole_53 (tgt := 57) (by decide) ?_
      cases h
      exact hr _ _ nar_1 dX11_isWhole_57
  · replace h := ite_f c4 h
    refine k_iconst hF dX11_isWhole_21 ci_0 ?_
    cases h
    exact hr _ _ nar_0 dX11_isWhole_22
set_option maxHeartbeats 4000000 in
set_option maxRecDepth 100000 in
theorem wX11_isWhole {p : Program} {l : Launch} {e : Env} {s : State} {m : MethodId} {args : Array Value} {below : List Frame} {meth : Method} {c : Code} {Q : State → Prop} {A : Nat → Prop} {D : DD} {base B : Nat} (hF : KF D base cX11_isWhole RX11 A 4 0 0 p l e ({ frames := 4, cells := 0, slots := 0, locals := 96 } : Room) s m args below meth c) (hA : ∀ q, RA B shpR q → A q) (hbs : base ≤ B) {σ : St} {a1 : Int32} {a2 : Int32} {z : (Int32 × St)} (h : fX11_isWhole σ a1 a2 = some z) (hr : ∀ (pc : Nat) (L : List (Option Value)), narrow .boolean (.int z.1) = .int z.1 → decode cX11_isWhole pc = .ok (.ireturn, 1) → KJ (Rep D B shpR) A 4 0 0 Q p l e ({ frames := 4, cells := 0, slots := 0, locals := 96 } : Room) s m args below meth c 0 0 pc L [.int z.1] z.2) : KJ (Rep D B shpR) A 4 0 0 Q p l e ({ frames := 4, cells := 0, slots := 0, locals := 96 } : Room) s m args below meth c 0 0 0 [some (.ref (B + 0)), some (.int a1), some (.int a2), none] [] σ := by
  unfold fX11_isWhole at h
  refine k_aload_n hF dX11_isWhole_0 rfl ?_
  refine k_aload_n hF dX11_isWhole_1 rfl ?_
  refine k_iload_n hF dX11_isWhole_2 rfl ?_
  refine k_iload_n hF dX11_isWhole_3 rfl ?_
  obtain ⟨v1, hv1, h⟩ := bind_some h
  refine k_callV hF hA (as := [.int a1, .int a2]) (ct_X11_isAsked hbs hv1) mv_X11_280 shR_0 rfl rfl rfl ⟨Nat.le_of_ble_eq_true rfl, Nat.le_of_ble_eq_true rfl⟩ (Nat.le_of_ble_eq_true rfl) dX11_isWhole_4 ?_
  refine k_st (st2 := [.int v1, .ref (B + 0)]) rfl ?_
  refine k_if_eq hF (tgt := 14) dX11_isWhole_7 (by decide) (fun c2 => ?_) (fun c2 => ?_)
  · replace h := ite_t c2 h
    refine k_iconst hF dX11_isWhole_14 ci_1 ?_
    exact wX11_isWhole_j15 hF hA hbs h hr
  · replace h := ite_f c2 h
    refine k_iconst hF dX11_isWhole_10 ci_0 ?_
    refine k_goto hF dX11_isWhole_11 (tgt := 15) (by decide) ?_
    exact wX11_isWhole_j15 hF hA hbs h hr
theorem ct_X11_isWhole {l : Launch} {D : DD} {base B : Nat} (hbs : base ≤ B) {σ : St} {a1 : Int32} {a2 : Int32} {r : (Int32 × St)} (h : fX11_isWhole σ a1 a2 = some r) : MetR l D B shpR base yX11_isWhole cX11_isWhole 4 (some .boolean) 4 96 [.ref (B + 0), .int a1, .int a2] σ (some (.int r.1)) r.2 :=
  MetR.of (by decide +kernel) (fun v hv => by simp only [List.mem_cons, List.not_mem_nil, or_false] at hv; rcases hv with rfl | rfl | rfl <;> rfl) (Nat.le_of_ble_eq_true rfl) hbs (fun p e s m args below meth c hF hr => wX11_isWhole hF (fun q hq => hq) hbs h (fun pc L hn hd => k_iret hF hr hn hd))
set_option maxHeartbeats 4000000 in
set_option maxRecDepth 100000 in
theorem wX11_comes_j101 {p : Program} {l : Launch} {e : Env} {s : State} {m : MethodId} {args : Array Value} {below : List Frame} {meth : Method} {c : Code} {Q : State → Prop} {A : Nat → Prop} {D : DD} {base B : Nat} (hF : KF D base cX11_comes RX11 A 8 0 0 p l e ({ frames := 3, cells := 0, slots := 0, locals := 66 } : Room) s m args below meth c) (hA : ∀ q, RA B shpR q → A q) (hbs : base ≤ B) {σ : St} {a1 : Int32} {a2 : Int32} {ea3b : Int32} {ea4b : Int32} {ea5b : Int32} {b7 : Int32} {t0 : Int32} {t1 : Int32} {z : ((Int32 × Int32) ⊕ (Int32 × Int32))} (h : fX11_comes_j101 σ a1 a2 ea3b ea4b ea5b b7 t0 t1 = some z) (hc : ∀ x, z = .inl x → KJ (Rep D B shpR) A 8 0 0 Q p l e ({ frames := 3, cells := 0, slots := 0, locals := 66 } : Room) s m args below meth c 0 0 39 [some (.ref (B + 0)), some (.int a1), some (.int a2), some (.int ea3b), some (.int ea4b), some (.int ea5b), some (.int x.1), some (.int x.2)] [] σ) (he : ∀ w, z = .inr w → KJ (Rep D B shpR) A 8 0 0 Q p l e ({ frames := 3, cells := 0, slots := 0, locals := 66 } : Room) s m args below meth c 0 0 110 [some (.ref (B + 0)), some (.int a1), some (.int a2), some (.int ea3b), some (.int ea4b), some (.int ea5b), some (.int w.1), some (.int w.2)] [] σ) : KJ (Rep D B shpR) A 8 0 0 Q p l e ({ frames := 3, cells := 0, slots := 0, locals := 66 } : Room) s m args below meth c 0 0 101 [some (.ref (B + 0)), some (.int a1), some (.int a2), some (.int ea3b), some (.int ea4b), some (.int ea5b), none, some (.int b7)] [.int t0, .int t1] σ := by
  unfold fX11_comes_j101 at h
  refine k_ior hF dX11_comes_101 ?_
  refine k_istore hF (L' := [some (.ref (B + 0)), some (.int a1), some (.int a2), some (.int ea3b), some (.int ea4b), some (.int ea5b), some (.int (t1 ||| t0)), some (.int b7)]) dX11_comes_102 (by decide) rfl ?_
  refine k_iinc hF (v := (b7 + (1 : Int32))) (L' := [some (.ref (B + 0)), some (.int a1), some (.int a2), some (.int ea3b), some (.int ea4b), some (.int ea5b), some (.int (t1 ||| t0)), some (.int (b7 + (1 : Int32)))]) dX11_comes_104 rfl (by first | rfl | (congr 1)) (by decide) rfl ?_
  refine k_goto hF dX11_comes_107 (tgt := 39) (by decide) ?_
  exact hc _ (Option.some.inj h).symm
set_option maxHeartbeats 4000000 in
set_option maxRecDepth 100000 in
theorem wX11_comes_j100 {p : Program} {l : Launch} {e : Env} {s : State} {m : MethodId} {args : Array Value} {below : List Frame} {meth : Method} {c : Code} {Q : State → Prop} {A : Nat → Prop} {D : DD} {base B : Nat} (hF : KF D base cX11_comes RX11 A 8 0 0 p l e ({ frames := 3, cells := 0, slots := 0, locals := 66 } : Room) s m args below meth c) (hA : ∀ q, RA B shpR q → A q) (hbs : base ≤ B) {σ : St} {a1 : Int32} {a2 : Int32} {ea3b : Int32} {ea4b : Int32} {ea5b : Int32} {b7 : Int32} {t0 : Int32} {z : ((Int32 × Int32) ⊕ (Int32 × Int32))} (h : fX11_comes_j100 σ a1 a2 ea3b ea4b ea5b b7 t0 = some z) (hc : ∀ x, z = .inl x → KJ (Rep D B shpR) A 8 0 0 Q p l e ({ frames := 3, cells := 0, slots := 0, locals := 66 } : Room) s m args below meth c 0 0 39 [some (.ref (B + 0)), some (.int a1), some (.int a2), some (.int ea3b), some (.int ea4b), some (.int ea5b), some (.int x.1), some (.int x.2)] [] σ) (he : ∀ w, z = .inr w → KJ (Rep D B shpR) A 8 0 0 Q p l e ({ frames := 3, cells := 0, slots := 0, locals := 66 } : Room) s m args below meth c 0 0 110 [some (.ref (B + 0)), some (.int a1), some (.int a2), some (.int ea3b), some (.int ea4b), some (.int ea5b), some (.int w.1), some (.int w.2)] [] σ) : KJ (Rep D B shpR) A 8 0 0 Q p l e ({ frames := 3, cells := 0, slots := 0, locals := 66 } : Room) s m args below meth c 0 0 100 [some (.ref (B + 0)), some (.int a1), some (.int a2), some (.int ea3b), some (.int ea4b), some (.int ea5b), none, some (.int b7)] [.int t0] σ := by
  unfold fX11_comes_j100 at h
  refine k_iconst hF dX11_comes_100 ci_0 ?_
  exact wX11_comes_j101 hF hA hbs h hc he
set_option maxHeartbeats 4000000 in
set_option maxRecDepth 100000 in
theorem wX11_comes_l39 {p : Program} {l : Launch} {e : Env} {s : State} {m : MethodId} {args : Array Value} {below : List Frame} {meth : Method} {c : Code} {Q : State → Prop} {A : Nat → Prop} {D : DD} {base B : Nat} (hF : KF D base cX11_comes RX11 A 8 0 0 p l e ({ frames := 3, cells := 0, slots := 0, locals := 66 } : Room) s m args below meth c) (hA : ∀ q, RA B shpR q → A q) (hbs : base ≤ B) {σ : St} {a1 : Int32} {a2 : Int32} {ea3b : Int32} {ea4b : Int32} {ea5b : Int32} {x : (Int32 × Int32)} {z : ((Int32 × Int32) ⊕ (Int32 × Int32))} (h : fX11_comes_l39 σ a1 a2 ea3b ea4b ea5b x = some z) (hc : ∀ x, z = .inl x → KJ (Rep D B shpR) A 8 0 0 Q p l e ({ frames := 3, cells := 0, slots := 0, locals := 66 } : Room) s m args below meth c 0 0 39 [some (.ref (B + 0)), some (.int a1), some (.int a2), some (.int ea3b), some (.int ea4b), some (.int ea5b), some (.int x.1), some (.int x.2)] [] σ) (he : ∀ w, z = .inr w → KJ (Rep D B shpR) A 8 0 0 Q p l e ({ frames := 3, cells := 0, slots := 0, locals := 66 } : Room) s m args below meth c 0 0 110 [some (.ref (B + 0)), some (.int a1), some (.int a2), some (.int ea3b), some (.int ea4b), some (.int ea5b), some (.int w.1), some (.int w.2)] [] σ) : KJ (Rep D B shpR) A 8 0 0 Q p l e ({ frames := 3, cells := 0, slots := 0, locals := 66 } : Room) s m args below meth c 0 0 39 [some (.ref (B + 0)), some (.int a1), some (.int a2), some (.int ea3b), some (.int ea4b), some (.int ea5b), some (.int x.1), some (.int x.2)] [] σ := by
  unfold fX11_comes_l39 at h
  refine k_iload hF dX11_comes_39 rfl ?_
  refine k_aload_n hF dX11_comes_41 rfl ?_
  refine k_get hF (v := .int (gi σ 0 15)) shR_0 fl_X11_154_X11 dX11_comes_42 rfl ?_
  refine k_icmp_ge hF (tgt := 110) dX11_comes_45 (by decide) (fun c5 => ?_) (fun c5 => ?_)
  · replace h := ite_t c5 h
    exact he _ (Option.some.inj h).symm
  · replace h := ite_f c5 h
    refine k_iload hF dX11_comes_48 rfl ?_
    refine k_aload_n hF dX11_comes_50 rfl ?_
    refine k_iload hF dX11_comes_51 rfl ?_
    obtain ⟨v6, hv6, h⟩ := bind_some h
    refine k_callV hF hA (as := [.int x.2]) (ct_X11_isEdge hbs hv6) mv_X11_195 shR_0 rfl rfl rfl ⟨Nat.le_of_ble_eq_true rfl, Nat.le_of_ble_eq_true rfl⟩ (Nat.le_of_ble_eq_true rfl) dX11_comes_53 ?_
    refine k_st (st2 := [.int v6, .int x.1]) rfl ?_
    refine k_if_eq hF (tgt := 100) dX11_comes_56 (by decide) (fun c7 => ?_) (fun c7 => ?_)
    · replace h := ite_t c7 h
      refine k_kill 6 rfl ?_
      exact wX11_comes_j100 hF hA hbs h hc he
    · replace h := ite_f c7 h
      refine k_iload hF dX11_comes_59 rfl ?_
      refine k_aload_n hF dX11_comes_61 rfl ?_
      refine k_get hF (v := .ref (B + 13)) shR_0 fl_X11_48_X11 dX11_comes_62 rfl ?_
      refine k_iload hF dX11_comes_65 rfl ?_
      obtain ⟨g8, h⟩ := gd_some h
      refine k_iald hF shR_13 dX11_comes_67 g8 ?_
      obtain ⟨v9, hv9, h⟩ := bind_some h
      refine k_callS hF hA (as := [.int ea4b, .int (gi σ 13 x.2.toNatClampNeg)]) (ct_X11_has hbs hv9) ms_X11_142 rfl rfl ⟨Nat.le_of_ble_eq_true rfl, Nat.le_of_ble_eq_true rfl⟩ (Nat.le_of_ble_eq_true rfl) dX11_comes_68 ?_
      refine k_st (st2 := [.int v9, .int x.1]) rfl ?_
      refine k_if_eq hF (tgt := 100) dX11_comes_71 (by decide) (fun c10 => ?_) (fun c10 => ?_)
      · replace h := ite_t c10 h
        refine k_kill 6 rfl ?_
        exact wX11_comes_j100 hF hA hbs h hc he
      · replace h := ite_f c10 h
        refine k_iload_n hF dX11_comes_74 rfl ?_
        refine k_aload_n hF dX11_comes_75 rfl ?_
        refine k_get hF (v := .ref (B + 14)) shR_0 fl_X11_51_X11 dX11_comes_76 rfl ?_
        refine k_iload hF dX11_comes_79 rfl ?_
        obtain ⟨g11, h⟩ := gd_some h
        refine k_iald hF shR_14 dX11_comes_81 g11 ?_
        obtain ⟨v12, hv12, h⟩ := bind_some h
        refine k_callS hF hA (as := [.int ea3b, .int (gi σ 14 x.2.toNatClampNeg)]) (ct_X11_has hbs hv12) ms_X11_142 rfl rfl ⟨Nat.le_of_ble_eq_true rfl, Nat.le_of_ble_eq_true rfl⟩ (Nat.le_of_ble_eq_true rfl) dX11_comes_82 ?_
        refine k_st (st2 := [.int v12, .int x.1]) rfl ?_
        refine k_if_eq hF (tgt := 100) dX11_comes_85 (by decide) (fun c13 => ?_) (fun c13 => ?_)
        · replace h := ite_t c13 h
          refine k_kill 6 rfl ?_
          exact wX11_comes_j100 hF hA hbs h hc he
        · replace h := ite_f c13 h
          refine k_iconst hF dX11_comes_88 ci_1 ?_
          refine k_aload_n hF dX11_comes_89 rfl ?_
          refine k_get hF (v := .ref (B + 14)) shR_0 fl_X11_51_X11 dX11_comes_90 rfl ?_
          refine k_iload hF dX11_comes_93 rfl ?_
          obtain ⟨g14, h⟩ := gd_some h
          refine k_iald hF shR_14 dX11_comes_95 g14 ?_
          refine k_ishl hF dX11_comes_96 ?_
          refine k_goto hF dX11_comes_97 (tgt := 101) (by decide) ?_
          refine k_kill 6 rfl ?_
          exact wX11_comes_j101 hF hA hbs h hc he
set_option maxHeartbeats 4000000 in
set_option maxRecDepth 100000 in
theorem wX11_comes_l26 {p : Program} {l : Launch} {e : Env} {s : State} {m : MethodId} {args : Array Value} {below : List Frame} {meth : Method} {c : Code} {Q : State → Prop} {A : Nat → Prop} {D : DD} {base B : Nat} (hF : KF D base cX11_comes RX11 A 8 0 0 p l e ({ frames := 3, cells := 0, slots := 0, locals := 66 } : Room) s m args below meth c) (hA : ∀ q, RA B shpR q → A q) (hbs : base ≤ B) {σ : St} {a1 : Int32} {a2 : Int32} {ea3 : Int32} {x : (Int32 × Int32)} {z : ((Int32 × Int32) ⊕ (Int32 × Int32))} (h : fX11_comes_l26 σ a1 a2 ea3 x = some z) (hc : ∀ x, z = .inl x → KJ (Rep D B shpR) A 8 0 0 Q p l e ({ frames := 3, cells := 0, slots := 0, locals := 66 } : Room) s m args below meth c 0 0 26 [some (.ref (B + 0)), some (.int a1), some (.int a2), some (.int ea3), some (.int x.1), some (.int x.2), none, none] [] σ) (he : ∀ w, z = .inr w → KJ (Rep D B shpR) A 8 0 0 Q p l e ({ frames := 3, cells := 0, slots := 0, locals := 66 } : Room) s m args below meth c 0 0 120 [some (.ref (B + 0)), some (.int a1), some (.int a2), some (.int ea3), some (.int w.1), some (.int w.2), none, none] [] σ) : KJ (Rep D B shpR) A 8 0 0 Q p l e ({ frames := 3, cells := 0, slots := 0, locals := 66 } : Room) s m args below meth c 0 0 26 [some (.ref (B + 0)), some (.int a1), some (.int a2), some (.int ea3), some (.int x.1), some (.int x.2), none, none] [] σ := by
  unfold fX11_comes_l26 at h
  refine k_iload hF dX11_comes_26 rfl ?_
  refine k_iload_n hF dX11_comes_28 rfl ?_
  refine k_icmp_ge hF (tgt := 120) dX11_comes_29 (by decide) (fun c4 => ?_) (fun c4 => ?_)
  · replace h := ite_t c4 h
    exact he _ (Option.some.inj h).symm
  · replace h := ite_f c4 h
    refine k_iload hF dX11_comes_32 rfl ?_
    refine k_istore hF (L' := [some (.ref (B + 0)), some (.int a1), some (.int a2), some (.int ea3), some (.int x.1), some (.int x.2), some (.int x.1), none]) dX11_comes_34 (by decide) rfl ?_
    refine k_iconst hF dX11_comes_36 ci_0 ?_
    refine k_istore hF (L' := [some (.ref (B + 0)), some (.int a1), some (.int a2), some (.int ea3), some (.int x.1), some (.int x.2), some (.int x.1), some (.int (0 : Int32))]) dX11_comes_37 (by decide) rfl ?_
    obtain ⟨x15, hx15, h⟩ := bind_some h
    refine k_loop (P := fun xq => KJ (Rep D B shpR) A 8 0 0 Q p l e ({ frames := 3, cells := 0, slots := 0, locals := 66 } : Room) s m args below meth c 0 0 39 [some (.ref (B + 0)), some (.int a1), some (.int a2), some (.int ea3), some (.int x.1), some (.int x.2), some (.int xq.1), some (.int xq.2)] [] σ) (C := fun xq => KJ (Rep D B shpR) A 8 0 0 Q p l e ({ frames := 3, cells := 0, slots := 0, locals := 66 } : Room) s m args below meth c 0 0 110 [some (.ref (B + 0)), some (.int a1), some (.int a2), some (.int ea3), some (.int x.1), some (.int x.2), some (.int xq.1), some (.int xq.2)] [] σ) (fun x z hz hc he => wX11_comes_l39 hF hA hbs hz hc he) hx15 ?_
    show KJ (Rep D B shpR) A 8 0 0 Q p l e ({ frames := 3, cells := 0, slots := 0, locals := 66 } : Room) s m args below meth c 0 0 110 [some (.ref (B + 0)), some (.int a1), some (.int a2), some (.int ea3), some (.int x.1), some (.int x.2), some (.int x15.1), some (.int x15.2)] [] σ
    refine k_iload hF dX11_comes_110 rfl ?_
    refine k_istore hF (L' := [some (.ref (B + 0)), some (.int a1), some (.int a2), some (.int ea3), some (.int x15.1), some (.int x.2), some (.int x15.1), some (.int x15.2)]) dX11_comes_112 (by decide) rfl ?_
    refine k_iinc hF (v := (x.2 + (1 : Int32))) (L' := [some (.ref (B + 0)), some (.int a1), some (.int a2), some (.int ea3), some (.int x15.1), some (.int (x.2 + (1 : Int32))), some (.int x15.1), some (.int x15.2)]) dX11_comes_114 rfl (by first | rfl | (congr 1)) (by decide) rfl ?_
    refine k_goto hF dX11_comes_117 (tgt := 26) (by decide) ?_
    refine k_kill 6 rfl ?_
    refine k_kill 7 rfl ?_
    exact hc _ (Option.some.inj h).symm
set_option maxHeartbeats 4000000 in
set_option maxRecDepth 100000 in
theorem wX11_comes_j21 {p : Program} {l : Launch} {e : Env} {s : State} {m : MethodId} {args : Array Value} {below : List Frame} {meth : Method} {c : Code} {Q : State → Prop} {A : Nat → Prop} {D : DD} {base B : Nat} (hF : KF D base cX11_comes RX11 A 8 0 0 p l e ({ frames := 3, cells := 0, slots := 0, locals := 66 } : Room) s m args below meth c) (hA : ∀ q, RA B shpR q → A q) (hbs : base ≤ B) {σ : St} {a1 : Int32} {a2 : Int32} {b3 : Int32} {t0 : Int32} {z : Int32} (h : fX11_comes_j21 σ a1 a2 b3 t0 = some z) (hr : ∀ (pc : Nat) (L : List (Option Value)), narrow .int (.int z) = .int z → decode cX11_comes pc = .ok (.ireturn, 1) → KJ (Rep D B shpR) A 8 0 0 Q p l e ({ frames := 3, cells := 0, slots := 0, locals := 66 } : Room) s m args below meth c 0 0 pc L [.int z] σ) : KJ (Rep D B shpR) A 8 0 0 Q p l e ({ frames := 3, cells := 0, slots := 0, locals := 66 } : Room) s m args below meth c 0 0 21 [some (.ref (B + 0)), some (.int a1), some (.int a2), some (.int b3), none, none, none, none] [.int t0] σ := by
  unfold fX11_comes_j21 at h
  refine k_istore hF (L' := [some (.ref (B + 0)), some (.int a1), some (.int a2), some (.int b3), some (.int t0), none, none, none]) dX11_comes_21 (by decide) rfl ?_
  refine k_iconst hF dX11_comes_23 ci_0 ?_
  refine k_istore hF (L' := [some (.ref (B + 0)), some (.int a1), some (.int a2), some (.int b3), some (.int t0), some (.int (0 : Int32)), none, none]) dX11_comes_24 (by decide) rfl ?_
  obtain ⟨x16, hx16, h⟩ := bind_some h
  refine k_loop (P := fun xq => KJ (Rep D B shpR) A 8 0 0 Q p l e ({ frames := 3, cells := 0, slots := 0, locals := 66 } : Room) s m args below meth c 0 0 26 [some (.ref (B + 0)), some (.int a1), some (.int a2), some (.int b3), some (.int xq.1), some (.int xq.2), none, none] [] σ) (C := fun xq => KJ (Rep D B shpR) A 8 0 0 Q p l e ({ frames := 3, cells := 0, slots := 0, locals := 66 } : Room) s m args below meth c 0 0 120 [some (.ref (B + 0)), some (.int a1), some (.int a2), some (.int b3), some (.int xq.1), some (.int xq.2), none, none] [] σ) (fun x z hz hc he => wX11_comes_l26 hF hA hbs hz hc he) hx16 ?_
  show KJ (Rep D B shpR) A 8 0 0 Q p l e ({ frames := 3, cells := 0, slots := 0, locals := 66 } : Room) s m args below meth c 0 0 120 [some (.ref (B + 0)), some (.int a1), some (.int a2), some (.int b3), some (.int x16.1), some (.int x16.2), none, none] [] σ
  refine k_iload hF dX11_comes_120 rfl ?_
  cases h
  exact hr _ _ rfl dX11_comes_122
set_option maxHeartbeats 4000000 in
set_option maxRecDepth 100000 in
theorem wX11_comes {p : Program} {l : Launch} {e : Env} {s : State} {m : MethodId} {args : Array Value} {below : List Frame} {meth : Method} {c : Code} {Q : State → Prop} {A : Nat → Prop} {D : DD} {base B : Nat} (hF : KF D base cX11_comes RX11 A 8 0 0 p l e ({ frames := 3, cells := 0, slots := 0, locals := 66 } : Room) s m args below meth c) (hA : ∀ q, RA B shpR q → A q) (hbs : base ≤ B) {σ : St} {a1 : Int32} {a2 : Int32} {z : Int32} (h : fX11_comes σ a1 a2 = some z) (hr : ∀ (pc : Nat) (L : List (Option Value)), narrow .int (.int z) = .int z → decode cX11_comes pc = .ok (.ireturn, 1) → KJ (Rep D B shpR) A 8 0 0 Q p l e ({ frames := 3, cells := 0, slots := 0, locals := 66 } : Room) s m args below meth c 0 0 pc L [.int z] σ) : KJ (Rep D B shpR) A 8 0 0 Q p l e ({ frames := 3, cells := 0, slots := 0, locals := 66 } : Room) s m args below meth c 0 0 0 [some (.ref (B + 0)), some (.int a1), some (.int a2), none, none, none, none, none] [] σ := by
  unfold fX11_comes at h
  refine k_aload_n hF dX11_comes_0 rfl ?_
  refine k_iconst hF dX11_comes_1 ci_0 ?_
  obtain ⟨v1, hv1, h⟩ := bind_some h
  refine k_callV hF hA (as := [.int (0 : Int32)]) (ct_X11_reached hbs hv1) mv_X11_266 shR_0 rfl rfl rfl ⟨Nat.le_of_ble_eq_true rfl, Nat.le_of_ble_eq_true rfl⟩ (Nat.le_of_ble_eq_true rfl) dX11_comes_2 ?_
  refine k_st (st2 := [.int v1]) rfl ?_
  refine k_istore_n hF (L' := [some (.ref (B + 0)), some (.int a1), some (.int a2), some (.int v1), none, none, none, none]) dX11_comes_5 (by decide) rfl ?_
  refine k_iload_n hF dX11_comes_6 rfl ?_
  refine k_iload_n hF dX11_comes_7 rfl ?_
  obtain ⟨v2, hv2, h⟩ := bind_some h
  refine k_callS hF hA (as := [.int v1, .int a1]) (ct_X11_has hbs hv2) ms_X11_142 rfl rfl ⟨Nat.le_of_ble_eq_true rfl, Nat.le_of_ble_eq_true rfl⟩ (Nat.le_of_ble_eq_true rfl) dX11_comes_8 ?_
  refine k_st (st2 := [.int v2]) rfl ?_
  refine k_if_eq hF (tgt := 20) dX11_comes_11 (by decide) (fun c3 => ?_) (fun c3 => ?_)
  · replace h := ite_t c3 h
    refine k_iconst hF dX11_comes_20 ci_0 ?_
    exact wX11_comes_j21 hF hA hbs h hr
  · replace h := ite_f c3 h
    refine k_iconst hF dX11_comes_14 ci_1 ?_
    refine k_iload_n hF dX11_comes_15 rfl ?_
    refine k_ishl hF dX11_comes_16 ?_
    refine k_goto hF dX11_comes_17 (tgt := 21) (by decide) ?_
    exact wX11_comes_j21 hF hA hbs h hr
theorem ct_X11_comes {l : Launch} {D : DD} {base B : Nat} (hbs : base ≤ B) {σ : St} {a1 : Int32} {a2 : Int32} {r : Int32} (h : fX11_comes σ a1 a2 = some r) : MetR l D B shpR base yX11_comes cX11_comes 8 (some .int) 3 66 [.ref (B + 0), .int a1, .int a2] σ (some (.int r)) σ :=
  MetR.of (by decide +kernel) (fun v hv => by simp only [List.mem_cons, List.not_mem_nil, or_false] at hv; rcases hv with rfl | rfl | rfl <;> rfl) (Nat.le_of_ble_eq_true rfl) hbs (fun p e s m args below meth c hF hr => wX11_comes hF (fun q hq => hq) hbs h (fun pc L hn hd => k_iret hF hr hn hd))
set_option maxHeartbeats 4000000 in
set_option maxRecDepth 100000 in
theorem wX11_walk_j28 {p : Program} {l : Launch} {e : Env} {s : State} {m : MethodId} {args : Array Value} {below : List Frame} {meth : Method} {c : Code} {Q : State → Prop} {A : Nat → Prop} {D : DD} {base B : Nat} (hF : KF D base cX11_walk RX11 A 3 0 0 p l e ({ frames := 4, cells := 0, slots := 0, locals := 93 } : Room) s m args below meth c) (hA : ∀ q, RA B shpR q → A q) (hbs : base ≤ B) {σ : St} {a1 : Int32} {a2 : Int32} {t0 : Int32} {z : (Int32 × St)} (h : fX11_walk_j28 σ a1 a2 t0 = some z) (hr : ∀ (pc : Nat) (L : List (Option Value)), narrow .int (.int z.1) = .int z.1 → decode cX11_walk pc = .ok (.ireturn, 1) → KJ (Rep D B shpR) A 3 0 0 Q p l e ({ frames := 4, cells := 0, slots := 0, locals := 93 } : Room) s m args below meth c 0 0 pc L [.int z.1] z.2) : KJ (Rep D B shpR) A 3 0 0 Q p l e ({ frames := 4, cells := 0, slots := 0, locals := 93 } : Room) s m args below meth c 0 0 28 [some (.ref (B + 0)), some (.int a1), some (.int a2)] [.int t0, .ref (B + 0)] σ := by
  unfold fX11_walk_j28 at h
  obtain ⟨v5, hv5, h⟩ := bind_some h
  refine k_callV hF hA (as := [.int t0]) (ct_X11_fails hbs hv5) mv_X11_181 shR_0 rfl rfl rfl ⟨Nat.le_of_ble_eq_true rfl, Nat.le_of_ble_eq_true rfl⟩ (Nat.le_of_ble_eq_true rfl) dX11_walk_28 ?_
  refine k_st (st2 := [.int v5.1]) rfl ?_
  refine k_if_eq hF (tgt := 38) dX11_walk_31 (by decide) (fun c6 => ?_) (fun c6 => ?_)
  · replace h := ite_t c6 h
    refine k_aload_n hF dX11_walk_38 rfl ?_
    refine k_iload_n hF dX11_walk_39 rfl ?_
    refine k_iload_n hF dX11_walk_40 rfl ?_
    obtain ⟨v7, hv7, h⟩ := bind_some h
    refine k_callV hF hA (as := [.int a1, .int a2]) (ct_X11_comes hbs hv7) mv_X11_287 shR_0 rfl rfl rfl ⟨Nat.le_of_ble_eq_true rfl, Nat.le_of_ble_eq_true rfl⟩ (Nat.le_of_ble_eq_true rfl) dX11_walk_41 ?_
    refine k_st (st2 := [.int v7]) rfl ?_
    cases h
    exact hr _ _ rfl dX11_walk_44
  · replace h := ite_f c6 h
    refine k_iconst hF dX11_walk_34 ci_0 ?_
    refine k_goto hF dX11_walk_35 (tgt := 44) (by decide) ?_
    cases h
    exact hr _ _ rfl dX11_walk_44
set_option maxHeartbeats 4000000 in
set_option maxRecDepth 100000 in
theorem wX11_walk {p : Program} {l : Launch} {e : Env} {s : State} {m : MethodId} {args : Array Value} {below : List Frame} {meth : Method} {c : Code} {Q : State → Prop} {A : Nat → Prop} {D : DD} {base B : Nat} (hF : KF D base cX11_walk RX11 A 3 0 0 p l e ({ frames := 4, cells := 0, slots := 0, locals := 93 } : Room) s m args below meth c) (hA : ∀ q, RA B shpR q → A q) (hbs : base ≤ B) {σ : St} {a1 : Int32} {a2 : Int32} {z : (Int32 × St)} (h : fX11_walk σ a1 a2 = some z) (hr : ∀ (pc : Nat) (L : List (Option Value)), narrow .int (.int z.1) = .int z.1 → decode cX11_walk pc = .ok (.ireturn, 1) → KJ (Rep D B shpR) A 3 0 0 Q p l e ({ frames := 4, cells := 0, slots := 0, locals := 93 } : Room) s m args below meth c 0 0 pc L [.int z.1] z.2) : KJ (Rep D B shpR) A 3 0 0 Q p l e ({ frames := 4, cells := 0, slots := 0, locals := 93 } : Room) s m args below meth c 0 0 0 [some (.ref (B + 0)), some (.int a1), some (.int a2)] [] σ := by
  unfold fX11_walk at h
  refine k_aload_n hF dX11_walk_0 rfl ?_
  refine k_aload_n hF dX11_walk_1 rfl ?_
  refine k_iload_n hF dX11_walk_2 rfl ?_
  obtain ⟨v1, hv1, h⟩ := bind_some h
  refine k_callV hF hA (as := [.int a1]) (ct_X11_isNode hbs hv1) mv_X11_163 shR_0 rfl rfl rfl ⟨Nat.le_of_ble_eq_true rfl, Nat.le_of_ble_eq_true rfl⟩ (Nat.le_of_ble_eq_true rfl) dX11_walk_3 ?_
  refine k_st (st2 := [.int v1, .ref (B + 0)]) rfl ?_
  refine k_if_ne hF (tgt := 13) dX11_walk_6 (by decide) (fun c2 => ?_) (fun c2 => ?_)
  · replace h := ite_f c2 h
    refine k_iload_n hF dX11_walk_13 rfl ?_
    refine k_iconst hF dX11_walk_14 ci_0 ?_
    refine k_bipush hF (v := (30 : Int32)) dX11_walk_15 (by decide) ?_
    obtain ⟨v3, hv3, h⟩ := bind_some h
    refine k_callS hF hA (as := [.int a2, .int (0 : Int32), .int (30 : Int32)]) (ct_X11_isIn hbs hv3) ms_X11_146 rfl rfl ⟨Nat.le_of_ble_eq_true rfl, Nat.le_of_ble_eq_true rfl⟩ (Nat.le_of_ble_eq_true rfl) dX11_walk_17 ?_
    refine k_st (st2 := [.int v3, .ref (B + 0)]) rfl ?_
    refine k_if_eq hF (tgt := 27) dX11_walk_20 (by decide) (fun c4 => ?_) (fun c4 => ?_)
    · replace h := ite_t c4 h
      refine k_iconst hF dX11_walk_27 ci_2 ?_
      exact wX11_walk_j28 hF hA hbs h hr
    · replace h := ite_f c4 h
      refine k_iconst hF dX11_walk_23 ci_0 ?_
      refine k_goto hF dX11_walk_24 (tgt := 28) (by decide) ?_
      exact wX11_walk_j28 hF hA hbs h hr
  · replace h := ite_t c2 h
    refine k_iconst hF dX11_walk_9 ci_1 ?_
    refine k_goto hF dX11_walk_10 (tgt := 28) (by decide) ?_
    exact wX11_walk_j28 hF hA hbs h hr
theorem ct_X11_walk {l : Launch} {D : DD} {base B : Nat} (hbs : base ≤ B) {σ : St} {a1 : Int32} {a2 : Int32} {r : (Int32 × St)} (h : fX11_walk σ a1 a2 = some r) : MetR l D B shpR base yX11_walk cX11_walk 3 (some .int) 4 93 [.ref (B + 0), .int a1, .int a2] σ (some (.int r.1)) r.2 :=
  MetR.of (by decide +kernel) (fun v hv => by simp only [List.mem_cons, List.not_mem_nil, or_false] at hv; rcases hv with rfl | rfl | rfl <;> rfl) (Nat.le_of_ble_eq_true rfl) hbs (fun p e s m args below meth c hF hr => wX11_walk hF (fun q hq => hq) hbs h (fun pc L hn hd => k_iret hF hr hn hd))
set_option maxHeartbeats 4000000 in
set_option maxRecDepth 100000 in
theorem wX11_crossings_j125 {p : Program} {l : Launch} {e : Env} {s : State} {m : MethodId} {args : Array Value} {below : List Frame} {meth : Method} {c : Code} {Q : State → Prop} {A : Nat → Prop} {D : DD} {base B : Nat} (hF : KF D base cX11_crossings RX11 A 6 0 0 p l e ({ frames := 4, cells := 0, slots := 0, locals := 93 } : Room) s m args below meth c) (hA : ∀ q, RA B shpR q → A q) (hbs : base ≤ B) {σ : St} {a1 : Int32} {a2 : Int32} {ea3 : Int32} {b5 : Int32} {t0 : Int32} {t1 : Int32} {z : ((Int32 × Int32) ⊕ (Int32 × Int32))} (h : fX11_crossings_j125 σ a1 a2 ea3 b5 t0 t1 = some z) (hc : ∀ x, z = .inl x → KJ (Rep D B shpR) A 6 0 0 Q p l e ({ frames := 4, cells := 0, slots := 0, locals := 93 } : Room) s m args below meth c 0 0 59 [some (.ref (B + 0)), some (.int a1), some (.int a2), some (.int ea3), some (.int x.1), some (.int x.2)] [] σ) (he : ∀ w, z = .inr w → KJ (Rep D B shpR) A 6 0 0 Q p l e ({ frames := 4, cells := 0, slots := 0, locals := 93 } : Room) s m args below meth c 0 0 134 [some (.ref (B + 0)), some (.int a1), some (.int a2), some (.int ea3), some (.int w.1), some (.int w.2)] [] σ) : KJ (Rep D B shpR) A 6 0 0 Q p l e ({ frames := 4, cells := 0, slots := 0, locals := 93 } : Room) s m args below meth c 0 0 125 [some (.ref (B + 0)), some (.int a1), some (.int a2), some (.int ea3), none, some (.int b5)] [.int t0, .int t1] σ := by
  unfold fX11_crossings_j125 at h
  refine k_iadd hF dX11_crossings_125 ?_
  refine k_istore hF (L' := [some (.ref (B + 0)), some (.int a1), some (.int a2), some (.int ea3), some (.int (t1 + t0)), some (.int b5)]) dX11_crossings_126 (by decide) rfl ?_
  refine k_iinc hF (v := (b5 + (1 : Int32))) (L' := [some (.ref (B + 0)), some (.int a1), some (.int a2), some (.int ea3), some (.int (t1 + t0)), some (.int (b5 + (1 : Int32)))]) dX11_crossings_128 rfl (by first | rfl | (congr 1)) (by decide) rfl ?_
  refine k_goto hF dX11_crossings_131 (tgt := 59) (by decide) ?_
  exact hc _ (Option.some.inj h).symm
set_option maxHeartbeats 4000000 in
set_option maxRecDepth 100000 in
theorem wX11_crossings_j124 {p : Program} {l : Launch} {e : Env} {s : State} {m : MethodId} {args : Array Value} {below : List Frame} {meth : Method} {c : Code} {Q : State → Prop} {A : Nat → Prop} {D : DD} {base B : Nat} (hF : KF D base cX11_crossings RX11 A 6 0 0 p l e ({ frames := 4, cells := 0, slots := 0, locals := 93 } : Room) s m args below meth c) (hA : ∀ q, RA B shpR q → A q) (hbs : base ≤ B) {σ : St} {a1 : Int32} {a2 : Int32} {ea3 : Int32} {b5 : Int32} {t0 : Int32} {z : ((Int32 × Int32) ⊕ (Int32 × Int32))} (h : fX11_crossings_j124 σ a1 a2 ea3 b5 t0 = some z) (hc : ∀ x, z = .inl x → KJ (Rep D B shpR) A 6 0 0 Q p l e ({ frames := 4, cells := 0, slots := 0, locals := 93 } : Room) s m args below meth c 0 0 59 [some (.ref (B + 0)), some (.int a1), some (.int a2), some (.int ea3), some (.int x.1), some (.int x.2)] [] σ) (he : ∀ w, z = .inr w → KJ (Rep D B shpR) A 6 0 0 Q p l e ({ frames := 4, cells := 0, slots := 0, locals := 93 } : Room) s m args below meth c 0 0 134 [some (.ref (B + 0)), some (.int a1), some (.int a2), some (.int ea3), some (.int w.1), some (.int w.2)] [] σ) : KJ (Rep D B shpR) A 6 0 0 Q p l e ({ frames := 4, cells := 0, slots := 0, locals := 93 } : Room) s m args below meth c 0 0 124 [some (.ref (B + 0)), some (.int a1), some (.int a2), some (.int ea3), none, some (.int b5)] [.int t0] σ := by
  unfold fX11_crossings_j124 at h
  refine k_iconst hF dX11_crossings_124 ci_0 ?_
  exact wX11_crossings_j125 hF hA hbs h hc he
set_option maxHeartbeats 4000000 in
set_option maxRecDepth 100000 in
theorem wX11_crossings_l59 {p : Program} {l : Launch} {e : Env} {s : State} {m : MethodId} {args : Array Value} {below : List Frame} {meth : Method} {c : Code} {Q : State → Prop} {A : Nat → Prop} {D : DD} {base B : Nat} (hF : KF D base cX11_crossings RX11 A 6 0 0 p l e ({ frames := 4, cells := 0, slots := 0, locals := 93 } : Room) s m args below meth c) (hA : ∀ q, RA B shpR q → A q) (hbs : base ≤ B) {σ : St} {a1 : Int32} {a2 : Int32} {ea3 : Int32} {x : (Int32 × Int32)} {z : ((Int32 × Int32) ⊕ (Int32 × Int32))} (h : fX11_crossings_l59 σ a1 a2 ea3 x = some z) (hc : ∀ x, z = .inl x → KJ (Rep D B shpR) A 6 0 0 Q p l e ({ frames := 4, cells := 0, slots := 0, locals := 93 } : Room) s m args below meth c 0 0 59 [some (.ref (B + 0)), some (.int a1), some (.int a2), some (.int ea3), some (.int x.1), some (.int x.2)] [] σ) (he : ∀ w, z = .inr w → KJ (Rep D B shpR) A 6 0 0 Q p l e ({ frames := 4, cells := 0, slots := 0, locals := 93 } : Room) s m args below meth c 0 0 134 [some (.ref (B + 0)), some (.int a1), some (.int a2), some (.int ea3), some (.int w.1), some (.int w.2)] [] σ) : KJ (Rep D B shpR) A 6 0 0 Q p l e ({ frames := 4, cells := 0, slots := 0, locals := 93 } : Room) s m args below meth c 0 0 59 [some (.ref (B + 0)), some (.int a1), some (.int a2), some (.int ea3), some (.int x.1), some (.int x.2)] [] σ := by
  unfold fX11_crossings_l59 at h
  refine k_iload hF dX11_crossings_59 rfl ?_
  refine k_aload_n hF dX11_crossings_61 rfl ?_
  refine k_get hF (v := .int (gi σ 0 15)) shR_0 fl_X11_154_X11 dX11_crossings_62 rfl ?_
  refine k_icmp_ge hF (tgt := 134) dX11_crossings_65 (by decide) (fun c9 => ?_) (fun c9 => ?_)
  · replace h := ite_t c9 h
    exact he _ (Option.some.inj h).symm
  · replace h := ite_f c9 h
    refine k_iload hF dX11_crossings_68 rfl ?_
    refine k_aload_n hF dX11_crossings_70 rfl ?_
    refine k_iload hF dX11_crossings_71 rfl ?_
    obtain ⟨v10, hv10, h⟩ := bind_some h
    refine k_callV hF hA (as := [.int x.2]) (ct_X11_isEdge hbs hv10) mv_X11_195 shR_0 rfl rfl rfl ⟨Nat.le_of_ble_eq_true rfl, Nat.le_of_ble_eq_true rfl⟩ (Nat.le_of_ble_eq_true rfl) dX11_crossings_73 ?_
    refine k_st (st2 := [.int v10, .int x.1]) rfl ?_
    refine k_if_eq hF (tgt := 124) dX11_crossings_76 (by decide) (fun c11 => ?_) (fun c11 => ?_)
    · replace h := ite_t c11 h
      refine k_kill 4 rfl ?_
      exact wX11_crossings_j124 hF hA hbs h hc he
    · replace h := ite_f c11 h
      refine k_iload_n hF dX11_crossings_79 rfl ?_
      refine k_aload_n hF dX11_crossings_80 rfl ?_
      refine k_get hF (v := .ref (B + 13)) shR_0 fl_X11_48_X11 dX11_crossings_81 rfl ?_
      refine k_iload hF dX11_crossings_84 rfl ?_
      obtain ⟨g12, h⟩ := gd_some h
      refine k_iald hF shR_13 dX11_crossings_86 g12 ?_
      obtain ⟨v13, hv13, h⟩ := bind_some h
      refine k_callS hF hA (as := [.int ea3, .int (gi σ 13 x.2.toNatClampNeg)]) (ct_X11_has hbs hv13) ms_X11_142 rfl rfl ⟨Nat.le_of_ble_eq_true rfl, Nat.le_of_ble_eq_true rfl⟩ (Nat.le_of_ble_eq_true rfl) dX11_crossings_87 ?_
      refine k_st (st2 := [.int v13, .int x.1]) rfl ?_
      refine k_if_eq hF (tgt := 124) dX11_crossings_90 (by decide) (fun c14 => ?_) (fun c14 => ?_)
      · replace h := ite_t c14 h
        refine k_kill 4 rfl ?_
        exact wX11_crossings_j124 hF hA hbs h hc he
      · replace h := ite_f c14 h
        refine k_aload_n hF dX11_crossings_93 rfl ?_
        refine k_get hF (v := .ref (B + 3)) shR_0 fl_X11_16_X11 dX11_crossings_94 rfl ?_
        refine k_aload_n hF dX11_crossings_97 rfl ?_
        refine k_get hF (v := .ref (B + 13)) shR_0 fl_X11_48_X11 dX11_crossings_98 rfl ?_
        refine k_iload hF dX11_crossings_101 rfl ?_
        obtain ⟨g15, h⟩ := gd_some h
        refine k_iald hF shR_13 dX11_crossings_103 g15 ?_
        obtain ⟨g16, h⟩ := gd_some h
        refine k_iald hF shR_3 dX11_crossings_104 g16 ?_
        refine k_aload_n hF dX11_crossings_105 rfl ?_
        refine k_get hF (v := .ref (B + 3)) shR_0 fl_X11_16_X11 dX11_crossings_106 rfl ?_
        refine k_aload_n hF dX11_crossings_109 rfl ?_
        refine k_get hF (v := .ref (B + 14)) shR_0 fl_X11_51_X11 dX11_crossings_110 rfl ?_
        refine k_iload hF dX11_crossings_113 rfl ?_
        obtain ⟨g17, h⟩ := gd_some h
        refine k_iald hF shR_14 dX11_crossings_115 g17 ?_
        obtain ⟨g18, h⟩ := gd_some h
        refine k_iald hF shR_3 dX11_crossings_116 g18 ?_
        refine k_icmp_eq hF (tgt := 124) dX11_crossings_117 (by decide) (fun c19 => ?_) (fun c19 => ?_)
        · replace h := ite_t c19 h
          refine k_kill 4 rfl ?_
          exact wX11_crossings_j124 hF hA hbs h hc he
        · replace h := ite_f c19 h
          refine k_iconst hF dX11_crossings_120 ci_1 ?_
          refine k_goto hF dX11_crossings_121 (tgt := 125) (by decide) ?_
          refine k_kill 4 rfl ?_
          exact wX11_crossings_j125 hF hA hbs h hc he
set_option maxHeartbeats 4000000 in
set_option maxRecDepth 100000 in
theorem wX11_crossings_j52 {p : Program} {l : Launch} {e : Env} {s : State} {m : MethodId} {args : Array Value} {below : List Frame} {meth : Method} {c : Code} {Q : State → Prop} {A : Nat → Prop} {D : DD} {base B : Nat} (hF : KF D base cX11_crossings RX11 A 6 0 0 p l e ({ frames := 4, cells := 0, slots := 0, locals := 93 } : Room) s m args below meth c) (hA : ∀ q, RA B shpR q → A q) (hbs : base ≤ B) {σ : St} {a1 : Int32} {a2 : Int32} {t0 : Int32} {z : (Int32 × St)} (h : fX11_crossings_j52 σ a1 a2 t0 = some z) (hr : ∀ (pc : Nat) (L : List (Option Value)), narrow .int (.int z.1) = .int z.1 → decode cX11_crossings pc = .ok (.ireturn, 1) → KJ (Rep D B shpR) A 6 0 0 Q p l e ({ frames := 4, cells := 0, slots := 0, locals := 93 } : Room) s m args below meth c 0 0 pc L [.int z.1] z.2) : KJ (Rep D B shpR) A 6 0 0 Q p l e ({ frames := 4, cells := 0, slots := 0, locals := 93 } : Room) s m args below meth c 0 0 52 [some (.ref (B + 0)), some (.int a1), some (.int a2), none, none, none] [.int t0] σ := by
  unfold fX11_crossings_j52 at h
  refine k_istore_n hF (L' := [some (.ref (B + 0)), some (.int a1), some (.int a2), some (.int t0), none, none]) dX11_crossings_52 (by decide) rfl ?_
  refine k_iconst hF dX11_crossings_53 ci_0 ?_
  refine k_istore hF (L' := [some (.ref (B + 0)), some (.int a1), some (.int a2), some (.int t0), some (.int (0 : Int32)), none]) dX11_crossings_54 (by decide) rfl ?_
  refine k_iconst hF dX11_crossings_56 ci_0 ?_
  refine k_istore hF (L' := [some (.ref (B + 0)), some (.int a1), some (.int a2), some (.int t0), some (.int (0 : Int32)), some (.int (0 : Int32))]) dX11_crossings_57 (by decide) rfl ?_
  obtain ⟨x20, hx20, h⟩ := bind_some h
  refine k_loop (P := fun xq => KJ (Rep D B shpR) A 6 0 0 Q p l e ({ frames := 4, cells := 0, slots := 0, locals := 93 } : Room) s m args below meth c 0 0 59 [some (.ref (B + 0)), some (.int a1), some (.int a2), some (.int t0), some (.int xq.1), some (.int xq.2)] [] σ) (C := fun xq => KJ (Rep D B shpR) A 6 0 0 Q p l e ({ frames := 4, cells := 0, slots := 0, locals := 93 } : Room) s m args below meth c 0 0 134 [some (.ref (B + 0)), some (.int a1), some (.int a2), some (.int t0), some (.int xq.1), some (.int xq.2)] [] σ) (fun x z hz hc he => wX11_crossings_l59 hF hA hbs hz hc he) hx20 ?_
  show KJ (Rep D B shpR) A 6 0 0 Q p l e ({ frames := 4, cells := 0, slots := 0, locals := 93 } : Room) s m args below meth c 0 0 134 [some (.ref (B + 0)), some (.int a1), some (.int a2), some (.int t0), some (.int x20.1), some (.int x20.2)] [] σ
  refine k_iload hF dX11_crossings_134 rfl ?_
  cases h
  exact hr _ _ rfl dX11_crossings_136
set_option maxHeartbeats 4000000 in
set_option maxRecDepth 100000 in
theorem wX11_crossings_j28 {p : Program} {l : Launch} {e : Env} {s : State} {m : MethodId} {args : Array Value} {below : List Frame} {meth : Method} {c : Code} {Q : State → Prop} {A : Nat → Prop} {D : DD} {base B : Nat} (hF : KF D base cX11_crossings RX11 A 6 0 0 p l e ({ frames := 4, cells := 0, slots := 0, locals := 93 } : Room) s m args below meth c) (hA : ∀ q, RA B shpR q → A q) (hbs : base ≤ B) {σ : St} {a1 : Int32} {a2 : Int32} {t0 : Int32} {z : (Int32 × St)} (h : fX11_crossings_j28 σ a1 a2 t0 = some z) (hr : ∀ (pc : Nat) (L : List (Option Value)), narrow .int (.int z.1) = .int z.1 → decode cX11_crossings pc = .ok (.ireturn, 1) → KJ (Rep D B shpR) A 6 0 0 Q p l e ({ frames := 4, cells := 0, slots := 0, locals := 93 } : Room) s m args below meth c 0 0 pc L [.int z.1] z.2) : KJ (Rep D B shpR) A 6 0 0 Q p l e ({ frames := 4, cells := 0, slots := 0, locals := 93 } : Room) s m args below meth c 0 0 28 [some (.ref (B + 0)), some (.int a1), some (.int a2), none, none, none] [.int t0, .ref (B + 0)] σ := by
  unfold fX11_crossings_j28 at h
  obtain ⟨v5, hv5, h⟩ := bind_some h
  refine k_callV hF hA (as := [.int t0]) (ct_X11_fails hbs hv5) mv_X11_181 shR_0 rfl rfl rfl ⟨Nat.le_of_ble_eq_true rfl, Nat.le_of_ble_eq_true rfl⟩ (Nat.le_of_ble_eq_true rfl) dX11_crossings_28 ?_
  refine k_st (st2 := [.int v5.1]) rfl ?_
  refine k_if_eq hF (tgt := 36) dX11_crossings_31 (by decide) (fun c6 => ?_) (fun c6 => ?_)
  · replace h := ite_t c6 h
    refine k_iload_n hF dX11_crossings_36 rfl ?_
    refine k_if_ne hF (tgt := 44) dX11_crossings_37 (by decide) (fun c7 => ?_) (fun c7 => ?_)
    · replace h := ite_f c7 h
      refine k_aload_n hF dX11_crossings_44 rfl ?_
      refine k_iload_n hF dX11_crossings_45 rfl ?_
      refine k_iload_n hF dX11_crossings_46 rfl ?_
      refine k_iconst hF dX11_crossings_47 ci_1 ?_
      refine k_isub hF dX11_crossings_48 ?_
      obtain ⟨v8, hv8, h⟩ := bind_some h
      refine k_callV hF hA (as := [.int a1, .int (a2 - (1 : Int32))]) (ct_X11_comes hbs hv8) mv_X11_287 shR_0 rfl rfl rfl ⟨Nat.le_of_ble_eq_true rfl, Nat.le_of_ble_eq_true rfl⟩ (Nat.le_of_ble_eq_true rfl) dX11_crossings_49 ?_
      refine k_st (st2 := [.int v8]) rfl ?_
      exact wX11_crossings_j52 hF hA hbs h hr
    · replace h := ite_t c7 h
      refine k_iconst hF dX11_crossings_40 ci_0 ?_
      refine k_goto hF dX11_crossings_41 (tgt := 52) (by decide) ?_
      exact wX11_crossings_j52 hF hA hbs h hr
  · replace h := ite_f c6 h
    refine k_iconst hF dX11_crossings_34 ci_0 ?_
    cases h
    exact hr _ _ rfl dX11_crossings_35
set_option maxHeartbeats 4000000 in
set_option maxRecDepth 100000 in
theorem wX11_crossings {p : Program} {l : Launch} {e : Env} {s : State} {m : MethodId} {args : Array Value} {below : List Frame} {meth : Method} {c : Code} {Q : State → Prop} {A : Nat → Prop} {D : DD} {base B : Nat} (hF : KF D base cX11_crossings RX11 A 6 0 0 p l e ({ frames := 4, cells := 0, slots := 0, locals := 93 } : Room) s m args below meth c) (hA : ∀ q, RA B shpR q → A q) (hbs : base ≤ B) {σ : St} {a1 : Int32} {a2 : Int32} {z : (Int32 × St)} (h : fX11_crossings σ a1 a2 = some z) (hr : ∀ (pc : Nat) (L : List (Option Value)), narrow .int (.int z.1) = .int z.1 → decode cX11_crossings pc = .ok (.ireturn, 1) → KJ (Rep D B shpR) A 6 0 0 Q p l e ({ frames := 4, cells := 0, slots := 0, locals := 93 } : Room) s m args below meth c 0 0 pc L [.int z.1] z.2) : KJ (Rep D B shpR) A 6 0 0 Q p l e ({ frames := 4, cells := 0, slots := 0, locals := 93 } : Room) s m args below meth c 0 0 0 [some (.ref (B + 0)), some (.int a1), some (.int a2), none, none, none] [] σ := by
  unfold fX11_crossings at h
  refine k_aload_n hF dX11_crossings_0 rfl ?_
  refine k_aload_n hF dX11_crossings_1 rfl ?_
  refine k_iload_n hF dX11_crossings_2 rfl ?_
  obtain ⟨v1, hv1, h⟩ := bind_some h
  refine k_callV hF hA (as := [.int a1]) (ct_X11_isNode hbs hv1) mv_X11_163 shR_0 rfl rfl rfl ⟨Nat.le_of_ble_eq_true rfl, Nat.le_of_ble_eq_true rfl⟩ (Nat.le_of_ble_eq_true rfl) dX11_crossings_3 ?_
  refine k_st (st2 := [.int v1, .ref (B + 0)]) rfl ?_
  refine k_if_ne hF (tgt := 13) dX11_crossings_6 (by decide) (fun c2 => ?_) (fun c2 => ?_)
  · replace h := ite_f c2 h
    refine k_iload_n hF dX11_crossings_13 rfl ?_
    refine k_iconst hF dX11_crossings_14 ci_0 ?_
    refine k_bipush hF (v := (30 : Int32)) dX11_crossings_15 (by decide) ?_
    obtain ⟨v3, hv3, h⟩ := bind_some h
    refine k_callS hF hA (as := [.int a2, .int (0 : Int32), .int (30 : Int32)]) (ct_X11_isIn hbs hv3) ms_X11_146 rfl rfl ⟨Nat.le_of_ble_eq_true rfl, Nat.le_of_ble_eq_true rfl⟩ (Nat.le_of_ble_eq_true rfl) dX11_crossings_17 ?_
    refine k_st (st2 := [.int v3, .ref (B + 0)]) rfl ?_
    refine k_if_eq hF (tgt := 27) dX11_crossings_20 (by decide) (fun c4 => ?_) (fun c4 => ?_)
    · replace h := ite_t c4 h
      refine k_iconst hF dX11_crossings_27 ci_2 ?_
      exact wX11_crossings_j28 hF hA hbs h hr
    · replace h := ite_f c4 h
      refine k_iconst hF dX11_crossings_23 ci_0 ?_
      refine k_goto hF dX11_crossings_24 (tgt := 28) (by decide) ?_
      exact wX11_crossings_j28 hF hA hbs h hr
  · replace h := ite_t c2 h
    refine k_iconst hF dX11_crossings_9 ci_1 ?_
    refine k_goto hF dX11_crossings_10 (tgt := 28) (by decide) ?_
    exact wX11_crossings_j28 hF hA hbs h hr
theorem ct_X11_crossings {l : Launch} {D : DD} {base B : Nat} (hbs : base ≤ B) {σ : St} {a1 : Int32} {a2 : Int32} {r : (Int32 × St)} (h : fX11_crossings σ a1 a2 = some r) : MetR l D B shpR base yX11_crossings cX11_crossings 6 (some .int) 4 93 [.ref (B + 0), .int a1, .int a2] σ (some (.int r.1)) r.2 :=
  MetR.of (by decide +kernel) (fun v hv => by simp only [List.mem_cons, List.not_mem_nil, or_false] at hv; rcases hv with rfl | rfl | rfl <;> rfl) (Nat.le_of_ble_eq_true rfl) hbs (fun p e s m args below meth c hF hr => wX11_crossings hF (fun q hq => hq) hbs h (fun pc L hn hd => k_iret hF hr hn hd))
set_option maxHeartbeats 4000000 in
set_option maxRecDepth 100000 in
theorem wX11_gives {p : Program} {l : Launch} {e : Env} {s : State} {m : MethodId} {args : Array Value} {below : List Frame} {meth : Method} {c : Code} {Q : State → Prop} {A : Nat → Prop} {D : DD} {base B : Nat} (hF : KF D base cX11_gives RX11 A 3 0 0 p l e ({ frames := 0, cells := 0, slots := 0, locals := 0 } : Room) s m args below meth c) (hA : ∀ q, RA B shpR q → A q) (hbs : base ≤ B) {σ : St} {a1 : Int32} {a2 : Int32} {z : St} (h : fX11_gives σ a1 a2 = some z) (hr : ∀ (pc : Nat) (L : List (Option Value)), decode cX11_gives pc = .ok (.return_, 1) → KJ (Rep D B shpR) A 3 0 0 Q p l e ({ frames := 0, cells := 0, slots := 0, locals := 0 } : Room) s m args below meth c 0 0 pc L [] z) : KJ (Rep D B shpR) A 3 0 0 Q p l e ({ frames := 0, cells := 0, slots := 0, locals := 0 } : Room) s m args below meth c 0 0 0 [some (.ref (B + 0)), some (.int a1), some (.int a2)] [] σ := by
  unfold fX11_gives at h
  refine k_aload_n hF dX11_gives_0 rfl ?_
  refine k_get hF (v := .ref (B + 8)) shR_0 fl_X11_31_X11 dX11_gives_1 rfl ?_
  refine k_iload_n hF dX11_gives_4 rfl ?_
  obtain ⟨g1, h⟩ := gd_some h
  refine k_zald hF shR_8 dX11_gives_5 g1 ?_
  refine k_if_eq hF (tgt := 43) dX11_gives_6 (by decide) (fun c2 => ?_) (fun c2 => ?_)
  · replace h := ite_t c2 h
    cases h
    exact hr _ _ dX11_gives_43
  · replace h := ite_f c2 h
    refine k_aload_n hF dX11_gives_9 rfl ?_
    refine k_get hF (v := .ref (B + 7)) shR_0 fl_X11_28_X11 dX11_gives_10 rfl ?_
    refine k_iload_n hF dX11_gives_13 rfl ?_
    obtain ⟨g3, h⟩ := gd_some h
    refine k_iald hF shR_7 dX11_gives_14 g3 ?_
    refine k_aload_n hF dX11_gives_15 rfl ?_
    refine k_get hF (v := .ref (B + 42)) shR_0 fl_X11_135_X11 dX11_gives_16 rfl ?_
    refine k_iload_n hF dX11_gives_19 rfl ?_
    obtain ⟨g4, h⟩ := gd_some h
    refine k_iald hF shR_42 dX11_gives_20 g4 ?_
    refine k_icmp_ge hF (tgt := 43) dX11_gives_21 (by decide) (fun c5 => ?_) (fun c5 => ?_)
    · replace h := ite_t c5 h
      cases h
      exact hr _ _ dX11_gives_43
    · replace h := ite_f c5 h
      refine k_aload_n hF dX11_gives_24 rfl ?_
      refine k_get hF (v := .ref (B + 42)) shR_0 fl_X11_135_X11 dX11_gives_25 rfl ?_
      refine k_iload_n hF dX11_gives_28 rfl ?_
      refine k_aload_n hF dX11_gives_29 rfl ?_
      refine k_get hF (v := .ref (B + 7)) shR_0 fl_X11_28_X11 dX11_gives_30 rfl ?_
      refine k_iload_n hF dX11_gives_33 rfl ?_
      obtain ⟨g6, h⟩ := gd_some h
      refine k_iald hF shR_7 dX11_gives_34 g6 ?_
      obtain ⟨g7, h⟩ := gd_some h
      refine k_iast hF hA shR_42 dX11_gives_35 g7 ?_
      obtain ⟨σ8, hσ8, h⟩ := lt_some h
      refine k_sig hσ8 ?_
      refine k_aload_n hF dX11_gives_36 rfl ?_
      refine k_get hF (v := .ref (B + 9)) shR_0 fl_X11_35_X11 dX11_gives_37 rfl ?_
      refine k_iload_n hF dX11_gives_40 rfl ?_
      refine k_iconst hF dX11_gives_41 ci_1 ?_
      obtain ⟨g9, h⟩ := gd_some h
      refine k_zast hF hA shR_9 dX11_gives_42 g9 rfl ?_
      obtain ⟨σ10, hσ10, h⟩ := lt_some h
      refine k_sig hσ10 ?_
      cases h
      exact hr _ _ dX11_gives_43
theorem ct_X11_gives {l : Launch} {D : DD} {base B : Nat} (hbs : base ≤ B) {σ : St} {a1 : Int32} {a2 : Int32} {r : St} (h : fX11_gives σ a1 a2 = some r) : MetR l D B shpR base yX11_gives cX11_gives 3 none 0 0 [.ref (B + 0), .int a1, .int a2] σ none r :=
  MetR.of (by decide +kernel) (fun v hv => by simp only [List.mem_cons, List.not_mem_nil, or_false] at hv; rcases hv with rfl | rfl | rfl <;> rfl) (Nat.le_of_ble_eq_true rfl) hbs (fun p e s m args below meth c hF hr => wX11_gives hF (fun q hq => hq) hbs h (fun pc L hd => k_vret hF hr hd))
set_option maxHeartbeats 4000000 in
set_option maxRecDepth 100000 in
theorem wX11_rounds_l2 {p : Program} {l : Launch} {e : Env} {s : State} {m : MethodId} {args : Array Value} {below : List Frame} {meth : Method} {c : Code} {Q : State → Prop} {A : Nat → Prop} {D : DD} {base B : Nat} (hF : KF D base cX11_rounds RX11 A 2 0 0 p l e ({ frames := 2, cells := 0, slots := 0, locals := 43 } : Room) s m args below meth c) (hA : ∀ q, RA B shpR q → A q) (hbs : base ≤ B) {σ : St} {x : (St × Int32)} {z : ((St × Int32) ⊕ (St × Int32))} (h : fX11_rounds_l2 σ x = some z) (hc : ∀ x, z = .inl x → KJ (Rep D B shpR) A 2 0 0 Q p l e ({ frames := 2, cells := 0, slots := 0, locals := 43 } : Room) s m args below meth c 0 0 2 [some (.ref (B + 0)), some (.int x.2)] [] x.1) (he : ∀ w, z = .inr w → KJ (Rep D B shpR) A 2 0 0 Q p l e ({ frames := 2, cells := 0, slots := 0, locals := 43 } : Room) s m args below meth c 0 0 23 [some (.ref (B + 0)), some (.int w.2)] [] w.1) : KJ (Rep D B shpR) A 2 0 0 Q p l e ({ frames := 2, cells := 0, slots := 0, locals := 43 } : Room) s m args below meth c 0 0 2 [some (.ref (B + 0)), some (.int x.2)] [] x.1 := by
  unfold fX11_rounds_l2 at h
  refine k_iload_n hF dX11_rounds_2 rfl ?_
  refine k_aload_n hF dX11_rounds_3 rfl ?_
  refine k_get hF (v := .int (gi x.1 0 1)) shR_0 fl_X11_150_X11 dX11_rounds_4 rfl ?_
  refine k_icmp_ge hF (tgt := 23) dX11_rounds_7 (by decide) (fun c1 => ?_) (fun c1 => ?_)
  · replace h := ite_t c1 h
    exact he _ (Option.some.inj h).symm
  · replace h := ite_f c1 h
    refine k_aload_n hF dX11_rounds_10 rfl ?_
    refine k_get hF (v := .ref (B + 9)) shR_0 fl_X11_35_X11 dX11_rounds_11 rfl ?_
    refine k_iload_n hF dX11_rounds_14 rfl ?_
    refine k_iconst hF dX11_rounds_15 ci_0 ?_
    obtain ⟨g2, h⟩ := gd_some h
    refine k_zast hF hA shR_9 dX11_rounds_16 g2 rfl ?_
    obtain ⟨σ3, hσ3, h⟩ := lt_some h
    refine k_sig hσ3 ?_
    refine k_iinc hF (v := (x.2 + (1 : Int32))) (L' := [some (.ref (B + 0)), some (.int (x.2 + (1 : Int32)))]) dX11_rounds_17 rfl (by first | rfl | (congr 1)) (by decide) rfl ?_
    refine k_goto hF dX11_rounds_20 (tgt := 2) (by decide) ?_
    exact hc _ (Option.some.inj h).symm
set_option maxHeartbeats 4000000 in
set_option maxRecDepth 100000 in
theorem wX11_rounds_l25 {p : Program} {l : Launch} {e : Env} {s : State} {m : MethodId} {args : Array Value} {below : List Frame} {meth : Method} {c : Code} {Q : State → Prop} {A : Nat → Prop} {D : DD} {base B : Nat} (hF : KF D base cX11_rounds RX11 A 2 0 0 p l e ({ frames := 2, cells := 0, slots := 0, locals := 43 } : Room) s m args below meth c) (hA : ∀ q, RA B shpR q → A q) (hbs : base ≤ B) {σ : St} {x : (St × Int32)} {z : ((St × Int32) ⊕ (St × Int32))} (h : fX11_rounds_l25 σ x = some z) (hc : ∀ x, z = .inl x → KJ (Rep D B shpR) A 2 0 0 Q p l e ({ frames := 2, cells := 0, slots := 0, locals := 43 } : Room) s m args below meth c 0 0 25 [some (.ref (B + 0)), some (.int x.2)] [] x.1) (he : ∀ w, z = .inr w → KJ (Rep D B shpR) A 2 0 0 Q p l e ({ frames := 2, cells := 0, slots := 0, locals := 43 } : Room) s m args below meth c 0 0 51 [some (.ref (B + 0)), some (.int w.2)] [] w.1) : KJ (Rep D B shpR) A 2 0 0 Q p l e ({ frames := 2, cells := 0, slots := 0, locals := 43 } : Room) s m args below meth c 0 0 25 [some (.ref (B + 0)), some (.int x.2)] [] x.1 := by
  unfold fX11_rounds_l25 at h
  refine k_iload_n hF dX11_rounds_25 rfl ?_
  refine k_aload_n hF dX11_rounds_26 rfl ?_
  refine k_get hF (v := .int (gi x.1 0 1)) shR_0 fl_X11_150_X11 dX11_rounds_27 rfl ?_
  refine k_icmp_ge hF (tgt := 51) dX11_rounds_30 (by decide) (fun c5 => ?_) (fun c5 => ?_)
  · replace h := ite_t c5 h
    exact he _ (Option.some.inj h).symm
  · replace h := ite_f c5 h
    refine k_aload_n hF dX11_rounds_33 rfl ?_
    refine k_get hF (v := .ref (B + 42)) shR_0 fl_X11_135_X11 dX11_rounds_34 rfl ?_
    refine k_iload_n hF dX11_rounds_37 rfl ?_
    refine k_aload_n hF dX11_rounds_38 rfl ?_
    refine k_get hF (v := .ref (B + 7)) shR_0 fl_X11_28_X11 dX11_rounds_39 rfl ?_
    refine k_iload_n hF dX11_rounds_42 rfl ?_
    obtain ⟨g6, h⟩ := gd_some h
    refine k_iald hF shR_7 dX11_rounds_43 g6 ?_
    obtain ⟨g7, h⟩ := gd_some h
    refine k_iast hF hA shR_42 dX11_rounds_44 g7 ?_
    obtain ⟨σ8, hσ8, h⟩ := lt_some h
    refine k_sig hσ8 ?_
    refine k_iinc hF (v := (x.2 + (1 : Int32))) (L' := [some (.ref (B + 0)), some (.int (x.2 + (1 : Int32)))]) dX11_rounds_45 rfl (by first | rfl | (congr 1)) (by decide) rfl ?_
    refine k_goto hF dX11_rounds_48 (tgt := 25) (by decide) ?_
    exact hc _ (Option.some.inj h).symm
set_option maxHeartbeats 4000000 in
set_option maxRecDepth 100000 in
theorem wX11_rounds_j101 {p : Program} {l : Launch} {e : Env} {s : State} {m : MethodId} {args : Array Value} {below : List Frame} {meth : Method} {c : Code} {Q : State → Prop} {A : Nat → Prop} {D : DD} {base B : Nat} (hF : KF D base cX11_rounds RX11 A 2 0 0 p l e ({ frames := 2, cells := 0, slots := 0, locals := 43 } : Room) s m args below meth c) (hA : ∀ q, RA B shpR q → A q) (hbs : base ≤ B) {σ : St} {b1 : Int32} {z : ((St × Int32) ⊕ (St × Int32))} (h : fX11_rounds_j101 σ b1 = some z) (hc : ∀ x, z = .inl x → KJ (Rep D B shpR) A 2 0 0 Q p l e ({ frames := 2, cells := 0, slots := 0, locals := 43 } : Room) s m args below meth c 0 0 53 [some (.ref (B + 0)), some (.int x.2)] [] x.1) (he : ∀ w, z = .inr w → KJ (Rep D B shpR) A 2 0 0 Q p l e ({ frames := 2, cells := 0, slots := 0, locals := 43 } : Room) s m args below meth c 0 0 107 [some (.ref (B + 0)), some (.int w.2)] [] w.1) : KJ (Rep D B shpR) A 2 0 0 Q p l e ({ frames := 2, cells := 0, slots := 0, locals := 43 } : Room) s m args below meth c 0 0 101 [some (.ref (B + 0)), some (.int b1)] [] σ := by
  unfold fX11_rounds_j101 at h
  refine k_iinc hF (v := (b1 + (1 : Int32))) (L' := [some (.ref (B + 0)), some (.int (b1 + (1 : Int32)))]) dX11_rounds_101 rfl (by first | rfl | (congr 1)) (by decide) rfl ?_
  refine k_goto hF dX11_rounds_104 (tgt := 53) (by decide) ?_
  exact hc _ (Option.some.inj h).symm
set_option maxHeartbeats 4000000 in
set_option maxRecDepth 100000 in
theorem wX11_rounds_l53 {p : Program} {l : Launch} {e : Env} {s : State} {m : MethodId} {args : Array Value} {below : List Frame} {meth : Method} {c : Code} {Q : State → Prop} {A : Nat → Prop} {D : DD} {base B : Nat} (hF : KF D base cX11_rounds RX11 A 2 0 0 p l e ({ frames := 2, cells := 0, slots := 0, locals := 43 } : Room) s m args below meth c) (hA : ∀ q, RA B shpR q → A q) (hbs : base ≤ B) {σ : St} {x : (St × Int32)} {z : ((St × Int32) ⊕ (St × Int32))} (h : fX11_rounds_l53 σ x = some z) (hc : ∀ x, z = .inl x → KJ (Rep D B shpR) A 2 0 0 Q p l e ({ frames := 2, cells := 0, slots := 0, locals := 43 } : Room) s m args below meth c 0 0 53 [some (.ref (B + 0)), some (.int x.2)] [] x.1) (he : ∀ w, z = .inr w → KJ (Rep D B shpR) A 2 0 0 Q p l e ({ frames := 2, cells := 0, slots := 0, locals := 43 } : Room) s m args below meth c 0 0 107 [some (.ref (B + 0)), some (.int w.2)] [] w.1) : KJ (Rep D B shpR) A 2 0 0 Q p l e ({ frames := 2, cells := 0, slots := 0, locals := 43 } : Room) s m args below meth c 0 0 53 [some (.ref (B + 0)), some (.int x.2)] [] x.1 := by
  unfold fX11_rounds_l53 at h
  refine k_iload_n hF dX11_rounds_53 rfl ?_
  refine k_aload_n hF dX11_rounds_54 rfl ?_
  refine k_get hF (v := .int (gi x.1 0 15)) shR_0 fl_X11_154_X11 dX11_rounds_55 rfl ?_
  refine k_icmp_ge hF (tgt := 107) dX11_rounds_58 (by decide) (fun c10 => ?_) (fun c10 => ?_)
  · replace h := ite_t c10 h
    exact he _ (Option.some.inj h).symm
  · replace h := ite_f c10 h
    refine k_aload_n hF dX11_rounds_61 rfl ?_
    refine k_iload_n hF dX11_rounds_62 rfl ?_
    obtain ⟨v11, hv11, h⟩ := bind_some h
    refine k_callV hF hA (as := [.int x.2]) (ct_X11_isEdge hbs hv11) mv_X11_195 shR_0 rfl rfl rfl ⟨Nat.le_of_ble_eq_true rfl, Nat.le_of_ble_eq_true rfl⟩ (Nat.le_of_ble_eq_true rfl) dX11_rounds_63 ?_
    refine k_st (st2 := [.int v11]) rfl ?_
    refine k_if_eq hF (tgt := 101) dX11_rounds_66 (by decide) (fun c12 => ?_) (fun c12 => ?_)
    · replace h := ite_t c12 h
      exact wX11_rounds_j101 hF hA hbs h hc he
    · replace h := ite_f c12 h
      refine k_aload_n hF dX11_rounds_69 rfl ?_
      refine k_aload_n hF dX11_rounds_70 rfl ?_
      refine k_get hF (v := .ref (B + 13)) shR_0 fl_X11_48_X11 dX11_rounds_71 rfl ?_
      refine k_iload_n hF dX11_rounds_74 rfl ?_
      obtain ⟨g13, h⟩ := gd_some h
      refine k_iald hF shR_13 dX11_rounds_75 g13 ?_
      refine k_aload_n hF dX11_rounds_76 rfl ?_
      refine k_get hF (v := .ref (B + 14)) shR_0 fl_X11_51_X11 dX11_rounds_77 rfl ?_
      refine k_iload_n hF dX11_rounds_80 rfl ?_
      obtain ⟨g14, h⟩ := gd_some h
      refine k_iald hF shR_14 dX11_rounds_81 g14 ?_
      obtain ⟨v15, hv15, h⟩ := bind_some h
      refine k_callV hF hA (as := [.int (gi x.1 13 x.2.toNatClampNeg), .int (gi x.1 14 x.2.toNatClampNeg)]) (ct_X11_gives hbs hv15) mv_X11_290 shR_0 rfl rfl rfl ⟨Nat.le_of_ble_eq_true rfl, Nat.le_of_ble_eq_true rfl⟩ (Nat.le_of_ble_eq_true rfl) dX11_rounds_82 ?_
      refine k_st (st2 := []) rfl ?_
      refine k_aload_n hF dX11_rounds_85 rfl ?_
      refine k_aload_n hF dX11_rounds_86 rfl ?_
      refine k_get hF (v := .ref (B + 14)) shR_0 fl_X11_51_X11 dX11_rounds_87 rfl ?_
      refine k_iload_n hF dX11_rounds_90 rfl ?_
      obtain ⟨g16, h⟩ := gd_some h
      refine k_iald hF shR_14 dX11_rounds_91 g16 ?_
      refine k_aload_n hF dX11_rounds_92 rfl ?_
      refine k_get hF (v := .ref (B + 13)) shR_0 fl_X11_48_X11 dX11_rounds_93 rfl ?_
      refine k_iload_n hF dX11_rounds_96 rfl ?_
      obtain ⟨g17, h⟩ := gd_some h
      refine k_iald hF shR_13 dX11_rounds_97 g17 ?_
      obtain ⟨v18, hv18, h⟩ := bind_some h
      refine k_callV hF hA (as := [.int (gi v15 14 x.2.toNatClampNeg), .int (gi v15 13 x.2.toNatClampNeg)]) (ct_X11_gives hbs hv18) mv_X11_290 shR_0 rfl rfl rfl ⟨Nat.le_of_ble_eq_true rfl, Nat.le_of_ble_eq_true rfl⟩ (Nat.le_of_ble_eq_true rfl) dX11_rounds_98 ?_
      refine k_st (st2 := []) rfl ?_
      exact wX11_rounds_j101 hF hA hbs h hc he
set_option maxHeartbeats 4000000 in
set_option maxRecDepth 100000 in
theorem wX11_rounds_l109 {p : Program} {l : Launch} {e : Env} {s : State} {m : MethodId} {args : Array Value} {below : List Frame} {meth : Method} {c : Code} {Q : State → Prop} {A : Nat → Prop} {D : DD} {base B : Nat} (hF : KF D base cX11_rounds RX11 A 2 0 0 p l e ({ frames := 2, cells := 0, slots := 0, locals := 43 } : Room) s m args below meth c) (hA : ∀ q, RA B shpR q → A q) (hbs : base ≤ B) {σ : St} {x : (St × Int32)} {z : ((St × Int32) ⊕ (St × Int32))} (h : fX11_rounds_l109 σ x = some z) (hc : ∀ x, z = .inl x → KJ (Rep D B shpR) A 2 0 0 Q p l e ({ frames := 2, cells := 0, slots := 0, locals := 43 } : Room) s m args below meth c 0 0 109 [some (.ref (B + 0)), some (.int x.2)] [] x.1) (he : ∀ w, z = .inr w → KJ (Rep D B shpR) A 2 0 0 Q p l e ({ frames := 2, cells := 0, slots := 0, locals := 43 } : Room) s m args below meth c 0 0 147 [some (.ref (B + 0)), some (.int w.2)] [] w.1) : KJ (Rep D B shpR) A 2 0 0 Q p l e ({ frames := 2, cells := 0, slots := 0, locals := 43 } : Room) s m args below meth c 0 0 109 [some (.ref (B + 0)), some (.int x.2)] [] x.1 := by
  unfold fX11_rounds_l109 at h
  refine k_iload_n hF dX11_rounds_109 rfl ?_
  refine k_aload_n hF dX11_rounds_110 rfl ?_
  refine k_get hF (v := .int (gi x.1 0 1)) shR_0 fl_X11_150_X11 dX11_rounds_111 rfl ?_
  refine k_icmp_ge hF (tgt := 147) dX11_rounds_114 (by decide) (fun c20 => ?_) (fun c20 => ?_)
  · replace h := ite_t c20 h
    exact he _ (Option.some.inj h).symm
  · replace h := ite_f c20 h
    refine k_aload_n hF dX11_rounds_117 rfl ?_
    refine k_get hF (v := .ref (B + 8)) shR_0 fl_X11_31_X11 dX11_rounds_118 rfl ?_
    refine k_iload_n hF dX11_rounds_121 rfl ?_
    refine k_aload_n hF dX11_rounds_122 rfl ?_
    refine k_get hF (v := .ref (B + 9)) shR_0 fl_X11_35_X11 dX11_rounds_123 rfl ?_
    refine k_iload_n hF dX11_rounds_126 rfl ?_
    obtain ⟨g21, h⟩ := gd_some h
    refine k_zald hF shR_9 dX11_rounds_127 g21 ?_
    obtain ⟨g22, h⟩ := gd_some h
    obtain ⟨g23, h⟩ := gd_some h
    refine k_zast hF hA shR_8 dX11_rounds_128 g22 (nar_z g23) ?_
    obtain ⟨σ24, hσ24, h⟩ := lt_some h
    refine k_sig hσ24 ?_
    refine k_aload_n hF dX11_rounds_129 rfl ?_
    refine k_get hF (v := .ref (B + 7)) shR_0 fl_X11_28_X11 dX11_rounds_130 rfl ?_
    refine k_iload_n hF dX11_rounds_133 rfl ?_
    refine k_aload_n hF dX11_rounds_134 rfl ?_
    refine k_get hF (v := .ref (B + 42)) shR_0 fl_X11_135_X11 dX11_rounds_135 rfl ?_
    refine k_iload_n hF dX11_rounds_138 rfl ?_
    obtain ⟨g25, h⟩ := gd_some h
    refine k_iald hF shR_42 dX11_rounds_139 g25 ?_
    obtain ⟨g26, h⟩ := gd_some h
    refine k_iast hF hA shR_7 dX11_rounds_140 g26 ?_
    obtain ⟨σ27, hσ27, h⟩ := lt_some h
    refine k_sig hσ27 ?_
    refine k_iinc hF (v := (x.2 + (1 : Int32))) (L' := [some (.ref (B + 0)), some (.int (x.2 + (1 : Int32)))]) dX11_rounds_141 rfl (by first | rfl | (congr 1)) (by decide) rfl ?_
    refine k_goto hF dX11_rounds_144 (tgt := 109) (by decide) ?_
    exact hc _ (Option.some.inj h).symm
set_option maxHeartbeats 4000000 in
set_option maxRecDepth 100000 in
theorem wX11_rounds {p : Program} {l : Launch} {e : Env} {s : State} {m : MethodId} {args : Array Value} {below : List Frame} {meth : Method} {c : Code} {Q : State → Prop} {A : Nat → Prop} {D : DD} {base B : Nat} (hF : KF D base cX11_rounds RX11 A 2 0 0 p l e ({ frames := 2, cells := 0, slots := 0, locals := 43 } : Room) s m args below meth c) (hA : ∀ q, RA B shpR q → A q) (hbs : base ≤ B) {σ : St} {z : St} (h : fX11_rounds σ = some z) (hr : ∀ (pc : Nat) (L : List (Option Value)), decode cX11_rounds pc = .ok (.return_, 1) → KJ (Rep D B shpR) A 2 0 0 Q p l e ({ frames := 2, cells := 0, slots := 0, locals := 43 } : Room) s m args below meth c 0 0 pc L [] z) : KJ (Rep D B shpR) A 2 0 0 Q p l e ({ frames := 2, cells := 0, slots := 0, locals := 43 } : Room) s m args below meth c 0 0 0 [some (.ref (B + 0)), none] [] σ := by
  unfold fX11_rounds at h
  refine k_iconst hF dX11_rounds_0 ci_0 ?_
  refine k_istore_n hF (L' := [some (.ref (B + 0)), some (.int (0 : Int32))]) dX11_rounds_1 (by decide) rfl ?_
  obtain ⟨x4, hx4, h⟩ := bind_some h
  refine k_loop (P := fun xq => KJ (Rep D B shpR) A 2 0 0 Q p l e ({ frames := 2, cells := 0, slots := 0, locals := 43 } : Room) s m args below meth c 0 0 2 [some (.ref (B + 0)), some (.int xq.2)] [] xq.1) (C := fun xq => KJ (Rep D B shpR) A 2 0 0 Q p l e ({ frames := 2, cells := 0, slots := 0, locals := 43 } : Room) s m args below meth c 0 0 23 [some (.ref (B + 0)), some (.int xq.2)] [] xq.1) (fun x z hz hc he => wX11_rounds_l2 hF hA hbs hz hc he) hx4 ?_
  show KJ (Rep D B shpR) A 2 0 0 Q p l e ({ frames := 2, cells := 0, slots := 0, locals := 43 } : Room) s m args below meth c 0 0 23 [some (.ref (B + 0)), some (.int x4.2)] [] x4.1
  refine k_iconst hF dX11_rounds_23 ci_0 ?_
  refine k_istore_n hF (L' := [some (.ref (B + 0)), some (.int (0 : Int32))]) dX11_rounds_24 (by decide) rfl ?_
  obtain ⟨x9, hx9, h⟩ := bind_some h
  refine k_loop (P := fun xq => KJ (Rep D B shpR) A 2 0 0 Q p l e ({ frames := 2, cells := 0, slots := 0, locals := 43 } : Room) s m args below meth c 0 0 25 [some (.ref (B + 0)), some (.int xq.2)] [] xq.1) (C := fun xq => KJ (Rep D B shpR) A 2 0 0 Q p l e ({ frames := 2, cells := 0, slots := 0, locals := 43 } : Room) s m args below meth c 0 0 51 [some (.ref (B + 0)), some (.int xq.2)] [] xq.1) (fun x z hz hc he => wX11_rounds_l25 hF hA hbs hz hc he) hx9 ?_
  show KJ (Rep D B shpR) A 2 0 0 Q p l e ({ frames := 2, cells := 0, slots := 0, locals := 43 } : Room) s m args below meth c 0 0 51 [some (.ref (B + 0)), some (.int x9.2)] [] x9.1
  refine k_iconst hF dX11_rounds_51 ci_0 ?_
  refine k_istore_n hF (L' := [some (.ref (B + 0)), some (.int (0 : Int32))]) dX11_rounds_52 (by decide) rfl ?_
  obtain ⟨x19, hx19, h⟩ := bind_some h
  refine k_loop (P := fun xq => KJ (Rep D B shpR) A 2 0 0 Q p l e ({ frames := 2, cells := 0, slots := 0, locals := 43 } : Room) s m args below meth c 0 0 53 [some (.ref (B + 0)), some (.int xq.2)] [] xq.1) (C := fun xq => KJ (Rep D B shpR) A 2 0 0 Q p l e ({ frames := 2, cells := 0, slots := 0, locals := 43 } : Room) s m args below meth c 0 0 107 [some (.ref (B + 0)), some (.int xq.2)] [] xq.1) (fun x z hz hc he => wX11_rounds_l53 hF hA hbs hz hc he) hx19 ?_
  show KJ (Rep D B shpR) A 2 0 0 Q p l e ({ frames := 2, cells := 0, slots := 0, locals := 43 } : Room) s m args below meth c 0 0 107 [some (.ref (B + 0)), some (.int x19.2)] [] x19.1
  refine k_iconst hF dX11_rounds_107 ci_0 ?_
  refine k_istore_n hF (L' := [some (.ref (B + 0)), some (.int (0 : Int32))]) dX11_rounds_108 (by decide) rfl ?_
  obtain ⟨x28, hx28, h⟩ := bind_some h
  refine k_loop (P := fun xq => KJ (Rep D B shpR) A 2 0 0 Q p l e ({ frames := 2, cells := 0, slots := 0, locals := 43 } : Room) s m args below meth c 0 0 109 [some (.ref (B + 0)), some (.int xq.2)] [] xq.1) (C := fun xq => KJ (Rep D B shpR) A 2 0 0 Q p l e ({ frames := 2, cells := 0, slots := 0, locals := 43 } : Room) s m args below meth c 0 0 147 [some (.ref (B + 0)), some (.int xq.2)] [] xq.1) (fun x z hz hc he => wX11_rounds_l109 hF hA hbs hz hc he) hx28 ?_
  show KJ (Rep D B shpR) A 2 0 0 Q p l e ({ frames := 2, cells := 0, slots := 0, locals := 43 } : Room) s m args below meth c 0 0 147 [some (.ref (B + 0)), some (.int x28.2)] [] x28.1
  cases h
  exact hr _ _ dX11_rounds_147
theorem ct_X11_rounds {l : Launch} {D : DD} {base B : Nat} (hbs : base ≤ B) {σ : St} {r : St} (h : fX11_rounds σ = some r) : MetR l D B shpR base yX11_rounds cX11_rounds 2 none 2 43 [.ref (B + 0)] σ none r :=
  MetR.of (by decide +kernel) (fun v hv => by simp only [List.mem_cons, List.not_mem_nil, or_false] at hv; rcases hv with rfl <;> rfl) (Nat.le_of_ble_eq_true rfl) hbs (fun p e s m args below meth c hF hr => wX11_rounds hF (fun q hq => hq) hbs h (fun pc L hd => k_vret hF hr hd))
set_option maxHeartbeats 4000000 in
set_option maxRecDepth 100000 in
theorem wX11_round_l26 {p : Program} {l : Launch} {e : Env} {s : State} {m : MethodId} {args : Array Value} {below : List Frame} {meth : Method} {c : Code} {Q : State → Prop} {A : Nat → Prop} {D : DD} {base B : Nat} (hF : KF D base cX11_round RX11 A 4 0 0 p l e ({ frames := 3, cells := 0, slots := 0, locals := 64 } : Room) s m args below meth c) (hA : ∀ q, RA B shpR q → A q) (hbs : base ≤ B) {σ : St} {a1 : Int32} {x : (St × Int32)} {z : ((St × Int32) ⊕ (St × Int32))} (h : fX11_round_l26 σ a1 x = some z) (hc : ∀ x, z = .inl x → KJ (Rep D B shpR) A 4 0 0 Q p l e ({ frames := 3, cells := 0, slots := 0, locals := 64 } : Room) s m args below meth c 0 0 26 [some (.ref (B + 0)), some (.int a1), some (.int x.2), none] [] x.1) (he : ∀ w, z = .inr w → KJ (Rep D B shpR) A 4 0 0 Q p l e ({ frames := 3, cells := 0, slots := 0, locals := 64 } : Room) s m args below meth c 0 0 41 [some (.ref (B + 0)), some (.int a1), some (.int w.2), none] [] w.1) : KJ (Rep D B shpR) A 4 0 0 Q p l e ({ frames := 3, cells := 0, slots := 0, locals := 64 } : Room) s m args below meth c 0 0 26 [some (.ref (B + 0)), some (.int a1), some (.int x.2), none] [] x.1 := by
  unfold fX11_round_l26 at h
  refine k_iload_n hF dX11_round_26 rfl ?_
  refine k_iload_n hF dX11_round_27 rfl ?_
  refine k_icmp_ge hF (tgt := 41) dX11_round_28 (by decide) (fun c5 => ?_) (fun c5 => ?_)
  · replace h := ite_t c5 h
    exact he _ (Option.some.inj h).symm
  · replace h := ite_f c5 h
    refine k_aload_n hF dX11_round_31 rfl ?_
    obtain ⟨v6, hv6, h⟩ := bind_some h
    refine k_callV hF hA (as := []) (ct_X11_rounds hbs hv6) mv_X11_293 shR_0 rfl rfl rfl ⟨Nat.le_of_ble_eq_true rfl, Nat.le_of_ble_eq_true rfl⟩ (Nat.le_of_ble_eq_true rfl) dX11_round_32 ?_
    refine k_st (st2 := []) rfl ?_
    refine k_iinc hF (v := (x.2 + (1 : Int32))) (L' := [some (.ref (B + 0)), some (.int a1), some (.int (x.2 + (1 : Int32))), none]) dX11_round_35 rfl (by first | rfl | (congr 1)) (by decide) rfl ?_
    refine k_goto hF dX11_round_38 (tgt := 26) (by decide) ?_
    exact hc _ (Option.some.inj h).symm
set_option maxHeartbeats 4000000 in
set_option maxRecDepth 100000 in
theorem wX11_round_j68 {p : Program} {l : Launch} {e : Env} {s : State} {m : MethodId} {args : Array Value} {below : List Frame} {meth : Method} {c : Code} {Q : State → Prop} {A : Nat → Prop} {D : DD} {base B : Nat} (hF : KF D base cX11_round RX11 A 4 0 0 p l e ({ frames := 3, cells := 0, slots := 0, locals := 64 } : Room) s m args below meth c) (hA : ∀ q, RA B shpR q → A q) (hbs : base ≤ B) {σ : St} {a1 : Int32} {b3 : Int32} {t0 : Int32} {t1 : Int32} {z : ((Int32 × Int32) ⊕ (Int32 × Int32))} (h : fX11_round_j68 σ a1 b3 t0 t1 = some z) (hc : ∀ x, z = .inl x → KJ (Rep D B shpR) A 4 0 0 Q p l e ({ frames := 3, cells := 0, slots := 0, locals := 64 } : Room) s m args below meth c 0 0 45 [some (.ref (B + 0)), some (.int a1), some (.int x.1), some (.int x.2)] [] σ) (he : ∀ w, z = .inr w → KJ (Rep D B shpR) A 4 0 0 Q p l e ({ frames := 3, cells := 0, slots := 0, locals := 64 } : Room) s m args below meth c 0 0 76 [some (.ref (B + 0)), some (.int a1), some (.int w.1), some (.int w.2)] [] σ) : KJ (Rep D B shpR) A 4 0 0 Q p l e ({ frames := 3, cells := 0, slots := 0, locals := 64 } : Room) s m args below meth c 0 0 68 [some (.ref (B + 0)), some (.int a1), none, some (.int b3)] [.int t0, .int t1] σ := by
  unfold fX11_round_j68 at h
  refine k_iadd hF dX11_round_68 ?_
  refine k_istore_n hF (L' := [some (.ref (B + 0)), some (.int a1), some (.int (t1 + t0)), some (.int b3)]) dX11_round_69 (by decide) rfl ?_
  refine k_iinc hF (v := (b3 + (1 : Int32))) (L' := [some (.ref (B + 0)), some (.int a1), some (.int (t1 + t0)), some (.int (b3 + (1 : Int32)))]) dX11_round_70 rfl (by first | rfl | (congr 1)) (by decide) rfl ?_
  refine k_goto hF dX11_round_73 (tgt := 45) (by decide) ?_
  exact hc _ (Option.some.inj h).symm
set_option maxHeartbeats 4000000 in
set_option maxRecDepth 100000 in
theorem wX11_round_l45 {p : Program} {l : Launch} {e : Env} {s : State} {m : MethodId} {args : Array Value} {below : List Frame} {meth : Method} {c : Code} {Q : State → Prop} {A : Nat → Prop} {D : DD} {base B : Nat} (hF : KF D base cX11_round RX11 A 4 0 0 p l e ({ frames := 3, cells := 0, slots := 0, locals := 64 } : Room) s m args below meth c) (hA : ∀ q, RA B shpR q → A q) (hbs : base ≤ B) {σ : St} {a1 : Int32} {x : (Int32 × Int32)} {z : ((Int32 × Int32) ⊕ (Int32 × Int32))} (h : fX11_round_l45 σ a1 x = some z) (hc : ∀ x, z = .inl x → KJ (Rep D B shpR) A 4 0 0 Q p l e ({ frames := 3, cells := 0, slots := 0, locals := 64 } : Room) s m args below meth c 0 0 45 [some (.ref (B + 0)), some (.int a1), some (.int x.1), some (.int x.2)] [] σ) (he : ∀ w, z = .inr w → KJ (Rep D B shpR) A 4 0 0 Q p l e ({ frames := 3, cells := 0, slots := 0, locals := 64 } : Room) s m args below meth c 0 0 76 [some (.ref (B + 0)), some (.int a1), some (.int w.1), some (.int w.2)] [] σ) : KJ (Rep D B shpR) A 4 0 0 Q p l e ({ frames := 3, cells := 0, slots := 0, locals := 64 } : Room) s m args below meth c 0 0 45 [some (.ref (B + 0)), some (.int a1), some (.int x.1), some (.int x.2)] [] σ := by
  unfold fX11_round_l45 at h
  refine k_iload_n hF dX11_round_45 rfl ?_
  refine k_aload_n hF dX11_round_46 rfl ?_
  refine k_get hF (v := .int (gi σ 0 1)) shR_0 fl_X11_150_X11 dX11_round_47 rfl ?_
  refine k_icmp_ge hF (tgt := 76) dX11_round_50 (by decide) (fun c8 => ?_) (fun c8 => ?_)
  · replace h := ite_t c8 h
    exact he _ (Option.some.inj h).symm
  · replace h := ite_f c8 h
    refine k_iload_n hF dX11_round_53 rfl ?_
    refine k_aload_n hF dX11_round_54 rfl ?_
    refine k_get hF (v := .ref (B + 8)) shR_0 fl_X11_31_X11 dX11_round_55 rfl ?_
    refine k_iload_n hF dX11_round_58 rfl ?_
    obtain ⟨g9, h⟩ := gd_some h
    refine k_zald hF shR_8 dX11_round_59 g9 ?_
    refine k_if_eq hF (tgt := 67) dX11_round_60 (by decide) (fun c10 => ?_) (fun c10 => ?_)
    · replace h := ite_t c10 h
      refine k_iconst hF dX11_round_67 ci_0 ?_
      refine k_kill 2 rfl ?_
      exact wX11_round_j68 hF hA hbs h hc he
    · replace h := ite_f c10 h
      refine k_iconst hF dX11_round_63 ci_1 ?_
      refine k_goto hF dX11_round_64 (tgt := 68) (by decide) ?_
      refine k_kill 2 rfl ?_
      exact wX11_round_j68 hF hA hbs h hc he
set_option maxHeartbeats 4000000 in
set_option maxRecDepth 100000 in
theorem wX11_round_j16 {p : Program} {l : Launch} {e : Env} {s : State} {m : MethodId} {args : Array Value} {below : List Frame} {meth : Method} {c : Code} {Q : State → Prop} {A : Nat → Prop} {D : DD} {base B : Nat} (hF : KF D base cX11_round RX11 A 4 0 0 p l e ({ frames := 3, cells := 0, slots := 0, locals := 64 } : Room) s m args below meth c) (hA : ∀ q, RA B shpR q → A q) (hbs : base ≤ B) {σ : St} {a1 : Int32} {t0 : Int32} {z : (Int32 × St)} (h : fX11_round_j16 σ a1 t0 = some z) (hr : ∀ (pc : Nat) (L : List (Option Value)), narrow .int (.int z.1) = .int z.1 → decode cX11_round pc = .ok (.ireturn, 1) → KJ (Rep D B shpR) A 4 0 0 Q p l e ({ frames := 3, cells := 0, slots := 0, locals := 64 } : Room) s m args below meth c 0 0 pc L [.int z.1] z.2) : KJ (Rep D B shpR) A 4 0 0 Q p l e ({ frames := 3, cells := 0, slots := 0, locals := 64 } : Room) s m args below meth c 0 0 16 [some (.ref (B + 0)), some (.int a1), none, none] [.int t0, .ref (B + 0)] σ := by
  unfold fX11_round_j16 at h
  obtain ⟨v3, hv3, h⟩ := bind_some h
  refine k_callV hF hA (as := [.int t0]) (ct_X11_fails hbs hv3) mv_X11_181 shR_0 rfl rfl rfl ⟨Nat.le_of_ble_eq_true rfl, Nat.le_of_ble_eq_true rfl⟩ (Nat.le_of_ble_eq_true rfl) dX11_round_16 ?_
  refine k_st (st2 := [.int v3.1]) rfl ?_
  refine k_if_eq hF (tgt := 24) dX11_round_19 (by decide) (fun c4 => ?_) (fun c4 => ?_)
  · replace h := ite_t c4 h
    refine k_iconst hF dX11_round_24 ci_0 ?_
    refine k_istore_n hF (L' := [some (.ref (B + 0)), some (.int a1), some (.int (0 : Int32)), none]) dX11_round_25 (by decide) rfl ?_
    obtain ⟨x7, hx7, h⟩ := bind_some h
    refine k_loop (P := fun xq => KJ (Rep D B shpR) A 4 0 0 Q p l e ({ frames := 3, cells := 0, slots := 0, locals := 64 } : Room) s m args below meth c 0 0 26 [some (.ref (B + 0)), some (.int a1), some (.int xq.2), none] [] xq.1) (C := fun xq => KJ (Rep D B shpR) A 4 0 0 Q p l e ({ frames := 3, cells := 0, slots := 0, locals := 64 } : Room) s m args below meth c 0 0 41 [some (.ref (B + 0)), some (.int a1), some (.int xq.2), none] [] xq.1) (fun x z hz hc he => wX11_round_l26 hF hA hbs hz hc he) hx7 ?_
    show KJ (Rep D B shpR) A 4 0 0 Q p l e ({ frames := 3, cells := 0, slots := 0, locals := 64 } : Room) s m args below meth c 0 0 41 [some (.ref (B + 0)), some (.int a1), some (.int x7.2), none] [] x7.1
    refine k_iconst hF dX11_round_41 ci_0 ?_
    refine k_istore_n hF (L' := [some (.ref (B + 0)), some (.int a1), some (.int (0 : Int32)), none]) dX11_round_42 (by decide) rfl ?_
    refine k_iconst hF dX11_round_43 ci_0 ?_
    refine k_istore_n hF (L' := [some (.ref (B + 0)), some (.int a1), some (.int (0 : Int32)), some (.int (0 : Int32))]) dX11_round_44 (by decide) rfl ?_
    obtain ⟨x11, hx11, h⟩ := bind_some h
    refine k_loop (P := fun xq => KJ (Rep D B shpR) A 4 0 0 Q p l e ({ frames := 3, cells := 0, slots := 0, locals := 64 } : Room) s m args below meth c 0 0 45 [some (.ref (B + 0)), some (.int a1), some (.int xq.1), some (.int xq.2)] [] x7.1) (C := fun xq => KJ (Rep D B shpR) A 4 0 0 Q p l e ({ frames := 3, cells := 0, slots := 0, locals := 64 } : Room) s m args below meth c 0 0 76 [some (.ref (B + 0)), some (.int a1), some (.int xq.1), some (.int xq.2)] [] x7.1) (fun x z hz hc he => wX11_round_l45 hF hA hbs hz hc he) hx11 ?_
    show KJ (Rep D B shpR) A 4 0 0 Q p l e ({ frames := 3, cells := 0, slots := 0, locals := 64 } : Room) s m args below meth c 0 0 76 [some (.ref (B + 0)), some (.int a1), some (.int x11.1), some (.int x11.2)] [] x7.1
    refine k_iload_n hF dX11_round_76 rfl ?_
    cases h
    exact hr _ _ rfl dX11_round_77
  · replace h := ite_f c4 h
    refine k_iconst hF dX11_round_22 ci_0 ?_
    cases h
    exact hr _ _ rfl dX11_round_23
set_option maxHeartbeats 4000000 in
set_option maxRecDepth 100000 in
theorem wX11_round {p : Program} {l : Launch} {e : Env} {s : State} {m : MethodId} {args : Array Value} {below : List Frame} {meth : Method} {c : Code} {Q : State → Prop} {A : Nat → Prop} {D : DD} {base B : Nat} (hF : KF D base cX11_round RX11 A 4 0 0 p l e ({ frames := 3, cells := 0, slots := 0, locals := 64 } : Room) s m args below meth c) (hA : ∀ q, RA B shpR q → A q) (hbs : base ≤ B) {σ : St} {a1 : Int32} {z : (Int32 × St)} (h : fX11_round σ a1 = some z) (hr : ∀ (pc : Nat) (L : List (Option Value)), narrow .int (.int z.1) = .int z.1 → decode cX11_round pc = .ok (.ireturn, 1) → KJ (Rep D B shpR) A 4 0 0 Q p l e ({ frames := 3, cells := 0, slots := 0, locals := 64 } : Room) s m args below meth c 0 0 pc L [.int z.1] z.2) : KJ (Rep D B shpR) A 4 0 0 Q p l e ({ frames := 3, cells := 0, slots := 0, locals := 64 } : Room) s m args below meth c 0 0 0 [some (.ref (B + 0)), some (.int a1), none, none] [] σ := by
  unfold fX11_round at h
  refine k_aload_n hF dX11_round_0 rfl ?_
  refine k_iload_n hF dX11_round_1 rfl ?_
  refine k_iconst hF dX11_round_2 ci_1 ?_
  refine k_bipush hF (v := (30 : Int32)) dX11_round_3 (by decide) ?_
  obtain ⟨v1, hv1, h⟩ := bind_some h
  refine k_callS hF hA (as := [.int a1, .int (1 : Int32), .int (30 : Int32)]) (ct_X11_isIn hbs hv1) ms_X11_146 rfl rfl ⟨Nat.le_of_ble_eq_true rfl, Nat.le_of_ble_eq_true rfl⟩ (Nat.le_of_ble_eq_true rfl) dX11_round_5 ?_
  refine k_st (st2 := [.int v1, .ref (B + 0)]) rfl ?_
  refine k_if_eq hF (tgt := 15) dX11_round_8 (by decide) (fun c2 => ?_) (fun c2 => ?_)
  · replace h := ite_t c2 h
    refine k_iconst hF dX11_round_15 ci_1 ?_
    exact wX11_round_j16 hF hA hbs h hr
  · replace h := ite_f c2 h
    refine k_iconst hF dX11_round_11 ci_0 ?_
    refine k_goto hF dX11_round_12 (tgt := 16) (by decide) ?_
    exact wX11_round_j16 hF hA hbs h hr
theorem ct_X11_round {l : Launch} {D : DD} {base B : Nat} (hbs : base ≤ B) {σ : St} {a1 : Int32} {r : (Int32 × St)} (h : fX11_round σ a1 = some r) : MetR l D B shpR base yX11_round cX11_round 4 (some .int) 3 64 [.ref (B + 0), .int a1] σ (some (.int r.1)) r.2 :=
  MetR.of (by decide +kernel) (fun v hv => by simp only [List.mem_cons, List.not_mem_nil, or_false] at hv; rcases hv with rfl | rfl <;> rfl) (Nat.le_of_ble_eq_true rfl) hbs (fun p e s m args below meth c hF hr => wX11_round hF (fun q hq => hq) hbs h (fun pc L hn hd => k_iret hF hr hn hd))
set_option maxHeartbeats 4000000 in
set_option maxRecDepth 100000 in
theorem wX11_mark_j14 {p : Program} {l : Launch} {e : Env} {s : State} {m : MethodId} {args : Array Value} {below : List Frame} {meth : Method} {c : Code} {Q : State → Prop} {A : Nat → Prop} {D : DD} {base B : Nat} (hF : KF D base cX11_mark RX11 A 2 0 0 p l e ({ frames := 2, cells := 0, slots := 0, locals := 43 } : Room) s m args below meth c) (hA : ∀ q, RA B shpR q → A q) (hbs : base ≤ B) {σ : St} {a1 : Int32} {t0 : Int32} {z : (Int32 × St)} (h : fX11_mark_j14 σ a1 t0 = some z) (hr : ∀ (pc : Nat) (L : List (Option Value)), narrow .int (.int z.1) = .int z.1 → decode cX11_mark pc = .ok (.ireturn, 1) → KJ (Rep D B shpR) A 2 0 0 Q p l e ({ frames := 2, cells := 0, slots := 0, locals := 43 } : Room) s m args below meth c 0 0 pc L [.int z.1] z.2) : KJ (Rep D B shpR) A 2 0 0 Q p l e ({ frames := 2, cells := 0, slots := 0, locals := 43 } : Room) s m args below meth c 0 0 14 [some (.ref (B + 0)), some (.int a1)] [.int t0, .ref (B + 0)] σ := by
  unfold fX11_mark_j14 at h
  obtain ⟨v3, hv3, h⟩ := bind_some h
  refine k_callV hF hA (as := [.int t0]) (ct_X11_fails hbs hv3) mv_X11_181 shR_0 rfl rfl rfl ⟨Nat.le_of_ble_eq_true rfl, Nat.le_of_ble_eq_true rfl⟩ (Nat.le_of_ble_eq_true rfl) dX11_mark_14 ?_
  refine k_st (st2 := [.int v3.1]) rfl ?_
  refine k_if_eq hF (tgt := 24) dX11_mark_17 (by decide) (fun c4 => ?_) (fun c4 => ?_)
  · replace h := ite_t c4 h
    refine k_aload_n hF dX11_mark_24 rfl ?_
    refine k_get hF (v := .ref (B + 7)) shR_0 fl_X11_28_X11 dX11_mark_25 rfl ?_
    refine k_iload_n hF dX11_mark_28 rfl ?_
    obtain ⟨g5, h⟩ := gd_some h
    refine k_iald hF shR_7 dX11_mark_29 g5 ?_
    cases h
    exact hr _ _ rfl dX11_mark_30
  · replace h := ite_f c4 h
    refine k_iconst hF dX11_mark_20 ci_0 ?_
    refine k_goto hF dX11_mark_21 (tgt := 30) (by decide) ?_
    cases h
    exact hr _ _ rfl dX11_mark_30
set_option maxHeartbeats 4000000 in
set_option maxRecDepth 100000 in
theorem wX11_mark {p : Program} {l : Launch} {e : Env} {s : State} {m : MethodId} {args : Array Value} {below : List Frame} {meth : Method} {c : Code} {Q : State → Prop} {A : Nat → Prop} {D : DD} {base B : Nat} (hF : KF D base cX11_mark RX11 A 2 0 0 p l e ({ frames := 2, cells := 0, slots := 0, locals := 43 } : Room) s m args below meth c) (hA : ∀ q, RA B shpR q → A q) (hbs : base ≤ B) {σ : St} {a1 : Int32} {z : (Int32 × St)} (h : fX11_mark σ a1 = some z) (hr : ∀ (pc : Nat) (L : List (Option Value)), narrow .int (.int z.1) = .int z.1 → decode cX11_mark pc = .ok (.ireturn, 1) → KJ (Rep D B shpR) A 2 0 0 Q p l e ({ frames := 2, cells := 0, slots := 0, locals := 43 } : Room) s m args below meth c 0 0 pc L [.int z.1] z.2) : KJ (Rep D B shpR) A 2 0 0 Q p l e ({ frames := 2, cells := 0, slots := 0, locals := 43 } : Room) s m args below meth c 0 0 0 [some (.ref (B + 0)), some (.int a1)] [] σ := by
  unfold fX11_mark at h
  refine k_aload_n hF dX11_mark_0 rfl ?_
  refine k_aload_n hF dX11_mark_1 rfl ?_
  refine k_iload_n hF dX11_mark_2 rfl ?_
  obtain ⟨v1, hv1, h⟩ := bind_some h
  refine k_callV hF hA (as := [.int a1]) (ct_X11_isNode hbs hv1) mv_X11_163 shR_0 rfl rfl rfl ⟨Nat.le_of_ble_eq_true rfl, Nat.le_of_ble_eq_true rfl⟩ (Nat.le_of_ble_eq_true rfl) dX11_mark_3 ?_
  refine k_st (st2 := [.int v1, .ref (B + 0)]) rfl ?_
  refine k_if_eq hF (tgt := 13) dX11_mark_6 (by decide) (fun c2 => ?_) (fun c2 => ?_)
  · replace h := ite_t c2 h
    refine k_iconst hF dX11_mark_13 ci_1 ?_
    exact wX11_mark_j14 hF hA hbs h hr
  · replace h := ite_f c2 h
    refine k_iconst hF dX11_mark_9 ci_0 ?_
    refine k_goto hF dX11_mark_10 (tgt := 14) (by decide) ?_
    exact wX11_mark_j14 hF hA hbs h hr
theorem ct_X11_mark {l : Launch} {D : DD} {base B : Nat} (hbs : base ≤ B) {σ : St} {a1 : Int32} {r : (Int32 × St)} (h : fX11_mark σ a1 = some r) : MetR l D B shpR base yX11_mark cX11_mark 2 (some .int) 2 43 [.ref (B + 0), .int a1] σ (some (.int r.1)) r.2 :=
  MetR.of (by decide +kernel) (fun v hv => by simp only [List.mem_cons, List.not_mem_nil, or_false] at hv; rcases hv with rfl | rfl <;> rfl) (Nat.le_of_ble_eq_true rfl) hbs (fun p e s m args below meth c hF hr => wX11_mark hF (fun q hq => hq) hbs h (fun pc L hn hd => k_iret hF hr hn hd))
set_option maxHeartbeats 4000000 in
set_option maxRecDepth 100000 in
theorem wX11_least_j119 {p : Program} {l : Launch} {e : Env} {s : State} {m : MethodId} {args : Array Value} {below : List Frame} {meth : Method} {c : Code} {Q : State → Prop} {A : Nat → Prop} {D : DD} {base B : Nat} (hF : KF D base cX11_least RX11 A 6 0 0 p l e ({ frames := 2, cells := 0, slots := 0, locals := 43 } : Room) s m args below meth c) (hA : ∀ q, RA B shpR q → A q) (hbs : base ≤ B) {σ : St} {a1 : Int32} {ea3b : Int32} {b4 : Int32} {t0 : Int32} {t1 : Int32} {z : ((Int32 × Int32) ⊕ (Int32 × Int32))} (h : fX11_least_j119 σ a1 ea3b b4 t0 t1 = some z) (hc : ∀ x, z = .inl x → KJ (Rep D B shpR) A 6 0 0 Q p l e ({ frames := 2, cells := 0, slots := 0, locals := 43 } : Room) s m args below meth c 0 0 37 [some (.ref (B + 0)), some (.int a1), some (.int x.1), some (.int ea3b), some (.int x.2), none] [] σ) (he : ∀ w, z = .inr w → KJ (Rep D B shpR) A 6 0 0 Q p l e ({ frames := 2, cells := 0, slots := 0, locals := 43 } : Room) s m args below meth c 0 0 127 [some (.ref (B + 0)), some (.int a1), some (.int w.1), some (.int ea3b), some (.int w.2), none] [] σ) : KJ (Rep D B shpR) A 6 0 0 Q p l e ({ frames := 2, cells := 0, slots := 0, locals := 43 } : Room) s m args below meth c 0 0 119 [some (.ref (B + 0)), some (.int a1), none, some (.int ea3b), some (.int b4), none] [.int t0, .int t1] σ := by
  unfold fX11_least_j119 at h
  refine k_ior hF dX11_least_119 ?_
  refine k_istore_n hF (L' := [some (.ref (B + 0)), some (.int a1), some (.int (t1 ||| t0)), some (.int ea3b), some (.int b4), none]) dX11_least_120 (by decide) rfl ?_
  refine k_iinc hF (v := (b4 + (1 : Int32))) (L' := [some (.ref (B + 0)), some (.int a1), some (.int (t1 ||| t0)), some (.int ea3b), some (.int (b4 + (1 : Int32))), none]) dX11_least_121 rfl (by first | rfl | (congr 1)) (by decide) rfl ?_
  refine k_goto hF dX11_least_124 (tgt := 37) (by decide) ?_
  exact hc _ (Option.some.inj h).symm
set_option maxHeartbeats 4000000 in
set_option maxRecDepth 100000 in
theorem wX11_least_j88 {p : Program} {l : Launch} {e : Env} {s : State} {m : MethodId} {args : Array Value} {below : List Frame} {meth : Method} {c : Code} {Q : State → Prop} {A : Nat → Prop} {D : DD} {base B : Nat} (hF : KF D base cX11_least RX11 A 6 0 0 p l e ({ frames := 2, cells := 0, slots := 0, locals := 43 } : Room) s m args below meth c) (hA : ∀ q, RA B shpR q → A q) (hbs : base ≤ B) {σ : St} {a1 : Int32} {ea3b : Int32} {b2 : Int32} {b4 : Int32} {t0 : Int32} {z : ((Int32 × Int32) ⊕ (Int32 × Int32))} (h : fX11_least_j88 σ a1 ea3b b2 b4 t0 = some z) (hc : ∀ x, z = .inl x → KJ (Rep D B shpR) A 6 0 0 Q p l e ({ frames := 2, cells := 0, slots := 0, locals := 43 } : Room) s m args below meth c 0 0 37 [some (.ref (B + 0)), some (.int a1), some (.int x.1), some (.int ea3b), some (.int x.2), none] [] σ) (he : ∀ w, z = .inr w → KJ (Rep D B shpR) A 6 0 0 Q p l e ({ frames := 2, cells := 0, slots := 0, locals := 43 } : Room) s m args below meth c 0 0 127 [some (.ref (B + 0)), some (.int a1), some (.int w.1), some (.int ea3b), some (.int w.2), none] [] σ) : KJ (Rep D B shpR) A 6 0 0 Q p l e ({ frames := 2, cells := 0, slots := 0, locals := 43 } : Room) s m args below meth c 0 0 88 [some (.ref (B + 0)), some (.int a1), some (.int b2), some (.int ea3b), some (.int b4), none] [.int t0] σ := by
  unfold fX11_least_j88 at h
  refine k_istore hF (L' := [some (.ref (B + 0)), some (.int a1), some (.int b2), some (.int ea3b), some (.int b4), some (.int t0)]) dX11_least_88 (by decide) rfl ?_
  refine k_iload_n hF dX11_least_90 rfl ?_
  refine k_iload hF dX11_least_91 rfl ?_
  refine k_if_eq hF (tgt := 118) dX11_least_93 (by decide) (fun c10 => ?_) (fun c10 => ?_)
  · replace h := ite_t c10 h
    refine k_iconst hF dX11_least_118 ci_0 ?_
    refine k_kill 2 rfl ?_
    refine k_kill 5 rfl ?_
    exact wX11_least_j119 hF hA hbs h hc he
  · replace h := ite_f c10 h
    refine k_iconst hF dX11_least_96 ci_1 ?_
    refine k_aload_n hF dX11_least_97 rfl ?_
    refine k_get hF (v := .ref (B + 13)) shR_0 fl_X11_48_X11 dX11_least_98 rfl ?_
    refine k_iload hF dX11_least_101 rfl ?_
    obtain ⟨g11, h⟩ := gd_some h
    refine k_iald hF shR_13 dX11_least_103 g11 ?_
    refine k_ishl hF dX11_least_104 ?_
    refine k_iconst hF dX11_least_105 ci_1 ?_
    refine k_aload_n hF dX11_least_106 rfl ?_
    refine k_get hF (v := .ref (B + 14)) shR_0 fl_X11_51_X11 dX11_least_107 rfl ?_
    refine k_iload hF dX11_least_110 rfl ?_
    obtain ⟨g12, h⟩ := gd_some h
    refine k_iald hF shR_14 dX11_least_112 g12 ?_
    refine k_ishl hF dX11_least_113 ?_
    refine k_ior hF dX11_least_114 ?_
    refine k_goto hF dX11_least_115 (tgt := 119) (by decide) ?_
    refine k_kill 2 rfl ?_
    refine k_kill 5 rfl ?_
    exact wX11_least_j119 hF hA hbs h hc he
set_option maxHeartbeats 4000000 in
set_option maxRecDepth 100000 in
theorem wX11_least_j87 {p : Program} {l : Launch} {e : Env} {s : State} {m : MethodId} {args : Array Value} {below : List Frame} {meth : Method} {c : Code} {Q : State → Prop} {A : Nat → Prop} {D : DD} {base B : Nat} (hF : KF D base cX11_least RX11 A 6 0 0 p l e ({ frames := 2, cells := 0, slots := 0, locals := 43 } : Room) s m args below meth c) (hA : ∀ q, RA B shpR q → A q) (hbs : base ≤ B) {σ : St} {a1 : Int32} {ea3b : Int32} {b2 : Int32} {b4 : Int32} {z : ((Int32 × Int32) ⊕ (Int32 × Int32))} (h : fX11_least_j87 σ a1 ea3b b2 b4 = some z) (hc : ∀ x, z = .inl x → KJ (Rep D B shpR) A 6 0 0 Q p l e ({ frames := 2, cells := 0, slots := 0, locals := 43 } : Room) s m args below meth c 0 0 37 [some (.ref (B + 0)), some (.int a1), some (.int x.1), some (.int ea3b), some (.int x.2), none] [] σ) (he : ∀ w, z = .inr w → KJ (Rep D B shpR) A 6 0 0 Q p l e ({ frames := 2, cells := 0, slots := 0, locals := 43 } : Room) s m args below meth c 0 0 127 [some (.ref (B + 0)), some (.int a1), some (.int w.1), some (.int ea3b), some (.int w.2), none] [] σ) : KJ (Rep D B shpR) A 6 0 0 Q p l e ({ frames := 2, cells := 0, slots := 0, locals := 43 } : Room) s m args below meth c 0 0 87 [some (.ref (B + 0)), some (.int a1), some (.int b2), some (.int ea3b), some (.int b4), none] [] σ := by
  unfold fX11_least_j87 at h
  refine k_iconst hF dX11_least_87 ci_0 ?_
  exact wX11_least_j88 hF hA hbs h hc he
set_option maxHeartbeats 4000000 in
set_option maxRecDepth 100000 in
theorem wX11_least_j83 {p : Program} {l : Launch} {e : Env} {s : State} {m : MethodId} {args : Array Value} {below : List Frame} {meth : Method} {c : Code} {Q : State → Prop} {A : Nat → Prop} {D : DD} {base B : Nat} (hF : KF D base cX11_least RX11 A 6 0 0 p l e ({ frames := 2, cells := 0, slots := 0, locals := 43 } : Room) s m args below meth c) (hA : ∀ q, RA B shpR q → A q) (hbs : base ≤ B) {σ : St} {a1 : Int32} {ea3b : Int32} {b2 : Int32} {b4 : Int32} {z : ((Int32 × Int32) ⊕ (Int32 × Int32))} (h : fX11_least_j83 σ a1 ea3b b2 b4 = some z) (hc : ∀ x, z = .inl x → KJ (Rep D B shpR) A 6 0 0 Q p l e ({ frames := 2, cells := 0, slots := 0, locals := 43 } : Room) s m args below meth c 0 0 37 [some (.ref (B + 0)), some (.int a1), some (.int x.1), some (.int ea3b), some (.int x.2), none] [] σ) (he : ∀ w, z = .inr w → KJ (Rep D B shpR) A 6 0 0 Q p l e ({ frames := 2, cells := 0, slots := 0, locals := 43 } : Room) s m args below meth c 0 0 127 [some (.ref (B + 0)), some (.int a1), some (.int w.1), some (.int ea3b), some (.int w.2), none] [] σ) : KJ (Rep D B shpR) A 6 0 0 Q p l e ({ frames := 2, cells := 0, slots := 0, locals := 43 } : Room) s m args below meth c 0 0 83 [some (.ref (B + 0)), some (.int a1), some (.int b2), some (.int ea3b), some (.int b4), none] [] σ := by
  unfold fX11_least_j83 at h
  refine k_iconst hF dX11_least_83 ci_1 ?_
  refine k_goto hF dX11_least_84 (tgt := 88) (by decide) ?_
  exact wX11_least_j88 hF hA hbs h hc he
set_option maxHeartbeats 4000000 in
set_option maxRecDepth 100000 in
theorem wX11_least_l37 {p : Program} {l : Launch} {e : Env} {s : State} {m : MethodId} {args : Array Value} {below : List Frame} {meth : Method} {c : Code} {Q : State → Prop} {A : Nat → Prop} {D : DD} {base B : Nat} (hF : KF D base cX11_least RX11 A 6 0 0 p l e ({ frames := 2, cells := 0, slots := 0, locals := 43 } : Room) s m args below meth c) (hA : ∀ q, RA B shpR q → A q) (hbs : base ≤ B) {σ : St} {a1 : Int32} {ea3b : Int32} {x : (Int32 × Int32)} {z : ((Int32 × Int32) ⊕ (Int32 × Int32))} (h : fX11_least_l37 σ a1 ea3b x = some z) (hc : ∀ x, z = .inl x → KJ (Rep D B shpR) A 6 0 0 Q p l e ({ frames := 2, cells := 0, slots := 0, locals := 43 } : Room) s m args below meth c 0 0 37 [some (.ref (B + 0)), some (.int a1), some (.int x.1), some (.int ea3b), some (.int x.2), none] [] σ) (he : ∀ w, z = .inr w → KJ (Rep D B shpR) A 6 0 0 Q p l e ({ frames := 2, cells := 0, slots := 0, locals := 43 } : Room) s m args below meth c 0 0 127 [some (.ref (B + 0)), some (.int a1), some (.int w.1), some (.int ea3b), some (.int w.2), none] [] σ) : KJ (Rep D B shpR) A 6 0 0 Q p l e ({ frames := 2, cells := 0, slots := 0, locals := 43 } : Room) s m args below meth c 0 0 37 [some (.ref (B + 0)), some (.int a1), some (.int x.1), some (.int ea3b), some (.int x.2), none] [] σ := by
  unfold fX11_least_l37 at h
  refine k_iload hF dX11_least_37 rfl ?_
  refine k_aload_n hF dX11_least_39 rfl ?_
  refine k_get hF (v := .int (gi σ 0 15)) shR_0 fl_X11_154_X11 dX11_least_40 rfl ?_
  refine k_icmp_ge hF (tgt := 127) dX11_least_43 (by decide) (fun c7 => ?_) (fun c7 => ?_)
  · replace h := ite_t c7 h
    exact he _ (Option.some.inj h).symm
  · replace h := ite_f c7 h
    refine k_aload_n hF dX11_least_46 rfl ?_
    refine k_iload hF dX11_least_47 rfl ?_
    obtain ⟨v8, hv8, h⟩ := bind_some h
    refine k_callV hF hA (as := [.int x.2]) (ct_X11_isEdge hbs hv8) mv_X11_195 shR_0 rfl rfl rfl ⟨Nat.le_of_ble_eq_true rfl, Nat.le_of_ble_eq_true rfl⟩ (Nat.le_of_ble_eq_true rfl) dX11_least_49 ?_
    refine k_st (st2 := [.int v8]) rfl ?_
    refine k_if_eq hF (tgt := 87) dX11_least_52 (by decide) (fun c9 => ?_) (fun c9 => ?_)
    · replace h := ite_t c9 h
      exact wX11_least_j87 hF hA hbs h hc he
    · replace h := ite_f c9 h
      refine k_iload_n hF dX11_least_55 rfl ?_
      refine k_aload_n hF dX11_least_56 rfl ?_
      refine k_get hF (v := .ref (B + 13)) shR_0 fl_X11_48_X11 dX11_least_57 rfl ?_
      refine k_iload hF dX11_least_60 rfl ?_
      obtain ⟨g13, h⟩ := gd_some h
      refine k_iald hF shR_13 dX11_least_62 g13 ?_
      obtain ⟨v14, hv14, h⟩ := bind_some h
      refine k_callS hF hA (as := [.int x.1, .int (gi σ 13 x.2.toNatClampNeg)]) (ct_X11_has hbs hv14) ms_X11_142 rfl rfl ⟨Nat.le_of_ble_eq_true rfl, Nat.le_of_ble_eq_true rfl⟩ (Nat.le_of_ble_eq_true rfl) dX11_least_63 ?_
      refine k_st (st2 := [.int v14]) rfl ?_
      refine k_if_ne hF (tgt := 83) dX11_least_66 (by decide) (fun c15 => ?_) (fun c15 => ?_)
      · replace h := ite_f c15 h
        exact wX11_least_j83 hF hA hbs h hc he
      · replace h := ite_t c15 h
        refine k_iload_n hF dX11_least_69 rfl ?_
        refine k_aload_n hF dX11_least_70 rfl ?_
        refine k_get hF (v := .ref (B + 14)) shR_0 fl_X11_51_X11 dX11_least_71 rfl ?_
        refine k_iload hF dX11_least_74 rfl ?_
        obtain ⟨g16, h⟩ := gd_some h
        refine k_iald hF shR_14 dX11_least_76 g16 ?_
        obtain ⟨v17, hv17, h⟩ := bind_some h
        refine k_callS hF hA (as := [.int x.1, .int (gi σ 14 x.2.toNatClampNeg)]) (ct_X11_has hbs hv17) ms_X11_142 rfl rfl ⟨Nat.le_of_ble_eq_true rfl, Nat.le_of_ble_eq_true rfl⟩ (Nat.le_of_ble_eq_true rfl) dX11_least_77 ?_
        refine k_st (st2 := [.int v17]) rfl ?_
        refine k_if_eq hF (tgt := 87) dX11_least_80 (by decide) (fun c18 => ?_) (fun c18 => ?_)
        · replace h := ite_t c18 h
          exact wX11_least_j87 hF hA hbs h hc he
        · replace h := ite_f c18 h
          exact wX11_least_j83 hF hA hbs h hc he
set_option maxHeartbeats 4000000 in
set_option maxRecDepth 100000 in
theorem wX11_least_l28 {p : Program} {l : Launch} {e : Env} {s : State} {m : MethodId} {args : Array Value} {below : List Frame} {meth : Method} {c : Code} {Q : State → Prop} {A : Nat → Prop} {D : DD} {base B : Nat} (hF : KF D base cX11_least RX11 A 6 0 0 p l e ({ frames := 2, cells := 0, slots := 0, locals := 43 } : Room) s m args below meth c) (hA : ∀ q, RA B shpR q → A q) (hbs : base ≤ B) {σ : St} {a1 : Int32} {x : (Int32 × Int32)} {z : ((Int32 × Int32) ⊕ (Int32 × Int32))} (h : fX11_least_l28 σ a1 x = some z) (hc : ∀ x, z = .inl x → KJ (Rep D B shpR) A 6 0 0 Q p l e ({ frames := 2, cells := 0, slots := 0, locals := 43 } : Room) s m args below meth c 0 0 28 [some (.ref (B + 0)), some (.int a1), some (.int x.1), some (.int x.2), none, none] [] σ) (he : ∀ w, z = .inr w → KJ (Rep D B shpR) A 6 0 0 Q p l e ({ frames := 2, cells := 0, slots := 0, locals := 43 } : Room) s m args below meth c 0 0 133 [some (.ref (B + 0)), some (.int a1), some (.int w.1), some (.int w.2), none, none] [] σ) : KJ (Rep D B shpR) A 6 0 0 Q p l e ({ frames := 2, cells := 0, slots := 0, locals := 43 } : Room) s m args below meth c 0 0 28 [some (.ref (B + 0)), some (.int a1), some (.int x.1), some (.int x.2), none, none] [] σ := by
  unfold fX11_least_l28 at h
  refine k_iload_n hF dX11_least_28 rfl ?_
  refine k_bipush hF (v := (24 : Int32)) dX11_least_29 (by decide) ?_
  refine k_icmp_ge hF (tgt := 133) dX11_least_31 (by decide) (fun c6 => ?_) (fun c6 => ?_)
  · replace h := ite_t c6 h
    exact he _ (Option.some.inj h).symm
  · replace h := ite_f c6 h
    refine k_iconst hF dX11_least_34 ci_0 ?_
    refine k_istore hF (L' := [some (.ref (B + 0)), some (.int a1), some (.int x.1), some (.int x.2), some (.int (0 : Int32)), none]) dX11_least_35 (by decide) rfl ?_
    obtain ⟨x19, hx19, h⟩ := bind_some h
    refine k_loop (P := fun xq => KJ (Rep D B shpR) A 6 0 0 Q p l e ({ frames := 2, cells := 0, slots := 0, locals := 43 } : Room) s m args below meth c 0 0 37 [some (.ref (B + 0)), some (.int a1), some (.int xq.1), some (.int x.2), some (.int xq.2), none] [] σ) (C := fun xq => KJ (Rep D B shpR) A 6 0 0 Q p l e ({ frames := 2, cells := 0, slots := 0, locals := 43 } : Room) s m args below meth c 0 0 127 [some (.ref (B + 0)), some (.int a1), some (.int xq.1), some (.int x.2), some (.int xq.2), none] [] σ) (fun x z hz hc he => wX11_least_l37 hF hA hbs hz hc he) hx19 ?_
    show KJ (Rep D B shpR) A 6 0 0 Q p l e ({ frames := 2, cells := 0, slots := 0, locals := 43 } : Room) s m args below meth c 0 0 127 [some (.ref (B + 0)), some (.int a1), some (.int x19.1), some (.int x.2), some (.int x19.2), none] [] σ
    refine k_iinc hF (v := (x.2 + (1 : Int32))) (L' := [some (.ref (B + 0)), some (.int a1), some (.int x19.1), some (.int (x.2 + (1 : Int32))), some (.int x19.2), none]) dX11_least_127 rfl (by first | rfl | (congr 1)) (by decide) rfl ?_
    refine k_goto hF dX11_least_130 (tgt := 28) (by decide) ?_
    refine k_kill 4 rfl ?_
    exact hc _ (Option.some.inj h).symm
set_option maxHeartbeats 4000000 in
set_option maxRecDepth 100000 in
theorem wX11_least_l135 {p : Program} {l : Launch} {e : Env} {s : State} {m : MethodId} {args : Array Value} {below : List Frame} {meth : Method} {c : Code} {Q : State → Prop} {A : Nat → Prop} {D : DD} {base B : Nat} (hF : KF D base cX11_least RX11 A 6 0 0 p l e ({ frames := 2, cells := 0, slots := 0, locals := 43 } : Room) s m args below meth c) (hA : ∀ q, RA B shpR q → A q) (hbs : base ≤ B) {σ : St} {a1 : Int32} {ea2 : Int32} {x : Int32} {z : (Int32 ⊕ Int32)} (h : fX11_least_l135 σ a1 ea2 x = some z) (hc : ∀ x, z = .inl x → KJ (Rep D B shpR) A 6 0 0 Q p l e ({ frames := 2, cells := 0, slots := 0, locals := 43 } : Room) s m args below meth c 0 0 135 [some (.ref (B + 0)), some (.int a1), some (.int ea2), some (.int x), none, none] [] σ) (he : ∀ w, z = .inr w → KJ (Rep D B shpR) A 6 0 0 Q p l e ({ frames := 2, cells := 0, slots := 0, locals := 43 } : Room) s m args below meth c 0 0 149 [some (.ref (B + 0)), some (.int a1), some (.int ea2), some (.int w), none, none] [] σ) : KJ (Rep D B shpR) A 6 0 0 Q p l e ({ frames := 2, cells := 0, slots := 0, locals := 43 } : Room) s m args below meth c 0 0 135 [some (.ref (B + 0)), some (.int a1), some (.int ea2), some (.int x), none, none] [] σ := by
  unfold fX11_least_l135 at h
  refine k_iload_n hF dX11_least_135 rfl ?_
  refine k_iload_n hF dX11_least_136 rfl ?_
  obtain ⟨v21, hv21, h⟩ := bind_some h
  refine k_callS hF hA (as := [.int ea2, .int x]) (ct_X11_has hbs hv21) ms_X11_142 rfl rfl ⟨Nat.le_of_ble_eq_true rfl, Nat.le_of_ble_eq_true rfl⟩ (Nat.le_of_ble_eq_true rfl) dX11_least_137 ?_
  refine k_st (st2 := [.int v21]) rfl ?_
  refine k_if_ne hF (tgt := 149) dX11_least_140 (by decide) (fun c22 => ?_) (fun c22 => ?_)
  · replace h := ite_f c22 h
    exact he _ (Option.some.inj h).symm
  · replace h := ite_t c22 h
    refine k_iinc hF (v := (x + (1 : Int32))) (L' := [some (.ref (B + 0)), some (.int a1), some (.int ea2), some (.int (x + (1 : Int32))), none, none]) dX11_least_143 rfl (by first | rfl | (congr 1)) (by decide) rfl ?_
    refine k_goto hF dX11_least_146 (tgt := 135) (by decide) ?_
    exact hc _ (Option.some.inj h).symm
set_option maxHeartbeats 4000000 in
set_option maxRecDepth 100000 in
theorem wX11_least_j14 {p : Program} {l : Launch} {e : Env} {s : State} {m : MethodId} {args : Array Value} {below : List Frame} {meth : Method} {c : Code} {Q : State → Prop} {A : Nat → Prop} {D : DD} {base B : Nat} (hF : KF D base cX11_least RX11 A 6 0 0 p l e ({ frames := 2, cells := 0, slots := 0, locals := 43 } : Room) s m args below meth c) (hA : ∀ q, RA B shpR q → A q) (hbs : base ≤ B) {σ : St} {a1 : Int32} {t0 : Int32} {z : (Int32 × St)} (h : fX11_least_j14 σ a1 t0 = some z) (hr : ∀ (pc : Nat) (L : List (Option Value)), narrow .int (.int z.1) = .int z.1 → decode cX11_least pc = .ok (.ireturn, 1) → KJ (Rep D B shpR) A 6 0 0 Q p l e ({ frames := 2, cells := 0, slots := 0, locals := 43 } : Room) s m args below meth c 0 0 pc L [.int z.1] z.2) : KJ (Rep D B shpR) A 6 0 0 Q p l e ({ frames := 2, cells := 0, slots := 0, locals := 43 } : Room) s m args below meth c 0 0 14 [some (.ref (B + 0)), some (.int a1), none, none, none, none] [.int t0, .ref (B + 0)] σ := by
  unfold fX11_least_j14 at h
  obtain ⟨v3, hv3, h⟩ := bind_some h
  refine k_callV hF hA (as := [.int t0]) (ct_X11_fails hbs hv3) mv_X11_181 shR_0 rfl rfl rfl ⟨Nat.le_of_ble_eq_true rfl, Nat.le_of_ble_eq_true rfl⟩ (Nat.le_of_ble_eq_true rfl) dX11_least_14 ?_
  refine k_st (st2 := [.int v3.1]) rfl ?_
  refine k_if_eq hF (tgt := 22) dX11_least_17 (by decide) (fun c4 => ?_) (fun c4 => ?_)
  · replace h := ite_t c4 h
    refine k_iconst hF dX11_least_22 ci_1 ?_
    refine k_iload_n hF dX11_least_23 rfl ?_
    refine k_ishl hF dX11_least_24 ?_
    obtain ⟨n5, hn5, h⟩ := lt_some h
    refine k_st (st2 := [.int n5]) (by rw [hn5]) ?_
    refine k_istore_n hF (L' := [some (.ref (B + 0)), some (.int a1), some (.int n5), none, none, none]) dX11_least_25 (by decide) rfl ?_
    refine k_iconst hF dX11_least_26 ci_0 ?_
    refine k_istore_n hF (L' := [some (.ref (B + 0)), some (.int a1), some (.int n5), some (.int (0 : Int32)), none, none]) dX11_least_27 (by decide) rfl ?_
    obtain ⟨x20, hx20, h⟩ := bind_some h
    refine k_loop (P := fun xq => KJ (Rep D B shpR) A 6 0 0 Q p l e ({ frames := 2, cells := 0, slots := 0, locals := 43 } : Room) s m args below meth c 0 0 28 [some (.ref (B + 0)), some (.int a1), some (.int xq.1), some (.int xq.2), none, none] [] v3.2) (C := fun xq => KJ (Rep D B shpR) A 6 0 0 Q p l e ({ frames := 2, cells := 0, slots := 0, locals := 43 } : Room) s m args below meth c 0 0 133 [some (.ref (B + 0)), some (.int a1), some (.int xq.1), some (.int xq.2), none, none] [] v3.2) (fun x z hz hc he => wX11_least_l28 hF hA hbs hz hc he) hx20 ?_
    show KJ (Rep D B shpR) A 6 0 0 Q p l e ({ frames := 2, cells := 0, slots := 0, locals := 43 } : Room) s m args below meth c 0 0 133 [some (.ref (B + 0)), some (.int a1), some (.int x20.1), some (.int x20.2), none, none] [] v3.2
    refine k_iconst hF dX11_least_133 ci_0 ?_
    refine k_istore_n hF (L' := [some (.ref (B + 0)), some (.int a1), some (.int x20.1), some (.int (0 : Int32)), none, none]) dX11_least_134 (by decide) rfl ?_
    obtain ⟨x23, hx23, h⟩ := bind_some h
    refine k_loop (P := fun xq => KJ (Rep D B shpR) A 6 0 0 Q p l e ({ frames := 2, cells := 0, slots := 0, locals := 43 } : Room) s m args below meth c 0 0 135 [some (.ref (B + 0)), some (.int a1), some (.int x20.1), some (.int xq), none, none] [] v3.2) (C := fun xq => KJ (Rep D B shpR) A 6 0 0 Q p l e ({ frames := 2, cells := 0, slots := 0, locals := 43 } : Room) s m args below meth c 0 0 149 [some (.ref (B + 0)), some (.int a1), some (.int x20.1), some (.int xq), none, none] [] v3.2) (fun x z hz hc he => wX11_least_l135 hF hA hbs hz hc he) hx23 ?_
    show KJ (Rep D B shpR) A 6 0 0 Q p l e ({ frames := 2, cells := 0, slots := 0, locals := 43 } : Room) s m args below meth c 0 0 149 [some (.ref (B + 0)), some (.int a1), some (.int x20.1), some (.int x23), none, none] [] v3.2
    refine k_iload_n hF dX11_least_149 rfl ?_
    cases h
    exact hr _ _ rfl dX11_least_150
  · replace h := ite_f c4 h
    refine k_iconst hF dX11_least_20 ci_0 ?_
    cases h
    exact hr _ _ rfl dX11_least_21
set_option maxHeartbeats 4000000 in
set_option maxRecDepth 100000 in
theorem wX11_least {p : Program} {l : Launch} {e : Env} {s : State} {m : MethodId} {args : Array Value} {below : List Frame} {meth : Method} {c : Code} {Q : State → Prop} {A : Nat → Prop} {D : DD} {base B : Nat} (hF : KF D base cX11_least RX11 A 6 0 0 p l e ({ frames := 2, cells := 0, slots := 0, locals := 43 } : Room) s m args below meth c) (hA : ∀ q, RA B shpR q → A q) (hbs : base ≤ B) {σ : St} {a1 : Int32} {z : (Int32 × St)} (h : fX11_least σ a1 = some z) (hr : ∀ (pc : Nat) (L : List (Option Value)), narrow .int (.int z.1) = .int z.1 → decode cX11_least pc = .ok (.ireturn, 1) → KJ (Rep D B shpR) A 6 0 0 Q p l e ({ frames := 2, cells := 0, slots := 0, locals := 43 } : Room) s m args below meth c 0 0 pc L [.int z.1] z.2) : KJ (Rep D B shpR) A 6 0 0 Q p l e ({ frames := 2, cells := 0, slots := 0, locals := 43 } : Room) s m args below meth c 0 0 0 [some (.ref (B + 0)), some (.int a1), none, none, none, none] [] σ := by
  unfold fX11_least at h
  refine k_aload_n hF dX11_least_0 rfl ?_
  refine k_aload_n hF dX11_least_1 rfl ?_
  refine k_iload_n hF dX11_least_2 rfl ?_
  obtain ⟨v1, hv1, h⟩ := bind_some h
  refine k_callV hF hA (as := [.int a1]) (ct_X11_isNode hbs hv1) mv_X11_163 shR_0 rfl rfl rfl ⟨Nat.le_of_ble_eq_true rfl, Nat.le_of_ble_eq_true rfl⟩ (Nat.le_of_ble_eq_true rfl) dX11_least_3 ?_
  refine k_st (st2 := [.int v1, .ref (B + 0)]) rfl ?_
  refine k_if_eq hF (tgt := 13) dX11_least_6 (by decide) (fun c2 => ?_) (fun c2 => ?_)
  · replace h := ite_t c2 h
    refine k_iconst hF dX11_least_13 ci_1 ?_
    exact wX11_least_j14 hF hA hbs h hr
  · replace h := ite_f c2 h
    refine k_iconst hF dX11_least_9 ci_0 ?_
    refine k_goto hF dX11_least_10 (tgt := 14) (by decide) ?_
    exact wX11_least_j14 hF hA hbs h hr
theorem ct_X11_least {l : Launch} {D : DD} {base B : Nat} (hbs : base ≤ B) {σ : St} {a1 : Int32} {r : (Int32 × St)} (h : fX11_least σ a1 = some r) : MetR l D B shpR base yX11_least cX11_least 6 (some .int) 2 43 [.ref (B + 0), .int a1] σ (some (.int r.1)) r.2 :=
  MetR.of (by decide +kernel) (fun v hv => by simp only [List.mem_cons, List.not_mem_nil, or_false] at hv; rcases hv with rfl | rfl <;> rfl) (Nat.le_of_ble_eq_true rfl) hbs (fun p e s m args below meth c hF hr => wX11_least hF (fun q hq => hq) hbs h (fun pc L hn hd => k_iret hF hr hn hd))
