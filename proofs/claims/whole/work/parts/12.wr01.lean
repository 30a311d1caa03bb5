set_option maxHeartbeats 4000000 in
set_option maxRecDepth 100000 in
theorem wX11_cuts_j51 {p : Program} {l : Launch} {e : Env} {s : State} {m : MethodId} {args : Array Value} {below : List Frame} {meth : Method} {c : Code} {Q : State → Prop} {A : Nat → Prop} {D : DD} {base B : Nat} (hF : KF D base cX11_cuts RX11 A 3 0 0 p l e ({ frames := 2, cells := 0, slots := 0, locals := 43 } : Room) s m args below meth c) (hA : ∀ q, RA B shpR q → A q) (hbs : base ≤ B) {σ : St} {b2 : Int32} {t0 : Int32} {t1 : Int32} {z : ((Int32 × Int32) ⊕ (Int32 × Int32))} (h : fX11_cuts_j51 σ b2 t0 t1 = some z) (hc : ∀ x, z = .inl x → KJ (Rep D B shpR) A 3 0 0 Q p l e ({ frames := 2, cells := 0, slots := 0, locals := 43 } : Room) s m args below meth c 0 0 4 [some (.ref (B + 0)), some (.int x.1), some (.int x.2)] [] σ) (he : ∀ w, z = .inr w → KJ (Rep D B shpR) A 3 0 0 Q p l e ({ frames := 2, cells := 0, slots := 0, locals := 43 } : Room) s m args below meth c 0 0 59 [some (.ref (B + 0)), some (.int w.1), some (.int w.2)] [] σ) : KJ (Rep D B shpR) A 3 0 0 Q p l e ({ frames := 2, cells := 0, slots := 0, locals := 43 } : Room) s m args below meth c 0 0 51 [some (.ref (B + 0)), none, some (.int b2)] [.int t0, .int t1] σ := by
  unfold fX11_cuts_j51 at h
  refine k_iadd hF dX11_cuts_51 ?_
  refine k_istore_n hF (L' := [some (.ref (B + 0)), some (.int (t1 + t0)), some (.int b2)]) dX11_cuts_52 (by decide) rfl ?_
  refine k_iinc hF (v := (b2 + (1 : Int32))) (L' := [some (.ref (B + 0)), some (.int (t1 + t0)), some (.int (b2 + (1 : Int32)))]) dX11_cuts_53 rfl (by first | rfl | (congr 1)) (by decide) rfl ?_
  refine k_goto hF dX11_cuts_56 (tgt := 4) (by decide) ?_
  exact hc _ (Option.some.inj h).symm
set_option maxHeartbeats 4000000 in
set_option maxRecDepth 100000 in
theorem wX11_cuts_j50 {p : Program} {l : Launch} {e : Env} {s : State} {m : MethodId} {args : Array Value} {below : List Frame} {meth : Method} {c : Code} {Q : State → Prop} {A : Nat → Prop} {D : DD} {base B : Nat} (hF : KF D base cX11_cuts RX11 A 3 0 0 p l e ({ frames := 2, cells := 0, slots := 0, locals := 43 } : Room) s m args below meth c) (hA : ∀ q, RA B shpR q → A q) (hbs : base ≤ B) {σ : St} {b2 : Int32} {t0 : Int32} {z : ((Int32 × Int32) ⊕ (Int32 × Int32))} (h : fX11_cuts_j50 σ b2 t0 = some z) (hc : ∀ x, z = .inl x → KJ (Rep D B shpR) A 3 0 0 Q p l e ({ frames := 2, cells := 0, slots := 0, locals := 43 } : Room) s m args below meth c 0 0 4 [some (.ref (B + 0)), some (.int x.1), some (.int x.2)] [] σ) (he : ∀ w, z = .inr w → KJ (Rep D B shpR) A 3 0 0 Q p l e ({ frames := 2, cells := 0, slots := 0, locals := 43 } : Room) s m args below meth c 0 0 59 [some (.ref (B + 0)), some (.int w.1), some (.int w.2)] [] σ) : KJ (Rep D B shpR) A 3 0 0 Q p l e ({ frames := 2, cells := 0, slots := 0, locals := 43 } : Room) s m args below meth c 0 0 50 [some (.ref (B + 0)), none, some (.int b2)] [.int t0] σ := by
  unfold fX11_cuts_j50 at h
  refine k_iconst hF dX11_cuts_50 ci_0 ?_
  exact wX11_cuts_j51 hF hA hbs h hc he
set_option maxHeartbeats 4000000 in
set_option maxRecDepth 100000 in
theorem wX11_cuts_l4 {p : Program} {l : Launch} {e : Env} {s : State} {m : MethodId} {args : Array Value} {below : List Frame} {meth : Method} {c : Code} {Q : State → Prop} {A : Nat → Prop} {D : DD} {base B : Nat} (hF : KF D base cX11_cuts RX11 A 3 0 0 p l e ({ frames := 2, cells := 0, slots := 0, locals := 43 } : Room) s m args below meth c) (hA : ∀ q, RA B shpR q → A q) (hbs : base ≤ B) {σ : St} {x : (Int32 × Int32)} {z : ((Int32 × Int32) ⊕ (Int32 × Int32))} (h : fX11_cuts_l4 σ x = some z) (hc : ∀ x, z = .inl x → KJ (Rep D B shpR) A 3 0 0 Q p l e ({ frames := 2, cells := 0, slots := 0, locals := 43 } : Room) s m args below meth c 0 0 4 [some (.ref (B + 0)), some (.int x.1), some (.int x.2)] [] σ) (he : ∀ w, z = .inr w → KJ (Rep D B shpR) A 3 0 0 Q p l e ({ frames := 2, cells := 0, slots := 0, locals := 43 } : Room) s m args below meth c 0 0 59 [some (.ref (B + 0)), some (.int w.1), some (.int w.2)] [] σ) : KJ (Rep D B shpR) A 3 0 0 Q p l e ({ frames := 2, cells := 0, slots := 0, locals := 43 } : Room) s m args below meth c 0 0 4 [some (.ref (B + 0)), some (.int x.1), some (.int x.2)] [] σ := by
  unfold fX11_cuts_l4 at h
  refine k_iload_n hF dX11_cuts_4 rfl ?_
  refine k_aload_n hF dX11_cuts_5 rfl ?_
  refine k_get hF (v := .int (gi σ 0 15)) shR_0 fl_X11_154_X11 dX11_cuts_6 rfl ?_
  refine k_icmp_ge hF (tgt := 59) dX11_cuts_9 (by decide) (fun c1 => ?_) (fun c1 => ?_)
  · replace h := ite_t c1 h
    exact he _ (Option.some.inj h).symm
  · replace h := ite_f c1 h
    refine k_iload_n hF dX11_cuts_12 rfl ?_
    refine k_aload_n hF dX11_cuts_13 rfl ?_
    refine k_iload_n hF dX11_cuts_14 rfl ?_
    obtain ⟨v2, hv2, h⟩ := bind_some h
    refine k_callV hF hA (as := [.int x.2]) (ct_X11_isEdge hbs hv2) mv_X11_195 shR_0 rfl rfl rfl ⟨Nat.le_of_ble_eq_true rfl, Nat.le_of_ble_eq_true rfl⟩ (Nat.le_of_ble_eq_true rfl) dX11_cuts_15 ?_
    refine k_st (st2 := [.int v2, .int x.1]) rfl ?_
    refine k_if_eq hF (tgt := 50) dX11_cuts_18 (by decide) (fun c3 => ?_) (fun c3 => ?_)
    · replace h := ite_t c3 h
      refine k_kill 1 rfl ?_
      exact wX11_cuts_j50 hF hA hbs h hc he
    · replace h := ite_f c3 h
      refine k_aload_n hF dX11_cuts_21 rfl ?_
      refine k_get hF (v := .ref (B + 3)) shR_0 fl_X11_16_X11 dX11_cuts_22 rfl ?_
      refine k_aload_n hF dX11_cuts_25 rfl ?_
      refine k_get hF (v := .ref (B + 13)) shR_0 fl_X11_48_X11 dX11_cuts_26 rfl ?_
      refine k_iload_n hF dX11_cuts_29 rfl ?_
      obtain ⟨g4, h⟩ := gd_some h
      refine k_iald hF shR_13 dX11_cuts_30 g4 ?_
      obtain ⟨g5, h⟩ := gd_some h
      refine k_iald hF shR_3 dX11_cuts_31 g5 ?_
      refine k_aload_n hF dX11_cuts_32 rfl ?_
      refine k_get hF (v := .ref (B + 3)) shR_0 fl_X11_16_X11 dX11_cuts_33 rfl ?_
      refine k_aload_n hF dX11_cuts_36 rfl ?_
      refine k_get hF (v := .ref (B + 14)) shR_0 fl_X11_51_X11 dX11_cuts_37 rfl ?_
      refine k_iload_n hF dX11_cuts_40 rfl ?_
      obtain ⟨g6, h⟩ := gd_some h
      refine k_iald hF shR_14 dX11_cuts_41 g6 ?_
      obtain ⟨g7, h⟩ := gd_some h
      refine k_iald hF shR_3 dX11_cuts_42 g7 ?_
      refine k_icmp_eq hF (tgt := 50) dX11_cuts_43 (by decide) (fun c8 => ?_) (fun c8 => ?_)
      · replace h := ite_t c8 h
        refine k_kill 1 rfl ?_
        exact wX11_cuts_j50 hF hA hbs h hc he
      · replace h := ite_f c8 h
        refine k_iconst hF dX11_cuts_46 ci_1 ?_
        refine k_goto hF dX11_cuts_47 (tgt := 51) (by decide) ?_
        refine k_kill 1 rfl ?_
        exact wX11_cuts_j51 hF hA hbs h hc he
set_option maxHeartbeats 4000000 in
set_option maxRecDepth 100000 in
theorem wX11_cuts {p : Program} {l : Launch} {e : Env} {s : State} {m : MethodId} {args : Array Value} {below : List Frame} {meth : Method} {c : Code} {Q : State → Prop} {A : Nat → Prop} {D : DD} {base B : Nat} (hF : KF D base cX11_cuts RX11 A 3 0 0 p l e ({ frames := 2, cells := 0, slots := 0, locals := 43 } : Room) s m args below meth c) (hA : ∀ q, RA B shpR q → A q) (hbs : base ≤ B) {σ : St} {z : Int32} (h : fX11_cuts σ = some z) (hr : ∀ (pc : Nat) (L : List (Option Value)), narrow .int (.int z) = .int z → decode cX11_cuts pc = .ok (.ireturn, 1) → KJ (Rep D B shpR) A 3 0 0 Q p l e ({ frames := 2, cells := 0, slots := 0, locals := 43 } : Room) s m args below meth c 0 0 pc L [.int z] σ) : KJ (Rep D B shpR) A 3 0 0 Q p l e ({ frames := 2, cells := 0, slots := 0, locals := 43 } : Room) s m args below meth c 0 0 0 [some (.ref (B + 0)), none, none] [] σ := by
  unfold fX11_cuts at h
  refine k_iconst hF dX11_cuts_0 ci_0 ?_
  refine k_istore_n hF (L' := [some (.ref (B + 0)), some (.int (0 : Int32)), none]) dX11_cuts_1 (by decide) rfl ?_
  refine k_iconst hF dX11_cuts_2 ci_0 ?_
  refine k_istore_n hF (L' := [some (.ref (B + 0)), some (.int (0 : Int32)), some (.int (0 : Int32))]) dX11_cuts_3 (by decide) rfl ?_
  obtain ⟨x9, hx9, h⟩ := bind_some h
  refine k_loop (P := fun xq => KJ (Rep D B shpR) A 3 0 0 Q p l e ({ frames := 2, cells := 0, slots := 0, locals := 43 } : Room) s m args below meth c 0 0 4 [some (.ref (B + 0)), some (.int xq.1), some (.int xq.2)] [] σ) (C := fun xq => KJ (Rep D B shpR) A 3 0 0 Q p l e ({ frames := 2, cells := 0, slots := 0, locals := 43 } : Room) s m args below meth c 0 0 59 [some (.ref (B + 0)), some (.int xq.1), some (.int xq.2)] [] σ) (fun x z hz hc he => wX11_cuts_l4 hF hA hbs hz hc he) hx9 ?_
  show KJ (Rep D B shpR) A 3 0 0 Q p l e ({ frames := 2, cells := 0, slots := 0, locals := 43 } : Room) s m args below meth c 0 0 59 [some (.ref (B + 0)), some (.int x9.1), some (.int x9.2)] [] σ
  refine k_iload_n hF dX11_cuts_59 rfl ?_
  cases h
  exact hr _ _ rfl dX11_cuts_60
theorem ct_X11_cuts {l : Launch} {D : DD} {base B : Nat} (hbs : base ≤ B) {σ : St} {r : Int32} (h : fX11_cuts σ = some r) : MetR l D B shpR base yX11_cuts cX11_cuts 3 (some .int) 2 43 [.ref (B + 0)] σ (some (.int r)) σ :=
  MetR.of (by decide +kernel) (fun v hv => by simp only [List.mem_cons, List.not_mem_nil, or_false] at hv; rcases hv with rfl <;> rfl) (Nat.le_of_ble_eq_true rfl) hbs (fun p e s m args below meth c hF hr => wX11_cuts hF (fun q hq => hq) hbs h (fun pc L hn hd => k_iret hF hr hn hd))
set_option maxHeartbeats 4000000 in
set_option maxRecDepth 100000 in
theorem wX11_shift_j173 {p : Program} {l : Launch} {e : Env} {s : State} {m : MethodId} {args : Array Value} {below : List Frame} {meth : Method} {c : Code} {Q : State → Prop} {A : Nat → Prop} {D : DD} {base B : Nat} (hF : KF D base cX11_shift RX11 A 10 0 0 p l e ({ frames := 4, cells := 0, slots := 0, locals := 88 } : Room) s m args below meth c) (hA : ∀ q, RA B shpR q → A q) (hbs : base ≤ B) {σ : St} {ea1b : Int32} {ea5b : Int32} {ea6b : Int32} {b2 : Int32} {b3 : Int32} {b4 : Int32} {b7 : Int32} {z : ((St × Int32 × Int32 × Int32 × Int32) ⊕ (St × Int32 × Int32 × Int32 × Int32))} (h : fX11_shift_j173 σ ea1b ea5b ea6b b2 b3 b4 b7 = some z) (hc : ∀ x, z = .inl x → KJ (Rep D B shpR) A 10 0 0 Q p l e ({ frames := 4, cells := 0, slots := 0, locals := 88 } : Room) s m args below meth c 0 0 54 [some (.ref (B + 0)), some (.int ea1b), some (.int x.2.1), some (.int x.2.2.1), some (.int x.2.2.2.1), some (.int ea5b), some (.int ea6b), some (.int x.2.2.2.2), none, none] [] x.1) (he : ∀ w, z = .inr w → KJ (Rep D B shpR) A 10 0 0 Q p l e ({ frames := 4, cells := 0, slots := 0, locals := 88 } : Room) s m args below meth c 0 0 179 [some (.ref (B + 0)), some (.int ea1b), some (.int w.2.1), some (.int w.2.2.1), some (.int w.2.2.2.1), some (.int ea5b), some (.int ea6b), some (.int w.2.2.2.2), none, none] [] w.1) : KJ (Rep D B shpR) A 10 0 0 Q p l e ({ frames := 4, cells := 0, slots := 0, locals := 88 } : Room) s m args below meth c 0 0 173 [some (.ref (B + 0)), some (.int ea1b), some (.int b2), some (.int b3), some (.int b4), some (.int ea5b), some (.int ea6b), some (.int b7), none, none] [] σ := by
  unfold fX11_shift_j173 at h
  refine k_iinc hF (v := (b7 + (1 : Int32))) (L' := [some (.ref (B + 0)), some (.int ea1b), some (.int b2), some (.int b3), some (.int b4), some (.int ea5b), some (.int ea6b), some (.int (b7 + (1 : Int32))), none, none]) dX11_shift_173 rfl (by first | rfl | (congr 1)) (by decide) rfl ?_
  refine k_goto hF dX11_shift_176 (tgt := 54) (by decide) ?_
  exact hc _ (Option.some.inj h).symm
set_option maxHeartbeats 4000000 in
set_option maxRecDepth 100000 in
theorem wX11_shift_l54 {p : Program} {l : Launch} {e : Env} {s : State} {m : MethodId} {args : Array Value} {below : List Frame} {meth : Method} {c : Code} {Q : State → Prop} {A : Nat → Prop} {D : DD} {base B : Nat} (hF : KF D base cX11_shift RX11 A 10 0 0 p l e ({ frames := 4, cells := 0, slots := 0, locals := 88 } : Room) s m args below meth c) (hA : ∀ q, RA B shpR q → A q) (hbs : base ≤ B) {σ : St} {ea1b : Int32} {ea5b : Int32} {ea6b : Int32} {x : (St × Int32 × Int32 × Int32 × Int32)} {z : ((St × Int32 × Int32 × Int32 × Int32) ⊕ (St × Int32 × Int32 × Int32 × Int32))} (h : fX11_shift_l54 σ ea1b ea5b ea6b x = some z) (hc : ∀ x, z = .inl x → KJ (Rep D B shpR) A 10 0 0 Q p l e ({ frames := 4, cells := 0, slots := 0, locals := 88 } : Room) s m args below meth c 0 0 54 [some (.ref (B + 0)), some (.int ea1b), some (.int x.2.1), some (.int x.2.2.1), some (.int x.2.2.2.1), some (.int ea5b), some (.int ea6b), some (.int x.2.2.2.2), none, none] [] x.1) (he : ∀ w, z = .inr w → KJ (Rep D B shpR) A 10 0 0 Q p l e ({ frames := 4, cells := 0, slots := 0, locals := 88 } : Room) s m args below meth c 0 0 179 [some (.ref (B + 0)), some (.int ea1b), some (.int w.2.1), some (.int w.2.2.1), some (.int w.2.2.2.1), some (.int ea5b), some (.int ea6b), some (.int w.2.2.2.2), none, none] [] w.1) : KJ (Rep D B shpR) A 10 0 0 Q p l e ({ frames := 4, cells := 0, slots := 0, locals := 88 } : Room) s m args below meth c 0 0 54 [some (.ref (B + 0)), some (.int ea1b), some (.int x.2.1), some (.int x.2.2.1), some (.int x.2.2.2.1), some (.int ea5b), some (.int ea6b), some (.int x.2.2.2.2), none, none] [] x.1 := by
  unfold fX11_shift_l54 at h
  refine k_iload hF dX11_shift_54 rfl ?_
  refine k_iconst hF dX11_shift_56 ci_3 ?_
  refine k_icmp_ge hF (tgt := 179) dX11_shift_57 (by decide) (fun c8 => ?_) (fun c8 => ?_)
  · replace h := ite_t c8 h
    exact he _ (Option.some.inj h).symm
  · replace h := ite_f c8 h
    refine k_aload_n hF dX11_shift_60 rfl ?_
    refine k_iload hF dX11_shift_61 rfl ?_
    obtain ⟨v9, hv9, h⟩ := bind_some h
    refine k_callV hF hA (as := [.int ea6b]) (ct_X11_isNode hbs hv9) mv_X11_163 shR_0 rfl rfl rfl ⟨Nat.le_of_ble_eq_true rfl, Nat.le_of_ble_eq_true rfl⟩ (Nat.le_of_ble_eq_true rfl) dX11_shift_63 ?_
    refine k_st (st2 := [.int v9]) rfl ?_
    refine k_if_eq hF (tgt := 173) dX11_shift_66 (by decide) (fun c10 => ?_) (fun c10 => ?_)
    · replace h := ite_t c10 h
      exact wX11_shift_j173 hF hA hbs h hc he
    · replace h := ite_f c10 h
      refine k_aload_n hF dX11_shift_69 rfl ?_
      refine k_get hF (v := .ref (B + 21)) shR_0 fl_X11_72_X11 dX11_shift_70 rfl ?_
      refine k_aload_n hF dX11_shift_73 rfl ?_
      refine k_get hF (v := .ref (B + 3)) shR_0 fl_X11_16_X11 dX11_shift_74 rfl ?_
      refine k_iload hF dX11_shift_77 rfl ?_
      obtain ⟨g11, h⟩ := gd_some h
      refine k_iald hF shR_3 dX11_shift_79 g11 ?_
      obtain ⟨g12, h⟩ := gd_some h
      refine k_zald hF shR_21 dX11_shift_80 g12 ?_
      refine k_if_ne hF (tgt := 173) dX11_shift_81 (by decide) (fun c13 => ?_) (fun c13 => ?_)
      · replace h := ite_f c13 h
        exact wX11_shift_j173 hF hA hbs h hc he
      · replace h := ite_t c13 h
        refine k_aload_n hF dX11_shift_84 rfl ?_
        refine k_get hF (v := .ref (B + 21)) shR_0 fl_X11_72_X11 dX11_shift_85 rfl ?_
        refine k_iload hF dX11_shift_88 rfl ?_
        obtain ⟨g14, h⟩ := gd_some h
        refine k_zald hF shR_21 dX11_shift_90 g14 ?_
        refine k_if_ne hF (tgt := 173) dX11_shift_91 (by decide) (fun c15 => ?_) (fun c15 => ?_)
        · replace h := ite_f c15 h
          exact wX11_shift_j173 hF hA hbs h hc he
        · replace h := ite_t c15 h
          refine k_aload_n hF dX11_shift_94 rfl ?_
          refine k_get hF (v := .ref (B + 3)) shR_0 fl_X11_16_X11 dX11_shift_95 rfl ?_
          refine k_iload hF dX11_shift_98 rfl ?_
          obtain ⟨g16, h⟩ := gd_some h
          refine k_iald hF shR_3 dX11_shift_100 g16 ?_
          refine k_iload hF dX11_shift_101 rfl ?_
          refine k_icmp_eq hF (tgt := 173) dX11_shift_103 (by decide) (fun c17 => ?_) (fun c17 => ?_)
          · replace h := ite_t c17 h
            exact wX11_shift_j173 hF hA hbs h hc he
          · replace h := ite_f c17 h
            refine k_aload_n hF dX11_shift_106 rfl ?_
            refine k_iload hF dX11_shift_107 rfl ?_
            obtain ⟨v18, hv18, h⟩ := bind_some h
            refine k_callV hF hA (as := [.int x.2.2.2.2]) (ct_X11_nodesOn hbs hv18) mv_X11_167 shR_0 rfl rfl rfl ⟨Nat.le_of_ble_eq_true rfl, Nat.le_of_ble_eq_true rfl⟩ (Nat.le_of_ble_eq_true rfl) dX11_shift_109 ?_
            refine k_st (st2 := [.int v18]) rfl ?_
            refine k_iconst hF dX11_shift_112 ci_1 ?_
            refine k_iadd hF dX11_shift_113 ?_
            refine k_iload hF dX11_shift_114 rfl ?_
            refine k_iconst hF dX11_shift_116 ci_2 ?_
            refine k_iadd hF dX11_shift_117 ?_
            refine k_icmp_gt hF (tgt := 173) dX11_shift_118 (by decide) (fun c19 => ?_) (fun c19 => ?_)
            · replace h := ite_t c19 h
              exact wX11_shift_j173 hF hA hbs h hc he
            · replace h := ite_f c19 h
              refine k_aload_n hF dX11_shift_121 rfl ?_
              refine k_get hF (v := .ref (B + 3)) shR_0 fl_X11_16_X11 dX11_shift_122 rfl ?_
              refine k_iload hF dX11_shift_125 rfl ?_
              obtain ⟨g20, h⟩ := gd_some h
              refine k_iald hF shR_3 dX11_shift_127 g20 ?_
              obtain ⟨n21, hn21, h⟩ := lt_some h
              refine k_st (st2 := [.int n21]) (by rw [hn21]) ?_
              refine k_istore hF (L' := [some (.ref (B + 0)), some (.int ea1b), some (.int x.2.1), some (.int x.2.2.1), some (.int x.2.2.2.1), some (.int ea5b), some (.int ea6b), some (.int x.2.2.2.2), some (.int n21), none]) dX11_shift_128 (by decide) rfl ?_
              refine k_aload_n hF dX11_shift_130 rfl ?_
              refine k_get hF (v := .ref (B + 3)) shR_0 fl_X11_16_X11 dX11_shift_131 rfl ?_
              refine k_iload hF dX11_shift_134 rfl ?_
              refine k_iload hF dX11_shift_136 rfl ?_
              obtain ⟨g22, h⟩ := gd_some h
              refine k_iast hF hA shR_3 dX11_shift_138 g22 ?_
              obtain ⟨σ23, hσ23, h⟩ := lt_some h
              refine k_sig hσ23 ?_
              refine k_iload_n hF dX11_shift_139 rfl ?_
              refine k_aload_n hF dX11_shift_140 rfl ?_
              obtain ⟨v24, hv24, h⟩ := bind_some h
              refine k_callV hF hA (as := []) (ct_X11_cuts hbs hv24) mv_X11_211 shR_0 rfl rfl rfl ⟨Nat.le_of_ble_eq_true rfl, Nat.le_of_ble_eq_true rfl⟩ (Nat.le_of_ble_eq_true rfl) dX11_shift_141 ?_
              refine k_st (st2 := [.int v24, .int ea1b]) rfl ?_
              refine k_isub hF dX11_shift_144 ?_
              refine k_istore hF (L' := [some (.ref (B + 0)), some (.int ea1b), some (.int x.2.1), some (.int x.2.2.1), some (.int x.2.2.2.1), some (.int ea5b), some (.int ea6b), some (.int x.2.2.2.2), some (.int n21), some (.int (ea1b - v24))]) dX11_shift_145 (by decide) rfl ?_
              refine k_aload_n hF dX11_shift_147 rfl ?_
              refine k_get hF (v := .ref (B + 3)) shR_0 fl_X11_16_X11 dX11_shift_148 rfl ?_
              refine k_iload hF dX11_shift_151 rfl ?_
              refine k_iload hF dX11_shift_153 rfl ?_
              obtain ⟨g25, h⟩ := gd_some h
              refine k_iast hF hA shR_3 dX11_shift_155 g25 ?_
              obtain ⟨σ26, hσ26, h⟩ := lt_some h
              refine k_sig hσ26 ?_
              refine k_iload hF dX11_shift_156 rfl ?_
              refine k_iload hF dX11_shift_158 rfl ?_
              refine k_icmp_le hF (tgt := 173) dX11_shift_160 (by decide) (fun c27 => ?_) (fun c27 => ?_)
              · replace h := ite_t c27 h
                refine k_kill 8 rfl ?_
                refine k_kill 9 rfl ?_
                exact wX11_shift_j173 hF hA hbs h hc he
              · replace h := ite_f c27 h
                refine k_iload hF dX11_shift_163 rfl ?_
                refine k_istore hF (L' := [some (.ref (B + 0)), some (.int ea1b), some (.int x.2.1), some (.int x.2.2.1), some (.int (ea1b - v24)), some (.int ea5b), some (.int ea6b), some (.int x.2.2.2.2), some (.int n21), some (.int (ea1b - v24))]) dX11_shift_165 (by decide) rfl ?_
                refine k_iload hF dX11_shift_167 rfl ?_
                refine k_istore_n hF (L' := [some (.ref (B + 0)), some (.int ea1b), some (.int ea6b), some (.int x.2.2.1), some (.int (ea1b - v24)), some (.int ea5b), some (.int ea6b), some (.int x.2.2.2.2), some (.int n21), some (.int (ea1b - v24))]) dX11_shift_169 (by decide) rfl ?_
                refine k_iload hF dX11_shift_170 rfl ?_
                refine k_istore_n hF (L' := [some (.ref (B + 0)), some (.int ea1b), some (.int ea6b), some (.int x.2.2.2.2), some (.int (ea1b - v24)), some (.int ea5b), some (.int ea6b), some (.int x.2.2.2.2), some (.int n21), some (.int (ea1b - v24))]) dX11_shift_172 (by decide) rfl ?_
                refine k_kill 8 rfl ?_
                refine k_kill 9 rfl ?_
                exact wX11_shift_j173 hF hA hbs h hc he
set_option maxHeartbeats 4000000 in
set_option maxRecDepth 100000 in
theorem wX11_shift_l42 {p : Program} {l : Launch} {e : Env} {s : State} {m : MethodId} {args : Array Value} {below : List Frame} {meth : Method} {c : Code} {Q : State → Prop} {A : Nat → Prop} {D : DD} {base B : Nat} (hF : KF D base cX11_shift RX11 A 10 0 0 p l e ({ frames := 4, cells := 0, slots := 0, locals := 88 } : Room) s m args below meth c) (hA : ∀ q, RA B shpR q → A q) (hbs : base ≤ B) {σ : St} {ea1 : Int32} {ea5 : Int32} {x : (St × Int32 × Int32 × Int32 × Int32)} {z : ((St × Int32 × Int32 × Int32 × Int32) ⊕ (St × Int32 × Int32 × Int32 × Int32))} (h : fX11_shift_l42 σ ea1 ea5 x = some z) (hc : ∀ x, z = .inl x → KJ (Rep D B shpR) A 10 0 0 Q p l e ({ frames := 4, cells := 0, slots := 0, locals := 88 } : Room) s m args below meth c 0 0 42 [some (.ref (B + 0)), some (.int ea1), some (.int x.2.1), some (.int x.2.2.1), some (.int x.2.2.2.1), some (.int ea5), some (.int x.2.2.2.2), none, none, none] [] x.1) (he : ∀ w, z = .inr w → KJ (Rep D B shpR) A 10 0 0 Q p l e ({ frames := 4, cells := 0, slots := 0, locals := 88 } : Room) s m args below meth c 0 0 185 [some (.ref (B + 0)), some (.int ea1), some (.int w.2.1), some (.int w.2.2.1), some (.int w.2.2.2.1), some (.int ea5), some (.int w.2.2.2.2), none, none, none] [] w.1) : KJ (Rep D B shpR) A 10 0 0 Q p l e ({ frames := 4, cells := 0, slots := 0, locals := 88 } : Room) s m args below meth c 0 0 42 [some (.ref (B + 0)), some (.int ea1), some (.int x.2.1), some (.int x.2.2.1), some (.int x.2.2.2.1), some (.int ea5), some (.int x.2.2.2.2), none, none, none] [] x.1 := by
  unfold fX11_shift_l42 at h
  refine k_iload hF dX11_shift_42 rfl ?_
  refine k_aload_n hF dX11_shift_44 rfl ?_
  refine k_get hF (v := .int (gi x.1 0 1)) shR_0 fl_X11_150_X11 dX11_shift_45 rfl ?_
  refine k_icmp_ge hF (tgt := 185) dX11_shift_48 (by decide) (fun c7 => ?_) (fun c7 => ?_)
  · replace h := ite_t c7 h
    exact he _ (Option.some.inj h).symm
  · replace h := ite_f c7 h
    refine k_iconst hF dX11_shift_51 ci_0 ?_
    refine k_istore hF (L' := [some (.ref (B + 0)), some (.int ea1), some (.int x.2.1), some (.int x.2.2.1), some (.int x.2.2.2.1), some (.int ea5), some (.int x.2.2.2.2), some (.int (0 : Int32)), none, none]) dX11_shift_52 (by decide) rfl ?_
    obtain ⟨x28, hx28, h⟩ := bind_some h
    refine k_loop (P := fun xq => KJ (Rep D B shpR) A 10 0 0 Q p l e ({ frames := 4, cells := 0, slots := 0, locals := 88 } : Room) s m args below meth c 0 0 54 [some (.ref (B + 0)), some (.int ea1), some (.int xq.2.1), some (.int xq.2.2.1), some (.int xq.2.2.2.1), some (.int ea5), some (.int x.2.2.2.2), some (.int xq.2.2.2.2), none, none] [] xq.1) (C := fun xq => KJ (Rep D B shpR) A 10 0 0 Q p l e ({ frames := 4, cells := 0, slots := 0, locals := 88 } : Room) s m args below meth c 0 0 179 [some (.ref (B + 0)), some (.int ea1), some (.int xq.2.1), some (.int xq.2.2.1), some (.int xq.2.2.2.1), some (.int ea5), some (.int x.2.2.2.2), some (.int xq.2.2.2.2), none, none] [] xq.1) (fun x z hz hc he => wX11_shift_l54 hF hA hbs hz hc he) hx28 ?_
    show KJ (Rep D B shpR) A 10 0 0 Q p l e ({ frames := 4, cells := 0, slots := 0, locals := 88 } : Room) s m args below meth c 0 0 179 [some (.ref (B + 0)), some (.int ea1), some (.int x28.2.1), some (.int x28.2.2.1), some (.int x28.2.2.2.1), some (.int ea5), some (.int x.2.2.2.2), some (.int x28.2.2.2.2), none, none] [] x28.1
    refine k_iinc hF (v := (x.2.2.2.2 + (1 : Int32))) (L' := [some (.ref (B + 0)), some (.int ea1), some (.int x28.2.1), some (.int x28.2.2.1), some (.int x28.2.2.2.1), some (.int ea5), some (.int (x.2.2.2.2 + (1 : Int32))), some (.int x28.2.2.2.2), none, none]) dX11_shift_179 rfl (by first | rfl | (congr 1)) (by decide) rfl ?_
    refine k_goto hF dX11_shift_182 (tgt := 42) (by decide) ?_
    refine k_kill 7 rfl ?_
    exact hc _ (Option.some.inj h).symm
set_option maxHeartbeats 4000000 in
set_option maxRecDepth 100000 in
theorem wX11_shift_j197 {p : Program} {l : Launch} {e : Env} {s : State} {m : MethodId} {args : Array Value} {below : List Frame} {meth : Method} {c : Code} {Q : State → Prop} {A : Nat → Prop} {D : DD} {base B : Nat} (hF : KF D base cX11_shift RX11 A 10 0 0 p l e ({ frames := 4, cells := 0, slots := 0, locals := 88 } : Room) s m args below meth c) (hA : ∀ q, RA B shpR q → A q) (hbs : base ≤ B) {σ : St} {b2 : Int32} {z : (Int32 × St)} (h : fX11_shift_j197 σ b2 = some z) (hr : ∀ (pc : Nat) (L : List (Option Value)), narrow .int (.int z.1) = .int z.1 → decode cX11_shift pc = .ok (.ireturn, 1) → KJ (Rep D B shpR) A 10 0 0 Q p l e ({ frames := 4, cells := 0, slots := 0, locals := 88 } : Room) s m args below meth c 0 0 pc L [.int z.1] z.2) : KJ (Rep D B shpR) A 10 0 0 Q p l e ({ frames := 4, cells := 0, slots := 0, locals := 88 } : Room) s m args below meth c 0 0 197 [some (.ref (B + 0)), none, some (.int b2), none, none, none, none, none, none, none] [] σ := by
  unfold fX11_shift_j197 at h
  refine k_iload_n hF dX11_shift_197 rfl ?_
  cases h
  exact hr _ _ rfl dX11_shift_198
set_option maxHeartbeats 4000000 in
set_option maxRecDepth 100000 in
theorem wX11_shift_j37 {p : Program} {l : Launch} {e : Env} {s : State} {m : MethodId} {args : Array Value} {below : List Frame} {meth : Method} {c : Code} {Q : State → Prop} {A : Nat → Prop} {D : DD} {base B : Nat} (hF : KF D base cX11_shift RX11 A 10 0 0 p l e ({ frames := 4, cells := 0, slots := 0, locals := 88 } : Room) s m args below meth c) (hA : ∀ q, RA B shpR q → A q) (hbs : base ≤ B) {σ : St} {b1 : Int32} {b2 : Int32} {b3 : Int32} {b4 : Int32} {t0 : Int32} {z : (Int32 × St)} (h : fX11_shift_j37 σ b1 b2 b3 b4 t0 = some z) (hr : ∀ (pc : Nat) (L : List (Option Value)), narrow .int (.int z.1) = .int z.1 → decode cX11_shift pc = .ok (.ireturn, 1) → KJ (Rep D B shpR) A 10 0 0 Q p l e ({ frames := 4, cells := 0, slots := 0, locals := 88 } : Room) s m args below meth c 0 0 pc L [.int z.1] z.2) : KJ (Rep D B shpR) A 10 0 0 Q p l e ({ frames := 4, cells := 0, slots := 0, locals := 88 } : Room) s m args below meth c 0 0 37 [some (.ref (B + 0)), some (.int b1), some (.int b2), some (.int b3), some (.int b4), none, none, none, none, none] [.int t0] σ := by
  unfold fX11_shift_j37 at h
  refine k_istore hF (L' := [some (.ref (B + 0)), some (.int b1), some (.int b2), some (.int b3), some (.int b4), some (.int t0), none, none, none, none]) dX11_shift_37 (by decide) rfl ?_
  refine k_iconst hF dX11_shift_39 ci_0 ?_
  refine k_istore hF (L' := [some (.ref (B + 0)), some (.int b1), some (.int b2), some (.int b3), some (.int b4), some (.int t0), some (.int (0 : Int32)), none, none, none]) dX11_shift_40 (by decide) rfl ?_
  obtain ⟨x29, hx29, h⟩ := bind_some h
  refine k_loop (P := fun xq => KJ (Rep D B shpR) A 10 0 0 Q p l e ({ frames := 4, cells := 0, slots := 0, locals := 88 } : Room) s m args below meth c 0 0 42 [some (.ref (B + 0)), some (.int b1), some (.int xq.2.1), some (.int xq.2.2.1), some (.int xq.2.2.2.1), some (.int t0), some (.int xq.2.2.2.2), none, none, none] [] xq.1) (C := fun xq => KJ (Rep D B shpR) A 10 0 0 Q p l e ({ frames := 4, cells := 0, slots := 0, locals := 88 } : Room) s m args below meth c 0 0 185 [some (.ref (B + 0)), some (.int b1), some (.int xq.2.1), some (.int xq.2.2.1), some (.int xq.2.2.2.1), some (.int t0), some (.int xq.2.2.2.2), none, none, none] [] xq.1) (fun x z hz hc he => wX11_shift_l42 hF hA hbs hz hc he) hx29 ?_
  show KJ (Rep D B shpR) A 10 0 0 Q p l e ({ frames := 4, cells := 0, slots := 0, locals := 88 } : Room) s m args below meth c 0 0 185 [some (.ref (B + 0)), some (.int b1), some (.int x29.2.1), some (.int x29.2.2.1), some (.int x29.2.2.2.1), some (.int t0), some (.int x29.2.2.2.2), none, none, none] [] x29.1
  refine k_iload_n hF dX11_shift_185 rfl ?_
  refine k_iconst hF dX11_shift_186 ci_m1 ?_
  refine k_icmp_eq hF (tgt := 197) dX11_shift_187 (by decide) (fun c30 => ?_) (fun c30 => ?_)
  · replace h := ite_t c30 h
    refine k_kill 1 rfl ?_
    refine k_kill 3 rfl ?_
    refine k_kill 4 rfl ?_
    refine k_kill 5 rfl ?_
    refine k_kill 6 rfl ?_
    exact wX11_shift_j197 hF hA hbs h hr
  · replace h := ite_f c30 h
    refine k_aload_n hF dX11_shift_190 rfl ?_
    refine k_get hF (v := .ref (B + 3)) shR_0 fl_X11_16_X11 dX11_shift_191 rfl ?_
    refine k_iload_n hF dX11_shift_194 rfl ?_
    refine k_iload_n hF dX11_shift_195 rfl ?_
    obtain ⟨g31, h⟩ := gd_some h
    refine k_iast hF hA shR_3 dX11_shift_196 g31 ?_
    obtain ⟨σ32, hσ32, h⟩ := lt_some h
    refine k_sig hσ32 ?_
    refine k_kill 1 rfl ?_
    refine k_kill 3 rfl ?_
    refine k_kill 4 rfl ?_
    refine k_kill 5 rfl ?_
    refine k_kill 6 rfl ?_
    exact wX11_shift_j197 hF hA hbs h hr
set_option maxHeartbeats 4000000 in
set_option maxRecDepth 100000 in
theorem wX11_shift {p : Program} {l : Launch} {e : Env} {s : State} {m : MethodId} {args : Array Value} {below : List Frame} {meth : Method} {c : Code} {Q : State → Prop} {A : Nat → Prop} {D : DD} {base B : Nat} (hF : KF D base cX11_shift RX11 A 10 0 0 p l e ({ frames := 4, cells := 0, slots := 0, locals := 88 } : Room) s m args below meth c) (hA : ∀ q, RA B shpR q → A q) (hbs : base ≤ B) {σ : St} {z : (Int32 × St)} (h : fX11_shift σ = some z) (hr : ∀ (pc : Nat) (L : List (Option Value)), narrow .int (.int z.1) = .int z.1 → decode cX11_shift pc = .ok (.ireturn, 1) → KJ (Rep D B shpR) A 10 0 0 Q p l e ({ frames := 4, cells := 0, slots := 0, locals := 88 } : Room) s m args below meth c 0 0 pc L [.int z.1] z.2) : KJ (Rep D B shpR) A 10 0 0 Q p l e ({ frames := 4, cells := 0, slots := 0, locals := 88 } : Room) s m args below meth c 0 0 0 [some (.ref (B + 0)), none, none, none, none, none, none, none, none, none] [] σ := by
  unfold fX11_shift at h
  refine k_aload_n hF dX11_shift_0 rfl ?_
  refine k_iconst hF dX11_shift_1 ci_0 ?_
  refine k_putI hF hA shR_0 fp_X11_138_X11 dX11_shift_2 rfl rfl rfl ?_
  obtain ⟨σ1, hσ1, h⟩ := lt_some h
  refine k_sig hσ1 ?_
  refine k_aload_n hF dX11_shift_5 rfl ?_
  obtain ⟨v2, hv2, h⟩ := bind_some h
  refine k_callV hF hA (as := []) (ct_X11_cuts hbs hv2) mv_X11_211 shR_0 rfl rfl rfl ⟨Nat.le_of_ble_eq_true rfl, Nat.le_of_ble_eq_true rfl⟩ (Nat.le_of_ble_eq_true rfl) dX11_shift_6 ?_
  refine k_st (st2 := [.int v2]) rfl ?_
  refine k_istore_n hF (L' := [some (.ref (B + 0)), some (.int v2), none, none, none, none, none, none, none, none]) dX11_shift_9 (by decide) rfl ?_
  refine k_iconst hF dX11_shift_10 ci_m1 ?_
  refine k_istore_n hF (L' := [some (.ref (B + 0)), some (.int v2), some (.int (-1 : Int32)), none, none, none, none, none, none, none]) dX11_shift_11 (by decide) rfl ?_
  refine k_iconst hF dX11_shift_12 ci_m1 ?_
  refine k_istore_n hF (L' := [some (.ref (B + 0)), some (.int v2), some (.int (-1 : Int32)), some (.int (-1 : Int32)), none, none, none, none, none, none]) dX11_shift_13 (by decide) rfl ?_
  refine k_iconst hF dX11_shift_14 ci_0 ?_
  refine k_istore hF (L' := [some (.ref (B + 0)), some (.int v2), some (.int (-1 : Int32)), some (.int (-1 : Int32)), some (.int (0 : Int32)), none, none, none, none, none]) dX11_shift_15 (by decide) rfl ?_
  refine k_aload_n hF dX11_shift_17 rfl ?_
  obtain ⟨v3, hv3, h⟩ := bind_some h
  refine k_callV hF hA (as := []) (ct_X11_emptiest hbs hv3) mv_X11_174 shR_0 rfl rfl rfl ⟨Nat.le_of_ble_eq_true rfl, Nat.le_of_ble_eq_true rfl⟩ (Nat.le_of_ble_eq_true rfl) dX11_shift_18 ?_
  refine k_st (st2 := [.int v3]) rfl ?_
  refine k_iconst hF dX11_shift_21 ci_m1 ?_
  refine k_icmp_ne hF (tgt := 29) dX11_shift_22 (by decide) (fun c4 => ?_) (fun c4 => ?_)
  · replace h := ite_f c4 h
    refine k_aload_n hF dX11_shift_29 rfl ?_
    refine k_aload_n hF dX11_shift_30 rfl ?_
    obtain ⟨v5, hv5, h⟩ := bind_some h
    refine k_callV hF hA (as := []) (ct_X11_emptiest hbs hv5) mv_X11_174 shR_0 rfl rfl rfl ⟨Nat.le_of_ble_eq_true rfl, Nat.le_of_ble_eq_true rfl⟩ (Nat.le_of_ble_eq_true rfl) dX11_shift_31 ?_
    refine k_st (st2 := [.int v5, .ref (B + 0)]) rfl ?_
    obtain ⟨v6, hv6, h⟩ := bind_some h
    refine k_callV hF hA (as := [.int v5]) (ct_X11_nodesOn hbs hv6) mv_X11_167 shR_0 rfl rfl rfl ⟨Nat.le_of_ble_eq_true rfl, Nat.le_of_ble_eq_true rfl⟩ (Nat.le_of_ble_eq_true rfl) dX11_shift_34 ?_
    refine k_st (st2 := [.int v6]) rfl ?_
    exact wX11_shift_j37 hF hA hbs h hr
  · replace h := ite_t c4 h
    refine k_iconst hF dX11_shift_25 ci_0 ?_
    refine k_goto hF dX11_shift_26 (tgt := 37) (by decide) ?_
    exact wX11_shift_j37 hF hA hbs h hr
theorem ct_X11_shift {l : Launch} {D : DD} {base B : Nat} (hbs : base ≤ B) {σ : St} {r : (Int32 × St)} (h : fX11_shift σ = some r) : MetR l D B shpR base yX11_shift cX11_shift 10 (some .int) 4 88 [.ref (B + 0)] σ (some (.int r.1)) r.2 :=
  MetR.of (by decide +kernel) (fun v hv => by simp only [List.mem_cons, List.not_mem_nil, or_false] at hv; rcases hv with rfl <;> rfl) (Nat.le_of_ble_eq_true rfl) hbs (fun p e s m args below meth c hF hr => wX11_shift hF (fun q hq => hq) hbs h (fun pc L hn hd => k_iret hF hr hn hd))
set_option maxHeartbeats 4000000 in
set_option maxRecDepth 100000 in
theorem wX11_toggle_j40 {p : Program} {l : Launch} {e : Env} {s : State} {m : MethodId} {args : Array Value} {below : List Frame} {meth : Method} {c : Code} {Q : State → Prop} {A : Nat → Prop} {D : DD} {base B : Nat} (hF : KF D base cX11_toggle RX11 A 2 0 0 p l e ({ frames := 2, cells := 0, slots := 0, locals := 42 } : Room) s m args below meth c) (hA : ∀ q, RA B shpR q → A q) (hbs : base ≤ B) {σ : St} {a1 : Int32} {t0 : Int32} {t1 : Int32} {z : (Int32 × St)} (h : fX11_toggle_j40 σ a1 t0 t1 = some z) (hr : ∀ (pc : Nat) (L : List (Option Value)), narrow .boolean (.int z.1) = .int z.1 → decode cX11_toggle pc = .ok (.ireturn, 1) → KJ (Rep D B shpR) A 2 0 0 Q p l e ({ frames := 2, cells := 0, slots := 0, locals := 42 } : Room) s m args below meth c 0 0 pc L [.int z.1] z.2) : KJ (Rep D B shpR) A 2 0 0 Q p l e ({ frames := 2, cells := 0, slots := 0, locals := 42 } : Room) s m args below meth c 0 0 40 [some (.ref (B + 0)), some (.int a1)] [.int t0, .int t1, .ref (B + 21)] σ := by
  unfold fX11_toggle_j40 at h
  obtain ⟨g7, h⟩ := gd_some h
  obtain ⟨g8, h⟩ := gd_some h
  refine k_zast hF hA shR_21 dX11_toggle_40 g7 (nar_z g8) ?_
  obtain ⟨σ9, hσ9, h⟩ := lt_some h
  refine k_sig hσ9 ?_
  refine k_aload_n hF dX11_toggle_41 rfl ?_
  refine k_get hF (v := .ref (B + 21)) shR_0 fl_X11_72_X11 dX11_toggle_42 rfl ?_
  refine k_iload_n hF dX11_toggle_45 rfl ?_
  obtain ⟨g10, h⟩ := gd_some h
  refine k_zald hF shR_21 dX11_toggle_46 g10 ?_
  refine k_if_ne hF (tgt := 54) dX11_toggle_47 (by decide) (fun c11 => ?_) (fun c11 => ?_)
  · replace h := ite_f c11 h
    refine k_iconst hF dX11_toggle_54 ci_0 ?_
    cases h
    exact hr _ _ nar_0 dX11_toggle_55
  · replace h := ite_t c11 h
    refine k_iconst hF dX11_toggle_50 ci_1 ?_
    refine k_goto hF dX11_toggle_51 (tgt := 55) (by decide) ?_
    cases h
    exact hr _ _ nar_1 dX11_toggle_55
set_option maxHeartbeats 4000000 in
set_option maxRecDepth 100000 in
theorem wX11_toggle_j13 {p : Program} {l : Launch} {e : Env} {s : State} {m : MethodId} {args : Array Value} {below : List Frame} {meth : Method} {c : Code} {Q : State → Prop} {A : Nat → Prop} {D : DD} {base B : Nat} (hF : KF D base cX11_toggle RX11 A 2 0 0 p l e ({ frames := 2, cells := 0, slots := 0, locals := 42 } : Room) s m args below meth c) (hA : ∀ q, RA B shpR q → A q) (hbs : base ≤ B) {σ : St} {a1 : Int32} {t0 : Int32} {z : (Int32 × St)} (h : fX11_toggle_j13 σ a1 t0 = some z) (hr : ∀ (pc : Nat) (L : List (Option Value)), narrow .boolean (.int z.1) = .int z.1 → decode cX11_toggle pc = .ok (.ireturn, 1) → KJ (Rep D B shpR) A 2 0 0 Q p l e ({ frames := 2, cells := 0, slots := 0, locals := 42 } : Room) s m args below meth c 0 0 pc L [.int z.1] z.2) : KJ (Rep D B shpR) A 2 0 0 Q p l e ({ frames := 2, cells := 0, slots := 0, locals := 42 } : Room) s m args below meth c 0 0 13 [some (.ref (B + 0)), some (.int a1)] [.int t0, .ref (B + 0)] σ := by
  unfold fX11_toggle_j13 at h
  obtain ⟨v3, hv3, h⟩ := bind_some h
  refine k_callV hF hA (as := [.int t0]) (ct_X11_fails hbs hv3) mv_X11_181 shR_0 rfl rfl rfl ⟨Nat.le_of_ble_eq_true rfl, Nat.le_of_ble_eq_true rfl⟩ (Nat.le_of_ble_eq_true rfl) dX11_toggle_13 ?_
  refine k_st (st2 := [.int v3.1]) rfl ?_
  refine k_if_eq hF (tgt := 21) dX11_toggle_16 (by decide) (fun c4 => ?_) (fun c4 => ?_)
  · replace h := ite_t c4 h
    refine k_aload_n hF dX11_toggle_21 rfl ?_
    refine k_get hF (v := .ref (B + 21)) shR_0 fl_X11_72_X11 dX11_toggle_22 rfl ?_
    refine k_iload_n hF dX11_toggle_25 rfl ?_
    refine k_aload_n hF dX11_toggle_26 rfl ?_
    refine k_get hF (v := .ref (B + 21)) shR_0 fl_X11_72_X11 dX11_toggle_27 rfl ?_
    refine k_iload_n hF dX11_toggle_30 rfl ?_
    obtain ⟨g5, h⟩ := gd_some h
    refine k_zald hF shR_21 dX11_toggle_31 g5 ?_
    refine k_if_ne hF (tgt := 39) dX11_toggle_32 (by decide) (fun c6 => ?_) (fun c6 => ?_)
    · replace h := ite_f c6 h
      refine k_iconst hF dX11_toggle_39 ci_0 ?_
      exact wX11_toggle_j40 hF hA hbs h hr
    · replace h := ite_t c6 h
      refine k_iconst hF dX11_toggle_35 ci_1 ?_
      refine k_goto hF dX11_toggle_36 (tgt := 40) (by decide) ?_
      exact wX11_toggle_j40 hF hA hbs h hr
  · replace h := ite_f c4 h
    refine k_iconst hF dX11_toggle_19 ci_0 ?_
    cases h
    exact hr _ _ nar_0 dX11_toggle_20
set_option maxHeartbeats 4000000 in
set_option maxRecDepth 100000 in
theorem wX11_toggle {p : Program} {l : Launch} {e : Env} {s : State} {m : MethodId} {args : Array Value} {below : List Frame} {meth : Method} {c : Code} {Q : State → Prop} {A : Nat → Prop} {D : DD} {base B : Nat} (hF : KF D base cX11_toggle RX11 A 2 0 0 p l e ({ frames := 2, cells := 0, slots := 0, locals := 42 } : Room) s m args below meth c) (hA : ∀ q, RA B shpR q → A q) (hbs : base ≤ B) {σ : St} {a1 : Int32} {z : (Int32 × St)} (h : fX11_toggle σ a1 = some z) (hr : ∀ (pc : Nat) (L : List (Option Value)), narrow .boolean (.int z.1) = .int z.1 → decode cX11_toggle pc = .ok (.ireturn, 1) → KJ (Rep D B shpR) A 2 0 0 Q p l e ({ frames := 2, cells := 0, slots := 0, locals := 42 } : Room) s m args below meth c 0 0 pc L [.int z.1] z.2) : KJ (Rep D B shpR) A 2 0 0 Q p l e ({ frames := 2, cells := 0, slots := 0, locals := 42 } : Room) s m args below meth c 0 0 0 [some (.ref (B + 0)), some (.int a1)] [] σ := by
  unfold fX11_toggle at h
  refine k_aload_n hF dX11_toggle_0 rfl ?_
  refine k_iload_n hF dX11_toggle_1 rfl ?_
  obtain ⟨v1, hv1, h⟩ := bind_some h
  refine k_callS hF hA (as := [.int a1]) (ct_X11_isMachine hbs hv1) ms_X11_208 rfl rfl ⟨Nat.le_of_ble_eq_true rfl, Nat.le_of_ble_eq_true rfl⟩ (Nat.le_of_ble_eq_true rfl) dX11_toggle_2 ?_
  refine k_st (st2 := [.int v1, .ref (B + 0)]) rfl ?_
  refine k_if_eq hF (tgt := 12) dX11_toggle_5 (by decide) (fun c2 => ?_) (fun c2 => ?_)
  · replace h := ite_t c2 h
    refine k_iconst hF dX11_toggle_12 ci_1 ?_
    exact wX11_toggle_j13 hF hA hbs h hr
  · replace h := ite_f c2 h
    refine k_iconst hF dX11_toggle_8 ci_0 ?_
    refine k_goto hF dX11_toggle_9 (tgt := 13) (by decide) ?_
    exact wX11_toggle_j13 hF hA hbs h hr
theorem ct_X11_toggle {l : Launch} {D : DD} {base B : Nat} (hbs : base ≤ B) {σ : St} {a1 : Int32} {r : (Int32 × St)} (h : fX11_toggle σ a1 = some r) : MetR l D B shpR base yX11_toggle cX11_toggle 2 (some .boolean) 2 42 [.ref (B + 0), .int a1] σ (some (.int r.1)) r.2 :=
  MetR.of (by decide +kernel) (fun v hv => by simp only [List.mem_cons, List.not_mem_nil, or_false] at hv; rcases hv with rfl | rfl <;> rfl) (Nat.le_of_ble_eq_true rfl) hbs (fun p e s m args below meth c hF hr => wX11_toggle hF (fun q hq => hq) hbs h (fun pc L hn hd => k_iret hF hr hn hd))
set_option maxHeartbeats 4000000 in
set_option maxRecDepth 100000 in
theorem wX11_machine_j14 {p : Program} {l : Launch} {e : Env} {s : State} {m : MethodId} {args : Array Value} {below : List Frame} {meth : Method} {c : Code} {Q : State → Prop} {A : Nat → Prop} {D : DD} {base B : Nat} (hF : KF D base cX11_machine RX11 A 2 0 0 p l e ({ frames := 2, cells := 0, slots := 0, locals := 43 } : Room) s m args below meth c) (hA : ∀ q, RA B shpR q → A q) (hbs : base ≤ B) {σ : St} {a1 : Int32} {t0 : Int32} {z : (Int32 × St)} (h : fX11_machine_j14 σ a1 t0 = some z) (hr : ∀ (pc : Nat) (L : List (Option Value)), narrow .int (.int z.1) = .int z.1 → decode cX11_machine pc = .ok (.ireturn, 1) → KJ (Rep D B shpR) A 2 0 0 Q p l e ({ frames := 2, cells := 0, slots := 0, locals := 43 } : Room) s m args below meth c 0 0 pc L [.int z.1] z.2) : KJ (Rep D B shpR) A 2 0 0 Q p l e ({ frames := 2, cells := 0, slots := 0, locals := 43 } : Room) s m args below meth c 0 0 14 [some (.ref (B + 0)), some (.int a1)] [.int t0, .ref (B + 0)] σ := by
  unfold fX11_machine_j14 at h
  obtain ⟨v3, hv3, h⟩ := bind_some h
  refine k_callV hF hA (as := [.int t0]) (ct_X11_fails hbs hv3) mv_X11_181 shR_0 rfl rfl rfl ⟨Nat.le_of_ble_eq_true rfl, Nat.le_of_ble_eq_true rfl⟩ (Nat.le_of_ble_eq_true rfl) dX11_machine_14 ?_
  refine k_st (st2 := [.int v3.1]) rfl ?_
  refine k_if_eq hF (tgt := 24) dX11_machine_17 (by decide) (fun c4 => ?_) (fun c4 => ?_)
  · replace h := ite_t c4 h
    refine k_aload_n hF dX11_machine_24 rfl ?_
    refine k_get hF (v := .ref (B + 3)) shR_0 fl_X11_16_X11 dX11_machine_25 rfl ?_
    refine k_iload_n hF dX11_machine_28 rfl ?_
    obtain ⟨g5, h⟩ := gd_some h
    refine k_iald hF shR_3 dX11_machine_29 g5 ?_
    cases h
    exact hr _ _ rfl dX11_machine_30
  · replace h := ite_f c4 h
    refine k_iconst hF dX11_machine_20 ci_0 ?_
    refine k_goto hF dX11_machine_21 (tgt := 30) (by decide) ?_
    cases h
    exact hr _ _ rfl dX11_machine_30
set_option maxHeartbeats 4000000 in
set_option maxRecDepth 100000 in
theorem wX11_machine {p : Program} {l : Launch} {e : Env} {s : State} {m : MethodId} {args : Array Value} {below : List Frame} {meth : Method} {c : Code} {Q : State → Prop} {A : Nat → Prop} {D : DD} {base B : Nat} (hF : KF D base cX11_machine RX11 A 2 0 0 p l e ({ frames := 2, cells := 0, slots := 0, locals := 43 } : Room) s m args below meth c) (hA : ∀ q, RA B shpR q → A q) (hbs : base ≤ B) {σ : St} {a1 : Int32} {z : (Int32 × St)} (h : fX11_machine σ a1 = some z) (hr : ∀ (pc : Nat) (L : List (Option Value)), narrow .int (.int z.1) = .int z.1 → decode cX11_machine pc = .ok (.ireturn, 1) → KJ (Rep D B shpR) A 2 0 0 Q p l e ({ frames := 2, cells := 0, slots := 0, locals := 43 } : Room) s m args below meth c 0 0 pc L [.int z.1] z.2) : KJ (Rep D B shpR) A 2 0 0 Q p l e ({ frames := 2, cells := 0, slots := 0, locals := 43 } : Room) s m args below meth c 0 0 0 [some (.ref (B + 0)), some (.int a1)] [] σ := by
  unfold fX11_machine at h
  refine k_aload_n hF dX11_machine_0 rfl ?_
  refine k_aload_n hF dX11_machine_1 rfl ?_
  refine k_iload_n hF dX11_machine_2 rfl ?_
  obtain ⟨v1, hv1, h⟩ := bind_some h
  refine k_callV hF hA (as := [.int a1]) (ct_X11_isNode hbs hv1) mv_X11_163 shR_0 rfl rfl rfl ⟨Nat.le_of_ble_eq_true rfl, Nat.le_of_ble_eq_true rfl⟩ (Nat.le_of_ble_eq_true rfl) dX11_machine_3 ?_
  refine k_st (st2 := [.int v1, .ref (B + 0)]) rfl ?_
  refine k_if_eq hF (tgt := 13) dX11_machine_6 (by decide) (fun c2 => ?_) (fun c2 => ?_)
  · replace h := ite_t c2 h
    refine k_iconst hF dX11_machine_13 ci_1 ?_
    exact wX11_machine_j14 hF hA hbs h hr
  · replace h := ite_f c2 h
    refine k_iconst hF dX11_machine_9 ci_0 ?_
    refine k_goto hF dX11_machine_10 (tgt := 14) (by decide) ?_
    exact wX11_machine_j14 hF hA hbs h hr
theorem ct_X11_machine {l : Launch} {D : DD} {base B : Nat} (hbs : base ≤ B) {σ : St} {a1 : Int32} {r : (Int32 × St)} (h : fX11_machine σ a1 = some r) : MetR l D B shpR base yX11_machine cX11_machine 2 (some .int) 2 43 [.ref (B + 0), .int a1] σ (some (.int r.1)) r.2 :=
  MetR.of (by decide +kernel) (fun v hv => by simp only [List.mem_cons, List.not_mem_nil, or_false] at hv; rcases hv with rfl | rfl <;> rfl) (Nat.le_of_ble_eq_true rfl) hbs (fun p e s m args below meth c hF hr => wX11_machine hF (fun q hq => hq) hbs h (fun pc L hn hd => k_iret hF hr hn hd))
set_option maxHeartbeats 4000000 in
set_option maxRecDepth 100000 in
theorem wX11_cut {p : Program} {l : Launch} {e : Env} {s : State} {m : MethodId} {args : Array Value} {below : List Frame} {meth : Method} {c : Code} {Q : State → Prop} {A : Nat → Prop} {D : DD} {base B : Nat} (hF : KF D base cX11_cut RX11 A 1 0 0 p l e ({ frames := 3, cells := 0, slots := 0, locals := 65 } : Room) s m args below meth c) (hA : ∀ q, RA B shpR q → A q) (hbs : base ≤ B) {σ : St} {z : (Int32 × St)} (h : fX11_cut σ = some z) (hr : ∀ (pc : Nat) (L : List (Option Value)), narrow .int (.int z.1) = .int z.1 → decode cX11_cut pc = .ok (.ireturn, 1) → KJ (Rep D B shpR) A 1 0 0 Q p l e ({ frames := 3, cells := 0, slots := 0, locals := 65 } : Room) s m args below meth c 0 0 pc L [.int z.1] z.2) : KJ (Rep D B shpR) A 1 0 0 Q p l e ({ frames := 3, cells := 0, slots := 0, locals := 65 } : Room) s m args below meth c 0 0 0 [some (.ref (B + 0))] [] σ := by
  unfold fX11_cut at h
  refine k_aload_n hF dX11_cut_0 rfl ?_
  refine k_iconst hF dX11_cut_1 ci_0 ?_
  refine k_putI hF hA shR_0 fp_X11_138_X11 dX11_cut_2 rfl rfl rfl ?_
  obtain ⟨σ1, hσ1, h⟩ := lt_some h
  refine k_sig hσ1 ?_
  refine k_aload_n hF dX11_cut_5 rfl ?_
  obtain ⟨v2, hv2, h⟩ := bind_some h
  refine k_callV hF hA (as := []) (ct_X11_cuts hbs hv2) mv_X11_211 shR_0 rfl rfl rfl ⟨Nat.le_of_ble_eq_true rfl, Nat.le_of_ble_eq_true rfl⟩ (Nat.le_of_ble_eq_true rfl) dX11_cut_6 ?_
  refine k_st (st2 := [.int v2]) rfl ?_
  cases h
  exact hr _ _ rfl dX11_cut_9
theorem ct_X11_cut {l : Launch} {D : DD} {base B : Nat} (hbs : base ≤ B) {σ : St} {r : (Int32 × St)} (h : fX11_cut σ = some r) : MetR l D B shpR base yX11_cut cX11_cut 1 (some .int) 3 65 [.ref (B + 0)] σ (some (.int r.1)) r.2 :=
  MetR.of (by decide +kernel) (fun v hv => by simp only [List.mem_cons, List.not_mem_nil, or_false] at hv; rcases hv with rfl <;> rfl) (Nat.le_of_ble_eq_true rfl) hbs (fun p e s m args below meth c hF hr => wX11_cut hF (fun q hq => hq) hbs h (fun pc L hn hd => k_iret hF hr hn hd))
set_option maxHeartbeats 4000000 in
set_option maxRecDepth 100000 in
theorem wX11_copies_j131 {p : Program} {l : Launch} {e : Env} {s : State} {m : MethodId} {args : Array Value} {below : List Frame} {meth : Method} {c : Code} {Q : State → Prop} {A : Nat → Prop} {D : DD} {base B : Nat} (hF : KF D base cX11_copies RX11 A 4 0 0 p l e ({ frames := 2, cells := 0, slots := 0, locals := 43 } : Room) s m args below meth c) (hA : ∀ q, RA B shpR q → A q) (hbs : base ≤ B) {σ : St} {a1 : Int32} {b2 : Int32} {b3 : Int32} {z : ((Int32 × Int32) ⊕ (Int32 × Int32))} (h : fX11_copies_j131 σ a1 b2 b3 = some z) (hc : ∀ x, z = .inl x → KJ (Rep D B shpR) A 4 0 0 Q p l e ({ frames := 2, cells := 0, slots := 0, locals := 43 } : Room) s m args below meth c 0 0 25 [some (.ref (B + 0)), some (.int a1), some (.int x.1), some (.int x.2)] [] σ) (he : ∀ w, z = .inr w → KJ (Rep D B shpR) A 4 0 0 Q p l e ({ frames := 2, cells := 0, slots := 0, locals := 43 } : Room) s m args below meth c 0 0 137 [some (.ref (B + 0)), some (.int a1), some (.int w.1), some (.int w.2)] [] σ) : KJ (Rep D B shpR) A 4 0 0 Q p l e ({ frames := 2, cells := 0, slots := 0, locals := 43 } : Room) s m args below meth c 0 0 131 [some (.ref (B + 0)), some (.int a1), some (.int b2), some (.int b3)] [] σ := by
  unfold fX11_copies_j131 at h
  refine k_iinc hF (v := (b3 + (1 : Int32))) (L' := [some (.ref (B + 0)), some (.int a1), some (.int b2), some (.int (b3 + (1 : Int32)))]) dX11_copies_131 rfl (by first | rfl | (congr 1)) (by decide) rfl ?_
  refine k_goto hF dX11_copies_134 (tgt := 25) (by decide) ?_
  exact hc _ (Option.some.inj h).symm
set_option maxHeartbeats 4000000 in
set_option maxRecDepth 100000 in
theorem wX11_copies_j129 {p : Program} {l : Launch} {e : Env} {s : State} {m : MethodId} {args : Array Value} {below : List Frame} {meth : Method} {c : Code} {Q : State → Prop} {A : Nat → Prop} {D : DD} {base B : Nat} (hF : KF D base cX11_copies RX11 A 4 0 0 p l e ({ frames := 2, cells := 0, slots := 0, locals := 43 } : Room) s m args below meth c) (hA : ∀ q, RA B shpR q → A q) (hbs : base ≤ B) {σ : St} {a1 : Int32} {b3 : Int32} {t0 : Int32} {t1 : Int32} {z : ((Int32 × Int32) ⊕ (Int32 × Int32))} (h : fX11_copies_j129 σ a1 b3 t0 t1 = some z) (hc : ∀ x, z = .inl x → KJ (Rep D B shpR) A 4 0 0 Q p l e ({ frames := 2, cells := 0, slots := 0, locals := 43 } : Room) s m args below meth c 0 0 25 [some (.ref (B + 0)), some (.int a1), some (.int x.1), some (.int x.2)] [] σ) (he : ∀ w, z = .inr w → KJ (Rep D B shpR) A 4 0 0 Q p l e ({ frames := 2, cells := 0, slots := 0, locals := 43 } : Room) s m args below meth c 0 0 137 [some (.ref (B + 0)), some (.int a1), some (.int w.1), some (.int w.2)] [] σ) : KJ (Rep D B shpR) A 4 0 0 Q p l e ({ frames := 2, cells := 0, slots := 0, locals := 43 } : Room) s m args below meth c 0 0 129 [some (.ref (B + 0)), some (.int a1), none, some (.int b3)] [.int t0, .int t1] σ := by
  unfold fX11_copies_j129 at h
  refine k_ior hF dX11_copies_129 ?_
  refine k_istore_n hF (L' := [some (.ref (B + 0)), some (.int a1), some (.int (t1 ||| t0)), some (.int b3)]) dX11_copies_130 (by decide) rfl ?_
  exact wX11_copies_j131 hF hA hbs h hc he
set_option maxHeartbeats 4000000 in
set_option maxRecDepth 100000 in
theorem wX11_copies_j128 {p : Program} {l : Launch} {e : Env} {s : State} {m : MethodId} {args : Array Value} {below : List Frame} {meth : Method} {c : Code} {Q : State → Prop} {A : Nat → Prop} {D : DD} {base B : Nat} (hF : KF D base cX11_copies RX11 A 4 0 0 p l e ({ frames := 2, cells := 0, slots := 0, locals := 43 } : Room) s m args below meth c) (hA : ∀ q, RA B shpR q → A q) (hbs : base ≤ B) {σ : St} {a1 : Int32} {b3 : Int32} {t0 : Int32} {z : ((Int32 × Int32) ⊕ (Int32 × Int32))} (h : fX11_copies_j128 σ a1 b3 t0 = some z) (hc : ∀ x, z = .inl x → KJ (Rep D B shpR) A 4 0 0 Q p l e ({ frames := 2, cells := 0, slots := 0, locals := 43 } : Room) s m args below meth c 0 0 25 [some (.ref (B + 0)), some (.int a1), some (.int x.1), some (.int x.2)] [] σ) (he : ∀ w, z = .inr w → KJ (Rep D B shpR) A 4 0 0 Q p l e ({ frames := 2, cells := 0, slots := 0, locals := 43 } : Room) s m args below meth c 0 0 137 [some (.ref (B + 0)), some (.int a1), some (.int w.1), some (.int w.2)] [] σ) : KJ (Rep D B shpR) A 4 0 0 Q p l e ({ frames := 2, cells := 0, slots := 0, locals := 43 } : Room) s m args below meth c 0 0 128 [some (.ref (B + 0)), some (.int a1), none, some (.int b3)] [.int t0] σ := by
  unfold fX11_copies_j128 at h
  refine k_iconst hF dX11_copies_128 ci_0 ?_
  exact wX11_copies_j129 hF hA hbs h hc he
set_option maxHeartbeats 4000000 in
set_option maxRecDepth 100000 in
theorem wX11_copies_j84 {p : Program} {l : Launch} {e : Env} {s : State} {m : MethodId} {args : Array Value} {below : List Frame} {meth : Method} {c : Code} {Q : State → Prop} {A : Nat → Prop} {D : DD} {base B : Nat} (hF : KF D base cX11_copies RX11 A 4 0 0 p l e ({ frames := 2, cells := 0, slots := 0, locals := 43 } : Room) s m args below meth c) (hA : ∀ q, RA B shpR q → A q) (hbs : base ≤ B) {σ : St} {a1 : Int32} {b3 : Int32} {t0 : Int32} {t1 : Int32} {z : ((Int32 × Int32) ⊕ (Int32 × Int32))} (h : fX11_copies_j84 σ a1 b3 t0 t1 = some z) (hc : ∀ x, z = .inl x → KJ (Rep D B shpR) A 4 0 0 Q p l e ({ frames := 2, cells := 0, slots := 0, locals := 43 } : Room) s m args below meth c 0 0 25 [some (.ref (B + 0)), some (.int a1), some (.int x.1), some (.int x.2)] [] σ) (he : ∀ w, z = .inr w → KJ (Rep D B shpR) A 4 0 0 Q p l e ({ frames := 2, cells := 0, slots := 0, locals := 43 } : Room) s m args below meth c 0 0 137 [some (.ref (B + 0)), some (.int a1), some (.int w.1), some (.int w.2)] [] σ) : KJ (Rep D B shpR) A 4 0 0 Q p l e ({ frames := 2, cells := 0, slots := 0, locals := 43 } : Room) s m args below meth c 0 0 84 [some (.ref (B + 0)), some (.int a1), none, some (.int b3)] [.int t0, .int t1] σ := by
  unfold fX11_copies_j84 at h
  refine k_ior hF dX11_copies_84 ?_
  refine k_istore_n hF (L' := [some (.ref (B + 0)), some (.int a1), some (.int (t1 ||| t0)), some (.int b3)]) dX11_copies_85 (by decide) rfl ?_
  refine k_iload_n hF dX11_copies_86 rfl ?_
  refine k_aload_n hF dX11_copies_87 rfl ?_
  refine k_get hF (v := .ref (B + 3)) shR_0 fl_X11_16_X11 dX11_copies_88 rfl ?_
  refine k_aload_n hF dX11_copies_91 rfl ?_
  refine k_get hF (v := .ref (B + 14)) shR_0 fl_X11_51_X11 dX11_copies_92 rfl ?_
  refine k_iload_n hF dX11_copies_95 rfl ?_
  obtain ⟨g11, h⟩ := gd_some h
  refine k_iald hF shR_14 dX11_copies_96 g11 ?_
  obtain ⟨g12, h⟩ := gd_some h
  refine k_iald hF shR_3 dX11_copies_97 g12 ?_
  refine k_iload_n hF dX11_copies_98 rfl ?_
  refine k_icmp_ne hF (tgt := 128) dX11_copies_99 (by decide) (fun c13 => ?_) (fun c13 => ?_)
  · replace h := ite_f c13 h
    refine k_kill 2 rfl ?_
    exact wX11_copies_j128 hF hA hbs h hc he
  · replace h := ite_t c13 h
    refine k_aload_n hF dX11_copies_102 rfl ?_
    refine k_get hF (v := .ref (B + 3)) shR_0 fl_X11_16_X11 dX11_copies_103 rfl ?_
    refine k_aload_n hF dX11_copies_106 rfl ?_
    refine k_get hF (v := .ref (B + 13)) shR_0 fl_X11_48_X11 dX11_copies_107 rfl ?_
    refine k_iload_n hF dX11_copies_110 rfl ?_
    obtain ⟨g14, h⟩ := gd_some h
    refine k_iald hF shR_13 dX11_copies_111 g14 ?_
    obtain ⟨g15, h⟩ := gd_some h
    refine k_iald hF shR_3 dX11_copies_112 g15 ?_
    refine k_iload_n hF dX11_copies_113 rfl ?_
    refine k_icmp_eq hF (tgt := 128) dX11_copies_114 (by decide) (fun c16 => ?_) (fun c16 => ?_)
    · replace h := ite_t c16 h
      refine k_kill 2 rfl ?_
      exact wX11_copies_j128 hF hA hbs h hc he
    · replace h := ite_f c16 h
      refine k_iconst hF dX11_copies_117 ci_1 ?_
      refine k_aload_n hF dX11_copies_118 rfl ?_
      refine k_get hF (v := .ref (B + 13)) shR_0 fl_X11_48_X11 dX11_copies_119 rfl ?_
      refine k_iload_n hF dX11_copies_122 rfl ?_
      obtain ⟨g17, h⟩ := gd_some h
      refine k_iald hF shR_13 dX11_copies_123 g17 ?_
      refine k_ishl hF dX11_copies_124 ?_
      refine k_goto hF dX11_copies_125 (tgt := 129) (by decide) ?_
      refine k_kill 2 rfl ?_
      exact wX11_copies_j129 hF hA hbs h hc he
set_option maxHeartbeats 4000000 in
set_option maxRecDepth 100000 in
theorem wX11_copies_j83 {p : Program} {l : Launch} {e : Env} {s : State} {m : MethodId} {args : Array Value} {below : List Frame} {meth : Method} {c : Code} {Q : State → Prop} {A : Nat → Prop} {D : DD} {base B : Nat} (hF : KF D base cX11_copies RX11 A 4 0 0 p l e ({ frames := 2, cells := 0, slots := 0, locals := 43 } : Room) s m args below meth c) (hA : ∀ q, RA B shpR q → A q) (hbs : base ≤ B) {σ : St} {a1 : Int32} {b3 : Int32} {t0 : Int32} {z : ((Int32 × Int32) ⊕ (Int32 × Int32))} (h : fX11_copies_j83 σ a1 b3 t0 = some z) (hc : ∀ x, z = .inl x → KJ (Rep D B shpR) A 4 0 0 Q p l e ({ frames := 2, cells := 0, slots := 0, locals := 43 } : Room) s m args below meth c 0 0 25 [some (.ref (B + 0)), some (.int a1), some (.int x.1), some (.int x.2)] [] σ) (he : ∀ w, z = .inr w → KJ (Rep D B shpR) A 4 0 0 Q p l e ({ frames := 2, cells := 0, slots := 0, locals := 43 } : Room) s m args below meth c 0 0 137 [some (.ref (B + 0)), some (.int a1), some (.int w.1), some (.int w.2)] [] σ) : KJ (Rep D B shpR) A 4 0 0 Q p l e ({ frames := 2, cells := 0, slots := 0, locals := 43 } : Room) s m args below meth c 0 0 83 [some (.ref (B + 0)), some (.int a1), none, some (.int b3)] [.int t0] σ := by
  unfold fX11_copies_j83 at h
  refine k_iconst hF dX11_copies_83 ci_0 ?_
  exact wX11_copies_j84 hF hA hbs h hc he
set_option maxHeartbeats 4000000 in
set_option maxRecDepth 100000 in
theorem wX11_copies_l25 {p : Program} {l : Launch} {e : Env} {s : State} {m : MethodId} {args : Array Value} {below : List Frame} {meth : Method} {c : Code} {Q : State → Prop} {A : Nat → Prop} {D : DD} {base B : Nat} (hF : KF D base cX11_copies RX11 A 4 0 0 p l e ({ frames := 2, cells := 0, slots := 0, locals := 43 } : Room) s m args below meth c) (hA : ∀ q, RA B shpR q → A q) (hbs : base ≤ B) {σ : St} {a1 : Int32} {x : (Int32 × Int32)} {z : ((Int32 × Int32) ⊕ (Int32 × Int32))} (h : fX11_copies_l25 σ a1 x = some z) (hc : ∀ x, z = .inl x → KJ (Rep D B shpR) A 4 0 0 Q p l e ({ frames := 2, cells := 0, slots := 0, locals := 43 } : Room) s m args below meth c 0 0 25 [some (.ref (B + 0)), some (.int a1), some (.int x.1), some (.int x.2)] [] σ) (he : ∀ w, z = .inr w → KJ (Rep D B shpR) A 4 0 0 Q p l e ({ frames := 2, cells := 0, slots := 0, locals := 43 } : Room) s m args below meth c 0 0 137 [some (.ref (B + 0)), some (.int a1), some (.int w.1), some (.int w.2)] [] σ) : KJ (Rep D B shpR) A 4 0 0 Q p l e ({ frames := 2, cells := 0, slots := 0, locals := 43 } : Room) s m args below meth c 0 0 25 [some (.ref (B + 0)), some (.int a1), some (.int x.1), some (.int x.2)] [] σ := by
  unfold fX11_copies_l25 at h
  refine k_iload_n hF dX11_copies_25 rfl ?_
  refine k_aload_n hF dX11_copies_26 rfl ?_
  refine k_get hF (v := .int (gi σ 0 15)) shR_0 fl_X11_154_X11 dX11_copies_27 rfl ?_
  refine k_icmp_ge hF (tgt := 137) dX11_copies_30 (by decide) (fun c5 => ?_) (fun c5 => ?_)
  · replace h := ite_t c5 h
    exact he _ (Option.some.inj h).symm
  · replace h := ite_f c5 h
    refine k_aload_n hF dX11_copies_33 rfl ?_
    refine k_iload_n hF dX11_copies_34 rfl ?_
    obtain ⟨v6, hv6, h⟩ := bind_some h
    refine k_callV hF hA (as := [.int x.2]) (ct_X11_isEdge hbs hv6) mv_X11_195 shR_0 rfl rfl rfl ⟨Nat.le_of_ble_eq_true rfl, Nat.le_of_ble_eq_true rfl⟩ (Nat.le_of_ble_eq_true rfl) dX11_copies_35 ?_
    refine k_st (st2 := [.int v6]) rfl ?_
    refine k_if_eq hF (tgt := 131) dX11_copies_38 (by decide) (fun c7 => ?_) (fun c7 => ?_)
    · replace h := ite_t c7 h
      exact wX11_copies_j131 hF hA hbs h hc he
    · replace h := ite_f c7 h
      refine k_iload_n hF dX11_copies_41 rfl ?_
      refine k_aload_n hF dX11_copies_42 rfl ?_
      refine k_get hF (v := .ref (B + 3)) shR_0 fl_X11_16_X11 dX11_copies_43 rfl ?_
      refine k_aload_n hF dX11_copies_46 rfl ?_
      refine k_get hF (v := .ref (B + 13)) shR_0 fl_X11_48_X11 dX11_copies_47 rfl ?_
      refine k_iload_n hF dX11_copies_50 rfl ?_
      obtain ⟨g8, h⟩ := gd_some h
      refine k_iald hF shR_13 dX11_copies_51 g8 ?_
      obtain ⟨g9, h⟩ := gd_some h
      refine k_iald hF shR_3 dX11_copies_52 g9 ?_
      refine k_iload_n hF dX11_copies_53 rfl ?_
      refine k_icmp_ne hF (tgt := 83) dX11_copies_54 (by decide) (fun c10 => ?_) (fun c10 => ?_)
      · replace h := ite_f c10 h
        refine k_kill 2 rfl ?_
        exact wX11_copies_j83 hF hA hbs h hc he
      · replace h := ite_t c10 h
        refine k_aload_n hF dX11_copies_57 rfl ?_
        refine k_get hF (v := .ref (B + 3)) shR_0 fl_X11_16_X11 dX11_copies_58 rfl ?_
        refine k_aload_n hF dX11_copies_61 rfl ?_
        refine k_get hF (v := .ref (B + 14)) shR_0 fl_X11_51_X11 dX11_copies_62 rfl ?_
        refine k_iload_n hF dX11_copies_65 rfl ?_
        obtain ⟨g18, h⟩ := gd_some h
        refine k_iald hF shR_14 dX11_copies_66 g18 ?_
        obtain ⟨g19, h⟩ := gd_some h
        refine k_iald hF shR_3 dX11_copies_67 g19 ?_
        refine k_iload_n hF dX11_copies_68 rfl ?_
        refine k_icmp_eq hF (tgt := 83) dX11_copies_69 (by decide) (fun c20 => ?_) (fun c20 => ?_)
        · replace h := ite_t c20 h
          refine k_kill 2 rfl ?_
          exact wX11_copies_j83 hF hA hbs h hc he
        · replace h := ite_f c20 h
          refine k_iconst hF dX11_copies_72 ci_1 ?_
          refine k_aload_n hF dX11_copies_73 rfl ?_
          refine k_get hF (v := .ref (B + 14)) shR_0 fl_X11_51_X11 dX11_copies_74 rfl ?_
          refine k_iload_n hF dX11_copies_77 rfl ?_
          obtain ⟨g21, h⟩ := gd_some h
          refine k_iald hF shR_14 dX11_copies_78 g21 ?_
          refine k_ishl hF dX11_copies_79 ?_
          refine k_goto hF dX11_copies_80 (tgt := 84) (by decide) ?_
          refine k_kill 2 rfl ?_
          exact wX11_copies_j84 hF hA hbs h hc he
set_option maxHeartbeats 4000000 in
set_option maxRecDepth 100000 in
theorem wX11_copies_j13 {p : Program} {l : Launch} {e : Env} {s : State} {m : MethodId} {args : Array Value} {below : List Frame} {meth : Method} {c : Code} {Q : State → Prop} {A : Nat → Prop} {D : DD} {base B : Nat} (hF : KF D base cX11_copies RX11 A 4 0 0 p l e ({ frames := 2, cells := 0, slots := 0, locals := 43 } : Room) s m args below meth c) (hA : ∀ q, RA B shpR q → A q) (hbs : base ≤ B) {σ : St} {a1 : Int32} {t0 : Int32} {z : (Int32 × St)} (h : fX11_copies_j13 σ a1 t0 = some z) (hr : ∀ (pc : Nat) (L : List (Option Value)), narrow .int (.int z.1) = .int z.1 → decode cX11_copies pc = .ok (.ireturn, 1) → KJ (Rep D B shpR) A 4 0 0 Q p l e ({ frames := 2, cells := 0, slots := 0, locals := 43 } : Room) s m args below meth c 0 0 pc L [.int z.1] z.2) : KJ (Rep D B shpR) A 4 0 0 Q p l e ({ frames := 2, cells := 0, slots := 0, locals := 43 } : Room) s m args below meth c 0 0 13 [some (.ref (B + 0)), some (.int a1), none, none] [.int t0, .ref (B + 0)] σ := by
  unfold fX11_copies_j13 at h
  obtain ⟨v3, hv3, h⟩ := bind_some h
  refine k_callV hF hA (as := [.int t0]) (ct_X11_fails hbs hv3) mv_X11_181 shR_0 rfl rfl rfl ⟨Nat.le_of_ble_eq_true rfl, Nat.le_of_ble_eq_true rfl⟩ (Nat.le_of_ble_eq_true rfl) dX11_copies_13 ?_
  refine k_st (st2 := [.int v3.1]) rfl ?_
  refine k_if_eq hF (tgt := 21) dX11_copies_16 (by decide) (fun c4 => ?_) (fun c4 => ?_)
  · replace h := ite_t c4 h
    refine k_iconst hF dX11_copies_21 ci_0 ?_
    refine k_istore_n hF (L' := [some (.ref (B + 0)), some (.int a1), some (.int (0 : Int32)), none]) dX11_copies_22 (by decide) rfl ?_
    refine k_iconst hF dX11_copies_23 ci_0 ?_
    refine k_istore_n hF (L' := [some (.ref (B + 0)), some (.int a1), some (.int (0 : Int32)), some (.int (0 : Int32))]) dX11_copies_24 (by decide) rfl ?_
    obtain ⟨x22, hx22, h⟩ := bind_some h
    refine k_loop (P := fun xq => KJ (Rep D B shpR) A 4 0 0 Q p l e ({ frames := 2, cells := 0, slots := 0, locals := 43 } : Room) s m args below meth c 0 0 25 [some (.ref (B + 0)), some (.int a1), some (.int xq.1), some (.int xq.2)] [] v3.2) (C := fun xq => KJ (Rep D B shpR) A 4 0 0 Q p l e ({ frames := 2, cells := 0, slots := 0, locals := 43 } : Room) s m args below meth c 0 0 137 [some (.ref (B + 0)), some (.int a1), some (.int xq.1), some (.int xq.2)] [] v3.2) (fun x z hz hc he => wX11_copies_l25 hF hA hbs hz hc he) hx22 ?_
    show KJ (Rep D B shpR) A 4 0 0 Q p l e ({ frames := 2, cells := 0, slots := 0, locals := 43 } : Room) s m args below meth c 0 0 137 [some (.ref (B + 0)), some (.int a1), some (.int x22.1), some (.int x22.2)] [] v3.2
    refine k_iload_n hF dX11_copies_137 rfl ?_
    obtain ⟨v23, hv23, h⟩ := bind_some h
    refine k_callS hF hA (as := [.int x22.1]) (ct_X11_size hbs hv23) ms_X11_214 rfl rfl ⟨Nat.le_of_ble_eq_true rfl, Nat.le_of_ble_eq_true rfl⟩ (Nat.le_of_ble_eq_true rfl) dX11_copies_138 ?_
    refine k_st (st2 := [.int v23]) rfl ?_
    cases h
    exact hr _ _ rfl dX11_copies_141
  · replace h := ite_f c4 h
    refine k_iconst hF dX11_copies_19 ci_0 ?_
    cases h
    exact hr _ _ rfl dX11_copies_20
set_option maxHeartbeats 4000000 in
set_option maxRecDepth 100000 in
theorem wX11_copies {p : Program} {l : Launch} {e : Env} {s : State} {m : MethodId} {args : Array Value} {below : List Frame} {meth : Method} {c : Code} {Q : State → Prop} {A : Nat → Prop} {D : DD} {base B : Nat} (hF : KF D base cX11_copies RX11 A 4 0 0 p l e ({ frames := 2, cells := 0, slots := 0, locals := 43 } : Room) s m args below meth c) (hA : ∀ q, RA B shpR q → A q) (hbs : base ≤ B) {σ : St} {a1 : Int32} {z : (Int32 × St)} (h : fX11_copies σ a1 = some z) (hr : ∀ (pc : Nat) (L : List (Option Value)), narrow .int (.int z.1) = .int z.1 → decode cX11_copies pc = .ok (.ireturn, 1) → KJ (Rep D B shpR) A 4 0 0 Q p l e ({ frames := 2, cells := 0, slots := 0, locals := 43 } : Room) s m args below meth c 0 0 pc L [.int z.1] z.2) : KJ (Rep D B shpR) A 4 0 0 Q p l e ({ frames := 2, cells := 0, slots := 0, locals := 43 } : Room) s m args below meth c 0 0 0 [some (.ref (B + 0)), some (.int a1), none, none] [] σ := by
  unfold fX11_copies at h
  refine k_aload_n hF dX11_copies_0 rfl ?_
  refine k_iload_n hF dX11_copies_1 rfl ?_
  obtain ⟨v1, hv1, h⟩ := bind_some h
  refine k_callS hF hA (as := [.int a1]) (ct_X11_isMachine hbs hv1) ms_X11_208 rfl rfl ⟨Nat.le_of_ble_eq_true rfl, Nat.le_of_ble_eq_true rfl⟩ (Nat.le_of_ble_eq_true rfl) dX11_copies_2 ?_
  refine k_st (st2 := [.int v1, .ref (B + 0)]) rfl ?_
  refine k_if_eq hF (tgt := 12) dX11_copies_5 (by decide) (fun c2 => ?_) (fun c2 => ?_)
  · replace h := ite_t c2 h
    refine k_iconst hF dX11_copies_12 ci_1 ?_
    exact wX11_copies_j13 hF hA hbs h hr
  · replace h := ite_f c2 h
    refine k_iconst hF dX11_copies_8 ci_0 ?_
    refine k_goto hF dX11_copies_9 (tgt := 13) (by decide) ?_
    exact wX11_copies_j13 hF hA hbs h hr
theorem ct_X11_copies {l : Launch} {D : DD} {base B : Nat} (hbs : base ≤ B) {σ : St} {a1 : Int32} {r : (Int32 × St)} (h : fX11_copies σ a1 = some r) : MetR l D B shpR base yX11_copies cX11_copies 4 (some .int) 2 43 [.ref (B + 0), .int a1] σ (some (.int r.1)) r.2 :=
  MetR.of (by decide +kernel) (fun v hv => by simp only [List.mem_cons, List.not_mem_nil, or_false] at hv; rcases hv with rfl | rfl <;> rfl) (Nat.le_of_ble_eq_true rfl) hbs (fun p e s m args below meth c hF hr => wX11_copies hF (fun q hq => hq) hbs h (fun pc L hn hd => k_iret hF hr hn hd))
set_option maxHeartbeats 4000000 in
set_option maxRecDepth 100000 in
theorem wX11_begin_j22 {p : Program} {l : Launch} {e : Env} {s : State} {m : MethodId} {args : Array Value} {below : List Frame} {meth : Method} {c : Code} {Q : State → Prop} {A : Nat → Prop} {D : DD} {base B : Nat} (hF : KF D base cX11_begin RX11 A 3 0 0 p l e ({ frames := 1, cells := 0, slots := 0, locals := 21 } : Room) s m args below meth c) (hA : ∀ q, RA B shpR q → A q) (hbs : base ≤ B) {σ : St} {b2 : Int32} {t0 : Int32} {z : ((Int32 × Int32) ⊕ (Int32 × Int32))} (h : fX11_begin_j22 σ b2 t0 = some z) (hc : ∀ x, z = .inl x → KJ (Rep D B shpR) A 3 0 0 Q p l e ({ frames := 1, cells := 0, slots := 0, locals := 21 } : Room) s m args below meth c 0 0 4 [some (.ref (B + 0)), some (.int x.1), some (.int x.2)] [] σ) (he : ∀ w, z = .inr w → KJ (Rep D B shpR) A 3 0 0 Q p l e ({ frames := 1, cells := 0, slots := 0, locals := 21 } : Room) s m args below meth c 0 0 29 [some (.ref (B + 0)), some (.int w.1), some (.int w.2)] [] σ) : KJ (Rep D B shpR) A 3 0 0 Q p l e ({ frames := 1, cells := 0, slots := 0, locals := 21 } : Room) s m args below meth c 0 0 22 [some (.ref (B + 0)), none, some (.int b2)] [.int t0] σ := by
  unfold fX11_begin_j22 at h
  refine k_istore_n hF (L' := [some (.ref (B + 0)), some (.int t0), some (.int b2)]) dX11_begin_22 (by decide) rfl ?_
  refine k_iinc hF (v := (b2 + (-1 : Int32))) (L' := [some (.ref (B + 0)), some (.int t0), some (.int (b2 + (-1 : Int32)))]) dX11_begin_23 rfl (by first | rfl | (congr 1)) (by decide) rfl ?_
  refine k_goto hF dX11_begin_26 (tgt := 4) (by decide) ?_
  exact hc _ (Option.some.inj h).symm
set_option maxHeartbeats 4000000 in
set_option maxRecDepth 100000 in
theorem wX11_begin_l4 {p : Program} {l : Launch} {e : Env} {s : State} {m : MethodId} {args : Array Value} {below : List Frame} {meth : Method} {c : Code} {Q : State → Prop} {A : Nat → Prop} {D : DD} {base B : Nat} (hF : KF D base cX11_begin RX11 A 3 0 0 p l e ({ frames := 1, cells := 0, slots := 0, locals := 21 } : Room) s m args below meth c) (hA : ∀ q, RA B shpR q → A q) (hbs : base ≤ B) {σ : St} {x : (Int32 × Int32)} {z : ((Int32 × Int32) ⊕ (Int32 × Int32))} (h : fX11_begin_l4 σ x = some z) (hc : ∀ x, z = .inl x → KJ (Rep D B shpR) A 3 0 0 Q p l e ({ frames := 1, cells := 0, slots := 0, locals := 21 } : Room) s m args below meth c 0 0 4 [some (.ref (B + 0)), some (.int x.1), some (.int x.2)] [] σ) (he : ∀ w, z = .inr w → KJ (Rep D B shpR) A 3 0 0 Q p l e ({ frames := 1, cells := 0, slots := 0, locals := 21 } : Room) s m args below meth c 0 0 29 [some (.ref (B + 0)), some (.int w.1), some (.int w.2)] [] σ) : KJ (Rep D B shpR) A 3 0 0 Q p l e ({ frames := 1, cells := 0, slots := 0, locals := 21 } : Room) s m args below meth c 0 0 4 [some (.ref (B + 0)), some (.int x.1), some (.int x.2)] [] σ := by
  unfold fX11_begin_l4 at h
  refine k_iload_n hF dX11_begin_4 rfl ?_
  refine k_if_lt hF (tgt := 29) dX11_begin_5 (by decide) (fun c1 => ?_) (fun c1 => ?_)
  · replace h := ite_t c1 h
    exact he _ (Option.some.inj h).symm
  · replace h := ite_f c1 h
    refine k_aload_n hF dX11_begin_8 rfl ?_
    refine k_get hF (v := .ref (B + 22)) shR_0 fl_X11_75_X11 dX11_begin_9 rfl ?_
    refine k_iload_n hF dX11_begin_12 rfl ?_
    obtain ⟨g2, h⟩ := gd_some h
    refine k_zald hF shR_22 dX11_begin_13 g2 ?_
    refine k_if_eq hF (tgt := 21) dX11_begin_14 (by decide) (fun c3 => ?_) (fun c3 => ?_)
    · replace h := ite_t c3 h
      refine k_iload_n hF dX11_begin_21 rfl ?_
      refine k_kill 1 rfl ?_
      exact wX11_begin_j22 hF hA hbs h hc he
    · replace h := ite_f c3 h
      refine k_iload_n hF dX11_begin_17 rfl ?_
      refine k_goto hF dX11_begin_18 (tgt := 22) (by decide) ?_
      refine k_kill 1 rfl ?_
      exact wX11_begin_j22 hF hA hbs h hc he
set_option maxHeartbeats 4000000 in
set_option maxRecDepth 100000 in
theorem wX11_begin_l74 {p : Program} {l : Launch} {e : Env} {s : State} {m : MethodId} {args : Array Value} {below : List Frame} {meth : Method} {c : Code} {Q : State → Prop} {A : Nat → Prop} {D : DD} {base B : Nat} (hF : KF D base cX11_begin RX11 A 3 0 0 p l e ({ frames := 1, cells := 0, slots := 0, locals := 21 } : Room) s m args below meth c) (hA : ∀ q, RA B shpR q → A q) (hbs : base ≤ B) {σ : St} {ea1 : Int32} {x : (St × Int32)} {z : ((St × Int32) ⊕ (St × Int32))} (h : fX11_begin_l74 σ ea1 x = some z) (hc : ∀ x, z = .inl x → KJ (Rep D B shpR) A 3 0 0 Q p l e ({ frames := 1, cells := 0, slots := 0, locals := 21 } : Room) s m args below meth c 0 0 74 [some (.ref (B + 0)), some (.int ea1), some (.int x.2)] [] x.1) (he : ∀ w, z = .inr w → KJ (Rep D B shpR) A 3 0 0 Q p l e ({ frames := 1, cells := 0, slots := 0, locals := 21 } : Room) s m args below meth c 0 0 98 [some (.ref (B + 0)), some (.int ea1), some (.int w.2)] [] w.1) : KJ (Rep D B shpR) A 3 0 0 Q p l e ({ frames := 1, cells := 0, slots := 0, locals := 21 } : Room) s m args below meth c 0 0 74 [some (.ref (B + 0)), some (.int ea1), some (.int x.2)] [] x.1 := by
  unfold fX11_begin_l74 at h
  refine k_iload_n hF dX11_begin_74 rfl ?_
  refine k_bipush hF (v := (24 : Int32)) dX11_begin_75 (by decide) ?_
  refine k_icmp_ge hF (tgt := 98) dX11_begin_77 (by decide) (fun c14 => ?_) (fun c14 => ?_)
  · replace h := ite_t c14 h
    exact he _ (Option.some.inj h).symm
  · replace h := ite_f c14 h
    refine k_aload_n hF dX11_begin_80 rfl ?_
    refine k_get hF (v := .ref (B + 24)) shR_0 fl_X11_81_X11 dX11_begin_81 rfl ?_
    refine k_bipush hF (v := (24 : Int32)) dX11_begin_84 (by decide) ?_
    refine k_iload_n hF dX11_begin_86 rfl ?_
    refine k_imul hF dX11_begin_87 ?_
    refine k_iload_n hF dX11_begin_88 rfl ?_
    refine k_iadd hF dX11_begin_89 ?_
    refine k_iconst hF dX11_begin_90 ci_0 ?_
    obtain ⟨g15, h⟩ := gd_some h
    refine k_zast hF hA shR_24 dX11_begin_91 g15 rfl ?_
    obtain ⟨σ16, hσ16, h⟩ := lt_some h
    refine k_sig hσ16 ?_
    refine k_iinc hF (v := (x.2 + (1 : Int32))) (L' := [some (.ref (B + 0)), some (.int ea1), some (.int (x.2 + (1 : Int32)))]) dX11_begin_92 rfl (by first | rfl | (congr 1)) (by decide) rfl ?_
    refine k_goto hF dX11_begin_95 (tgt := 74) (by decide) ?_
    exact hc _ (Option.some.inj h).symm
set_option maxHeartbeats 4000000 in
set_option maxRecDepth 100000 in
theorem wX11_begin_l100 {p : Program} {l : Launch} {e : Env} {s : State} {m : MethodId} {args : Array Value} {below : List Frame} {meth : Method} {c : Code} {Q : State → Prop} {A : Nat → Prop} {D : DD} {base B : Nat} (hF : KF D base cX11_begin RX11 A 3 0 0 p l e ({ frames := 1, cells := 0, slots := 0, locals := 21 } : Room) s m args below meth c) (hA : ∀ q, RA B shpR q → A q) (hbs : base ≤ B) {σ : St} {ea1 : Int32} {x : (St × Int32)} {z : ((St × Int32) ⊕ (St × Int32))} (h : fX11_begin_l100 σ ea1 x = some z) (hc : ∀ x, z = .inl x → KJ (Rep D B shpR) A 3 0 0 Q p l e ({ frames := 1, cells := 0, slots := 0, locals := 21 } : Room) s m args below meth c 0 0 100 [some (.ref (B + 0)), some (.int ea1), some (.int x.2)] [] x.1) (he : ∀ w, z = .inr w → KJ (Rep D B shpR) A 3 0 0 Q p l e ({ frames := 1, cells := 0, slots := 0, locals := 21 } : Room) s m args below meth c 0 0 124 [some (.ref (B + 0)), some (.int ea1), some (.int w.2)] [] w.1) : KJ (Rep D B shpR) A 3 0 0 Q p l e ({ frames := 1, cells := 0, slots := 0, locals := 21 } : Room) s m args below meth c 0 0 100 [some (.ref (B + 0)), some (.int ea1), some (.int x.2)] [] x.1 := by
  unfold fX11_begin_l100 at h
  refine k_iload_n hF dX11_begin_100 rfl ?_
  refine k_bipush hF (v := (60 : Int32)) dX11_begin_101 (by decide) ?_
  refine k_icmp_ge hF (tgt := 124) dX11_begin_103 (by decide) (fun c18 => ?_) (fun c18 => ?_)
  · replace h := ite_t c18 h
    exact he _ (Option.some.inj h).symm
  · replace h := ite_f c18 h
    refine k_aload_n hF dX11_begin_106 rfl ?_
    refine k_get hF (v := .ref (B + 30)) shR_0 fl_X11_99_X11 dX11_begin_107 rfl ?_
    refine k_bipush hF (v := (60 : Int32)) dX11_begin_110 (by decide) ?_
    refine k_iload_n hF dX11_begin_112 rfl ?_
    refine k_imul hF dX11_begin_113 ?_
    refine k_iload_n hF dX11_begin_114 rfl ?_
    refine k_iadd hF dX11_begin_115 ?_
    refine k_iconst hF dX11_begin_116 ci_0 ?_
    obtain ⟨g19, h⟩ := gd_some h
    refine k_zast hF hA shR_30 dX11_begin_117 g19 rfl ?_
    obtain ⟨σ20, hσ20, h⟩ := lt_some h
    refine k_sig hσ20 ?_
    refine k_iinc hF (v := (x.2 + (1 : Int32))) (L' := [some (.ref (B + 0)), some (.int ea1), some (.int (x.2 + (1 : Int32)))]) dX11_begin_118 rfl (by first | rfl | (congr 1)) (by decide) rfl ?_
    refine k_goto hF dX11_begin_121 (tgt := 100) (by decide) ?_
    exact hc _ (Option.some.inj h).symm
set_option maxHeartbeats 4000000 in
set_option maxRecDepth 100000 in
theorem wX11_begin_j40 {p : Program} {l : Launch} {e : Env} {s : State} {m : MethodId} {args : Array Value} {below : List Frame} {meth : Method} {c : Code} {Q : State → Prop} {A : Nat → Prop} {D : DD} {base B : Nat} (hF : KF D base cX11_begin RX11 A 3 0 0 p l e ({ frames := 1, cells := 0, slots := 0, locals := 21 } : Room) s m args below meth c) (hA : ∀ q, RA B shpR q → A q) (hbs : base ≤ B) {σ : St} {b1 : Int32} {t0 : Int32} {z : (Int32 × St)} (h : fX11_begin_j40 σ b1 t0 = some z) (hr : ∀ (pc : Nat) (L : List (Option Value)), narrow .int (.int z.1) = .int z.1 → decode cX11_begin pc = .ok (.ireturn, 1) → KJ (Rep D B shpR) A 3 0 0 Q p l e ({ frames := 1, cells := 0, slots := 0, locals := 21 } : Room) s m args below meth c 0 0 pc L [.int z.1] z.2) : KJ (Rep D B shpR) A 3 0 0 Q p l e ({ frames := 1, cells := 0, slots := 0, locals := 21 } : Room) s m args below meth c 0 0 40 [some (.ref (B + 0)), some (.int b1), none] [.int t0, .ref (B + 0)] σ := by
  unfold fX11_begin_j40 at h
  obtain ⟨v6, hv6, h⟩ := bind_some h
  refine k_callV hF hA (as := [.int t0]) (ct_X11_fails hbs hv6) mv_X11_181 shR_0 rfl rfl rfl ⟨Nat.le_of_ble_eq_true rfl, Nat.le_of_ble_eq_true rfl⟩ (Nat.le_of_ble_eq_true rfl) dX11_begin_40 ?_
  refine k_st (st2 := [.int v6.1]) rfl ?_
  refine k_if_eq hF (tgt := 48) dX11_begin_43 (by decide) (fun c7 => ?_) (fun c7 => ?_)
  · replace h := ite_t c7 h
    refine k_aload_n hF dX11_begin_48 rfl ?_
    refine k_get hF (v := .ref (B + 22)) shR_0 fl_X11_75_X11 dX11_begin_49 rfl ?_
    refine k_iload_n hF dX11_begin_52 rfl ?_
    refine k_iconst hF dX11_begin_53 ci_1 ?_
    obtain ⟨g8, h⟩ := gd_some h
    refine k_zast hF hA shR_22 dX11_begin_54 g8 rfl ?_
    obtain ⟨σ9, hσ9, h⟩ := lt_some h
    refine k_sig hσ9 ?_
    refine k_aload_n hF dX11_begin_55 rfl ?_
    refine k_get hF (v := .ref (B + 23)) shR_0 fl_X11_78_X11 dX11_begin_56 rfl ?_
    refine k_iload_n hF dX11_begin_59 rfl ?_
    refine k_aload_n hF dX11_begin_60 rfl ?_
    refine k_get hF (v := .int (gi σ9 0 0)) shR_0 fl_X11_160_X11 dX11_begin_61 rfl ?_
    obtain ⟨g10, h⟩ := gd_some h
    refine k_iast hF hA shR_23 dX11_begin_64 g10 ?_
    obtain ⟨σ11, hσ11, h⟩ := lt_some h
    refine k_sig hσ11 ?_
    refine k_aload_n hF dX11_begin_65 rfl ?_
    refine k_get hF (v := .ref (B + 26)) shR_0 fl_X11_87_X11 dX11_begin_66 rfl ?_
    refine k_iload_n hF dX11_begin_69 rfl ?_
    refine k_iconst hF dX11_begin_70 ci_0 ?_
    obtain ⟨g12, h⟩ := gd_some h
    refine k_iast hF hA shR_26 dX11_begin_71 g12 ?_
    obtain ⟨σ13, hσ13, h⟩ := lt_some h
    refine k_sig hσ13 ?_
    refine k_iconst hF dX11_begin_72 ci_0 ?_
    refine k_istore_n hF (L' := [some (.ref (B + 0)), some (.int b1), some (.int (0 : Int32))]) dX11_begin_73 (by decide) rfl ?_
    obtain ⟨x17, hx17, h⟩ := bind_some h
    refine k_loop (P := fun xq => KJ (Rep D B shpR) A 3 0 0 Q p l e ({ frames := 1, cells := 0, slots := 0, locals := 21 } : Room) s m args below meth c 0 0 74 [some (.ref (B + 0)), some (.int b1), some (.int xq.2)] [] xq.1) (C := fun xq => KJ (Rep D B shpR) A 3 0 0 Q p l e ({ frames := 1, cells := 0, slots := 0, locals := 21 } : Room) s m args below meth c 0 0 98 [some (.ref (B + 0)), some (.int b1), some (.int xq.2)] [] xq.1) (fun x z hz hc he => wX11_begin_l74 hF hA hbs hz hc he) hx17 ?_
    show KJ (Rep D B shpR) A 3 0 0 Q p l e ({ frames := 1, cells := 0, slots := 0, locals := 21 } : Room) s m args below meth c 0 0 98 [some (.ref (B + 0)), some (.int b1), some (.int x17.2)] [] x17.1
    refine k_iconst hF dX11_begin_98 ci_0 ?_
    refine k_istore_n hF (L' := [some (.ref (B + 0)), some (.int b1), some (.int (0 : Int32))]) dX11_begin_99 (by decide) rfl ?_
    obtain ⟨x21, hx21, h⟩ := bind_some h
    refine k_loop (P := fun xq => KJ (Rep D B shpR) A 3 0 0 Q p l e ({ frames := 1, cells := 0, slots := 0, locals := 21 } : Room) s m args below meth c 0 0 100 [some (.ref (B + 0)), some (.int b1), some (.int xq.2)] [] xq.1) (C := fun xq => KJ (Rep D B shpR) A 3 0 0 Q p l e ({ frames := 1, cells := 0, slots := 0, locals := 21 } : Room) s m args below meth c 0 0 124 [some (.ref (B + 0)), some (.int b1), some (.int xq.2)] [] xq.1) (fun x z hz hc he => wX11_begin_l100 hF hA hbs hz hc he) hx21 ?_
    show KJ (Rep D B shpR) A 3 0 0 Q p l e ({ frames := 1, cells := 0, slots := 0, locals := 21 } : Room) s m args below meth c 0 0 124 [some (.ref (B + 0)), some (.int b1), some (.int x21.2)] [] x21.1
    refine k_iload_n hF dX11_begin_124 rfl ?_
    cases h
    exact hr _ _ rfl dX11_begin_125
  · replace h := ite_f c7 h
    refine k_iconst hF dX11_begin_46 ci_0 ?_
    cases h
    exact hr _ _ rfl dX11_begin_47
set_option maxHeartbeats 4000000 in
set_option maxRecDepth 100000 in
theorem wX11_begin {p : Program} {l : Launch} {e : Env} {s : State} {m : MethodId} {args : Array Value} {below : List Frame} {meth : Method} {c : Code} {Q : State → Prop} {A : Nat → Prop} {D : DD} {base B : Nat} (hF : KF D base cX11_begin RX11 A 3 0 0 p l e ({ frames := 1, cells := 0, slots := 0, locals := 21 } : Room) s m args below meth c) (hA : ∀ q, RA B shpR q → A q) (hbs : base ≤ B) {σ : St} {z : (Int32 × St)} (h : fX11_begin σ = some z) (hr : ∀ (pc : Nat) (L : List (Option Value)), narrow .int (.int z.1) = .int z.1 → decode cX11_begin pc = .ok (.ireturn, 1) → KJ (Rep D B shpR) A 3 0 0 Q p l e ({ frames := 1, cells := 0, slots := 0, locals := 21 } : Room) s m args below meth c 0 0 pc L [.int z.1] z.2) : KJ (Rep D B shpR) A 3 0 0 Q p l e ({ frames := 1, cells := 0, slots := 0, locals := 21 } : Room) s m args below meth c 0 0 0 [some (.ref (B + 0)), none, none] [] σ := by
  unfold fX11_begin at h
  refine k_iconst hF dX11_begin_0 ci_m1 ?_
  refine k_istore_n hF (L' := [some (.ref (B + 0)), some (.int (-1 : Int32)), none]) dX11_begin_1 (by decide) rfl ?_
  refine k_iconst hF dX11_begin_2 ci_3 ?_
  refine k_istore_n hF (L' := [some (.ref (B + 0)), some (.int (-1 : Int32)), some (.int (3 : Int32))]) dX11_begin_3 (by decide) rfl ?_
  obtain ⟨x4, hx4, h⟩ := bind_some h
  refine k_loop (P := fun xq => KJ (Rep D B shpR) A 3 0 0 Q p l e ({ frames := 1, cells := 0, slots := 0, locals := 21 } : Room) s m args below meth c 0 0 4 [some (.ref (B + 0)), some (.int xq.1), some (.int xq.2)] [] σ) (C := fun xq => KJ (Rep D B shpR) A 3 0 0 Q p l e ({ frames := 1, cells := 0, slots := 0, locals := 21 } : Room) s m args below meth c 0 0 29 [some (.ref (B + 0)), some (.int xq.1), some (.int xq.2)] [] σ) (fun x z hz hc he => wX11_begin_l4 hF hA hbs hz hc he) hx4 ?_
  show KJ (Rep D B shpR) A 3 0 0 Q p l e ({ frames := 1, cells := 0, slots := 0, locals := 21 } : Room) s m args below meth c 0 0 29 [some (.ref (B + 0)), some (.int x4.1), some (.int x4.2)] [] σ
  refine k_aload_n hF dX11_begin_29 rfl ?_
  refine k_iload_n hF dX11_begin_30 rfl ?_
  refine k_iconst hF dX11_begin_31 ci_m1 ?_
  refine k_icmp_ne hF (tgt := 39) dX11_begin_32 (by decide) (fun c5 => ?_) (fun c5 => ?_)
  · replace h := ite_f c5 h
    refine k_iconst hF dX11_begin_39 ci_0 ?_
    refine k_kill 2 rfl ?_
    exact wX11_begin_j40 hF hA hbs h hr
  · replace h := ite_t c5 h
    refine k_iconst hF dX11_begin_35 ci_1 ?_
    refine k_goto hF dX11_begin_36 (tgt := 40) (by decide) ?_
    refine k_kill 2 rfl ?_
    exact wX11_begin_j40 hF hA hbs h hr
theorem ct_X11_begin {l : Launch} {D : DD} {base B : Nat} (hbs : base ≤ B) {σ : St} {r : (Int32 × St)} (h : fX11_begin σ = some r) : MetR l D B shpR base yX11_begin cX11_begin 3 (some .int) 1 21 [.ref (B + 0)] σ (some (.int r.1)) r.2 :=
  MetR.of (by decide +kernel) (fun v hv => by simp only [List.mem_cons, List.not_mem_nil, or_false] at hv; rcases hv with rfl <;> rfl) (Nat.le_of_ble_eq_true rfl) hbs (fun p e s m args below meth c hF hr => wX11_begin hF (fun q hq => hq) hbs h (fun pc L hn hd => k_iret hF hr hn hd))
set_option maxHeartbeats 4000000 in
set_option maxRecDepth 100000 in
theorem wX11_isTransaction_j22 {p : Program} {l : Launch} {e : Env} {s : State} {m : MethodId} {args : Array Value} {below : List Frame} {meth : Method} {c : Code} {Q : State → Prop} {A : Nat → Prop} {D : DD} {base B : Nat} (hF : KF D base cX11_isTransaction RX11 A 2 0 0 p l e ({ frames := 1, cells := 0, slots := 0, locals := 22 } : Room) s m args below meth c) (hA : ∀ q, RA B shpR q → A q) (hbs : base ≤ B) {σ : St} {a1 : Int32} {z : Int32} (h : fX11_isTransaction_j22 σ a1 = some z) (hr : ∀ (pc : Nat) (L : List (Option Value)), narrow .boolean (.int z) = .int z → decode cX11_isTransaction pc = .ok (.ireturn, 1) → KJ (Rep D B shpR) A 2 0 0 Q p l e ({ frames := 1, cells := 0, slots := 0, locals := 22 } : Room) s m args below meth c 0 0 pc L [.int z] σ) : KJ (Rep D B shpR) A 2 0 0 Q p l e ({ frames := 1, cells := 0, slots := 0, locals := 22 } : Room) s m args below meth c 0 0 22 [some (.ref (B + 0)), some (.int a1)] [] σ := by
  unfold fX11_isTransaction_j22 at h
  refine k_iconst hF dX11_isTransaction_22 ci_0 ?_
  cases h
  exact hr _ _ nar_0 dX11_isTransaction_23
set_option maxHeartbeats 4000000 in
set_option maxRecDepth 100000 in
theorem wX11_isTransaction {p : Program} {l : Launch} {e : Env} {s : State} {m : MethodId} {args : Array Value} {below : List Frame} {meth : Method} {c : Code} {Q : State → Prop} {A : Nat → Prop} {D : DD} {base B : Nat} (hF : KF D base cX11_isTransaction RX11 A 2 0 0 p l e ({ frames := 1, cells := 0, slots := 0, locals := 22 } : Room) s m args below meth c) (hA : ∀ q, RA B shpR q → A q) (hbs : base ≤ B) {σ : St} {a1 : Int32} {z : Int32} (h : fX11_isTransaction σ a1 = some z) (hr : ∀ (pc : Nat) (L : List (Option Value)), narrow .boolean (.int z) = .int z → decode cX11_isTransaction pc = .ok (.ireturn, 1) → KJ (Rep D B shpR) A 2 0 0 Q p l e ({ frames := 1, cells := 0, slots := 0, locals := 22 } : Room) s m args below meth c 0 0 pc L [.int z] σ) : KJ (Rep D B shpR) A 2 0 0 Q p l e ({ frames := 1, cells := 0, slots := 0, locals := 22 } : Room) s m args below meth c 0 0 0 [some (.ref (B + 0)), some (.int a1)] [] σ := by
  unfold fX11_isTransaction at h
  refine k_iload_n hF dX11_isTransaction_0 rfl ?_
  refine k_iconst hF dX11_isTransaction_1 ci_0 ?_
  refine k_iconst hF dX11_isTransaction_2 ci_3 ?_
  obtain ⟨v1, hv1, h⟩ := bind_some h
  refine k_callS hF hA (as := [.int a1, .int (0 : Int32), .int (3 : Int32)]) (ct_X11_isIn hbs hv1) ms_X11_146 rfl rfl ⟨Nat.le_of_ble_eq_true rfl, Nat.le_of_ble_eq_true rfl⟩ (Nat.le_of_ble_eq_true rfl) dX11_isTransaction_3 ?_
  refine k_st (st2 := [.int v1]) rfl ?_
  refine k_if_eq hF (tgt := 22) dX11_isTransaction_6 (by decide) (fun c2 => ?_) (fun c2 => ?_)
  · replace h := ite_t c2 h
    exact wX11_isTransaction_j22 hF hA hbs h hr
  · replace h := ite_f c2 h
    refine k_aload_n hF dX11_isTransaction_9 rfl ?_
    refine k_get hF (v := .ref (B + 22)) shR_0 fl_X11_75_X11 dX11_isTransaction_10 rfl ?_
    refine k_iload_n hF dX11_isTransaction_13 rfl ?_
    obtain ⟨g3, h⟩ := gd_some h
    refine k_zald hF shR_22 dX11_isTransaction_14 g3 ?_
    refine k_if_eq hF (tgt := 22) dX11_isTransaction_15 (by decide) (fun c4 => ?_) (fun c4 => ?_)
    · replace h := ite_t c4 h
      exact wX11_isTransaction_j22 hF hA hbs h hr
    · replace h := ite_f c4 h
      refine k_iconst hF dX11_isTransaction_18 ci_1 ?_
      refine k_goto hF dX11_isTransaction_19 (tgt := 23) (by decide) ?_
      cases h
      exact hr _ _ nar_1 dX11_isTransaction_23
theorem ct_X11_isTransaction {l : Launch} {D : DD} {base B : Nat} (hbs : base ≤ B) {σ : St} {a1 : Int32} {r : Int32} (h : fX11_isTransaction σ a1 = some r) : MetR l D B shpR base yX11_isTransaction cX11_isTransaction 2 (some .boolean) 1 22 [.ref (B + 0), .int a1] σ (some (.int r)) σ :=
  MetR.of (by decide +kernel) (fun v hv => by simp only [List.mem_cons, List.not_mem_nil, or_false] at hv; rcases hv with rfl | rfl <;> rfl) (Nat.le_of_ble_eq_true rfl) hbs (fun p e s m args below meth c hF hr => wX11_isTransaction hF (fun q hq => hq) hbs h (fun pc L hn hd => k_iret hF hr hn hd))
set_option maxHeartbeats 4000000 in
set_option maxRecDepth 100000 in
theorem wX11_seesNode_j50 {p : Program} {l : Launch} {e : Env} {s : State} {m : MethodId} {args : Array Value} {below : List Frame} {meth : Method} {c : Code} {Q : State → Prop} {A : Nat → Prop} {D : DD} {base B : Nat} (hF : KF D base cX11_seesNode RX11 A 3 0 0 p l e ({ frames := 2, cells := 0, slots := 0, locals := 43 } : Room) s m args below meth c) (hA : ∀ q, RA B shpR q → A q) (hbs : base ≤ B) {σ : St} {a1 : Int32} {a2 : Int32} {z : Int32} (h : fX11_seesNode_j50 σ a1 a2 = some z) (hr : ∀ (pc : Nat) (L : List (Option Value)), narrow .boolean (.int z) = .int z → decode cX11_seesNode pc = .ok (.ireturn, 1) → KJ (Rep D B shpR) A 3 0 0 Q p l e ({ frames := 2, cells := 0, slots := 0, locals := 43 } : Room) s m args below meth c 0 0 pc L [.int z] σ) : KJ (Rep D B shpR) A 3 0 0 Q p l e ({ frames := 2, cells := 0, slots := 0, locals := 43 } : Room) s m args below meth c 0 0 50 [some (.ref (B + 0)), some (.int a1), some (.int a2)] [] σ := by
  unfold fX11_seesNode_j50 at h
  refine k_iconst hF dX11_seesNode_50 ci_0 ?_
  cases h
  exact hr _ _ nar_0 dX11_seesNode_51
set_option maxHeartbeats 4000000 in
set_option maxRecDepth 100000 in
theorem wX11_seesNode {p : Program} {l : Launch} {e : Env} {s : State} {m : MethodId} {args : Array Value} {below : List Frame} {meth : Method} {c : Code} {Q : State → Prop} {A : Nat → Prop} {D : DD} {base B : Nat} (hF : KF D base cX11_seesNode RX11 A 3 0 0 p l e ({ frames := 2, cells := 0, slots := 0, locals := 43 } : Room) s m args below meth c) (hA : ∀ q, RA B shpR q → A q) (hbs : base ≤ B) {σ : St} {a1 : Int32} {a2 : Int32} {z : Int32} (h : fX11_seesNode σ a1 a2 = some z) (hr : ∀ (pc : Nat) (L : List (Option Value)), narrow .boolean (.int z) = .int z → decode cX11_seesNode pc = .ok (.ireturn, 1) → KJ (Rep D B shpR) A 3 0 0 Q p l e ({ frames := 2, cells := 0, slots := 0, locals := 43 } : Room) s m args below meth c 0 0 pc L [.int z] σ) : KJ (Rep D B shpR) A 3 0 0 Q p l e ({ frames := 2, cells := 0, slots := 0, locals := 43 } : Room) s m args below meth c 0 0 0 [some (.ref (B + 0)), some (.int a1), some (.int a2)] [] σ := by
  unfold fX11_seesNode at h
  refine k_aload_n hF dX11_seesNode_0 rfl ?_
  refine k_iload_n hF dX11_seesNode_1 rfl ?_
  obtain ⟨v1, hv1, h⟩ := bind_some h
  refine k_callV hF hA (as := [.int a1]) (ct_X11_isTransaction hbs hv1) mv_X11_217 shR_0 rfl rfl rfl ⟨Nat.le_of_ble_eq_true rfl, Nat.le_of_ble_eq_true rfl⟩ (Nat.le_of_ble_eq_true rfl) dX11_seesNode_2 ?_
  refine k_st (st2 := [.int v1]) rfl ?_
  refine k_if_eq hF (tgt := 50) dX11_seesNode_5 (by decide) (fun c2 => ?_) (fun c2 => ?_)
  · replace h := ite_t c2 h
    exact wX11_seesNode_j50 hF hA hbs h hr
  · replace h := ite_f c2 h
    refine k_iload_n hF dX11_seesNode_8 rfl ?_
    refine k_iconst hF dX11_seesNode_9 ci_0 ?_
    refine k_aload_n hF dX11_seesNode_10 rfl ?_
    refine k_get hF (v := .int (gi σ 0 1)) shR_0 fl_X11_150_X11 dX11_seesNode_11 rfl ?_
    refine k_iconst hF dX11_seesNode_14 ci_1 ?_
    refine k_isub hF dX11_seesNode_15 ?_
    obtain ⟨v3, hv3, h⟩ := bind_some h
    refine k_callS hF hA (as := [.int a2, .int (0 : Int32), .int ((gi σ 0 1) - (1 : Int32))]) (ct_X11_isIn hbs hv3) ms_X11_146 rfl rfl ⟨Nat.le_of_ble_eq_true rfl, Nat.le_of_ble_eq_true rfl⟩ (Nat.le_of_ble_eq_true rfl) dX11_seesNode_16 ?_
    refine k_st (st2 := [.int v3]) rfl ?_
    refine k_if_eq hF (tgt := 50) dX11_seesNode_19 (by decide) (fun c4 => ?_) (fun c4 => ?_)
    · replace h := ite_t c4 h
      exact wX11_seesNode_j50 hF hA hbs h hr
    · replace h := ite_f c4 h
      refine k_aload_n hF dX11_seesNode_22 rfl ?_
      refine k_get hF (v := .ref (B + 4)) shR_0 fl_X11_19_X11 dX11_seesNode_23 rfl ?_
      refine k_iload_n hF dX11_seesNode_26 rfl ?_
      obtain ⟨g5, h⟩ := gd_some h
      refine k_iald hF shR_4 dX11_seesNode_27 g5 ?_
      refine k_aload_n hF dX11_seesNode_28 rfl ?_
      refine k_get hF (v := .ref (B + 5)) shR_0 fl_X11_22_X11 dX11_seesNode_29 rfl ?_
      refine k_iload_n hF dX11_seesNode_32 rfl ?_
      obtain ⟨g6, h⟩ := gd_some h
      refine k_iald hF shR_5 dX11_seesNode_33 g6 ?_
      refine k_aload_n hF dX11_seesNode_34 rfl ?_
      refine k_get hF (v := .ref (B + 23)) shR_0 fl_X11_78_X11 dX11_seesNode_35 rfl ?_
      refine k_iload_n hF dX11_seesNode_38 rfl ?_
      obtain ⟨g7, h⟩ := gd_some h
      refine k_iald hF shR_23 dX11_seesNode_39 g7 ?_
      obtain ⟨v8, hv8, h⟩ := bind_some h
      refine k_callS hF hA (as := [.int (gi σ 4 a2.toNatClampNeg), .int (gi σ 5 a2.toNatClampNeg), .int (gi σ 23 a1.toNatClampNeg)]) (ct_X11_wasThere hbs hv8) ms_X11_220 rfl rfl ⟨Nat.le_of_ble_eq_true rfl, Nat.le_of_ble_eq_true rfl⟩ (Nat.le_of_ble_eq_true rfl) dX11_seesNode_40 ?_
      refine k_st (st2 := [.int v8]) rfl ?_
      refine k_if_eq hF (tgt := 50) dX11_seesNode_43 (by decide) (fun c9 => ?_) (fun c9 => ?_)
      · replace h := ite_t c9 h
        exact wX11_seesNode_j50 hF hA hbs h hr
      · replace h := ite_f c9 h
        refine k_iconst hF dX11_seesNode_46 ci_1 ?_
        refine k_goto hF dX11_seesNode_47 (tgt := 51) (by decide) ?_
        cases h
        exact hr _ _ nar_1 dX11_seesNode_51
theorem ct_X11_seesNode {l : Launch} {D : DD} {base B : Nat} (hbs : base ≤ B) {σ : St} {a1 : Int32} {a2 : Int32} {r : Int32} (h : fX11_seesNode σ a1 a2 = some r) : MetR l D B shpR base yX11_seesNode cX11_seesNode 3 (some .boolean) 2 43 [.ref (B + 0), .int a1, .int a2] σ (some (.int r)) σ :=
  MetR.of (by decide +kernel) (fun v hv => by simp only [List.mem_cons, List.not_mem_nil, or_false] at hv; rcases hv with rfl | rfl | rfl <;> rfl) (Nat.le_of_ble_eq_true rfl) hbs (fun p e s m args below meth c hF hr => wX11_seesNode hF (fun q hq => hq) hbs h (fun pc L hn hd => k_iret hF hr hn hd))
set_option maxHeartbeats 4000000 in
set_option maxRecDepth 100000 in
theorem wX11_seesEdge_j64 {p : Program} {l : Launch} {e : Env} {s : State} {m : MethodId} {args : Array Value} {below : List Frame} {meth : Method} {c : Code} {Q : State → Prop} {A : Nat → Prop} {D : DD} {base B : Nat} (hF : KF D base cX11_seesEdge RX11 A 3 0 0 p l e ({ frames := 2, cells := 0, slots := 0, locals := 43 } : Room) s m args below meth c) (hA : ∀ q, RA B shpR q → A q) (hbs : base ≤ B) {σ : St} {a1 : Int32} {a2 : Int32} {z : Int32} (h : fX11_seesEdge_j64 σ a1 a2 = some z) (hr : ∀ (pc : Nat) (L : List (Option Value)), narrow .boolean (.int z) = .int z → decode cX11_seesEdge pc = .ok (.ireturn, 1) → KJ (Rep D B shpR) A 3 0 0 Q p l e ({ frames := 2, cells := 0, slots := 0, locals := 43 } : Room) s m args below meth c 0 0 pc L [.int z] σ) : KJ (Rep D B shpR) A 3 0 0 Q p l e ({ frames := 2, cells := 0, slots := 0, locals := 43 } : Room) s m args below meth c 0 0 64 [some (.ref (B + 0)), some (.int a1), some (.int a2)] [] σ := by
  unfold fX11_seesEdge_j64 at h
  refine k_iconst hF dX11_seesEdge_64 ci_0 ?_
  cases h
  exact hr _ _ nar_0 dX11_seesEdge_65
set_option maxHeartbeats 4000000 in
set_option maxRecDepth 100000 in
theorem wX11_seesEdge {p : Program} {l : Launch} {e : Env} {s : State} {m : MethodId} {args : Array Value} {below : List Frame} {meth : Method} {c : Code} {Q : State → Prop} {A : Nat → Prop} {D : DD} {base B : Nat} (hF : KF D base cX11_seesEdge RX11 A 3 0 0 p l e ({ frames := 2, cells := 0, slots := 0, locals := 43 } : Room) s m args below meth c) (hA : ∀ q, RA B shpR q → A q) (hbs : base ≤ B) {σ : St} {a1 : Int32} {a2 : Int32} {z : Int32} (h : fX11_seesEdge σ a1 a2 = some z) (hr : ∀ (pc : Nat) (L : List (Option Value)), narrow .boolean (.int z) = .int z → decode cX11_seesEdge pc = .ok (.ireturn, 1) → KJ (Rep D B shpR) A 3 0 0 Q p l e ({ frames := 2, cells := 0, slots := 0, locals := 43 } : Room) s m args below meth c 0 0 pc L [.int z] σ) : KJ (Rep D B shpR) A 3 0 0 Q p l e ({ frames := 2, cells := 0, slots := 0, locals := 43 } : Room) s m args below meth c 0 0 0 [some (.ref (B + 0)), some (.int a1), some (.int a2)] [] σ := by
  unfold fX11_seesEdge at h
  refine k_aload_n hF dX11_seesEdge_0 rfl ?_
  refine k_iload_n hF dX11_seesEdge_1 rfl ?_
  obtain ⟨v1, hv1, h⟩ := bind_some h
  refine k_callV hF hA (as := [.int a1]) (ct_X11_isTransaction hbs hv1) mv_X11_217 shR_0 rfl rfl rfl ⟨Nat.le_of_ble_eq_true rfl, Nat.le_of_ble_eq_true rfl⟩ (Nat.le_of_ble_eq_true rfl) dX11_seesEdge_2 ?_
  refine k_st (st2 := [.int v1]) rfl ?_
  refine k_if_eq hF (tgt := 64) dX11_seesEdge_5 (by decide) (fun c2 => ?_) (fun c2 => ?_)
  · replace h := ite_t c2 h
    exact wX11_seesEdge_j64 hF hA hbs h hr
  · replace h := ite_f c2 h
    refine k_iload_n hF dX11_seesEdge_8 rfl ?_
    refine k_iconst hF dX11_seesEdge_9 ci_0 ?_
    refine k_aload_n hF dX11_seesEdge_10 rfl ?_
    refine k_get hF (v := .int (gi σ 0 15)) shR_0 fl_X11_154_X11 dX11_seesEdge_11 rfl ?_
    refine k_iconst hF dX11_seesEdge_14 ci_1 ?_
    refine k_isub hF dX11_seesEdge_15 ?_
    obtain ⟨v3, hv3, h⟩ := bind_some h
    refine k_callS hF hA (as := [.int a2, .int (0 : Int32), .int ((gi σ 0 15) - (1 : Int32))]) (ct_X11_isIn hbs hv3) ms_X11_146 rfl rfl ⟨Nat.le_of_ble_eq_true rfl, Nat.le_of_ble_eq_true rfl⟩ (Nat.le_of_ble_eq_true rfl) dX11_seesEdge_16 ?_
    refine k_st (st2 := [.int v3]) rfl ?_
    refine k_if_eq hF (tgt := 64) dX11_seesEdge_19 (by decide) (fun c4 => ?_) (fun c4 => ?_)
    · replace h := ite_t c4 h
      exact wX11_seesEdge_j64 hF hA hbs h hr
    · replace h := ite_f c4 h
      refine k_aload_n hF dX11_seesEdge_22 rfl ?_
      refine k_get hF (v := .ref (B + 16)) shR_0 fl_X11_57_X11 dX11_seesEdge_23 rfl ?_
      refine k_iload_n hF dX11_seesEdge_26 rfl ?_
      obtain ⟨g5, h⟩ := gd_some h
      refine k_iald hF shR_16 dX11_seesEdge_27 g5 ?_
      refine k_aload_n hF dX11_seesEdge_28 rfl ?_
      refine k_get hF (v := .ref (B + 17)) shR_0 fl_X11_60_X11 dX11_seesEdge_29 rfl ?_
      refine k_iload_n hF dX11_seesEdge_32 rfl ?_
      obtain ⟨g6, h⟩ := gd_some h
      refine k_iald hF shR_17 dX11_seesEdge_33 g6 ?_
      refine k_aload_n hF dX11_seesEdge_34 rfl ?_
      refine k_get hF (v := .ref (B + 23)) shR_0 fl_X11_78_X11 dX11_seesEdge_35 rfl ?_
      refine k_iload_n hF dX11_seesEdge_38 rfl ?_
      obtain ⟨g7, h⟩ := gd_some h
      refine k_iald hF shR_23 dX11_seesEdge_39 g7 ?_
      obtain ⟨v8, hv8, h⟩ := bind_some h
      refine k_callS hF hA (as := [.int (gi σ 16 a2.toNatClampNeg), .int (gi σ 17 a2.toNatClampNeg), .int (gi σ 23 a1.toNatClampNeg)]) (ct_X11_wasThere hbs hv8) ms_X11_220 rfl rfl ⟨Nat.le_of_ble_eq_true rfl, Nat.le_of_ble_eq_true rfl⟩ (Nat.le_of_ble_eq_true rfl) dX11_seesEdge_40 ?_
      refine k_st (st2 := [.int v8]) rfl ?_
      refine k_if_eq hF (tgt := 64) dX11_seesEdge_43 (by decide) (fun c9 => ?_) (fun c9 => ?_)
      · replace h := ite_t c9 h
        exact wX11_seesEdge_j64 hF hA hbs h hr
      · replace h := ite_f c9 h
        refine k_aload_n hF dX11_seesEdge_46 rfl ?_
        refine k_get hF (v := .ref (B + 30)) shR_0 fl_X11_99_X11 dX11_seesEdge_47 rfl ?_
        refine k_bipush hF (v := (60 : Int32)) dX11_seesEdge_50 (by decide) ?_
        refine k_iload_n hF dX11_seesEdge_52 rfl ?_
        refine k_imul hF dX11_seesEdge_53 ?_
        refine k_iload_n hF dX11_seesEdge_54 rfl ?_
        refine k_iadd hF dX11_seesEdge_55 ?_
        obtain ⟨g10, h⟩ := gd_some h
        refine k_zald hF shR_30 dX11_seesEdge_56 g10 ?_
        refine k_if_ne hF (tgt := 64) dX11_seesEdge_57 (by decide) (fun c11 => ?_) (fun c11 => ?_)
        · replace h := ite_f c11 h
          exact wX11_seesEdge_j64 hF hA hbs h hr
        · replace h := ite_t c11 h
          refine k_iconst hF dX11_seesEdge_60 ci_1 ?_
          refine k_goto hF dX11_seesEdge_61 (tgt := 65) (by decide) ?_
          cases h
          exact hr _ _ nar_1 dX11_seesEdge_65
theorem ct_X11_seesEdge {l : Launch} {D : DD} {base B : Nat} (hbs : base ≤ B) {σ : St} {a1 : Int32} {a2 : Int32} {r : Int32} (h : fX11_seesEdge σ a1 a2 = some r) : MetR l D B shpR base yX11_seesEdge cX11_seesEdge 3 (some .boolean) 2 43 [.ref (B + 0), .int a1, .int a2] σ (some (.int r)) σ :=
  MetR.of (by decide +kernel) (fun v hv => by simp only [List.mem_cons, List.not_mem_nil, or_false] at hv; rcases hv with rfl | rfl | rfl <;> rfl) (Nat.le_of_ble_eq_true rfl) hbs (fun p e s m args below meth c hF hr => wX11_seesEdge hF (fun q hq => hq) hbs h (fun pc L hn hd => k_iret hF hr hn hd))
set_option maxHeartbeats 4000000 in
set_option maxRecDepth 100000 in
theorem wX11_write_j15 {p : Program} {l : Launch} {e : Env} {s : State} {m : MethodId} {args : Array Value} {below : List Frame} {meth : Method} {c : Code} {Q : State → Prop} {A : Nat → Prop} {D : DD} {base B : Nat} (hF : KF D base cX11_write RX11 A 4 0 0 p l e ({ frames := 3, cells := 0, slots := 0, locals := 65 } : Room) s m args below meth c) (hA : ∀ q, RA B shpR q → A q) (hbs : base ≤ B) {σ : St} {a1 : Int32} {a2 : Int32} {a3 : Int32} {t0 : Int32} {z : St} (h : fX11_write_j15 σ a1 a2 a3 t0 = some z) (hr : ∀ (pc : Nat) (L : List (Option Value)), decode cX11_write pc = .ok (.return_, 1) → KJ (Rep D B shpR) A 4 0 0 Q p l e ({ frames := 3, cells := 0, slots := 0, locals := 65 } : Room) s m args below meth c 0 0 pc L [] z) : KJ (Rep D B shpR) A 4 0 0 Q p l e ({ frames := 3, cells := 0, slots := 0, locals := 65 } : Room) s m args below meth c 0 0 15 [some (.ref (B + 0)), some (.int a1), some (.int a2), some (.int a3)] [.int t0, .ref (B + 0)] σ := by
  unfold fX11_write_j15 at h
  obtain ⟨v3, hv3, h⟩ := bind_some h
  refine k_callV hF hA (as := [.int t0]) (ct_X11_fails hbs hv3) mv_X11_181 shR_0 rfl rfl rfl ⟨Nat.le_of_ble_eq_true rfl, Nat.le_of_ble_eq_true rfl⟩ (Nat.le_of_ble_eq_true rfl) dX11_write_15 ?_
  refine k_st (st2 := [.int v3.1]) rfl ?_
  refine k_if_ne hF (tgt := 45) dX11_write_18 (by decide) (fun c4 => ?_) (fun c4 => ?_)
  · replace h := ite_f c4 h
    cases h
    exact hr _ _ dX11_write_45
  · replace h := ite_t c4 h
    refine k_aload_n hF dX11_write_21 rfl ?_
    refine k_get hF (v := .ref (B + 24)) shR_0 fl_X11_81_X11 dX11_write_22 rfl ?_
    refine k_bipush hF (v := (24 : Int32)) dX11_write_25 (by decide) ?_
    refine k_iload_n hF dX11_write_27 rfl ?_
    refine k_imul hF dX11_write_28 ?_
    refine k_iload_n hF dX11_write_29 rfl ?_
    refine k_iadd hF dX11_write_30 ?_
    refine k_iconst hF dX11_write_31 ci_1 ?_
    obtain ⟨g5, h⟩ := gd_some h
    refine k_zast hF hA shR_24 dX11_write_32 g5 rfl ?_
    obtain ⟨σ6, hσ6, h⟩ := lt_some h
    refine k_sig hσ6 ?_
    refine k_aload_n hF dX11_write_33 rfl ?_
    refine k_get hF (v := .ref (B + 25)) shR_0 fl_X11_84_X11 dX11_write_34 rfl ?_
    refine k_bipush hF (v := (24 : Int32)) dX11_write_37 (by decide) ?_
    refine k_iload_n hF dX11_write_39 rfl ?_
    refine k_imul hF dX11_write_40 ?_
    refine k_iload_n hF dX11_write_41 rfl ?_
    refine k_iadd hF dX11_write_42 ?_
    refine k_iload_n hF dX11_write_43 rfl ?_
    obtain ⟨g7, h⟩ := gd_some h
    refine k_iast hF hA shR_25 dX11_write_44 g7 ?_
    obtain ⟨σ8, hσ8, h⟩ := lt_some h
    refine k_sig hσ8 ?_
    cases h
    exact hr _ _ dX11_write_45
set_option maxHeartbeats 4000000 in
set_option maxRecDepth 100000 in
theorem wX11_write {p : Program} {l : Launch} {e : Env} {s : State} {m : MethodId} {args : Array Value} {below : List Frame} {meth : Method} {c : Code} {Q : State → Prop} {A : Nat → Prop} {D : DD} {base B : Nat} (hF : KF D base cX11_write RX11 A 4 0 0 p l e ({ frames := 3, cells := 0, slots := 0, locals := 65 } : Room) s m args below meth c) (hA : ∀ q, RA B shpR q → A q) (hbs : base ≤ B) {σ : St} {a1 : Int32} {a2 : Int32} {a3 : Int32} {z : St} (h : fX11_write σ a1 a2 a3 = some z) (hr : ∀ (pc : Nat) (L : List (Option Value)), decode cX11_write pc = .ok (.return_, 1) → KJ (Rep D B shpR) A 4 0 0 Q p l e ({ frames := 3, cells := 0, slots := 0, locals := 65 } : Room) s m args below meth c 0 0 pc L [] z) : KJ (Rep D B shpR) A 4 0 0 Q p l e ({ frames := 3, cells := 0, slots := 0, locals := 65 } : Room) s m args below meth c 0 0 0 [some (.ref (B + 0)), some (.int a1), some (.int a2), some (.int a3)] [] σ := by
  unfold fX11_write at h
  refine k_aload_n hF dX11_write_0 rfl ?_
  refine k_aload_n hF dX11_write_1 rfl ?_
  refine k_iload_n hF dX11_write_2 rfl ?_
  refine k_iload_n hF dX11_write_3 rfl ?_
  obtain ⟨v1, hv1, h⟩ := bind_some h
  refine k_callV hF hA (as := [.int a1, .int a2]) (ct_X11_seesNode hbs hv1) mv_X11_223 shR_0 rfl rfl rfl ⟨Nat.le_of_ble_eq_true rfl, Nat.le_of_ble_eq_true rfl⟩ (Nat.le_of_ble_eq_true rfl) dX11_write_4 ?_
  refine k_st (st2 := [.int v1, .ref (B + 0)]) rfl ?_
  refine k_if_eq hF (tgt := 14) dX11_write_7 (by decide) (fun c2 => ?_) (fun c2 => ?_)
  · replace h := ite_t c2 h
    refine k_iconst hF dX11_write_14 ci_1 ?_
    exact wX11_write_j15 hF hA hbs h hr
  · replace h := ite_f c2 h
    refine k_iconst hF dX11_write_10 ci_0 ?_
    refine k_goto hF dX11_write_11 (tgt := 15) (by decide) ?_
    exact wX11_write_j15 hF hA hbs h hr
theorem ct_X11_write {l : Launch} {D : DD} {base B : Nat} (hbs : base ≤ B) {σ : St} {a1 : Int32} {a2 : Int32} {a3 : Int32} {r : St} (h : fX11_write σ a1 a2 a3 = some r) : MetR l D B shpR base yX11_write cX11_write 4 none 3 65 [.ref (B + 0), .int a1, .int a2, .int a3] σ none r :=
  MetR.of (by decide +kernel) (fun v hv => by simp only [List.mem_cons, List.not_mem_nil, or_false] at hv; rcases hv with rfl | rfl | rfl | rfl <;> rfl) (Nat.le_of_ble_eq_true rfl) hbs (fun p e s m args below meth c hF hr => wX11_write hF (fun q hq => hq) hbs h (fun pc L hd => k_vret hF hr hd))
set_option maxHeartbeats 4000000 in
set_option maxRecDepth 100000 in
theorem wX11_link_j59 {p : Program} {l : Launch} {e : Env} {s : State} {m : MethodId} {args : Array Value} {below : List Frame} {meth : Method} {c : Code} {Q : State → Prop} {A : Nat → Prop} {D : DD} {base B : Nat} (hF : KF D base cX11_link RX11 A 7 0 0 p l e ({ frames := 3, cells := 0, slots := 0, locals := 65 } : Room) s m args below meth c) (hA : ∀ q, RA B shpR q → A q) (hbs : base ≤ B) {σ : St} {a1 : Int32} {a2 : Int32} {a3 : Int32} {a4 : Int32} {t0 : Int32} {z : (Int32 × St)} (h : fX11_link_j59 σ a1 a2 a3 a4 t0 = some z) (hr : ∀ (pc : Nat) (L : List (Option Value)), narrow .int (.int z.1) = .int z.1 → decode cX11_link pc = .ok (.ireturn, 1) → KJ (Rep D B shpR) A 7 0 0 Q p l e ({ frames := 3, cells := 0, slots := 0, locals := 65 } : Room) s m args below meth c 0 0 pc L [.int z.1] z.2) : KJ (Rep D B shpR) A 7 0 0 Q p l e ({ frames := 3, cells := 0, slots := 0, locals := 65 } : Room) s m args below meth c 0 0 59 [some (.ref (B + 0)), some (.int a1), some (.int a2), some (.int a3), some (.int a4), none, none] [.int t0, .ref (B + 0)] σ := by
  unfold fX11_link_j59 at h
  obtain ⟨v6, hv6, h⟩ := bind_some h
  refine k_callV hF hA (as := [.int t0]) (ct_X11_fails hbs hv6) mv_X11_181 shR_0 rfl rfl rfl ⟨Nat.le_of_ble_eq_true rfl, Nat.le_of_ble_eq_true rfl⟩ (Nat.le_of_ble_eq_true rfl) dX11_link_59 ?_
  refine k_st (st2 := [.int v6.1]) rfl ?_
  refine k_if_eq hF (tgt := 67) dX11_link_62 (by decide) (fun c7 => ?_) (fun c7 => ?_)
  · replace h := ite_t c7 h
    refine k_bipush hF (v := (8 : Int32)) dX11_link_67 (by decide) ?_
    refine k_iload_n hF dX11_link_69 rfl ?_
    refine k_imul hF dX11_link_70 ?_
    refine k_aload_n hF dX11_link_71 rfl ?_
    refine k_get hF (v := .ref (B + 26)) shR_0 fl_X11_87_X11 dX11_link_72 rfl ?_
    refine k_iload_n hF dX11_link_75 rfl ?_
    obtain ⟨g8, h⟩ := gd_some h
    refine k_iald hF shR_26 dX11_link_76 g8 ?_
    refine k_iadd hF dX11_link_77 ?_
    obtain ⟨n9, hn9, h⟩ := lt_some h
    refine k_st (st2 := [.int n9]) (by rw [hn9]) ?_
    refine k_istore hF (L' := [some (.ref (B + 0)), some (.int a1), some (.int a2), some (.int a3), some (.int a4), none, some (.int n9)]) dX11_link_78 (by decide) rfl ?_
    refine k_aload_n hF dX11_link_80 rfl ?_
    refine k_get hF (v := .ref (B + 27)) shR_0 fl_X11_90_X11 dX11_link_81 rfl ?_
    refine k_iload hF dX11_link_84 rfl ?_
    refine k_iload_n hF dX11_link_86 rfl ?_
    obtain ⟨g10, h⟩ := gd_some h
    refine k_iast hF hA shR_27 dX11_link_87 g10 ?_
    obtain ⟨σ11, hσ11, h⟩ := lt_some h
    refine k_sig hσ11 ?_
    refine k_aload_n hF dX11_link_88 rfl ?_
    refine k_get hF (v := .ref (B + 28)) shR_0 fl_X11_93_X11 dX11_link_89 rfl ?_
    refine k_iload hF dX11_link_92 rfl ?_
    refine k_iload hF dX11_link_94 rfl ?_
    obtain ⟨g12, h⟩ := gd_some h
    refine k_iast hF hA shR_28 dX11_link_96 g12 ?_
    obtain ⟨σ13, hσ13, h⟩ := lt_some h
    refine k_sig hσ13 ?_
    refine k_aload_n hF dX11_link_97 rfl ?_
    refine k_get hF (v := .ref (B + 29)) shR_0 fl_X11_96_X11 dX11_link_98 rfl ?_
    refine k_iload hF dX11_link_101 rfl ?_
    refine k_iload_n hF dX11_link_103 rfl ?_
    obtain ⟨g14, h⟩ := gd_some h
    refine k_iast hF hA shR_29 dX11_link_104 g14 ?_
    obtain ⟨σ15, hσ15, h⟩ := lt_some h
    refine k_sig hσ15 ?_
    refine k_aload_n hF dX11_link_105 rfl ?_
    refine k_get hF (v := .ref (B + 26)) shR_0 fl_X11_87_X11 dX11_link_106 rfl ?_
    refine k_iload_n hF dX11_link_109 rfl ?_
    refine k_dup2 hF dX11_link_110 rfl rfl ?_
    obtain ⟨g16, h⟩ := gd_some h
    refine k_iald hF shR_26 dX11_link_111 g16 ?_
    refine k_iconst hF dX11_link_112 ci_1 ?_
    refine k_iadd hF dX11_link_113 ?_
    obtain ⟨g17, h⟩ := gd_some h
    refine k_iast hF hA shR_26 dX11_link_114 g17 ?_
    obtain ⟨σ18, hσ18, h⟩ := lt_some h
    refine k_sig hσ18 ?_
    refine k_aload_n hF dX11_link_115 rfl ?_
    refine k_get hF (v := .ref (B + 26)) shR_0 fl_X11_87_X11 dX11_link_116 rfl ?_
    refine k_iload_n hF dX11_link_119 rfl ?_
    obtain ⟨g19, h⟩ := gd_some h
    refine k_iald hF shR_26 dX11_link_120 g19 ?_
    cases h
    exact hr _ _ rfl dX11_link_121
  · replace h := ite_f c7 h
    refine k_iconst hF dX11_link_65 ci_0 ?_
    cases h
    exact hr _ _ rfl dX11_link_66
set_option maxHeartbeats 4000000 in
set_option maxRecDepth 100000 in
theorem wX11_link_j31 {p : Program} {l : Launch} {e : Env} {s : State} {m : MethodId} {args : Array Value} {below : List Frame} {meth : Method} {c : Code} {Q : State → Prop} {A : Nat → Prop} {D : DD} {base B : Nat} (hF : KF D base cX11_link RX11 A 7 0 0 p l e ({ frames := 3, cells := 0, slots := 0, locals := 65 } : Room) s m args below meth c) (hA : ∀ q, RA B shpR q → A q) (hbs : base ≤ B) {σ : St} {a1 : Int32} {a2 : Int32} {a3 : Int32} {a4 : Int32} {t0 : Int32} {z : (Int32 × St)} (h : fX11_link_j31 σ a1 a2 a3 a4 t0 = some z) (hr : ∀ (pc : Nat) (L : List (Option Value)), narrow .int (.int z.1) = .int z.1 → decode cX11_link pc = .ok (.ireturn, 1) → KJ (Rep D B shpR) A 7 0 0 Q p l e ({ frames := 3, cells := 0, slots := 0, locals := 65 } : Room) s m args below meth c 0 0 pc L [.int z.1] z.2) : KJ (Rep D B shpR) A 7 0 0 Q p l e ({ frames := 3, cells := 0, slots := 0, locals := 65 } : Room) s m args below meth c 0 0 31 [some (.ref (B + 0)), some (.int a1), some (.int a2), some (.int a3), some (.int a4), none, none] [.int t0] σ := by
  unfold fX11_link_j31 at h
  refine k_istore hF (L' := [some (.ref (B + 0)), some (.int a1), some (.int a2), some (.int a3), some (.int a4), some (.int t0), none]) dX11_link_31 (by decide) rfl ?_
  refine k_aload_n hF dX11_link_33 rfl ?_
  refine k_iload hF dX11_link_34 rfl ?_
  refine k_if_ne hF (tgt := 43) dX11_link_36 (by decide) (fun c3 => ?_) (fun c3 => ?_)
  · replace h := ite_f c3 h
    refine k_aload_n hF dX11_link_43 rfl ?_
    refine k_get hF (v := .ref (B + 26)) shR_0 fl_X11_87_X11 dX11_link_44 rfl ?_
    refine k_iload_n hF dX11_link_47 rfl ?_
    obtain ⟨g4, h⟩ := gd_some h
    refine k_iald hF shR_26 dX11_link_48 g4 ?_
    refine k_bipush hF (v := (8 : Int32)) dX11_link_49 (by decide) ?_
    refine k_icmp_ne hF (tgt := 58) dX11_link_51 (by decide) (fun c5 => ?_) (fun c5 => ?_)
    · replace h := ite_f c5 h
      refine k_iconst hF dX11_link_58 ci_0 ?_
      refine k_kill 5 rfl ?_
      exact wX11_link_j59 hF hA hbs h hr
    · replace h := ite_t c5 h
      refine k_iconst hF dX11_link_54 ci_2 ?_
      refine k_goto hF dX11_link_55 (tgt := 59) (by decide) ?_
      refine k_kill 5 rfl ?_
      exact wX11_link_j59 hF hA hbs h hr
  · replace h := ite_t c3 h
    refine k_iconst hF dX11_link_39 ci_1 ?_
    refine k_goto hF dX11_link_40 (tgt := 59) (by decide) ?_
    refine k_kill 5 rfl ?_
    exact wX11_link_j59 hF hA hbs h hr
set_option maxHeartbeats 4000000 in
set_option maxRecDepth 100000 in
theorem wX11_link_j30 {p : Program} {l : Launch} {e : Env} {s : State} {m : MethodId} {args : Array Value} {below : List Frame} {meth : Method} {c : Code} {Q : State → Prop} {A : Nat → Prop} {D : DD} {base B : Nat} (hF : KF D base cX11_link RX11 A 7 0 0 p l e ({ frames := 3, cells := 0, slots := 0, locals := 65 } : Room) s m args below meth c) (hA : ∀ q, RA B shpR q → A q) (hbs : base ≤ B) {σ : St} {a1 : Int32} {a2 : Int32} {a3 : Int32} {a4 : Int32} {z : (Int32 × St)} (h : fX11_link_j30 σ a1 a2 a3 a4 = some z) (hr : ∀ (pc : Nat) (L : List (Option Value)), narrow .int (.int z.1) = .int z.1 → decode cX11_link pc = .ok (.ireturn, 1) → KJ (Rep D B shpR) A 7 0 0 Q p l e ({ frames := 3, cells := 0, slots := 0, locals := 65 } : Room) s m args below meth c 0 0 pc L [.int z.1] z.2) : KJ (Rep D B shpR) A 7 0 0 Q p l e ({ frames := 3, cells := 0, slots := 0, locals := 65 } : Room) s m args below meth c 0 0 30 [some (.ref (B + 0)), some (.int a1), some (.int a2), some (.int a3), some (.int a4), none, none] [] σ := by
  unfold fX11_link_j30 at h
  refine k_iconst hF dX11_link_30 ci_0 ?_
  exact wX11_link_j31 hF hA hbs h hr
set_option maxHeartbeats 4000000 in
set_option maxRecDepth 100000 in
theorem wX11_link {p : Program} {l : Launch} {e : Env} {s : State} {m : MethodId} {args : Array Value} {below : List Frame} {meth : Method} {c : Code} {Q : State → Prop} {A : Nat → Prop} {D : DD} {base B : Nat} (hF : KF D base cX11_link RX11 A 7 0 0 p l e ({ frames := 3, cells := 0, slots := 0, locals := 65 } : Room) s m args below meth c) (hA : ∀ q, RA B shpR q → A q) (hbs : base ≤ B) {σ : St} {a1 : Int32} {a2 : Int32} {a3 : Int32} {a4 : Int32} {z : (Int32 × St)} (h : fX11_link σ a1 a2 a3 a4 = some z) (hr : ∀ (pc : Nat) (L : List (Option Value)), narrow .int (.int z.1) = .int z.1 → decode cX11_link pc = .ok (.ireturn, 1) → KJ (Rep D B shpR) A 7 0 0 Q p l e ({ frames := 3, cells := 0, slots := 0, locals := 65 } : Room) s m args below meth c 0 0 pc L [.int z.1] z.2) : KJ (Rep D B shpR) A 7 0 0 Q p l e ({ frames := 3, cells := 0, slots := 0, locals := 65 } : Room) s m args below meth c 0 0 0 [some (.ref (B + 0)), some (.int a1), some (.int a2), some (.int a3), some (.int a4), none, none] [] σ := by
  unfold fX11_link at h
  refine k_aload_n hF dX11_link_0 rfl ?_
  refine k_iload_n hF dX11_link_1 rfl ?_
  refine k_iload_n hF dX11_link_2 rfl ?_
  obtain ⟨v1, hv1, h⟩ := bind_some h
  refine k_callV hF hA (as := [.int a1, .int a2]) (ct_X11_seesNode hbs hv1) mv_X11_223 shR_0 rfl rfl rfl ⟨Nat.le_of_ble_eq_true rfl, Nat.le_of_ble_eq_true rfl⟩ (Nat.le_of_ble_eq_true rfl) dX11_link_3 ?_
  refine k_st (st2 := [.int v1]) rfl ?_
  refine k_if_eq hF (tgt := 30) dX11_link_6 (by decide) (fun c2 => ?_) (fun c2 => ?_)
  · replace h := ite_t c2 h
    exact wX11_link_j30 hF hA hbs h hr
  · replace h := ite_f c2 h
    refine k_aload_n hF dX11_link_9 rfl ?_
    refine k_iload_n hF dX11_link_10 rfl ?_
    refine k_iload hF dX11_link_11 rfl ?_
    obtain ⟨v20, hv20, h⟩ := bind_some h
    refine k_callV hF hA (as := [.int a1, .int a4]) (ct_X11_seesNode hbs hv20) mv_X11_223 shR_0 rfl rfl rfl ⟨Nat.le_of_ble_eq_true rfl, Nat.le_of_ble_eq_true rfl⟩ (Nat.le_of_ble_eq_true rfl) dX11_link_13 ?_
    refine k_st (st2 := [.int v20]) rfl ?_
    refine k_if_eq hF (tgt := 30) dX11_link_16 (by decide) (fun c21 => ?_) (fun c21 => ?_)
    · replace h := ite_t c21 h
      exact wX11_link_j30 hF hA hbs h hr
    · replace h := ite_f c21 h
      refine k_iload_n hF dX11_link_19 rfl ?_
      obtain ⟨v22, hv22, h⟩ := bind_some h
      refine k_callS hF hA (as := [.int a3]) (ct_X11_isLabel hbs hv22) ms_X11_171 rfl rfl ⟨Nat.le_of_ble_eq_true rfl, Nat.le_of_ble_eq_true rfl⟩ (Nat.le_of_ble_eq_true rfl) dX11_link_20 ?_
      refine k_st (st2 := [.int v22]) rfl ?_
      refine k_if_eq hF (tgt := 30) dX11_link_23 (by decide) (fun c23 => ?_) (fun c23 => ?_)
      · replace h := ite_t c23 h
        exact wX11_link_j30 hF hA hbs h hr
      · replace h := ite_f c23 h
        refine k_iconst hF dX11_link_26 ci_1 ?_
        refine k_goto hF dX11_link_27 (tgt := 31) (by decide) ?_
        exact wX11_link_j31 hF hA hbs h hr
theorem ct_X11_link {l : Launch} {D : DD} {base B : Nat} (hbs : base ≤ B) {σ : St} {a1 : Int32} {a2 : Int32} {a3 : Int32} {a4 : Int32} {r : (Int32 × St)} (h : fX11_link σ a1 a2 a3 a4 = some r) : MetR l D B shpR base yX11_link cX11_link 7 (some .int) 3 65 [.ref (B + 0), .int a1, .int a2, .int a3, .int a4] σ (some (.int r.1)) r.2 :=
  MetR.of (by decide +kernel) (fun v hv => by simp only [List.mem_cons, List.not_mem_nil, or_false] at hv; rcases hv with rfl | rfl | rfl | rfl | rfl <;> rfl) (Nat.le_of_ble_eq_true rfl) hbs (fun p e s m args below meth c hF hr => wX11_link hF (fun q hq => hq) hbs h (fun pc L hn hd => k_iret hF hr hn hd))
set_option maxHeartbeats 4000000 in
set_option maxRecDepth 100000 in
theorem wX11_unlink_j15 {p : Program} {l : Launch} {e : Env} {s : State} {m : MethodId} {args : Array Value} {below : List Frame} {meth : Method} {c : Code} {Q : State → Prop} {A : Nat → Prop} {D : DD} {base B : Nat} (hF : KF D base cX11_unlink RX11 A 3 0 0 p l e ({ frames := 3, cells := 0, slots := 0, locals := 65 } : Room) s m args below meth c) (hA : ∀ q, RA B shpR q → A q) (hbs : base ≤ B) {σ : St} {a1 : Int32} {a2 : Int32} {t0 : Int32} {z : St} (h : fX11_unlink_j15 σ a1 a2 t0 = some z) (hr : ∀ (pc : Nat) (L : List (Option Value)), decode cX11_unlink pc = .ok (.return_, 1) → KJ (Rep D B shpR) A 3 0 0 Q p l e ({ frames := 3, cells := 0, slots := 0, locals := 65 } : Room) s m args below meth c 0 0 pc L [] z) : KJ (Rep D B shpR) A 3 0 0 Q p l e ({ frames := 3, cells := 0, slots := 0, locals := 65 } : Room) s m args below meth c 0 0 15 [some (.ref (B + 0)), some (.int a1), some (.int a2)] [.int t0, .ref (B + 0)] σ := by
  unfold fX11_unlink_j15 at h
  obtain ⟨v3, hv3, h⟩ := bind_some h
  refine k_callV hF hA (as := [.int t0]) (ct_X11_fails hbs hv3) mv_X11_181 shR_0 rfl rfl rfl ⟨Nat.le_of_ble_eq_true rfl, Nat.le_of_ble_eq_true rfl⟩ (Nat.le_of_ble_eq_true rfl) dX11_unlink_15 ?_
  refine k_st (st2 := [.int v3.1]) rfl ?_
  refine k_if_ne hF (tgt := 33) dX11_unlink_18 (by decide) (fun c4 => ?_) (fun c4 => ?_)
  · replace h := ite_f c4 h
    cases h
    exact hr _ _ dX11_unlink_33
  · replace h := ite_t c4 h
    refine k_aload_n hF dX11_unlink_21 rfl ?_
    refine k_get hF (v := .ref (B + 30)) shR_0 fl_X11_99_X11 dX11_unlink_22 rfl ?_
    refine k_bipush hF (v := (60 : Int32)) dX11_unlink_25 (by decide) ?_
    refine k_iload_n hF dX11_unlink_27 rfl ?_
    refine k_imul hF dX11_unlink_28 ?_
    refine k_iload_n hF dX11_unlink_29 rfl ?_
    refine k_iadd hF dX11_unlink_30 ?_
    refine k_iconst hF dX11_unlink_31 ci_1 ?_
    obtain ⟨g5, h⟩ := gd_some h
    refine k_zast hF hA shR_30 dX11_unlink_32 g5 rfl ?_
    obtain ⟨σ6, hσ6, h⟩ := lt_some h
    refine k_sig hσ6 ?_
    cases h
    exact hr _ _ dX11_unlink_33
set_option maxHeartbeats 4000000 in
set_option maxRecDepth 100000 in
theorem wX11_unlink {p : Program} {l : Launch} {e : Env} {s : State} {m : MethodId} {args : Array Value} {below : List Frame} {meth : Method} {c : Code} {Q : State → Prop} {A : Nat → Prop} {D : DD} {base B : Nat} (hF : KF D base cX11_unlink RX11 A 3 0 0 p l e ({ frames := 3, cells := 0, slots := 0, locals := 65 } : Room) s m args below meth c) (hA : ∀ q, RA B shpR q → A q) (hbs : base ≤ B) {σ : St} {a1 : Int32} {a2 : Int32} {z : St} (h : fX11_unlink σ a1 a2 = some z) (hr : ∀ (pc : Nat) (L : List (Option Value)), decode cX11_unlink pc = .ok (.return_, 1) → KJ (Rep D B shpR) A 3 0 0 Q p l e ({ frames := 3, cells := 0, slots := 0, locals := 65 } : Room) s m args below meth c 0 0 pc L [] z) : KJ (Rep D B shpR) A 3 0 0 Q p l e ({ frames := 3, cells := 0, slots := 0, locals := 65 } : Room) s m args below meth c 0 0 0 [some (.ref (B + 0)), some (.int a1), some (.int a2)] [] σ := by
  unfold fX11_unlink at h
  refine k_aload_n hF dX11_unlink_0 rfl ?_
  refine k_aload_n hF dX11_unlink_1 rfl ?_
  refine k_iload_n hF dX11_unlink_2 rfl ?_
  refine k_iload_n hF dX11_unlink_3 rfl ?_
  obtain ⟨v1, hv1, h⟩ := bind_some h
  refine k_callV hF hA (as := [.int a1, .int a2]) (ct_X11_seesEdge hbs hv1) mv_X11_226 shR_0 rfl rfl rfl ⟨Nat.le_of_ble_eq_true rfl, Nat.le_of_ble_eq_true rfl⟩ (Nat.le_of_ble_eq_true rfl) dX11_unlink_4 ?_
  refine k_st (st2 := [.int v1, .ref (B + 0)]) rfl ?_
  refine k_if_eq hF (tgt := 14) dX11_unlink_7 (by decide) (fun c2 => ?_) (fun c2 => ?_)
  · replace h := ite_t c2 h
    refine k_iconst hF dX11_unlink_14 ci_1 ?_
    exact wX11_unlink_j15 hF hA hbs h hr
  · replace h := ite_f c2 h
    refine k_iconst hF dX11_unlink_10 ci_0 ?_
    refine k_goto hF dX11_unlink_11 (tgt := 15) (by decide) ?_
    exact wX11_unlink_j15 hF hA hbs h hr
theorem ct_X11_unlink {l : Launch} {D : DD} {base B : Nat} (hbs : base ≤ B) {σ : St} {a1 : Int32} {a2 : Int32} {r : St} (h : fX11_unlink σ a1 a2 = some r) : MetR l D B shpR base yX11_unlink cX11_unlink 3 none 3 65 [.ref (B + 0), .int a1, .int a2] σ none r :=
  MetR.of (by decide +kernel) (fun v hv => by simp only [List.mem_cons, List.not_mem_nil, or_false] at hv; rcases hv with rfl | rfl | rfl <;> rfl) (Nat.le_of_ble_eq_true rfl) hbs (fun p e s m args below meth c hF hr => wX11_unlink hF (fun q hq => hq) hbs h (fun pc L hd => k_vret hF hr hd))
set_option maxHeartbeats 4000000 in
set_option maxRecDepth 100000 in
theorem wX11_read_j15 {p : Program} {l : Launch} {e : Env} {s : State} {m : MethodId} {args : Array Value} {below : List Frame} {meth : Method} {c : Code} {Q : State → Prop} {A : Nat → Prop} {D : DD} {base B : Nat} (hF : KF D base cX11_read RX11 A 3 0 0 p l e ({ frames := 3, cells := 0, slots := 0, locals := 65 } : Room) s m args below meth c) (hA : ∀ q, RA B shpR q → A q) (hbs : base ≤ B) {σ : St} {a1 : Int32} {a2 : Int32} {t0 : Int32} {z : (Int32 × St)} (h : fX11_read_j15 σ a1 a2 t0 = some z) (hr : ∀ (pc : Nat) (L : List (Option Value)), narrow .int (.int z.1) = .int z.1 → decode cX11_read pc = .ok (.ireturn, 1) → KJ (Rep D B shpR) A 3 0 0 Q p l e ({ frames := 3, cells := 0, slots := 0, locals := 65 } : Room) s m args below meth c 0 0 pc L [.int z.1] z.2) : KJ (Rep D B shpR) A 3 0 0 Q p l e ({ frames := 3, cells := 0, slots := 0, locals := 65 } : Room) s m args below meth c 0 0 15 [some (.ref (B + 0)), some (.int a1), some (.int a2)] [.int t0, .ref (B + 0)] σ := by
  unfold fX11_read_j15 at h
  obtain ⟨v3, hv3, h⟩ := bind_some h
  refine k_callV hF hA (as := [.int t0]) (ct_X11_fails hbs hv3) mv_X11_181 shR_0 rfl rfl rfl ⟨Nat.le_of_ble_eq_true rfl, Nat.le_of_ble_eq_true rfl⟩ (Nat.le_of_ble_eq_true rfl) dX11_read_15 ?_
  refine k_st (st2 := [.int v3.1]) rfl ?_
  refine k_if_eq hF (tgt := 23) dX11_read_18 (by decide) (fun c4 => ?_) (fun c4 => ?_)
  · replace h := ite_t c4 h
    refine k_aload_n hF dX11_read_23 rfl ?_
    refine k_get hF (v := .ref (B + 24)) shR_0 fl_X11_81_X11 dX11_read_24 rfl ?_
    refine k_bipush hF (v := (24 : Int32)) dX11_read_27 (by decide) ?_
    refine k_iload_n hF dX11_read_29 rfl ?_
    refine k_imul hF dX11_read_30 ?_
    refine k_iload_n hF dX11_read_31 rfl ?_
    refine k_iadd hF dX11_read_32 ?_
    obtain ⟨g5, h⟩ := gd_some h
    refine k_zald hF shR_24 dX11_read_33 g5 ?_
    refine k_if_eq hF (tgt := 51) dX11_read_34 (by decide) (fun c6 => ?_) (fun c6 => ?_)
    · replace h := ite_t c6 h
      refine k_aload_n hF dX11_read_51 rfl ?_
      refine k_iload_n hF dX11_read_52 rfl ?_
      refine k_aload_n hF dX11_read_53 rfl ?_
      refine k_get hF (v := .ref (B + 23)) shR_0 fl_X11_78_X11 dX11_read_54 rfl ?_
      refine k_iload_n hF dX11_read_57 rfl ?_
      obtain ⟨g7, h⟩ := gd_some h
      refine k_iald hF shR_23 dX11_read_58 g7 ?_
      obtain ⟨v8, hv8, h⟩ := bind_some h
      refine k_callV hF hA (as := [.int a2, .int (gi v3.2 23 a1.toNatClampNeg)]) (ct_X11_valueThen hbs hv8) mv_X11_229 shR_0 rfl rfl rfl ⟨Nat.le_of_ble_eq_true rfl, Nat.le_of_ble_eq_true rfl⟩ (Nat.le_of_ble_eq_true rfl) dX11_read_59 ?_
      refine k_st (st2 := [.int v8]) rfl ?_
      cases h
      exact hr _ _ rfl dX11_read_62
    · replace h := ite_f c6 h
      refine k_aload_n hF dX11_read_37 rfl ?_
      refine k_get hF (v := .ref (B + 25)) shR_0 fl_X11_84_X11 dX11_read_38 rfl ?_
      refine k_bipush hF (v := (24 : Int32)) dX11_read_41 (by decide) ?_
      refine k_iload_n hF dX11_read_43 rfl ?_
      refine k_imul hF dX11_read_44 ?_
      refine k_iload_n hF dX11_read_45 rfl ?_
      refine k_iadd hF dX11_read_46 ?_
      obtain ⟨g9, h⟩ := gd_some h
      refine k_iald hF shR_25 dX11_read_47 g9 ?_
      refine k_goto hF dX11_read_48 (tgt := 62) (by decide) ?_
      cases h
      exact hr _ _ rfl dX11_read_62
  · replace h := ite_f c4 h
    refine k_iconst hF dX11_read_21 ci_0 ?_
    cases h
    exact hr _ _ rfl dX11_read_22
set_option maxHeartbeats 4000000 in
set_option maxRecDepth 100000 in
theorem wX11_read {p : Program} {l : Launch} {e : Env} {s : State} {m : MethodId} {args : Array Value} {below : List Frame} {meth : Method} {c : Code} {Q : State → Prop} {A : Nat → Prop} {D : DD} {base B : Nat} (hF : KF D base cX11_read RX11 A 3 0 0 p l e ({ frames := 3, cells := 0, slots := 0, locals := 65 } : Room) s m args below meth c) (hA : ∀ q, RA B shpR q → A q) (hbs : base ≤ B) {σ : St} {a1 : Int32} {a2 : Int32} {z : (Int32 × St)} (h : fX11_read σ a1 a2 = some z) (hr : ∀ (pc : Nat) (L : List (Option Value)), narrow .int (.int z.1) = .int z.1 → decode cX11_read pc = .ok (.ireturn, 1) → KJ (Rep D B shpR) A 3 0 0 Q p l e ({ frames := 3, cells := 0, slots := 0, locals := 65 } : Room) s m args below meth c 0 0 pc L [.int z.1] z.2) : KJ (Rep D B shpR) A 3 0 0 Q p l e ({ frames := 3, cells := 0, slots := 0, locals := 65 } : Room) s m args below meth c 0 0 0 [some (.ref (B + 0)), some (.int a1), some (.int a2)] [] σ := by
  unfold fX11_read at h
  refine k_aload_n hF dX11_read_0 rfl ?_
  refine k_aload_n hF dX11_read_1 rfl ?_
  refine k_iload_n hF dX11_read_2 rfl ?_
  refine k_iload_n hF dX11_read_3 rfl ?_
  obtain ⟨v1, hv1, h⟩ := bind_some h
  refine k_callV hF hA (as := [.int a1, .int a2]) (ct_X11_seesNode hbs hv1) mv_X11_223 shR_0 rfl rfl rfl ⟨Nat.le_of_ble_eq_true rfl, Nat.le_of_ble_eq_true rfl⟩ (Nat.le_of_ble_eq_true rfl) dX11_read_4 ?_
  refine k_st (st2 := [.int v1, .ref (B + 0)]) rfl ?_
  refine k_if_eq hF (tgt := 14) dX11_read_7 (by decide) (fun c2 => ?_) (fun c2 => ?_)
  · replace h := ite_t c2 h
    refine k_iconst hF dX11_read_14 ci_1 ?_
    exact wX11_read_j15 hF hA hbs h hr
  · replace h := ite_f c2 h
    refine k_iconst hF dX11_read_10 ci_0 ?_
    refine k_goto hF dX11_read_11 (tgt := 15) (by decide) ?_
    exact wX11_read_j15 hF hA hbs h hr
theorem ct_X11_read {l : Launch} {D : DD} {base B : Nat} (hbs : base ≤ B) {σ : St} {a1 : Int32} {a2 : Int32} {r : (Int32 × St)} (h : fX11_read σ a1 a2 = some r) : MetR l D B shpR base yX11_read cX11_read 3 (some .int) 3 65 [.ref (B + 0), .int a1, .int a2] σ (some (.int r.1)) r.2 :=
  MetR.of (by decide +kernel) (fun v hv => by simp only [List.mem_cons, List.not_mem_nil, or_false] at hv; rcases hv with rfl | rfl | rfl <;> rfl) (Nat.le_of_ble_eq_true rfl) hbs (fun p e s m args below meth c hF hr => wX11_read hF (fun q hq => hq) hbs h (fun pc L hn hd => k_iret hF hr hn hd))
set_option maxHeartbeats 4000000 in
set_option maxRecDepth 100000 in
theorem wX11_sees_j64 {p : Program} {l : Launch} {e : Env} {s : State} {m : MethodId} {args : Array Value} {below : List Frame} {meth : Method} {c : Code} {Q : State → Prop} {A : Nat → Prop} {D : DD} {base B : Nat} (hF : KF D base cX11_sees RX11 A 5 0 0 p l e ({ frames := 3, cells := 0, slots := 0, locals := 65 } : Room) s m args below meth c) (hA : ∀ q, RA B shpR q → A q) (hbs : base ≤ B) {σ : St} {a1 : Int32} {a2 : Int32} {b4 : Int32} {t0 : Int32} {t1 : Int32} {z : ((Int32 × Int32) ⊕ (Int32 × Int32))} (h : fX11_sees_j64 σ a1 a2 b4 t0 t1 = some z) (hc : ∀ x, z = .inl x → KJ (Rep D B shpR) A 5 0 0 Q p l e ({ frames := 3, cells := 0, slots := 0, locals := 65 } : Room) s m args below meth c 0 0 28 [some (.ref (B + 0)), some (.int a1), some (.int a2), some (.int x.1), some (.int x.2)] [] σ) (he : ∀ w, z = .inr w → KJ (Rep D B shpR) A 5 0 0 Q p l e ({ frames := 3, cells := 0, slots := 0, locals := 65 } : Room) s m args below meth c 0 0 72 [some (.ref (B + 0)), some (.int a1), some (.int a2), some (.int w.1), some (.int w.2)] [] σ) : KJ (Rep D B shpR) A 5 0 0 Q p l e ({ frames := 3, cells := 0, slots := 0, locals := 65 } : Room) s m args below meth c 0 0 64 [some (.ref (B + 0)), some (.int a1), some (.int a2), none, some (.int b4)] [.int t0, .int t1] σ := by
  unfold fX11_sees_j64 at h
  refine k_iadd hF dX11_sees_64 ?_
  refine k_istore_n hF (L' := [some (.ref (B + 0)), some (.int a1), some (.int a2), some (.int (t1 + t0)), some (.int b4)]) dX11_sees_65 (by decide) rfl ?_
  refine k_iinc hF (v := (b4 + (1 : Int32))) (L' := [some (.ref (B + 0)), some (.int a1), some (.int a2), some (.int (t1 + t0)), some (.int (b4 + (1 : Int32)))]) dX11_sees_66 rfl (by first | rfl | (congr 1)) (by decide) rfl ?_
  refine k_goto hF dX11_sees_69 (tgt := 28) (by decide) ?_
  exact hc _ (Option.some.inj h).symm
set_option maxHeartbeats 4000000 in
set_option maxRecDepth 100000 in
theorem wX11_sees_j63 {p : Program} {l : Launch} {e : Env} {s : State} {m : MethodId} {args : Array Value} {below : List Frame} {meth : Method} {c : Code} {Q : State → Prop} {A : Nat → Prop} {D : DD} {base B : Nat} (hF : KF D base cX11_sees RX11 A 5 0 0 p l e ({ frames := 3, cells := 0, slots := 0, locals := 65 } : Room) s m args below meth c) (hA : ∀ q, RA B shpR q → A q) (hbs : base ≤ B) {σ : St} {a1 : Int32} {a2 : Int32} {b4 : Int32} {t0 : Int32} {z : ((Int32 × Int32) ⊕ (Int32 × Int32))} (h : fX11_sees_j63 σ a1 a2 b4 t0 = some z) (hc : ∀ x, z = .inl x → KJ (Rep D B shpR) A 5 0 0 Q p l e ({ frames := 3, cells := 0, slots := 0, locals := 65 } : Room) s m args below meth c 0 0 28 [some (.ref (B + 0)), some (.int a1), some (.int a2), some (.int x.1), some (.int x.2)] [] σ) (he : ∀ w, z = .inr w → KJ (Rep D B shpR) A 5 0 0 Q p l e ({ frames := 3, cells := 0, slots := 0, locals := 65 } : Room) s m args below meth c 0 0 72 [some (.ref (B + 0)), some (.int a1), some (.int a2), some (.int w.1), some (.int w.2)] [] σ) : KJ (Rep D B shpR) A 5 0 0 Q p l e ({ frames := 3, cells := 0, slots := 0, locals := 65 } : Room) s m args below meth c 0 0 63 [some (.ref (B + 0)), some (.int a1), some (.int a2), none, some (.int b4)] [.int t0] σ := by
  unfold fX11_sees_j63 at h
  refine k_iconst hF dX11_sees_63 ci_0 ?_
  exact wX11_sees_j64 hF hA hbs h hc he
set_option maxHeartbeats 4000000 in
set_option maxRecDepth 100000 in
theorem wX11_sees_l28 {p : Program} {l : Launch} {e : Env} {s : State} {m : MethodId} {args : Array Value} {below : List Frame} {meth : Method} {c : Code} {Q : State → Prop} {A : Nat → Prop} {D : DD} {base B : Nat} (hF : KF D base cX11_sees RX11 A 5 0 0 p l e ({ frames := 3, cells := 0, slots := 0, locals := 65 } : Room) s m args below meth c) (hA : ∀ q, RA B shpR q → A q) (hbs : base ≤ B) {σ : St} {a1 : Int32} {a2 : Int32} {x : (Int32 × Int32)} {z : ((Int32 × Int32) ⊕ (Int32 × Int32))} (h : fX11_sees_l28 σ a1 a2 x = some z) (hc : ∀ x, z = .inl x → KJ (Rep D B shpR) A 5 0 0 Q p l e ({ frames := 3, cells := 0, slots := 0, locals := 65 } : Room) s m args below meth c 0 0 28 [some (.ref (B + 0)), some (.int a1), some (.int a2), some (.int x.1), some (.int x.2)] [] σ) (he : ∀ w, z = .inr w → KJ (Rep D B shpR) A 5 0 0 Q p l e ({ frames := 3, cells := 0, slots := 0, locals := 65 } : Room) s m args below meth c 0 0 72 [some (.ref (B + 0)), some (.int a1), some (.int a2), some (.int w.1), some (.int w.2)] [] σ) : KJ (Rep D B shpR) A 5 0 0 Q p l e ({ frames := 3, cells := 0, slots := 0, locals := 65 } : Room) s m args below meth c 0 0 28 [some (.ref (B + 0)), some (.int a1), some (.int a2), some (.int x.1), some (.int x.2)] [] σ := by
  unfold fX11_sees_l28 at h
  refine k_iload hF dX11_sees_28 rfl ?_
  refine k_aload_n hF dX11_sees_30 rfl ?_
  refine k_get hF (v := .int (gi σ 0 15)) shR_0 fl_X11_154_X11 dX11_sees_31 rfl ?_
  refine k_icmp_ge hF (tgt := 72) dX11_sees_34 (by decide) (fun c5 => ?_) (fun c5 => ?_)
  · replace h := ite_t c5 h
    exact he _ (Option.some.inj h).symm
  · replace h := ite_f c5 h
    refine k_iload_n hF dX11_sees_37 rfl ?_
    refine k_aload_n hF dX11_sees_38 rfl ?_
    refine k_get hF (v := .ref (B + 13)) shR_0 fl_X11_48_X11 dX11_sees_39 rfl ?_
    refine k_iload hF dX11_sees_42 rfl ?_
    obtain ⟨g6, h⟩ := gd_some h
    refine k_iald hF shR_13 dX11_sees_44 g6 ?_
    refine k_iload_n hF dX11_sees_45 rfl ?_
    refine k_icmp_ne hF (tgt := 63) dX11_sees_46 (by decide) (fun c7 => ?_) (fun c7 => ?_)
    · replace h := ite_f c7 h
      refine k_kill 3 rfl ?_
      exact wX11_sees_j63 hF hA hbs h hc he
    · replace h := ite_t c7 h
      refine k_aload_n hF dX11_sees_49 rfl ?_
      refine k_iload_n hF dX11_sees_50 rfl ?_
      refine k_iload hF dX11_sees_51 rfl ?_
      obtain ⟨v8, hv8, h⟩ := bind_some h
      refine k_callV hF hA (as := [.int a1, .int x.2]) (ct_X11_seesEdge hbs hv8) mv_X11_226 shR_0 rfl rfl rfl ⟨Nat.le_of_ble_eq_true rfl, Nat.le_of_ble_eq_true rfl⟩ (Nat.le_of_ble_eq_true rfl) dX11_sees_53 ?_
      refine k_st (st2 := [.int v8, .int x.1]) rfl ?_
      refine k_if_eq hF (tgt := 63) dX11_sees_56 (by decide) (fun c9 => ?_) (fun c9 => ?_)
      · replace h := ite_t c9 h
        refine k_kill 3 rfl ?_
        exact wX11_sees_j63 hF hA hbs h hc he
      · replace h := ite_f c9 h
        refine k_iconst hF dX11_sees_59 ci_1 ?_
        refine k_goto hF dX11_sees_60 (tgt := 64) (by decide) ?_
        refine k_kill 3 rfl ?_
        exact wX11_sees_j64 hF hA hbs h hc he
set_option maxHeartbeats 4000000 in
set_option maxRecDepth 100000 in
theorem wX11_sees_j111 {p : Program} {l : Launch} {e : Env} {s : State} {m : MethodId} {args : Array Value} {below : List Frame} {meth : Method} {c : Code} {Q : State → Prop} {A : Nat → Prop} {D : DD} {base B : Nat} (hF : KF D base cX11_sees RX11 A 5 0 0 p l e ({ frames := 3, cells := 0, slots := 0, locals := 65 } : Room) s m args below meth c) (hA : ∀ q, RA B shpR q → A q) (hbs : base ≤ B) {σ : St} {a1 : Int32} {a2 : Int32} {b4 : Int32} {t0 : Int32} {t1 : Int32} {z : ((Int32 × Int32) ⊕ (Int32 × Int32))} (h : fX11_sees_j111 σ a1 a2 b4 t0 t1 = some z) (hc : ∀ x, z = .inl x → KJ (Rep D B shpR) A 5 0 0 Q p l e ({ frames := 3, cells := 0, slots := 0, locals := 65 } : Room) s m args below meth c 0 0 78 [some (.ref (B + 0)), some (.int a1), some (.int a2), some (.int x.1), some (.int x.2)] [] σ) (he : ∀ w, z = .inr w → KJ (Rep D B shpR) A 5 0 0 Q p l e ({ frames := 3, cells := 0, slots := 0, locals := 65 } : Room) s m args below meth c 0 0 119 [some (.ref (B + 0)), some (.int a1), some (.int a2), some (.int w.1), some (.int w.2)] [] σ) : KJ (Rep D B shpR) A 5 0 0 Q p l e ({ frames := 3, cells := 0, slots := 0, locals := 65 } : Room) s m args below meth c 0 0 111 [some (.ref (B + 0)), some (.int a1), some (.int a2), none, some (.int b4)] [.int t0, .int t1] σ := by
  unfold fX11_sees_j111 at h
  refine k_iadd hF dX11_sees_111 ?_
  refine k_istore_n hF (L' := [some (.ref (B + 0)), some (.int a1), some (.int a2), some (.int (t1 + t0)), some (.int b4)]) dX11_sees_112 (by decide) rfl ?_
  refine k_iinc hF (v := (b4 + (1 : Int32))) (L' := [some (.ref (B + 0)), some (.int a1), some (.int a2), some (.int (t1 + t0)), some (.int (b4 + (1 : Int32)))]) dX11_sees_113 rfl (by first | rfl | (congr 1)) (by decide) rfl ?_
  refine k_goto hF dX11_sees_116 (tgt := 78) (by decide) ?_
  exact hc _ (Option.some.inj h).symm
set_option maxHeartbeats 4000000 in
set_option maxRecDepth 100000 in
theorem wX11_sees_l78 {p : Program} {l : Launch} {e : Env} {s : State} {m : MethodId} {args : Array Value} {below : List Frame} {meth : Method} {c : Code} {Q : State → Prop} {A : Nat → Prop} {D : DD} {base B : Nat} (hF : KF D base cX11_sees RX11 A 5 0 0 p l e ({ frames := 3, cells := 0, slots := 0, locals := 65 } : Room) s m args below meth c) (hA : ∀ q, RA B shpR q → A q) (hbs : base ≤ B) {σ : St} {a1 : Int32} {a2 : Int32} {x : (Int32 × Int32)} {z : ((Int32 × Int32) ⊕ (Int32 × Int32))} (h : fX11_sees_l78 σ a1 a2 x = some z) (hc : ∀ x, z = .inl x → KJ (Rep D B shpR) A 5 0 0 Q p l e ({ frames := 3, cells := 0, slots := 0, locals := 65 } : Room) s m args below meth c 0 0 78 [some (.ref (B + 0)), some (.int a1), some (.int a2), some (.int x.1), some (.int x.2)] [] σ) (he : ∀ w, z = .inr w → KJ (Rep D B shpR) A 5 0 0 Q p l e ({ frames := 3, cells := 0, slots := 0, locals := 65 } : Room) s m args below meth c 0 0 119 [some (.ref (B + 0)), some (.int a1), some (.int a2), some (.int w.1), some (.int w.2)] [] σ) : KJ (Rep D B shpR) A 5 0 0 Q p l e ({ frames := 3, cells := 0, slots := 0, locals := 65 } : Room) s m args below meth c 0 0 78 [some (.ref (B + 0)), some (.int a1), some (.int a2), some (.int x.1), some (.int x.2)] [] σ := by
  unfold fX11_sees_l78 at h
  refine k_iload hF dX11_sees_78 rfl ?_
  refine k_bipush hF (v := (8 : Int32)) dX11_sees_80 (by decide) ?_
  refine k_iload_n hF dX11_sees_82 rfl ?_
  refine k_imul hF dX11_sees_83 ?_
  refine k_aload_n hF dX11_sees_84 rfl ?_
  refine k_get hF (v := .ref (B + 26)) shR_0 fl_X11_87_X11 dX11_sees_85 rfl ?_
  refine k_iload_n hF dX11_sees_88 rfl ?_
  obtain ⟨g11, h⟩ := gd_some h
  refine k_iald hF shR_26 dX11_sees_89 g11 ?_
  refine k_iadd hF dX11_sees_90 ?_
  refine k_icmp_ge hF (tgt := 119) dX11_sees_91 (by decide) (fun c12 => ?_) (fun c12 => ?_)
  · replace h := ite_t c12 h
    exact he _ (Option.some.inj h).symm
  · replace h := ite_f c12 h
    refine k_iload_n hF dX11_sees_94 rfl ?_
    refine k_aload_n hF dX11_sees_95 rfl ?_
    refine k_get hF (v := .ref (B + 27)) shR_0 fl_X11_90_X11 dX11_sees_96 rfl ?_
    refine k_iload hF dX11_sees_99 rfl ?_
    obtain ⟨g13, h⟩ := gd_some h
    refine k_iald hF shR_27 dX11_sees_101 g13 ?_
    refine k_iload_n hF dX11_sees_102 rfl ?_
    refine k_icmp_ne hF (tgt := 110) dX11_sees_103 (by decide) (fun c14 => ?_) (fun c14 => ?_)
    · replace h := ite_f c14 h
      refine k_iconst hF dX11_sees_110 ci_0 ?_
      refine k_kill 3 rfl ?_
      exact wX11_sees_j111 hF hA hbs h hc he
    · replace h := ite_t c14 h
      refine k_iconst hF dX11_sees_106 ci_1 ?_
      refine k_goto hF dX11_sees_107 (tgt := 111) (by decide) ?_
      refine k_kill 3 rfl ?_
      exact wX11_sees_j111 hF hA hbs h hc he
set_option maxHeartbeats 4000000 in
set_option maxRecDepth 100000 in
theorem wX11_sees_j15 {p : Program} {l : Launch} {e : Env} {s : State} {m : MethodId} {args : Array Value} {below : List Frame} {meth : Method} {c : Code} {Q : State → Prop} {A : Nat → Prop} {D : DD} {base B : Nat} (hF : KF D base cX11_sees RX11 A 5 0 0 p l e ({ frames := 3, cells := 0, slots := 0, locals := 65 } : Room) s m args below meth c) (hA : ∀ q, RA B shpR q → A q) (hbs : base ≤ B) {σ : St} {a1 : Int32} {a2 : Int32} {t0 : Int32} {z : (Int32 × St)} (h : fX11_sees_j15 σ a1 a2 t0 = some z) (hr : ∀ (pc : Nat) (L : List (Option Value)), narrow .int (.int z.1) = .int z.1 → decode cX11_sees pc = .ok (.ireturn, 1) → KJ (Rep D B shpR) A 5 0 0 Q p l e ({ frames := 3, cells := 0, slots := 0, locals := 65 } : Room) s m args below meth c 0 0 pc L [.int z.1] z.2) : KJ (Rep D B shpR) A 5 0 0 Q p l e ({ frames := 3, cells := 0, slots := 0, locals := 65 } : Room) s m args below meth c 0 0 15 [some (.ref (B + 0)), some (.int a1), some (.int a2), none, none] [.int t0, .ref (B + 0)] σ := by
  unfold fX11_sees_j15 at h
  obtain ⟨v3, hv3, h⟩ := bind_some h
  refine k_callV hF hA (as := [.int t0]) (ct_X11_fails hbs hv3) mv_X11_181 shR_0 rfl rfl rfl ⟨Nat.le_of_ble_eq_true rfl, Nat.le_of_ble_eq_true rfl⟩ (Nat.le_of_ble_eq_true rfl) dX11_sees_15 ?_
  refine k_st (st2 := [.int v3.1]) rfl ?_
  refine k_if_eq hF (tgt := 23) dX11_sees_18 (by decide) (fun c4 => ?_) (fun c4 => ?_)
  · replace h := ite_t c4 h
    refine k_iconst hF dX11_sees_23 ci_0 ?_
    refine k_istore_n hF (L' := [some (.ref (B + 0)), some (.int a1), some (.int a2), some (.int (0 : Int32)), none]) dX11_sees_24 (by decide) rfl ?_
    refine k_iconst hF dX11_sees_25 ci_0 ?_
    refine k_istore hF (L' := [some (.ref (B + 0)), some (.int a1), some (.int a2), some (.int (0 : Int32)), some (.int (0 : Int32))]) dX11_sees_26 (by decide) rfl ?_
    obtain ⟨x10, hx10, h⟩ := bind_some h
    refine k_loop (P := fun xq => KJ (Rep D B shpR) A 5 0 0 Q p l e ({ frames := 3, cells := 0, slots := 0, locals := 65 } : Room) s m args below meth c 0 0 28 [some (.ref (B + 0)), some (.int a1), some (.int a2), some (.int xq.1), some (.int xq.2)] [] v3.2) (C := fun xq => KJ (Rep D B shpR) A 5 0 0 Q p l e ({ frames := 3, cells := 0, slots := 0, locals := 65 } : Room) s m args below meth c 0 0 72 [some (.ref (B + 0)), some (.int a1), some (.int a2), some (.int xq.1), some (.int xq.2)] [] v3.2) (fun x z hz hc he => wX11_sees_l28 hF hA hbs hz hc he) hx10 ?_
    show KJ (Rep D B shpR) A 5 0 0 Q p l e ({ frames := 3, cells := 0, slots := 0, locals := 65 } : Room) s m args below meth c 0 0 72 [some (.ref (B + 0)), some (.int a1), some (.int a2), some (.int x10.1), some (.int x10.2)] [] v3.2
    refine k_bipush hF (v := (8 : Int32)) dX11_sees_72 (by decide) ?_
    refine k_iload_n hF dX11_sees_74 rfl ?_
    refine k_imul hF dX11_sees_75 ?_
    refine k_istore hF (L' := [some (.ref (B + 0)), some (.int a1), some (.int a2), some (.int x10.1), some (.int ((8 : Int32) * a1))]) dX11_sees_76 (by decide) rfl ?_
    obtain ⟨x15, hx15, h⟩ := bind_some h
    refine k_loop (P := fun xq => KJ (Rep D B shpR) A 5 0 0 Q p l e ({ frames := 3, cells := 0, slots := 0, locals := 65 } : Room) s m args below meth c 0 0 78 [some (.ref (B + 0)), some (.int a1), some (.int a2), some (.int xq.1), some (.int xq.2)] [] v3.2) (C := fun xq => KJ (Rep D B shpR) A 5 0 0 Q p l e ({ frames := 3, cells := 0, slots := 0, locals := 65 } : Room) s m args below meth c 0 0 119 [some (.ref (B + 0)), some (.int a1), some (.int a2), some (.int xq.1), some (.int xq.2)] [] v3.2) (fun x z hz hc he => wX11_sees_l78 hF hA hbs hz hc he) hx15 ?_
    show KJ (Rep D B shpR) A 5 0 0 Q p l e ({ frames := 3, cells := 0, slots := 0, locals := 65 } : Room) s m args below meth c 0 0 119 [some (.ref (B + 0)), some (.int a1), some (.int a2), some (.int x15.1), some (.int x15.2)] [] v3.2
    refine k_iload_n hF dX11_sees_119 rfl ?_
    cases h
    exact hr _ _ rfl dX11_sees_120
  · replace h := ite_f c4 h
    refine k_iconst hF dX11_sees_21 ci_0 ?_
    cases h
    exact hr _ _ rfl dX11_sees_22
set_option maxHeartbeats 4000000 in
set_option maxRecDepth 100000 in
theorem wX11_sees {p : Program} {l : Launch} {e : Env} {s : State} {m : MethodId} {args : Array Value} {below : List Frame} {meth : Method} {c : Code} {Q : State → Prop} {A : Nat → Prop} {D : DD} {base B : Nat} (hF : KF D base cX11_sees RX11 A 5 0 0 p l e ({ frames := 3, cells := 0, slots := 0, locals := 65 } : Room) s m args below meth c) (hA : ∀ q, RA B shpR q → A q) (hbs : base ≤ B) {σ : St} {a1 : Int32} {a2 : Int32} {z : (Int32 × St)} (h : fX11_sees σ a1 a2 = some z) (hr : ∀ (pc : Nat) (L : List (Option Value)), narrow .int (.int z.1) = .int z.1 → decode cX11_sees pc = .ok (.ireturn, 1) → KJ (Rep D B shpR) A 5 0 0 Q p l e ({ frames := 3, cells := 0, slots := 0, locals := 65 } : Room) s m args below meth c 0 0 pc L [.int z.1] z.2) : KJ (Rep D B shpR) A 5 0 0 Q p l e ({ frames := 3, cells := 0, slots := 0, locals := 65 } : Room) s m args below meth c 0 0 0 [some (.ref (B + 0)), some (.int a1), some (.int a2), none, none] [] σ := by
  unfold fX11_sees at h
  refine k_aload_n hF dX11_sees_0 rfl ?_
  refine k_aload_n hF dX11_sees_1 rfl ?_
  refine k_iload_n hF dX11_sees_2 rfl ?_
  refine k_iload_n hF dX11_sees_3 rfl ?_
  obtain ⟨v1, hv1, h⟩ := bind_some h
  refine k_callV hF hA (as := [.int a1, .int a2]) (ct_X11_seesNode hbs hv1) mv_X11_223 shR_0 rfl rfl rfl ⟨Nat.le_of_ble_eq_true rfl, Nat.le_of_ble_eq_true rfl⟩ (Nat.le_of_ble_eq_true rfl) dX11_sees_4 ?_
  refine k_st (st2 := [.int v1, .ref (B + 0)]) rfl ?_
  refine k_if_eq hF (tgt := 14) dX11_sees_7 (by decide) (fun c2 => ?_) (fun c2 => ?_)
  · replace h := ite_t c2 h
    refine k_iconst hF dX11_sees_14 ci_1 ?_
    exact wX11_sees_j15 hF hA hbs h hr
  · replace h := ite_f c2 h
    refine k_iconst hF dX11_sees_10 ci_0 ?_
    refine k_goto hF dX11_sees_11 (tgt := 15) (by decide) ?_
    exact wX11_sees_j15 hF hA hbs h hr
theorem ct_X11_sees {l : Launch} {D : DD} {base B : Nat} (hbs : base ≤ B) {σ : St} {a1 : Int32} {a2 : Int32} {r : (Int32 × St)} (h : fX11_sees σ a1 a2 = some r) : MetR l D B shpR base yX11_sees cX11_sees 5 (some .int) 3 65 [.ref (B + 0), .int a1, .int a2] σ (some (.int r.1)) r.2 :=
  MetR.of (by decide +kernel) (fun v hv => by simp only [List.mem_cons, List.not_mem_nil, or_false] at hv; rcases hv with rfl | rfl | rfl <;> rfl) (Nat.le_of_ble_eq_true rfl) hbs (fun p e s m args below meth c hF hr => wX11_sees hF (fun q hq => hq) hbs h (fun pc L hn hd => k_iret hF hr hn hd))
set_option maxHeartbeats 4000000 in
set_option maxRecDepth 100000 in
theorem wX11_touches_j32 {p : Program} {l : Launch} {e : Env} {s : State} {m : MethodId} {args : Array Value} {below : List Frame} {meth : Method} {c : Code} {Q : State → Prop} {A : Nat → Prop} {D : DD} {base B : Nat} (hF : KF D base cX11_touches RX11 A 4 0 0 p l e ({ frames := 0, cells := 0, slots := 0, locals := 0 } : Room) s m args below meth c) (hA : ∀ q, RA B shpR q → A q) (hbs : base ≤ B) {σ : St} {a1 : Int32} {b3 : Int32} {t0 : Int32} {t1 : Int32} {z : ((Int32 × Int32) ⊕ (Int32 × Int32))} (h : fX11_touches_j32 σ a1 b3 t0 t1 = some z) (hc : ∀ x, z = .inl x → KJ (Rep D B shpR) A 4 0 0 Q p l e ({ frames := 0, cells := 0, slots := 0, locals := 0 } : Room) s m args below meth c 0 0 4 [some (.ref (B + 0)), some (.int a1), some (.int x.1), some (.int x.2)] [] σ) (he : ∀ w, z = .inr w → KJ (Rep D B shpR) A 4 0 0 Q p l e ({ frames := 0, cells := 0, slots := 0, locals := 0 } : Room) s m args below meth c 0 0 40 [some (.ref (B + 0)), some (.int a1), some (.int w.1), some (.int w.2)] [] σ) : KJ (Rep D B shpR) A 4 0 0 Q p l e ({ frames := 0, cells := 0, slots := 0, locals := 0 } : Room) s m args below meth c 0 0 32 [some (.ref (B + 0)), some (.int a1), none, some (.int b3)] [.int t0, .int t1] σ := by
  unfold fX11_touches_j32 at h
  refine k_ior hF dX11_touches_32 ?_
  refine k_istore_n hF (L' := [some (.ref (B + 0)), some (.int a1), some (.int (t1 ||| t0)), some (.int b3)]) dX11_touches_33 (by decide) rfl ?_
  refine k_iinc hF (v := (b3 + (1 : Int32))) (L' := [some (.ref (B + 0)), some (.int a1), some (.int (t1 ||| t0)), some (.int (b3 + (1 : Int32)))]) dX11_touches_34 rfl (by first | rfl | (congr 1)) (by decide) rfl ?_
  refine k_goto hF dX11_touches_37 (tgt := 4) (by decide) ?_
  exact hc _ (Option.some.inj h).symm
set_option maxHeartbeats 4000000 in
set_option maxRecDepth 100000 in
theorem wX11_touches_l4 {p : Program} {l : Launch} {e : Env} {s : State} {m : MethodId} {args : Array Value} {below : List Frame} {meth : Method} {c : Code} {Q : State → Prop} {A : Nat → Prop} {D : DD} {base B : Nat} (hF : KF D base cX11_touches RX11 A 4 0 0 p l e ({ frames := 0, cells := 0, slots := 0, locals := 0 } : Room) s m args below meth c) (hA : ∀ q, RA B shpR q → A q) (hbs : base ≤ B) {σ : St} {a1 : Int32} {x : (Int32 × Int32)} {z : ((Int32 × Int32) ⊕ (Int32 × Int32))} (h : fX11_touches_l4 σ a1 x = some z) (hc : ∀ x, z = .inl x → KJ (Rep D B shpR) A 4 0 0 Q p l e ({ frames := 0, cells := 0, slots := 0, locals := 0 } : Room) s m args below meth c 0 0 4 [some (.ref (B + 0)), some (.int a1), some (.int x.1), some (.int x.2)] [] σ) (he : ∀ w, z = .inr w → KJ (Rep D B shpR) A 4 0 0 Q p l e ({ frames := 0, cells := 0, slots := 0, locals := 0 } : Room) s m args below meth c 0 0 40 [some (.ref (B + 0)), some (.int a1), some (.int w.1), some (.int w.2)] [] σ) : KJ (Rep D B shpR) A 4 0 0 Q p l e ({ frames := 0, cells := 0, slots := 0, locals := 0 } : Room) s m args below meth c 0 0 4 [some (.ref (B + 0)), some (.int a1), some (.int x.1), some (.int x.2)] [] σ := by
  unfold fX11_touches_l4 at h
  refine k_iload_n hF dX11_touches_4 rfl ?_
  refine k_bipush hF (v := (24 : Int32)) dX11_touches_5 (by decide) ?_
  refine k_icmp_ge hF (tgt := 40) dX11_touches_7 (by decide) (fun c1 => ?_) (fun c1 => ?_)
  · replace h := ite_t c1 h
    exact he _ (Option.some.inj h).symm
  · replace h := ite_f c1 h
    refine k_iload_n hF dX11_touches_10 rfl ?_
    refine k_aload_n hF dX11_touches_11 rfl ?_
    refine k_get hF (v := .ref (B + 24)) shR_0 fl_X11_81_X11 dX11_touches_12 rfl ?_
    refine k_bipush hF (v := (24 : Int32)) dX11_touches_15 (by decide) ?_
    refine k_iload_n hF dX11_touches_17 rfl ?_
    refine k_imul hF dX11_touches_18 ?_
    refine k_iload_n hF dX11_touches_19 rfl ?_
    refine k_iadd hF dX11_touches_20 ?_
    obtain ⟨g2, h⟩ := gd_some h
    refine k_zald hF shR_24 dX11_touches_21 g2 ?_
    refine k_if_eq hF (tgt := 31) dX11_touches_22 (by decide) (fun c3 => ?_) (fun c3 => ?_)
    · replace h := ite_t c3 h
      refine k_iconst hF dX11_touches_31 ci_0 ?_
      refine k_kill 2 rfl ?_
      exact wX11_touches_j32 hF hA hbs h hc he
    · replace h := ite_f c3 h
      refine k_iconst hF dX11_touches_25 ci_1 ?_
      refine k_iload_n hF dX11_touches_26 rfl ?_
      refine k_ishl hF dX11_touches_27 ?_
      refine k_goto hF dX11_touches_28 (tgt := 32) (by decide) ?_
      refine k_kill 2 rfl ?_
      exact wX11_touches_j32 hF hA hbs h hc he
set_option maxHeartbeats 4000000 in
set_option maxRecDepth 100000 in
theorem wX11_touches_l45 {p : Program} {l : Launch} {e : Env} {s : State} {m : MethodId} {args : Array Value} {below : List Frame} {meth : Method} {c : Code} {Q : State → Prop} {A : Nat → Prop} {D : DD} {base B : Nat} (hF : KF D base cX11_touches RX11 A 4 0 0 p l e ({ frames := 0, cells := 0, slots := 0, locals := 0 } : Room) s m args below meth c) (hA : ∀ q, RA B shpR q → A q) (hbs : base ≤ B) {σ : St} {a1 : Int32} {x : (Int32 × Int32)} {z : ((Int32 × Int32) ⊕ (Int32 × Int32))} (h : fX11_touches_l45 σ a1 x = some z) (hc : ∀ x, z = .inl x → KJ (Rep D B shpR) A 4 0 0 Q p l e ({ frames := 0, cells := 0, slots := 0, locals := 0 } : Room) s m args below meth c 0 0 45 [some (.ref (B + 0)), some (.int a1), some (.int x.1), some (.int x.2)] [] σ) (he : ∀ w, z = .inr w → KJ (Rep D B shpR) A 4 0 0 Q p l e ({ frames := 0, cells := 0, slots := 0, locals := 0 } : Room) s m args below meth c 0 0 86 [some (.ref (B + 0)), some (.int a1), some (.int w.1), some (.int w.2)] [] σ) : KJ (Rep D B shpR) A 4 0 0 Q p l e ({ frames := 0, cells := 0, slots := 0, locals := 0 } : Room) s m args below meth c 0 0 45 [some (.ref (B + 0)), some (.int a1), some (.int x.1), some (.int x.2)] [] σ := by
  unfold fX11_touches_l45 at h
  refine k_iload_n hF dX11_touches_45 rfl ?_
  refine k_bipush hF (v := (8 : Int32)) dX11_touches_46 (by decide) ?_
  refine k_iload_n hF dX11_touches_48 rfl ?_
  refine k_imul hF dX11_touches_49 ?_
  refine k_aload_n hF dX11_touches_50 rfl ?_
  refine k_get hF (v := .ref (B + 26)) shR_0 fl_X11_87_X11 dX11_touches_51 rfl ?_
  refine k_iload_n hF dX11_touches_54 rfl ?_
  obtain ⟨g5, h⟩ := gd_some h
  refine k_iald hF shR_26 dX11_touches_55 g5 ?_
  refine k_iadd hF dX11_touches_56 ?_
  refine k_icmp_ge hF (tgt := 86) dX11_touches_57 (by decide) (fun c6 => ?_) (fun c6 => ?_)
  · replace h := ite_t c6 h
    exact he _ (Option.some.inj h).symm
  · replace h := ite_f c6 h
    refine k_iload_n hF dX11_touches_60 rfl ?_
    refine k_iconst hF dX11_touches_61 ci_1 ?_
    refine k_aload_n hF dX11_touches_62 rfl ?_
    refine k_get hF (v := .ref (B + 27)) shR_0 fl_X11_90_X11 dX11_touches_63 rfl ?_
    refine k_iload_n hF dX11_touches_66 rfl ?_
    obtain ⟨g7, h⟩ := gd_some h
    refine k_iald hF shR_27 dX11_touches_67 g7 ?_
    refine k_ishl hF dX11_touches_68 ?_
    refine k_iconst hF dX11_touches_69 ci_1 ?_
    refine k_aload_n hF dX11_touches_70 rfl ?_
    refine k_get hF (v := .ref (B + 28)) shR_0 fl_X11_93_X11 dX11_touches_71 rfl ?_
    refine k_iload_n hF dX11_touches_74 rfl ?_
    obtain ⟨g8, h⟩ := gd_some h
    refine k_iald hF shR_28 dX11_touches_75 g8 ?_
    refine k_ishl hF dX11_touches_76 ?_
    refine k_ior hF dX11_touches_77 ?_
    refine k_ior hF dX11_touches_78 ?_
    obtain ⟨n9, hn9, h⟩ := lt_some h
    refine k_st (st2 := [.int n9]) (by rw [hn9]) ?_
    refine k_istore_n hF (L' := [some (.ref (B + 0)), some (.int a1), some (.int n9), some (.int x.2)]) dX11_touches_79 (by decide) rfl ?_
    refine k_iinc hF (v := (x.2 + (1 : Int32))) (L' := [some (.ref (B + 0)), some (.int a1), some (.int n9), some (.int (x.2 + (1 : Int32)))]) dX11_touches_80 rfl (by first | rfl | (congr 1)) (by decide) rfl ?_
    refine k_goto hF dX11_touches_83 (tgt := 45) (by decide) ?_
    exact hc _ (Option.some.inj h).symm
set_option maxHeartbeats 4000000 in
set_option maxRecDepth 100000 in
theorem wX11_touches_j130 {p : Program} {l : Launch} {e : Env} {s : State} {m : MethodId} {args : Array Value} {below : List Frame} {meth : Method} {c : Code} {Q : State → Prop} {A : Nat → Prop} {D : DD} {base B : Nat} (hF : KF D base cX11_touches RX11 A 4 0 0 p l e ({ frames := 0, cells := 0, slots := 0, locals := 0 } : Room) s m args below meth c) (hA : ∀ q, RA B shpR q → A q) (hbs : base ≤ B) {σ : St} {a1 : Int32} {b3 : Int32} {t0 : Int32} {t1 : Int32} {z : ((Int32 × Int32) ⊕ (Int32 × Int32))} (h : fX11_touches_j130 σ a1 b3 t0 t1 = some z) (hc : ∀ x, z = .inl x → KJ (Rep D B shpR) A 4 0 0 Q p l e ({ frames := 0, cells := 0, slots := 0, locals := 0 } : Room) s m args below meth c 0 0 88 [some (.ref (B + 0)), some (.int a1), some (.int x.1), some (.int x.2)] [] σ) (he : ∀ w, z = .inr w → KJ (Rep D B shpR) A 4 0 0 Q p l e ({ frames := 0, cells := 0, slots := 0, locals := 0 } : Room) s m args below meth c 0 0 138 [some (.ref (B + 0)), some (.int a1), some (.int w.1), some (.int w.2)] [] σ) : KJ (Rep D B shpR) A 4 0 0 Q p l e ({ frames := 0, cells := 0, slots := 0, locals := 0 } : Room) s m args below meth c 0 0 130 [some (.ref (B + 0)), some (.int a1), none, some (.int b3)] [.int t0, .int t1] σ := by
  unfold fX11_touches_j130 at h
  refine k_ior hF dX11_touches_130 ?_
  refine k_istore_n hF (L' := [some (.ref (B + 0)), some (.int a1), some (.int (t1 ||| t0)), some (.int b3)]) dX11_touches_131 (by decide) rfl ?_
  refine k_iinc hF (v := (b3 + (1 : Int32))) (L' := [some (.ref (B + 0)), some (.int a1), some (.int (t1 ||| t0)), some (.int (b3 + (1 : Int32)))]) dX11_touches_132 rfl (by first | rfl | (congr 1)) (by decide) rfl ?_
  refine k_goto hF dX11_touches_135 (tgt := 88) (by decide) ?_
  exact hc _ (Option.some.inj h).symm
set_option maxHeartbeats 4000000 in
set_option maxRecDepth 100000 in
theorem wX11_touches_l88 {p : Program} {l : Launch} {e : Env} {s : State} {m : MethodId} {args : Array Value} {below : List Frame} {meth : Method} {c : Code} {Q : State → Prop} {A : Nat → Prop} {D : DD} {base B : Nat} (hF : KF D base cX11_touches RX11 A 4 0 0 p l e ({ frames := 0, cells := 0, slots := 0, locals := 0 } : Room) s m args below meth c) (hA : ∀ q, RA B shpR q → A q) (hbs : base ≤ B) {σ : St} {a1 : Int32} {x : (Int32 × Int32)} {z : ((Int32 × Int32) ⊕ (Int32 × Int32))} (h : fX11_touches_l88 σ a1 x = some z) (hc : ∀ x, z = .inl x → KJ (Rep D B shpR) A 4 0 0 Q p l e ({ frames := 0, cells := 0, slots := 0, locals := 0 } : Room) s m args below meth c 0 0 88 [some (.ref (B + 0)), some (.int a1), some (.int x.1), some (.int x.2)] [] σ) (he : ∀ w, z = .inr w → KJ (Rep D B shpR) A 4 0 0 Q p l e ({ frames := 0, cells := 0, slots := 0, locals := 0 } : Room) s m args below meth c 0 0 138 [some (.ref (B + 0)), some (.int a1), some (.int w.1), some (.int w.2)] [] σ) : KJ (Rep D B shpR) A 4 0 0 Q p l e ({ frames := 0, cells := 0, slots := 0, locals := 0 } : Room) s m args below meth c 0 0 88 [some (.ref (B + 0)), some (.int a1), some (.int x.1), some (.int x.2)] [] σ := by
  unfold fX11_touches_l88 at h
  refine k_iload_n hF dX11_touches_88 rfl ?_
  refine k_bipush hF (v := (60 : Int32)) dX11_touches_89 (by decide) ?_
  refine k_icmp_ge hF (tgt := 138) dX11_touches_91 (by decide) (fun c11 => ?_) (fun c11 => ?_)
  · replace h := ite_t c11 h
    exact he _ (Option.some.inj h).symm
  · replace h := ite_f c11 h
    refine k_iload_n hF dX11_touches_94 rfl ?_
    refine k_aload_n hF dX11_touches_95 rfl ?_
    refine k_get hF (v := .ref (B + 30)) shR_0 fl_X11_99_X11 dX11_touches_96 rfl ?_
    refine k_bipush hF (v := (60 : Int32)) dX11_touches_99 (by decide) ?_
    refine k_iload_n hF dX11_touches_101 rfl ?_
    refine k_imul hF dX11_touches_102 ?_
    refine k_iload_n hF dX11_touches_103 rfl ?_
    refine k_iadd hF dX11_touches_104 ?_
    obtain ⟨g12, h⟩ := gd_some h
    refine k_zald hF shR_30 dX11_touches_105 g12 ?_
    refine k_if_eq hF (tgt := 129) dX11_touches_106 (by decide) (fun c13 => ?_) (fun c13 => ?_)
    · replace h := ite_t c13 h
      refine k_iconst hF dX11_touches_129 ci_0 ?_
      refine k_kill 2 rfl ?_
      exact wX11_touches_j130 hF hA hbs h hc he
    · replace h := ite_f c13 h
      refine k_iconst hF dX11_touches_109 ci_1 ?_
      refine k_aload_n hF dX11_touches_110 rfl ?_
      refine k_get hF (v := .ref (B + 13)) shR_0 fl_X11_48_X11 dX11_touches_111 rfl ?_
      refine k_iload_n hF dX11_touches_114 rfl ?_
      obtain ⟨g14, h⟩ := gd_some h
      refine k_iald hF shR_13 dX11_touches_115 g14 ?_
      refine k_ishl hF dX11_touches_116 ?_
      refine k_iconst hF dX11_touches_117 ci_1 ?_
      refine k_aload_n hF dX11_touches_118 rfl ?_
      refine k_get hF (v := .ref (B + 14)) shR_0 fl_X11_51_X11 dX11_touches_119 rfl ?_
      refine k_iload_n hF dX11_touches_122 rfl ?_
      obtain ⟨g15, h⟩ := gd_some h
      refine k_iald hF shR_14 dX11_touches_123 g15 ?_
      refine k_ishl hF dX11_touches_124 ?_
      refine k_ior hF dX11_touches_125 ?_
      refine k_goto hF dX11_touches_126 (tgt := 130) (by decide) ?_
      refine k_kill 2 rfl ?_
      exact wX11_touches_j130 hF hA hbs h hc he
set_option maxHeartbeats 4000000 in
set_option maxRecDepth 100000 in
theorem wX11_touches {p : Program} {l : Launch} {e : Env} {s : State} {m : MethodId} {args : Array Value} {below : List Frame} {meth : Method} {c : Code} {Q : State → Prop} {A : Nat → Prop} {D : DD} {base B : Nat} (hF : KF D base cX11_touches RX11 A 4 0 0 p l e ({ frames := 0, cells := 0, slots := 0, locals := 0 } : Room) s m args below meth c) (hA : ∀ q, RA B shpR q → A q) (hbs : base ≤ B) {σ : St} {a1 : Int32} {z : Int32} (h : fX11_touches σ a1 = some z) (hr : ∀ (pc : Nat) (L : List (Option Value)), narrow .int (.int z) = .int z → decode cX11_touches pc = .ok (.ireturn, 1) → KJ (Rep D B shpR) A 4 0 0 Q p l e ({ frames := 0, cells := 0, slots := 0, locals := 0 } : Room) s m args below meth c 0 0 pc L [.int z] σ) : KJ (Rep D B shpR) A 4 0 0 Q p l e ({ frames := 0, cells := 0, slots := 0, locals := 0 } : Room) s m args below meth c 0 0 0 [some (.ref (B + 0)), some (.int a1), none, none] [] σ := by
  unfold fX11_touches at h
  refine k_iconst hF dX11_touches_0 ci_0 ?_
  refine k_istore_n hF (L' := [some (.ref (B + 0)), some (.int a1), some (.int (0 : Int32)), none]) dX11_touches_1 (by decide) rfl ?_
  refine k_iconst hF dX11_touches_2 ci_0 ?_
  refine k_istore_n hF (L' := [some (.ref (B + 0)), some (.int a1), some (.int (0 : Int32)), some (.int (0 : Int32))]) dX11_touches_3 (by decide) rfl ?_
  obtain ⟨x4, hx4, h⟩ := bind_some h
  refine k_loop (P := fun xq => KJ (Rep D B shpR) A 4 0 0 Q p l e ({ frames := 0, cells := 0, slots := 0, locals := 0 } : Room) s m args below meth c 0 0 4 [some (.ref (B + 0)), some (.int a1), some (.int xq.1), some (.int xq.2)] [] σ) (C := fun xq => KJ (Rep D B shpR) A 4 0 0 Q p l e ({ frames := 0, cells := 0, slots := 0, locals := 0 } : Room) s m args below meth c 0 0 40 [some (.ref (B + 0)), some (.int a1), some (.int xq.1), some (.int xq.2)] [] σ) (fun x z hz hc he => wX11_touches_l4 hF hA hbs hz hc he) hx4 ?_
  show KJ (Rep D B shpR) A 4 0 0 Q p l e ({ frames := 0, cells := 0, slots := 0, locals := 0 } : Room) s m args below meth c 0 0 40 [some (.ref (B + 0)), some (.int a1), some (.int x4.1), some (.int x4.2)] [] σ
  refine k_bipush hF (v := (8 : Int32)) dX11_touches_40 (by decide) ?_
  refine k_iload_n hF dX11_touches_42 rfl ?_
  refine k_imul hF dX11_touches_43 ?_
  refine k_istore_n hF (L' := [some (.ref (B + 0)), some (.int a1), some (.int x4.1), some (.int ((8 : Int32) * a1))]) dX11_touches_44 (by decide) rfl ?_
  obtain ⟨x10, hx10, h⟩ := bind_some h
  refine k_loop (P := fun xq => KJ (Rep D B shpR) A 4 0 0 Q p l e ({ frames := 0, cells := 0, slots := 0, locals := 0 } : Room) s m args below meth c 0 0 45 [some (.ref (B + 0)), some (.int a1), some (.int xq.1), some (.int xq.2)] [] σ) (C := fun xq => KJ (Rep D B shpR) A 4 0 0 Q p l e ({ frames := 0, cells := 0, slots := 0, locals := 0 } : Room) s m args below meth c 0 0 86 [some (.ref (B + 0)), some (.int a1), some (.int xq.1), some (.int xq.2)] [] σ) (fun x z hz hc he => wX11_touches_l45 hF hA hbs hz hc he) hx10 ?_
  show KJ (Rep D B shpR) A 4 0 0 Q p l e ({ frames := 0, cells := 0, slots := 0, locals := 0 } : Room) s m args below meth c 0 0 86 [some (.ref (B + 0)), some (.int a1), some (.int x10.1), some (.int x10.2)] [] σ
  refine k_iconst hF dX11_touches_86 ci_0 ?_
  refine k_istore_n hF (L' := [some (.ref (B + 0)), some (.int a1), some (.int x10.1), some (.int (0 : Int32))]) dX11_touches_87 (by decide) rfl ?_
  obtain ⟨x16, hx16, h⟩ := bind_some h
  refine k_loop (P := fun xq => KJ (Rep D B shpR) A 4 0 0 Q p l e ({ frames := 0, cells := 0, slots := 0, locals := 0 } : Room) s m args below meth c 0 0 88 [some (.ref (B + 0)), some (.int a1), some (.int xq.1), some (.int xq.2)] [] σ) (C := fun xq => KJ (Rep D B shpR) A 4 0 0 Q p l e ({ frames := 0, cells := 0, slots := 0, locals := 0 } : Room) s m args below meth c 0 0 138 [some (.ref (B + 0)), some (.int a1), some (.int xq.1), some (.int xq.2)] [] σ) (fun x z hz hc he => wX11_touches_l88 hF hA hbs hz hc he) hx16 ?_
  show KJ (Rep D B shpR) A 4 0 0 Q p l e ({ frames := 0, cells := 0, slots := 0, locals := 0 } : Room) s m args below meth c 0 0 138 [some (.ref (B + 0)), some (.int a1), some (.int x16.1), some (.int x16.2)] [] σ
  refine k_iload_n hF dX11_touches_138 rfl ?_
  cases h
  exact hr _ _ rfl dX11_touches_139
theorem ct_X11_touches {l : Launch} {D : DD} {base B : Nat} (hbs : base ≤ B) {σ : St} {a1 : Int32} {r : Int32} (h : fX11_touches σ a1 = some r) : MetR l D B shpR base yX11_touches cX11_touches 4 (some .int) 0 0 [.ref (B + 0), .int a1] σ (some (.int r)) σ :=
  MetR.of (by decide +kernel) (fun v hv => by simp only [List.mem_cons, List.not_mem_nil, or_false] at hv; rcases hv with rfl | rfl <;> rfl) (Nat.le_of_ble_eq_true rfl) hbs (fun p e s m args below meth c hF hr => wX11_touches hF (fun q hq => hq) hbs h (fun pc L hn hd => k_iret hF hr hn hd))
set_option maxHeartbeats 4000000 in
set_option maxRecDepth 100000 in
theorem wX11_laterValue {p : Program} {l : Launch} {e : Env} {s : State} {m : MethodId} {args : Array Value} {below : List Frame} {meth : Method} {c : Code} {Q : State → Prop} {A : Nat → Prop} {D : DD} {base B : Nat} (hF : KF D base cX11_laterValue RX11 A 3 0 0 p l e ({ frames := 0, cells := 0, slots := 0, locals := 0 } : Room) s m args below meth c) (hA : ∀ q, RA B shpR q → A q) (hbs : base ≤ B) {σ : St} {a1 : Int32} {a2 : Int32} {z : Int32} (h : fX11_laterValue σ a1 a2 = some z) (hr : ∀ (pc : Nat) (L : List (Option Value)), narrow .int (.int z) = .int z → decode cX11_laterValue pc = .ok (.ireturn, 1) → KJ (Rep D B shpR) A 3 0 0 Q p l e ({ frames := 0, cells := 0, slots := 0, locals := 0 } : Room) s m args below meth c 0 0 pc L [.int z] σ) : KJ (Rep D B shpR) A 3 0 0 Q p l e ({ frames := 0, cells := 0, slots := 0, locals := 0 } : Room) s m args below meth c 0 0 0 [some (.ref (B + 0)), some (.int a1), some (.int a2)] [] σ := by
  unfold fX11_laterValue at h
  refine k_aload_n hF dX11_laterValue_0 rfl ?_
  refine k_get hF (v := .ref (B + 24)) shR_0 fl_X11_81_X11 dX11_laterValue_1 rfl ?_
  refine k_bipush hF (v := (24 : Int32)) dX11_laterValue_4 (by decide) ?_
  refine k_iload_n hF dX11_laterValue_6 rfl ?_
  refine k_imul hF dX11_laterValue_7 ?_
  refine k_iload_n hF dX11_laterValue_8 rfl ?_
  refine k_iadd hF dX11_laterValue_9 ?_
  obtain ⟨g1, h⟩ := gd_some h
  refine k_zald hF shR_24 dX11_laterValue_10 g1 ?_
  refine k_if_eq hF (tgt := 28) dX11_laterValue_11 (by decide) (fun c2 => ?_) (fun c2 => ?_)
  · replace h := ite_t c2 h
    refine k_aload_n hF dX11_laterValue_28 rfl ?_
    refine k_get hF (v := .ref (B + 2)) shR_0 fl_X11_13_X11 dX11_laterValue_29 rfl ?_
    refine k_iload_n hF dX11_laterValue_32 rfl ?_
    obtain ⟨g3, h⟩ := gd_some h
    refine k_iald hF shR_2 dX11_laterValue_33 g3 ?_
    cases h
    exact hr _ _ rfl dX11_laterValue_34
  · replace h := ite_f c2 h
    refine k_aload_n hF dX11_laterValue_14 rfl ?_
    refine k_get hF (v := .ref (B + 25)) shR_0 fl_X11_84_X11 dX11_laterValue_15 rfl ?_
    refine k_bipush hF (v := (24 : Int32)) dX11_laterValue_18 (by decide) ?_
    refine k_iload_n hF dX11_laterValue_20 rfl ?_
    refine k_imul hF dX11_laterValue_21 ?_
    refine k_iload_n hF dX11_laterValue_22 rfl ?_
    refine k_iadd hF dX11_laterValue_23 ?_
    obtain ⟨g4, h⟩ := gd_some h
    refine k_iald hF shR_25 dX11_laterValue_24 g4 ?_
    refine k_goto hF dX11_laterValue_25 (tgt := 34) (by decide) ?_
    cases h
    exact hr _ _ rfl dX11_laterValue_34
theorem ct_X11_laterValue {l : Launch} {D : DD} {base B : Nat} (hbs : base ≤ B) {σ : St} {a1 : Int32} {a2 : Int32} {r : Int32} (h : fX11_laterValue σ a1 a2 = some r) : MetR l D B shpR base yX11_laterValue cX11_laterValue 3 (some .int) 0 0 [.ref (B + 0), .int a1, .int a2] σ (some (.int r)) σ :=
  MetR.of (by decide +kernel) (fun v hv => by simp only [List.mem_cons, List.not_mem_nil, or_false] at hv; rcases hv with rfl | rfl | rfl <;> rfl) (Nat.le_of_ble_eq_true rfl) hbs (fun p e s m args below meth c hF hr => wX11_laterValue hF (fun q hq => hq) hbs h (fun pc L hn hd => k_iret hF hr hn hd))
set_option maxHeartbeats 4000000 in
set_option maxRecDepth 100000 in
theorem wX11_breaks_j76 {p : Program} {l : Launch} {e : Env} {s : State} {m : MethodId} {args : Array Value} {below : List Frame} {meth : Method} {c : Code} {Q : State → Prop} {A : Nat → Prop} {D : DD} {base B : Nat} (hF : KF D base cX11_breaks RX11 A 6 0 0 p l e ({ frames := 2, cells := 0, slots := 0, locals := 43 } : Room) s m args below meth c) (hA : ∀ q, RA B shpR q → A q) (hbs : base ≤ B) {σ : St} {a1 : Int32} {b3 : Int32} {t0 : Int32} {z : ((Int32 × Int32) ⊕ (Int32 × Int32))} (h : fX11_breaks_j76 σ a1 b3 t0 = some z) (hc : ∀ x, z = .inl x → KJ (Rep D B shpR) A 6 0 0 Q p l e ({ frames := 2, cells := 0, slots := 0, locals := 43 } : Room) s m args below meth c 0 0 27 [some (.ref (B + 0)), some (.int a1), some (.int x.1), some (.int x.2), none, none] [] σ) (he : ∀ w, z = .inr w → KJ (Rep D B shpR) A 6 0 0 Q p l e ({ frames := 2, cells := 0, slots := 0, locals := 43 } : Room) s m args below meth c 0 0 83 [some (.ref (B + 0)), some (.int a1), some (.int w.1), some (.int w.2), none, none] [] σ) : KJ (Rep D B shpR) A 6 0 0 Q p l e ({ frames := 2, cells := 0, slots := 0, locals := 43 } : Room) s m args below meth c 0 0 76 [some (.ref (B + 0)), some (.int a1), none, some (.int b3), none, none] [.int t0] σ := by
  unfold fX11_breaks_j76 at h
  refine k_istore_n hF (L' := [some (.ref (B + 0)), some (.int a1), some (.int t0), some (.int b3), none, none]) dX11_breaks_76 (by decide) rfl ?_
  refine k_iinc hF (v := (b3 + (1 : Int32))) (L' := [some (.ref (B + 0)), some (.int a1), some (.int t0), some (.int (b3 + (1 : Int32))), none, none]) dX11_breaks_77 rfl (by first | rfl | (congr 1)) (by decide) rfl ?_
  refine k_goto hF dX11_breaks_80 (tgt := 27) (by decide) ?_
  exact hc _ (Option.some.inj h).symm
set_option maxHeartbeats 4000000 in
set_option maxRecDepth 100000 in
theorem wX11_breaks_j71 {p : Program} {l : Launch} {e : Env} {s : State} {m : MethodId} {args : Array Value} {below : List Frame} {meth : Method} {c : Code} {Q : State → Prop} {A : Nat → Prop} {D : DD} {base B : Nat} (hF : KF D base cX11_breaks RX11 A 6 0 0 p l e ({ frames := 2, cells := 0, slots := 0, locals := 43 } : Room) s m args below meth c) (hA : ∀ q, RA B shpR q → A q) (hbs : base ≤ B) {σ : St} {a1 : Int32} {b3 : Int32} {z : ((Int32 × Int32) ⊕ (Int32 × Int32))} (h : fX11_breaks_j71 σ a1 b3 = some z) (hc : ∀ x, z = .inl x → KJ (Rep D B shpR) A 6 0 0 Q p l e ({ frames := 2, cells := 0, slots := 0, locals := 43 } : Room) s m args below meth c 0 0 27 [some (.ref (B + 0)), some (.int a1), some (.int x.1), some (.int x.2), none, none] [] σ) (he : ∀ w, z = .inr w → KJ (Rep D B shpR) A 6 0 0 Q p l e ({ frames := 2, cells := 0, slots := 0, locals := 43 } : Room) s m args below meth c 0 0 83 [some (.ref (B + 0)), some (.int a1), some (.int w.1), some (.int w.2), none, none] [] σ) : KJ (Rep D B shpR) A 6 0 0 Q p l e ({ frames := 2, cells := 0, slots := 0, locals := 43 } : Room) s m args below meth c 0 0 71 [some (.ref (B + 0)), some (.int a1), none, some (.int b3), none, none] [] σ := by
  unfold fX11_breaks_j71 at h
  refine k_iconst hF dX11_breaks_71 ci_1 ?_
  refine k_goto hF dX11_breaks_72 (tgt := 76) (by decide) ?_
  exact wX11_breaks_j76 hF hA hbs h hc he
set_option maxHeartbeats 4000000 in
set_option maxRecDepth 100000 in
theorem wX11_breaks_l27 {p : Program} {l : Launch} {e : Env} {s : State} {m : MethodId} {args : Array Value} {below : List Frame} {meth : Method} {c : Code} {Q : State → Prop} {A : Nat → Prop} {D : DD} {base B : Nat} (hF : KF D base cX11_breaks RX11 A 6 0 0 p l e ({ frames := 2, cells := 0, slots := 0, locals := 43 } : Room) s m args below meth c) (hA : ∀ q, RA B shpR q → A q) (hbs : base ≤ B) {σ : St} {a1 : Int32} {x : (Int32 × Int32)} {z : ((Int32 × Int32) ⊕ (Int32 × Int32))} (h : fX11_breaks_l27 σ a1 x = some z) (hc : ∀ x, z = .inl x → KJ (Rep D B shpR) A 6 0 0 Q p l e ({ frames := 2, cells := 0, slots := 0, locals := 43 } : Room) s m args below meth c 0 0 27 [some (.ref (B + 0)), some (.int a1), some (.int x.1), some (.int x.2), none, none] [] σ) (he : ∀ w, z = .inr w → KJ (Rep D B shpR) A 6 0 0 Q p l e ({ frames := 2, cells := 0, slots := 0, locals := 43 } : Room) s m args below meth c 0 0 83 [some (.ref (B + 0)), some (.int a1), some (.int w.1), some (.int w.2), none, none] [] σ) : KJ (Rep D B shpR) A 6 0 0 Q p l e ({ frames := 2, cells := 0, slots := 0, locals := 43 } : Room) s m args below meth c 0 0 27 [some (.ref (B + 0)), some (.int a1), some (.int x.1), some (.int x.2), none, none] [] σ := by
  unfold fX11_breaks_l27 at h
  refine k_iload_n hF dX11_breaks_27 rfl ?_
  refine k_bipush hF (v := (8 : Int32)) dX11_breaks_28 (by decide) ?_
  refine k_iload_n hF dX11_breaks_30 rfl ?_
  refine k_imul hF dX11_breaks_31 ?_
  refine k_aload_n hF dX11_breaks_32 rfl ?_
  refine k_get hF (v := .ref (B + 26)) shR_0 fl_X11_87_X11 dX11_breaks_33 rfl ?_
  refine k_iload_n hF dX11_breaks_36 rfl ?_
  obtain ⟨g3, h⟩ := gd_some h
  refine k_iald hF shR_26 dX11_breaks_37 g3 ?_
  refine k_iadd hF dX11_breaks_38 ?_
  refine k_icmp_ge hF (tgt := 83) dX11_breaks_39 (by decide) (fun c4 => ?_) (fun c4 => ?_)
  · replace h := ite_t c4 h
    exact he _ (Option.some.inj h).symm
  · replace h := ite_f c4 h
    refine k_iload_n hF dX11_breaks_42 rfl ?_
    refine k_if_ne hF (tgt := 71) dX11_breaks_43 (by decide) (fun c5 => ?_) (fun c5 => ?_)
    · replace h := ite_f c5 h
      refine k_kill 2 rfl ?_
      exact wX11_breaks_j71 hF hA hbs h hc he
    · replace h := ite_t c5 h
      refine k_aload_n hF dX11_breaks_46 rfl ?_
      refine k_aload_n hF dX11_breaks_47 rfl ?_
      refine k_get hF (v := .ref (B + 29)) shR_0 fl_X11_96_X11 dX11_breaks_48 rfl ?_
      refine k_iload_n hF dX11_breaks_51 rfl ?_
      obtain ⟨g6, h⟩ := gd_some h
      refine k_iald hF shR_29 dX11_breaks_52 g6 ?_
      refine k_aload_n hF dX11_breaks_53 rfl ?_
      refine k_get hF (v := .ref (B + 27)) shR_0 fl_X11_90_X11 dX11_breaks_54 rfl ?_
      refine k_iload_n hF dX11_breaks_57 rfl ?_
      obtain ⟨g7, h⟩ := gd_some h
      refine k_iald hF shR_27 dX11_breaks_58 g7 ?_
      refine k_aload_n hF dX11_breaks_59 rfl ?_
      refine k_get hF (v := .ref (B + 28)) shR_0 fl_X11_93_X11 dX11_breaks_60 rfl ?_
      refine k_iload_n hF dX11_breaks_63 rfl ?_
      obtain ⟨g8, h⟩ := gd_some h
      refine k_iald hF shR_28 dX11_breaks_64 g8 ?_
      obtain ⟨v9, hv9, h⟩ := bind_some h
      refine k_callV hF hA (as := [.int (gi σ 29 x.2.toNatClampNeg), .int (gi σ 27 x.2.toNatClampNeg), .int (gi σ 28 x.2.toNatClampNeg)]) (ct_X11_fitsShape hbs hv9) mv_X11_188 shR_0 rfl rfl rfl ⟨Nat.le_of_ble_eq_true rfl, Nat.le_of_ble_eq_true rfl⟩ (Nat.le_of_ble_eq_true rfl) dX11_breaks_65 ?_
      refine k_st (st2 := [.int v9]) rfl ?_
      refine k_if_ne hF (tgt := 75) dX11_breaks_68 (by decide) (fun c10 => ?_) (fun c10 => ?_)
      · replace h := ite_f c10 h
        refine k_iconst hF dX11_breaks_75 ci_0 ?_
        refine k_kill 2 rfl ?_
        exact wX11_breaks_j76 hF hA hbs h hc he
      · replace h := ite_t c10 h
        refine k_kill 2 rfl ?_
        exact wX11_breaks_j71 hF hA hbs h hc he
set_option maxHeartbeats 4000000 in
set_option maxRecDepth 100000 in
theorem wX11_breaks_j209 {p : Program} {l : Launch} {e : Env} {s : State} {m : MethodId} {args : Array Value} {below : List Frame} {meth : Method} {c : Code} {Q : State → Prop} {A : Nat → Prop} {D : DD} {base B : Nat} (hF : KF D base cX11_breaks RX11 A 6 0 0 p l e ({ frames := 2, cells := 0, slots := 0, locals := 43 } : Room) s m args below meth c) (hA : ∀ q, RA B shpR q → A q) (hbs : base ≤ B) {σ : St} {a1 : Int32} {ea3b : Int32} {b4 : Int32} {t0 : Int32} {z : ((Int32 × Int32) ⊕ (Int32 × Int32))} (h : fX11_breaks_j209 σ a1 ea3b b4 t0 = some z) (hc : ∀ x, z = .inl x → KJ (Rep D B shpR) A 6 0 0 Q p l e ({ frames := 2, cells := 0, slots := 0, locals := 43 } : Room) s m args below meth c 0 0 96 [some (.ref (B + 0)), some (.int a1), some (.int x.1), some (.int ea3b), some (.int x.2), none] [] σ) (he : ∀ w, z = .inr w → KJ (Rep D B shpR) A 6 0 0 Q p l e ({ frames := 2, cells := 0, slots := 0, locals := 43 } : Room) s m args below meth c 0 0 216 [some (.ref (B + 0)), some (.int a1), some (.int w.1), some (.int ea3b), some (.int w.2), none] [] σ) : KJ (Rep D B shpR) A 6 0 0 Q p l e ({ frames := 2, cells := 0, slots := 0, locals := 43 } : Room) s m args below meth c 0 0 209 [some (.ref (B + 0)), some (.int a1), none, some (.int ea3b), some (.int b4), none] [.int t0] σ := by
  unfold fX11_breaks_j209 at h
  refine k_istore_n hF (L' := [some (.ref (B + 0)), some (.int a1), some (.int t0), some (.int ea3b), some (.int b4), none]) dX11_breaks_209 (by decide) rfl ?_
  refine k_iinc hF (v := (b4 + (1 : Int32))) (L' := [some (.ref (B + 0)), some (.int a1), some (.int t0), some (.int ea3b), some (.int (b4 + (1 : Int32))), none]) dX11_breaks_210 rfl (by first | rfl | (congr 1)) (by decide) rfl ?_
  refine k_goto hF dX11_breaks_213 (tgt := 96) (by decide) ?_
  exact hc _ (Option.some.inj h).symm
set_option maxHeartbeats 4000000 in
set_option maxRecDepth 100000 in
theorem wX11_breaks_j204 {p : Program} {l : Launch} {e : Env} {s : State} {m : MethodId} {args : Array Value} {below : List Frame} {meth : Method} {c : Code} {Q : State → Prop} {A : Nat → Prop} {D : DD} {base B : Nat} (hF : KF D base cX11_breaks RX11 A 6 0 0 p l e ({ frames := 2, cells := 0, slots := 0, locals := 43 } : Room) s m args below meth c) (hA : ∀ q, RA B shpR q → A q) (hbs : base ≤ B) {σ : St} {a1 : Int32} {ea3b : Int32} {b4 : Int32} {z : ((Int32 × Int32) ⊕ (Int32 × Int32))} (h : fX11_breaks_j204 σ a1 ea3b b4 = some z) (hc : ∀ x, z = .inl x → KJ (Rep D B shpR) A 6 0 0 Q p l e ({ frames := 2, cells := 0, slots := 0, locals := 43 } : Room) s m args below meth c 0 0 96 [some (.ref (B + 0)), some (.int a1), some (.int x.1), some (.int ea3b), some (.int x.2), none] [] σ) (he : ∀ w, z = .inr w → KJ (Rep D B shpR) A 6 0 0 Q p l e ({ frames := 2, cells := 0, slots := 0, locals := 43 } : Room) s m args below meth c 0 0 216 [some (.ref (B + 0)), some (.int a1), some (.int w.1), some (.int ea3b), some (.int w.2), none] [] σ) : KJ (Rep D B shpR) A 6 0 0 Q p l e ({ frames := 2, cells := 0, slots := 0, locals := 43 } : Room) s m args below meth c 0 0 204 [some (.ref (B + 0)), some (.int a1), none, some (.int ea3b), some (.int b4), none] [] σ := by
  unfold fX11_breaks_j204 at h
  refine k_iconst hF dX11_breaks_204 ci_1 ?_
  refine k_goto hF dX11_breaks_205 (tgt := 209) (by decide) ?_
  exact wX11_breaks_j209 hF hA hbs h hc he
set_option maxHeartbeats 4000000 in
set_option maxRecDepth 100000 in
theorem wX11_breaks_j208 {p : Program} {l : Launch} {e : Env} {s : State} {m : MethodId} {args : Array Value} {below : List Frame} {meth : Method} {c : Code} {Q : State → Prop} {A : Nat → Prop} {D : DD} {base B : Nat} (hF : KF D base cX11_breaks RX11 A 6 0 0 p l e ({ frames := 2, cells := 0, slots := 0, locals := 43 } : Room) s m args below meth c) (hA : ∀ q, RA B shpR q → A q) (hbs : base ≤ B) {σ : St} {a1 : Int32} {ea3b : Int32} {b4 : Int32} {z : ((Int32 × Int32) ⊕ (Int32 × Int32))} (h : fX11_breaks_j208 σ a1 ea3b b4 = some z) (hc : ∀ x, z = .inl x → KJ (Rep D B shpR) A 6 0 0 Q p l e ({ frames := 2, cells := 0, slots := 0, locals := 43 } : Room) s m args below meth c 0 0 96 [some (.ref (B + 0)), some (.int a1), some (.int x.1), some (.int ea3b), some (.int x.2), none] [] σ) (he : ∀ w, z = .inr w → KJ (Rep D B shpR) A 6 0 0 Q p l e ({ frames := 2, cells := 0, slots := 0, locals := 43 } : Room) s m args below meth c 0 0 216 [some (.ref (B + 0)), some (.int a1), some (.int w.1), some (.int ea3b), some (.int w.2), none] [] σ) : KJ (Rep D B shpR) A 6 0 0 Q p l e ({ frames := 2, cells := 0, slots := 0, locals := 43 } : Room) s m args below meth c 0 0 208 [some (.ref (B + 0)), some (.int a1), none, some (.int ea3b), some (.int b4), none] [] σ := by
  unfold fX11_breaks_j208 at h
  refine k_iconst hF dX11_breaks_208 ci_0 ?_
  exact wX11_breaks_j209 hF hA hbs h hc he
set_option maxHeartbeats 4000000 in
set_option maxRecDepth 100000 in
theorem wX11_breaks_j177 {p : Program} {l : Launch} {e : Env} {s : State} {m : MethodId} {args : Array Value} {below : List Frame} {meth : Method} {c : Code} {Q : State → Prop} {A : Nat → Prop} {D : DD} {base B : Nat} (hF : KF D base cX11_breaks RX11 A 6 0 0 p l e ({ frames := 2, cells := 0, slots := 0, locals := 43 } : Room) s m args below meth c) (hA : ∀ q, RA B shpR q → A q) (hbs : base ≤ B) {σ : St} {a1 : Int32} {ea3b : Int32} {b2 : Int32} {b4 : Int32} {t0 : Int32} {z : ((Int32 × Int32) ⊕ (Int32 × Int32))} (h : fX11_breaks_j177 σ a1 ea3b b2 b4 t0 = some z) (hc : ∀ x, z = .inl x → KJ (Rep D B shpR) A 6 0 0 Q p l e ({ frames := 2, cells := 0, slots := 0, locals := 43 } : Room) s m args below meth c 0 0 96 [some (.ref (B + 0)), some (.int a1), some (.int x.1), some (.int ea3b), some (.int x.2), none] [] σ) (he : ∀ w, z = .inr w → KJ (Rep D B shpR) A 6 0 0 Q p l e ({ frames := 2, cells := 0, slots := 0, locals := 43 } : Room) s m args below meth c 0 0 216 [some (.ref (B + 0)), some (.int a1), some (.int w.1), some (.int ea3b), some (.int w.2), none] [] σ) : KJ (Rep D B shpR) A 6 0 0 Q p l e ({ frames := 2, cells := 0, slots := 0, locals := 43 } : Room) s m args below meth c 0 0 177 [some (.ref (B + 0)), some (.int a1), some (.int b2), some (.int ea3b), some (.int b4), none] [.int t0] σ := by
  unfold fX11_breaks_j177 at h
  refine k_istore hF (L' := [some (.ref (B + 0)), some (.int a1), some (.int b2), some (.int ea3b), some (.int b4), some (.int t0)]) dX11_breaks_177 (by decide) rfl ?_
  refine k_iload_n hF dX11_breaks_179 rfl ?_
  refine k_if_ne hF (tgt := 204) dX11_breaks_180 (by decide) (fun c15 => ?_) (fun c15 => ?_)
  · replace h := ite_f c15 h
    refine k_kill 2 rfl ?_
    refine k_kill 5 rfl ?_
    exact wX11_breaks_j204 hF hA hbs h hc he
  · replace h := ite_t c15 h
    refine k_iload hF dX11_breaks_183 rfl ?_
    refine k_if_eq hF (tgt := 208) dX11_breaks_185 (by decide) (fun c16 => ?_) (fun c16 => ?_)
    · replace h := ite_t c16 h
      refine k_kill 2 rfl ?_
      refine k_kill 5 rfl ?_
      exact wX11_breaks_j208 hF hA hbs h hc he
    · replace h := ite_f c16 h
      refine k_aload_n hF dX11_breaks_188 rfl ?_
      refine k_iload_n hF dX11_breaks_189 rfl ?_
      refine k_iload_n hF dX11_breaks_190 rfl ?_
      obtain ⟨v17, hv17, h⟩ := bind_some h
      refine k_callV hF hA (as := [.int a1, .int ea3b]) (ct_X11_laterValue hbs hv17) mv_X11_233 shR_0 rfl rfl rfl ⟨Nat.le_of_ble_eq_true rfl, Nat.le_of_ble_eq_true rfl⟩ (Nat.le_of_ble_eq_true rfl) dX11_breaks_191 ?_
      refine k_st (st2 := [.int v17]) rfl ?_
      refine k_aload_n hF dX11_breaks_194 rfl ?_
      refine k_iload_n hF dX11_breaks_195 rfl ?_
      refine k_iload hF dX11_breaks_196 rfl ?_
      obtain ⟨v18, hv18, h⟩ := bind_some h
      refine k_callV hF hA (as := [.int a1, .int b4]) (ct_X11_laterValue hbs hv18) mv_X11_233 shR_0 rfl rfl rfl ⟨Nat.le_of_ble_eq_true rfl, Nat.le_of_ble_eq_true rfl⟩ (Nat.le_of_ble_eq_true rfl) dX11_breaks_198 ?_
      refine k_st (st2 := [.int v18, .int v17]) rfl ?_
      refine k_icmp_ne hF (tgt := 208) dX11_breaks_201 (by decide) (fun c19 => ?_) (fun c19 => ?_)
      · replace h := ite_f c19 h
        refine k_kill 2 rfl ?_
        refine k_kill 5 rfl ?_
        exact wX11_breaks_j208 hF hA hbs h hc he
      · replace h := ite_t c19 h
        refine k_kill 2 rfl ?_
        refine k_kill 5 rfl ?_
        exact wX11_breaks_j204 hF hA hbs h hc he
set_option maxHeartbeats 4000000 in
set_option maxRecDepth 100000 in
theorem wX11_breaks_j176 {p : Program} {l : Launch} {e : Env} {s : State} {m : MethodId} {args : Array Value} {below : List Frame} {meth : Method} {c : Code} {Q : State → Prop} {A : Nat → Prop} {D : DD} {base B : Nat} (hF : KF D base cX11_breaks RX11 A 6 0 0 p l e ({ frames := 2, cells := 0, slots := 0, locals := 43 } : Room) s m args below meth c) (hA : ∀ q, RA B shpR q → A q) (hbs : base ≤ B) {σ : St} {a1 : Int32} {ea3b : Int32} {b2 : Int32} {b4 : Int32} {z : ((Int32 × Int32) ⊕ (Int32 × Int32))} (h : fX11_breaks_j176 σ a1 ea3b b2 b4 = some z) (hc : ∀ x, z = .inl x → KJ (Rep D B shpR) A 6 0 0 Q p l e ({ frames := 2, cells := 0, slots := 0, locals := 43 } : Room) s m args below meth c 0 0 96 [some (.ref (B + 0)), some (.int a1), some (.int x.1), some (.int ea3b), some (.int x.2), none] [] σ) (he : ∀ w, z = .inr w → KJ (Rep D B shpR) A 6 0 0 Q p l e ({ frames := 2, cells := 0, slots := 0, locals := 43 } : Room) s m args below meth c 0 0 216 [some (.ref (B + 0)), some (.int a1), some (.int w.1), some (.int ea3b), some (.int w.2), none] [] σ) : KJ (Rep D B shpR) A 6 0 0 Q p l e ({ frames := 2, cells := 0, slots := 0, locals := 43 } : Room) s m args below meth c 0 0 176 [some (.ref (B + 0)), some (.int a1), some (.int b2), some (.int ea3b), some (.int b4), none] [] σ := by
  unfold fX11_breaks_j176 at h
  refine k_iconst hF dX11_breaks_176 ci_0 ?_
  exact wX11_breaks_j177 hF hA hbs h hc he
set_option maxHeartbeats 4000000 in
set_option maxRecDepth 100000 in
theorem wX11_breaks_l96 {p : Program} {l : Launch} {e : Env} {s : State} {m : MethodId} {args : Array Value} {below : List Frame} {meth : Method} {c : Code} {Q : State → Prop} {A : Nat → Prop} {D : DD} {base B : Nat} (hF : KF D base cX11_breaks RX11 A 6 0 0 p l e ({ frames := 2, cells := 0, slots := 0, locals := 43 } : Room) s m args below meth c) (hA : ∀ q, RA B shpR q → A q) (hbs : base ≤ B) {σ : St} {a1 : Int32} {ea3b : Int32} {x : (Int32 × Int32)} {z : ((Int32 × Int32) ⊕ (Int32 × Int32))} (h : fX11_breaks_l96 σ a1 ea3b x = some z) (hc : ∀ x, z = .inl x → KJ (Rep D B shpR) A 6 0 0 Q p l e ({ frames := 2, cells := 0, slots := 0, locals := 43 } : Room) s m args below meth c 0 0 96 [some (.ref (B + 0)), some (.int a1), some (.int x.1), some (.int ea3b), some (.int x.2), none] [] σ) (he : ∀ w, z = .inr w → KJ (Rep D B shpR) A 6 0 0 Q p l e ({ frames := 2, cells := 0, slots := 0, locals := 43 } : Room) s m args below meth c 0 0 216 [some (.ref (B + 0)), some (.int a1), some (.int w.1), some (.int ea3b), some (.int w.2), none] [] σ) : KJ (Rep D B shpR) A 6 0 0 Q p l e ({ frames := 2, cells := 0, slots := 0, locals := 43 } : Room) s m args below meth c 0 0 96 [some (.ref (B + 0)), some (.int a1), some (.int x.1), some (.int ea3b), some (.int x.2), none] [] σ := by
  unfold fX11_breaks_l96 at h
  refine k_iload hF dX11_breaks_96 rfl ?_
  refine k_aload_n hF dX11_breaks_98 rfl ?_
  refine k_get hF (v := .int (gi σ 0 1)) shR_0 fl_X11_150_X11 dX11_breaks_99 rfl ?_
  refine k_icmp_ge hF (tgt := 216) dX11_breaks_102 (by decide) (fun c13 => ?_) (fun c13 => ?_)
  · replace h := ite_t c13 h
    exact he _ (Option.some.inj h).symm
  · replace h := ite_f c13 h
    refine k_iload_n hF dX11_breaks_105 rfl ?_
    refine k_iload hF dX11_breaks_106 rfl ?_
    refine k_icmp_eq hF (tgt := 176) dX11_breaks_108 (by decide) (fun c14 => ?_) (fun c14 => ?_)
    · replace h := ite_t c14 h
      exact wX11_breaks_j176 hF hA hbs h hc he
    · replace h := ite_f c14 h
      refine k_aload_n hF dX11_breaks_111 rfl ?_
      refine k_iload_n hF dX11_breaks_112 rfl ?_
      obtain ⟨v20, hv20, h⟩ := bind_some h
      refine k_callV hF hA (as := [.int ea3b]) (ct_X11_isNode hbs hv20) mv_X11_163 shR_0 rfl rfl rfl ⟨Nat.le_of_ble_eq_true rfl, Nat.le_of_ble_eq_true rfl⟩ (Nat.le_of_ble_eq_true rfl) dX11_breaks_113 ?_
      refine k_st (st2 := [.int v20]) rfl ?_
      refine k_if_eq hF (tgt := 176) dX11_breaks_116 (by decide) (fun c21 => ?_) (fun c21 => ?_)
      · replace h := ite_t c21 h
        exact wX11_breaks_j176 hF hA hbs h hc he
      · replace h := ite_f c21 h
        refine k_aload_n hF dX11_breaks_119 rfl ?_
        refine k_iload hF dX11_breaks_120 rfl ?_
        obtain ⟨v22, hv22, h⟩ := bind_some h
        refine k_callV hF hA (as := [.int x.2]) (ct_X11_isNode hbs hv22) mv_X11_163 shR_0 rfl rfl rfl ⟨Nat.le_of_ble_eq_true rfl, Nat.le_of_ble_eq_true rfl⟩ (Nat.le_of_ble_eq_true rfl) dX11_breaks_122 ?_
        refine k_st (st2 := [.int v22]) rfl ?_
        refine k_if_eq hF (tgt := 176) dX11_breaks_125 (by decide) (fun c23 => ?_) (fun c23 => ?_)
        · replace h := ite_t c23 h
          exact wX11_breaks_j176 hF hA hbs h hc he
        · replace h := ite_f c23 h
          refine k_aload_n hF dX11_breaks_128 rfl ?_
          refine k_get hF (v := .ref (B + 24)) shR_0 fl_X11_81_X11 dX11_breaks_129 rfl ?_
          refine k_bipush hF (v := (24 : Int32)) dX11_breaks_132 (by decide) ?_
          refine k_iload_n hF dX11_breaks_134 rfl ?_
          refine k_imul hF dX11_breaks_135 ?_
          refine k_iload_n hF dX11_breaks_136 rfl ?_
          refine k_iadd hF dX11_breaks_137 ?_
          obtain ⟨g24, h⟩ := gd_some h
          refine k_zald hF shR_24 dX11_breaks_138 g24 ?_
          refine k_if_eq hF (tgt := 176) dX11_breaks_139 (by decide) (fun c25 => ?_) (fun c25 => ?_)
          · replace h := ite_t c25 h
            exact wX11_breaks_j176 hF hA hbs h hc he
          · replace h := ite_f c25 h
            refine k_aload_n hF dX11_breaks_142 rfl ?_
            refine k_get hF (v := .ref (B + 18)) shR_0 fl_X11_63_X11 dX11_breaks_143 rfl ?_
            refine k_aload_n hF dX11_breaks_146 rfl ?_
            refine k_get hF (v := .ref (B + 1)) shR_0 fl_X11_7_X11 dX11_breaks_147 rfl ?_
            refine k_iload_n hF dX11_breaks_150 rfl ?_
            obtain ⟨g26, h⟩ := gd_some h
            refine k_iald hF shR_1 dX11_breaks_151 g26 ?_
            obtain ⟨g27, h⟩ := gd_some h
            refine k_zald hF shR_18 dX11_breaks_152 g27 ?_
            refine k_if_eq hF (tgt := 176) dX11_breaks_153 (by decide) (fun c28 => ?_) (fun c28 => ?_)
            · replace h := ite_t c28 h
              exact wX11_breaks_j176 hF hA hbs h hc he
            · replace h := ite_f c28 h
              refine k_aload_n hF dX11_breaks_156 rfl ?_
              refine k_get hF (v := .ref (B + 1)) shR_0 fl_X11_7_X11 dX11_breaks_157 rfl ?_
              refine k_iload_n hF dX11_breaks_160 rfl ?_
              obtain ⟨g29, h⟩ := gd_some h
              refine k_iald hF shR_1 dX11_breaks_161 g29 ?_
              refine k_aload_n hF dX11_breaks_162 rfl ?_
              refine k_get hF (v := .ref (B + 1)) shR_0 fl_X11_7_X11 dX11_breaks_163 rfl ?_
              refine k_iload hF dX11_breaks_166 rfl ?_
              obtain ⟨g30, h⟩ := gd_some h
              refine k_iald hF shR_1 dX11_breaks_168 g30 ?_
              refine k_icmp_ne hF (tgt := 176) dX11_breaks_169 (by decide) (fun c31 => ?_) (fun c31 => ?_)
              · replace h := ite_f c31 h
                exact wX11_breaks_j176 hF hA hbs h hc he
              · replace h := ite_t c31 h
                refine k_iconst hF dX11_breaks_172 ci_1 ?_
                refine k_goto hF dX11_breaks_173 (tgt := 177) (by decide) ?_
                exact wX11_breaks_j177 hF hA hbs h hc he
set_option maxHeartbeats 4000000 in
set_option maxRecDepth 100000 in
theorem wX11_breaks_l85 {p : Program} {l : Launch} {e : Env} {s : State} {m : MethodId} {args : Array Value} {below : List Frame} {meth : Method} {c : Code} {Q : State → Prop} {A : Nat → Prop} {D : DD} {base B : Nat} (hF : KF D base cX11_breaks RX11 A 6 0 0 p l e ({ frames := 2, cells := 0, slots := 0, locals := 43 } : Room) s m args below meth c) (hA : ∀ q, RA B shpR q → A q) (hbs : base ≤ B) {σ : St} {a1 : Int32} {x : (Int32 × Int32)} {z : ((Int32 × Int32) ⊕ (Int32 × Int32))} (h : fX11_breaks_l85 σ a1 x = some z) (hc : ∀ x, z = .inl x → KJ (Rep D B shpR) A 6 0 0 Q p l e ({ frames := 2, cells := 0, slots := 0, locals := 43 } : Room) s m args below meth c 0 0 85 [some (.ref (B + 0)), some (.int a1), some (.int x.1), some (.int x.2), none, none] [] σ) (he : ∀ w, z = .inr w → KJ (Rep D B shpR) A 6 0 0 Q p l e ({ frames := 2, cells := 0, slots := 0, locals := 43 } : Room) s m args below meth c 0 0 222 [some (.ref (B + 0)), some (.int a1), some (.int w.1), some (.int w.2), none, none] [] σ) : KJ (Rep D B shpR) A 6 0 0 Q p l e ({ frames := 2, cells := 0, slots := 0, locals := 43 } : Room) s m args below meth c 0 0 85 [some (.ref (B + 0)), some (.int a1), some (.int x.1), some (.int x.2), none, none] [] σ := by
  unfold fX11_breaks_l85 at h
  refine k_iload_n hF dX11_breaks_85 rfl ?_
  refine k_aload_n hF dX11_breaks_86 rfl ?_
  refine k_get hF (v := .int (gi σ 0 1)) shR_0 fl_X11_150_X11 dX11_breaks_87 rfl ?_
  refine k_icmp_ge hF (tgt := 222) dX11_breaks_90 (by decide) (fun c12 => ?_) (fun c12 => ?_)
  · replace h := ite_t c12 h
    exact he _ (Option.some.inj h).symm
  · replace h := ite_f c12 h
    refine k_iconst hF dX11_breaks_93 ci_0 ?_
    refine k_istore hF (L' := [some (.ref (B + 0)), some (.int a1), some (.int x.1), some (.int x.2), some (.int (0 : Int32)), none]) dX11_breaks_94 (by decide) rfl ?_
    obtain ⟨x32, hx32, h⟩ := bind_some h
    refine k_loop (P := fun xq => KJ (Rep D B shpR) A 6 0 0 Q p l e ({ frames := 2, cells := 0, slots := 0, locals := 43 } : Room) s m args below meth c 0 0 96 [some (.ref (B + 0)), some (.int a1), some (.int xq.1), some (.int x.2), some (.int xq.2), none] [] σ) (C := fun xq => KJ (Rep D B shpR) A 6 0 0 Q p l e ({ frames := 2, cells := 0, slots := 0, locals := 43 } : Room) s m args below meth c 0 0 216 [some (.ref (B + 0)), some (.int a1), some (.int xq.1), some (.int x.2), some (.int xq.2), none] [] σ) (fun x z hz hc he => wX11_breaks_l96 hF hA hbs hz hc he) hx32 ?_
    show KJ (Rep D B shpR) A 6 0 0 Q p l e ({ frames := 2, cells := 0, slots := 0, locals := 43 } : Room) s m args below meth c 0 0 216 [some (.ref (B + 0)), some (.int a1), some (.int x32.1), some (.int x.2), some (.int x32.2), none] [] σ
    refine k_iinc hF (v := (x.2 + (1 : Int32))) (L' := [some (.ref (B + 0)), some (.int a1), some (.int x32.1), some (.int (x.2 + (1 : Int32))), some (.int x32.2), none]) dX11_breaks_216 rfl (by first | rfl | (congr 1)) (by decide) rfl ?_
    refine k_goto hF dX11_breaks_219 (tgt := 85) (by decide) ?_
    refine k_kill 4 rfl ?_
    exact hc _ (Option.some.inj h).symm
set_option maxHeartbeats 4000000 in
set_option maxRecDepth 100000 in
theorem wX11_breaks_j21 {p : Program} {l : Launch} {e : Env} {s : State} {m : MethodId} {args : Array Value} {below : List Frame} {meth : Method} {c : Code} {Q : State → Prop} {A : Nat → Prop} {D : DD} {base B : Nat} (hF : KF D base cX11_breaks RX11 A 6 0 0 p l e ({ frames := 2, cells := 0, slots := 0, locals := 43 } : Room) s m args below meth c) (hA : ∀ q, RA B shpR q → A q) (hbs : base ≤ B) {σ : St} {a1 : Int32} {t0 : Int32} {z : Int32} (h : fX11_breaks_j21 σ a1 t0 = some z) (hr : ∀ (pc : Nat) (L : List (Option Value)), narrow .boolean (.int z) = .int z → decode cX11_breaks pc = .ok (.ireturn, 1) → KJ (Rep D B shpR) A 6 0 0 Q p l e ({ frames := 2, cells := 0, slots := 0, locals := 43 } : Room) s m args below meth c 0 0 pc L [.int z] σ) : KJ (Rep D B shpR) A 6 0 0 Q p l e ({ frames := 2, cells := 0, slots := 0, locals := 43 } : Room) s m args below meth c 0 0 21 [some (.ref (B + 0)), some (.int a1), none, none, none, none] [.int t0] σ := by
  unfold fX11_breaks_j21 at h
  refine k_istore_n hF (L' := [some (.ref (B + 0)), some (.int a1), some (.int t0), none, none, none]) dX11_breaks_21 (by decide) rfl ?_
  refine k_bipush hF (v := (8 : Int32)) dX11_breaks_22 (by decide) ?_
  refine k_iload_n hF dX11_breaks_24 rfl ?_
  refine k_imul hF dX11_breaks_25 ?_
  refine k_istore_n hF (L' := [some (.ref (B + 0)), some (.int a1), some (.int t0), some (.int ((8 : Int32) * a1)), none, none]) dX11_breaks_26 (by decide) rfl ?_
  obtain ⟨x11, hx11, h⟩ := bind_some h
  refine k_loop (P := fun xq => KJ (Rep D B shpR) A 6 0 0 Q p l e ({ frames := 2, cells := 0, slots := 0, locals := 43 } : Room) s m args below meth c 0 0 27 [some (.ref (B + 0)), some (.int a1), some (.int xq.1), some (.int xq.2), none, none] [] σ) (C := fun xq => KJ (Rep D B shpR) A 6 0 0 Q p l e ({ frames := 2, cells := 0, slots := 0, locals := 43 } : Room) s m args below meth c 0 0 83 [some (.ref (B + 0)), some (.int a1), some (.int xq.1), some (.int xq.2), none, none] [] σ) (fun x z hz hc he => wX11_breaks_l27 hF hA hbs hz hc he) hx11 ?_
  show KJ (Rep D B shpR) A 6 0 0 Q p l e ({ frames := 2, cells := 0, slots := 0, locals := 43 } : Room) s m args below meth c 0 0 83 [some (.ref (B + 0)), some (.int a1), some (.int x11.1), some (.int x11.2), none, none] [] σ
  refine k_iconst hF dX11_breaks_83 ci_0 ?_
  refine k_istore_n hF (L' := [some (.ref (B + 0)), some (.int a1), some (.int x11.1), some (.int (0 : Int32)), none, none]) dX11_breaks_84 (by decide) rfl ?_
  obtain ⟨x33, hx33, h⟩ := bind_some h
  refine k_loop (P := fun xq => KJ (Rep D B shpR) A 6 0 0 Q p l e ({ frames := 2, cells := 0, slots := 0, locals := 43 } : Room) s m args below meth c 0 0 85 [some (.ref (B + 0)), some (.int a1), some (.int xq.1), some (.int xq.2), none, none] [] σ) (C := fun xq => KJ (Rep D B shpR) A 6 0 0 Q p l e ({ frames := 2, cells := 0, slots := 0, locals := 43 } : Room) s m args below meth c 0 0 222 [some (.ref (B + 0)), some (.int a1), some (.int xq.1), some (.int xq.2), none, none] [] σ) (fun x z hz hc he => wX11_breaks_l85 hF hA hbs hz hc he) hx33 ?_
  show KJ (Rep D B shpR) A 6 0 0 Q p l e ({ frames := 2, cells := 0, slots := 0, locals := 43 } : Room) s m args below meth c 0 0 222 [some (.ref (B + 0)), some (.int a1), some (.int x33.1), some (.int x33.2), none, none] [] σ
  refine k_iload_n hF dX11_breaks_222 rfl ?_
  obtain ⟨g34, h⟩ := gd_some h
  cases h
  exact hr _ _ (nar_z g34) dX11_breaks_223
set_option maxHeartbeats 4000000 in
set_option maxRecDepth 100000 in
theorem wX11_breaks {p : Program} {l : Launch} {e : Env} {s : State} {m : MethodId} {args : Array Value} {below : List Frame} {meth : Method} {c : Code} {Q : State → Prop} {A : Nat → Prop} {D : DD} {base B : Nat} (hF : KF D base cX11_breaks RX11 A 6 0 0 p l e ({ frames := 2, cells := 0, slots := 0, locals := 43 } : Room) s m args below meth c) (hA : ∀ q, RA B shpR q → A q) (hbs : base ≤ B) {σ : St} {a1 : Int32} {z : Int32} (h : fX11_breaks σ a1 = some z) (hr : ∀ (pc : Nat) (L : List (Option Value)), narrow .boolean (.int z) = .int z → decode cX11_breaks pc = .ok (.ireturn, 1) → KJ (Rep D B shpR) A 6 0 0 Q p l e ({ frames := 2, cells := 0, slots := 0, locals := 43 } : Room) s m args below meth c 0 0 pc L [.int z] σ) : KJ (Rep D B shpR) A 6 0 0 Q p l e ({ frames := 2, cells := 0, slots := 0, locals := 43 } : Room) s m args below meth c 0 0 0 [some (.ref (B + 0)), some (.int a1), none, none, none, none] [] σ := by
  unfold fX11_breaks at h
  refine k_aload_n hF dX11_breaks_0 rfl ?_
  refine k_get hF (v := .int (gi σ 0 15)) shR_0 fl_X11_154_X11 dX11_breaks_1 rfl ?_
  refine k_aload_n hF dX11_breaks_4 rfl ?_
  refine k_get hF (v := .ref (B + 26)) shR_0 fl_X11_87_X11 dX11_breaks_5 rfl ?_
  refine k_iload_n hF dX11_breaks_8 rfl ?_
  obtain ⟨g1, h⟩ := gd_some h
  refine k_iald hF shR_26 dX11_breaks_9 g1 ?_
  refine k_iadd hF dX11_breaks_10 ?_
  refine k_bipush hF (v := (60 : Int32)) dX11_breaks_11 (by decide) ?_
  refine k_icmp_le hF (tgt := 20) dX11_breaks_13 (by decide) (fun c2 => ?_) (fun c2 => ?_)
  · replace h := ite_t c2 h
    refine k_iconst hF dX11_breaks_20 ci_0 ?_
    exact wX11_breaks_j21 hF hA hbs h hr
  · replace h := ite_f c2 h
    refine k_iconst hF dX11_breaks_16 ci_1 ?_
    refine k_goto hF dX11_breaks_17 (tgt := 21) (by decide) ?_
    exact wX11_breaks_j21 hF hA hbs h hr
theorem ct_X11_breaks {l : Launch} {D : DD} {base B : Nat} (hbs : base ≤ B) {σ : St} {a1 : Int32} {r : Int32} (h : fX11_breaks σ a1 = some r) : MetR l D B shpR base yX11_breaks cX11_breaks 6 (some .boolean) 2 43 [.ref (B + 0), .int a1] σ (some (.int r)) σ :=
  MetR.of (by decide +kernel) (fun v hv => by simp only [List.mem_cons, List.not_mem_nil, or_false] at hv; rcases hv with rfl | rfl <;> rfl) (Nat.le_of_ble_eq_true rfl) hbs (fun p e s m args below meth c hF hr => wX11_breaks hF (fun q hq => hq) hbs h (fun pc L hn hd => k_iret hF hr hn hd))
set_option maxHeartbeats 4000000 in
set_option maxRecDepth 100000 in
theorem wX11_commit_j43 {p : Program} {l : Launch} {e : Env} {s : State} {m : MethodId} {args : Array Value} {below : List Frame} {meth : Method} {c : Code} {Q : State → Prop} {A : Nat → Prop} {D : DD} {base B : Nat} (hF : KF D base cX11_commit RX11 A 6 0 0 p l e ({ frames := 3, cells := 0, slots := 0, locals := 68 } : Room) s m args below meth c) (hA : ∀ q, RA B shpR q → A q) (hbs : base ≤ B) {σ : St} {a1 : Int32} {a2 : Int32} {z : (Int32 × St)} (h : fX11_commit_j43 σ a1 a2 = some z) (hr : ∀ (pc : Nat) (L : List (Option Value)), narrow .int (.int z.1) = .int z.1 → decode cX11_commit pc = .ok (.ireturn, 1) → KJ (Rep D B shpR) A 6 0 0 Q p l e ({ frames := 3, cells := 0, slots := 0, locals := 68 } : Room) s m args below meth c 0 0 pc L [.int z.1] z.2) : KJ (Rep D B shpR) A 6 0 0 Q p l e ({ frames := 3, cells := 0, slots := 0, locals := 68 } : Room) s m args below meth c 0 0 43 [some (.ref (B + 0)), some (.int a1), some (.int a2), none, none, none] [] σ := by
  unfold fX11_commit_j43 at h
  refine k_aload_n hF dX11_commit_43 rfl ?_
  refine k_get hF (v := .int (gi σ 0 0)) shR_0 fl_X11_160_X11 dX11_commit_44 rfl ?_
  cases h
  exact hr _ _ rfl dX11_commit_47
set_option maxHeartbeats 4000000 in
set_option maxRecDepth 100000 in
theorem wX11_commit_j96 {p : Program} {l : Launch} {e : Env} {s : State} {m : MethodId} {args : Array Value} {below : List Frame} {meth : Method} {c : Code} {Q : State → Prop} {A : Nat → Prop} {D : DD} {base B : Nat} (hF : KF D base cX11_commit RX11 A 6 0 0 p l e ({ frames := 3, cells := 0, slots := 0, locals := 68 } : Room) s m args below meth c) (hA : ∀ q, RA B shpR q → A q) (hbs : base ≤ B) {σ : St} {a1 : Int32} {a2 : Int32} {ea3 : Int32} {b4 : Int32} {z : (Int32 ⊕ (Int32 ⊕ (Int32 × St)))} (h : fX11_commit_j96 σ a1 a2 ea3 b4 = some z) (hc : ∀ x, z = .inl x → KJ (Rep D B shpR) A 6 0 0 Q p l e ({ frames := 3, cells := 0, slots := 0, locals := 68 } : Room) s m args below meth c 0 0 51 [some (.ref (B + 0)), some (.int a1), some (.int a2), some (.int ea3), some (.int x), none] [] σ) (he : ∀ w, z = .inr w → Sum.elim (fun x => KJ (Rep D B shpR) A 6 0 0 Q p l e ({ frames := 3, cells := 0, slots := 0, locals := 68 } : Room) s m args below meth c 0 0 102 [some (.ref (B + 0)), some (.int a1), some (.int a2), some (.int ea3), some (.int x), none] [] σ) (fun r => ∀ (pc : Nat) (L : List (Option Value)), narrow .int (.int r.1) = .int r.1 → decode cX11_commit pc = .ok (.ireturn, 1) → KJ (Rep D B shpR) A 6 0 0 Q p l e ({ frames := 3, cells := 0, slots := 0, locals := 68 } : Room) s m args below meth c 0 0 pc L [.int r.1] r.2) w) : KJ (Rep D B shpR) A 6 0 0 Q p l e ({ frames := 3, cells := 0, slots := 0, locals := 68 } : Room) s m args below meth c 0 0 96 [some (.ref (B + 0)), some (.int a1), some (.int a2), some (.int ea3), some (.int b4), none] [] σ := by
  unfold fX11_commit_j96 at h
  refine k_iinc hF (v := (b4 + (1 : Int32))) (L' := [some (.ref (B + 0)), some (.int a1), some (.int a2), some (.int ea3), some (.int (b4 + (1 : Int32))), none]) dX11_commit_96 rfl (by first | rfl | (congr 1)) (by decide) rfl ?_
  refine k_goto hF dX11_commit_99 (tgt := 51) (by decide) ?_
  exact hc _ (Option.some.inj h).symm
set_option maxHeartbeats 4000000 in
set_option maxRecDepth 100000 in
theorem wX11_commit_j94 {p : Program} {l : Launch} {e : Env} {s : State} {m : MethodId} {args : Array Value} {below : List Frame} {meth : Method} {c : Code} {Q : State → Prop} {A : Nat → Prop} {D : DD} {base B : Nat} (hF : KF D base cX11_commit RX11 A 6 0 0 p l e ({ frames := 3, cells := 0, slots := 0, locals := 68 } : Room) s m args below meth c) (hA : ∀ q, RA B shpR q → A q) (hbs : base ≤ B) {σ : St} {a1 : Int32} {a2 : Int32} {ea3 : Int32} {z : (Int32 ⊕ (Int32 ⊕ (Int32 × St)))} (h : fX11_commit_j94 σ a1 a2 ea3 = some z) (hc : ∀ x, z = .inl x → KJ (Rep D B shpR) A 6 0 0 Q p l e ({ frames := 3, cells := 0, slots := 0, locals := 68 } : Room) s m args below meth c 0 0 51 [some (.ref (B + 0)), some (.int a1), some (.int a2), some (.int ea3), some (.int x), none] [] σ) (he : ∀ w, z = .inr w → Sum.elim (fun x => KJ (Rep D B shpR) A 6 0 0 Q p l e ({ frames := 3, cells := 0, slots := 0, locals := 68 } : Room) s m args below meth c 0 0 102 [some (.ref (B + 0)), some (.int a1), some (.int a2), some (.int ea3), some (.int x), none] [] σ) (fun r => ∀ (pc : Nat) (L : List (Option Value)), narrow .int (.int r.1) = .int r.1 → decode cX11_commit pc = .ok (.ireturn, 1) → KJ (Rep D B shpR) A 6 0 0 Q p l e ({ frames := 3, cells := 0, slots := 0, locals := 68 } : Room) s m args below meth c 0 0 pc L [.int r.1] r.2) w) : KJ (Rep D B shpR) A 6 0 0 Q p l e ({ frames := 3, cells := 0, slots := 0, locals := 68 } : Room) s m args below meth c 0 0 94 [some (.ref (B + 0)), some (.int a1), some (.int a2), none, none, none] [] σ := by
  unfold fX11_commit_j94 at h
  refine k_iconst hF dX11_commit_94 ci_m1 ?_
  exact he _ (Option.some.inj h).symm _ _ rfl dX11_commit_95
set_option maxHeartbeats 4000000 in
set_option maxRecDepth 100000 in
theorem wX11_commit_l51 {p : Program} {l : Launch} {e : Env} {s : State} {m : MethodId} {args : Array Value} {below : List Frame} {meth : Method} {c : Code} {Q : State → Prop} {A : Nat → Prop} {D : DD} {base B : Nat} (hF : KF D base cX11_commit RX11 A 6 0 0 p l e ({ frames := 3, cells := 0, slots := 0, locals := 68 } : Room) s m args below meth c) (hA : ∀ q, RA B shpR q → A q) (hbs : base ≤ B) {σ : St} {a1 : Int32} {a2 : Int32} {ea3 : Int32} {x : Int32} {z : (Int32 ⊕ (Int32 ⊕ (Int32 × St)))} (h : fX11_commit_l51 σ a1 a2 ea3 x = some z) (hc : ∀ x, z = .inl x → KJ (Rep D B shpR) A 6 0 0 Q p l e ({ frames := 3, cells := 0, slots := 0, locals := 68 } : Room) s m args below meth c 0 0 51 [some (.ref (B + 0)), some (.int a1), some (.int a2), some (.int ea3), some (.int x), none] [] σ) (he : ∀ w, z = .inr w → Sum.elim (fun x => KJ (Rep D B shpR) A 6 0 0 Q p l e ({ frames := 3, cells := 0, slots := 0, locals := 68 } : Room) s m args below meth c 0 0 102 [some (.ref (B + 0)), some (.int a1), some (.int a2), some (.int ea3), some (.int x), none] [] σ) (fun r => ∀ (pc : Nat) (L : List (Option Value)), narrow .int (.int r.1) = .int r.1 → decode cX11_commit pc = .ok (.ireturn, 1) → KJ (Rep D B shpR) A 6 0 0 Q p l e ({ frames := 3, cells := 0, slots := 0, locals := 68 } : Room) s m args below meth c 0 0 pc L [.int r.1] r.2) w) : KJ (Rep D B shpR) A 6 0 0 Q p l e ({ frames := 3, cells := 0, slots := 0, locals := 68 } : Room) s m args below meth c 0 0 51 [some (.ref (B + 0)), some (.int a1), some (.int a2), some (.int ea3), some (.int x), none] [] σ := by
  unfold fX11_commit_l51 at h
  refine k_iload hF dX11_commit_51 rfl ?_
  refine k_aload_n hF dX11_commit_53 rfl ?_
  refine k_get hF (v := .int (gi σ 0 1)) shR_0 fl_X11_150_X11 dX11_commit_54 rfl ?_
  refine k_icmp_ge hF (tgt := 102) dX11_commit_57 (by decide) (fun c10 => ?_) (fun c10 => ?_)
  · replace h := ite_t c10 h
    exact he _ (Option.some.inj h).symm
  · replace h := ite_f c10 h
    refine k_iload_n hF dX11_commit_60 rfl ?_
    refine k_iload hF dX11_commit_61 rfl ?_
    obtain ⟨v11, hv11, h⟩ := bind_some h
    refine k_callS hF hA (as := [.int ea3, .int x]) (ct_X11_has hbs hv11) ms_X11_142 rfl rfl ⟨Nat.le_of_ble_eq_true rfl, Nat.le_of_ble_eq_true rfl⟩ (Nat.le_of_ble_eq_true rfl) dX11_commit_63 ?_
    refine k_st (st2 := [.int v11]) rfl ?_
    refine k_if_eq hF (tgt := 96) dX11_commit_66 (by decide) (fun c12 => ?_) (fun c12 => ?_)
    · replace h := ite_t c12 h
      exact wX11_commit_j96 hF hA hbs h hc he
    · replace h := ite_f c12 h
      refine k_aload_n hF dX11_commit_69 rfl ?_
      refine k_iload hF dX11_commit_70 rfl ?_
      obtain ⟨v13, hv13, h⟩ := bind_some h
      refine k_callV hF hA (as := [.int x]) (ct_X11_isNode hbs hv13) mv_X11_163 shR_0 rfl rfl rfl ⟨Nat.le_of_ble_eq_true rfl, Nat.le_of_ble_eq_true rfl⟩ (Nat.le_of_ble_eq_true rfl) dX11_commit_72 ?_
      refine k_st (st2 := [.int v13]) rfl ?_
      refine k_if_eq hF (tgt := 94) dX11_commit_75 (by decide) (fun c14 => ?_) (fun c14 => ?_)
      · replace h := ite_t c14 h
        refine k_kill 3 rfl ?_
        refine k_kill 4 rfl ?_
        exact wX11_commit_j94 hF hA hbs h hc he
      · replace h := ite_f c14 h
        refine k_aload_n hF dX11_commit_78 rfl ?_
        refine k_get hF (v := .ref (B + 6)) shR_0 fl_X11_25_X11 dX11_commit_79 rfl ?_
        refine k_iload hF dX11_commit_82 rfl ?_
        obtain ⟨g15, h⟩ := gd_some h
        refine k_iald hF shR_6 dX11_commit_84 g15 ?_
        refine k_aload_n hF dX11_commit_85 rfl ?_
        refine k_get hF (v := .ref (B + 23)) shR_0 fl_X11_78_X11 dX11_commit_86 rfl ?_
        refine k_iload_n hF dX11_commit_89 rfl ?_
        obtain ⟨g16, h⟩ := gd_some h
        refine k_iald hF shR_23 dX11_commit_90 g16 ?_
        refine k_icmp_le hF (tgt := 96) dX11_commit_91 (by decide) (fun c17 => ?_) (fun c17 => ?_)
        · replace h := ite_t c17 h
          exact wX11_commit_j96 hF hA hbs h hc he
        · replace h := ite_f c17 h
          refine k_kill 3 rfl ?_
          refine k_kill 4 rfl ?_
          exact wX11_commit_j94 hF hA hbs h hc he
set_option maxHeartbeats 4000000 in
set_option maxRecDepth 100000 in
theorem wX11_commit_j160 {p : Program} {l : Launch} {e : Env} {s : State} {m : MethodId} {args : Array Value} {below : List Frame} {meth : Method} {c : Code} {Q : State → Prop} {A : Nat → Prop} {D : DD} {base B : Nat} (hF : KF D base cX11_commit RX11 A 6 0 0 p l e ({ frames := 3, cells := 0, slots := 0, locals := 68 } : Room) s m args below meth c) (hA : ∀ q, RA B shpR q → A q) (hbs : base ≤ B) {σ : St} {a1 : Int32} {a2 : Int32} {b4 : Int32} {b5 : Int32} {z : ((St × Int32 × Int32) ⊕ (St × Int32 × Int32))} (h : fX11_commit_j160 σ a1 a2 b4 b5 = some z) (hc : ∀ x, z = .inl x → KJ (Rep D B shpR) A 6 0 0 Q p l e ({ frames := 3, cells := 0, slots := 0, locals := 68 } : Room) s m args below meth c 0 0 129 [some (.ref (B + 0)), some (.int a1), some (.int a2), none, some (.int x.2.1), some (.int x.2.2)] [] x.1) (he : ∀ w, z = .inr w → KJ (Rep D B shpR) A 6 0 0 Q p l e ({ frames := 3, cells := 0, slots := 0, locals := 68 } : Room) s m args below meth c 0 0 166 [some (.ref (B + 0)), some (.int a1), some (.int a2), none, some (.int w.2.1), some (.int w.2.2)] [] w.1) : KJ (Rep D B shpR) A 6 0 0 Q p l e ({ frames := 3, cells := 0, slots := 0, locals := 68 } : Room) s m args below meth c 0 0 160 [some (.ref (B + 0)), some (.int a1), some (.int a2), none, some (.int b4), some (.int b5)] [] σ := by
  unfold fX11_commit_j160 at h
  refine k_iinc hF (v := (b5 + (1 : Int32))) (L' := [some (.ref (B + 0)), some (.int a1), some (.int a2), none, some (.int b4), some (.int (b5 + (1 : Int32)))]) dX11_commit_160 rfl (by first | rfl | (congr 1)) (by decide) rfl ?_
  refine k_goto hF dX11_commit_163 (tgt := 129) (by decide) ?_
  exact hc _ (Option.some.inj h).symm
set_option maxHeartbeats 4000000 in
set_option maxRecDepth 100000 in
theorem wX11_commit_l129 {p : Program} {l : Launch} {e : Env} {s : State} {m : MethodId} {args : Array Value} {below : List Frame} {meth : Method} {c : Code} {Q : State → Prop} {A : Nat → Prop} {D : DD} {base B : Nat} (hF : KF D base cX11_commit RX11 A 6 0 0 p l e ({ frames := 3, cells := 0, slots := 0, locals := 68 } : Room) s m args below meth c) (hA : ∀ q, RA B shpR q → A q) (hbs : base ≤ B) {σ : St} {a1 : Int32} {a2 : Int32} {x : (St × Int32 × Int32)} {z : ((St × Int32 × Int32) ⊕ (St × Int32 × Int32))} (h : fX11_commit_l129 σ a1 a2 x = some z) (hc : ∀ x, z = .inl x → KJ (Rep D B shpR) A 6 0 0 Q p l e ({ frames := 3, cells := 0, slots := 0, locals := 68 } : Room) s m args below meth c 0 0 129 [some (.ref (B + 0)), some (.int a1), some (.int a2), none, some (.int x.2.1), some (.int x.2.2)] [] x.1) (he : ∀ w, z = .inr w → KJ (Rep D B shpR) A 6 0 0 Q p l e ({ frames := 3, cells := 0, slots := 0, locals := 68 } : Room) s m args below meth c 0 0 166 [some (.ref (B + 0)), some (.int a1), some (.int a2), none, some (.int w.2.1), some (.int w.2.2)] [] w.1) : KJ (Rep D B shpR) A 6 0 0 Q p l e ({ frames := 3, cells := 0, slots := 0, locals := 68 } : Room) s m args below meth c 0 0 129 [some (.ref (B + 0)), some (.int a1), some (.int a2), none, some (.int x.2.1), some (.int x.2.2)] [] x.1 := by
  unfold fX11_commit_l129 at h
  refine k_iload hF dX11_commit_129 rfl ?_
  refine k_bipush hF (v := (60 : Int32)) dX11_commit_131 (by decide) ?_
  refine k_icmp_ge hF (tgt := 166) dX11_commit_133 (by decide) (fun c24 => ?_) (fun c24 => ?_)
  · replace h := ite_t c24 h
    exact he _ (Option.some.inj h).symm
  · replace h := ite_f c24 h
    refine k_aload_n hF dX11_commit_136 rfl ?_
    refine k_get hF (v := .ref (B + 30)) shR_0 fl_X11_99_X11 dX11_commit_137 rfl ?_
    refine k_bipush hF (v := (60 : Int32)) dX11_commit_140 (by decide) ?_
    refine k_iload_n hF dX11_commit_142 rfl ?_
    refine k_imul hF dX11_commit_143 ?_
    refine k_iload hF dX11_commit_144 rfl ?_
    refine k_iadd hF dX11_commit_146 ?_
    obtain ⟨g25, h⟩ := gd_some h
    refine k_zald hF shR_30 dX11_commit_147 g25 ?_
    refine k_if_eq hF (tgt := 160) dX11_commit_148 (by decide) (fun c26 => ?_) (fun c26 => ?_)
    · replace h := ite_t c26 h
      exact wX11_commit_j160 hF hA hbs h hc he
    · replace h := ite_f c26 h
      refine k_aload_n hF dX11_commit_151 rfl ?_
      refine k_iload hF dX11_commit_152 rfl ?_
      obtain ⟨v27, hv27, h⟩ := bind_some h
      refine k_callV hF hA (as := [.int x.2.2]) (ct_X11_drops hbs hv27) mv_X11_198 shR_0 rfl rfl rfl ⟨Nat.le_of_ble_eq_true rfl, Nat.le_of_ble_eq_true rfl⟩ (Nat.le_of_ble_eq_true rfl) dX11_commit_154 ?_
      refine k_st (st2 := []) rfl ?_
      refine k_iconst hF dX11_commit_157 ci_1 ?_
      refine k_istore hF (L' := [some (.ref (B + 0)), some (.int a1), some (.int a2), none, some (.int (1 : Int32)), some (.int x.2.2)]) dX11_commit_158 (by decide) rfl ?_
      exact wX11_commit_j160 hF hA hbs h hc he
set_option maxHeartbeats 4000000 in
set_option maxRecDepth 100000 in
theorem wX11_commit_j209 {p : Program} {l : Launch} {e : Env} {s : State} {m : MethodId} {args : Array Value} {below : List Frame} {meth : Method} {c : Code} {Q : State → Prop} {A : Nat → Prop} {D : DD} {base B : Nat} (hF : KF D base cX11_commit RX11 A 6 0 0 p l e ({ frames := 3, cells := 0, slots := 0, locals := 68 } : Room) s m args below meth c) (hA : ∀ q, RA B shpR q → A q) (hbs : base ≤ B) {σ : St} {a1 : Int32} {a2 : Int32} {ea4 : Int32} {b5 : Int32} {z : ((St × Int32) ⊕ (St × Int32))} (h : fX11_commit_j209 σ a1 a2 ea4 b5 = some z) (hc : ∀ x, z = .inl x → KJ (Rep D B shpR) A 6 0 0 Q p l e ({ frames := 3, cells := 0, slots := 0, locals := 68 } : Room) s m args below meth c 0 0 169 [some (.ref (B + 0)), some (.int a1), some (.int a2), none, some (.int ea4), some (.int x.2)] [] x.1) (he : ∀ w, z = .inr w → KJ (Rep D B shpR) A 6 0 0 Q p l e ({ frames := 3, cells := 0, slots := 0, locals := 68 } : Room) s m args below meth c 0 0 215 [some (.ref (B + 0)), some (.int a1), some (.int a2), none, some (.int ea4), some (.int w.2)] [] w.1) : KJ (Rep D B shpR) A 6 0 0 Q p l e ({ frames := 3, cells := 0, slots := 0, locals := 68 } : Room) s m args below meth c 0 0 209 [some (.ref (B + 0)), some (.int a1), some (.int a2), none, some (.int ea4), some (.int b5)] [] σ := by
  unfold fX11_commit_j209 at h
  refine k_iinc hF (v := (b5 + (1 : Int32))) (L' := [some (.ref (B + 0)), some (.int a1), some (.int a2), none, some (.int ea4), some (.int (b5 + (1 : Int32)))]) dX11_commit_209 rfl (by first | rfl | (congr 1)) (by decide) rfl ?_
  refine k_goto hF dX11_commit_212 (tgt := 169) (by decide) ?_
  exact hc _ (Option.some.inj h).symm
set_option maxHeartbeats 4000000 in
set_option maxRecDepth 100000 in
theorem wX11_commit_l169 {p : Program} {l : Launch} {e : Env} {s : State} {m : MethodId} {args : Array Value} {below : List Frame} {meth : Method} {c : Code} {Q : State → Prop} {A : Nat → Prop} {D : DD} {base B : Nat} (hF : KF D base cX11_commit RX11 A 6 0 0 p l e ({ frames := 3, cells := 0, slots := 0, locals := 68 } : Room) s m args below meth c) (hA : ∀ q, RA B shpR q → A q) (hbs : base ≤ B) {σ : St} {a1 : Int32} {a2 : Int32} {ea4 : Int32} {x : (St × Int32)} {z : ((St × Int32) ⊕ (St × Int32))} (h : fX11_commit_l169 σ a1 a2 ea4 x = some z) (hc : ∀ x, z = .inl x → KJ (Rep D B shpR) A 6 0 0 Q p l e ({ frames := 3, cells := 0, slots := 0, locals := 68 } : Room) s m args below meth c 0 0 169 [some (.ref (B + 0)), some (.int a1), some (.int a2), none, some (.int ea4), some (.int x.2)] [] x.1) (he : ∀ w, z = .inr w → KJ (Rep D B shpR) A 6 0 0 Q p l e ({ frames := 3, cells := 0, slots := 0, locals := 68 } : Room) s m args below meth c 0 0 215 [some (.ref (B + 0)), some (.int a1), some (.int a2), none, some (.int ea4), some (.int w.2)] [] w.1) : KJ (Rep D B shpR) A 6 0 0 Q p l e ({ frames := 3, cells := 0, slots := 0, locals := 68 } : Room) s m args below meth c 0 0 169 [some (.ref (B + 0)), some (.int a1), some (.int a2), none, some (.int ea4), some (.int x.2)] [] x.1 := by
  unfold fX11_commit_l169 at h
  refine k_iload hF dX11_commit_169 rfl ?_
  refine k_bipush hF (v := (24 : Int32)) dX11_commit_171 (by decide) ?_
  refine k_icmp_ge hF (tgt := 215) dX11_commit_173 (by decide) (fun c29 => ?_) (fun c29 => ?_)
  · replace h := ite_t c29 h
    exact he _ (Option.some.inj h).symm
  · replace h := ite_f c29 h
    refine k_aload_n hF dX11_commit_176 rfl ?_
    refine k_get hF (v := .ref (B + 24)) shR_0 fl_X11_81_X11 dX11_commit_177 rfl ?_
    refine k_bipush hF (v := (24 : Int32)) dX11_commit_180 (by decide) ?_
    refine k_iload_n hF dX11_commit_182 rfl ?_
    refine k_imul hF dX11_commit_183 ?_
    refine k_iload hF dX11_commit_184 rfl ?_
    refine k_iadd hF dX11_commit_186 ?_
    obtain ⟨g30, h⟩ := gd_some h
    refine k_zald hF shR_24 dX11_commit_187 g30 ?_
    refine k_if_eq hF (tgt := 209) dX11_commit_188 (by decide) (fun c31 => ?_) (fun c31 => ?_)
    · replace h := ite_t c31 h
      exact wX11_commit_j209 hF hA hbs h hc he
    · replace h := ite_f c31 h
      refine k_aload_n hF dX11_commit_191 rfl ?_
      refine k_iload hF dX11_commit_192 rfl ?_
      refine k_aload_n hF dX11_commit_194 rfl ?_
      refine k_get hF (v := .ref (B + 25)) shR_0 fl_X11_84_X11 dX11_commit_195 rfl ?_
      refine k_bipush hF (v := (24 : Int32)) dX11_commit_198 (by decide) ?_
      refine k_iload_n hF dX11_commit_200 rfl ?_
      refine k_imul hF dX11_commit_201 ?_
      refine k_iload hF dX11_commit_202 rfl ?_
      refine k_iadd hF dX11_commit_204 ?_
      obtain ⟨g32, h⟩ := gd_some h
      refine k_iald hF shR_25 dX11_commit_205 g32 ?_
      obtain ⟨v33, hv33, h⟩ := bind_some h
      refine k_callV hF hA (as := [.int x.2, .int (gi x.1 25 (((24 : Int32) * a1) + x.2).toNatClampNeg)]) (ct_X11_notes hbs hv33) mv_X11_184 shR_0 rfl rfl rfl ⟨Nat.le_of_ble_eq_true rfl, Nat.le_of_ble_eq_true rfl⟩ (Nat.le_of_ble_eq_true rfl) dX11_commit_206 ?_
      refine k_st (st2 := []) rfl ?_
      exact wX11_commit_j209 hF hA hbs h hc he
set_option maxHeartbeats 4000000 in
set_option maxRecDepth 100000 in
theorem wX11_commit_l221 {p : Program} {l : Launch} {e : Env} {s : State} {m : MethodId} {args : Array Value} {below : List Frame} {meth : Method} {c : Code} {Q : State → Prop} {A : Nat → Prop} {D : DD} {base B : Nat} (hF : KF D base cX11_commit RX11 A 6 0 0 p l e ({ frames := 3, cells := 0, slots := 0, locals := 68 } : Room) s m args below meth c) (hA : ∀ q, RA B shpR q → A q) (hbs : base ≤ B) {σ : St} {a1 : Int32} {a2 : Int32} {ea4 : Int32} {x : (St × Int32)} {z : ((St × Int32) ⊕ (St × Int32))} (h : fX11_commit_l221 σ a1 a2 ea4 x = some z) (hc : ∀ x, z = .inl x → KJ (Rep D B shpR) A 6 0 0 Q p l e ({ frames := 3, cells := 0, slots := 0, locals := 68 } : Room) s m args below meth c 0 0 221 [some (.ref (B + 0)), some (.int a1), some (.int a2), none, some (.int ea4), some (.int x.2)] [] x.1) (he : ∀ w, z = .inr w → KJ (Rep D B shpR) A 6 0 0 Q p l e ({ frames := 3, cells := 0, slots := 0, locals := 68 } : Room) s m args below meth c 0 0 269 [some (.ref (B + 0)), some (.int a1), some (.int a2), none, some (.int ea4), some (.int w.2)] [] w.1) : KJ (Rep D B shpR) A 6 0 0 Q p l e ({ frames := 3, cells := 0, slots := 0, locals := 68 } : Room) s m args below meth c 0 0 221 [some (.ref (B + 0)), some (.int a1), some (.int a2), none, some (.int ea4), some (.int x.2)] [] x.1 := by
  unfold fX11_commit_l221 at h
  refine k_iload hF dX11_commit_221 rfl ?_
  refine k_bipush hF (v := (8 : Int32)) dX11_commit_223 (by decide) ?_
  refine k_iload_n hF dX11_commit_225 rfl ?_
  refine k_imul hF dX11_commit_226 ?_
  refine k_aload_n hF dX11_commit_227 rfl ?_
  refine k_get hF (v := .ref (B + 26)) shR_0 fl_X11_87_X11 dX11_commit_228 rfl ?_
  refine k_iload_n hF dX11_commit_231 rfl ?_
  obtain ⟨g35, h⟩ := gd_some h
  refine k_iald hF shR_26 dX11_commit_232 g35 ?_
  refine k_iadd hF dX11_commit_233 ?_
  refine k_icmp_ge hF (tgt := 269) dX11_commit_234 (by decide) (fun c36 => ?_) (fun c36 => ?_)
  · replace h := ite_t c36 h
    exact he _ (Option.some.inj h).symm
  · replace h := ite_f c36 h
    refine k_aload_n hF dX11_commit_237 rfl ?_
    refine k_aload_n hF dX11_commit_238 rfl ?_
    refine k_get hF (v := .ref (B + 27)) shR_0 fl_X11_90_X11 dX11_commit_239 rfl ?_
    refine k_iload hF dX11_commit_242 rfl ?_
    obtain ⟨g37, h⟩ := gd_some h
    refine k_iald hF shR_27 dX11_commit_244 g37 ?_
    refine k_aload_n hF dX11_commit_245 rfl ?_
    refine k_get hF (v := .ref (B + 29)) shR_0 fl_X11_96_X11 dX11_commit_246 rfl ?_
    refine k_iload hF dX11_commit_249 rfl ?_
    obtain ⟨g38, h⟩ := gd_some h
    refine k_iald hF shR_29 dX11_commit_251 g38 ?_
    refine k_aload_n hF dX11_commit_252 rfl ?_
    refine k_get hF (v := .ref (B + 28)) shR_0 fl_X11_93_X11 dX11_commit_253 rfl ?_
    refine k_iload hF dX11_commit_256 rfl ?_
    obtain ⟨g39, h⟩ := gd_some h
    refine k_iald hF shR_28 dX11_commit_258 g39 ?_
    obtain ⟨v40, hv40, h⟩ := bind_some h
    refine k_callV hF hA (as := [.int (gi x.1 27 x.2.toNatClampNeg), .int (gi x.1 29 x.2.toNatClampNeg), .int (gi x.1 28 x.2.toNatClampNeg)]) (ct_X11_adds hbs hv40) mv_X11_191 shR_0 rfl rfl rfl ⟨Nat.le_of_ble_eq_true rfl, Nat.le_of_ble_eq_true rfl⟩ (Nat.le_of_ble_eq_true rfl) dX11_commit_259 ?_
    refine k_st (st2 := [.int v40.1]) rfl ?_
    refine k_pop hF dX11_commit_262 rfl ?_
    refine k_iinc hF (v := (x.2 + (1 : Int32))) (L' := [some (.ref (B + 0)), some (.int a1), some (.int a2), none, some (.int ea4), some (.int (x.2 + (1 : Int32)))]) dX11_commit_263 rfl (by first | rfl | (congr 1)) (by decide) rfl ?_
    refine k_goto hF dX11_commit_266 (tgt := 221) (by decide) ?_
    exact hc _ (Option.some.inj h).symm
set_option maxHeartbeats 4000000 in
set_option maxRecDepth 100000 in
theorem wX11_commit_j278 {p : Program} {l : Launch} {e : Env} {s : State} {m : MethodId} {args : Array Value} {below : List Frame} {meth : Method} {c : Code} {Q : State → Prop} {A : Nat → Prop} {D : DD} {base B : Nat} (hF : KF D base cX11_commit RX11 A 6 0 0 p l e ({ frames := 3, cells := 0, slots := 0, locals := 68 } : Room) s m args below meth c) (hA : ∀ q, RA B shpR q → A q) (hbs : base ≤ B) {σ : St} {a1 : Int32} {a2 : Int32} {z : (Int32 × St)} (h : fX11_commit_j278 σ a1 a2 = some z) (hr : ∀ (pc : Nat) (L : List (Option Value)), narrow .int (.int z.1) = .int z.1 → decode cX11_commit pc = .ok (.ireturn, 1) → KJ (Rep D B shpR) A 6 0 0 Q p l e ({ frames := 3, cells := 0, slots := 0, locals := 68 } : Room) s m args below meth c 0 0 pc L [.int z.1] z.2) : KJ (Rep D B shpR) A 6 0 0 Q p l e ({ frames := 3, cells := 0, slots := 0, locals := 68 } : Room) s m args below meth c 0 0 278 [some (.ref (B + 0)), some (.int a1), some (.int a2), none, none, none] [] σ := by
  unfold fX11_commit_j278 at h
  refine k_aload_n hF dX11_commit_278 rfl ?_
  refine k_get hF (v := .int (gi σ 0 0)) shR_0 fl_X11_160_X11 dX11_commit_279 rfl ?_
  cases h
  exact hr _ _ rfl dX11_commit_282
set_option maxHeartbeats 4000000 in
set_option maxRecDepth 100000 in
theorem wX11_commit_j14 {p : Program} {l : Launch} {e : Env} {s : State} {m : MethodId} {args : Array Value} {below : List Frame} {meth : Method} {c : Code} {Q : State → Prop} {A : Nat → Prop} {D : DD} {base B : Nat} (hF : KF D base cX11_commit RX11 A 6 0 0 p l e ({ frames := 3, cells := 0, slots := 0, locals := 68 } : Room) s m args below meth c) (hA : ∀ q, RA B shpR q → A q) (hbs : base ≤ B) {σ : St} {a1 : Int32} {a2 : Int32} {t0 : Int32} {z : (Int32 × St)} (h : fX11_commit_j14 σ a1 a2 t0 = some z) (hr : ∀ (pc : Nat) (L : List (Option Value)), narrow .int (.int z.1) = .int z.1 → decode cX11_commit pc = .ok (.ireturn, 1) → KJ (Rep D B shpR) A 6 0 0 Q p l e ({ frames := 3, cells := 0, slots := 0, locals := 68 } : Room) s m args below meth c 0 0 pc L [.int z.1] z.2) : KJ (Rep D B shpR) A 6 0 0 Q p l e ({ frames := 3, cells := 0, slots := 0, locals := 68 } : Room) s m args below meth c 0 0 14 [some (.ref (B + 0)), some (.int a1), some (.int a2), none, none, none] [.int t0, .ref (B + 0)] σ := by
  unfold fX11_commit_j14 at h
  obtain ⟨v3, hv3, h⟩ := bind_some h
  refine k_callV hF hA (as := [.int t0]) (ct_X11_fails hbs hv3) mv_X11_181 shR_0 rfl rfl rfl ⟨Nat.le_of_ble_eq_true rfl, Nat.le_of_ble_eq_true rfl⟩ (Nat.le_of_ble_eq_true rfl) dX11_commit_14 ?_
  refine k_st (st2 := [.int v3.1]) rfl ?_
  refine k_if_eq hF (tgt := 22) dX11_commit_17 (by decide) (fun c4 => ?_) (fun c4 => ?_)
  · replace h := ite_t c4 h
    refine k_aload_n hF dX11_commit_22 rfl ?_
    refine k_get hF (v := .ref (B + 22)) shR_0 fl_X11_75_X11 dX11_commit_23 rfl ?_
    refine k_iload_n hF dX11_commit_26 rfl ?_
    refine k_iconst hF dX11_commit_27 ci_0 ?_
    obtain ⟨g5, h⟩ := gd_some h
    refine k_zast hF hA shR_22 dX11_commit_28 g5 rfl ?_
    obtain ⟨σ6, hσ6, h⟩ := lt_some h
    refine k_sig hσ6 ?_
    refine k_aload_n hF dX11_commit_29 rfl ?_
    refine k_iload_n hF dX11_commit_30 rfl ?_
    obtain ⟨v7, hv7, h⟩ := bind_some h
    refine k_callV hF hA (as := [.int a1]) (ct_X11_touches hbs hv7) mv_X11_236 shR_0 rfl rfl rfl ⟨Nat.le_of_ble_eq_true rfl, Nat.le_of_ble_eq_true rfl⟩ (Nat.le_of_ble_eq_true rfl) dX11_commit_31 ?_
    refine k_st (st2 := [.int v7]) rfl ?_
    refine k_istore_n hF (L' := [some (.ref (B + 0)), some (.int a1), some (.int a2), some (.int v7), none, none]) dX11_commit_34 (by decide) rfl ?_
    refine k_iload_n hF dX11_commit_35 rfl ?_
    refine k_if_eq hF (tgt := 43) dX11_commit_36 (by decide) (fun c8 => ?_) (fun c8 => ?_)
    · replace h := ite_t c8 h
      refine k_kill 3 rfl ?_
      exact wX11_commit_j43 hF hA hbs h hr
    · replace h := ite_f c8 h
      refine k_iload_n hF dX11_commit_39 rfl ?_
      refine k_if_ne hF (tgt := 48) dX11_commit_40 (by decide) (fun c9 => ?_) (fun c9 => ?_)
      · replace h := ite_f c9 h
        refine k_iconst hF dX11_commit_48 ci_0 ?_
        refine k_istore hF (L' := [some (.ref (B + 0)), some (.int a1), some (.int a2), some (.int v7), some (.int (0 : Int32)), none]) dX11_commit_49 (by decide) rfl ?_
        obtain ⟨x18, hx18, h⟩ := bind_some h
        refine k_loop (P := fun xq => KJ (Rep D B shpR) A 6 0 0 Q p l e ({ frames := 3, cells := 0, slots := 0, locals := 68 } : Room) s m args below meth c 0 0 51 [some (.ref (B + 0)), some (.int a1), some (.int a2), some (.int v7), some (.int xq), none] [] σ6) (C := fun wq => Sum.elim (fun xq => KJ (Rep D B shpR) A 6 0 0 Q p l e ({ frames := 3, cells := 0, slots := 0, locals := 68 } : Room) s m args below meth c 0 0 102 [some (.ref (B + 0)), some (.int a1), some (.int a2), some (.int v7), some (.int xq), none] [] σ6) (fun rq => ∀ (pc : Nat) (L : List (Option Value)), narrow .int (.int rq.1) = .int rq.1 → decode cX11_commit pc = .ok (.ireturn, 1) → KJ (Rep D B shpR) A 6 0 0 Q p l e ({ frames := 3, cells := 0, slots := 0, locals := 68 } : Room) s m args below meth c 0 0 pc L [.int rq.1] rq.2) wq) (fun x z hz hc he => wX11_commit_l51 hF hA hbs hz hc he) hx18 ?_
        rcases x18 with x19 | r20
        · show KJ (Rep D B shpR) A 6 0 0 Q p l e ({ frames := 3, cells := 0, slots := 0, locals := 68 } : Room) s m args below meth c 0 0 102 [some (.ref (B + 0)), some (.int a1), some (.int a2), some (.int v7), some (.int x19), none] [] σ6
          replace h : _ = some z := h
          refine k_aload_n hF dX11_commit_102 rfl ?_
          refine k_iload_n hF dX11_commit_103 rfl ?_
          obtain ⟨v21, hv21, h⟩ := bind_some h
          refine k_callV hF hA (as := [.int a1]) (ct_X11_breaks hbs hv21) mv_X11_239 shR_0 rfl rfl rfl ⟨Nat.le_of_ble_eq_true rfl, Nat.le_of_ble_eq_true rfl⟩ (Nat.le_of_ble_eq_true rfl) dX11_commit_104 ?_
          refine k_st (st2 := [.int v21]) rfl ?_
          refine k_if_eq hF (tgt := 113) dX11_commit_107 (by decide) (fun c22 => ?_) (fun c22 => ?_)
          · replace h := ite_t c22 h
            refine k_aload_n hF dX11_commit_113 rfl ?_
            refine k_dup hF dX11_commit_114 rfl ?_
            refine k_get hF (v := .int (gi σ6 0 0)) shR_0 fl_X11_160_X11 dX11_commit_115 rfl ?_
            refine k_iconst hF dX11_commit_118 ci_1 ?_
            refine k_iadd hF dX11_commit_119 ?_
            refine k_putI hF hA shR_0 fp_X11_160_X11 dX11_commit_120 rfl rfl rfl ?_
            obtain ⟨σ23, hσ23, h⟩ := lt_some h
            refine k_sig hσ23 ?_
            refine k_iconst hF dX11_commit_123 ci_0 ?_
            refine k_istore hF (L' := [some (.ref (B + 0)), some (.int a1), some (.int a2), some (.int v7), some (.int (0 : Int32)), none]) dX11_commit_124 (by decide) rfl ?_
            refine k_iconst hF dX11_commit_126 ci_0 ?_
            refine k_istore hF (L' := [some (.ref (B + 0)), some (.int a1), some (.int a2), some (.int v7), some (.int (0 : Int32)), some (.int (0 : Int32))]) dX11_commit_127 (by decide) rfl ?_
            refine k_kill 3 rfl ?_
            obtain ⟨x28, hx28, h⟩ := bind_some h
            refine k_loop (P := fun xq => KJ (Rep D B shpR) A 6 0 0 Q p l e ({ frames := 3, cells := 0, slots := 0, locals := 68 } : Room) s m args below meth c 0 0 129 [some (.ref (B + 0)), some (.int a1), some (.int a2), none, some (.int xq.2.1), some (.int xq.2.2)] [] xq.1) (C := fun xq => KJ (Rep D B shpR) A 6 0 0 Q p l e ({ frames := 3, cells := 0, slots := 0, locals := 68 } : Room) s m args below meth c 0 0 166 [some (.ref (B + 0)), some (.int a1), some (.int a2), none, some (.int xq.2.1), some (.int xq.2.2)] [] xq.1) (fun x z hz hc he => wX11_commit_l129 hF hA hbs hz hc he) hx28 ?_
            show KJ (Rep D B shpR) A 6 0 0 Q p l e ({ frames := 3, cells := 0, slots := 0, locals := 68 } : Room) s m args below meth c 0 0 166 [some (.ref (B + 0)), some (.int a1), some (.int a2), none, some (.int x28.2.1), some (.int x28.2.2)] [] x28.1
            refine k_iconst hF dX11_commit_166 ci_0 ?_
            refine k_istore hF (L' := [some (.ref (B + 0)), some (.int a1), some (.int a2), none, some (.int x28.2.1), some (.int (0 : Int32))]) dX11_commit_167 (by decide) rfl ?_
            obtain ⟨x34, hx34, h⟩ := bind_some h
            refine k_loop (P := fun xq => KJ (Rep D B shpR) A 6 0 0 Q p l e ({ frames := 3, cells := 0, slots := 0, locals := 68 } : Room) s m args below meth c 0 0 169 [some (.ref (B + 0)), some (.int a1), some (.int a2), none, some (.int x28.2.1), some (.int xq.2)] [] xq.1) (C := fun xq => KJ (Rep D B shpR) A 6 0 0 Q p l e ({ frames := 3, cells := 0, slots := 0, locals := 68 } : Room) s m args below meth c 0 0 215 [some (.ref (B + 0)), some (.int a1), some (.int a2), none, some (.int x28.2.1), some (.int xq.2)] [] xq.1) (fun x z hz hc he => wX11_commit_l169 hF hA hbs hz hc he) hx34 ?_
            show KJ (Rep D B shpR) A 6 0 0 Q p l e ({ frames := 3, cells := 0, slots := 0, locals := 68 } : Room) s m args below meth c 0 0 215 [some (.ref (B + 0)), some (.int a1), some (.int a2), none, some (.int x28.2.1), some (.int x34.2)] [] x34.1
            refine k_bipush hF (v := (8 : Int32)) dX11_commit_215 (by decide) ?_
            refine k_iload_n hF dX11_commit_217 rfl ?_
            refine k_imul hF dX11_commit_218 ?_
            refine k_istore hF (L' := [some (.ref (B + 0)), some (.int a1), some (.int a2), none, some (.int x28.2.1), some (.int ((8 : Int32) * a1))]) dX11_commit_219 (by decide) rfl ?_
            obtain ⟨x41, hx41, h⟩ := bind_some h
            refine k_loop (P := fun xq => KJ (Rep D B shpR) A 6 0 0 Q p l e ({ frames := 3, cells := 0, slots := 0, locals := 68 } : Room) s m args below meth c 0 0 221 [some (.ref (B + 0)), some (.int a1), some (.int a2), none, some (.int x28.2.1), some (.int xq.2)] [] xq.1) (C := fun xq => KJ (Rep D B shpR) A 6 0 0 Q p l e ({ frames := 3, cells := 0, slots := 0, locals := 68 } : Room) s m args below meth c 0 0 269 [some (.ref (B + 0)), some (.int a1), some (.int a2), none, some (.int x28.2.1), some (.int xq.2)] [] xq.1) (fun x z hz hc he => wX11_commit_l221 hF hA hbs hz hc he) hx41 ?_
            show KJ (Rep D B shpR) A 6 0 0 Q p l e ({ frames := 3, cells := 0, slots := 0, locals := 68 } : Room) s m args below meth c 0 0 269 [some (.ref (B + 0)), some (.int a1), some (.int a2), none, some (.int x28.2.1), some (.int x41.2)] [] x41.1
            refine k_iload hF dX11_commit_269 rfl ?_
            refine k_if_eq hF (tgt := 278) dX11_commit_271 (by decide) (fun c42 => ?_) (fun c42 => ?_)
            · replace h := ite_t c42 h
              refine k_kill 4 rfl ?_
              refine k_kill 5 rfl ?_
              exact wX11_commit_j278 hF hA hbs h hr
            · replace h := ite_f c42 h
              refine k_aload_n hF dX11_commit_274 rfl ?_
              obtain ⟨v43, hv43, h⟩ := bind_some h
              refine k_callV hF hA (as := []) (ct_X11_wakes hbs hv43) mv_X11_202 shR_0 rfl rfl rfl ⟨Nat.le_of_ble_eq_true rfl, Nat.le_of_ble_eq_true rfl⟩ (Nat.le_of_ble_eq_true rfl) dX11_commit_275 ?_
              refine k_st (st2 := []) rfl ?_
              refine k_kill 4 rfl ?_
              refine k_kill 5 rfl ?_
              exact wX11_commit_j278 hF hA hbs h hr
          · replace h := ite_f c22 h
            refine k_bipush hF (v := (-2 : Int32)) dX11_commit_110 (by decide) ?_
            cases h
            exact hr _ _ rfl dX11_commit_112
        · replace h : some (r20) = some z := h
          cases h; exact hr
      · replace h := ite_t c9 h
        refine k_kill 3 rfl ?_
        exact wX11_commit_j43 hF hA hbs h hr
  · replace h := ite_f c4 h
    refine k_iconst hF dX11_commit_20 ci_0 ?_
    cases h
    exact hr _ _ rfl dX11_commit_21
set_option maxHeartbeats 4000000 in
set_option maxRecDepth 100000 in
theorem wX11_commit {p : Program} {l : Launch} {e : Env} {s : State} {m : MethodId} {args : Array Value} {below : List Frame} {meth : Method} {c : Code} {Q : State → Prop} {A : Nat → Prop} {D : DD} {base B : Nat} (hF : KF D base cX11_commit RX11 A 6 0 0 p l e ({ frames := 3, cells := 0, slots := 0, locals := 68 } : Room) s m args below meth c) (hA : ∀ q, RA B shpR q → A q) (hbs : base ≤ B) {σ : St} {a1 : Int32} {a2 : Int32} {z : (Int32 × St)} (h : fX11_commit σ a1 a2 = some z) (hr : ∀ (pc : Nat) (L : List (Option Value)), narrow .int (.int z.1) = .int z.1 → decode cX11_commit pc = .ok (.ireturn, 1) → KJ (Rep D B shpR) A 6 0 0 Q p l e ({ frames := 3, cells := 0, slots := 0, locals := 68 } : Room) s m args below meth c 0 0 pc L [.int z.1] z.2) : KJ (Rep D B shpR) A 6 0 0 Q p l e ({ frames := 3, cells := 0, slots := 0, locals := 68 } : Room) s m args below meth c 0 0 0 [some (.ref (B + 0)), some (.int a1), some (.int a2), none, none, none] [] σ := by
  unfold fX11_commit at h
  refine k_aload_n hF dX11_commit_0 rfl ?_
  refine k_aload_n hF dX11_commit_1 rfl ?_
  refine k_iload_n hF dX11_commit_2 rfl ?_
  obtain ⟨v1, hv1, h⟩ := bind_some h
  refine k_callV hF hA (as := [.int a1]) (ct_X11_isTransaction hbs hv1) mv_X11_217 shR_0 rfl rfl rfl ⟨Nat.le_of_ble_eq_true rfl, Nat.le_of_ble_eq_true rfl⟩ (Nat.le_of_ble_eq_true rfl) dX11_commit_3 ?_
  refine k_st (st2 := [.int v1, .ref (B + 0)]) rfl ?_
  refine k_if_eq hF (tgt := 13) dX11_commit_6 (by decide) (fun c2 => ?_) (fun c2 => ?_)
  · replace h := ite_t c2 h
    refine k_iconst hF dX11_commit_13 ci_1 ?_
    exact wX11_commit_j14 hF hA hbs h hr
  · replace h := ite_f c2 h
    refine k_iconst hF dX11_commit_9 ci_0 ?_
    refine k_goto hF dX11_commit_10 (tgt := 14) (by decide) ?_
    exact wX11_commit_j14 hF hA hbs h hr
theorem ct_X11_commit {l : Launch} {D : DD} {base B : Nat} (hbs : base ≤ B) {σ : St} {a1 : Int32} {a2 : Int32} {r : (Int32 × St)} (h : fX11_commit σ a1 a2 = some r) : MetR l D B shpR base yX11_commit cX11_commit 6 (some .int) 3 68 [.ref (B + 0), .int a1, .int a2] σ (some (.int r.1)) r.2 :=
  MetR.of (by decide +kernel) (fun v hv => by simp only [List.mem_cons, List.not_mem_nil, or_false] at hv; rcases hv with rfl | rfl | rfl <;> rfl) (Nat.le_of_ble_eq_true rfl) hbs (fun p e s m args below meth c hF hr => wX11_commit hF (fun q hq => hq) hbs h (fun pc L hn hd => k_iret hF hr hn hd))
