/-- the exceptions by their numbers -/
def xn : Nat → String := fun n => match n with
  | 0 => "java/lang/IndexOutOfBoundsException"
  | 1 => "java/lang/IllegalArgumentException"
  | _ => "java/lang/IllegalStateException"
def xnames : List String := ["java/lang/RuntimeException", "java/lang/Exception"]
/-- the words of a throw with a text -/
def tw_ok (own : String) (ik ic : Nat) (cls : String) : Prop := Bundle.fit cls = true ∧ (∀ n ∈ xnames, Bundle.fit n = true) ∧ Cond.classLink own ik cls ∈ GT ∧ Cond.initialized cls ∈ GT ∧ (∀ w ∈ (vx_atS own ic cls xnames).filter goodWord, w ∈ GT) ∧ (∀ w ∈ (vx_atS own ic cls xnames).filter (fun w => !goodWord w), w ∈ BW) ∧ ∀ w ∈ Cond.classLink own ik cls :: Cond.initialized cls :: vx_atS own ic cls xnames, vx_ot w = true
theorem gt_all {ws : List Cond} (h : ws.all (fun w => decide (w ∈ lw_tbl) && goodWord w) = true) : ∀ w ∈ ws, w ∈ GT := fun w hw => by
  have h1 := List.all_eq_true.mp h w hw
  simp only [Bool.and_eq_true, decide_eq_true_eq] at h1
  exact List.mem_filter.mpr h1
theorem bw_all {ws : List Cond} (h : ws.all (fun w => decide (w ∈ lw_tbl) && bwOK w) = true) : ∀ w ∈ ws, w ∈ BW := fun w hw => by
  have h1 := List.all_eq_true.mp h w hw
  simp only [Bool.and_eq_true, decide_eq_true_eq] at h1
  exact List.mem_filter.mpr h1
theorem ot_all {ws : List Cond} (h : ws.all vx_ot = true) : ∀ w ∈ ws, vx_ot w = true := fun w hw => List.all_eq_true.mp h w hw
theorem ss_s {own tx : String} {k : Nat} (i : Nat) (h : lw_tbl[i]? = some (.stringRef own k tx)) : (own, k, tx) ∈ SS := List.mem_filterMap.mpr ⟨_, List.mem_of_getElem? h, rfl⟩
/-- what a method that may throw leaves: o says what comes of it -/
def QX (D : DD) (B : Nat) (S : List Sh) (A : Nat → Prop) (o : Option Value ⊕ Nat) (σ' : St) : Array Value → State → Outcome → State → Prop := fun _ st oc t => (∃ r, o = .inl r ∧ oc = .returned r) ∧ Rep D B S σ' t.heap ∧ va_F A st t
def XX (D : DD) (B : Nat) (S : List Sh) (A : Nat → Prop) (o : Option Value ⊕ Nat) (σ' : St) : String → State → State → Prop := fun E st t => (∃ n, o = .inr n ∧ E = xn n) ∧ Rep D B S σ' t.heap ∧ va_F A st t
def MetX (l : Launch) (D : DD) (B : Nat) (S : List Sh) (base : Nat) (y : MethodName) (b : ByteArray) (nL : Nat) (ret : Option FieldType) (fr lo mc ms : Nat) (as : List Value) (σ : St) (o : Option Value ⊕ Nat) (σ' : St) : Prop :=
  vx_Met l y (Cond.code y b nL ret :: GT) { frames := fr, cells := mc, slots := ms, locals := lo } (va_Pc as (fun U => Rep D B S σ U.heap ∧ Kn D base U)) (QX D B S (RA B S) o σ') (XX D B S (RA B S) o σ') mc ms (RA B S)
section KTHROW
variable {p : Program} {l : Launch} {e : Env} {s : State} {m : MethodId} {args : Array Value} {below : List Frame} {meth : Method} {c : Code} {Q : State → Prop}
variable {A : Nat → Prop} {D : DD} {base B nL mc ms bc bs pc : Nat} {cc : ByteArray} {own : String} {L : List (Option Value)} {st : List Value} {S : List Sh} {σ : St}
theorem MetX.of {y : MethodName} {b : ByteArray} {ret : Option FieldType} {fr lo : Nat} {as : List Value} {o : Option Value ⊕ Nat} {σ' : St} (hy : plainName y.cls = true) (hcat : ∀ v ∈ as, v.category = 1) (hlen : as.length ≤ nL) (hbase : base ≤ B)
    (body : ∀ p e s m args below meth c, KF D base b y.cls (RA B S) nL mc ms p l e { frames := fr, cells := mc, slots := ms, locals := lo } s m args below meth c → meth.sig.returnType = ret → (∀ x ∈ c.exceptionTable.toList, False) →
      KJ (Rep D B S) (RA B S) nL mc ms (vx_MQ below (QX D B S (RA B S) o σ') (XX D B S (RA B S) o σ') args s mc ms (RA B S)) p l e { frames := fr, cells := mc, slots := ms, locals := lo } s m args below meth c mc ms 0 (as.map some ++ List.replicate (nL - as.length) none) [] σ) : MetX l D B S base y b nL ret fr lo mc ms as σ o σ' := by
  refine vx_ofW (cc := b) (maxL := nL) (ret := ret) hy rfl ?_
  intro p e s m args below meth c s₁ B₁ hml hT hv
  obtain ⟨rfl, hRep, hKn⟩ := hv
  have hts := atoms_spec (ws := Cond.code y b nL ret :: GT) B₁.pre
  have hF : KF D base b y.cls (RA B S) nL mc ms p l e { frames := fr, cells := mc, slots := ms, locals := lo } s m as.toArray below meth c :=
    ⟨B₁.exec, B₁.bytes, hml, findClass_of_methodNamed B₁.named, fun w h => hts w (List.mem_cons_of_mem _ h), hKn, rfl, rfl, B₁.notSynchronized, fun q h => Nat.le_trans hbase h.1⟩
  have h := body p e s m as.toArray below meth c hF B₁.returns hT s.heap [] _ 0 0 hRep va_S.rf (lvok.entry as nL hcat hlen) (by omega) (by omega)
  rw [entry_eq m as hcat nL]
  exact h
theorem k_bud {X : Type} {Rp : X → Heap → Prop} {R : Room} {bc' bs' : Nat} {σ : X} (h1 : bc' ≤ bc) (h2 : bs' ≤ bs) (k : KJ Rp A nL mc ms Q p l e R s m args below meth c bc' bs' pc L st σ) : KJ Rp A nL mc ms Q p l e R s m args below meth c bc bs pc L st σ := fun H locs ls ce sl g1 g2 g3 g4 g5 => k H locs ls ce sl g1 g2 g3 (by omega) (by omega)
theorem k_xiret {R : Room} (hF : KF D base cc own A nL mc ms p l e R s m args below meth c) {x : Int32} {ty : FieldType} (hr : meth.sig.returnType = some ty) (hn : narrow ty (.int x) = .int x) (hd : decode cc pc = .ok (.ireturn, 1)) :
    KJ (Rep D B S) A nL mc ms (vx_MQ below (QX D B S A (.inl (some (.int x))) σ) (XX D B S A (.inl (some (.int x))) σ) args s mc ms A) p l e R s m args below meth c bc bs pc L [.int x] σ := by
  intro H locs ls ce sl h1 h2 h3 h4 h5
  exact vx_ret (W.widen (k := mc) (n := ms) (by omega) (by omega) (W.zret hF.1 hF.2.1 hr hn (fun t ht hW => ⟨⟨_, rfl, rfl⟩, by rw [ht]; exact h1, h2.F ht⟩) h2.2.2 hd hF.2.2.2.2.2.2.2.2.1))
theorem k_xvret {R : Room} (hF : KF D base cc own A nL mc ms p l e R s m args below meth c) (hr : meth.sig.returnType = none) (hd : decode cc pc = .ok (.return_, 1)) :
    KJ (Rep D B S) A nL mc ms (vx_MQ below (QX D B S A (.inl none) σ) (XX D B S A (.inl none) σ) args s mc ms A) p l e R s m args below meth c bc bs pc L [] σ := by
  intro H locs ls ce sl h1 h2 h3 h4 h5
  exact vx_ret (W.widen (k := mc) (n := ms) (by omega) (by omega) (W.vret hF.1 hF.2.1 hr (fun t ht hW => ⟨⟨_, rfl, rfl⟩, by rw [ht]; exact h1, h2.F ht⟩) h2.2.2 hd hF.2.2.2.2.2.2.2.2.1))
theorem rep_end {H : Heap} {t : State} (h1 : Rep D B S σ H) (e1 : ∀ q : Nat, q < H.size → t.heap[q]? = H[q]?) : Rep D B S σ t.heap := fun a sh hs => cell_cg (h1 a sh hs) (e1 _ (cell_lt (h1 a sh hs))) fun _ => ⟨rfl, rfl⟩
/-- throw new E("text"), the text by a narrow or a wide index -/
theorem k_throw {R : Room} (hF : KF D base cc own A nL mc ms p l e R s m args below meth c) (hl : l.stackTraces = false) (hT : ∀ x ∈ c.exceptionTable.toList, False) {n ik is ic : Nat} {text : String} (tw : tw_ok own ik ic (xn n)) (hs : (own, is, text) ∈ SS)
    (d0 : decode cc pc = .ok (.new ik, 3)) (d3 : decode cc (pc + 3) = .ok (.dup, 1)) (d4 : (decode cc (pc + 4) = .ok (.ldc is, 2) ∧ decode cc (pc + 6) = .ok (.invokespecial ic, 3) ∧ decode cc (pc + 9) = .ok (.athrow, 1)) ∨ (decode cc (pc + 4) = .ok (.ldc_w is, 3) ∧ decode cc (pc + 7) = .ok (.invokespecial ic, 3) ∧ decode cc (pc + 10) = .ok (.athrow, 1)))
    (hRf : 5 < R.frames) (hRl : (st.map fun v => v.category).sum + 82 ≤ R.locals) (hbc : 1 ≤ bc) (hbs : 6 ≤ bs) :
    KJ (Rep D B S) A nL mc ms (vx_MQ below (QX D B S A (.inr n) σ) (XX D B S A (.inr n) σ) args s mc ms A) p l e R s m args below meth c bc bs pc L st σ := by
  intro H locs ls ce sl h1 h2 h3 h4 h5
  obtain ⟨hx, hb, hml, hown, hts, hKn, hRc, hRs, hlk, hAb⟩ := hF
  obtain ⟨t1, t2, t3, t4, t5, t6, t7⟩ := tw
  obtain ⟨-, -, hU, hN, hBW, hSS⟩ := hKn
  obtain ⟨sa, hsa⟩ := hSS _ hs
  have hat : ∀ w ∈ vx_atS own ic (xn n) xnames, w.before args s = true := vx_hat (B := BW) (fun w h => hts w (t5 w h)) t6 (fun w h => va_Nw.use (bw_tab (List.mem_filter.mp h).2) (hBW w h))
  have hxx : ∀ t : State, s.vm.Alike t.vm → H.size ≤ t.heap.size → (∀ q : Nat, q < H.size → t.heap[q]? = H[q]?) → XX D B S A (.inr n) σ (xn n) s t := fun t _ hz ho => ⟨⟨n, rfl, rfl⟩, rep_end h1 ho, Nat.le_trans h2.1 hz, fun q h9 h8 => (ho q (Nat.lt_of_lt_of_le h9 h2.1)).trans (h2.2.1 q h9 h8)⟩
  rcases d4 with ⟨d4, d6, d9⟩ | ⟨d4, d7, d10⟩
  · exact vx_throwS hx hb hl hown t1 t2 (hts _ t3) (hts _ t4) hsa hat t7 (hU.narrow hAb) (hN.narrow hAb) h2 (h3.1.trans hml.symm) d0 d3 d4 d6 d9 (fun x h => (hT x h).elim) hRf hRl (by omega) (by omega) hlk hxx h2.2.2 (by omega) (by omega)
  · exact vx_throwSW hx hb hl hown t1 t2 (hts _ t3) (hts _ t4) hsa hat t7 (hU.narrow hAb) (hN.narrow hAb) h2 (h3.1.trans hml.symm) d0 d3 d4 d7 d10 (fun x h => (hT x h).elim) hRf hRl (by omega) (by omega) hlk hxx h2.2.2 (by omega) (by omega)
/-- behind a call that returned -/
theorem kx_ret {R : Room} {H : Heap} {locs : List Loc} {ls : Array Slot} {ce sl mc' ms' bc' bs' : Nat} {st0 : List Value} {r : Option Value} {σ' : St} {XC : String → State → State → Prop} (hXC : ∀ E st t, ¬ XC E st t) (hA : ∀ q, RA B S q → A q) (h2 : va_S A s.heap H locs) (h3 : lvok ls nL L) (h4 : ce + bc ≤ mc) (h5 : sl + bs ≤ ms) (hbc : bc' + mc' ≤ bc) (hbs : bs' + ms' ≤ bs)
    (hr : vx_Run p l e R s m args below meth c H locs ce sl mc' ms' (F0 m pc ls st0) st (fun st oc t => (∃ r', (Sum.inl r : Option Value ⊕ Nat) = .inl r' ∧ oc = .returned r') ∧ Rep D B S σ' t.heap ∧ va_F (RA B S) st t) XC (RA B S))
    (kk : KJ (Rep D B S) A nL mc ms Q p l e R s m args below meth c bc' bs' (pc + 3) L (r.toList ++ st) σ') : W p l e R s m args below meth c H locs ce sl Q (F0 m pc ls st0) := by
  intro T hT X
  rcases hr T hT X with ⟨v, st₀, t, T', Lc, h0, X', hL, e1, e2, ⟨⟨r', hr', hv⟩, hp, hz, hk⟩, stp⟩ | ⟨q, st₀, t, T', Lc, E, ce9, h0, X', hL, e1, e2, hxc, -⟩
  · cases hr'; cases hv
    rw [h0] at hz hk
    obtain ⟨t2, a1, b1⟩ := kk T'.heap (locs ++ Lc) ls (ce + mc') (sl + ms') (by rw [e1]; exact hp) ⟨Nat.le_trans h2.1 (by rw [e1]; exact hz), fun q h1 hq => by rw [e1, hk q (Nat.lt_of_lt_of_le h1 h2.1) (fun z => hq (hA q z))]; exact h2.2.1 q h1 hq, fun q hq => by
        rcases List.mem_append.mp hq with h | h
        · exact h2.2.2 q h
        · exact hA _ (hL q h)⟩ h3 (by omega) (by omega) T' rfl X'
    exact ⟨t2, stp t2 a1, b1⟩
  · exact absurd hxc (hXC _ _ _)
/-- behind a call that threw: it goes on to the caller -/
theorem kx_thr {R : Room} {H : Heap} {locs : List Loc} {ls : Array Slot} {ce sl mc' ms' : Nat} {st0 : List Value} {n : Nat} {σ' : St} {Qc : State → Outcome → State → Prop} (hQC : ∀ st oc t, ¬ Qc st oc t) (hT : ∀ x ∈ c.exceptionTable.toList, False) (hlk : meth.locks = false) (hA : ∀ q, RA B S q → A q) (h2 : va_S A s.heap H locs) (h4 : ce + bc ≤ mc) (h5 : sl + bs ≤ ms) (hbc : mc' ≤ bc) (hbs : ms' ≤ bs)
    (hr : vx_Run p l e R s m args below meth c H locs ce sl mc' ms' (F0 m pc ls st0) st Qc (XX D B S (RA B S) (.inr n) σ') (RA B S)) :
    W p l e R s m args below meth c H locs ce sl (vx_MQ below (QX D B S A (.inr n) σ') (XX D B S A (.inr n) σ') args s mc ms A) (F0 m pc ls st0) := by
  intro T hT9 X
  rcases hr T hT9 X with ⟨v, st₀, t, T', Lc, h0, X', hL, e1, e2, hq, -⟩ | ⟨q, st₀, t, T', Lc, E, ce9, h0, X', hL, e1, e2, ⟨⟨n', hn', hE⟩, hp, hz, hk⟩, hce, hcv, hcl, stp⟩
  · exact absurd hq (hQC _ _ _)
  · cases hn'
    rw [h0] at hz hk
    have hS1 : va_S A s.heap T'.heap (locs ++ Lc) := ⟨Nat.le_trans h2.1 (by rw [e1]; exact hz), fun q h1 hq => by rw [e1, hk q (Nat.lt_of_lt_of_le h1 h2.1) (fun z => hq (hA q z))]; exact h2.2.1 q h1 hq, fun q hq => by
        rcases List.mem_append.mp hq with h | h
        · exact h2.2.2 q h
        · exact hA _ (hL q h)⟩
    have hout := vx_out (p := p) (l := l) (e := e) (R := R) (s := s) (m := m) (args := args) (below := below) (meth := meth) (c := c) (H := T'.heap) (locs := locs ++ Lc) (cells := ce + mc') (slots := sl + ms') (pc := pc) (ls := ls) (rest := st) (E := E) (ce := ce9) (q := q) (mc := mc) (ms := ms) (free := A) (Qc := QX D B S A (.inr n) σ') (XC := XX D B S A (.inr n) σ') (fun x h => (hT x h).elim) hlk (by rw [e1]; exact hce) hcv hcl
      (fun t9 ht9 _ => ⟨⟨n, rfl, hE⟩, by rw [ht9, e1]; exact hp, hS1.F ht9⟩) hS1.2.2 (by omega) (by omega)
    obtain ⟨t2, a1, b1⟩ := hout T' rfl X'
    exact ⟨t2, stp.trans a1, b1⟩
theorem noX {D : DD} {B : Nat} {S : List Sh} {A : Nat → Prop} {r : Option Value} {σ' : St} : ∀ E st t, ¬ XX D B S A (.inl r) σ' E st t := fun E st t h => by obtain ⟨⟨n, hn, -⟩, -⟩ := h; cases hn
theorem noQ {D : DD} {B : Nat} {S : List Sh} {A : Nat → Prop} {n : Nat} {σ' : St} {a : Array Value} : ∀ st oc t, ¬ QX D B S A (.inr n) σ' a st oc t := fun st oc t h => by obtain ⟨⟨r, hr, -⟩, -⟩ := h; cases hr
theorem xrunV {R : Room} (hF : KF D base cc own A nL mc ms p l e R s m args below meth c) {H : Heap} {locs : List Loc} {ls : Array Slot} {ce sl : Nat} {a ci idx n nL' fr lo mc' ms' : Nat} {cs : List Nat} {C : String} {T : u_T} {N : Nat} {y : MethodName} {b : ByteArray} {ret : Option FieldType} {as : List Value} {o : Option Value ⊕ Nat} {σ' : St}
    (hm : MetX l D B S base y b nL' ret fr lo mc' ms' (.ref (B + a) :: as) σ o σ') (mv : mv_ok own idx C y b nL' ret n) (hs : S[a]? = some (.inl (ci, cs))) (hci : vwCl[ci]? = some (C, T, N)) (hn : as.length = n) (hR : fr + 1 ≤ R.frames ∧ 8 + (nL' + 11) + lo ≤ R.locals) (hW : (st.map fun v => v.category).sum ≤ 8) (hd : decode cc pc = .ok (.invokevirtual idx, 3))
    (h1 : Rep D B S σ H) (h2 : va_S A s.heap H locs) (h3 : lvok ls nL L) (h4 : ce + bc ≤ mc) (h5 : sl + bs ≤ ms) (hbc : mc' ≤ bc) (hbs : ms' ≤ bs) :
    vx_Run p l e R s m args below meth c H locs ce sl mc' ms' (F0 m pc ls (as.reverse ++ .ref (B + a) :: st)) st (QX D B S (RA B S) o σ' (Value.ref (B + a) :: as).toArray) (XX D B S (RA B S) o σ') (RA B S) := by
  obtain ⟨hx, hb, hml, hown, hts, hKn, hRc, hRs, -⟩ := id hF
  obtain ⟨hw, hd4⟩ := mv
  obtain ⟨r9, hr9, cell, q1, q2, q3, q4⟩ := h1 a _ hs
  cases hr9.symm.trans hci
  have hcw : CallW R s args own C idx y b nL' ret (Cond.code y b nL' ret :: GT) { frames := fr, cells := mc', slots := ms', locals := lo } mc' ms' n := ⟨callB_of n hts (gt_gi hts (ws := Cond.code y b nL' ret :: GT) (fun w h => by
    rcases List.mem_cons.mp h with h | h
    · exact hw w (by rw [h]; exact List.mem_of_getElem? (i := 4) rfl)
    · exact h)) rfl rfl rfl (hts _ (hw _ (List.mem_of_getElem? (i := 3) rfl))) (hts _ (hw _ (List.mem_of_getElem? (i := 0) rfl))) hd4 hR, hts _ (hw _ (List.mem_of_getElem? (i := 1) rfl)), hts _ (hw _ (List.mem_of_getElem? (i := 2) rfl))⟩
  exact vx_runV (As := as) (rest := st) ⟨hx, hb, hml, hown, hts⟩ hm hcw ⟨pc_blind, ⟨cell, q1, by rw [q3]; rfl, by rw [q2]; exact (hKn.1 ci _ hci).2.1⟩, fun U hU hW => ⟨rfl, by rw [hU]; exact h1, kn_at hF h2 hU hW⟩⟩ rfl hn h3.1 rfl (lv_room hW) hd ⟨by rw [hRc]; omega, by rw [hRs]; omega⟩
theorem xrunS {R : Room} (hF : KF D base cc own A nL mc ms p l e R s m args below meth c) {H : Heap} {locs : List Loc} {ls : Array Slot} {ce sl : Nat} {idx n nL' fr lo mc' ms' : Nat} {y : MethodName} {b : ByteArray} {ret : Option FieldType} {as : List Value} {o : Option Value ⊕ Nat} {σ' : St}
    (hm : MetX l D B S base y b nL' ret fr lo mc' ms' as σ o σ') (mv : ms_ok own idx y b nL' ret n) (hn : as.length = n) (hR : fr + 1 ≤ R.frames ∧ 8 + (nL' + 11) + lo ≤ R.locals) (hW : (st.map fun v => v.category).sum ≤ 8) (hd : decode cc pc = .ok (.invokestatic idx, 3))
    (h1 : Rep D B S σ H) (h2 : va_S A s.heap H locs) (h3 : lvok ls nL L) (h4 : ce + bc ≤ mc) (h5 : sl + bs ≤ ms) (hbc : mc' ≤ bc) (hbs : ms' ≤ bs) :
    vx_Run p l e R s m args below meth c H locs ce sl mc' ms' (F0 m pc ls (as.reverse ++ st)) st (QX D B S (RA B S) o σ' as.toArray) (XX D B S (RA B S) o σ') (RA B S) := by
  obtain ⟨hx, hb, hml, hown, hts, hKn, hRc, hRs, -⟩ := id hF
  obtain ⟨hw, hd4⟩ := mv
  have hcw := va_cwS (R := R) (own := own) (index := idx) (rm := { frames := fr, cells := mc', slots := ms', locals := lo }) (mc := mc') (ms := ms') n hts (gt_gi hts (ws := va_wsS own idx y (Cond.code y b nL' ret :: GT)) (fun w h => by
    rcases List.mem_append.mp h with h | h
    · exact hw w (List.mem_append_left [_] h)
    · rcases List.mem_cons.mp h with h | h
      · exact hw w (by rw [h]; exact List.mem_append_right [_, _, _] List.mem_cons_self)
      · exact h)) rfl rfl rfl hd4 hR
  exact vx_runS (As := as) (rest := st) ⟨hx, hb, hml, hown, hts⟩ hm hcw ⟨pc_blind, fun U hU hW => ⟨rfl, by rw [hU]; exact h1, kn_at hF h2 hU hW⟩⟩ rfl hn h3.1 rfl (lv_room hW) hd ⟨by rw [hRc]; omega, by rw [hRs]; omega⟩
theorem k_xV_r {R : Room} (hF : KF D base cc own A nL mc ms p l e R s m args below meth c) (hA : ∀ q, RA B S q → A q) {a ci idx n nL' fr lo mc' ms' : Nat} (bc' bs' : Nat) {cs : List Nat} {C : String} {T : u_T} {N : Nat} {y : MethodName} {b : ByteArray} {ret : Option FieldType} {as : List Value} {r : Option Value} {σ' : St} {st0 : List Value}
    (hm : MetX l D B S base y b nL' ret fr lo mc' ms' (.ref (B + a) :: as) σ (.inl r) σ') (mv : mv_ok own idx C y b nL' ret n) (hs : S[a]? = some (.inl (ci, cs))) (hci : vwCl[ci]? = some (C, T, N)) (hn : as.length = n) (hst : st0 = as.reverse ++ .ref (B + a) :: st) (hR : fr + 1 ≤ R.frames ∧ 8 + (nL' + 11) + lo ≤ R.locals) (hW : (st.map fun v => v.category).sum ≤ 8) (hd : decode cc pc = .ok (.invokevirtual idx, 3)) (hbc : bc' + mc' ≤ bc) (hbs : bs' + ms' ≤ bs)
    (kk : KJ (Rep D B S) A nL mc ms Q p l e R s m args below meth c bc' bs' (pc + 3) L (r.toList ++ st) σ') : KJ (Rep D B S) A nL mc ms Q p l e R s m args below meth c bc bs pc L st0 σ := by
  intro H locs ls ce sl h1 h2 h3 h4 h5
  subst hst
  exact kx_ret noX hA h2 h3 h4 h5 hbc hbs (xrunV hF hm mv hs hci hn hR hW hd h1 h2 h3 h4 h5 (by omega) (by omega)) kk
theorem k_xV_x {R : Room} (hF : KF D base cc own A nL mc ms p l e R s m args below meth c) (hA : ∀ q, RA B S q → A q) (hT : ∀ x ∈ c.exceptionTable.toList, False) {a ci idx n nL' fr lo mc' ms' k : Nat} {cs : List Nat} {C : String} {T : u_T} {N : Nat} {y : MethodName} {b : ByteArray} {ret : Option FieldType} {as : List Value} {σ' : St} {st0 : List Value}
    (hm : MetX l D B S base y b nL' ret fr lo mc' ms' (.ref (B + a) :: as) σ (.inr k) σ') (mv : mv_ok own idx C y b nL' ret n) (hs : S[a]? = some (.inl (ci, cs))) (hci : vwCl[ci]? = some (C, T, N)) (hn : as.length = n) (hst : st0 = as.reverse ++ .ref (B + a) :: st) (hR : fr + 1 ≤ R.frames ∧ 8 + (nL' + 11) + lo ≤ R.locals) (hW : (st.map fun v => v.category).sum ≤ 8) (hd : decode cc pc = .ok (.invokevirtual idx, 3)) (hbc : mc' ≤ bc) (hbs : ms' ≤ bs) :
    KJ (Rep D B S) A nL mc ms (vx_MQ below (QX D B S A (.inr k) σ') (XX D B S A (.inr k) σ') args s mc ms A) p l e R s m args below meth c bc bs pc L st0 σ := by
  intro H locs ls ce sl h1 h2 h3 h4 h5
  subst hst
  exact kx_thr noQ hT hF.2.2.2.2.2.2.2.2.1 hA h2 h4 h5 hbc hbs (xrunV hF hm mv hs hci hn hR hW hd h1 h2 h3 h4 h5 hbc hbs)
theorem k_xS_r {R : Room} (hF : KF D base cc own A nL mc ms p l e R s m args below meth c) (hA : ∀ q, RA B S q → A q) {idx n nL' fr lo mc' ms' : Nat} (bc' bs' : Nat) {y : MethodName} {b : ByteArray} {ret : Option FieldType} {as : List Value} {r : Option Value} {σ' : St} {st0 : List Value}
    (hm : MetX l D B S base y b nL' ret fr lo mc' ms' as σ (.inl r) σ') (mv : ms_ok own idx y b nL' ret n) (hn : as.length = n) (hst : st0 = as.reverse ++ st) (hR : fr + 1 ≤ R.frames ∧ 8 + (nL' + 11) + lo ≤ R.locals) (hW : (st.map fun v => v.category).sum ≤ 8) (hd : decode cc pc = .ok (.invokestatic idx, 3)) (hbc : bc' + mc' ≤ bc) (hbs : bs' + ms' ≤ bs)
    (kk : KJ (Rep D B S) A nL mc ms Q p l e R s m args below meth c bc' bs' (pc + 3) L (r.toList ++ st) σ') : KJ (Rep D B S) A nL mc ms Q p l e R s m args below meth c bc bs pc L st0 σ := by
  intro H locs ls ce sl h1 h2 h3 h4 h5
  subst hst
  exact kx_ret noX hA h2 h3 h4 h5 hbc hbs (xrunS hF hm mv hn hR hW hd h1 h2 h3 h4 h5 (by omega) (by omega)) kk
theorem k_xS_x {R : Room} (hF : KF D base cc own A nL mc ms p l e R s m args below meth c) (hA : ∀ q, RA B S q → A q) (hT : ∀ x ∈ c.exceptionTable.toList, False) {idx n nL' fr lo mc' ms' k : Nat} {y : MethodName} {b : ByteArray} {ret : Option FieldType} {as : List Value} {σ' : St} {st0 : List Value}
    (hm : MetX l D B S base y b nL' ret fr lo mc' ms' as σ (.inr k) σ') (mv : ms_ok own idx y b nL' ret n) (hn : as.length = n) (hst : st0 = as.reverse ++ st) (hR : fr + 1 ≤ R.frames ∧ 8 + (nL' + 11) + lo ≤ R.locals) (hW : (st.map fun v => v.category).sum ≤ 8) (hd : decode cc pc = .ok (.invokestatic idx, 3)) (hbc : mc' ≤ bc) (hbs : ms' ≤ bs) :
    KJ (Rep D B S) A nL mc ms (vx_MQ below (QX D B S A (.inr k) σ') (XX D B S A (.inr k) σ') args s mc ms A) p l e R s m args below meth c bc bs pc L st0 σ := by
  intro H locs ls ce sl h1 h2 h3 h4 h5
  subst hst
  exact kx_thr noQ hT hF.2.2.2.2.2.2.2.2.1 hA h2 h4 h5 hbc hbs (xrunS hF hm mv hn hR hW hd h1 h2 h3 h4 h5 hbc hbs)
end KTHROW
