abbrev LL : Type := St × St × Int64
/-- the law's world: the class at B, the reference behind it, the answer's cell behind that -/
def RepL (D : DD) (B : Nat) (x : LL) (H : Heap) : Prop := Rep D B shpC x.1 H ∧ Rep D (B + 121) shpR x.2.1 H ∧ H[B + 164]? = some (arrV (D.2 5) 1 (fun _ => .long x.2.2))
theorem shpR_len : shpR.length = 43 := by decide +kernel
theorem rep_kept {D : DD} {B : Nat} {S : List Sh} {σ : St} {H H1 : Heap} (h : Rep D B S σ H) (hk : ∀ q : Nat, B ≤ q → q < B + S.length → q < H.size → H1[q]? = H[q]?) : Rep D B S σ H1 := fun a sh hs => cell_cg (h a sh hs) (hk _ (Nat.le_add_right _ _) (Nat.add_lt_add_left (List.getElem?_eq_some_iff.mp hs).1 _) (cell_lt (h a sh hs))) fun _ => ⟨rfl, rfl⟩
def mh_ok (own : String) (idx : Nat) (y : MethodName) (b : ByteArray) (nL : Nat) (hh : List (Nat × Nat × Nat × Nat)) (n : Nat) : Prop :=
  (∀ w ∈ ([.methodLink own idx y, .static y, .initialized y.cls, .codeWith y b nL (some .int) hh] : List Cond), w ∈ GT) ∧ y.cls ≠ "java/lang/invoke/MethodHandle" ∧ y.cls ≠ "java/lang/invoke/VarHandle" ∧ (parseMethodDescriptor y.desc).map (fun d => d.parameters.length) = some n
section KLAW
variable {p : Program} {l : Launch} {e : Env} {R : Room} {s : State} {m : MethodId} {args : Array Value} {below : List Frame} {meth : Method} {c : Code} {Q : State → Prop}
variable {A : Nat → Prop} {D : DD} {B nL mc ms bc bs pc : Nat} {cc : ByteArray} {own : String} {L : List (Option Value)} {st : List Value} {σC σR : St} {v : Int64}
theorem ph_blind {base Bo : Nat} {as : List Value} {x : LX} : FrameBlind (va_Pc as (fun U => RepH D B Bo x U.heap ∧ Kn D base U ∧ KNc U)) := fun a U g mk h => ⟨h.1, h.2.1, h.2.2.1.calling g mk a, KNc.moved (u := U) (U := U.calling g mk a) (Vm.Alike.refl U.vm) h.2.2.2⟩
/-- a helper is called -/
theorem kl_H (hF : KF D B cc own A nL mc ms p l e R s m args below meth c) (hNc : KNc s) (hA : ∀ q, B ≤ q → A q) {idx n nL' fr lo mc' ms' : Nat} (bc' bs' : Nat) {hh : List (Nat × Nat × Nat × Nat)} {y : MethodName} {b : ByteArray} {as : List Value} {r : Int32} {x' : LX} {st0 : List Value}
    (hm : MetH l D B (B + 164) B y b nL' hh fr lo mc' ms' as (σC, v) r x') (mv : mh_ok own idx y b nL' hh n) (hn : as.length = n) (hst : st0 = as.reverse ++ st) (hR : fr + 1 ≤ R.frames ∧ 8 + (nL' + 11) + lo ≤ R.locals) (hW : (st.map fun v => v.category).sum ≤ 8) (hd : decode cc pc = .ok (.invokestatic idx, 3)) (hbc : bc' + mc' ≤ bc) (hbs : bs' + ms' ≤ bs)
    (kk : KJ (RepL D B) A nL mc ms Q p l e R s m args below meth c bc' bs' (pc + 3) L (.int r :: st) (x'.1, σR, x'.2)) : KJ (RepL D B) A nL mc ms Q p l e R s m args below meth c bc bs pc L st0 (σC, σR, v) := by
  intro H locs ls ce sl ⟨h1, hR9, ho⟩ h2 h3 h4 h5
  subst hst
  obtain ⟨hx, hb, hml, hown, hts, hKn, hRc, hRs, -⟩ := id hF
  obtain ⟨hw, hd4⟩ := mv
  have hcw := vx_cwSW (R := R) (own := own) (index := idx) (hh := hh) (rm := { frames := fr, cells := mc', slots := ms', locals := lo }) (mc := mc') (ms := ms') n hts (gt_gi hts (ws := va_wsS own idx y (Cond.codeWith y b nL' (some .int) hh :: GT)) (fun w h => by
    rcases List.mem_append.mp h with h | h
    · exact hw w (List.mem_append_left [_] h)
    · rcases List.mem_cons.mp h with h | h
      · exact hw w (by rw [h]; exact List.mem_append_right [_, _, _] List.mem_cons_self)
      · exact h)) rfl rfl rfl hd4 hR
  intro T9 hT X
  have h1' : RepH D B (B + 164) (σC, v) H := ⟨h1, ho⟩
  rcases vx_runSX (As := as) (rest := st) (H := H) (locs := locs) (cells := ce) (slots := sl) (g := F0 m pc ls (as.reverse ++ st)) ⟨hx, hb, hml, hown, hts⟩ hm hcw ⟨ph_blind, fun U hU hW => ⟨rfl, by rw [hU]; exact h1', kn_at hF h2 hU hW, hNc.moved hW.alike⟩⟩ rfl hn h3.1 rfl (lv_room hW) hd ⟨by rw [hRc]; omega, by rw [hRs]; omega⟩ T9 hT X with ⟨v9, st₀, t, T', Lc, h0, X', hL, e1, e2, ⟨hv, hp, hz, hk⟩, stp⟩ | ⟨q, st₀, t, T', Lc, E, ce9, h0, X', hL, e1, e2, hxc, -⟩
  · cases hv
    rw [h0] at hz hk
    have hfree : ∀ q, AH B (B + 164) q → B ≤ q := fun q hq => by
      rcases hq with h | h
      · exact h.1
      · omega
    obtain ⟨t2, a1, b1⟩ := kk T'.heap (locs ++ Lc) ls (ce + mc') (sl + ms') ⟨by rw [e1]; exact hp.1, by rw [e1]; exact rep_kept hR9 (fun q g1 g2 g3 => hk q g3 (fun hq => by
      rcases hq with h | h
      · have := h.2; rw [shpC_len] at this; omega
      · rw [shpR_len] at g2; omega)), by rw [e1]; exact hp.2⟩ ⟨Nat.le_trans h2.1 (by rw [e1]; exact hz), fun q h1 hq => by rw [e1, hk q (Nat.lt_of_lt_of_le h1 h2.1) (fun z => hq (hA q (hfree q z)))]; exact h2.2.1 q h1 hq, fun q hq => by
        rcases List.mem_append.mp hq with h | h
        · exact h2.2.2 q h
        · exact hA _ (hfree _ (hL q h))⟩ h3 (by omega) (by omega) T' rfl X'
    exact ⟨t2, stp t2 a1, b1⟩
  · exact hxc.elim
theorem kl_run {S : List Sh} {σ : St} {B' : Nat} (hF : KF D B cc own A nL mc ms p l e R s m args below meth c) {H : Heap} {locs : List Loc} {ls : Array Slot} {ce sl : Nat} {a ci idx n nL' fr lo : Nat} {cs : List Nat} {C : String} {T : u_T} {N : Nat} {y : MethodName} {b : ByteArray} {ret : Option FieldType} {as : List Value} {r : Option Value} {σ' : St}
    (hm : MetR l D B' S B y b nL' ret fr lo (.ref (B' + a) :: as) σ r σ') (mv : mv_ok own idx C y b nL' ret n) (hs : S[a]? = some (.inl (ci, cs))) (hci : vwCl[ci]? = some (C, T, N)) (hn : as.length = n) (hR : fr + 1 ≤ R.frames ∧ 8 + (nL' + 11) + lo ≤ R.locals) (hW : (st.map fun v => v.category).sum ≤ 8) (hd : decode cc pc = .ok (.invokevirtual idx, 3))
    (h1 : Rep D B' S σ H) (h2 : va_S A s.heap H locs) (h3 : lvok ls nL L) (h4 : ce + bc ≤ mc) (h5 : sl + bs ≤ ms) :
    va_Run p l e R s m args below meth c H locs ce sl 0 0 (F0 m pc ls (as.reverse ++ .ref (B' + a) :: st)) st (fun st oc t => oc = .returned r ∧ Rep D B' S σ' t.heap ∧ va_F (RA B' S) st t) (RA B' S) := by
  obtain ⟨hx, hb, hml, hown, hts, hKn, hRc, hRs, -⟩ := id hF
  obtain ⟨hw, hd4⟩ := mv
  obtain ⟨r9, hr9, cell, q1, q2, q3, q4⟩ := h1 a _ hs
  cases hr9.symm.trans hci
  have hcw : CallW R s args own C idx y b nL' ret (Cond.code y b nL' ret :: GT) { frames := fr, cells := 0, slots := 0, locals := lo } 0 0 n := ⟨callB_of n hts (gt_gi hts (ws := Cond.code y b nL' ret :: GT) (fun w h => by
    rcases List.mem_cons.mp h with h | h
    · exact hw w (by rw [h]; exact List.mem_of_getElem? (i := 4) rfl)
    · exact h)) rfl rfl rfl (hts _ (hw _ (List.mem_of_getElem? (i := 3) rfl))) (hts _ (hw _ (List.mem_of_getElem? (i := 0) rfl))) hd4 hR, hts _ (hw _ (List.mem_of_getElem? (i := 1) rfl)), hts _ (hw _ (List.mem_of_getElem? (i := 2) rfl))⟩
  exact va_runV (As := as) (rest := st) ⟨hx, hb, hml, hown, hts⟩ hm hcw ⟨pc_blind, ⟨cell, q1, by rw [q3]; rfl, by rw [q2]; exact (hKn.1 ci _ hci).2.1⟩, fun U hU hW => ⟨rfl, by rw [hU]; exact h1, kn_at hF h2 hU hW⟩⟩ rfl hn h3.1 rfl (lv_room hW) hd ⟨by rw [hRc]; omega, by rw [hRs]; omega⟩
/-- a method of the reference is called -/
theorem kl_M (hF : KF D B cc own A nL mc ms p l e R s m args below meth c) (hA : ∀ q, B ≤ q → A q) {a ci idx n nL' fr lo : Nat} {cs : List Nat} {C : String} {T : u_T} {N : Nat} {y : MethodName} {b : ByteArray} {ret : Option FieldType} {as : List Value} {r : Option Value} {σ' : St} {st0 : List Value}
    (hm : MetR l D (B + 121) shpR B y b nL' ret fr lo (.ref (B + 121 + a) :: as) σR r σ') (mv : mv_ok own idx C y b nL' ret n) (hs : shpR[a]? = some (.inl (ci, cs))) (hci : vwCl[ci]? = some (C, T, N)) (hn : as.length = n) (hst : st0 = as.reverse ++ .ref (B + 121 + a) :: st) (hR : fr + 1 ≤ R.frames ∧ 8 + (nL' + 11) + lo ≤ R.locals) (hW : (st.map fun v => v.category).sum ≤ 8) (hd : decode cc pc = .ok (.invokevirtual idx, 3))
    (kk : KJ (RepL D B) A nL mc ms Q p l e R s m args below meth c bc bs (pc + 3) L (r.toList ++ st) (σC, σ', v)) : KJ (RepL D B) A nL mc ms Q p l e R s m args below meth c bc bs pc L st0 (σC, σR, v) := by
  intro H locs ls ce sl ⟨h1, hR9, ho⟩ h2 h3 h4 h5
  subst hst
  intro T9 hT X
  obtain ⟨v9, st₀, t, T', Lc, h0, X', hL, e1, e2, ⟨hv, hp, hz, hk⟩, stp⟩ := kl_run hF hm mv hs hci hn hR hW hd hR9 h2 h3 h4 h5 T9 hT X
  cases hv
  rw [h0] at hz hk
  have hge : ∀ q, RA (B + 121) shpR q → A q := fun q hq => hA q (Nat.le_trans (Nat.le_add_right _ _) hq.1)
  obtain ⟨t2, a1, b1⟩ := kk T'.heap (locs ++ Lc) ls (ce + 0) (sl + 0) ⟨by rw [e1]; exact rep_kept h1 (fun q g1 g2 g3 => hk q g3 (fun hq => by rw [shpC_len] at g2; have := hq.1; omega)), by rw [e1]; exact hp, by rw [e1, hk _ (Array.getElem?_eq_some_iff.mp ho).1 (fun hq => by have := hq.2; rw [shpR_len] at this; omega)]; exact ho⟩ ⟨Nat.le_trans h2.1 (by rw [e1]; exact hz), fun q h1 hq => by rw [e1, hk q (Nat.lt_of_lt_of_le h1 h2.1) (fun z => hq (hge q z))]; exact h2.2.1 q h1 hq, fun q hq => by
      rcases List.mem_append.mp hq with h | h
      · exact h2.2.2 q h
      · exact hge _ (hL q h)⟩ h3 (by omega) (by omega) T' rfl X'
  exact ⟨t2, stp t2 a1, b1⟩
/-- a method of the class that doesn't throw is called -/
theorem kl_C (hF : KF D B cc own A nL mc ms p l e R s m args below meth c) (hA : ∀ q, B ≤ q → A q) {a ci idx n nL' fr lo : Nat} {cs : List Nat} {C : String} {T : u_T} {N : Nat} {y : MethodName} {b : ByteArray} {ret : Option FieldType} {as : List Value} {r : Option Value} {σ' : St} {st0 : List Value}
    (hm : MetR l D B shpC B y b nL' ret fr lo (.ref (B + a) :: as) σC r σ') (mv : mv_ok own idx C y b nL' ret n) (hs : shpC[a]? = some (.inl (ci, cs))) (hci : vwCl[ci]? = some (C, T, N)) (hn : as.length = n) (hst : st0 = as.reverse ++ .ref (B + a) :: st) (hR : fr + 1 ≤ R.frames ∧ 8 + (nL' + 11) + lo ≤ R.locals) (hW : (st.map fun v => v.category).sum ≤ 8) (hd : decode cc pc = .ok (.invokevirtual idx, 3))
    (kk : KJ (RepL D B) A nL mc ms Q p l e R s m args below meth c bc bs (pc + 3) L (r.toList ++ st) (σ', σR, v)) : KJ (RepL D B) A nL mc ms Q p l e R s m args below meth c bc bs pc L st0 (σC, σR, v) := by
  intro H locs ls ce sl ⟨h1, hR9, ho⟩ h2 h3 h4 h5
  subst hst
  intro T9 hT X
  obtain ⟨v9, st₀, t, T', Lc, h0, X', hL, e1, e2, ⟨hv, hp, hz, hk⟩, stp⟩ := kl_run hF hm mv hs hci hn hR hW hd h1 h2 h3 h4 h5 T9 hT X
  cases hv
  rw [h0] at hz hk
  have hge : ∀ q, RA B shpC q → A q := fun q hq => hA q hq.1
  obtain ⟨t2, a1, b1⟩ := kk T'.heap (locs ++ Lc) ls (ce + 0) (sl + 0) ⟨by rw [e1]; exact hp, by rw [e1]; exact rep_kept hR9 (fun q g1 g2 g3 => hk q g3 (fun hq => by have := hq.2; rw [shpC_len] at this; omega)), by rw [e1, hk _ (Array.getElem?_eq_some_iff.mp ho).1 (fun hq => by have := hq.2; rw [shpC_len] at this; omega)]; exact ho⟩ ⟨Nat.le_trans h2.1 (by rw [e1]; exact hz), fun q h1 hq => by rw [e1, hk q (Nat.lt_of_lt_of_le h1 h2.1) (fun z => hq (hge q z))]; exact h2.2.1 q h1 hq, fun q hq => by
      rcases List.mem_append.mp hq with h | h
      · exact h2.2.2 q h
      · exact hge _ (hL q h)⟩ h3 (by omega) (by omega) T' rfl X'
  exact ⟨t2, stp t2 a1, b1⟩
/-- what the law's script is -/
def SC (b Ls : Nat) (xs : Nat → Int32) (A : Nat → Prop) (s : State) : Prop := va_X b Ls xs s s.heap ∧ b < s.heap.size ∧ ¬ A b
theorem kl_sld (hF : KF D B cc own A nL mc ms p l e R s m args below meth c) {b Ls : Nat} {xs : Nat → Int32} (hS : SC b Ls xs A s) {i x : Int32} (hin : vp_in i Ls) (hx : xs i.toNatClampNeg = x) (hd : decode cc pc = .ok (.iaload, 1)) {X : Type} {Rp : X → Heap → Prop} {σ : X}
    (kk : KJ Rp A nL mc ms Q p l e R s m args below meth c bc bs (pc + 1) L (.int x :: st) σ) : KJ Rp A nL mc ms Q p l e R s m args below meth c bc bs pc L (.int i :: .ref b :: st) σ := by
  intro H locs ls ce sl h1 h2 h3 h4 h5
  exact va_sld hF.1 hF.2.1 hS.1 hS.2.1 hS.2.2 h2 hin hd (by rw [hx]; exact kk H locs ls ce sl h1 h2 h3 h4 h5)
theorem kl_slen (hF : KF D B cc own A nL mc ms p l e R s m args below meth c) {b Ls : Nat} {xs : Nat → Int32} (hS : SC b Ls xs A s) (hd : decode cc pc = .ok (.arraylength, 1)) {X : Type} {Rp : X → Heap → Prop} {σ : X}
    (kk : KJ Rp A nL mc ms Q p l e R s m args below meth c bc bs (pc + 1) L (.int (Int32.ofNat Ls) :: st) σ) : KJ Rp A nL mc ms Q p l e R s m args below meth c bc bs pc L (.ref b :: st) σ := by
  intro H locs ls ce sl h1 h2 h3 h4 h5
  exact va_slen hF.1 hF.2.1 hS.1 hS.2.1 hS.2.2 h2 hd (kk H locs ls ce sl h1 h2 h3 h4 h5)
theorem kl_lald (hF : KF D B cc own A nL mc ms p l e R s m args below meth c) (hd : decode cc pc = .ok (.laload, 1))
    (kk : KJ (RepL D B) A nL mc ms Q p l e R s m args below meth c bc bs (pc + 1) L (.long v :: st) (σC, σR, v)) : KJ (RepL D B) A nL mc ms Q p l e R s m args below meth c bc bs pc L (.int 0 :: .ref (B + 164) :: st) (σC, σR, v) := by
  intro H locs ls ce sl h1 h2 h3 h4 h5
  have ho : H[B + 164]? = some (arrV (D.2 5) 1 (fun _ => .long v)) := h1.2.2
  exact W.lald (v := .long v) hF.1 hF.2.1 ho ((hF.2.2.2.2.2.1.2.1 5).1 1 _) (fun q => by cases q) (by show ¬ ((0 : Int32) < 0 ∨ (arrV _ _ _).slots.size ≤ _); rw [arrV_size]; decide) (by show (arrV _ _ _).slots[_]? = _; rw [arrV_read _ _ (by decide)]) rfl rfl hd (kk H locs ls ce sl h1 h2 h3 h4 h5)
end KLAW
