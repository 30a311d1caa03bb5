abbrev LX : Type := St × Int64
/-- the class's region, and the cell where an answer lies -/
def RepH (D : DD) (B Bo : Nat) (x : LX) (H : Heap) : Prop := Rep D B shpC x.1 H ∧ H[Bo]? = some (arrV (D.2 5) 1 (fun _ => .long x.2))
def AH (B Bo : Nat) : Nat → Prop := fun q => RA B shpC q ∨ q = Bo
def KNc (U : State) : Prop := ∀ a b : Nat, a < 3 → b < 3 → a ≠ b → va_Nc (xn a) (xn b) U
theorem KNc.moved {u U : State} (hvm : u.vm.Alike U.vm) (h : KNc u) : KNc U := fun a b h1 h2 h3 => va_Nc.moved hvm (h a b h1 h2 h3)
theorem shpC_len : shpC.length = 121 := by decide +kernel
theorem out_kept {B Bo : Nat} {H H1 : Heap} {x : Cell} (hBo : B + 121 ≤ Bo) (h : H[Bo]? = some x) (hk : ∀ q : Nat, q < H.size → ¬ RA B shpC q → H1[q]? = H[q]?) : H1[Bo]? = some x := by
  rw [hk Bo (Array.getElem?_eq_some_iff.mp h).1 (fun q => by have := q.2; rw [shpC_len] at this; omega)]; exact h
def MetH (l : Launch) (D : DD) (B Bo base : Nat) (y : MethodName) (b : ByteArray) (nL : Nat) (hh : List (Nat × Nat × Nat × Nat)) (fr lo mc ms : Nat) (as : List Value) (x : LX) (r : Int32) (x' : LX) : Prop :=
  vx_Met l y (Cond.codeWith y b nL (some .int) hh :: GT) { frames := fr, cells := mc, slots := ms, locals := lo } (va_Pc as (fun U => RepH D B Bo x U.heap ∧ Kn D base U ∧ KNc U)) (fun _ st oc t => oc = .returned (some (.int r)) ∧ RepH D B Bo x' t.heap ∧ va_F (AH B Bo) st t) (fun _ _ _ => False) mc ms (AH B Bo)
section KHELP
variable {p : Program} {l : Launch} {e : Env} {R : Room} {s : State} {m : MethodId} {args : Array Value} {below : List Frame} {meth : Method} {c : Code} {Q : State → Prop}
variable {A : Nat → Prop} {D : DD} {base B Bo nL mc ms bc bs pc : Nat} {cc : ByteArray} {own : String} {L : List (Option Value)} {st : List Value} {σ : St} {v : Int64} {hh : List (Nat × Nat × Nat × Nat)}
theorem MetH.of {y : MethodName} {b : ByteArray} {fr lo : Nat} {as : List Value} {x x' : LX} {r : Int32} (hy : plainName y.cls = true) (hcat : ∀ v ∈ as, v.category = 1) (hlen : as.length ≤ nL) (hbase : base ≤ B) (hBo : B + 121 ≤ Bo)
    (body : ∀ p e s m args below meth c, KF D base b y.cls (AH B Bo) nL mc ms p l e { frames := fr, cells := mc, slots := ms, locals := lo } s m args below meth c → meth.sig.returnType = some .int → c.exceptionTable.toList = tableOf hh → KNc s →
      KJ (RepH D B Bo) (AH B Bo) nL mc ms (vx_MQ below (fun _ st oc t => oc = .returned (some (.int r)) ∧ RepH D B Bo x' t.heap ∧ va_F (AH B Bo) st t) (fun _ _ _ => False) args s mc ms (AH B Bo)) p l e { frames := fr, cells := mc, slots := ms, locals := lo } s m args below meth c mc ms 0 (as.map some ++ List.replicate (nL - as.length) none) [] x) : MetH l D B Bo base y b nL hh fr lo mc ms as x r x' := by
  refine vx_ofWH (cc := b) (maxL := nL) (ret := some .int) (hh := hh) hy rfl ?_
  intro p e s m args below meth c s₁ B₁ hml hv
  obtain ⟨rfl, hRep, hKn, hNc⟩ := hv
  have hts := atoms_spec (ws := Cond.codeWith y b nL (some .int) hh :: GT) B₁.pre
  have hF : KF D base b y.cls (AH B Bo) nL mc ms p l e { frames := fr, cells := mc, slots := ms, locals := lo } s m as.toArray below meth c :=
    ⟨B₁.exec, B₁.bytes, hml, findClass_of_methodNamed B₁.named, fun w h => hts w (List.mem_cons_of_mem _ h), hKn, rfl, rfl, B₁.notSynchronized, fun q h => by
      rcases h with h | h
      · exact Nat.le_trans hbase h.1
      · omega⟩
  have h := body p e s m as.toArray below meth c hF B₁.returns (vx_table (x := y) B₁ (hts _ List.mem_cons_self)) hNc s.heap [] _ 0 0 hRep va_S.rf (lvok.entry as nL hcat hlen) (by omega) (by omega)
  rw [entry_eq m as hcat nL]
  exact h
theorem kh_ret (hF : KF D base cc own (AH B Bo) nL mc ms p l e R s m args below meth c) {x : Int32} {xx : LX} (hr : meth.sig.returnType = some .int) (hd : decode cc pc = .ok (.ireturn, 1)) :
    KJ (RepH D B Bo) (AH B Bo) nL mc ms (vx_MQ below (fun _ st oc t => oc = .returned (some (.int x)) ∧ RepH D B Bo xx t.heap ∧ va_F (AH B Bo) st t) (fun _ _ _ => False) args s mc ms (AH B Bo)) p l e R s m args below meth c bc bs pc L [.int x] xx := by
  intro H locs ls ce sl h1 h2 h3 h4 h5
  exact vx_ret (W.widen (k := mc) (n := ms) (by omega) (by omega) (W.zret hF.1 hF.2.1 hr rfl (fun t ht hW => ⟨rfl, by rw [ht]; exact h1, h2.F ht⟩) h2.2.2 hd hF.2.2.2.2.2.2.2.2.1))
theorem kh_last (hF : KF D base cc own (AH B Bo) nL mc ms p l e R s m args below meth c) (hBo : B + 121 ≤ Bo) {w : Int64} (hd : decode cc pc = .ok (.lastore, 1))
    (kk : KJ (RepH D B Bo) (AH B Bo) nL mc ms Q p l e R s m args below meth c bc bs (pc + 1) L st (σ, w)) : KJ (RepH D B Bo) (AH B Bo) nL mc ms Q p l e R s m args below meth c bc bs pc L (.long w :: .int 0 :: .ref Bo :: st) (σ, v) := by
  intro H locs ls ce sl ⟨h1, ho⟩ h2 h3 h4 h5
  replace ho : H[Bo]? = some (arrV (D.2 5) 1 (fun _ => .long v)) := ho
  refine W.last hF.1 hF.2.1 ho ((hF.2.2.2.2.2.1.2.1 5).1 1 _) (fun q => by cases q) (by show ¬ ((0 : Int32) < 0 ∨ (arrV _ _ _).slots.size ≤ _); rw [arrV_size]; decide) rfl rfl hd fun H1 e z oq => ?_
  refine kk H1 _ ls ce sl ⟨fun a sh hs => cell_cg (h1 a sh hs) (oq (B + a) (fun e9 => by have h9 := (List.getElem?_eq_some_iff.mp hs).1; rw [shpC_len] at h9; have e8 : (B + a : Nat) = Bo := e9; omega)) fun _ => ⟨rfl, rfl⟩, ?_⟩ (h2.put z oq (Or.inr rfl)) h3 h4 h5
  rw [e, arrV_store]
  refine congrArg some (arrV_ext fun j hj => ?_)
  have : j = 0 := by omega
  subst this
  rfl
/-- a call of the class that returned -/
theorem kh_V_r (hF : KF D base cc own (AH B Bo) nL mc ms p l e R s m args below meth c) (hBo : B + 121 ≤ Bo) {a ci idx n nL' fr lo mc' ms' : Nat} (bc' bs' : Nat) {cs : List Nat} {C : String} {T : u_T} {N : Nat} {y : MethodName} {b : ByteArray} {ret : Option FieldType} {as : List Value} {r : Option Value} {σ' : St} {st0 : List Value}
    (hm : MetX l D B shpC base y b nL' ret fr lo mc' ms' (.ref (B + a) :: as) σ (.inl r) σ') (mv : mv_ok own idx C y b nL' ret n) (hs : shpC[a]? = some (.inl (ci, cs))) (hci : vwCl[ci]? = some (C, T, N)) (hn : as.length = n) (hst : st0 = as.reverse ++ .ref (B + a) :: st) (hR : fr + 1 ≤ R.frames ∧ 8 + (nL' + 11) + lo ≤ R.locals) (hW : (st.map fun v => v.category).sum ≤ 8) (hd : decode cc pc = .ok (.invokevirtual idx, 3)) (hbc : bc' + mc' ≤ bc) (hbs : bs' + ms' ≤ bs)
    (kk : KJ (RepH D B Bo) (AH B Bo) nL mc ms Q p l e R s m args below meth c bc' bs' (pc + 3) L (r.toList ++ st) (σ', v)) : KJ (RepH D B Bo) (AH B Bo) nL mc ms Q p l e R s m args below meth c bc bs pc L st0 (σ, v) := by
  intro H locs ls ce sl ⟨h1, ho⟩ h2 h3 h4 h5
  subst hst
  intro T9 hT X
  rcases xrunV hF hm mv hs hci hn hR hW hd h1 h2 h3 h4 h5 (by omega) (by omega) T9 hT X with ⟨v9, st₀, t, T', Lc, h0, X', hL, e1, e2, ⟨⟨r', hr', hv⟩, hp, hz, hk⟩, stp⟩ | ⟨q, st₀, t, T', Lc, E, ce9, h0, X', hL, e1, e2, hxc, -⟩
  · cases hr'; cases hv
    rw [h0] at hz hk
    obtain ⟨t2, a1, b1⟩ := kk T'.heap (locs ++ Lc) ls (ce + mc') (sl + ms') ⟨by rw [e1]; exact hp, by rw [e1]; exact out_kept hBo ho hk⟩ ⟨Nat.le_trans h2.1 (by rw [e1]; exact hz), fun q h1 hq => by rw [e1, hk q (Nat.lt_of_lt_of_le h1 h2.1) (fun z => hq (Or.inl z))]; exact h2.2.1 q h1 hq, fun q hq => by
        rcases List.mem_append.mp hq with h | h
        · exact h2.2.2 q h
        · exact Or.inl (hL q h)⟩ h3 (by omega) (by omega) T' rfl X'
    exact ⟨t2, stp t2 a1, b1⟩
  · exact absurd hxc (noX _ _ _)
/-- a call of the class that threw: caught by the row x -/
theorem kh_V_x (hF : KF D base cc own (AH B Bo) nL mc ms p l e R s m args below meth c) (hNc : KNc s) (hBo : B + 121 ≤ Bo) (hT : c.exceptionTable.toList = tableOf hh) (hp' : List (Nat × Nat × Nat × Nat)) (x : Nat × Nat × Nat × Nat) (hs' : List (Nat × Nat × Nat × Nat)) (hsp : hh = hp' ++ x :: hs') {k : Nat} (hk3 : k < 3)
    (hpass : ∀ z ∈ hp', z.2.2.2 ≠ 0 ∧ ∃ k' : Nat, k' < 3 ∧ k ≠ k' ∧ Cond.classLink own z.2.2.2 (xn k') ∈ GT) (hcv : x.1 ≤ pc ∧ pc < x.2.1) (hx0 : x.2.2.2 ≠ 0) (hlk : Cond.classLink own x.2.2.2 (xn k) ∈ GT) (hcast : Cond.castable (xn k) (xn k) ∈ BW)
    {a ci idx n nL' fr lo mc' ms' : Nat} (bc' bs' : Nat) {cs : List Nat} {C : String} {T : u_T} {N : Nat} {y : MethodName} {b : ByteArray} {ret : Option FieldType} {as : List Value} {σ' : St} {st0 : List Value}
    (hm : MetX l D B shpC base y b nL' ret fr lo mc' ms' (.ref (B + a) :: as) σ (.inr k) σ') (mv : mv_ok own idx C y b nL' ret n) (hs : shpC[a]? = some (.inl (ci, cs))) (hci : vwCl[ci]? = some (C, T, N)) (hn : as.length = n) (hst : st0 = as.reverse ++ .ref (B + a) :: st) (hR : fr + 1 ≤ R.frames ∧ 8 + (nL' + 11) + lo ≤ R.locals) (hW : (st.map fun v => v.category).sum ≤ 8) (hd : decode cc pc = .ok (.invokevirtual idx, 3)) (hbc : bc' + mc' ≤ bc) (hbs : bs' + ms' ≤ bs)
    (kk : ∀ q : Nat, KJ (RepH D B Bo) (AH B Bo) nL mc ms Q p l e R s m args below meth c bc' bs' x.2.2.1 L [.ref q] (σ', v)) : KJ (RepH D B Bo) (AH B Bo) nL mc ms Q p l e R s m args below meth c bc bs pc L st0 (σ, v) := by
  intro H locs ls ce sl ⟨h1, ho⟩ h2 h3 h4 h5
  subst hst
  intro T9 hT9 X
  rcases xrunV hF hm mv hs hci hn hR hW hd h1 h2 h3 h4 h5 (by omega) (by omega) T9 hT9 X with ⟨v9, st₀, t, T', Lc, h0, X', hL, e1, e2, hq, -⟩ | ⟨q, st₀, t, T', Lc, E, ce9, h0, X', hL, e1, e2, ⟨⟨n', hn', hE⟩, hp, hz, hk⟩, hce, hcv9, hcl, stp⟩
  · exact absurd hq (noQ _ _ _)
  · cases hn'
    rw [h0] at hz hk
    subst hE
    obtain ⟨hx9, hb9, hml9, hown, hts, hKn, -⟩ := id hF
    have hcat := vx_catch (p := p) (l := l) (e := e) (R := R) (s := s) (m := m) (args := args) (below := below) (meth := meth) (c := c) (H := T'.heap) (locs := locs ++ Lc) (cells := ce + mc') (slots := sl + ms') (Q := Q) (pc := pc) (ls := ls) (rest := st) (own := own) (name := xn k) (E := xn k) (ce := ce9) (q := q) hown (tableOf hp') ⟨x.1, x.2.1, x.2.2.1, x.2.2.2⟩ (tableOf hs') (by rw [hT, hsp]; simp [tableOf])
      (fun z hz => by
        obtain ⟨w, hw, rfl⟩ := List.mem_map.mp hz
        obtain ⟨g1, k', g2, g3, g4⟩ := hpass w hw
        exact Or.inr ⟨g1, xn k', hts _ g4, hNc k k' hk3 g2 g3⟩) (by unfold covers; simp [hcv.1, hcv.2]) hx0 (hts _ hlk) (va_Nw.use (bw_tab (List.mem_filter.mp hcast).2) (hKn.2.2.2.2.1 _ hcast)) (by rw [e1]; exact hce) hcv9 hcl
      (kk q T'.heap (locs ++ Lc) ls (ce + mc') (sl + ms') ⟨by rw [e1]; exact hp, by rw [e1]; exact out_kept hBo ho hk⟩ ⟨Nat.le_trans h2.1 (by rw [e1]; exact hz), fun q h1 hq => by rw [e1, hk q (Nat.lt_of_lt_of_le h1 h2.1) (fun z => hq (Or.inl z))]; exact h2.2.1 q h1 hq, fun q hq => by
        rcases List.mem_append.mp hq with h | h
        · exact h2.2.2 q h
        · exact Or.inl (hL q h)⟩ h3 (by omega) (by omega))
    obtain ⟨t2, a1, b1⟩ := hcat T' rfl X'
    exact ⟨t2, stp.trans a1, b1⟩
end KHELP
