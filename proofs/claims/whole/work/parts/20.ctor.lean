theorem vr_outer (c : ClassId) (N h0 : Nat) : ∀ i : Nat, Jvm.Free.Multi.outerC c N h0 i = arrV c N (fun j => va_rf (if j < i then some (h0 + 1 + j) else none))
  | 0 => by
    show ({ cls := c, slots := Array.replicate N .null, vm := .none } : Cell) = _
    rw [arrV_new]
    refine congrArg (arrV c N) (funext fun j => ?_)
    simp [va_rf]
  | i + 1 => by
    show (Jvm.Free.Multi.outerC c N h0 i).setSlot i (.ref (h0 + 1 + i)) = _
    rw [vr_outer c N h0 i, arrV_store]
    refine congrArg (arrV c N) (funext fun j => ?_)
    by_cases e : j = i
    · subst e
      simp [updV, va_rf]
    · by_cases h : j < i
      · simp [updV, e, h, Nat.lt_succ_of_lt h]
      · simp [updV, e, h, show ¬ j < i + 1 by omega]
theorem arrV_ext {cA : ClassId} {N : Nat} {f g : Nat → Value} (h : ∀ j, j < N → f j = g j) : arrV cA N f = arrV cA N g := by
  unfold arrV
  congr 1
  apply Array.ext
  · simp
  · intro i h1 h2
    simp only [Array.getElem_ofFn]
    exact h i (by simpa using h1)
abbrev SX : Type := List Sh × St
/-- while a constructor runs: the region ends where the heap ends -/
def RC (D : DD) (B : Nat) (x : SX) (H : Heap) : Prop := Rep D B x.1 x.2 H ∧ H.size = B + x.1.length
def zr (n : Nat) (σ : St) : Prop := ∀ a, n ≤ a → ∀ k, gi σ a k = 0 ∧ gl σ a k = 0
theorem zr_le {n n' : Nat} {σ : St} (h : zr n σ) (hn : n ≤ n') : zr n' σ := fun a ha k => h a (Nat.le_trans hn ha) k
theorem zr_ui {n n' b k : Nat} {v : Int32} {σ : St} (h : zr n σ) (hn : n ≤ n') (hb : b < n') : zr n' (ui σ b k v) := fun a ha j => ⟨by rw [gi_ui, if_neg (fun e => by omega)]; exact (h a (Nat.le_trans hn ha) j).1, (h a (Nat.le_trans hn ha) j).2⟩
theorem ui_0 {σ : St} {a k : Nat} (h : gi σ a k = 0) : ui σ a k 0 = σ := by
  refine Prod.ext ?_ rfl
  funext b j
  show (if b = a ∧ j = k then 0 else σ.1 b j) = σ.1 b j
  by_cases e : b = a ∧ j = k
  · rw [if_pos e, e.1, e.2]; exact h.symm
  · rw [if_neg e]
theorem ul_0 {σ : St} {a k : Nat} (h : gl σ a k = 0) : ul σ a k 0 = σ := by
  refine Prod.ext rfl ?_
  funext b j
  show (if b = a ∧ j = k then 0 else σ.2 b j) = σ.2 b j
  by_cases e : b = a ∧ j = k
  · rw [if_pos e, e.1, e.2]; exact h.symm
  · rw [if_neg e]
def dfl : Nat → Value
  | 0 => .int 0
  | 1 => .long 0
  | _ => .null
/-- words of new -/
def nw_ok (own : String) (idx ci : Nat) (cs : List Nat) : Prop := ∃ (C : String) (T : u_T) (N : Nat) (tys : Nat → FieldType), vwCl[ci]? = some (C, T, N) ∧ (∀ w ∈ u_ws C T N, w ∈ GT) ∧ (∀ j, j < N → parseFieldDescriptor (T j).2.2.1 = some (tys j)) ∧ Cond.classLink own idx C ∈ GT ∧ Cond.instantiable C N ∈ GT ∧ Cond.initialized C ∈ GT ∧ cs.length = N ∧ (∀ j, j < N → defaultValue (tys j) = dfl (cs.getD j 2)) ∧ ∀ j, cs.getD j 2 < 3
def ff_ok (own : String) (idx ci k : Nat) (ty : FieldType) : Prop := ∃ (C : String) (T : u_T) (N : Nat) (ref : String) (tys : Nat → FieldType), vwCl[ci]? = some (C, T, N) ∧ k < N ∧ (∀ w ∈ u_ws C T N, w ∈ GT) ∧ Cond.fieldLink own idx ref (T k).2.1 (T k).2.2.1 ∈ GT ∧ (ref = (T k).1 ∨ Cond.sameField ref (T k).1 (T k).2.1 (T k).2.2.1 ∈ GT) ∧
  (∀ j, j < N → parseFieldDescriptor (T j).2.2.1 = some (tys j)) ∧ (∀ a, a < N → ∀ b, b < N → a ≠ b → (T a).2.1 ≠ (T b).2.1) ∧ (T k).2.2.2 = true ∧ (T k).1 = own ∧ tys k = ty
theorem sv_z {B a k code : Nat} {σ : St} (h : gi σ a k = 0 ∧ gl σ a k = 0) (hc : code < 3) : sv B σ a k code = dfl code := by
  match code, hc with
  | 0, _ => show Value.int _ = _; rw [h.1]; rfl
  | 1, _ => show Value.long _ = _; rw [h.2]; rfl
  | 2, _ => rfl
theorem rep_push {D : DD} {B : Nat} {S : List Sh} {σ : St} {H H1 : Heap} {sh : Sh} (h : Rep D B S σ H) (hk : ∀ q : Nat, q < H.size → H1[q]? = H[q]?) (hn : cellOK D B σ S.length sh H1) : Rep D B (S ++ [sh]) σ H1 := by
  intro a sh' ha
  by_cases hl : a < S.length
  · rw [List.getElem?_append_left hl] at ha
    exact cell_cg (h a sh' ha) (hk _ (cell_lt (h a sh' ha))) fun _ => ⟨rfl, rfl⟩
  · rw [List.getElem?_append_right (by omega)] at ha
    have hz : a - S.length < 1 := (List.getElem?_eq_some_iff.mp ha).1
    have e : a = S.length := by omega
    subst e
    rw [Nat.sub_self] at ha
    cases ha
    exact hn
theorem rep_set {D : DD} {B : Nat} {S : List Sh} {σ : St} {H H1 : Heap} {a : Nat} {sh : Sh} (h : Rep D B S σ H) (hk : ∀ q : Nat, q ≠ B + a → H1[q]? = H[q]?) (hn : cellOK D B σ a sh H1) : Rep D B (S.set a sh) σ H1 := by
  intro b sh' hb
  by_cases e : a = b
  · subst e
    by_cases hl : a < S.length
    · rw [List.getElem?_set_self hl] at hb; cases hb; exact hn
    · rw [List.getElem?_eq_none (by rw [List.length_set]; omega)] at hb; cases hb
  · rw [List.getElem?_set_ne e] at hb
    exact cell_cg (h b sh' hb) (hk _ (by omega)) fun _ => ⟨rfl, rfl⟩
/-- what the constructors ask beside: the classes of arrays of references -/
def KO (U : State) : Prop := va_AO "WeftStore$Transaction" U ∧ va_AO "WeftStore$Pattern" U ∧ (Cond.arrayOver (.array .int)).before #[] U = true
theorem KO.moved {u U : State} (hvm : u.vm.Alike U.vm) (h : KO u) : KO U := ⟨h.1.moved hvm, h.2.1.moved hvm, over_moved hvm h.2.2⟩
section KCTOR
variable {p : Program} {l : Launch} {e : Env} {R : Room} {s : State} {m : MethodId} {args : Array Value} {below : List Frame} {meth : Method} {c : Code} {Q : State → Prop}
variable {A : Nat → Prop} {D : DD} {base B nL mc ms bc bs bc' bs' pc : Nat} {cc : ByteArray} {own : String} {L : List (Option Value)} {st : List Value} {S S' : List Sh} {σ : St}
theorem kc_new (hF : KF D base cc own A nL mc ms p l e R s m args below meth c) {idx ci : Nat} {cs : List Nat} (nw : nw_ok own idx ci cs) (hz : zr S.length σ) (hd : decode cc pc = .ok (.new idx, 3)) (hbc : bc' + 1 ≤ bc) (hbs : bs' + cs.length ≤ bs) (hS' : S ++ [.inl (ci, cs)] = S') {q : Nat} (hq : S.length = q)
    (kk : KJ (RC D B) A nL mc ms Q p l e R s m args below meth c bc' bs' (pc + 3) L (.ref (B + q) :: st) (S', σ)) : KJ (RC D B) A nL mc ms Q p l e R s m args below meth c bc bs pc L st (S, σ) := by
  intro H locs ls ce sl ⟨h1, hsz⟩ h2 h3 h4 h5
  replace h1 : Rep D B S σ H := h1
  replace hsz : H.size = B + S.length := hsz
  subst hS'; subst hq
  obtain ⟨hx, hb, hml, hown, hts, hKn, hRc, hRs, -⟩ := hF
  obtain ⟨C, T, N, tys, hc, hin, hty, hcl, hins, hini, hlen, hdf, hlt⟩ := nw
  have hK := hKn.1 ci _ hc
  refine W.newcK hx hb hown (hts _ hcl) (hts _ hins) (hts _ hini) rfl hd (by rw [hRc]; omega) (by rw [hRs]; omega) hK.2.1 rfl fun H1 kC hkC e1 z1 o1 => ?_
  rw [hsz]
  refine kk H1 _ ls (ce + 1) (sl + N) ⟨rep_push h1 o1 ⟨_, hc, ?_⟩, by rw [z1, hsz, List.length_append]; rfl⟩ ⟨Nat.le_trans h2.1 (by omega), fun q g1 g2 => (o1 q (Nat.lt_of_lt_of_le g1 h2.1)).trans (h2.2.1 q g1 g2), h2.2.2⟩ h3 (by omega) (by omega)
  rw [← hsz]
  exact (u_born tys hts hin hK hkC e1 hty).to fun j hj => (hdf j hj).trans (sv_z (hz _ (Nat.le_refl _) _) (hlt j)).symm
theorem arr_at {t : Nat} {cA : ClassId} {ty : FieldType} (hKn : Kn D base s) (ht : aty t = ty) (hno : ∀ C, ty ≠ .object C) (h : s.vm.findClass ("[" ++ ty.toString) = some cA) : cA = D.2 t := by
  have h2 := (hKn.2.1 t).2
  rw [ht] at h2
  cases ty with
  | object C => exact absurd rfl (hno C)
  | _ => exact Option.some.inj (h.symm.trans h2)
theorem kc_newa (hF : KF D base cc own A nL mc ms p l e R s m args below meth c) {atype : ArrayType} {t N : Nat} {n : Int32} (harr : Cond.arrayClass (newarray.typeOf atype) ∈ GT) (ht : aty t = newarray.typeOf atype) (hno : ∀ C, newarray.typeOf atype ≠ .object C) {code : Nat} (hdf : defaultValue (newarray.typeOf atype) = dfl code) (hcode : code < 3) (hz : zr S.length σ) (hd : decode cc pc = .ok (.newarray atype, 2)) (hn : ¬ n < 0) (hN : n.toNatClampNeg = N) (hby : N * componentBytes (newarray.typeOf atype) ≤ 536870912) (hbc : bc' + 1 ≤ bc) (hbs : bs' + N ≤ bs) (hS' : S ++ [.inr (t, N, fun _ => code)] = S') {q : Nat} (hq : S.length = q)
    (kk : KJ (RC D B) A nL mc ms Q p l e R s m args below meth c bc' bs' (pc + 2) L (.ref (B + q) :: st) (S', σ)) : KJ (RC D B) A nL mc ms Q p l e R s m args below meth c bc bs pc L (.int n :: st) (S, σ) := by
  intro H locs ls ce sl ⟨h1, hsz⟩ h2 h3 h4 h5
  replace h1 : Rep D B S σ H := h1
  replace hsz : H.size = B + S.length := hsz
  subst hS'; subst hq
  obtain ⟨hx, hb, hml, hown, hts, hKn, hRc, hRs, -⟩ := hF
  refine va_newaK hx hb (hts _ harr) rfl hd rfl hn hN hby (by rw [hRc]; omega) (by rw [hRs]; omega) rfl fun H1 cA e1 z1 o1 hAr hNm => ?_
  rw [hsz]
  have hcA := arr_at hKn ht hno hNm
  subst hcA
  refine kk H1 _ ls (ce + 1) (sl + N) ⟨rep_push h1 o1 ?_, by rw [z1, hsz, List.length_append]; rfl⟩ ⟨Nat.le_trans h2.1 (by omega), fun q g1 g2 => (o1 q (Nat.lt_of_lt_of_le g1 h2.1)).trans (h2.2.1 q g1 g2), h2.2.2⟩ h3 (by omega) (by omega)
  show H1[B + S.length]? = _
  rw [← hsz, e1]
  congr 2
  funext j
  exact hdf.trans (sv_z (hz _ (Nat.le_refl _) _) hcode).symm
theorem kc_anew (hF : KF D base cc own A nL mc ms p l e R s m args below meth c) {idx t N : Nat} {C : String} {n : Int32} (hcl : Cond.classLink own idx C ∈ GT) (hao : va_AO C s) (ht : aty t = .object C) (hd : decode cc pc = .ok (.anewarray idx, 3)) (hn : ¬ n < 0) (hN : n.toNatClampNeg = N) (hby : N * 4 ≤ 536870912) (hbc : bc' + 1 ≤ bc) (hbs : bs' + N ≤ bs) (hS' : S ++ [.inr (t, N, fun _ => 2)] = S') {q : Nat} (hq : S.length = q)
    (kk : KJ (RC D B) A nL mc ms Q p l e R s m args below meth c bc' bs' (pc + 3) L (.ref (B + q) :: st) (S', σ)) : KJ (RC D B) A nL mc ms Q p l e R s m args below meth c bc bs pc L (.int n :: st) (S, σ) := by
  intro H locs ls ce sl ⟨h1, hsz⟩ h2 h3 h4 h5
  replace h1 : Rep D B S σ H := h1
  replace hsz : H.size = B + S.length := hsz
  subst hS'; subst hN; subst hq
  obtain ⟨hx, hb, hml, hown, hts, hKn, hRc, hRs, -⟩ := hF
  refine W.anew hx hb hown (hts _ hcl) hao.use rfl hd rfl hn hby (by rw [hRc]; omega) (by rw [hRs]; omega) fun cA kA comp g1 g2 g3 g4 => ?_
  have hcA : cA = D.2 t := by
    have q := (hKn.2.1 t).2
    rw [ht] at q
    obtain ⟨kA9, comp9, q1, q2, q3, q4⟩ := q
    exact Option.some.inj (g1.symm.trans q4)
  subst hcA
  have o1 : ∀ q : Nat, q < H.size → (H.push { cls := D.2 t, slots := Array.replicate n.toNatClampNeg .null, vm := .none })[q]? = H[q]? := fun q hq => by rw [Array.getElem?_push, if_neg (Nat.ne_of_lt hq)]
  rw [hsz]
  refine kk _ _ ls (ce + 1) (sl + n.toNatClampNeg) ⟨rep_push h1 o1 ?_, by rw [Array.size_push, hsz, List.length_append]; rfl⟩ ⟨Nat.le_trans h2.1 (by rw [Array.size_push]; omega), fun q g1 g2 => (o1 q (Nat.lt_of_lt_of_le g1 h2.1)).trans (h2.2.1 q g1 g2), h2.2.2⟩ h3 (by omega) (by omega)
  show (H.push _)[B + S.length]? = _
  rw [← hsz, arrV_new]
  simp
  rfl
theorem kc_multi (hF : KF D base cc own A nL mc ms p l e R s m args below meth c) {idx N K : Nat} {n k : Int32} (hcl : Cond.classLink own idx "[[I" ∈ GT) (hao : (Cond.arrayOver (.array .int)).before #[] s = true) (har : Cond.arrayClass .int ∈ GT) (hz : zr S.length σ) (hd : decode cc pc = .ok (.multianewarray idx 2, 4)) (hn : ¬ n < 0) (hk : ¬ k < 0) (hN : n.toNatClampNeg = N) (hK : k.toNatClampNeg = K) (hby : N * 4 ≤ 536870912) (hby2 : K * 4 ≤ 536870912) (hbc : bc' + (1 + N) ≤ bc) (hbs : bs' + (N + N * K) ≤ bs) (hS' : S ++ (.inr (2, N, fun j => S.length + 1 + j + 3) :: List.replicate N (.inr (0, K, fun _ => 0))) = S') {q : Nat} (hq : S.length = q)
    (kk : KJ (RC D B) A nL mc ms Q p l e R s m args below meth c bc' bs' (pc + 4) L (.ref (B + q) :: st) (S', σ)) : KJ (RC D B) A nL mc ms Q p l e R s m args below meth c bc bs pc L (.int k :: .int n :: st) (S, σ) := by
  intro H locs ls ce sl ⟨h1, hsz⟩ h2 h3 h4 h5
  replace h1 : Rep D B S σ H := h1
  replace hsz : H.size = B + S.length := hsz
  subst hS'; subst hN; subst hK; subst hq
  obtain ⟨hx, hb, hml, hown, hts, hKn, hRc, hRs, -⟩ := hF
  intro T hT Xs
  obtain ⟨vm₁, cA, comp, -, fA, fC, hO, -, X', step⟩ := Xs.multianewarray2F hx (ty := .int) hown (hts _ hcl) (over_moved (Vm.Alike.refl s.vm) hao) (hts _ har) (g := F0 m pc ls (.int k :: .int n :: st)) rfl (by rw [hb]; exact hd) rfl hn hk hby hby2 (by omega) rfl rfl (by rw [hRc]; omega) (by rw [hRs]; omega)
  have hcA : cA = D.2 2 := Option.some.inj (fA.symm.trans (hKn.2.1 2).2)
  have hco : comp = D.2 0 := Option.some.inj (fC.symm.trans (hKn.2.1 0).2)
  subst hcA; subst hco
  generalize hFl : Jvm.Free.Multi.fill (T.setVm vm₁) (D.2 2) (D.2 0) n.toNatClampNeg k.toNatClampNeg (defaultValue .int) n.toNatClampNeg = U at X' step
  have hTh : (T.setVm vm₁).heap = H := hT
  obtain ⟨f1, f2, -, -⟩ := Jvm.Free.Multi.fill_facts (T.setVm vm₁) (D.2 2) (D.2 0) n.toNatClampNeg k.toNatClampNeg (defaultValue .int) n.toNatClampNeg
  rw [hFl, hTh] at f1 f2
  have hold : ∀ x : Nat, x < H.size → U.heap[x]? = H[x]? := fun x hx => by
    have := Jvm.Free.Multi.fill_old (T.setVm vm₁) (D.2 2) (D.2 0) n.toNatClampNeg k.toNatClampNeg (defaultValue .int) (a := x) (by rw [hTh]; exact hx) n.toNatClampNeg
    rw [hFl, hTh] at this
    exact this
  have hrow : ∀ j : Nat, j < n.toNatClampNeg → U.heap[H.size + 1 + j]? = some (Jvm.Free.Multi.innerC (D.2 0) k.toNatClampNeg (defaultValue .int)) := fun j hj => by
    have := Jvm.Free.Multi.fill_inner (T.setVm vm₁) (D.2 2) (D.2 0) n.toNatClampNeg k.toNatClampNeg (defaultValue .int) n.toNatClampNeg j hj
    rw [hFl, hTh] at this
    exact this
  rw [vr_outer] at f2
  have hRep : Rep D B (S ++ (.inr (2, n.toNatClampNeg, fun j => S.length + 1 + j + 3) :: List.replicate n.toNatClampNeg (.inr (0, k.toNatClampNeg, fun _ => 0)))) σ U.heap := by
    intro a sh' ha
    by_cases hl : a < S.length
    · rw [List.getElem?_append_left hl] at ha
      exact cell_cg (h1 a sh' ha) (hold _ (cell_lt (h1 a sh' ha))) fun _ => ⟨rfl, rfl⟩
    · rw [List.getElem?_append_right (by omega)] at ha
      obtain ⟨i, hi⟩ : ∃ i, a = S.length + i := ⟨a - S.length, by omega⟩
      subst hi
      rw [Nat.add_sub_cancel_left] at ha
      cases i with
      | zero =>
        cases ha
        show U.heap[B + S.length]? = _
        rw [← hsz, f2]
        refine congrArg some (arrV_ext ?_)
        intro j hj
        rw [if_pos hj]
        have e9 : H.size + 1 + j = B + (S.length + 1 + j) := by omega
        exact congrArg Value.ref e9
      | succ i =>
        rw [List.getElem?_cons_succ] at ha
        have hin : i < n.toNatClampNeg := by
          have := (List.getElem?_eq_some_iff.mp ha).1
          rwa [List.length_replicate] at this
        rw [List.getElem?_replicate, if_pos hin] at ha
        cases ha
        show U.heap[B + (S.length + (i + 1))]? = _
        rw [show B + (S.length + (i + 1)) = H.size + 1 + i by omega, hrow i hin]
        refine congrArg some ?_
        show ({ cls := D.2 0, slots := Array.replicate k.toNatClampNeg (defaultValue .int), vm := .none } : Cell) = _
        rw [arrV_new]
        refine congrArg (arrV _ _) (funext fun j => ?_)
        exact (sv_z (B := B) (code := 0) (hz _ (by omega) _) (by omega)).symm
  have hSz : U.heap.size = B + (S ++ ((.inr (2, n.toNatClampNeg, fun j => S.length + 1 + j + 3) :: List.replicate n.toNatClampNeg (.inr (0, k.toNatClampNeg, fun _ => 0))) : List Sh)).length := by
    rw [f1, hsz, List.length_append, List.length_cons, List.length_replicate]; omega
  obtain ⟨t, a1, b1⟩ := kk U.heap locs ls _ _ ⟨hRep, hSz⟩ ⟨by rw [f1]; have := h2.1; omega, fun x g1 g2 => (hold x (Nat.lt_of_lt_of_le g1 h2.1)).trans (h2.2.1 x g1 g2), h2.2.2⟩ h3 (by omega) (by omega) U rfl X'
  refine ⟨t, step t ?_, b1⟩
  have e9 : T.heap.size = B + S.length := by rw [hT]; exact hsz
  rw [e9]
  exact a1
theorem kc_get (hF : KF D base cc own A nL mc ms p l e R s m args below meth c) {a ci k idx : Nat} {cs : List Nat} {v : Value} (hs : S[a]? = some (.inl (ci, cs))) (fl : fl_ok own idx ci k) (hd : decode cc pc = .ok (.getfield idx, 3)) (hv : sv B σ a k (cs.getD k 2) = v)
    (kk : KJ (RC D B) A nL mc ms Q p l e R s m args below meth c bc bs (pc + 3) L (v :: st) (S, σ)) : KJ (RC D B) A nL mc ms Q p l e R s m args below meth c bc bs pc L (.ref (B + a) :: st) (S, σ) := by
  intro H locs ls ce sl ⟨h1, hsz⟩ h2 h3 h4 h5
  obtain ⟨hx, hb, hml, hown, hts, hKn, -⟩ := hF
  obtain ⟨C, T, N, ref, hc, hk, hin, hlink, hsame⟩ := fl
  obtain ⟨r, hr, cell, q1, q2, q3, q4⟩ := h1 a _ hs
  cases hr.symm.trans hc
  obtain ⟨hS, hfc, kC, hkC, hkind⟩ := hKn.1 ci _ hc
  obtain ⟨cf, kf, fi, f, hi, hsl⟩ := hS k hk
  refine W.getf hx hb hown (hts _ hlink) (fl_same (own := own) hts hsame _ hi) (u_facts hfc hkC (u_lays hts hin hk) hi).1 q1 (by rw [q3]; exact fun h => by cases h) (v := v) ?_ rfl rfl hd (kk H locs ls ce sl ⟨h1, hsz⟩ h2 h3 h4 h5)
  rw [hsl, q4 k hk]
  exact congrArg some hv
/-- putfield of a zero into a field that holds it already -/
theorem kc_put0 (hF : KF D base cc own A nL mc ms p l e R s m args below meth c) {a ci k idx : Nat} {cs : List Nat} {ty : FieldType} {v : Value} (hAa : A (B + a)) (hs : S[a]? = some (.inl (ci, cs))) (fl : fp_ok own idx ci k ty) (hd : decode cc pc = .ok (.putfield idx, 3)) (hn : narrow ty v = v) (hfit : fits ty v = true) (hv : sv B σ a k (cs.getD k 2) = v)
    (kk : KJ (RC D B) A nL mc ms Q p l e R s m args below meth c bc bs (pc + 3) L st (S, σ)) : KJ (RC D B) A nL mc ms Q p l e R s m args below meth c bc bs pc L (v :: .ref (B + a) :: st) (S, σ) := by
  intro H locs ls ce sl ⟨h1, hsz⟩ h2 h3 h4 h5
  obtain ⟨hx, hb, hml, hown, hts, hKn, -⟩ := hF
  obtain ⟨C, T, N, ref, tys, hc, hk, hin, hlink, hsame, hty, hnm, hfin, hd0⟩ := fl
  obtain ⟨r, hr, cell, q1, q2, q3, q4⟩ := h1 a _ hs
  cases hr.symm.trans hc
  have hap := va_apart (own := own) (D := D.1) (cl := vwCl) (tys := []) hts hin tys hty hnm ⟨hKn.1, fun k q h => by simp at h⟩ hc
  obtain ⟨hS, hfc, kC, hkC, hkind⟩ := hKn.1 ci _ hc
  obtain ⟨cf, kf, fi, f, hi, hsl⟩ := hS k hk
  have hlay := hts _ (hin _ (u_in_lay hk))
  unfold u_lay at hlay
  rw [if_neg (by rw [hfin]; decide)] at hlay
  have hst := (u_facts hfc hkC (u_lays hts hin hk) hi).1
  have h6 := u_store hfc hkC hkind hlay hi (by rw [hty k hk, hd0]) hn hfit
  refine W.putK hx hb (f := f) ⟨hown, hts _ hlink, ⟨_, _, _, fl_same (own := own) hts hsame _ hi⟩, hst⟩ (by rw [q2]; exact h6) q1 q3 (by rw [hsl]; exact k2_hasslot (q4 k hk)) rfl rfl hd fun H' e1 e2 e3 => ?_
  rw [hsl] at e1 ⊢
  refine kk H' _ ls ce sl ⟨h1.put hs (fun b j _ => ⟨rfl, rfl⟩) ⟨_, hc, t_OB.to (V := updV (fun j => sv B σ a j (cs.getD j 2)) k v) ⟨_, e1, q2, q3, t_set q4 hap hk v⟩ (fun j _ => ?_)⟩ e3, by rw [e2]; exact hsz⟩ (h2.put e2 e3 hAa) h3 h4 h5
  by_cases h : j = k
  · subst h; exact (if_pos rfl).trans hv.symm
  · exact if_neg h
/-- putfield of a reference into a final field -/
theorem kc_putR (hF : KF D base cc own A nL mc ms p l e R s m args below meth c) (hinit : meth.name = "<init>") {a ci k idx q : Nat} {cs : List Nat} {ty : FieldType} (hAa : A (B + a)) (hs : S[a]? = some (.inl (ci, cs))) (fl : ff_ok own idx ci k ty) (hd : decode cc pc = .ok (.putfield idx, 3)) (hn : narrow ty (.ref (B + q)) = .ref (B + q)) (hfit : fits ty (.ref (B + q)) = true) (hkl : k < cs.length) (hS' : S.set a (.inl (ci, cs.set k (q + 3))) = S')
    (kk : KJ (RC D B) A nL mc ms Q p l e R s m args below meth c bc bs (pc + 3) L st (S', σ)) : KJ (RC D B) A nL mc ms Q p l e R s m args below meth c bc bs pc L (.ref (B + q) :: .ref (B + a) :: st) (S, σ) := by
  intro H locs ls ce sl ⟨h1, hsz⟩ h2 h3 h4 h5
  subst hS'
  obtain ⟨hx, hb, hml, hown, hts, hKn, -⟩ := hF
  obtain ⟨C, T, N, ref, tys, hc, hk, hin, hlink, hsame, hty, hnm, hfin, hdecl, hd0⟩ := fl
  obtain ⟨r, hr, cell, q1, q2, q3, q4⟩ := h1 a _ hs
  cases hr.symm.trans hc
  have hap := va_apart (own := own) (D := D.1) (cl := vwCl) (tys := []) hts hin tys hty hnm ⟨hKn.1, fun k q h => by simp at h⟩ hc
  obtain ⟨hS, hfc, kC, hkC, hkind⟩ := hKn.1 ci _ hc
  obtain ⟨cf, kf, fi, f, hi, hsl⟩ := hS k hk
  have hlay := hts _ (hin _ (u_in_lay hk))
  unfold u_lay at hlay
  rw [if_pos hfin] at hlay
  have hst := (u_facts hfc hkC (u_lays hts hin hk) hi).1
  have hcf : m.cls = cf := by
    obtain ⟨_, _, c', _, _, _, -, -, hf', -, -, -, hown2, -⟩ := Cond.laysFinal_spec hlay
    have e1 : c' = cf := by have := hi.symm.trans hf'; simp at this; exact this.1.symm
    rw [hdecl] at hown2
    rw [← e1]; exact Option.some.inj (hown.symm.trans hown2)
  have h6 := u_fits hfc hkC hkind (Or.inr hlay) hi (by rw [hty k hk, hd0]) hn hfit
  refine W.putFinK hx hb hown (hts _ hlink) (fl_same (own := own) hts hsame _ hi) hst hcf hinit (by rw [q2]; exact h6) q1 q3 (by rw [hsl]; exact k2_hasslot (q4 k hk)) rfl rfl hd fun H' e1 e2 e3 => ?_
  rw [hsl] at e1 ⊢
  refine kk H' _ ls ce sl ⟨rep_set h1 e3 ⟨_, hc, t_OB.to (V := updV (fun j => sv B σ a j (cs.getD j 2)) k (.ref (B + q))) ⟨_, e1, q2, q3, t_set q4 hap hk _⟩ (fun j _ => ?_)⟩, by rw [e2, List.length_set]; exact hsz⟩ (h2.put e2 e3 hAa) h3 h4 h5
  by_cases h : j = k
  · subst h
    show updV _ j _ j = sv B σ a j ((cs.set j (q + 3)).getD j 2)
    rw [List.getD_eq_getElem?_getD, List.getElem?_set_self hkl]
    exact if_pos rfl
  · show updV _ k _ j = sv B σ a j ((cs.set k (q + 3)).getD j 2)
    rw [List.getD_eq_getElem?_getD, List.getElem?_set_ne (fun e => h e.symm), ← List.getD_eq_getElem?_getD]
    exact if_neg h
theorem kc_iast (hF : KF D base cc own A nL mc ms p l e R s m args below meth c) {a n t : Nat} {i x : Int32} (hAa : A (B + a)) (hs : S[a]? = some (.inr (t, n, fun _ => 0))) (ht : (t = 0 ∧ decode cc pc = .ok (.iastore, 1)) ∨ (t = 1 ∧ decode cc pc = .ok (.bastore, 1) ∧ narrow .boolean (.int x) = .int x)) (hin : inb i n)
    (kk : KJ (RC D B) A nL mc ms Q p l e R s m args below meth c bc bs (pc + 1) L st (S, ui σ a i.toNatClampNeg x)) : KJ (RC D B) A nL mc ms Q p l e R s m args below meth c bc bs pc L (.int x :: .int i :: .ref (B + a) :: st) (S, σ) := by
  intro H locs ls ce sl ⟨h1, hsz⟩ h2 h3 h4 h5
  rcases ht with ⟨rfl, hd⟩ | ⟨rfl, hd, hn⟩
  · refine W.iast hF.1 hF.2.1 (h1 a _ hs) ((hF.2.2.2.2.2.1.2.1 0).1 n _) (fun q => by cases q) (by show ¬ (i < 0 ∨ (arrV _ _ _).slots.size ≤ _); rw [arrV_size]; exact hin) rfl rfl hd fun H1 e z oq => ?_
    exact kk H1 _ ls ce sl ⟨h1.put hs ui_o (arr_up e) oq, by rw [z]; exact hsz⟩ (h2.put z oq hAa) h3 h4 h5
  · refine W.zast hF.1 hF.2.1 (h1 a _ hs) ((hF.2.2.2.2.2.1.2.1 1).1 n _) (fun q => by cases q) (by show ¬ (i < 0 ∨ (arrV _ _ _).slots.size ≤ _); rw [arrV_size]; exact hin) rfl rfl hd fun H1 e z oq => ?_
    rw [hn] at e
    exact kk H1 _ ls ce sl ⟨h1.put hs ui_o (arr_up e) oq, by rw [z]; exact hsz⟩ (h2.put z oq hAa) h3 h4 h5
theorem kc_aast (hF : KF D base cc own A nL mc ms p l e R s m args below meth c) {a n t q ci : Nat} {cs : List Nat} {C : String} {Tq : u_T} {N : Nat} {f f' : Nat → Nat} {i : Int32} (hAa : A (B + a)) (hs : S[a]? = some (.inr (t, n, f))) (ht : aty t = .object C) (hq : S[q]? = some (.inl (ci, cs))) (hci : vwCl[ci]? = some (C, Tq, N)) (hd : decode cc pc = .ok (.aastore, 1)) (hin : inb i n) (hf : ∀ j, f' j = if j = i.toNatClampNeg then q + 3 else f j) (hS' : S.set a (.inr (t, n, f')) = S')
    (kk : KJ (RC D B) A nL mc ms Q p l e R s m args below meth c bc bs (pc + 1) L st (S', σ)) : KJ (RC D B) A nL mc ms Q p l e R s m args below meth c bc bs pc L (.ref (B + q) :: .int i :: .ref (B + a) :: st) (S, σ) := by
  intro H locs ls ce sl ⟨h1, hsz⟩ h2 h3 h4 h5
  subst hS'
  obtain ⟨hx, hb, hml, hown, hts, hKn, -⟩ := hF
  have hlt : i.toNatClampNeg < n := Nat.not_le.mp fun q => hin (Or.inr q)
  have h0 : ¬ i < 0 := fun q => hin (Or.inl q)
  obtain ⟨r', hr', cellV, g1, g2, g3, -⟩ := h1 q _ hq
  cases hr'.symm.trans hci
  have hcls := (hKn.1 ci _ hci).2
  have hra := (hKn.2.1 t).2
  rw [ht] at hra
  obtain ⟨kA, comp, k1, k2, k3, -⟩ := hra
  have hcomp : comp = D.1.1 ci := Option.some.inj (k3.symm.trans hcls.1)
  subst hcomp
  obtain ⟨kC, hkC, -⟩ := id hcls.2
  refine W.aast hx hb (h1 a _ hs) (fun q h => by cases h) (fun h => by cases h) k1 k2 rfl hkC ⟨h0, by show _ < (arrV _ _ _).slots.size; rw [arrV_size]; exact hlt⟩ g1 (fun q h => by rw [g3] at h; cases h) (by rw [g2]; exact hkC) (by rw [g2]; exact va_assign hcls) rfl rfl hd fun H1 e z oq => ?_
  refine kk H1 _ ls ce sl ⟨rep_set h1 oq ?_, by rw [z, List.length_set]; exact hsz⟩ (h2.put z oq hAa) h3 h4 h5
  show H1[B + a]? = _
  rw [e, arrV_store]
  congr 2
  funext j
  rw [hf j]
  by_cases h : j = i.toNatClampNeg
  · subst h
    rw [if_pos rfl]
    exact if_pos rfl
  · rw [if_neg h]
    exact if_neg h
theorem kc_obj (hF : KF D base cc own A nL mc ms p l e R s m args below meth c) {a idx : Nat} (hw : ∀ w ∈ ([.methodLink own idx objectInit, .instanceMethod objectInit, .code objectInit ⟨#[0xb1]⟩ 1 none] : List Cond), w ∈ GT) (hd : decode cc pc = .ok (.invokespecial idx, 3)) (hRf : 1 ≤ R.frames) (hRl : (st.map fun v => v.category).sum + 12 ≤ R.locals)
    (kk : KJ (RC D B) A nL mc ms Q p l e R s m args below meth c bc bs (pc + 3) L st (S, σ)) : KJ (RC D B) A nL mc ms Q p l e R s m args below meth c bc bs pc L (.ref a :: st) (S, σ) := by
  intro H locs ls ce sl h1 h2 h3 h4 h5
  obtain ⟨hx, hb, hml, hown, hts, -⟩ := hF
  exact W.objInit hx hb hown (hts _ (hw _ (List.mem_of_getElem? (i := 0) rfl))) (hts _ (hw _ (List.mem_of_getElem? (i := 1) rfl))) (hts _ (hw _ (List.mem_of_getElem? (i := 2) rfl))) rfl (h3.1.trans hml.symm) rfl hd hRf (by show 2 * 0 + _ + 12 ≤ _; omega) (kk H locs ls ce sl h1 h2 h3 h4 h5)
/-- a constructor: from the object's blank cell (the last of S) on, the region grows to S' -/
def MetC (l : Launch) (D : DD) (B base n : Nat) (y : MethodName) (b : ByteArray) (nL fr lo mc ms : Nat) (as : List Value) (S : List Sh) (σ : St) (S' : List Sh) (σ' : St) : Prop :=
  Met l y (Cond.code y b nL none :: GT) { frames := fr, cells := mc, slots := ms, locals := lo } (va_Pc as (fun U => RC D B (S, σ) U.heap ∧ Kn D base U ∧ KO U)) (fun _ st oc t => oc = .returned none ∧ RC D B (S', σ') t.heap ∧ va_F (fun q => B + n ≤ q) st t) mc ms (fun q => B + n ≤ q)
theorem MetC.of {y : MethodName} {b : ByteArray} {fr lo n : Nat} {as : List Value} {σ' : St} (hy : plainName y.cls = true) (hcat : ∀ v ∈ as, v.category = 1) (hlen : as.length ≤ nL) (hbase : base ≤ B) (hnm : y.name = "<init>")
    (body : ∀ p e s m args below meth c, KF D base b y.cls (fun q => B + n ≤ q) nL mc ms p l e { frames := fr, cells := mc, slots := ms, locals := lo } s m args below meth c → meth.sig.returnType = none → meth.name = "<init>" → KO s → s.heap.size = B + S.length →
      KJ (RC D B) (fun q => B + n ≤ q) nL mc ms (MQ below (fun _ st oc t => oc = .returned none ∧ RC D B (S', σ') t.heap ∧ va_F (fun q => B + n ≤ q) st t) args s mc ms (fun q => B + n ≤ q)) p l e { frames := fr, cells := mc, slots := ms, locals := lo } s m args below meth c mc ms 0 (as.map some ++ List.replicate (nL - as.length) none) [] (S, σ)) : MetC l D B base n y b nL fr lo mc ms as S σ S' σ' := by
  refine Met.ofW (cc := b) (maxL := nL) (ret := none) hy rfl ?_
  intro p e s m args below meth c s₁ B₁ hml hv
  obtain ⟨rfl, hRep, hKn, hKO⟩ := hv
  have hts := atoms_spec (ws := Cond.code y b nL none :: GT) B₁.pre
  have hF : KF D base b y.cls (fun q => B + n ≤ q) nL mc ms p l e { frames := fr, cells := mc, slots := ms, locals := lo } s m as.toArray below meth c :=
    ⟨B₁.exec, B₁.bytes, hml, findClass_of_methodNamed B₁.named, fun w h => hts w (List.mem_cons_of_mem _ h), hKn, rfl, rfl, B₁.notSynchronized, fun q (h : B + n ≤ q) => by omega⟩
  have h := body p e s m as.toArray below meth c hF B₁.returns ((name_of_methodNamed B₁.named B₁.method).1.trans hnm) hKO hRep.2 s.heap [] _ 0 0 hRep va_S.rf (lvok.entry as nL hcat hlen) (by omega) (by omega)
  rw [entry_eq m as hcat nL]
  exact h
theorem kc_vret {A : Nat → Prop} (hF : KF D base cc own A nL mc ms p l e R s m args below meth c) (hr : meth.sig.returnType = none) (hd : decode cc pc = .ok (.return_, 1)) :
    KJ (RC D B) A nL mc ms (MQ below (fun _ st oc t => oc = .returned none ∧ RC D B (S, σ) t.heap ∧ va_F A st t) args s mc ms A) p l e R s m args below meth c bc bs pc L [] (S, σ) := by
  intro H locs ls ce sl h1 h2 h3 h4 h5
  exact W.widen (k := mc) (n := ms) (by omega) (by omega) (W.vret hF.1 hF.2.1 hr (fun t ht hW => ⟨rfl, by rw [ht]; exact h1, h2.F ht⟩) h2.2.2 hd hF.2.2.2.2.2.2.2.2.1)
def mi_ok (own : String) (idx : Nat) (y : MethodName) (b : ByteArray) (nL n : Nat) : Prop :=
  (∀ w ∈ ([.methodLink own idx y, .instanceMethod y, .initialized y.cls, .code y b nL none] : List Cond), w ∈ GT) ∧ y.name = "<init>" ∧ y.cls ≠ "java/lang/invoke/MethodHandle" ∧ y.cls ≠ "java/lang/invoke/VarHandle" ∧ (parseMethodDescriptor y.desc).map (fun d => d.parameters.length) = some n
def min_ok (own : String) (idx : Nat) (host : String) (y : MethodName) (b : ByteArray) (nL n : Nat) : Prop :=
  (∀ w ∈ ([.instanceMethod y, .initialized y.cls, .code y b nL none] : List Cond), w ∈ GT) ∧ Cond.methodLinkNest own idx y host ∈ BW ∧ y.name = "<init>" ∧ y.cls ≠ "java/lang/invoke/MethodHandle" ∧ y.cls ≠ "java/lang/invoke/VarHandle" ∧ (parseMethodDescriptor y.desc).map (fun d => d.parameters.length) = some n
theorem pcc_blind {as : List Value} : FrameBlind (va_Pc as (fun U => RC D B (S, σ) U.heap ∧ Kn D base U ∧ KO U)) := fun a U g mk h => ⟨h.1, h.2.1, h.2.2.1.calling g mk a, KO.moved (u := U) (U := U.calling g mk a) (Vm.Alike.refl U.vm) h.2.2.2⟩
theorem kc_after {R : Room} {H : Heap} {locs : List Loc} {ls : Array Slot} {ce sl mc' ms' n' : Nat} {st0 : List Value} {σ' : St} (hA : ∀ q, B + n' ≤ q → A q) (h2 : va_S A s.heap H locs) (h3 : lvok ls nL L) (h4 : ce + bc ≤ mc) (h5 : sl + bs ≤ ms) (hbc : bc' + mc' ≤ bc) (hbs : bs' + ms' ≤ bs)
    (hr : va_Run p l e R s m args below meth c H locs ce sl mc' ms' (F0 m pc ls st0) st (fun st oc t => oc = .returned none ∧ RC D B (S', σ') t.heap ∧ va_F (fun q => B + n' ≤ q) st t) (fun q => B + n' ≤ q))
    (kk : KJ (RC D B) A nL mc ms Q p l e R s m args below meth c bc' bs' (pc + 3) L st (S', σ')) : W p l e R s m args below meth c H locs ce sl Q (F0 m pc ls st0) := by
  intro T hT X
  obtain ⟨v, st₀, t, T', Lc, h0, X', hL, e1, e2, ⟨hv, hp, hz, hk⟩, stp⟩ := hr T hT X
  cases hv
  rw [h0] at hz hk
  obtain ⟨t2, a1, b1⟩ := kk T'.heap (locs ++ Lc) ls (ce + mc') (sl + ms') (by rw [e1]; exact hp) ⟨Nat.le_trans h2.1 (by rw [e1]; exact hz), fun q h1 hq => by rw [e1, hk q (Nat.lt_of_lt_of_le h1 h2.1) (fun z => hq (hA q z))]; exact h2.2.1 q h1 hq, fun q hq => by
      rcases List.mem_append.mp hq with h | h
      · exact h2.2.2 q h
      · exact hA _ (hL q h)⟩ h3 (by omega) (by omega) T' rfl X'
  exact ⟨t2, stp t2 a1, b1⟩
theorem kc_call (hF : KF D base cc own A nL mc ms p l e R s m args below meth c) (hKO : KO s) {a idx n nL' fr lo mc' ms' n' : Nat} (hA : ∀ q, B + n' ≤ q → A q) {y : MethodName} {b : ByteArray} {as : List Value} {σ' : St} {st0 : List Value}
    (hm : MetC l D B base n' y b nL' fr lo mc' ms' (.ref (B + a) :: as) S σ S' σ') (mi : mi_ok own idx y b nL' n) (hn : as.length = n) (hst : st0 = as.reverse ++ .ref (B + a) :: st) (hR : fr + 1 ≤ R.frames ∧ 8 + (nL' + 11) + lo ≤ R.locals) (hW : (st.map fun v => v.category).sum ≤ 8) (hd : decode cc pc = .ok (.invokespecial idx, 3)) (hbc : bc' + mc' ≤ bc) (hbs : bs' + ms' ≤ bs)
    (kk : KJ (RC D B) A nL mc ms Q p l e R s m args below meth c bc' bs' (pc + 3) L st (S', σ')) : KJ (RC D B) A nL mc ms Q p l e R s m args below meth c bc bs pc L st0 (S, σ) := by
  intro H locs ls ce sl h1 h2 h3 h4 h5
  subst hst
  obtain ⟨hx, hb, hml, hown, hts, hKn, hRc, hRs, -⟩ := id hF
  obtain ⟨hw, hnm, hd4⟩ := mi
  have hcw := cwI (R := R) (own := own) (index := idx) (rm := { frames := fr, cells := mc', slots := ms', locals := lo }) (mc := mc') (ms := ms') n hts (gt_gi hts (ws := Cond.code y b nL' none :: GT) (fun w h => by
    rcases List.mem_cons.mp h with h | h
    · exact hw w (by rw [h]; exact List.mem_of_getElem? (i := 3) rfl)
    · exact h)) rfl rfl rfl (hts _ (hw _ (List.mem_of_getElem? (i := 2) rfl))) (hts _ (hw _ (List.mem_of_getElem? (i := 0) rfl))) (hts _ (hw _ (List.mem_of_getElem? (i := 1) rfl))) hnm hd4 hR
  exact kc_after hA h2 h3 h4 h5 hbc hbs (va_runI (As := as) (rest := st) ⟨hx, hb, hml, hown, hts⟩ hm hcw ⟨pcc_blind, fun U hU hW => ⟨rfl, by rw [hU]; exact h1, kn_at hF h2 hU hW, hKO.moved hW.alike⟩⟩ rfl hn h3.1 rfl (lv_room hW) hd ⟨by rw [hRc]; omega, by rw [hRs]; omega⟩) kk
theorem kc_callN (hF : KF D base cc own A nL mc ms p l e R s m args below meth c) (hKO : KO s) {a idx n nL' fr lo mc' ms' n' : Nat} (hA : ∀ q, B + n' ≤ q → A q) {host : String} {y : MethodName} {b : ByteArray} {as : List Value} {σ' : St} {st0 : List Value}
    (hm : MetC l D B base n' y b nL' fr lo mc' ms' (.ref (B + a) :: as) S σ S' σ') (mi : min_ok own idx host y b nL' n) (hn : as.length = n) (hst : st0 = as.reverse ++ .ref (B + a) :: st) (hR : fr + 1 ≤ R.frames ∧ 8 + (nL' + 11) + lo ≤ R.locals) (hW : (st.map fun v => v.category).sum ≤ 8) (hd : decode cc pc = .ok (.invokespecial idx, 3)) (hbc : bc' + mc' ≤ bc) (hbs : bs' + ms' ≤ bs)
    (kk : KJ (RC D B) A nL mc ms Q p l e R s m args below meth c bc' bs' (pc + 3) L st (S', σ')) : KJ (RC D B) A nL mc ms Q p l e R s m args below meth c bc bs pc L st0 (S, σ) := by
  intro H locs ls ce sl h1 h2 h3 h4 h5
  subst hst
  obtain ⟨hx, hb, hml, hown, hts, hKn, hRc, hRs, -⟩ := id hF
  obtain ⟨hw, hbw, hnm, hd4⟩ := mi
  have hcw := va_cnB (R := R) (own := own) (index := idx) (host := host) (args := args) (rm := { frames := fr, cells := mc', slots := ms', locals := lo }) (mc := mc') (ms := ms') n hts (gt_gi hts (ws := Cond.code y b nL' none :: GT) (fun w h => by
    rcases List.mem_cons.mp h with h | h
    · exact hw w (by rw [h]; exact List.mem_of_getElem? (i := 2) rfl)
    · exact h)) rfl rfl rfl (hKn.2.2.2.2.1 _ hbw) (hts _ (hw _ (List.mem_of_getElem? (i := 1) rfl))) hd4 hR
  exact kc_after hA h2 h3 h4 h5 hbc hbs (va_runIN (As := as) (rest := st) ⟨hx, hb, hml, hown, hts⟩ hm ⟨hcw, hnm, hts _ (hw _ (List.mem_of_getElem? (i := 0) rfl))⟩ ⟨pcc_blind, fun U hU hW => ⟨rfl, by rw [hU]; exact h1, kn_at hF h2 hU hW, hKO.moved hW.alike⟩⟩ rfl hn h3.1 rfl (lv_room hW) hd ⟨by rw [hRc]; omega, by rw [hRs]; omega⟩) kk
theorem ap_at {S0 T : List Sh} {n : Nat} (hn : S0.length = n) (j : Nat) {sh : Sh} (h : T[j]? = some sh) : (S0 ++ T)[n + j]? = some sh := by
  subst hn
  rw [List.getElem?_append_right (by omega), Nat.add_sub_cancel_left]; exact h
theorem ap_set {S0 T : List Sh} {n : Nat} (hn : S0.length = n) (j : Nat) {sh : Sh} {T' : List Sh} (h : T.set j sh = T') : (S0 ++ T).set (n + j) sh = S0 ++ T' := by
  subst hn; subst h
  rw [List.set_append, if_neg (by omega), Nat.add_sub_cancel_left]
theorem ap_len {S0 T : List Sh} {n k : Nat} (hn : S0.length = n) (h : T.length = k) : (S0 ++ T).length = n + k := by rw [List.length_append, hn, h]
theorem ap_app {S0 T T' X : List Sh} (h : T ++ X = T') : (S0 ++ T) ++ X = S0 ++ T' := by rw [List.append_assoc, h]
end KCTOR
theorem ap_zr {S0 T : List Sh} {n k : Nat} {σ : St} (hn : S0.length = n) (h : T.length = k) (hz : zr (n + k) σ) : zr (S0 ++ T).length σ := by rw [ap_len hn h]; exact hz
theorem ap_mul {S0 T T' : List Sh} {n k N K : Nat} (hn : S0.length = n) (h : T.length = k) (hT : T ++ (.inr (2, N, fun j => n + k + 1 + j + 3) :: List.replicate N (.inr (0, K, fun _ => 0))) = T') :
    (S0 ++ T) ++ (.inr (2, N, fun j => (S0 ++ T).length + 1 + j + 3) :: List.replicate N (.inr (0, K, fun _ => 0))) = S0 ++ T' := by
  rw [ap_len hn h, List.append_assoc, hT]
theorem ap_met {l : Launch} {D : DD} {B base n nL fr lo mc ms : Nat} {y : MethodName} {b : ByteArray} {as : List Value} {S0 T X Y T1 T2 : List Sh} {σ σ' : St} (h : MetC l D B base n y b nL fr lo mc ms as ((S0 ++ T) ++ X) σ ((S0 ++ T) ++ Y) σ') (h1 : T ++ X = T1) (h2 : T ++ Y = T2) : MetC l D B base n y b nL fr lo mc ms as (S0 ++ T1) σ (S0 ++ T2) σ' := by
  rw [List.append_assoc, List.append_assoc, h1, h2] at h
  exact h
theorem dfl_b {N : Nat} {tys : Nat → FieldType} {cs : List Nat} (h : (List.range N).all (fun j => decide (defaultValue (tys j) = dfl (cs.getD j 2))) = true) : ∀ j, j < N → defaultValue (tys j) = dfl (cs.getD j 2) := fun j hj => of_decide_eq_true (List.all_eq_true.mp h j (List.mem_range.mpr hj))
theorem cs_lt {cs : List Nat} (h : cs.all (fun c => c < 3) = true) : ∀ j, cs.getD j 2 < 3 := fun j => by
  rw [List.getD_eq_getElem?_getD]
  cases e : cs[j]? with
  | none => decide
  | some c => exact of_decide_eq_true (List.all_eq_true.mp h c (List.mem_of_getElem? e))
