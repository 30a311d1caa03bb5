/-- the good words of the tables: every method's contract asks its own code and all of these -/
def GT : List Cond := lw_tbl.filter goodWord
theorem gt_of (ws : List Cond) (is : List Nat) (h : ws = is.filterMap (fun i => lw_tbl[i]?)) (hg : ws.all goodWord = true) : ∀ w ∈ ws, w ∈ GT := by
  intro w hw
  refine List.mem_filter.mpr ⟨?_, List.all_eq_true.mp hg w hw⟩
  rw [h] at hw
  obtain ⟨i, -, hi⟩ := List.mem_filterMap.mp hw
  exact List.mem_of_getElem? hi
theorem gt_1 {ws : List Cond} {w : Cond} (h : ∀ w ∈ ws, w ∈ GT) (i : Nat) (hi : ws[i]? = some w) : w ∈ GT := h w (List.mem_of_getElem? hi)
theorem gt_good {w : Cond} (h : w ∈ GT) : (w.onTables && w.keeps) = true ∨ ∃ ty, w = .arrayClass ty := good_of_word (List.mem_filter.mp h).2
/-- the kinds of arrays -/
def aty : Nat → FieldType := fun t => match t with
  | 0 => .int
  | 1 => .boolean
  | 2 => .array .int
  | 3 => .object "WeftStore$Transaction"
  | 4 => .object "WeftStore$Pattern"
  | _ => .long
/-- the shape of a cell: an object (kind, a code for each field) or an array (kind, length, a code for each place); codes: 0 an int, 1 a long, 2 null, t + 3 a reference to the cell t -/
abbrev Sh : Type := (Nat × List Nat) ⊕ (Nat × Nat × (Nat → Nat))
/-- the numbers that the cells hold -/
abbrev St : Type := (Nat → Nat → Int32) × (Nat → Nat → Int64)
def gi (σ : St) (a k : Nat) : Int32 := σ.1 a k
def gl (σ : St) (a k : Nat) : Int64 := σ.2 a k
def ui (σ : St) (a k : Nat) (v : Int32) : St := (fun b j => if b = a ∧ j = k then v else σ.1 b j, σ.2)
def ul (σ : St) (a k : Nat) (v : Int64) : St := (σ.1, fun b j => if b = a ∧ j = k then v else σ.2 b j)
theorem gi_ui (σ : St) (a k : Nat) (v : Int32) (b j : Nat) : gi (ui σ a k v) b j = if b = a ∧ j = k then v else gi σ b j := rfl
theorem gl_ui (σ : St) (a k : Nat) (v : Int32) (b j : Nat) : gl (ui σ a k v) b j = gl σ b j := rfl
theorem gl_ul (σ : St) (a k : Nat) (v : Int64) (b j : Nat) : gl (ul σ a k v) b j = if b = a ∧ j = k then v else gl σ b j := rfl
theorem gi_ul (σ : St) (a k : Nat) (v : Int64) (b j : Nat) : gi (ul σ a k v) b j = gi σ b j := rfl
def sv (B : Nat) (σ : St) (a k : Nat) : Nat → Value
  | 0 => .int (gi σ a k)
  | 1 => .long (gl σ a k)
  | 2 => .null
  | t + 3 => .ref (B + t)
abbrev DD : Type := va_G × (Nat → ClassId)
def cellOK (D : DD) (B : Nat) (σ : St) (a : Nat) (sh : Sh) (H : Heap) : Prop := match sh with
  | .inl (ci, cs) => ∃ r : vw_C, vwCl[ci]? = some r ∧ t_OB (B + a) (D.1.1 ci) r.2.2 (D.1.2 ci) H (fun k => sv B σ a k (cs.getD k 2))
  | .inr (t, n, f) => H[B + a]? = some (arrV (D.2 t) n (fun j => sv B σ a j (f j)))
def Rep (D : DD) (B : Nat) (S : List Sh) (σ : St) (H : Heap) : Prop := ∀ (a : Nat) (sh : Sh), S[a]? = some sh → cellOK D B σ a sh H
/-- words that the tables decide, and that warmer tables keep, though they aren't good -/
def bwOK : Cond → Bool
  | .castable .. => true
  | .methodLinkNest .. => true
  | .fieldLinkNest .. => true
  | .declares .. => true
  | _ => false
def BW : List Cond := lw_tbl.filter bwOK
theorem bw_warm {w : Cond} (hw : bwOK w = true) {s U : State} (hW : s.WarmedH U.vm) (h : va_Nw w s) : va_Nw w U := by
  cases w <;> first | exact va_Nw.warmC hW h | exact va_Nw.warmM hW h | exact va_Nw.warmF hW h | exact va_Nw.warmD hW h | (simp [bwOK] at hw)
/-- what a throw asks of the world: two statics of Throwable (below the cells that are written), words, String constants -/
def SS : List (String × Nat × String) := lw_tbl.filterMap (fun w => match w with
  | .stringRef own k tx => some (own, k, tx)
  | _ => none)
def KX (base : Nat) (U : State) : Prop := vx_Zq Bundle.tN "UNASSIGNED_STACK" Bundle.steD (fun q => base ≤ q) U U.heap ∧ vx_Zq Bundle.tN "SUPPRESSED_SENTINEL" Bundle.listD (fun q => base ≤ q) U U.heap ∧ (∀ w ∈ BW, va_Nw w U) ∧ ∀ q ∈ SS, ∃ a, vk_R q.1 q.2.1 q.2.2 a U
def Kn (D : DD) (base : Nat) (U : State) : Prop :=
  (∀ (c : Nat) (q : vw_C), vwCl[c]? = some q → u_Kn U q.1 q.2.1 q.2.2 (D.1.1 c) (D.1.2 c)) ∧ (∀ t : Nat, ArrOfT U (D.2 t) (aty t) ∧ va_RA U (D.2 t) (aty t)) ∧ KX base U
theorem Kn.moved {D : DD} {base : Nat} {s U : State} (hW : s.WarmedH U.vm) (hk : ∀ a : Nat, a < s.heap.size → ¬ base ≤ a → U.heap[a]? = s.heap[a]?) (h : Kn D base s) : Kn D base U := by
  obtain ⟨h1, h2, h3, h4, h5, h6⟩ := h
  refine ⟨fun c q hq => u_Kn_moved hW.alike (h1 c q hq), fun t => ⟨arrOfT_moved hW.alike (h2 t).1, (h2 t).2.moved hW.alike⟩, ?_, ?_, fun w hw => bw_warm (List.mem_filter.mp hw).2 hW (h5 w hw), fun q hq => ?_⟩
  · exact vx_Zq.moved hW.alike (h3.kept hk)
  · exact vx_Zq.moved hW.alike (h4.kept hk)
  · obtain ⟨a, ha⟩ := h6 q hq
    exact ⟨a, vk_R.warm hW ha⟩
theorem bw_tab {w : Cond} (hw : bwOK w = true) : w.onTables = true := by
  cases w <;> first | rfl | (simp [bwOK] at hw)
theorem Kn.calling {D : DD} {base : Nat} {U : State} (g : JFrame) (mk : MethodId) (a : Array Value) (h : Kn D base U) : Kn D base (U.calling g mk a) := by
  have hvm : (U.calling g mk a).vm = U.vm := rfl
  have hh : (U.calling g mk a).heap = U.heap := rfl
  have hA : U.vm.Alike (U.calling g mk a).vm := Vm.Alike.refl U.vm
  obtain ⟨h1, h2, h3, h4, h5, h6⟩ := h
  refine ⟨fun c q hq => u_Kn_moved hA (h1 c q hq), fun t => ⟨arrOfT_moved hA (h2 t).1, (h2 t).2.moved hA⟩, ?_, ?_, fun w hw => va_Nw.same (bw_tab (List.mem_filter.mp hw).2) hvm.symm (h5 w hw), fun q hq => ?_⟩
  · rw [hh]; exact vx_Zq.moved hA h3
  · rw [hh]; exact vx_Zq.moved hA h4
  · obtain ⟨a9, ha⟩ := h6 q hq
    exact ⟨a9, vk_R.same hvm ha⟩
/-- the locals that are known, by their places -/
def lvok (ls : Array Slot) (nL : Nat) (L : List (Option Value)) : Prop := ls.size = nL ∧ lv_wf ls ∧ ∀ (i : Nat) (v : Value), L[i]? = some (some v) → v.category = 1 ∧ ls[i]? = some (.val v)
theorem lvok.store {ls : Array Slot} {nL i : Nat} {L : List (Option Value)} {v : Value} (h : lvok ls nL L) (hi : i < nL) (hv : v.category = 1) : ∃ ls', storeLocals ls i v = some ls' ∧ lvok ls' nL (L.set i (some v)) := by
  obtain ⟨ls', e', h'⟩ := lv_store1 (l := []) (v := v) ⟨h.1, h.2.1, fun q hq => by cases hq⟩ hi hv
  refine ⟨ls', e', h'.1, h'.2.1, fun j w hj => ?_⟩
  by_cases hji : i = j
  · subst hji
    have hw : w = v := by
      by_cases hl : i < L.length
      · rw [List.getElem?_set_self hl] at hj; cases hj; rfl
      · rw [List.getElem?_eq_none (by rw [List.length_set]; omega)] at hj; cases hj
    subst hw
    exact ⟨hv, h'.2.2 (i, w) List.mem_cons_self⟩
  · rw [List.getElem?_set_ne hji] at hj
    obtain ⟨c1, g1⟩ := h.2.2 j w hj
    refine ⟨c1, ?_⟩
    obtain ⟨ls2, e2, h2⟩ := lv_store1 (l := [(j, w)]) (v := v) ⟨h.1, h.2.1, fun q hq => by rw [List.mem_singleton.mp hq]; exact g1⟩ hi hv
    have : ls2 = ls' := Option.some.inj (e2.symm.trans e')
    subst this
    refine h2.2.2 (j, w) (List.mem_cons_of_mem _ ?_)
    have hne : ¬ j = i := fun e => hji e.symm
    simp [hne, c1]
theorem lvok.kill {ls : Array Slot} {nL : Nat} {L L' : List (Option Value)} (h : lvok ls nL L) (i : Nat) (hL : L.set i none = L') : lvok ls nL L' := by
  subst hL
  refine ⟨h.1, h.2.1, fun j w hj => ?_⟩
  by_cases hji : i = j
  · subst hji
    by_cases hl : i < L.length
    · rw [List.getElem?_set_self hl] at hj; cases hj
    · rw [List.getElem?_eq_none (by rw [List.length_set]; omega)] at hj; cases hj
  · rw [List.getElem?_set_ne hji] at hj
    exact h.2.2 j w hj
theorem lvok.entry (vs : List Value) (n : Nat) (hc : ∀ v ∈ vs, v.category = 1) (hn : vs.length ≤ n) : lvok ((vs.map Slot.val ++ List.replicate (n - vs.length) Slot.unset).toArray) n (vs.map some ++ List.replicate (n - vs.length) none) := by
  have hno : ∀ i : Nat, ((vs.map Slot.val ++ List.replicate (n - vs.length) Slot.unset).toArray)[i]? ≠ some .second := by
    intro i h
    have h1 : (Slot.second : Slot) ∈ (vs.map Slot.val ++ List.replicate (n - vs.length) Slot.unset) := List.mem_of_getElem? (by simpa using h)
    rcases List.mem_append.mp h1 with h2 | h2
    · obtain ⟨v, -, hv⟩ := List.mem_map.mp h2; cases hv
    · cases (List.mem_replicate.mp h2).2
  have hva : ∀ (i : Nat) (v : Value), ((vs.map Slot.val ++ List.replicate (n - vs.length) Slot.unset).toArray)[i]? = some (.val v) → v ∈ vs := by
    intro i v h
    have h1 : (Slot.val v : Slot) ∈ (vs.map Slot.val ++ List.replicate (n - vs.length) Slot.unset) := List.mem_of_getElem? (by simpa using h)
    rcases List.mem_append.mp h1 with h2 | h2
    · obtain ⟨v', hm, hv⟩ := List.mem_map.mp h2; cases hv; exact hm
    · cases (List.mem_replicate.mp h2).2
  refine ⟨by simp; omega, ⟨fun i v h h2 => ?_, fun i h => absurd h (hno i)⟩, fun i v h => ?_⟩
  · have := hc v (hva i v h); omega
  · by_cases hi : i < vs.length
    · rw [List.getElem?_append_left (by simpa using hi)] at h
      have h2 : vs[i]? = some v := by simpa using h
      refine ⟨hc v (List.mem_of_getElem? h2), ?_⟩
      show ((vs.map Slot.val ++ List.replicate (n - vs.length) Slot.unset).toArray)[i]? = _
      rw [List.getElem?_toArray, List.getElem?_append_left (by simpa using hi)]
      simp [h2]
    · rw [List.getElem?_append_right (by simpa using Nat.not_lt.mp hi)] at h
      have := List.mem_of_getElem? h
      cases (List.mem_replicate.mp this).2
/-- at pc, with the locals L, the stack st and the picture σ, the machine comes to Q; bc cells and bs slots may still be made -/
def KJ {X : Type} (Rp : X → Heap → Prop) (A : Nat → Prop) (nL mc ms : Nat) (Q : State → Prop) (p : Program) (l : Launch) (e : Env) (R : Room) (s : State) (m : MethodId) (args : Array Value) (below : List Frame) (meth : Method) (c : Code) (bc bs pc : Nat) (L : List (Option Value)) (st : List Value) (σ : X) : Prop :=
  ∀ (H : Heap) (locs : List Loc) (ls : Array Slot) (cells slots : Nat), Rp σ H → va_S A s.heap H locs → lvok ls nL L → cells + bc ≤ mc → slots + bs ≤ ms → W p l e R s m args below meth c H locs cells slots Q (F0 m pc ls st)
/-- what stays through a method's body -/
def KF (D : DD) (base : Nat) (cc : ByteArray) (own : String) (A : Nat → Prop) (nL mc ms : Nat) (p : Program) (l : Launch) (e : Env) (R : Room) (s : State) (m : MethodId) (args : Array Value) (below : List Frame) (meth : Method) (c : Code) : Prop :=
  p.tables.exec = Jvm.exec ∧ c.code = cc ∧ c.maxLocals = nL ∧ s.vm.findClass own = some m.cls ∧ (∀ w ∈ GT, w.before args s = true) ∧ Kn D base s ∧ R.cells = mc ∧ R.slots = ms ∧ meth.locks = false ∧ (∀ q, A q → base ≤ q)
section KROWS
variable {p : Program} {l : Launch} {e : Env} {R : Room} {s : State} {m : MethodId} {args : Array Value} {below : List Frame} {meth : Method} {c : Code} {Q : State → Prop}
variable {X : Type} {Rp : X → Heap → Prop} {A : Nat → Prop} {D : DD} {base nL mc ms bc bs pc : Nat} {cc : ByteArray} {own : String} {L L' : List (Option Value)} {st : List Value} {σ : X}
theorem k_iconst (hF : KF D base cc own A nL mc ms p l e R s m args below meth c) {n : Int} {v : Int32} (hd : decode cc pc = .ok (.iconst n, 1)) (hv : Int32.ofInt n = v) (k : KJ Rp A nL mc ms Q p l e R s m args below meth c bc bs (pc + 1) L (.int v :: st) σ) : KJ Rp A nL mc ms Q p l e R s m args below meth c bc bs pc L st σ := fun H locs ls ce sl h1 h2 h3 h4 h5 => lv_iconst hF.1 hF.2.1 hd hv (k H locs ls ce sl h1 h2 h3 h4 h5)
theorem k_bipush (hF : KF D base cc own A nL mc ms p l e R s m args below meth c) {n : Int} {v : Int32} (hd : decode cc pc = .ok (.bipush n, 2)) (hv : (Int8.ofInt n).toInt32 = v) (k : KJ Rp A nL mc ms Q p l e R s m args below meth c bc bs (pc + 2) L (.int v :: st) σ) : KJ Rp A nL mc ms Q p l e R s m args below meth c bc bs pc L st σ := fun H locs ls ce sl h1 h2 h3 h4 h5 => lv_bipush hF.1 hF.2.1 hd hv (k H locs ls ce sl h1 h2 h3 h4 h5)
theorem k_sipush (hF : KF D base cc own A nL mc ms p l e R s m args below meth c) {n : Int} {v : Int32} (hd : decode cc pc = .ok (.sipush n, 3)) (hv : (Int16.ofInt n).toInt32 = v) (k : KJ Rp A nL mc ms Q p l e R s m args below meth c bc bs (pc + 3) L (.int v :: st) σ) : KJ Rp A nL mc ms Q p l e R s m args below meth c bc bs pc L st σ := fun H locs ls ce sl h1 h2 h3 h4 h5 => lv_sipush hF.1 hF.2.1 hd hv (k H locs ls ce sl h1 h2 h3 h4 h5)
theorem k_lconst (hF : KF D base cc own A nL mc ms p l e R s m args below meth c) {n : Fin 2} {v : Int64} (hd : decode cc pc = .ok (.lconst n, 1)) (hv : Int64.ofNat (n : Nat) = v) (k : KJ Rp A nL mc ms Q p l e R s m args below meth c bc bs (pc + 1) L (.long v :: st) σ) : KJ Rp A nL mc ms Q p l e R s m args below meth c bc bs pc L st σ := fun H locs ls ce sl h1 h2 h3 h4 h5 => lv_lconst hF.1 hF.2.1 hd hv (k H locs ls ce sl h1 h2 h3 h4 h5)
theorem k_iload_n (hF : KF D base cc own A nL mc ms p l e R s m args below meth c) {j : Fin 4} {x : Int32} (hd : decode cc pc = .ok (.iload_n j, 1)) (hl : L[(j : Nat)]? = some (some (.int x))) (k : KJ Rp A nL mc ms Q p l e R s m args below meth c bc bs (pc + 1) L (.int x :: st) σ) : KJ Rp A nL mc ms Q p l e R s m args below meth c bc bs pc L st σ := fun H locs ls ce sl h1 h2 h3 h4 h5 => lv_iload_n hF.1 hF.2.1 hd rfl (h3.2.2 _ _ hl).2 (k H locs ls ce sl h1 h2 h3 h4 h5)
theorem k_iload (hF : KF D base cc own A nL mc ms p l e R s m args below meth c) {i : Nat} {x : Int32} (hd : decode cc pc = .ok (.iload i, 2)) (hl : L[i]? = some (some (.int x))) (k : KJ Rp A nL mc ms Q p l e R s m args below meth c bc bs (pc + 2) L (.int x :: st) σ) : KJ Rp A nL mc ms Q p l e R s m args below meth c bc bs pc L st σ := fun H locs ls ce sl h1 h2 h3 h4 h5 => lv_iload hF.1 hF.2.1 hd (h3.2.2 _ _ hl).2 (k H locs ls ce sl h1 h2 h3 h4 h5)
theorem k_istore_n (hF : KF D base cc own A nL mc ms p l e R s m args below meth c) {j : Fin 4} {x : Int32} (hd : decode cc pc = .ok (.istore_n j, 1)) (hi : (j : Nat) < nL) (hL : L.set (j : Nat) (some (.int x)) = L') (k : KJ Rp A nL mc ms Q p l e R s m args below meth c bc bs (pc + 1) L' st σ) : KJ Rp A nL mc ms Q p l e R s m args below meth c bc bs pc L (.int x :: st) σ := by
  intro H locs ls ce sl h1 h2 h3 h4 h5
  subst hL
  obtain ⟨ls', e', h'⟩ := h3.store (v := .int x) hi rfl
  intro T hT X
  obtain ⟨t, a, b⟩ := k H locs ls' ce sl h1 h2 h' h4 h5 T hT X
  refine ⟨t, ?_, b⟩
  jvm_step X.here [X.here.top, ↓top_set X.here.top, hF.1, hF.2.1, hd, e']
  exact a
theorem k_istore (hF : KF D base cc own A nL mc ms p l e R s m args below meth c) {i : Nat} {x : Int32} (hd : decode cc pc = .ok (.istore i, 2)) (hi : i < nL) (hL : L.set i (some (.int x)) = L') (k : KJ Rp A nL mc ms Q p l e R s m args below meth c bc bs (pc + 2) L' st σ) : KJ Rp A nL mc ms Q p l e R s m args below meth c bc bs pc L (.int x :: st) σ := by
  intro H locs ls ce sl h1 h2 h3 h4 h5
  subst hL
  obtain ⟨ls', e', h'⟩ := h3.store (v := .int x) hi rfl
  intro T hT X
  obtain ⟨t, a, b⟩ := k H locs ls' ce sl h1 h2 h' h4 h5 T hT X
  refine ⟨t, ?_, b⟩
  jvm_step X.here [X.here.top, ↓top_set X.here.top, hF.1, hF.2.1, hd, e']
  exact a
theorem k_aload_n (hF : KF D base cc own A nL mc ms p l e R s m args below meth c) {j : Fin 4} {x : Nat} (hd : decode cc pc = .ok (.aload_n j, 1)) (hl : L[(j : Nat)]? = some (some (.ref x))) (k : KJ Rp A nL mc ms Q p l e R s m args below meth c bc bs (pc + 1) L (.ref x :: st) σ) : KJ Rp A nL mc ms Q p l e R s m args below meth c bc bs pc L st σ := fun H locs ls ce sl h1 h2 h3 h4 h5 => lv_aload_n hF.1 hF.2.1 hd rfl (h3.2.2 _ _ hl).2 (k H locs ls ce sl h1 h2 h3 h4 h5)
theorem k_aload (hF : KF D base cc own A nL mc ms p l e R s m args below meth c) {i : Nat} {x : Nat} (hd : decode cc pc = .ok (.aload i, 2)) (hl : L[i]? = some (some (.ref x))) (k : KJ Rp A nL mc ms Q p l e R s m args below meth c bc bs (pc + 2) L (.ref x :: st) σ) : KJ Rp A nL mc ms Q p l e R s m args below meth c bc bs pc L st σ := fun H locs ls ce sl h1 h2 h3 h4 h5 => lv_aload hF.1 hF.2.1 hd (h3.2.2 _ _ hl).2 (k H locs ls ce sl h1 h2 h3 h4 h5)
theorem k_astore_n (hF : KF D base cc own A nL mc ms p l e R s m args below meth c) {j : Fin 4} {x : Nat} (hd : decode cc pc = .ok (.astore_n j, 1)) (hi : (j : Nat) < nL) (hL : L.set (j : Nat) (some (.ref x)) = L') (k : KJ Rp A nL mc ms Q p l e R s m args below meth c bc bs (pc + 1) L' st σ) : KJ Rp A nL mc ms Q p l e R s m args below meth c bc bs pc L (.ref x :: st) σ := by
  intro H locs ls ce sl h1 h2 h3 h4 h5
  subst hL
  obtain ⟨ls', e', h'⟩ := h3.store (v := .ref x) hi rfl
  intro T hT X
  obtain ⟨t, a, b⟩ := k H locs ls' ce sl h1 h2 h' h4 h5 T hT X
  refine ⟨t, ?_, b⟩
  jvm_step X.here [X.here.top, ↓top_set X.here.top, hF.1, hF.2.1, hd, e']
  exact ⟨rfl, a⟩
theorem k_astore (hF : KF D base cc own A nL mc ms p l e R s m args below meth c) {i : Nat} {x : Nat} (hd : decode cc pc = .ok (.astore i, 2)) (hi : i < nL) (hL : L.set i (some (.ref x)) = L') (k : KJ Rp A nL mc ms Q p l e R s m args below meth c bc bs (pc + 2) L' st σ) : KJ Rp A nL mc ms Q p l e R s m args below meth c bc bs pc L (.ref x :: st) σ := by
  intro H locs ls ce sl h1 h2 h3 h4 h5
  subst hL
  obtain ⟨ls', e', h'⟩ := h3.store (v := .ref x) hi rfl
  intro T hT X
  obtain ⟨t, a, b⟩ := k H locs ls' ce sl h1 h2 h' h4 h5 T hT X
  refine ⟨t, ?_, b⟩
  jvm_step X.here [X.here.top, ↓top_set X.here.top, hF.1, hF.2.1, hd, e']
  exact ⟨rfl, a⟩
theorem k_iinc (hF : KF D base cc own A nL mc ms p l e R s m args below meth c) {i : Nat} {n : Int} {x v : Int32} (hd : decode cc pc = .ok (.iinc i n, 3)) (hl : L[i]? = some (some (.int x))) (hv : x + Int32.ofInt n = v) (hi : i < nL) (hL : L.set i (some (.int v)) = L') (k : KJ Rp A nL mc ms Q p l e R s m args below meth c bc bs (pc + 3) L' st σ) : KJ Rp A nL mc ms Q p l e R s m args below meth c bc bs pc L st σ := by
  intro H locs ls ce sl h1 h2 h3 h4 h5
  subst hL
  subst hv
  have hg := (h3.2.2 _ _ hl).2
  obtain ⟨ls', e', h'⟩ := h3.store (v := .int (x + Int32.ofInt n)) hi rfl
  intro T hT X
  obtain ⟨t, a, b⟩ := k H locs ls' ce sl h1 h2 h' h4 h5 T hT X
  refine ⟨t, ?_, b⟩
  jvm_step X.here [X.here.top, ↓top_set X.here.top, hF.1, hF.2.1, hd, hg, e']
  exact a
theorem k_kill (i : Nat) (hL : L.set i none = L') (k : KJ Rp A nL mc ms Q p l e R s m args below meth c bc bs pc L' st σ) : KJ Rp A nL mc ms Q p l e R s m args below meth c bc bs pc L st σ := fun H locs ls ce sl h1 h2 h3 h4 h5 => k H locs ls ce sl h1 h2 (h3.kill i hL) h4 h5
theorem k_st {st2 : List Value} (hs : st = st2) (k : KJ Rp A nL mc ms Q p l e R s m args below meth c bc bs pc L st2 σ) : KJ Rp A nL mc ms Q p l e R s m args below meth c bc bs pc L st σ := hs ▸ k
theorem k_L (hL : L = L') (k : KJ Rp A nL mc ms Q p l e R s m args below meth c bc bs pc L' st σ) : KJ Rp A nL mc ms Q p l e R s m args below meth c bc bs pc L st σ := hL ▸ k
theorem k_iadd (hF : KF D base cc own A nL mc ms p l e R s m args below meth c) {x y : Int32} (hd : decode cc pc = .ok (.iadd, 1)) (k : KJ Rp A nL mc ms Q p l e R s m args below meth c bc bs (pc + 1) L (.int (x + y) :: st) σ) : KJ Rp A nL mc ms Q p l e R s m args below meth c bc bs pc L (.int y :: .int x :: st) σ := fun H locs ls ce sl h1 h2 h3 h4 h5 => lv_iadd hF.1 hF.2.1 hd (k H locs ls ce sl h1 h2 h3 h4 h5)
theorem k_isub (hF : KF D base cc own A nL mc ms p l e R s m args below meth c) {x y : Int32} (hd : decode cc pc = .ok (.isub, 1)) (k : KJ Rp A nL mc ms Q p l e R s m args below meth c bc bs (pc + 1) L (.int (x - y) :: st) σ) : KJ Rp A nL mc ms Q p l e R s m args below meth c bc bs pc L (.int y :: .int x :: st) σ := fun H locs ls ce sl h1 h2 h3 h4 h5 => lv_isub hF.1 hF.2.1 hd (k H locs ls ce sl h1 h2 h3 h4 h5)
theorem k_imul (hF : KF D base cc own A nL mc ms p l e R s m args below meth c) {x y : Int32} (hd : decode cc pc = .ok (.imul, 1)) (k : KJ Rp A nL mc ms Q p l e R s m args below meth c bc bs (pc + 1) L (.int (x * y) :: st) σ) : KJ Rp A nL mc ms Q p l e R s m args below meth c bc bs pc L (.int y :: .int x :: st) σ := fun H locs ls ce sl h1 h2 h3 h4 h5 => lv_imul hF.1 hF.2.1 hd (k H locs ls ce sl h1 h2 h3 h4 h5)
theorem k_iand (hF : KF D base cc own A nL mc ms p l e R s m args below meth c) {x y : Int32} (hd : decode cc pc = .ok (.iand, 1)) (k : KJ Rp A nL mc ms Q p l e R s m args below meth c bc bs (pc + 1) L (.int (x &&& y) :: st) σ) : KJ Rp A nL mc ms Q p l e R s m args below meth c bc bs pc L (.int y :: .int x :: st) σ := fun H locs ls ce sl h1 h2 h3 h4 h5 => lv_iand hF.1 hF.2.1 hd (k H locs ls ce sl h1 h2 h3 h4 h5)
theorem k_ior (hF : KF D base cc own A nL mc ms p l e R s m args below meth c) {x y : Int32} (hd : decode cc pc = .ok (.ior, 1)) (k : KJ Rp A nL mc ms Q p l e R s m args below meth c bc bs (pc + 1) L (.int (x ||| y) :: st) σ) : KJ Rp A nL mc ms Q p l e R s m args below meth c bc bs pc L (.int y :: .int x :: st) σ := fun H locs ls ce sl h1 h2 h3 h4 h5 => lv_ior hF.1 hF.2.1 hd (k H locs ls ce sl h1 h2 h3 h4 h5)
theorem k_ixor (hF : KF D base cc own A nL mc ms p l e R s m args below meth c) {x y : Int32} (hd : decode cc pc = .ok (.ixor, 1)) (k : KJ Rp A nL mc ms Q p l e R s m args below meth c bc bs (pc + 1) L (.int (x ^^^ y) :: st) σ) : KJ Rp A nL mc ms Q p l e R s m args below meth c bc bs pc L (.int y :: .int x :: st) σ := fun H locs ls ce sl h1 h2 h3 h4 h5 => lv_ixor hF.1 hF.2.1 hd (k H locs ls ce sl h1 h2 h3 h4 h5)
theorem k_ishl (hF : KF D base cc own A nL mc ms p l e R s m args below meth c) {x y : Int32} (hd : decode cc pc = .ok (.ishl, 1)) (k : KJ Rp A nL mc ms Q p l e R s m args below meth c bc bs (pc + 1) L (.int (x <<< (y &&& 31)) :: st) σ) : KJ Rp A nL mc ms Q p l e R s m args below meth c bc bs pc L (.int y :: .int x :: st) σ := fun H locs ls ce sl h1 h2 h3 h4 h5 => lv_ishl hF.1 hF.2.1 hd (k H locs ls ce sl h1 h2 h3 h4 h5)
theorem k_ishr (hF : KF D base cc own A nL mc ms p l e R s m args below meth c) {x y : Int32} (hd : decode cc pc = .ok (.ishr, 1)) (k : KJ Rp A nL mc ms Q p l e R s m args below meth c bc bs (pc + 1) L (.int (x >>> (y &&& 31)) :: st) σ) : KJ Rp A nL mc ms Q p l e R s m args below meth c bc bs pc L (.int y :: .int x :: st) σ := fun H locs ls ce sl h1 h2 h3 h4 h5 => lv_ishr hF.1 hF.2.1 hd (k H locs ls ce sl h1 h2 h3 h4 h5)
/-- the shift that fills with zeros -/
def ush (x y : Int32) : Int32 := (x.toUInt32 >>> (y.toUInt32 &&& Int32.toUInt32 31)).toInt32
theorem k_iushr (hF : KF D base cc own A nL mc ms p l e R s m args below meth c) {x y : Int32} (hd : decode cc pc = .ok (.iushr, 1)) (k : KJ Rp A nL mc ms Q p l e R s m args below meth c bc bs (pc + 1) L (.int (ush x y) :: st) σ) : KJ Rp A nL mc ms Q p l e R s m args below meth c bc bs pc L (.int y :: .int x :: st) σ := fun H locs ls ce sl h1 h2 h3 h4 h5 => lv_iushr hF.1 hF.2.1 hd rfl (k H locs ls ce sl h1 h2 h3 h4 h5)
theorem k_land (hF : KF D base cc own A nL mc ms p l e R s m args below meth c) {x y : Int64} (hd : decode cc pc = .ok (.land, 1)) (k : KJ Rp A nL mc ms Q p l e R s m args below meth c bc bs (pc + 1) L (.long (x &&& y) :: st) σ) : KJ Rp A nL mc ms Q p l e R s m args below meth c bc bs pc L (.long y :: .long x :: st) σ := fun H locs ls ce sl h1 h2 h3 h4 h5 => lv_land hF.1 hF.2.1 hd (k H locs ls ce sl h1 h2 h3 h4 h5)
theorem k_lor (hF : KF D base cc own A nL mc ms p l e R s m args below meth c) {x y : Int64} (hd : decode cc pc = .ok (.lor, 1)) (k : KJ Rp A nL mc ms Q p l e R s m args below meth c bc bs (pc + 1) L (.long (x ||| y) :: st) σ) : KJ Rp A nL mc ms Q p l e R s m args below meth c bc bs pc L (.long y :: .long x :: st) σ := fun H locs ls ce sl h1 h2 h3 h4 h5 => lv_lor hF.1 hF.2.1 hd (k H locs ls ce sl h1 h2 h3 h4 h5)
theorem k_lshl (hF : KF D base cc own A nL mc ms p l e R s m args below meth c) {x : Int64} {y : Int32} (hd : decode cc pc = .ok (.lshl, 1)) (k : KJ Rp A nL mc ms Q p l e R s m args below meth c bc bs (pc + 1) L (.long (x <<< (y.toInt64 &&& 63)) :: st) σ) : KJ Rp A nL mc ms Q p l e R s m args below meth c bc bs pc L (.int y :: .long x :: st) σ := fun H locs ls ce sl h1 h2 h3 h4 h5 => lv_lshl hF.1 hF.2.1 hd rfl (k H locs ls ce sl h1 h2 h3 h4 h5)
theorem k_i2l (hF : KF D base cc own A nL mc ms p l e R s m args below meth c) {x : Int32} (hd : decode cc pc = .ok (.i2l, 1)) (k : KJ Rp A nL mc ms Q p l e R s m args below meth c bc bs (pc + 1) L (.long x.toInt64 :: st) σ) : KJ Rp A nL mc ms Q p l e R s m args below meth c bc bs pc L (.int x :: st) σ := fun H locs ls ce sl h1 h2 h3 h4 h5 => lv_i2l hF.1 hF.2.1 hd rfl (k H locs ls ce sl h1 h2 h3 h4 h5)
theorem k_dup (hF : KF D base cc own A nL mc ms p l e R s m args below meth c) {va : Value} (hd : decode cc pc = .ok (.dup, 1)) (hva : va.category = 1) (k : KJ Rp A nL mc ms Q p l e R s m args below meth c bc bs (pc + 1) L (va :: va :: st) σ) : KJ Rp A nL mc ms Q p l e R s m args below meth c bc bs pc L (va :: st) σ := fun H locs ls ce sl h1 h2 h3 h4 h5 => lv_dup hF.1 hF.2.1 hd hva (k H locs ls ce sl h1 h2 h3 h4 h5)
theorem k_pop (hF : KF D base cc own A nL mc ms p l e R s m args below meth c) {va : Value} (hd : decode cc pc = .ok (.pop, 1)) (hva : va.category = 1) (k : KJ Rp A nL mc ms Q p l e R s m args below meth c bc bs (pc + 1) L st σ) : KJ Rp A nL mc ms Q p l e R s m args below meth c bc bs pc L (va :: st) σ := fun H locs ls ce sl h1 h2 h3 h4 h5 => lv_pop hF.1 hF.2.1 hd hva (k H locs ls ce sl h1 h2 h3 h4 h5)
theorem k_dup_x1 (hF : KF D base cc own A nL mc ms p l e R s m args below meth c) {va vb : Value} (hd : decode cc pc = .ok (.dup_x1, 1)) (hva : va.category = 1) (hvb : vb.category = 1) (k : KJ Rp A nL mc ms Q p l e R s m args below meth c bc bs (pc + 1) L (va :: vb :: va :: st) σ) : KJ Rp A nL mc ms Q p l e R s m args below meth c bc bs pc L (va :: vb :: st) σ := fun H locs ls ce sl h1 h2 h3 h4 h5 => lv_dup_x1 hF.1 hF.2.1 hd hva hvb (k H locs ls ce sl h1 h2 h3 h4 h5)
theorem k_dup_x2 (hF : KF D base cc own A nL mc ms p l e R s m args below meth c) {va vb vc : Value} (hd : decode cc pc = .ok (.dup_x2, 1)) (hva : va.category = 1) (hvb : vb.category = 1) (hvc : vc.category = 1) (k : KJ Rp A nL mc ms Q p l e R s m args below meth c bc bs (pc + 1) L (va :: vb :: vc :: va :: st) σ) : KJ Rp A nL mc ms Q p l e R s m args below meth c bc bs pc L (va :: vb :: vc :: st) σ := fun H locs ls ce sl h1 h2 h3 h4 h5 => lv_dup_x2 hF.1 hF.2.1 hd hva hvb hvc (k H locs ls ce sl h1 h2 h3 h4 h5)
theorem k_dup2 (hF : KF D base cc own A nL mc ms p l e R s m args below meth c) {va vb : Value} (hd : decode cc pc = .ok (.dup2, 1)) (hva : va.category = 1) (hvb : vb.category = 1) (k : KJ Rp A nL mc ms Q p l e R s m args below meth c bc bs (pc + 1) L (va :: vb :: va :: vb :: st) σ) : KJ Rp A nL mc ms Q p l e R s m args below meth c bc bs pc L (va :: vb :: st) σ := fun H locs ls ce sl h1 h2 h3 h4 h5 => lv_dup2_11 hF.1 hF.2.1 hd hva hvb (k H locs ls ce sl h1 h2 h3 h4 h5)
theorem k_if_eq (hF : KF D base cc own A nL mc ms p l e R s m args below meth c) {x : Int32} {off : Int} {tgt : Nat} (hd : decode cc pc = .ok (.ifCond .eq off, 3)) (ht : (pc : Int) + off = (tgt : Int)) (kt : x = 0 → KJ Rp A nL mc ms Q p l e R s m args below meth c bc bs tgt L st σ) (kf : ¬ x = 0 → KJ Rp A nL mc ms Q p l e R s m args below meth c bc bs (pc + 3) L st σ) : KJ Rp A nL mc ms Q p l e R s m args below meth c bc bs pc L (.int x :: st) σ := fun H locs ls ce sl h1 h2 h3 h4 h5 => lv_if_eq hF.1 hF.2.1 hd ht (fun h => kt h H locs ls ce sl h1 h2 h3 h4 h5) (fun h => kf h H locs ls ce sl h1 h2 h3 h4 h5)
theorem k_icmp_eq (hF : KF D base cc own A nL mc ms p l e R s m args below meth c) {x y : Int32} {off : Int} {tgt : Nat} (hd : decode cc pc = .ok (.if_icmp .eq off, 3)) (ht : (pc : Int) + off = (tgt : Int)) (kt : x = y → KJ Rp A nL mc ms Q p l e R s m args below meth c bc bs tgt L st σ) (kf : ¬ x = y → KJ Rp A nL mc ms Q p l e R s m args below meth c bc bs (pc + 3) L st σ) : KJ Rp A nL mc ms Q p l e R s m args below meth c bc bs pc L (.int y :: .int x :: st) σ := fun H locs ls ce sl h1 h2 h3 h4 h5 => lv_icmp_eq hF.1 hF.2.1 hd ht (fun h => kt h H locs ls ce sl h1 h2 h3 h4 h5) (fun h => kf h H locs ls ce sl h1 h2 h3 h4 h5)
theorem k_if_ne (hF : KF D base cc own A nL mc ms p l e R s m args below meth c) {x : Int32} {off : Int} {tgt : Nat} (hd : decode cc pc = .ok (.ifCond .ne off, 3)) (ht : (pc : Int) + off = (tgt : Int)) (kt : ¬ x = 0 → KJ Rp A nL mc ms Q p l e R s m args below meth c bc bs tgt L st σ) (kf : x = 0 → KJ Rp A nL mc ms Q p l e R s m args below meth c bc bs (pc + 3) L st σ) : KJ Rp A nL mc ms Q p l e R s m args below meth c bc bs pc L (.int x :: st) σ := fun H locs ls ce sl h1 h2 h3 h4 h5 => lv_if_ne hF.1 hF.2.1 hd ht (fun h => kt h H locs ls ce sl h1 h2 h3 h4 h5) (fun h => kf h H locs ls ce sl h1 h2 h3 h4 h5)
theorem k_icmp_ne (hF : KF D base cc own A nL mc ms p l e R s m args below meth c) {x y : Int32} {off : Int} {tgt : Nat} (hd : decode cc pc = .ok (.if_icmp .ne off, 3)) (ht : (pc : Int) + off = (tgt : Int)) (kt : ¬ x = y → KJ Rp A nL mc ms Q p l e R s m args below meth c bc bs tgt L st σ) (kf : x = y → KJ Rp A nL mc ms Q p l e R s m args below meth c bc bs (pc + 3) L st σ) : KJ Rp A nL mc ms Q p l e R s m args below meth c bc bs pc L (.int y :: .int x :: st) σ := fun H locs ls ce sl h1 h2 h3 h4 h5 => lv_icmp_ne hF.1 hF.2.1 hd ht (fun h => kt h H locs ls ce sl h1 h2 h3 h4 h5) (fun h => kf h H locs ls ce sl h1 h2 h3 h4 h5)
theorem k_if_lt (hF : KF D base cc own A nL mc ms p l e R s m args below meth c) {x : Int32} {off : Int} {tgt : Nat} (hd : decode cc pc = .ok (.ifCond .lt off, 3)) (ht : (pc : Int) + off = (tgt : Int)) (kt : x < 0 → KJ Rp A nL mc ms Q p l e R s m args below meth c bc bs tgt L st σ) (kf : ¬ x < 0 → KJ Rp A nL mc ms Q p l e R s m args below meth c bc bs (pc + 3) L st σ) : KJ Rp A nL mc ms Q p l e R s m args below meth c bc bs pc L (.int x :: st) σ := fun H locs ls ce sl h1 h2 h3 h4 h5 => lv_if_lt hF.1 hF.2.1 hd ht (fun h => kt h H locs ls ce sl h1 h2 h3 h4 h5) (fun h => kf h H locs ls ce sl h1 h2 h3 h4 h5)
theorem k_icmp_lt (hF : KF D base cc own A nL mc ms p l e R s m args below meth c) {x y : Int32} {off : Int} {tgt : Nat} (hd : decode cc pc = .ok (.if_icmp .lt off, 3)) (ht : (pc : Int) + off = (tgt : Int)) (kt : x < y → KJ Rp A nL mc ms Q p l e R s m args below meth c bc bs tgt L st σ) (kf : ¬ x < y → KJ Rp A nL mc ms Q p l e R s m args below meth c bc bs (pc + 3) L st σ) : KJ Rp A nL mc ms Q p l e R s m args below meth c bc bs pc L (.int y :: .int x :: st) σ := fun H locs ls ce sl h1 h2 h3 h4 h5 => lv_icmp_lt hF.1 hF.2.1 hd ht (fun h => kt h H locs ls ce sl h1 h2 h3 h4 h5) (fun h => kf h H locs ls ce sl h1 h2 h3 h4 h5)
theorem k_if_ge (hF : KF D base cc own A nL mc ms p l e R s m args below meth c) {x : Int32} {off : Int} {tgt : Nat} (hd : decode cc pc = .ok (.ifCond .ge off, 3)) (ht : (pc : Int) + off = (tgt : Int)) (kt : 0 ≤ x → KJ Rp A nL mc ms Q p l e R s m args below meth c bc bs tgt L st σ) (kf : ¬ 0 ≤ x → KJ Rp A nL mc ms Q p l e R s m args below meth c bc bs (pc + 3) L st σ) : KJ Rp A nL mc ms Q p l e R s m args below meth c bc bs pc L (.int x :: st) σ := fun H locs ls ce sl h1 h2 h3 h4 h5 => lv_if_ge hF.1 hF.2.1 hd ht (fun h => kt h H locs ls ce sl h1 h2 h3 h4 h5) (fun h => kf h H locs ls ce sl h1 h2 h3 h4 h5)
theorem k_icmp_ge (hF : KF D base cc own A nL mc ms p l e R s m args below meth c) {x y : Int32} {off : Int} {tgt : Nat} (hd : decode cc pc = .ok (.if_icmp .ge off, 3)) (ht : (pc : Int) + off = (tgt : Int)) (kt : y ≤ x → KJ Rp A nL mc ms Q p l e R s m args below meth c bc bs tgt L st σ) (kf : ¬ y ≤ x → KJ Rp A nL mc ms Q p l e R s m args below meth c bc bs (pc + 3) L st σ) : KJ Rp A nL mc ms Q p l e R s m args below meth c bc bs pc L (.int y :: .int x :: st) σ := fun H locs ls ce sl h1 h2 h3 h4 h5 => lv_icmp_ge hF.1 hF.2.1 hd ht (fun h => kt h H locs ls ce sl h1 h2 h3 h4 h5) (fun h => kf h H locs ls ce sl h1 h2 h3 h4 h5)
theorem k_if_gt (hF : KF D base cc own A nL mc ms p l e R s m args below meth c) {x : Int32} {off : Int} {tgt : Nat} (hd : decode cc pc = .ok (.ifCond .gt off, 3)) (ht : (pc : Int) + off = (tgt : Int)) (kt : 0 < x → KJ Rp A nL mc ms Q p l e R s m args below meth c bc bs tgt L st σ) (kf : ¬ 0 < x → KJ Rp A nL mc ms Q p l e R s m args below meth c bc bs (pc + 3) L st σ) : KJ Rp A nL mc ms Q p l e R s m args below meth c bc bs pc L (.int x :: st) σ := fun H locs ls ce sl h1 h2 h3 h4 h5 => lv_if_gt hF.1 hF.2.1 hd ht (fun h => kt h H locs ls ce sl h1 h2 h3 h4 h5) (fun h => kf h H locs ls ce sl h1 h2 h3 h4 h5)
theorem k_icmp_gt (hF : KF D base cc own A nL mc ms p l e R s m args below meth c) {x y : Int32} {off : Int} {tgt : Nat} (hd : decode cc pc = .ok (.if_icmp .gt off, 3)) (ht : (pc : Int) + off = (tgt : Int)) (kt : y < x → KJ Rp A nL mc ms Q p l e R s m args below meth c bc bs tgt L st σ) (kf : ¬ y < x → KJ Rp A nL mc ms Q p l e R s m args below meth c bc bs (pc + 3) L st σ) : KJ Rp A nL mc ms Q p l e R s m args below meth c bc bs pc L (.int y :: .int x :: st) σ := fun H locs ls ce sl h1 h2 h3 h4 h5 => lv_icmp_gt hF.1 hF.2.1 hd ht (fun h => kt h H locs ls ce sl h1 h2 h3 h4 h5) (fun h => kf h H locs ls ce sl h1 h2 h3 h4 h5)
theorem k_if_le (hF : KF D base cc own A nL mc ms p l e R s m args below meth c) {x : Int32} {off : Int} {tgt : Nat} (hd : decode cc pc = .ok (.ifCond .le off, 3)) (ht : (pc : Int) + off = (tgt : Int)) (kt : x ≤ 0 → KJ Rp A nL mc ms Q p l e R s m args below meth c bc bs tgt L st σ) (kf : ¬ x ≤ 0 → KJ Rp A nL mc ms Q p l e R s m args below meth c bc bs (pc + 3) L st σ) : KJ Rp A nL mc ms Q p l e R s m args below meth c bc bs pc L (.int x :: st) σ := fun H locs ls ce sl h1 h2 h3 h4 h5 => lv_if_le hF.1 hF.2.1 hd ht (fun h => kt h H locs ls ce sl h1 h2 h3 h4 h5) (fun h => kf h H locs ls ce sl h1 h2 h3 h4 h5)
theorem k_icmp_le (hF : KF D base cc own A nL mc ms p l e R s m args below meth c) {x y : Int32} {off : Int} {tgt : Nat} (hd : decode cc pc = .ok (.if_icmp .le off, 3)) (ht : (pc : Int) + off = (tgt : Int)) (kt : x ≤ y → KJ Rp A nL mc ms Q p l e R s m args below meth c bc bs tgt L st σ) (kf : ¬ x ≤ y → KJ Rp A nL mc ms Q p l e R s m args below meth c bc bs (pc + 3) L st σ) : KJ Rp A nL mc ms Q p l e R s m args below meth c bc bs pc L (.int y :: .int x :: st) σ := fun H locs ls ce sl h1 h2 h3 h4 h5 => lv_icmp_le hF.1 hF.2.1 hd ht (fun h => kt h H locs ls ce sl h1 h2 h3 h4 h5) (fun h => kf h H locs ls ce sl h1 h2 h3 h4 h5)
theorem k_goto (hF : KF D base cc own A nL mc ms p l e R s m args below meth c) {off : Int} {tgt : Nat} (hd : decode cc pc = .ok (.goto off, 3)) (ht : (pc : Int) + off = (tgt : Int)) (k : KJ Rp A nL mc ms Q p l e R s m args below meth c bc bs tgt L st σ) : KJ Rp A nL mc ms Q p l e R s m args below meth c bc bs pc L st σ := fun H locs ls ce sl h1 h2 h3 h4 h5 => lv_goto hF.1 hF.2.1 hd ht (k H locs ls ce sl h1 h2 h3 h4 h5)
theorem k_ldc (hF : KF D base cc own A nL mc ms p l e R s m args below meth c) {ix : Nat} {v : Int32} (hc : Cond.constant own ix v ∈ GT) (hd : decode cc pc = .ok (.ldc ix, 2)) (k : KJ Rp A nL mc ms Q p l e R s m args below meth c bc bs (pc + 2) L (.int v :: st) σ) : KJ Rp A nL mc ms Q p l e R s m args below meth c bc bs pc L st σ := fun H locs ls ce sl h1 h2 h3 h4 h5 => lv_ldc hF.1 hF.2.1 hF.2.2.2.1 (hF.2.2.2.2.1 _ hc) hd (k H locs ls ce sl h1 h2 h3 h4 h5)
end KROWS
