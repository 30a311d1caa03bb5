theorem sv_cg {B : Nat} {σ σ' : St} {a k : Nat} (h1 : gi σ' a k = gi σ a k) (h2 : gl σ' a k = gl σ a k) (code : Nat) : sv B σ' a k code = sv B σ a k code := by
  match code with
  | 0 => show Value.int _ = Value.int _; rw [h1]
  | 1 => show Value.long _ = Value.long _; rw [h2]
  | 2 => rfl
  | t + 3 => rfl
theorem cell_cg {D : DD} {B : Nat} {σ σ' : St} {a : Nat} {sh : Sh} {H H1 : Heap} (h : cellOK D B σ a sh H) (hq : H1[B + a]? = H[B + a]?) (h1 : ∀ j, gi σ' a j = gi σ a j ∧ gl σ' a j = gl σ a j) : cellOK D B σ' a sh H1 := by
  match sh, h with
  | .inl (ci, cs), ⟨r, hr, ht⟩ => exact ⟨r, hr, (ht.kept hq).to fun j _ => (sv_cg (h1 j).1 (h1 j).2 _).symm⟩
  | .inr (t, n, f), h =>
    show H1[B + a]? = some (arrV _ _ _)
    rw [hq, show H[B + a]? = _ from h]
    congr 2
    funext j
    exact (sv_cg (h1 j).1 (h1 j).2 _).symm
theorem cell_lt {D : DD} {B : Nat} {σ : St} {a : Nat} {sh : Sh} {H : Heap} (h : cellOK D B σ a sh H) : B + a < H.size := by
  match sh, h with
  | .inl (ci, cs), ⟨r, hr, ce9, h1, h2⟩ => exact (Array.getElem?_eq_some_iff.mp h1).1
  | .inr (t, n, f), h => exact (Array.getElem?_eq_some_iff.mp h).1
theorem Rep.kept {D : DD} {B : Nat} {S : List Sh} {σ : St} {H H1 : Heap} (h : Rep D B S σ H) (hq : ∀ q : Nat, B ≤ q → q < B + S.length → H1[q]? = H[q]?) : Rep D B S σ H1 := fun a sh hs => by
  have hl : a < S.length := (List.getElem?_eq_some_iff.mp hs).1
  exact cell_cg (h a sh hs) (hq _ (by omega) (by omega)) fun _ => ⟨rfl, rfl⟩
theorem Rep.put {D : DD} {B : Nat} {S : List Sh} {σ σ' : St} {H H1 : Heap} (h : Rep D B S σ H) {a : Nat} {sh : Sh} (hs : S[a]? = some sh) (ho : ∀ b j, b ≠ a → gi σ' b j = gi σ b j ∧ gl σ' b j = gl σ b j) (hc : cellOK D B σ' a sh H1) (oq : ∀ q : Nat, q ≠ B + a → H1[q]? = H[q]?) : Rep D B S σ' H1 := fun b sh' hb => by
  by_cases e : b = a
  · subst e
    cases hs.symm.trans hb
    exact hc
  · exact cell_cg (h b sh' hb) (oq _ (by omega)) fun j => ho b j e
theorem ui_o {σ : St} {a k : Nat} {v : Int32} : ∀ b j, b ≠ a → gi (ui σ a k v) b j = gi σ b j ∧ gl (ui σ a k v) b j = gl σ b j := fun b j h => ⟨by rw [gi_ui, if_neg (fun e => h e.1)], rfl⟩
theorem ul_o {σ : St} {a k : Nat} {v : Int64} : ∀ b j, b ≠ a → gi (ul σ a k v) b j = gi σ b j ∧ gl (ul σ a k v) b j = gl σ b j := fun b j h => ⟨rfl, by rw [gl_ul, if_neg (fun e => h e.1)]⟩
/-- the cells of a region -/
def RA (B : Nat) (S : List Sh) : Nat → Prop := fun q => B ≤ q ∧ q < B + S.length
/-- the field entry idx of the class own's file is the field k of the objects of kind ci -/
def fl_ok (own : String) (idx ci k : Nat) : Prop := ∃ (C : String) (T : u_T) (N : Nat) (ref : String), vwCl[ci]? = some (C, T, N) ∧ k < N ∧ (∀ w ∈ u_ws C T N, w ∈ GT) ∧ Cond.fieldLink own idx ref (T k).2.1 (T k).2.2.1 ∈ GT ∧ (ref = (T k).1 ∨ Cond.sameField ref (T k).1 (T k).2.1 (T k).2.2.1 ∈ GT)
def fp_ok (own : String) (idx ci k : Nat) (ty : FieldType) : Prop := ∃ (C : String) (T : u_T) (N : Nat) (ref : String) (tys : Nat → FieldType), vwCl[ci]? = some (C, T, N) ∧ k < N ∧ (∀ w ∈ u_ws C T N, w ∈ GT) ∧ Cond.fieldLink own idx ref (T k).2.1 (T k).2.2.1 ∈ GT ∧ (ref = (T k).1 ∨ Cond.sameField ref (T k).1 (T k).2.1 (T k).2.2.1 ∈ GT) ∧
  (∀ j, j < N → parseFieldDescriptor (T j).2.2.1 = some (tys j)) ∧ (∀ a, a < N → ∀ b, b < N → a ≠ b → (T a).2.1 ≠ (T b).2.1) ∧ (T k).2.2.2 = false ∧ tys k = ty
theorem fl_same {own ref : String} {T : u_T} {k : Nat} {args : Array Value} {s : State} (hts : ∀ w ∈ GT, w.before args s = true) (h : ref = (T k).1 ∨ Cond.sameField ref (T k).1 (T k).2.1 (T k).2.2.1 ∈ GT) : ∀ x, s.fieldFound? (T k).1 (T k).2.1 (T k).2.2.1 = some x → s.fieldFound? ref (T k).2.1 (T k).2.2.1 = some x := by
  intro x hx
  rcases h with h | h
  · rw [h]; exact hx
  · exact u_same (hts _ h) x hx
abbrev inb (i : Int32) (n : Nat) : Prop := ¬ (i < 0 ∨ n ≤ i.toNatClampNeg)
section KHEAP
variable {p : Program} {l : Launch} {e : Env} {R : Room} {s : State} {m : MethodId} {args : Array Value} {below : List Frame} {meth : Method} {c : Code} {Q : State → Prop}
variable {A : Nat → Prop} {D : DD} {base B nL mc ms bc bs pc : Nat} {cc : ByteArray} {own : String} {L : List (Option Value)} {st : List Value} {S : List Sh} {σ : St}
theorem k_get (hF : KF D base cc own A nL mc ms p l e R s m args below meth c) {a ci k idx : Nat} {cs : List Nat} {v : Value} (hs : S[a]? = some (.inl (ci, cs))) (fl : fl_ok own idx ci k) (hd : decode cc pc = .ok (.getfield idx, 3)) (hv : sv B σ a k (cs.getD k 2) = v)
    (kk : KJ (Rep D B S) A nL mc ms Q p l e R s m args below meth c bc bs (pc + 3) L (v :: st) σ) : KJ (Rep D B S) A nL mc ms Q p l e R s m args below meth c bc bs pc L (.ref (B + a) :: st) σ := by
  intro H locs ls ce sl h1 h2 h3 h4 h5
  obtain ⟨hx, hb, hml, hown, hts, hKn, -⟩ := hF
  obtain ⟨C, T, N, ref, hc, hk, hin, hlink, hsame⟩ := fl
  obtain ⟨r, hr, cell, q1, q2, q3, q4⟩ := h1 a _ hs
  cases hr.symm.trans hc
  obtain ⟨hS, hfc, kC, hkC, hkind⟩ := hKn.1 ci _ hc
  obtain ⟨cf, kf, fi, f, hi, hsl⟩ := hS k hk
  refine W.getf hx hb hown (hts _ hlink) (fl_same (own := own) hts hsame _ hi) (u_facts hfc hkC (u_lays hts hin hk) hi).1 q1 (by rw [q3]; exact fun h => by cases h) (v := v) ?_ rfl rfl hd (kk H locs ls ce sl h1 h2 h3 h4 h5)
  rw [hsl, q4 k hk]
  exact congrArg some hv
theorem k_put (hF : KF D base cc own A nL mc ms p l e R s m args below meth c) (hA : ∀ q, RA B S q → A q) {a ci k idx : Nat} {cs : List Nat} {ty : FieldType} {v : Value} (σ' : St) (hs : S[a]? = some (.inl (ci, cs))) (fl : fp_ok own idx ci k ty) (hd : decode cc pc = .ok (.putfield idx, 3)) (hn : narrow ty v = v) (hfit : fits ty v = true)
    (ho : ∀ b j, b ≠ a → gi σ' b j = gi σ b j ∧ gl σ' b j = gl σ b j) (hv : ∀ j, updV (fun j => sv B σ a j (cs.getD j 2)) k v j = sv B σ' a j (cs.getD j 2))
    (kk : KJ (Rep D B S) A nL mc ms Q p l e R s m args below meth c bc bs (pc + 3) L st σ') : KJ (Rep D B S) A nL mc ms Q p l e R s m args below meth c bc bs pc L (v :: .ref (B + a) :: st) σ := by
  intro H locs ls ce sl h1 h2 h3 h4 h5
  obtain ⟨hx, hb, hml, hown, hts, hKn, -⟩ := hF
  obtain ⟨C, T, N, ref, tys, hc, hk, hin, hlink, hsame, hty, hnm, hfin, hd0⟩ := fl
  obtain ⟨r, hr, cell, q1, q2, q3, q4⟩ := h1 a _ hs
  cases hr.symm.trans hc
  have hap := va_apart (own := own) (D := D.1) (cl := vwCl) (tys := []) hts hin tys hty hnm ⟨hKn.1, fun k q h => by simp at h⟩ hc
  obtain ⟨hS, hfc, kC, hkC, hkind⟩ := hKn.1 ci _ hc
  obtain ⟨cf, kf, fi, f, hi, hsl⟩ := hS k hk
  have hlay := hts _ (hin _ (u_in_lay hk))
  unfold u_lay at hlay
  rw [if_neg (by rw [hfin]; decide)] at hlay
  have hst := (u_facts hfc hkC (u_lays hts hin hk) hi).1
  have h6 := u_store hfc hkC hkind hlay hi (by rw [hty k hk, hd0]) hn hfit
  refine W.putK hx hb (f := f) ⟨hown, hts _ hlink, ⟨_, _, _, fl_same (own := own) hts hsame _ hi⟩, hst⟩ (by rw [q2]; exact h6) q1 q3 (by rw [hsl]; exact k2_hasslot (q4 k hk)) rfl rfl hd fun H' e1 e2 e3 => ?_
  rw [hsl] at e1 ⊢
  have hl : a < S.length := (List.getElem?_eq_some_iff.mp hs).1
  exact kk H' _ ls ce sl (h1.put hs ho ⟨_, hc, t_OB.to (V := updV (fun j => sv B σ a j (cs.getD j 2)) k v) ⟨_, e1, q2, q3, t_set q4 hap hk v⟩ (fun j _ => hv j)⟩ e3) (h2.put e2 e3 (hA _ ⟨by omega, by omega⟩)) h3 h4 h5
theorem k_putI (hF : KF D base cc own A nL mc ms p l e R s m args below meth c) (hA : ∀ q, RA B S q → A q) {a ci k idx : Nat} {cs : List Nat} {ty : FieldType} {x : Int32} (hs : S[a]? = some (.inl (ci, cs))) (fl : fp_ok own idx ci k ty) (hd : decode cc pc = .ok (.putfield idx, 3)) (hk0 : cs.getD k 2 = 0) (hn : narrow ty (.int x) = .int x) (hfit : fits ty (.int x) = true)
    (kk : KJ (Rep D B S) A nL mc ms Q p l e R s m args below meth c bc bs (pc + 3) L st (ui σ a k x)) : KJ (Rep D B S) A nL mc ms Q p l e R s m args below meth c bc bs pc L (.int x :: .ref (B + a) :: st) σ := by
  refine k_put hF hA (ui σ a k x) hs fl hd hn hfit ui_o (fun j => ?_) kk
  by_cases h : j = k
  · subst h
    rw [hk0]
    simp [updV, sv, gi_ui]
  · rw [show updV (fun j => sv B σ a j (cs.getD j 2)) k (.int x) j = sv B σ a j (cs.getD j 2) from if_neg h]
    exact (sv_cg (σ := σ) (σ' := ui σ a k x) (by rw [gi_ui, if_neg (fun e => h e.2)]) rfl _).symm
theorem k_putL (hF : KF D base cc own A nL mc ms p l e R s m args below meth c) (hA : ∀ q, RA B S q → A q) {a ci k idx : Nat} {cs : List Nat} {x : Int64} (hs : S[a]? = some (.inl (ci, cs))) (fl : fp_ok own idx ci k .long) (hd : decode cc pc = .ok (.putfield idx, 3)) (hk0 : cs.getD k 2 = 1)
    (kk : KJ (Rep D B S) A nL mc ms Q p l e R s m args below meth c bc bs (pc + 3) L st (ul σ a k x)) : KJ (Rep D B S) A nL mc ms Q p l e R s m args below meth c bc bs pc L (.long x :: .ref (B + a) :: st) σ := by
  refine k_put hF hA (ul σ a k x) hs fl hd rfl rfl ul_o (fun j => ?_) kk
  by_cases h : j = k
  · subst h
    rw [hk0]
    simp [updV, sv, gl_ul]
  · rw [show updV (fun j => sv B σ a j (cs.getD j 2)) k (.long x) j = sv B σ a j (cs.getD j 2) from if_neg h]
    exact (sv_cg (σ := σ) (σ' := ul σ a k x) rfl (by rw [gl_ul, if_neg (fun e => h e.2)]) _).symm
theorem k_iald (hF : KF D base cc own A nL mc ms p l e R s m args below meth c) {a n : Nat} {i : Int32} (hs : S[a]? = some (.inr (0, n, fun _ => 0))) (hd : decode cc pc = .ok (.iaload, 1)) (hin : inb i n)
    (kk : KJ (Rep D B S) A nL mc ms Q p l e R s m args below meth c bc bs (pc + 1) L (.int (gi σ a i.toNatClampNeg) :: st) σ) : KJ (Rep D B S) A nL mc ms Q p l e R s m args below meth c bc bs pc L (.int i :: .ref (B + a) :: st) σ := by
  intro H locs ls ce sl h1 h2 h3 h4 h5
  have hlt : i.toNatClampNeg < n := Nat.not_le.mp fun q => hin (Or.inr q)
  exact W.iald (v := .int (gi σ a i.toNatClampNeg)) hF.1 hF.2.1 (h1 a _ hs) ((hF.2.2.2.2.2.1.2.1 0).1 n _) (fun q => by cases q) (by show ¬ (i < 0 ∨ (arrV _ _ _).slots.size ≤ _); rw [arrV_size]; exact hin) (by show (arrV _ _ _).slots[_]? = _; rw [arrV_read _ _ hlt]; rfl) rfl rfl hd (kk H locs ls ce sl h1 h2 h3 h4 h5)
theorem k_zald (hF : KF D base cc own A nL mc ms p l e R s m args below meth c) {a n : Nat} {i : Int32} (hs : S[a]? = some (.inr (1, n, fun _ => 0))) (hd : decode cc pc = .ok (.baload, 1)) (hin : inb i n)
    (kk : KJ (Rep D B S) A nL mc ms Q p l e R s m args below meth c bc bs (pc + 1) L (.int (gi σ a i.toNatClampNeg) :: st) σ) : KJ (Rep D B S) A nL mc ms Q p l e R s m args below meth c bc bs pc L (.int i :: .ref (B + a) :: st) σ := by
  intro H locs ls ce sl h1 h2 h3 h4 h5
  have hlt : i.toNatClampNeg < n := Nat.not_le.mp fun q => hin (Or.inr q)
  exact W.zald (v := .int (gi σ a i.toNatClampNeg)) hF.1 hF.2.1 (h1 a _ hs) ((hF.2.2.2.2.2.1.2.1 1).1 n _) (fun q => by cases q) (by show ¬ (i < 0 ∨ (arrV _ _ _).slots.size ≤ _); rw [arrV_size]; exact hin) (by show (arrV _ _ _).slots[_]? = _; rw [arrV_read _ _ hlt]; rfl) rfl rfl hd (kk H locs ls ce sl h1 h2 h3 h4 h5)
theorem k_aald (hF : KF D base cc own A nL mc ms p l e R s m args below meth c) {a n t q0 : Nat} {f : Nat → Nat} {i : Int32} (hs : S[a]? = some (.inr (t, n, f))) (hty : (aty t).isReference = true) (hd : decode cc pc = .ok (.aaload, 1)) (hin : inb i n) (hf : f i.toNatClampNeg = q0 + 3)
    (kk : KJ (Rep D B S) A nL mc ms Q p l e R s m args below meth c bc bs (pc + 1) L (.ref (B + q0) :: st) σ) : KJ (Rep D B S) A nL mc ms Q p l e R s m args below meth c bc bs pc L (.int i :: .ref (B + a) :: st) σ := by
  intro H locs ls ce sl h1 h2 h3 h4 h5
  have hlt : i.toNatClampNeg < n := Nat.not_le.mp fun q => hin (Or.inr q)
  exact W.aald (v := .ref (B + q0)) (ty := aty t) hF.1 hF.2.1 (h1 a _ hs) ((hF.2.2.2.2.2.1.2.1 t).1 n _) hty (fun q => by cases q) (by show ¬ (i < 0 ∨ (arrV _ _ _).slots.size ≤ _); rw [arrV_size]; exact hin) (by show (arrV _ _ _).slots[_]? = _; rw [arrV_read _ _ hlt, hf]; rfl) rfl rfl hd (kk H locs ls ce sl h1 h2 h3 h4 h5)
theorem k_alen (hF : KF D base cc own A nL mc ms p l e R s m args below meth c) {a n t : Nat} {f : Nat → Nat} {v : Int32} (hs : S[a]? = some (.inr (t, n, f))) (hd : decode cc pc = .ok (.arraylength, 1)) (hv : Int32.ofNat n = v)
    (kk : KJ (Rep D B S) A nL mc ms Q p l e R s m args below meth c bc bs (pc + 1) L (.int v :: st) σ) : KJ (Rep D B S) A nL mc ms Q p l e R s m args below meth c bc bs pc L (.ref (B + a) :: st) σ := by
  intro H locs ls ce sl h1 h2 h3 h4 h5
  exact W.alen (n := v) hF.1 hF.2.1 (h1 a _ hs) ((hF.2.2.2.2.2.1.2.1 t).1 n _) (by rw [arrV_size]; exact hv) rfl rfl hd (kk H locs ls ce sl h1 h2 h3 h4 h5)
theorem arr_up {D : DD} {B a n t k : Nat} {σ : St} {x : Int32} {H1 : Heap} (e1 : H1[B + a]? = some ((arrV (D.2 t) n (fun j => sv B σ a j 0)).setSlot k (.int x))) : cellOK D B (ui σ a k x) a (.inr (t, n, fun _ => 0)) H1 := by
  show H1[B + a]? = _
  rw [e1, arrV_store]
  congr 2
  funext j
  by_cases h : j = k
  · subst h; simp [updV, sv, gi_ui]
  · simp [updV, sv, gi_ui, h]
theorem k_iast (hF : KF D base cc own A nL mc ms p l e R s m args below meth c) (hA : ∀ q, RA B S q → A q) {a n : Nat} {i x : Int32} (hs : S[a]? = some (.inr (0, n, fun _ => 0))) (hd : decode cc pc = .ok (.iastore, 1)) (hin : inb i n)
    (kk : KJ (Rep D B S) A nL mc ms Q p l e R s m args below meth c bc bs (pc + 1) L st (ui σ a i.toNatClampNeg x)) : KJ (Rep D B S) A nL mc ms Q p l e R s m args below meth c bc bs pc L (.int x :: .int i :: .ref (B + a) :: st) σ := by
  intro H locs ls ce sl h1 h2 h3 h4 h5
  have hl : a < S.length := (List.getElem?_eq_some_iff.mp hs).1
  refine W.iast hF.1 hF.2.1 (h1 a _ hs) ((hF.2.2.2.2.2.1.2.1 0).1 n _) (fun q => by cases q) (by show ¬ (i < 0 ∨ (arrV _ _ _).slots.size ≤ _); rw [arrV_size]; exact hin) rfl rfl hd fun H1 e z oq => ?_
  exact kk H1 _ ls ce sl (h1.put hs ui_o (arr_up e) oq) (h2.put z oq (hA _ ⟨by omega, by omega⟩)) h3 h4 h5
theorem k_zast (hF : KF D base cc own A nL mc ms p l e R s m args below meth c) (hA : ∀ q, RA B S q → A q) {a n : Nat} {i x : Int32} (hs : S[a]? = some (.inr (1, n, fun _ => 0))) (hd : decode cc pc = .ok (.bastore, 1)) (hin : inb i n) (hn : narrow .boolean (.int x) = .int x)
    (kk : KJ (Rep D B S) A nL mc ms Q p l e R s m args below meth c bc bs (pc + 1) L st (ui σ a i.toNatClampNeg x)) : KJ (Rep D B S) A nL mc ms Q p l e R s m args below meth c bc bs pc L (.int x :: .int i :: .ref (B + a) :: st) σ := by
  intro H locs ls ce sl h1 h2 h3 h4 h5
  have hl : a < S.length := (List.getElem?_eq_some_iff.mp hs).1
  refine W.zast hF.1 hF.2.1 (h1 a _ hs) ((hF.2.2.2.2.2.1.2.1 1).1 n _) (fun q => by cases q) (by show ¬ (i < 0 ∨ (arrV _ _ _).slots.size ≤ _); rw [arrV_size]; exact hin) rfl rfl hd fun H1 e z oq => ?_
  rw [hn] at e
  exact kk H1 _ ls ce sl (h1.put hs ui_o (arr_up e) oq) (h2.put z oq (hA _ ⟨by omega, by omega⟩)) h3 h4 h5
/-- a method that returns r and leaves σ', from σ; it changes the region alone, and makes nothing -/
def MetR (l : Launch) (D : DD) (B : Nat) (S : List Sh) (base : Nat) (y : MethodName) (b : ByteArray) (nL : Nat) (ret : Option FieldType) (fr lo : Nat) (as : List Value) (σ : St) (r : Option Value) (σ' : St) : Prop :=
  Met l y (Cond.code y b nL ret :: GT) { frames := fr, cells := 0, slots := 0, locals := lo } (va_Pc as (fun U => Rep D B S σ U.heap ∧ Kn D base U)) (fun _ st oc t => oc = .returned r ∧ Rep D B S σ' t.heap ∧ va_F (RA B S) st t) 0 0 (RA B S)
theorem MetR.of {l : Launch} {y : MethodName} {b : ByteArray} {ret : Option FieldType} {fr lo : Nat} {as : List Value} {r : Option Value} {σ' : St} (hy : plainName y.cls = true) (hcat : ∀ v ∈ as, v.category = 1) (hlen : as.length ≤ nL) (hbase : base ≤ B)
    (body : ∀ p e s m args below meth c, KF D base b y.cls (RA B S) nL 0 0 p l e { frames := fr, cells := 0, slots := 0, locals := lo } s m args below meth c → meth.sig.returnType = ret →
      KJ (Rep D B S) (RA B S) nL 0 0 (MQ below (fun _ st oc t => oc = .returned r ∧ Rep D B S σ' t.heap ∧ va_F (RA B S) st t) args s 0 0 (RA B S)) p l e { frames := fr, cells := 0, slots := 0, locals := lo } s m args below meth c 0 0 0 (as.map some ++ List.replicate (nL - as.length) none) [] σ) : MetR l D B S base y b nL ret fr lo as σ r σ' := by
  refine Met.ofW (cc := b) (maxL := nL) (ret := ret) hy rfl ?_
  intro p e s m args below meth c s₁ B₁ hml hv
  obtain ⟨rfl, hRep, hKn⟩ := hv
  have hts := atoms_spec (ws := Cond.code y b nL ret :: GT) B₁.pre
  have hF : KF D base b y.cls (RA B S) nL 0 0 p l e { frames := fr, cells := 0, slots := 0, locals := lo } s m as.toArray below meth c :=
    ⟨B₁.exec, B₁.bytes, hml, findClass_of_methodNamed B₁.named, fun w h => hts w (List.mem_cons_of_mem _ h), hKn, rfl, rfl, B₁.notSynchronized, fun q h => Nat.le_trans hbase h.1⟩
  have h := body p e s m as.toArray below meth c hF B₁.returns s.heap [] _ 0 0 hRep va_S.rf (lvok.entry as nL hcat hlen) (Nat.le_refl _) (Nat.le_refl _)
  rw [entry_eq m as hcat nL]
  exact h
theorem k_iret (hF : KF D base cc own A nL 0 0 p l e R s m args below meth c) {x : Int32} {ty : FieldType} (hr : meth.sig.returnType = some ty) (hn : narrow ty (.int x) = .int x) (hd : decode cc pc = .ok (.ireturn, 1)) :
    KJ (Rep D B S) A nL 0 0 (MQ below (fun _ st oc t => oc = .returned (some (.int x)) ∧ Rep D B S σ t.heap ∧ va_F A st t) args s 0 0 A) p l e R s m args below meth c 0 0 pc L [.int x] σ := by
  intro H locs ls ce sl h1 h2 h3 h4 h5
  have hc0 : ce = 0 := by omega
  have hs0 : sl = 0 := by omega
  subst hc0; subst hs0
  exact W.zret hF.1 hF.2.1 hr hn (fun t ht hW => ⟨rfl, by rw [ht]; exact h1, h2.F ht⟩) h2.2.2 hd hF.2.2.2.2.2.2.2.2.1
theorem k_vret (hF : KF D base cc own A nL 0 0 p l e R s m args below meth c) (hr : meth.sig.returnType = none) (hd : decode cc pc = .ok (.return_, 1)) :
    KJ (Rep D B S) A nL 0 0 (MQ below (fun _ st oc t => oc = .returned none ∧ Rep D B S σ t.heap ∧ va_F A st t) args s 0 0 A) p l e R s m args below meth c 0 0 pc L [] σ := by
  intro H locs ls ce sl h1 h2 h3 h4 h5
  have hc0 : ce = 0 := by omega
  have hs0 : sl = 0 := by omega
  subst hc0; subst hs0
  exact W.vret hF.1 hF.2.1 hr (fun t ht hW => ⟨rfl, by rw [ht]; exact h1, h2.F ht⟩) h2.2.2 hd hF.2.2.2.2.2.2.2.2.1
theorem k_aret (hF : KF D base cc own A nL 0 0 p l e R s m args below meth c) {q : Nat} {ty : FieldType} (hr : meth.sig.returnType = some ty) (hrt : (∃ n, ty = .object n) ∨ ∃ t, ty = .array t) (hd : decode cc pc = .ok (.areturn, 1)) :
    KJ (Rep D B S) A nL 0 0 (MQ below (fun _ st oc t => oc = .returned (some (.ref q)) ∧ Rep D B S σ t.heap ∧ va_F A st t) args s 0 0 A) p l e R s m args below meth c 0 0 pc L [.ref q] σ := by
  intro H locs ls ce sl h1 h2 h3 h4 h5
  have hc0 : ce = 0 := by omega
  have hs0 : sl = 0 := by omega
  subst hc0; subst hs0
  exact W.aret hF.1 hF.2.1 hr hrt (Or.inr ⟨_, rfl⟩) (fun t ht hW => ⟨rfl, by rw [ht]; exact h1, h2.F ht⟩) h2.2.2 hd hF.2.2.2.2.2.2.2.2.1
/-- the words of a call by an object -/
def mv_ok (own : String) (idx : Nat) (C : String) (y : MethodName) (b : ByteArray) (nL : Nat) (ret : Option FieldType) (n : Nat) : Prop :=
  (∀ w ∈ ([.methodLink own idx y, .instanceMethod y, .selects C y y, .initialized y.cls, .code y b nL ret] : List Cond), w ∈ GT) ∧ y.cls ≠ "java/lang/invoke/MethodHandle" ∧ y.cls ≠ "java/lang/invoke/VarHandle" ∧ (parseMethodDescriptor y.desc).map (fun d => d.parameters.length) = some n
/-- of a call of an inherited method -/
def mu_ok (own : String) (idx : Nat) (C owner : String) (x y : MethodName) (b : ByteArray) (nL : Nat) (ret : Option FieldType) (n : Nat) : Prop :=
  (∀ w ∈ ([.methodLink own idx x, .sameMethod x.cls owner x.name x.desc, .selects C x y, .instanceMethod y, .initialized y.cls, .code y b nL ret] : List Cond), w ∈ GT) ∧ y = ⟨owner, x.name, x.desc⟩ ∧ owner ≠ "java/lang/invoke/MethodHandle" ∧ owner ≠ "java/lang/invoke/VarHandle" ∧ (parseMethodDescriptor x.desc).map (fun d => d.parameters.length) = some n
/-- of a static call -/
def ms_ok (own : String) (idx : Nat) (y : MethodName) (b : ByteArray) (nL : Nat) (ret : Option FieldType) (n : Nat) : Prop :=
  (∀ w ∈ ([.methodLink own idx y, .static y, .initialized y.cls, .code y b nL ret] : List Cond), w ∈ GT) ∧ y.cls ≠ "java/lang/invoke/MethodHandle" ∧ y.cls ≠ "java/lang/invoke/VarHandle" ∧ (parseMethodDescriptor y.desc).map (fun d => d.parameters.length) = some n
theorem pc_blind {as : List Value} : FrameBlind (va_Pc as (fun U => Rep D B S σ U.heap ∧ Kn D base U)) := fun a U g mk h => ⟨h.1, h.2.1, h.2.2.calling g mk a⟩
theorem k_after {R : Room} {H : Heap} {locs : List Loc} {ls : Array Slot} {ce sl : Nat} {st0 : List Value} {r : Option Value} {σ' : St} (hA : ∀ q, RA B S q → A q) (h2 : va_S A s.heap H locs) (h3 : lvok ls nL L) (h4 : ce + bc ≤ mc) (h5 : sl + bs ≤ ms)
    (hr : va_Run p l e R s m args below meth c H locs ce sl 0 0 (F0 m pc ls st0) st (fun st oc t => oc = .returned r ∧ Rep D B S σ' t.heap ∧ va_F (RA B S) st t) (RA B S))
    (kk : KJ (Rep D B S) A nL mc ms Q p l e R s m args below meth c bc bs (pc + 3) L (r.toList ++ st) σ') : W p l e R s m args below meth c H locs ce sl Q (F0 m pc ls st0) := by
  intro T hT X
  obtain ⟨v, st₀, t, T', Lc, h0, X', hL, e1, e2, ⟨hv, hp, hz, hk⟩, stp⟩ := hr T hT X
  cases hv
  rw [h0] at hz hk
  obtain ⟨t2, a1, b1⟩ := kk T'.heap (locs ++ Lc) ls ce sl (by rw [e1]; exact hp) ⟨Nat.le_trans h2.1 (by rw [e1]; exact hz), fun q h1 hq => by rw [e1, hk q (Nat.lt_of_lt_of_le h1 h2.1) (fun z => hq (hA q z))]; exact h2.2.1 q h1 hq, fun q hq => by
      rcases List.mem_append.mp hq with h | h
      · exact h2.2.2 q h
      · exact hA _ (hL q h)⟩ h3 h4 h5 T' rfl X'
  exact ⟨t2, stp t2 a1, b1⟩
theorem kn_at {H : Heap} {locs : List Loc} (hF : KF D base cc own A nL mc ms p l e R s m args below meth c) (h2 : va_S A s.heap H locs) {U : State} (hU : U.heap = H) (hW : s.WarmedH U.vm) : Kn D base U :=
  Kn.moved hW (fun a ha hb => by rw [hU]; exact h2.2.1 a ha (fun z => hb (hF.2.2.2.2.2.2.2.2.2 a z))) hF.2.2.2.2.2.1
theorem gt_gi (hts : ∀ w ∈ GT, w.before args s = true) {ws : List Cond} (h : ∀ w ∈ ws, w ∈ GT) : GoodIn GT ws := fun w hw => ⟨h w hw, gt_good (h w hw)⟩
theorem k_callV {R : Room} (hF : KF D base cc own A nL mc ms p l e R s m args below meth c) (hA : ∀ q, RA B S q → A q) {a ci idx n nL' fr lo : Nat} {cs : List Nat} {C : String} {T : u_T} {N : Nat} {y : MethodName} {b : ByteArray} {ret : Option FieldType} {as : List Value} {r : Option Value} {σ' : St} {st0 : List Value}
    (hm : MetR l D B S base y b nL' ret fr lo (.ref (B + a) :: as) σ r σ') (mv : mv_ok own idx C y b nL' ret n) (hs : S[a]? = some (.inl (ci, cs))) (hci : vwCl[ci]? = some (C, T, N)) (hn : as.length = n) (hst : st0 = as.reverse ++ .ref (B + a) :: st) (hR : fr + 1 ≤ R.frames ∧ 8 + (nL' + 11) + lo ≤ R.locals) (hW : (st.map fun v => v.category).sum ≤ 8) (hd : decode cc pc = .ok (.invokevirtual idx, 3))
    (kk : KJ (Rep D B S) A nL mc ms Q p l e R s m args below meth c bc bs (pc + 3) L (r.toList ++ st) σ') : KJ (Rep D B S) A nL mc ms Q p l e R s m args below meth c bc bs pc L st0 σ := by
  intro H locs ls ce sl h1 h2 h3 h4 h5
  subst hst
  obtain ⟨hx, hb, hml, hown, hts, hKn, hRc, hRs, -⟩ := id hF
  obtain ⟨hw, hd4⟩ := mv
  obtain ⟨r9, hr9, cell, q1, q2, q3, q4⟩ := h1 a _ hs
  cases hr9.symm.trans hci
  have hcw : CallW R s args own C idx y b nL' ret (Cond.code y b nL' ret :: GT) { frames := fr, cells := 0, slots := 0, locals := lo } 0 0 n := ⟨callB_of n hts (gt_gi hts (ws := Cond.code y b nL' ret :: GT) (fun w h => by
    rcases List.mem_cons.mp h with h | h
    · exact hw w (by rw [h]; exact List.mem_of_getElem? (i := 4) rfl)
    · exact h)) rfl rfl rfl (hts _ (hw _ (List.mem_of_getElem? (i := 3) rfl))) (hts _ (hw _ (List.mem_of_getElem? (i := 0) rfl))) hd4 hR, hts _ (hw _ (List.mem_of_getElem? (i := 1) rfl)), hts _ (hw _ (List.mem_of_getElem? (i := 2) rfl))⟩
  exact k_after hA h2 h3 h4 h5 (va_runV (As := as) (rest := st) ⟨hx, hb, hml, hown, hts⟩ hm hcw ⟨pc_blind, ⟨cell, q1, by rw [q3]; rfl, by rw [q2]; exact (hKn.1 ci _ hci).2.1⟩, fun U hU hW => ⟨rfl, by rw [hU]; exact h1, kn_at hF h2 hU hW⟩⟩ rfl hn h3.1 rfl (lv_room hW) hd ⟨by rw [hRc]; omega, by rw [hRs]; omega⟩) kk
theorem k_callU {R : Room} (hF : KF D base cc own A nL mc ms p l e R s m args below meth c) (hA : ∀ q, RA B S q → A q) {a ci idx n nL' fr lo : Nat} {cs : List Nat} {C owner : String} {T : u_T} {N : Nat} {x y : MethodName} {b : ByteArray} {ret : Option FieldType} {as : List Value} {r : Option Value} {σ' : St} {st0 : List Value}
    (hm : MetR l D B S base y b nL' ret fr lo (.ref (B + a) :: as) σ r σ') (mv : mu_ok own idx C owner x y b nL' ret n) (hs : S[a]? = some (.inl (ci, cs))) (hci : vwCl[ci]? = some (C, T, N)) (hn : as.length = n) (hst : st0 = as.reverse ++ .ref (B + a) :: st) (hR : fr + 1 ≤ R.frames ∧ 8 + (nL' + 11) + lo ≤ R.locals) (hW : (st.map fun v => v.category).sum ≤ 8) (hd : decode cc pc = .ok (.invokevirtual idx, 3))
    (kk : KJ (Rep D B S) A nL mc ms Q p l e R s m args below meth c bc bs (pc + 3) L (r.toList ++ st) σ') : KJ (Rep D B S) A nL mc ms Q p l e R s m args below meth c bc bs pc L st0 σ := by
  intro H locs ls ce sl h1 h2 h3 h4 h5
  subst hst
  obtain ⟨hx, hb, hml, hown, hts, hKn, hRc, hRs, -⟩ := id hF
  obtain ⟨hw, hyx, hd4⟩ := mv
  obtain ⟨r9, hr9, cell, q1, q2, q3, q4⟩ := h1 a _ hs
  cases hr9.symm.trans hci
  have hcw := va_cwU (R := R) (index := idx) (rm := { frames := fr, cells := 0, slots := 0, locals := lo }) (mc := 0) (ms := 0) n hts (gt_gi hts (ws := va_wsU own idx C owner x y (Cond.code y b nL' ret :: GT)) (fun w h => by
    rcases List.mem_append.mp h with h | h
    · exact hw w (List.mem_append_left [_] h)
    · rcases List.mem_cons.mp h with h | h
      · exact hw w (by rw [h]; exact List.mem_append_right [_, _, _, _, _] List.mem_cons_self)
      · exact h)) rfl rfl rfl hyx hd4 hR
  exact k_after hA h2 h3 h4 h5 (va_runU (As := as) (rest := st) ⟨hx, hb, hml, hown, hts⟩ hm hcw ⟨pc_blind, ⟨cell, q1, by rw [q3]; rfl, by rw [q2]; exact (hKn.1 ci _ hci).2.1⟩, fun U hU hW => ⟨rfl, by rw [hU]; exact h1, kn_at hF h2 hU hW⟩⟩ rfl hn h3.1 rfl (lv_room hW) hd ⟨by rw [hRc]; omega, by rw [hRs]; omega⟩) kk
theorem k_callS {R : Room} (hF : KF D base cc own A nL mc ms p l e R s m args below meth c) (hA : ∀ q, RA B S q → A q) {idx n nL' fr lo : Nat} {y : MethodName} {b : ByteArray} {ret : Option FieldType} {as : List Value} {r : Option Value} {σ' : St} {st0 : List Value}
    (hm : MetR l D B S base y b nL' ret fr lo as σ r σ') (mv : ms_ok own idx y b nL' ret n) (hn : as.length = n) (hst : st0 = as.reverse ++ st) (hR : fr + 1 ≤ R.frames ∧ 8 + (nL' + 11) + lo ≤ R.locals) (hW : (st.map fun v => v.category).sum ≤ 8) (hd : decode cc pc = .ok (.invokestatic idx, 3))
    (kk : KJ (Rep D B S) A nL mc ms Q p l e R s m args below meth c bc bs (pc + 3) L (r.toList ++ st) σ') : KJ (Rep D B S) A nL mc ms Q p l e R s m args below meth c bc bs pc L st0 σ := by
  intro H locs ls ce sl h1 h2 h3 h4 h5
  subst hst
  obtain ⟨hx, hb, hml, hown, hts, hKn, hRc, hRs, -⟩ := id hF
  obtain ⟨hw, hd4⟩ := mv
  have hcw := va_cwS (R := R) (own := own) (index := idx) (rm := { frames := fr, cells := 0, slots := 0, locals := lo }) (mc := 0) (ms := 0) n hts (gt_gi hts (ws := va_wsS own idx y (Cond.code y b nL' ret :: GT)) (fun w h => by
    rcases List.mem_append.mp h with h | h
    · exact hw w (List.mem_append_left [_] h)
    · rcases List.mem_cons.mp h with h | h
      · exact hw w (by rw [h]; exact List.mem_append_right [_, _, _] List.mem_cons_self)
      · exact h)) rfl rfl rfl hd4 hR
  exact k_after hA h2 h3 h4 h5 (va_runS (As := as) (rest := st) ⟨hx, hb, hml, hown, hts⟩ hm hcw ⟨pc_blind, fun U hU hW => ⟨rfl, by rw [hU]; exact h1, kn_at hF h2 hU hW⟩⟩ rfl hn h3.1 rfl (lv_room hW) hd ⟨by rw [hRc]; omega, by rw [hRs]; omega⟩) kk
end KHEAP
