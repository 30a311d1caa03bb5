section KEXTRA
variable {p : Program} {l : Launch} {e : Env} {R : Room} {s : State} {m : MethodId} {args : Array Value} {below : List Frame} {meth : Method} {c : Code} {Q : State → Prop}
variable {X : Type} {Rp : X → Heap → Prop} {A : Nat → Prop} {D : DD} {base B nL mc ms bc bs pc : Nat} {cc : ByteArray} {own : String} {L L' : List (Option Value)} {st : List Value} {σ : X}
theorem k_ldcw (hF : KF D base cc own A nL mc ms p l e R s m args below meth c) {ix : Nat} {v : Int32} (hc : Cond.constant own ix v ∈ GT) (hd : decode cc pc = .ok (.ldc_w ix, 3)) (k : KJ Rp A nL mc ms Q p l e R s m args below meth c bc bs (pc + 3) L (.int v :: st) σ) : KJ Rp A nL mc ms Q p l e R s m args below meth c bc bs pc L st σ := fun H locs ls ce sl h1 h2 h3 h4 h5 => lv_ldcw hF.1 hF.2.1 hF.2.2.2.1 (hF.2.2.2.2.1 _ hc) hd (k H locs ls ce sl h1 h2 h3 h4 h5)

theorem k_lcmp (hF : KF D base cc own A nL mc ms p l e R s m args below meth c) {x y : Int64} (hd : decode cc pc = .ok (.lcmp, 1)) (k : KJ Rp A nL mc ms Q p l e R s m args below meth c bc bs (pc + 1) L (.int (lg_cmp x y) :: st) σ) : KJ Rp A nL mc ms Q p l e R s m args below meth c bc bs pc L (.long y :: .long x :: st) σ := fun H locs ls ce sl h1 h2 h3 h4 h5 => W.lcmp hF.1 hF.2.1 hd (k H locs ls ce sl h1 h2 h3 h4 h5)
theorem k_look (hF : KF D base cc own A nL mc ms p l e R s m args below meth c) {dflt : Int} {ps : Array (Int × Int)} {len : Nat} {x : Int32} {off : Int} {tgt : Nat} (hd : decode cc pc = .ok (.lookupswitch dflt ps, len)) (hp : (ps.toList.zip (ps.toList.drop 1)).all (fun (a, next) => a.1 < next.1) = true) (ho : Op.lookupswitch.offset ps.toList dflt x.toInt = off) (ht : (pc : Int) + off = (tgt : Int))
    (k : KJ Rp A nL mc ms Q p l e R s m args below meth c bc bs tgt L st σ) : KJ Rp A nL mc ms Q p l e R s m args below meth c bc bs pc L (.int x :: st) σ := fun H locs ls ce sl h1 h2 h3 h4 h5 => lv_lookup hF.1 hF.2.1 hd hp ho ht (k H locs ls ce sl h1 h2 h3 h4 h5)
end KEXTRA
/-- a static call of a nest mate's private method -/
def msn_ok (own : String) (idx : Nat) (host : String) (y : MethodName) (b : ByteArray) (nL : Nat) (ret : Option FieldType) (n : Nat) : Prop :=
  (∀ w ∈ ([.static y, .initialized y.cls, .code y b nL ret] : List Cond), w ∈ GT) ∧ Cond.methodLinkNest own idx y host ∈ BW ∧ y.cls ≠ "java/lang/invoke/MethodHandle" ∧ y.cls ≠ "java/lang/invoke/VarHandle" ∧ (parseMethodDescriptor y.desc).map (fun d => d.parameters.length) = some n
theorem bw_s {w : Cond} (i : Nat) (h : lw_tbl[i]? = some w) (hg : bwOK w = true) : w ∈ BW := List.mem_filter.mpr ⟨List.mem_of_getElem? h, hg⟩
section KNEST
variable {p : Program} {l : Launch} {e : Env} {s : State} {m : MethodId} {args : Array Value} {below : List Frame} {meth : Method} {c : Code} {Q : State → Prop}
variable {A : Nat → Prop} {D : DD} {base B nL mc ms bc bs pc : Nat} {cc : ByteArray} {own : String} {L : List (Option Value)} {st : List Value} {S : List Sh} {σ : St}
theorem k_callSN {R : Room} (hF : KF D base cc own A nL mc ms p l e R s m args below meth c) (hA : ∀ q, RA B S q → A q) {idx n nL' fr lo : Nat} {host : String} {y : MethodName} {b : ByteArray} {ret : Option FieldType} {as : List Value} {r : Option Value} {σ' : St} {st0 : List Value}
    (hm : MetR l D B S base y b nL' ret fr lo as σ r σ') (mv : msn_ok own idx host y b nL' ret n) (hn : as.length = n) (hst : st0 = as.reverse ++ st) (hR : fr + 1 ≤ R.frames ∧ 8 + (nL' + 11) + lo ≤ R.locals) (hW : (st.map fun v => v.category).sum ≤ 8) (hd : decode cc pc = .ok (.invokestatic idx, 3))
    (kk : KJ (Rep D B S) A nL mc ms Q p l e R s m args below meth c bc bs (pc + 3) L (r.toList ++ st) σ') : KJ (Rep D B S) A nL mc ms Q p l e R s m args below meth c bc bs pc L st0 σ := by
  intro H locs ls ce sl h1 h2 h3 h4 h5
  subst hst
  obtain ⟨hx, hb, hml, hown, hts, hKn, hRc, hRs, -⟩ := id hF
  obtain ⟨hw, hbw, hd4⟩ := mv
  have hcw := va_cnB (R := R) (own := own) (index := idx) (host := host) (args := args) (rm := { frames := fr, cells := 0, slots := 0, locals := lo }) (mc := 0) (ms := 0) n hts (gt_gi hts (ws := Cond.code y b nL' ret :: GT) (fun w h => by
    rcases List.mem_cons.mp h with h | h
    · exact hw w (by rw [h]; exact List.mem_append_right [_, _] List.mem_cons_self)
    · exact h)) rfl rfl rfl (hKn.2.2.2.2.1 _ hbw) (hts _ (hw _ (List.mem_of_getElem? (i := 1) rfl))) hd4 hR
  exact k_after hA h2 h3 h4 h5 (va_runSN (As := as) (rest := st) ⟨hx, hb, hml, hown, hts⟩ hm ⟨hcw, hts _ (hw _ (List.mem_of_getElem? (i := 0) rfl)), trivial⟩ ⟨pc_blind, fun U hU hW => ⟨rfl, by rw [hU]; exact h1, kn_at hF h2 hU hW⟩⟩ rfl hn h3.1 rfl (lv_room hW) hd ⟨by rw [hRc]; omega, by rw [hRs]; omega⟩) kk
end KNEST
