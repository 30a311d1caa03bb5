/-- a loop: step by step until it leaves -/
def runN {X E : Type} (step : X → Option (X ⊕ E)) : Nat → X → Option E
  | 0, _ => none
  | n + 1, x => match step x with
    | none => none
    | some (.inl x') => runN step n x'
    | some (.inr e) => some e
theorem runN_mono {X E : Type} {step : X → Option (X ⊕ E)} : ∀ {n : Nat} {x : X} {e : E} (k : Nat), runN step n x = some e → runN step (n + k) x = some e
  | 0, x, e, k, h => by simp [runN] at h
  | n + 1, x, e, k, h => by
    rw [show n + 1 + k = (n + k) + 1 by omega]
    unfold runN at h ⊢
    split at h
    · cases h
    · exact runN_mono k h
    · exact h
noncomputable def loopF {X E : Type} (step : X → Option (X ⊕ E)) (x : X) : Option E :=
  @dite _ (∃ q : Nat × E, runN step q.1 x = some q.2) (Classical.propDecidable _) (fun h => some (Classical.choose h).2) (fun _ => none)
theorem loopF_run {X E : Type} {step : X → Option (X ⊕ E)} {x : X} {e : E} (h : loopF step x = some e) : ∃ n, runN step n x = some e := by
  unfold loopF at h
  split at h
  · rename_i q
    cases h
    exact ⟨_, Classical.choose_spec q⟩
  · cases h
theorem loopF_of {X E : Type} {step : X → Option (X ⊕ E)} {x : X} {e : E} {n : Nat} (h : runN step n x = some e) : loopF step x = some e := by
  unfold loopF
  split
  · rename_i q
    have h2 := Classical.choose_spec q
    have h3 := runN_mono (Classical.choose q).1 h
    have h4 := runN_mono n h2
    rw [Nat.add_comm] at h4
    exact congrArg some (Option.some.inj (h4.symm.trans h3))
  · rename_i q
    exact absurd ⟨(n, e), h⟩ q
theorem loopF_end {X E : Type} {step : X → Option (X ⊕ E)} {x : X} {e : E} (h : step x = some (.inr e)) : loopF step x = some e := loopF_of (n := 1) (by simp [runN, h])
theorem loopF_go {X E : Type} {step : X → Option (X ⊕ E)} {x x' : X} {e : E} (h : step x = some (.inl x')) (h2 : loopF step x' = some e) : loopF step x = some e := by
  obtain ⟨n, hn⟩ := loopF_run h2
  exact loopF_of (n := n + 1) (by unfold runN; rw [h]; exact hn)
/-- a loop whose states are known: x 0, x 1 .. x N, and out of the last -/
theorem loopF_seq {X E : Type} {step : X → Option (X ⊕ E)} (x : Nat → X) (N : Nat) {e : E} (hs : ∀ k, k < N → step (x k) = some (.inl (x (k + 1)))) (he : step (x N) = some (.inr e)) : loopF step (x 0) = some e := by
  have key : ∀ j, j ≤ N → loopF step (x (N - j)) = some e := by
    intro j
    induction j with
    | zero => intro _; exact loopF_end he
    | succ j ih =>
      intro hj
      have h1 := hs (N - (j + 1)) (by omega)
      rw [show N - (j + 1) + 1 = N - j by omega] at h1
      exact loopF_go h1 (ih (by omega))
  have := key N (Nat.le_refl _)
  rwa [Nat.sub_self] at this
theorem k_loop {X E : Type} {step : X → Option (X ⊕ E)} {P : X → Prop} {C : E → Prop} (hs : ∀ x z, step x = some z → (∀ x', z = .inl x' → P x') → (∀ e, z = .inr e → C e) → P x) {x : X} {e : E} (h : loopF step x = some e) (hc : C e) : P x := by
  obtain ⟨n, hn⟩ := loopF_run h
  induction n generalizing x with
  | zero => simp [runN] at hn
  | succ n ih =>
    cases hz : step x with
    | none => unfold runN at hn; rw [hz] at hn; cases hn
    | some z =>
      refine hs x z hz (fun x' e1 => ?_) (fun e' e1 => ?_)
      · subst e1
        unfold runN at hn; rw [hz] at hn
        exact ih (loopF_of hn) hn
      · subst e1
        unfold runN at hn; rw [hz] at hn
        cases hn
        exact hc
theorem ite_some {α : Type} {c : Prop} [Decidable c] {x : Option α} {z : α} (h : (if c then x else none) = some z) : c ∧ x = some z := by
  by_cases hc : c
  · rw [if_pos hc] at h; exact ⟨hc, h⟩
  · rw [if_neg hc] at h; cases h
theorem ite_t {α : Type} {c : Prop} [Decidable c] {x y : Option α} {z : α} (hc : c) (h : (if c then x else y) = some z) : x = some z := by rw [if_pos hc] at h; exact h
theorem ite_f {α : Type} {c : Prop} [Decidable c] {x y : Option α} {z : α} (hc : ¬ c) (h : (if c then x else y) = some z) : y = some z := by rw [if_neg hc] at h; exact h
theorem bind_some {α β : Type} {o : Option α} {f : α → Option β} {z : β} (h : o.bind f = some z) : ∃ v, o = some v ∧ f v = some z := by
  cases o with
  | none => cases h
  | some v => exact ⟨v, rfl, h⟩
theorem inb_lt {i : Int32} {n : Nat} (h : inb i n) : i.toNatClampNeg < n := Nat.not_le.mp fun q => h (Or.inr q)
theorem gt_s {w : Cond} (i : Nat) (h : lw_tbl[i]? = some w) (hg : goodWord w = true) : w ∈ GT := List.mem_filter.mpr ⟨List.mem_of_getElem? h, hg⟩
theorem ci_m1 : Int32.ofInt (-1) = (-1 : Int32) := by decide
theorem ci_0 : Int32.ofInt 0 = (0 : Int32) := by decide
theorem ci_1 : Int32.ofInt 1 = (1 : Int32) := by decide
theorem ci_2 : Int32.ofInt 2 = (2 : Int32) := by decide
theorem ci_3 : Int32.ofInt 3 = (3 : Int32) := by decide
theorem ci_4 : Int32.ofInt 4 = (4 : Int32) := by decide
theorem ci_5 : Int32.ofInt 5 = (5 : Int32) := by decide
section KSW
variable {p : Program} {l : Launch} {e : Env} {R : Room} {s : State} {m : MethodId} {args : Array Value} {below : List Frame} {meth : Method} {c : Code} {Q : State → Prop}
variable {X : Type} {Rp : X → Heap → Prop} {A : Nat → Prop} {D : DD} {base nL mc ms bc bs pc : Nat} {cc : ByteArray} {own : String} {L L' : List (Option Value)} {st : List Value} {σ : X}
theorem k_tabIn (hF : KF D base cc own A nL mc ms p l e R s m args below meth c) {dflt lo hi : Int} {offs : Array Int} {len : Nat} {x k : Int32} {off : Int} {tgt : Nat} (hd : decode cc pc = .ok (.tableswitch dflt lo hi offs, len)) (hx : x = k) (h1 : ¬ k.toInt < lo) (h2 : ¬ hi < k.toInt) (ho : offs[(k.toInt - lo).toNat]? = some off) (ht : (pc : Int) + off = (tgt : Int))
    (kk : KJ Rp A nL mc ms Q p l e R s m args below meth c bc bs tgt L st σ) : KJ Rp A nL mc ms Q p l e R s m args below meth c bc bs pc L (.int x :: st) σ := by
  subst hx
  exact fun H locs ls ce sl h3 h4 h5 h6 h7 => lv_tableIn hF.1 hF.2.1 hd h1 h2 ho ht (kk H locs ls ce sl h3 h4 h5 h6 h7)
theorem k_tabOut (hF : KF D base cc own A nL mc ms p l e R s m args below meth c) {dflt lo hi : Int} {offs : Array Int} {len : Nat} {x : Int32} {tgt : Nat} (hd : decode cc pc = .ok (.tableswitch dflt lo hi offs, len)) (h : x.toInt < lo ∨ hi < x.toInt) (ht : (pc : Int) + dflt = (tgt : Int))
    (kk : KJ Rp A nL mc ms Q p l e R s m args below meth c bc bs tgt L st σ) : KJ Rp A nL mc ms Q p l e R s m args below meth c bc bs pc L (.int x :: st) σ :=
  fun H locs ls ce sl h3 h4 h5 h6 h7 => lv_tableOut hF.1 hF.2.1 hd h ht (kk H locs ls ce sl h3 h4 h5 h6 h7)
theorem i_ne {x k : Int32} (h : ¬ x = k) : x.toInt ≠ k.toInt := fun e => h (Int32.toInt_inj.mp e)
end KSW
