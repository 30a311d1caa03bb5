def shift (n : Nat) (σ : St) : St := (fun a k => σ.1 (n + a) k, fun a k => σ.2 (n + a) k)
theorem shift_0 (σ : St) : shift 0 σ = σ := Prod.ext (funext fun a => funext fun k => by show σ.1 (0 + a) k = _; rw [Nat.zero_add]) (funext fun a => funext fun k => by show σ.2 (0 + a) k = _; rw [Nat.zero_add])
theorem sv_cm {B n a k c' c : Nat} {σ : St} (h : cm n c' c) : sv B σ (n + a) k c' = sv (B + n) (shift n σ) a k c := by
  rcases h with ⟨h1, rfl⟩ | ⟨h1, rfl⟩
  · match c', h1 with
    | 0, _ => rfl
    | 1, _ => rfl
    | 2, _ => rfl
  · obtain ⟨t, rfl⟩ : ∃ t, c = t + 3 := ⟨c - 3, by omega⟩
    rw [show t + 3 + n = (n + t) + 3 by omega]
    show Value.ref (B + (n + t)) = Value.ref (B + n + t)
    rw [Nat.add_assoc]
theorem cell_conv {D : DD} {B n a : Nat} {σ : St} {x y : Sh} {H : Heap} (h : cellOK D B σ (n + a) x H) (hs : shm n x y) : cellOK D (B + n) (shift n σ) a y H := by
  have hadd : B + (n + a) = B + n + a := by omega
  rcases x with ⟨ci', cs'⟩ | ⟨t', N', f'⟩ <;> rcases y with ⟨ci, cs⟩ | ⟨t, N, f⟩
  · obtain ⟨h1, hl, hc⟩ := hs
    obtain ⟨r, hr, ht⟩ := h
    subst h1
    refine ⟨r, hr, ?_⟩
    rw [hadd] at ht
    refine ht.to fun j _ => (sv_cm ?_)
    by_cases hj : j < cs.length
    · exact hc j hj
    · rw [List.getD_eq_getElem?_getD, List.getD_eq_getElem?_getD, List.getElem?_eq_none (by omega), List.getElem?_eq_none (by omega)]
      exact Or.inl ⟨by decide, rfl⟩
  · exact hs.elim
  · exact hs.elim
  · obtain ⟨h1, h2, hc⟩ := hs
    subst h1; subst h2
    have h : H[B + (n + a)]? = some (arrV (D.2 t') N' (fun j => sv B σ (n + a) j (f' j))) := h
    show H[B + n + a]? = _
    rw [← hadd, h]
    exact congrArg some (arrV_ext fun j hj => sv_cm (hc j hj))
theorem shmL_at {n : Nat} : ∀ {S T : List Sh}, shmL n S T → ∀ (a : Nat) (y : Sh), T[a]? = some y → ∃ x, S[a]? = some x ∧ shm n x y
  | [], [], _, a, y, h => by simp at h
  | x :: xs, y0 :: ys, ⟨h1, h2⟩, 0, y, h => by
    simp at h
    subst h
    exact ⟨x, rfl, h1⟩
  | x :: xs, y0 :: ys, ⟨h1, h2⟩, a + 1, y, h => by
    obtain ⟨z, hz, hs⟩ := shmL_at h2 a y (by simpa using h)
    exact ⟨z, by simpa using hz, hs⟩
theorem rep_conv {D : DD} {B n : Nat} {S S2 T : List Sh} {σ : St} {H : Heap} (h : Rep D B S σ H) (hS : ∀ a sh, S2[a]? = some sh → S[n + a]? = some sh) (hc : shmL n S2 T) : Rep D (B + n) T (shift n σ) H := fun a y hy => by
  obtain ⟨x, hx, hs⟩ := shmL_at hc a y hy
  exact cell_conv (h _ x (hS a x hx)) hs
theorem k_cv {X Y : Type} {Rp : X → Heap → Prop} {Rq : Y → Heap → Prop} {x : X} {y : Y} {A : Nat → Prop} {nL mc ms bc bs pc : Nat} {Q : State → Prop} {p : Program} {l : Launch} {e : Env} {R : Room} {s : State} {m : MethodId} {args : Array Value} {below : List Frame} {meth : Method} {c : Code} {L : List (Option Value)} {st : List Value} (h : ∀ H, Rp x H → Rq y H) (k : KJ Rq A nL mc ms Q p l e R s m args below meth c bc bs pc L st y) : KJ Rp A nL mc ms Q p l e R s m args below meth c bc bs pc L st x := fun H locs ls ce sl h1 h2 h3 h4 h5 => k H locs ls ce sl (h H h1) h2 h3 h4 h5
/-- the zero world, and what the constructors leave -/
def z0 : St := (fun _ _ => 0, fun _ _ => 0)
def c0 : St := ui (ui (ui (ui (ui (ui (ui z0 (0 + 18) 0 (-1)) (0 + 18) 1 (-1)) (0 + 18) 2 (-1)) (0 + 18) 3 (-1)) (0 + 22) 0 1) (0 + 22) 1 1) (0 + 22) 2 1
def cr0 : St := ui (ui (ui (ui c0 (121 + 19) 0 (-1)) (121 + 19) 1 (-1)) (121 + 19) 2 (-1)) (121 + 19) 3 (-1)
def r0 : St := shift 121 cr0
theorem zr_z0 {n : Nat} : zr n z0 := fun _ _ _ => ⟨rfl, rfl⟩
theorem zr_c0 : zr 121 c0 := by
  unfold c0
  repeat refine zr_ui ?_ (Nat.le_refl _) (by decide)
  exact zr_z0
theorem zr_cr0 : zr 164 cr0 := by
  unfold cr0
  exact zr_ui (zr_ui (zr_ui (zr_ui (zr_le zr_c0 (by decide)) (Nat.le_refl _) (by decide)) (Nat.le_refl _) (by decide)) (Nat.le_refl _) (by decide)) (Nat.le_refl _) (by decide)
/-- the law goes through k calls from the j-th on -/
def lawOK (xs : Nat → Int32) : Nat → Nat → LL → Prop
  | 0, _, _ => True
  | k + 1, j, x => ∃ z, fLaw_step x.1 x.2.1 x.2.2 (xs (5 * j) &&& 63) (xs (5 * j + 1)) (xs (5 * j + 2)) (xs (5 * j + 3)) (xs (5 * j + 4)) = some z ∧ lawOK xs k (j + 1) z
theorem nc_of {n : Nat} (h : n < 2 ^ 31) : (Int32.ofNat n).toInt = n := Int32.toInt_ofNat_of_lt h
theorem cl_of {n : Nat} (h : n < 2 ^ 31) : (Int32.ofNat n).toNatClampNeg = n := by
  show (Int32.ofNat n).toInt.toNat = n
  rw [nc_of h]; rfl
theorem in_of {n L : Nat} (h : n < L) (hL : L ≤ 2560) : vp_in (Int32.ofNat n) L := by
  intro hh
  rcases hh with h1 | h1
  · rw [Int32.lt_iff_toInt_lt, nc_of (by omega)] at h1
    have h0 : (0 : Int32).toInt = 0 := rfl
    omega
  · rw [cl_of (by omega)] at h1; omega
theorem add_of {n k : Nat} : Int32.ofNat n + Int32.ofNat k = Int32.ofNat (n + k) := (Int32.ofNat_add n k).symm
theorem wLaw_loop {p : Program} {l : Launch} {e : Env} {s : State} {m : MethodId} {below : List Frame} {meth : Method} {c : Code} {A : Nat → Prop} {D : DD} {b : Nat} (hF : KF D s.heap.size cL_law RL A 7 601024 7293034 p l e room_1 s m #[Value.ref b] below meth c) (hl : l.stackTraces = false) (hNc : KNc s) (hA : ∀ q, s.heap.size ≤ q → A q) {Ls : Nat} {xs : Nat → Int32} (hS : SC b Ls xs A s) (hL : Ls ≤ 2560) (hr : meth.sig.returnType = ret) :
    ∀ (k j : Nat) (x : LL), 5 * j + 5 * k ≤ Ls → Ls < 5 * j + 5 * k + 5 → lawOK xs k j x → ∀ bc bs : Nat, k * 6 ≤ bc → k * 36 ≤ bs → KJ (RepL D s.heap.size) A 7 601024 7293034 (lw_Z below #[Value.ref b] s) p l e room_1 s m #[Value.ref b] below meth c bc bs 23 [some (.ref b), some (.ref (s.heap.size + 0)), some (.ref (s.heap.size + 121 + 0)), some (.ref (s.heap.size + 164)), some (.int (Int32.ofNat (5 * j))), none, none] [] x := by
  intro k
  induction k with
  | zero =>
    intro j x h1 h2 _ bc bs _ _
    refine k_iload hF dL_law_23 rfl ?_
    refine k_aload_n hF dL_law_25 rfl ?_
    refine kl_slen hF hS dL_law_26 ?_
    refine k_iconst hF dL_law_27 ci_5 ?_
    refine k_isub hF dL_law_28 ?_
    refine k_icmp_gt hF (tgt := 2443) dL_law_29 (by decide) (fun _ => ?_) (fun h => ?_)
    · refine k_iconst hF dL_law_2443 ci_1 ?_
      intro H locs ls ce sl g1 g2 g3 g4 g5
      refine va_forget (fun q hq => hF.2.2.2.2.2.2.2.2.2 _ (g2.2.2 q hq)) ?_
      exact W.widen (by omega) (by omega) (lw_ret hF.1 hF.2.1 hr hF.2.2.2.2.2.2.2.2.1 dL_law_2444)
    · exfalso
      have h5 : Int32.ofNat Ls - 5 = Int32.ofInt ((Ls : Int) - 5) := by
        rw [Int32.ofInt_sub]; rfl
      rw [h5, Int32.lt_iff_toInt_lt, nc_of (by omega), Int32.toInt_ofInt_of_le (by omega) (by omega)] at h
      omega
  | succ k ih =>
    intro j x h1 h2 hok bc bs hb1 hb2
    obtain ⟨z, hz, hok⟩ := hok
    obtain ⟨σC, σR, v⟩ := x
    refine k_iload hF dL_law_23 rfl ?_
    refine k_aload_n hF dL_law_25 rfl ?_
    refine kl_slen hF hS dL_law_26 ?_
    refine k_iconst hF dL_law_27 ci_5 ?_
    refine k_isub hF dL_law_28 ?_
    refine k_icmp_gt hF (tgt := 2443) dL_law_29 (by decide) (fun h => ?_) (fun _ => ?_)
    · exfalso
      have h5 : Int32.ofNat Ls - 5 = Int32.ofInt ((Ls : Int) - 5) := by
        rw [Int32.ofInt_sub]; rfl
      rw [h5, Int32.lt_iff_toInt_lt, nc_of (by omega), Int32.toInt_ofInt_of_le (by omega) (by omega)] at h
      omega
    refine k_aload_n hF dL_law_32 rfl ?_
    refine k_iload hF dL_law_33 rfl ?_
    refine kl_sld hF hS (in_of (by omega) hL) (congrArg xs (cl_of (by omega))) dL_law_35 ?_
    refine k_bipush hF (v := (63 : Int32)) dL_law_36 (by decide) ?_
    refine k_iand hF dL_law_38 ?_
    have hp : PA xs Ls (Int32.ofNat (5 * j)) (xs (5 * j + 1)) (xs (5 * j + 2)) (xs (5 * j + 3)) (xs (5 * j + 4)) := by
      refine ⟨⟨?_, ?_⟩, ⟨?_, ?_⟩, ⟨?_, ?_⟩, ?_, ?_⟩
      · exact (add_of (n := 5 * j) (k := 1)) ▸ in_of (by omega) hL
      · exact congrArg xs ((congrArg Int32.toNatClampNeg (add_of (n := 5 * j) (k := 1))).trans (cl_of (by omega)))
      · exact (add_of (n := 5 * j) (k := 2)) ▸ in_of (by omega) hL
      · exact congrArg xs ((congrArg Int32.toNatClampNeg (add_of (n := 5 * j) (k := 2))).trans (cl_of (by omega)))
      · exact (add_of (n := 5 * j) (k := 3)) ▸ in_of (by omega) hL
      · exact congrArg xs ((congrArg Int32.toNatClampNeg (add_of (n := 5 * j) (k := 3))).trans (cl_of (by omega)))
      · exact (add_of (n := 5 * j) (k := 4)) ▸ in_of (by omega) hL
      · exact congrArg xs ((congrArg Int32.toNatClampNeg (add_of (n := 5 * j) (k := 4))).trans (cl_of (by omega)))
    refine wLaw_step hF hl hNc hA hS hp (bc' := bc - 6) (bs' := bs - 36) (by omega) (by omega) hz ?_
    refine k_iinc hF (v := Int32.ofNat (5 * (j + 1))) (L' := [some (.ref b), some (.ref (s.heap.size + 0)), some (.ref (s.heap.size + 121 + 0)), some (.ref (s.heap.size + 164)), some (.int (Int32.ofNat (5 * (j + 1)))), none, none]) dL_law_2437 rfl (add_of (n := 5 * j) (k := 5)) (by decide) rfl ?_
    refine k_goto hF (tgt := 23) dL_law_2440 (by decide) ?_
    exact ih (j + 1) z (by omega) (by omega) hok (bc - 6) (bs - 36) (by omega) (by omega)
