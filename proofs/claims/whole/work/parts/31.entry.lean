theorem arrOf_cls {s : State} {args : Array Value} {ty : FieldType} (h : (Cond.arrayClass ty).before args s = true) : ∃ c : ClassId, s.vm.findClass ("[" ++ ty.toString) = some c ∧ ArrOfT s c ty := by
  obtain ⟨c, k, comp, h1, h2, h3⟩ := Cond.arrayClass_spec h
  exact ⟨c, h1, fun N z => ⟨(fun k h => by cases h), k, h2, comp, h3⟩⟩
theorem entry_arr {s : State} {args : Array Value} (hts : ∀ w ∈ lw_tbl, w.before args s = true) (t : Nat) : ∃ c : ClassId, ArrOfT s c (aty t) ∧ va_RA s c (aty t) := by
  have hobj : ∀ C : String, (Cond.arrayOver (.object C)).before args s = true → ∃ c : ClassId, ArrOfT s c (.object C) ∧ va_RA s c (.object C) := fun C h => by
    obtain ⟨comp, c, k, h1, -, h3, h4, h5⟩ := Cond.arrayOver_spec h
    exact ⟨c, fun N z => ⟨(fun k h => by cases h), k, h3, comp, h4⟩, k, comp, h3, h4, h1, h5⟩
  have hl : ∃ c : ClassId, ArrOfT s c .long ∧ va_RA s c .long := by
    obtain ⟨c, h1, h2⟩ := arrOf_cls (hts (.arrayClass .long) (by decide +kernel)); exact ⟨c, h2, h1⟩
  match t with
  | 0 => obtain ⟨c, h1, h2⟩ := arrOf_cls (hts (.arrayClass .int) (by decide +kernel)); exact ⟨c, h2, h1⟩
  | 1 => obtain ⟨c, h1, h2⟩ := arrOf_cls (hts (.arrayClass .boolean) (by decide +kernel)); exact ⟨c, h2, h1⟩
  | 2 =>
    obtain ⟨comp, c, k, h1, -, h3, h4, h5⟩ := arrayOver_specB (hts (.arrayOver (.array .int)) (by decide +kernel))
    exact ⟨c, fun N z => ⟨(fun k h => by cases h), k, h3, comp, h4⟩, h5⟩
  | 3 => exact hobj _ (hts (.arrayOver (.object "WeftStore$Transaction")) (by decide +kernel))
  | 4 => exact hobj _ (hts (.arrayOver (.object "WeftStore$Pattern")) (by decide +kernel))
  | t + 5 => exact hl
theorem entry_cls {s : State} {args : Array Value} (hts : ∀ w ∈ lw_tbl, w.before args s = true) (ci : Nat) : ∃ q : ClassId × (Nat → Nat), ∀ r : vw_C, vwCl[ci]? = some r → u_Kn s r.1 r.2.1 r.2.2 q.1 q.2 := by
  have hk : ∀ (C : String) (T : u_T) (N : Nat), vwCl[ci]? = some (C, T, N) → (∀ w ∈ u_ws C T N, w ∈ GT) → Cond.instantiable C N ∈ GT → ∃ q : ClassId × (Nat → Nat), ∀ r : vw_C, vwCl[ci]? = some r → u_Kn s r.1 r.2.1 r.2.2 q.1 q.2 := fun C T N h hw hi => by
    obtain ⟨c, f, hh⟩ := u_known (C := C) (T := T) (N := N) (n := N) (args := args) (fun w h => hts w (List.mem_filter.mp h).1) hw (hts _ (List.mem_filter.mp hi).1)
    refine ⟨(c, f), fun r hr => ?_⟩
    cases hr.symm.trans h
    exact hh
  match ci with
  | 0 => obtain ⟨C, T, N, tys, h1, h2, -, -, h3, -⟩ := nw_X10_23; cases h1; exact hk _ _ _ rfl h2 h3
  | 1 => obtain ⟨C, T, N, tys, h1, h2, -, -, h3, -⟩ := nw_X10_48; cases h1; exact hk _ _ _ rfl h2 h3
  | 2 => obtain ⟨C, T, N, tys, h1, h2, -, -, h3, -⟩ := nw_X10_30; cases h1; exact hk _ _ _ rfl h2 h3
  | 3 => obtain ⟨C, T, N, tys, h1, h2, -, -, h3, -⟩ := nw_X10_39; cases h1; exact hk _ _ _ rfl h2 h3
  | 4 => obtain ⟨C, T, N, tys, h1, h2, -, -, h3, -⟩ := nw_X10_66; cases h1; exact hk _ _ _ rfl h2 h3
  | 5 => obtain ⟨C, T, N, tys, h1, h2, -, -, h3, -⟩ := nw_X10_57; cases h1; exact hk _ _ _ rfl h2 h3
  | 6 => obtain ⟨C, T, N, tys, h1, h2, -, -, h3, -⟩ := nw_X10_16; cases h1; exact hk _ _ _ rfl h2 h3
  | 7 => obtain ⟨C, T, N, tys, h1, h2, -, -, h3, -⟩ := nw_X10_80; cases h1; exact hk _ _ _ rfl h2 h3
  | 8 => obtain ⟨C, T, N, tys, h1, h2, -, -, h3, -⟩ := nw_X10_73; cases h1; exact hk _ _ _ rfl h2 h3
  | 9 => obtain ⟨C, T, N, tys, h1, h2, -, -, h3, -⟩ := nw_L_8; cases h1; exact hk _ _ _ rfl h2 h3
  | 10 => obtain ⟨C, T, N, tys, h1, h2, -, -, h3, -⟩ := nw_L_128; cases h1; exact hk _ _ _ rfl h2 h3
  | n + 11 => exact ⟨(0, fun _ => 0), fun r hr => by simp [vwCl] at hr⟩
theorem entry_str {s : State} {args : Array Value} {own tx : String} {k : Nat} (h : (Cond.stringRef own k tx).before args s = true) : ∃ a, vk_R own k tx a s := by
  cases hc : s.vm.findClass own with
  | none => simp [Cond.before, Cond.holds, Cond.value, hc] at h
  | some cur =>
    obtain ⟨k1, cf, i, a, -, -, -, -, -, h6⟩ := Cond.stringRef_spec hc h
    exact ⟨a, vk_R.of h h6⟩
theorem entry_Kn {s : State} {b : Nat} (hts : ∀ w ∈ lw_tbl, w.before #[Value.ref b] s = true) (hgv : (Jvm.Cond.and given_1 narrow_1).before #[Value.ref b] s = true) : ∃ D : DD, Kn D s.heap.size s := by
  have hs := flat_of_before _ hgv
  obtain ⟨f, hf⟩ := Classical.axiomOfChoice (entry_cls hts)
  obtain ⟨g, hg⟩ := Classical.axiomOfChoice (entry_arr hts)
  refine ⟨((fun c => (f c).1, fun c => (f c).2), g), fun c q hq => hf c q hq, hg, ?_, ?_, fun w hw => ?_, fun q hq => ?_⟩
  · exact vx_Zqof (hts (.laysStatic "java/lang/Throwable" "UNASSIGNED_STACK" "[Ljava/lang/StackTraceElement;") (by decide +kernel)) (hts (.initialized "java/lang/Throwable") (by decide +kernel)) (hs (.isRef (.static "java/lang/Throwable" "UNASSIGNED_STACK" "[Ljava/lang/StackTraceElement;")) (by decide +kernel)) (fun a ha => Nat.not_le.mpr ha)
  · exact vx_Zqof (hts (.laysStatic "java/lang/Throwable" "SUPPRESSED_SENTINEL" "Ljava/util/List;") (by decide +kernel)) (hts (.initialized "java/lang/Throwable") (by decide +kernel)) (hs (.isRef (.static "java/lang/Throwable" "SUPPRESSED_SENTINEL" "Ljava/util/List;")) (by decide +kernel)) (fun a ha => Nat.not_le.mpr ha)
  · obtain ⟨h1, h2⟩ := List.mem_filter.mp hw
    exact va_tabs (bw_tab h2) rfl (hts w h1)
  · obtain ⟨w, h1, h2⟩ := List.mem_filterMap.mp hq
    have h3 := hts w h1
    cases w <;> simp at h2
    subst h2
    exact entry_str h3
theorem entry_nc {s : State} {b : Nat} (hgv : (Jvm.Cond.and given_1 narrow_1).before #[Value.ref b] s = true) : KNc s := by
  have hs := flat_of_before _ hgv
  intro x y hx hy hxy
  rcases (show x = 0 ∨ x = 1 ∨ x = 2 by omega) with rfl | rfl | rfl <;> rcases (show y = 0 ∨ y = 1 ∨ y = 2 by omega) with rfl | rfl | rfl
  · exact absurd rfl hxy
  · exact va_Nc.of (hs (.not (.castable "java/lang/IndexOutOfBoundsException" "java/lang/IllegalArgumentException")) (by decide +kernel))
  · exact va_Nc.of (hs (.not (.castable "java/lang/IndexOutOfBoundsException" "java/lang/IllegalStateException")) (by decide +kernel))
  · exact va_Nc.of (hs (.not (.castable "java/lang/IllegalArgumentException" "java/lang/IndexOutOfBoundsException")) (by decide +kernel))
  · exact absurd rfl hxy
  · exact va_Nc.of (hs (.not (.castable "java/lang/IllegalArgumentException" "java/lang/IllegalStateException")) (by decide +kernel))
  · exact va_Nc.of (hs (.not (.castable "java/lang/IllegalStateException" "java/lang/IndexOutOfBoundsException")) (by decide +kernel))
  · exact va_Nc.of (hs (.not (.castable "java/lang/IllegalStateException" "java/lang/IllegalArgumentException")) (by decide +kernel))
  · exact absurd rfl hxy
/-- the law's start, for a script on which the pure law goes through -/
theorem law_start {p : Program} {e : Env} {s : State} {m : MethodId} {below : List Frame} {meth : Method} {c : Code} (l : Launch) (hflags : l.flags = flags0) {b L : Nat} {xs : Nat → Int32} (hL : L ≤ 2560) (C0 : lw_At p s m meth c b L xs) (hok : lawOK xs (L / 5) 0 (cr0, r0, 0)) : W p l e room_1 s m #[Value.ref b] below meth c s.heap [] 0 0 (lw_Z below #[Value.ref b] s) (entryFrame m ([Value.ref b] : List Value).toArray 7) := by
  obtain ⟨hx, hb, hr, hml, hown, hts, hX, hbl, hlocks, hgv⟩ := C0
  obtain ⟨D, hKn⟩ := entry_Kn hts hgv
  have hNc := entry_nc hgv
  have hl : l.stackTraces = false := by unfold Launch.stackTraces; rw [hflags]; decide +kernel
  have hKO : KO s := ⟨va_AO.of (hts (.arrayOver (.object "WeftStore$Transaction")) (by decide +kernel)), va_AO.of (hts (.arrayOver (.object "WeftStore$Pattern")) (by decide +kernel)), hts (.arrayOver (.array .int)) (by decide +kernel)⟩
  have hF : KF D s.heap.size cL_law RL (fun q => s.heap.size ≤ q) 7 601024 7293034 p l e room_1 s m #[Value.ref b] below meth c :=
    ⟨hx, hb, hml, hown, fun w h => hts w (List.mem_filter.mp h).1, hKn, rfl, rfl, hlocks, fun q h => h⟩
  have hS : SC b L xs (fun q => s.heap.size ≤ q) s := ⟨hX, hbl, Nat.not_le.mpr hbl⟩
  have hA : ∀ q, s.heap.size ≤ q → (fun q => s.heap.size ≤ q) q := fun _ h => h
  have K : KJ (RC D s.heap.size) (fun q => s.heap.size ≤ q) 7 601024 7293034 (lw_Z below #[Value.ref b] s) p l e room_1 s m #[Value.ref b] below meth c 601024 7293034 0 ([Value.ref b].map some ++ List.replicate (7 - 1) none) [] ([], z0) := by
    refine k_L (L' := [some (.ref b), none, none, none, none, none, none]) rfl ?_
    refine kc_new hF (bc' := 601023) (bs' := 7293022) nw_L_8 zr_z0 dL_law_0 (by decide) (by decide) (S' := [.inl (9, [2, 2, 2, 2, 2, 2, 2, 2, 2, 2, 0, 0])]) rfl (q := 0) rfl ?_
    refine k_dup hF dL_law_3 rfl ?_
    refine kc_call hF hKO (a := 0) (n' := 0) (as := []) (bc' := 600903) (bs' := 7289586) (S' := tC) (σ' := c0) (fun q h => h) (ct_X10_init (Nat.le_refl _) (S0 := []) (n := 0) rfl zr_z0) mi_L_127 rfl rfl ⟨Nat.le_of_ble_eq_true rfl, Nat.le_of_ble_eq_true rfl⟩ (Nat.le_of_ble_eq_true rfl) dL_law_4 (by decide) (by decide) ?_
    refine k_astore_n hF (L' := [some (.ref b), some (.ref (s.heap.size + 0)), none, none, none, none, none]) dL_law_7 (by decide) rfl ?_
    refine k_cv (Rq := RC D s.heap.size) (y := (shpC, c0)) (fun H h => ⟨by
      have h9 := rep_conv (n := 0) (S := tC) (S2 := tC) (T := shpC) h.1 (fun a sh ha => by rw [Nat.zero_add]; exact ha) tC_conv
      rw [shift_0] at h9
      exact h9, h.2⟩) ?_
    refine kc_new hF (bc' := 600902) (bs' := 7289535) nw_L_128 (by rw [shpC_len]; exact zr_c0) dL_law_8 (by decide) (by decide) rfl (q := 121) shpC_len ?_
    refine k_dup hF dL_law_11 rfl ?_
    refine kc_call hF hKO (a := 121) (n' := 121) (as := []) (bc' := 600860) (bs' := 7091178) (S' := shpC ++ tR) (σ' := cr0) (fun q h => Nat.le_trans (Nat.le_add_right _ _) h) (ct_X11_init (Nat.le_refl _) (S0 := shpC) (n := 121) shpC_len zr_c0) mi_L_130 rfl rfl ⟨Nat.le_of_ble_eq_true rfl, Nat.le_of_ble_eq_true rfl⟩ (Nat.le_of_ble_eq_true rfl) dL_law_12 (by decide) (by decide) ?_
    refine k_astore_n hF (L' := [some (.ref b), some (.ref (s.heap.size + 0)), some (.ref (s.heap.size + 121 + 0)), none, none, none, none]) dL_law_15 (by decide) rfl ?_
    refine k_iconst hF dL_law_16 ci_1 ?_
    have hlen : (shpC ++ tR).length = 164 := by decide +kernel
    refine kc_newa hF (atype := .long) (t := 5) (N := 1) (code := 1) (bc' := 600859) (bs' := 7091177) na_long rfl (fun C h => nomatch h) rfl (by decide) (by rw [hlen]; exact zr_cr0) dL_law_17 (by decide) (by decide) (by decide) (by decide) (by decide) rfl (q := 164) hlen ?_
    refine k_astore_n hF (L' := [some (.ref b), some (.ref (s.heap.size + 0)), some (.ref (s.heap.size + 121 + 0)), some (.ref (s.heap.size + 164)), none, none, none]) dL_law_19 (by decide) rfl ?_
    refine k_cv (Rq := RepL D s.heap.size) (y := (cr0, r0, 0)) (fun H h => ⟨?_, ?_, ?_⟩) ?_
    · have h9 := rep_conv (n := 0) (S2 := shpC) (T := shpC) h.1 (fun a sh ha => by
        rw [Nat.zero_add, List.append_assoc, List.getElem?_append_left (List.getElem?_eq_some_iff.mp ha).1]; exact ha) shpC_self
      rw [shift_0] at h9
      exact h9
    · exact rep_conv (n := 121) (S2 := tR) (T := shpR) h.1 (fun a sh ha => by
        rw [List.append_assoc, List.getElem?_append_right (by rw [shpC_len]; omega), shpC_len, Nat.add_sub_cancel_left, List.getElem?_append_left (List.getElem?_eq_some_iff.mp ha).1]; exact ha) tR_conv
    · have h9 : cellOK D s.heap.size cr0 164 (.inr (5, 1, fun _ => 1)) H := h.1 164 _ (by
        rw [List.getElem?_append_right (by rw [hlen]; omega), hlen]; rfl)
      exact h9
    refine k_iconst hF dL_law_20 ci_0 ?_
    refine k_istore hF (L' := [some (.ref b), some (.ref (s.heap.size + 0)), some (.ref (s.heap.size + 121 + 0)), some (.ref (s.heap.size + 164)), some (.int (Int32.ofNat (5 * 0))), none, none]) dL_law_21 (by decide) rfl ?_
    exact wLaw_loop hF hl hNc hA hS hL hr (L / 5) 0 _ (by omega) (by omega) hok _ _ (by omega) (by omega)
  have h := K s.heap [] _ 0 0 ⟨fun a sh ha => by simp at ha, rfl⟩ va_S.rf (lvok.entry [Value.ref b] 7 (fun v hv => by simp only [List.mem_cons, List.not_mem_nil, or_false] at hv; rcases hv with rfl; rfl) (Nat.le_of_ble_eq_true rfl)) (by omega) (by omega)
  rw [entry_eq m [Value.ref b] (fun v hv => by simp only [List.mem_cons, List.not_mem_nil, or_false] at hv; rcases hv with rfl; rfl) 7]
  exact h
