theorem cr0_at {a : Nat} (k : Nat) (h1 : a ≠ 18) (h2 : a ≠ 22) (h3 : a ≠ 140) : gi cr0 a k = n32 0 := by
  unfold cr0 c0
  simp only [gi_ui, Nat.zero_add]
  simp only [show (121 + 19 : Nat) = 140 from rfl, h1, h2, h3, false_and, if_false]
  rfl
theorem cr0_gl (a k : Nat) : gl cr0 a k = 0 := rfl
theorem r0_at {a : Nat} (k : Nat) (h : a ≠ 19) : gi r0 a k = n32 0 := cr0_at (a := 121 + a) k (by omega) (by omega) (by omega)
theorem cr0_18 (k : Nat) : gi cr0 18 k = if k < 4 then -n32 1 else n32 0 := by
  match k with
  | 0 => rfl
  | 1 => rfl
  | 2 => rfl
  | 3 => rfl
  | k + 4 =>
    rw [if_neg (by omega)]
    unfold cr0 c0
    simp only [gi_ui]
    simp
    rfl
theorem r0_19 (k : Nat) : gi r0 19 k = if k < 4 then -n32 1 else n32 0 := by
  show gi cr0 140 k = _
  match k with
  | 0 => rfl
  | 1 => rfl
  | 2 => rfl
  | 3 => rfl
  | k + 4 =>
    rw [if_neg (by omega)]
    unfold cr0 c0
    simp only [gi_ui]
    simp
    rfl
theorem kno_0 (x : St) : kno 0 0 x = tol 0 x := by
  have : ∀ n (K : Nat → Nat → Int32), fold (fun _ K => pss 0 x K) K n = K := fun n K => by
    induction n with
    | zero => rfl
    | succ n ih => exact ih
  exact this 2305 _
theorem hl_0 (e : Nat) : hl 0 e = false := BitVec.getLsbD_zero
theorem RX_0 (u : Nat) (hu : u < 4) : RX 0 0 cr0 r0 u := by
  have e : ∀ q k, q = 57 + 5 * u ∨ q = 58 + 5 * u ∨ q = 59 + 5 * u ∨ q = 60 + 5 * u ∨ q = 61 + 5 * u → gi cr0 q k = n32 0 := fun q k h => cr0_at k (by omega) (by omega) (by omega)
  refine ⟨⟨false, e _ _ (by omega), r0_at _ (by decide)⟩, ?_, ⟨0, by decide, e _ _ (by omega), r0_at _ (by decide), fun i hi => absurd hi (Nat.not_lt_zero i)⟩, fun i hi => ⟨?_, ?_, ?_⟩, fun k hk => ⟨?_, ?_⟩, fun k _ => ?_, fun q hq => ?_, fun q _ => hl_0 q⟩
  · rw [e _ _ (by omega), r0_at _ (by decide)]
  · rw [e _ _ (by omega), r0_at _ (by decide)]
  · rw [e _ _ (by omega), r0_at _ (by decide)]
  · rw [e _ _ (by omega), r0_at _ (by decide)]
  · rw [e _ _ (by omega), r0_at _ (by decide), hs_0]; rfl
  · rw [e _ _ (by omega), r0_at _ (by decide)]
  · rw [e _ _ (by omega)]; exact hs_0 k
  · rw [r0_at _ (by decide)]
    show n32 0 = bi (hl 0 q)
    rw [hl_0]; rfl
theorem RPc_0 (u : Nat) (hu : u < 7) : RPc cr0 u 0 0 :=
  ⟨by decide, cr0_at _ (by omega) (by omega) (by omega), cr0_at _ (by omega) (by omega) (by omega), rfl, fun j hj => absurd hj (Nat.not_lt_zero j), fun j hj => absurd hj (Nat.not_lt_zero j), fun i hi => ⟨0, 0, by decide, by decide, cr0_at _ (by omega) (by omega) (by omega), cr0_at _ (by omega) (by omega) (by omega)⟩⟩
/-- at the law's start both sides stand as they should -/
theorem Rel_0 : Rel 0 cr0 r0 := by
  refine ⟨0, 0, 0, 0, 0, Nat.le_refl _, by decide, ?_, ?_, ?_, ?_, ?_, ?_, RX_0, ?_, ?_, ?_, ?_, ?_, ?_, ?_⟩
  · refine ⟨by decide, cr0_at _ (by decide) (by decide) (by decide), r0_at _ (by decide), ?_, ?_, ?_, ?_, ?_⟩ <;> intro k <;> rw [r0_at _ (by decide), cr0_at _ (by decide) (by decide) (by decide)]
  · refine ⟨by decide, cr0_at _ (by decide) (by decide) (by decide), r0_at _ (by decide), ?_, ?_, ?_, ?_, ?_, fun e he => absurd he (Nat.not_lt_zero e)⟩ <;> intro k <;> rw [r0_at _ (by decide), cr0_at _ (by decide) (by decide) (by decide)]
  · exact ⟨by decide, cr0_at _ (by decide) (by decide) (by decide), r0_at _ (by decide)⟩
  · refine ⟨fun k => ?_, fun k hk => absurd hk (Nat.not_lt_zero k), fun m hm => ⟨true, ?_, r0_at _ (by decide)⟩⟩
    · rw [r0_at _ (by decide), cr0_at _ (by decide) (by decide) (by decide)]
    · match m, hm with
      | 0, _ => rfl
      | 1, _ => rfl
      | 2, _ => rfl
  · refine ⟨fun l hl => ⟨false, cr0_at _ (by decide) (by decide) (by decide), r0_at _ (by decide)⟩, fun l => ?_, fun l _ => ?_⟩
    · rw [r0_19, cr0_18]
    · rw [r0_at _ (by decide), cr0_at _ (by decide) (by decide) (by decide)]
  · refine ⟨by decide, cr0_at _ (by decide) (by decide) (by decide), r0_at _ (by decide), ?_, ?_, ?_, fun k hk => absurd hk (Nat.not_lt_zero k)⟩ <;> intro k <;> rw [r0_at _ (by decide), cr0_at _ (by decide) (by decide) (by decide)]
  · refine ⟨fun k hk => absurd hk (Nat.not_lt_zero k), fun k _ => ?_⟩
    rw [cr0_at _ (by decide) (by decide) (by decide)]; exact hs_0 k
  · exact cr0_at _ (by decide) (by decide) (by decide)
  · refine ⟨by decide, cr0_at _ (by decide) (by decide) (by decide), r0_at _ (by decide), fun k => ?_, fun k => ?_, fun k => ?_, fun r hr => absurd hr (Nat.not_lt_zero r), fun r hr => ⟨false, cr0_at _ (by decide) (by decide) (by decide), r0_at _ (by decide)⟩⟩ <;> rw [r0_at _ (by decide), cr0_at _ (by decide) (by decide) (by decide)]
  · intro l n hl hn
    rw [kno_0]
    exact ⟨cr0_at _ (by omega) (by omega) (by omega), cr0_at _ (by omega) (by omega) (by omega)⟩
  · exact ⟨0, by decide, cr0_at _ (by decide) (by decide) (by decide), r0_at _ (by decide), fun u hu => absurd hu (Nat.not_lt_zero u), ⟨0, 0, RPc_0 0 (by decide), r0_at _ (by decide), r0_at _ (by decide), fun i hi => absurd hi (Nat.not_lt_zero i)⟩, fun u _ hu => RPc_0 u hu⟩
  · exact ⟨fun k hk => absurd hk (Nat.not_lt_zero k), fun l a b _ _ hb => absurd hb (Nat.not_lt_zero b)⟩
  · refine ⟨fun _ => 0, fun u hu h => ?_, by decide⟩
    rw [cr0_at _ (by omega) (by omega) (by omega), n_inj (by decide) (by decide)] at h
    cases h
