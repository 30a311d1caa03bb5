/-! sets of edges: longs by their bits -/
def bit6 (e : Nat) : Int64 := (1 : Int64) <<< ((n32 e).toInt64 &&& 63)
theorem hl_bit6 : ∀ e, e < 60 → ∀ i, i < 64 → hl (bit6 e) i = decide (i = e) := by decide +kernel
theorem hl_and (v w : Int64) (i : Nat) : hl (v &&& w) i = (hl v i && hl w i) := by unfold hl; rw [Int64.toBitVec_and, BitVec.getLsbD_and]
theorem hl_or (v w : Int64) (i : Nat) : hl (v ||| w) i = (hl v i || hl w i) := by unfold hl; rw [Int64.toBitVec_or, BitVec.getLsbD_or]
theorem hl_ext {v w : Int64} (h : ∀ i, i < 64 → hl v i = hl w i) : v = w := Int64.toBitVec_inj.mp (BitVec.eq_of_getLsbD_eq (fun i hi => h i hi))
theorem lg_0 {v w : Int64} : (lg_cmp v w = 0) = (v = w) := by
  rw [eq_iff_iff]
  constructor
  · intro h
    unfold lg_cmp at h
    by_cases h1 : w < v
    · rw [if_pos h1] at h
      exact absurd h (by decide)
    · rw [if_neg h1] at h
      by_cases h2 : v = w
      · exact h2
      · rw [if_neg h2] at h
        exact absurd h (by decide)
  · intro h
    subst h
    exact lg_self v
theorem and_bit6 (v : Int64) {e : Nat} (he : e < 60) : (v &&& bit6 e = 0) = (hl v e = false) := by
  rw [eq_iff_iff]
  constructor
  · intro h
    have := congrArg (fun q => hl q e) h
    simp only [hl_and, hl_bit6 e he e (by omega), decide_true, Bool.and_true] at this
    rw [this]; exact hl_0 e
  · intro h
    refine hl_ext fun i hi => ?_
    rw [hl_and, hl_bit6 e he i hi, hl_0]
    by_cases q : i = e
    · subst q; rw [h]; rfl
    · simp [q]
theorem c_drops {x : St} {u e : Nat} (he : e < 60) : fX9_drops x u (n32 e) = some (bi (hl (gl x (57 + 5 * u) 8) e)) := by
  unfold fX9_drops
  have h := and_bit6 (gl x (57 + 5 * u) 8) he
  unfold bit6 at h
  simp only [lg_0, h]
  cases hl (gl x (57 + 5 * u) 8) e <;> rfl
