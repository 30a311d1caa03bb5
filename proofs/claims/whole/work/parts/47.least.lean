/-! the least node of a ring of neighbours: both sides grow a set to its closure -/
def sbs (s t : Int32) : Prop := ∀ i, i < 32 → hs s i = true → hs t i = true
def sml (s : Int32) : Prop := ∀ i, 24 ≤ i → hs s i = false
theorem sbs.rf {s : Int32} : sbs s s := fun _ _ h => h
theorem sbs.tr {s t u : Int32} (h1 : sbs s t) (h2 : sbs t u) : sbs s u := fun i hi h => h2 i hi (h1 i hi h)
theorem sbs.an {s t : Int32} (h1 : sbs s t) (h2 : sbs t s) : s = t := hs_ext fun i hi => Bool.eq_iff_iff.mpr ⟨h1 i hi, h2 i hi⟩
theorem sbs_or (s t : Int32) : sbs s (s ||| t) := fun i _ h => by rw [hs_or, h]; rfl
theorem cnt_mono {p q : Nat → Bool} : ∀ {n : Nat}, (∀ k, k < n → p k = true → q k = true) → cnt p n ≤ cnt q n
  | 0, _ => Nat.le_refl _
  | n + 1, h => by
    have h1 := cnt_mono (n := n) fun k hk => h k (by omega)
    show (if p n then cnt p n + 1 else cnt p n) ≤ (if q n then cnt q n + 1 else cnt q n)
    have h2 := h n (Nat.lt_succ_self n)
    cases hp : p n <;> cases hq : q n <;> simp [hp, hq] at h2 ⊢ <;> omega
theorem cnt_lt {p q : Nat → Bool} : ∀ {n : Nat}, (∀ k, k < n → p k = true → q k = true) → (∃ k, k < n ∧ p k = false ∧ q k = true) → cnt p n < cnt q n
  | 0, _, ⟨k, h, _⟩ => absurd h (Nat.not_lt_zero k)
  | n + 1, h, ⟨k, hk, h1, h2⟩ => by
    have h3 := h n (Nat.lt_succ_self n)
    show (if p n then cnt p n + 1 else cnt p n) < (if q n then cnt q n + 1 else cnt q n)
    by_cases e : k = n
    · subst e
      have h4 := cnt_mono (n := k) fun j hj => h j (by omega)
      rw [h1, h2]
      simp only [if_true, if_false, Bool.false_eq_true]
      omega
    · have h4 := cnt_lt (n := n) (fun j hj => h j (by omega)) ⟨k, by omega, h1, h2⟩
      cases hp : p n <;> cases hq : q n <;> simp [hp, hq] at h3 ⊢ <;> omega
theorem cnt_pos {p : Nat → Bool} {n k : Nat} (hk : k < n) (h : p k = true) : 1 ≤ cnt p n := by
  have h0 : ∀ n, cnt (fun _ => false) n = 0 := fun n => by
    induction n with
    | zero => rfl
    | succ n ih => exact ih
  have := cnt_lt (p := fun _ => false) (q := p) (n := n) (fun _ _ h => by cases h) ⟨k, hk, rfl, h⟩
  rw [h0] at this
  exact this
theorem grow {s t : Int32} (hst : sbs s t) (ht : sml t) (hne : s ≠ t) : cnt (hs s) 24 < cnt (hs t) 24 := by
  refine cnt_lt (fun k hk h => hst k (by omega) h) ?_
  apply Classical.byContradiction
  intro hn
  refine hne (hst.an fun i hi h => ?_)
  have hi24 : i < 24 := by
    rcases Nat.lt_or_ge i 24 with h9 | h9
    · exact h9
    · rw [ht i h9] at h; cases h
  cases h2 : hs s i
  · exact absurd ⟨i, hi24, h2, h⟩ hn
  · rfl
/-- a set that grows 24 times from one node on has come to rest -/
theorem iter_fix {f : Int32 → Int32} (hi : ∀ s, sbs s (f s)) (hb : ∀ s, sml s → sml (f s)) {s0 : Int32} (h0 : sml s0) (h1 : 1 ≤ cnt (hs s0) 24) : f (fold (fun _ a => f a) s0 24) = fold (fun _ a => f a) s0 24 := by
  have hs0 : ∀ k, sml (fold (fun _ a => f a) s0 k) := fun k => by
    induction k with
    | zero => exact h0
    | succ k ih => exact hb _ ih
  have key : ∀ k, (∃ j, j < k ∧ f (fold (fun _ a => f a) s0 j) = fold (fun _ a => f a) s0 j) ∨ k + 1 ≤ cnt (hs (fold (fun _ a => f a) s0 k)) 24 := fun k => by
    induction k with
    | zero => exact Or.inr h1
    | succ k ih =>
      rcases ih with ⟨j, hj, h⟩ | h
      · exact Or.inl ⟨j, by omega, h⟩
      · by_cases e : f (fold (fun _ a => f a) s0 k) = fold (fun _ a => f a) s0 k
        · exact Or.inl ⟨k, by omega, e⟩
        · refine Or.inr ?_
          have := grow (hi (fold (fun _ a => f a) s0 k)) (hb _ (hs0 k)) (fun q => e q.symm)
          show k + 1 + 1 ≤ cnt (hs (f (fold (fun _ a => f a) s0 k))) 24
          omega
  have stay : ∀ j m, f (fold (fun _ a => f a) s0 j) = fold (fun _ a => f a) s0 j → fold (fun _ a => f a) s0 (j + m) = fold (fun _ a => f a) s0 j := fun j m h => by
    induction m with
    | zero => rfl
    | succ m ih =>
      show f (fold (fun _ a => f a) s0 (j + m)) = _
      rw [ih]; exact h
  rcases key 24 with ⟨j, hj, h⟩ | h
  · have := stay j (24 - j) h
    rw [show j + (24 - j) = 24 by omega] at this
    rw [this]; exact h
  · have := cnt_le (hs (fold (fun _ a => f a) s0 24)) 24
    omega
theorem iter_up {f : Int32 → Int32} (hi : ∀ s, sbs s (f s)) (s0 : Int32) : ∀ k, sbs s0 (fold (fun _ a => f a) s0 k)
  | 0 => sbs.rf
  | k + 1 => (iter_up hi s0 k).tr (hi _)
/-- a set that each edge that is there has both ends of, or none -/
def clo (E : Nat) (x : St) (s : Int32) : Prop := ∀ e, e < E → le x e = true → hs s (fr x e) = hs s (tt x e)
theorem iter_in {f : Int32 → Int32} {C s0 : Int32} (h : ∀ s, sbs s C → sbs (f s) C) (h0 : sbs s0 C) : ∀ k, sbs (fold (fun _ a => f a) s0 k) C
  | 0 => h0
  | k + 1 => h _ (iter_in h h0 k)
def lsb (x : St) (e : Nat) (a : Int32) : Int32 := if le x e && (hs a (fr x e) || hs a (tt x e)) then a ||| (bit1 (fr x e) ||| bit1 (tt x e)) else a
theorem lsb_up (x : St) (e : Nat) (a : Int32) : sbs a (lsb x e a) := by
  unfold lsb
  split
  · exact sbs_or _ _
  · exact sbs.rf
/-- the reference's way through the edges, once -/
def lsr (E : Nat) (x : St) (s : Int32) : Int32 := fold (lsb x) s E
/-- the class's -/
def lsc (E : Nat) (x : St) (s : Int32) : Int32 := s ||| (onw E x s ||| gat (fun e => le x e && hs s (tt x e)) (fun e => bit1 (fr x e)) E)
theorem hs_one {k i : Nat} (hk : k < 32) (hi : i < 32) (h : hs (bit1 k) i = true) : i = k := by
  rw [hs_bit1 k hk i hi] at h
  exact of_decide_eq_true h
theorem hs_own {k : Nat} (hk : k < 32) : hs (bit1 k) k = true := by rw [hs_bit1 k hk k hk]; simp
theorem sml_bit {k : Nat} (hk : k < 24) : sml (bit1 k) := fun i hi => by
  rcases Nat.lt_or_ge i 32 with h | h
  · rw [hs_bit1 k (by omega) i h, decide_eq_false (by omega)]
  · exact hs_big h
theorem sml_or {s t : Int32} (h1 : sml s) (h2 : sml t) : sml (s ||| t) := fun i hi => by rw [hs_or, h1 i hi, h2 i hi]; rfl
theorem sml_gat {p : Nat → Bool} {f : Nat → Int32} {n : Nat} (h : ∀ k, k < n → sml (f k)) : sml (gat p f n) := fun i hi => by
  rw [hs_gat, List.any_eq_false]
  intro k hk
  rw [h k (List.mem_range.mp hk) i hi]
  simp
section LEAST
variable {N E : Nat} {x y : St}
theorem lsr_step (hN : N ≤ 24) (h : RE N E x y) (s : Int32) : ∀ n, n ≤ E → sbs s (fold (lsb x) s n)
  | 0, _ => sbs.rf
  | n + 1, hn => by
    exact (lsr_step hN h s n (by omega)).tr (lsb_up x n _)
theorem lsr_clo (hN : N ≤ 24) (h : RE N E x y) {s : Int32} (hs9 : lsr E x s = s) : clo E x s := by
  -- all that stands between is the set itself
  have mono : ∀ n m, n + m ≤ E → sbs (fold (lsb x) s n) (fold (lsb x) s (n + m)) := fun n m => by
    induction m with
    | zero => intro _; exact sbs.rf
    | succ m ih =>
      intro hm
      exact (ih (by omega)).tr (lsb_up x (n + m) _)
  have same : ∀ n, n ≤ E → fold (lsb x) s n = s := fun n hn => by
    refine sbs.an ?_ (lsr_step hN h s n hn)
    have := mono n (E - n) (by omega)
    rw [show n + (E - n) = E by omega] at this
    have e9 : fold (lsb x) s E = s := hs9
    rw [e9] at this
    exact this
  intro e he hl
  obtain ⟨-, -, -, h4, h5, -⟩ := RE_at h hN he
  have h1 := same (e + 1) (by omega)
  have h2 : lsb x e s = s := by
    have h3 : lsb x e (fold (lsb x) s e) = s := h1
    rw [same e (by omega)] at h3
    exact h3
  unfold lsb at h2
  rw [hl, Bool.true_and] at h2
  cases h6 : hs s (fr x e) <;> cases h7 : hs s (tt x e)
  · rfl
  · rw [h6, h7, Bool.or_true, if_pos rfl] at h2
    have := congrArg (fun q => hs q (fr x e)) h2
    simp only [hs_or, hs_own (show fr x e < 32 by omega), Bool.true_or, Bool.or_true, h6] at this
    cases this
  · rw [h6, h7, Bool.true_or, if_pos rfl] at h2
    have := congrArg (fun q => hs q (tt x e)) h2
    simp only [hs_or, hs_own (show tt x e < 32 by omega), Bool.or_true, h7] at this
    cases this
  · rfl
theorem lsc_clo (hN : N ≤ 24) (h : RE N E x y) {s : Int32} (hs9 : lsc E x s = s) : clo E x s := by
  intro e he hl
  obtain ⟨-, -, -, h4, h5, -⟩ := RE_at h hN he
  have h8 : ∀ i, i < 32 → (hs (onw E x s) i = true ∨ hs (gat (fun e => le x e && hs s (tt x e)) (fun e => bit1 (fr x e)) E) i = true) → hs s i = true := fun i hi hh => by
    have := congrArg (fun q => hs q i) hs9
    simp only [lsc, hs_or] at this
    rw [← this]
    rcases hh with q | q <;> rw [q] <;> simp
  unfold onw at h8
  rw [Bool.eq_iff_iff]
  constructor
  · intro h6
    refine h8 _ (by omega) (Or.inl ?_)
    rw [hs_gat, List.any_eq_true]
    exact ⟨e, List.mem_range.mpr he, by rw [hl, h6, hs_own (by omega)]; rfl⟩
  · intro h6
    refine h8 _ (by omega) (Or.inr ?_)
    rw [hs_gat, List.any_eq_true]
    exact ⟨e, List.mem_range.mpr he, by rw [hl, h6, hs_own (by omega)]; rfl⟩
theorem lsr_in (hN : N ≤ 24) (h : RE N E x y) {C s : Int32} (hC : clo E x C) (hs9 : sbs s C) : sbs (lsr E x s) C := by
  unfold lsr
  have key : ∀ n, n ≤ E → sbs (fold (lsb x) s n) C := fun n => by
    induction n with
    | zero => intro _; exact hs9
    | succ n ih =>
      intro hn
      have ih := ih (by omega)
      obtain ⟨-, -, -, h4, h5, -⟩ := RE_at h hN (show n < E by omega)
      show sbs (lsb x n (fold (lsb x) s n)) C
      generalize fold (lsb x) s n = q9 at ih ⊢
      unfold lsb
      split
      · next hc =>
        simp only [Bool.and_eq_true, Bool.or_eq_true] at hc
        have hc9 := hC n (by omega) hc.1
        have hboth : hs C (fr x n) = true ∧ hs C (tt x n) = true := by
          rcases hc.2 with q | q
          · have := ih _ (by omega) q
            exact ⟨this, by rw [← hc9]; exact this⟩
          · have := ih _ (by omega) q
            exact ⟨by rw [hc9]; exact this, this⟩
        intro i hi hh
        simp only [hs_or, Bool.or_eq_true] at hh
        rcases hh with q | q | q
        · exact ih i hi q
        · rw [hs_one (by omega) hi q]; exact hboth.1
        · rw [hs_one (by omega) hi q]; exact hboth.2
      · exact ih
  exact key E (Nat.le_refl _)
theorem lsc_in (hN : N ≤ 24) (h : RE N E x y) {C s : Int32} (hC : clo E x C) (hs9 : sbs s C) : sbs (lsc E x s) C := by
  intro i hi hh
  unfold lsc onw at hh
  simp only [hs_or, Bool.or_eq_true, hs_gat, List.any_eq_true, List.mem_range, Bool.and_eq_true] at hh
  rcases hh with q | ⟨e, he, ⟨h1, h2⟩, h3⟩ | ⟨e, he, ⟨h1, h2⟩, h3⟩
  · exact hs9 i hi q
  · obtain ⟨-, -, -, h4, h5, -⟩ := RE_at h hN he
    rw [hs_one (by omega) hi h3, ← hC e he h1]
    exact hs9 _ (by omega) h2
  · obtain ⟨-, -, -, h4, h5, -⟩ := RE_at h hN he
    rw [hs_one (by omega) hi h3, hC e he h1]
    exact hs9 _ (by omega) h2
theorem lsr_sml (hN : N ≤ 24) (h : RE N E x y) {s : Int32} (hs9 : sml s) : sml (lsr E x s) := by
  unfold lsr
  have key : ∀ n, n ≤ E → sml (fold (lsb x) s n) := fun n => by
    induction n with
    | zero => intro _; exact hs9
    | succ n ih =>
      intro hn
      obtain ⟨-, -, -, h4, h5, -⟩ := RE_at h hN (show n < E by omega)
      show sml (lsb x n (fold (lsb x) s n))
      unfold lsb
      split
      · exact sml_or (ih (by omega)) (sml_or (sml_bit (by omega)) (sml_bit (by omega)))
      · exact ih (by omega)
  exact key E (Nat.le_refl _)
theorem lsc_sml (hN : N ≤ 24) (h : RE N E x y) {s : Int32} (hs9 : sml s) : sml (lsc E x s) := by
  unfold lsc onw
  refine sml_or hs9 (sml_or (sml_gat fun k hk => ?_) (sml_gat fun k hk => ?_))
  · obtain ⟨-, -, -, h4, h5, -⟩ := RE_at h hN hk
    exact sml_bit (by omega)
  · obtain ⟨-, -, -, h4, h5, -⟩ := RE_at h hN hk
    exact sml_bit (by omega)
theorem ls_same (hN : N ≤ 24) (h : RE N E x y) {k : Nat} (hk : k < 24) : fold (fun _ a => lsr E x a) (bit1 k) 24 = fold (fun _ a => lsc E x a) (bit1 k) 24 := by
  have up1 : ∀ s, sbs s (lsr E x s) := fun s => lsr_step hN h s E (Nat.le_refl _)
  have up2 : ∀ s, sbs s (lsc E x s) := fun s => sbs_or _ _
  have one : 1 ≤ cnt (hs (bit1 k)) 24 := cnt_pos hk (hs_own (by omega))
  have f1 := iter_fix up1 (fun s => lsr_sml hN h) (sml_bit hk) one
  have f2 := iter_fix up2 (fun s => lsc_sml hN h) (sml_bit hk) one
  exact sbs.an (iter_in (fun s => lsr_in hN h (lsc_clo hN h f2)) (iter_up up2 _ 24) 24) (iter_in (fun s => lsc_in hN h (lsr_clo hN h f1)) (iter_up up1 _ 24) 24)
end LEAST
