/-! sets of nodes: ints by their bits -/
def hs (x : Int32) (i : Nat) : Bool := x.toBitVec.getLsbD i
theorem hs_ext {x y : Int32} (h : ∀ i, i < 32 → hs x i = hs y i) : x = y := Int32.toBitVec_inj.mp (BitVec.eq_of_getLsbD_eq (fun i hi => h i hi))
theorem hs_or (x y : Int32) (i : Nat) : hs (x ||| y) i = (hs x i || hs y i) := by unfold hs; rw [Int32.toBitVec_or, BitVec.getLsbD_or]
theorem hs_and (x y : Int32) (i : Nat) : hs (x &&& y) i = (hs x i && hs y i) := by unfold hs; rw [Int32.toBitVec_and, BitVec.getLsbD_and]
theorem hs_xor (x y : Int32) (i : Nat) : hs (x ^^^ y) i = (hs x i ^^ hs y i) := by unfold hs; rw [Int32.toBitVec_xor, BitVec.getLsbD_xor]
theorem hs_big {x : Int32} {i : Nat} (h : 32 ≤ i) : hs x i = false := BitVec.getLsbD_of_ge _ _ h
theorem hs_0 (i : Nat) : hs (n32 0) i = false := BitVec.getLsbD_zero
theorem hs_m1 : ∀ i, i < 32 → hs (-1) i = true := by decide +kernel
theorem hs_not (x : Int32) {i : Nat} (hi : i < 32) : hs (x ^^^ (-1)) i = !hs x i := by rw [hs_xor, hs_m1 i hi]; cases hs x i <;> rfl
/-- the set of one node -/
def bit1 (k : Nat) : Int32 := (1 : Int32) <<< (n32 k &&& 31)
theorem hs_bit1 : ∀ k, k < 32 → ∀ i, i < 32 → hs (bit1 k) i = decide (i = k) := by decide +kernel
theorem sh_l : ∀ n, n < 32 → ((n32 n &&& 31).toBitVec.smod 32).toNat = n := by decide +kernel
theorem sh_u : ∀ n, n < 32 → (((n32 n).toUInt32 &&& Int32.toUInt32 31).toBitVec % 32).toNat = n := by decide +kernel
theorem hs_ush (n : Nat) (hn : n < 32) (x : Int32) (i : Nat) : hs (ush x (n32 n)) i = hs x (n + i) := by
  show (x.toUInt32 >>> ((n32 n).toUInt32 &&& Int32.toUInt32 31)).toBitVec.getLsbD i = x.toUInt32.toBitVec.getLsbD (n + i)
  rw [UInt32.toBitVec_shiftRight]
  show (x.toUInt32.toBitVec >>> (((n32 n).toUInt32 &&& Int32.toUInt32 31).toBitVec % 32).toNat).getLsbD i = _
  rw [sh_u n hn, BitVec.getLsbD_ushiftRight]
theorem hs_shr (n : Nat) (hn : n < 32) (x : Int32) {i : Nat} (hi : i < 32) : hs (x >>> (n32 n &&& 31)) i = if n + i < 32 then hs x (n + i) else hs x 31 := by
  unfold hs
  rw [Int32.toBitVec_shiftRight]
  show (x.toBitVec.sshiftRight ((n32 n &&& 31).toBitVec.smod 32).toNat).getLsbD i = _
  rw [sh_l n hn, BitVec.getLsbD_sshiftRight, BitVec.msb_eq_getLsbD_last]
  simp [hi]
theorem hs_1 : ∀ i, i < 32 → hs (1 : Int32) i = decide (i = 0) := by decide +kernel
/-- the lowest bit -/
theorem low_bit (x : Int32) : (x &&& 1) = bi (hs x 0) := by
  refine hs_ext fun i hi => ?_
  rw [hs_and, hs_1 i hi]
  by_cases h : i = 0
  · subst h; cases hs x 0 <;> decide
  · cases hs x 0 <;> simp only [h, decide_false, Bool.and_false, bi]
    · exact (hs_0 i).symm
    · show false = hs (1 : Int32) i
      rw [hs_1 i hi, decide_eq_false h]
theorem c_bit {x : St} (k : Nat) : fX10_bit x (n32 k) = some (bit1 k) := rfl
theorem c_has {x : St} (s : Int32) {k : Nat} (hk : k < 32) : fX10_has x s (n32 k) = some (bi (hs s k)) := by
  unfold fX10_has
  rw [low_bit, hs_ush k hk, Nat.add_zero]
  cases hs s k <;> rfl
theorem r_has {y : St} (s : Int32) {k : Nat} (hk : k < 32) : fX11_has y s (n32 k) = some (bi (hs s k)) := by
  unfold fX11_has
  rw [low_bit, hs_shr k hk s (by decide), Nat.add_zero, if_pos hk]
  cases hs s k <;> rfl
/-- a set gathered from places below n -/
def gat (p : Nat → Bool) (f : Nat → Int32) (n : Nat) : Int32 := fold (fun k a => if p k then a ||| f k else a) (n32 0) n
theorem hs_gat (p : Nat → Bool) (f : Nat → Int32) (i : Nat) : ∀ n, hs (gat p f n) i = (List.range n).any (fun k => p k && hs (f k) i)
  | 0 => hs_0 i
  | n + 1 => by
    rw [List.range_succ, List.any_append, ← hs_gat p f i n]
    show hs (if p n then gat p f n ||| f n else gat p f n) i = _
    cases h : p n
    · simp [h]
    · simp [h, hs_or]
theorem gat_cg {p q : Nat → Bool} {f g : Nat → Int32} : ∀ {n : Nat}, (∀ k, k < n → p k = q k) → (∀ k, k < n → q k = true → f k = g k) → gat p f n = gat q g n
  | 0, _, _ => rfl
  | n + 1, h1, h2 => by
    show (if p n then gat p f n ||| f n else gat p f n) = (if q n then gat q g n ||| g n else gat q g n)
    rw [gat_cg (fun k hk => h1 k (by omega)) (fun k hk => h2 k (by omega)), h1 n (Nat.lt_succ_self n)]
    cases h : q n
    · rfl
    · rw [h2 n (Nat.lt_succ_self n) h]
theorem loop_gat {step : Int32 × Int32 → Option ((Int32 × Int32) ⊕ (Int32 × Int32))} (N : Nat) (p : Nat → Bool) (f : Nat → Int32) (hb : ∀ k a, k < N → step (a, n32 k) = some (.inl (if p k then a ||| f k else a, n32 (k + 1)))) (he : ∀ a, step (a, n32 N) = some (.inr (a, n32 N))) : loopF step (n32 0, n32 0) = some (gat p f N, n32 N) :=
  (loop_fold (step := step) N (fun a k => (a, n32 k)) (fun k a => if p k then a ||| f k else a) (fun _ _ => True) (a0 := n32 0) (out := fun a => (a, n32 N)) trivial (fun k a hk _ => ⟨hb k a hk, trivial⟩) (fun a _ => he a)).1
