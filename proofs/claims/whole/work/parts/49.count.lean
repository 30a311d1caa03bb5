/-! Integer.bitCount on sets of nodes -/
theorem hs_n32 (a : Nat) {i : Nat} (hi : i < 32) : hs (n32 a) i = a.testBit i := by
  show (BitVec.ofNat 32 a).getLsbD i = _
  rw [BitVec.getLsbD_ofNat]
  simp [hi]
theorem n_and (a b : Nat) : n32 a &&& n32 b = n32 (a &&& b) := hs_ext fun i hi => by
  rw [hs_and, hs_n32 _ hi, hs_n32 _ hi, hs_n32 _ hi, Nat.testBit_and]
theorem n_ush {a k : Nat} (ha : a < 2 ^ 32) (hk : k < 32) : ush (n32 a) (n32 k) = n32 (a / 2 ^ k) := hs_ext fun i hi => by
  rw [hs_ush k hk, hs_n32 _ hi, Nat.testBit_div_two_pow, Nat.add_comm i k]
  rcases Nat.lt_or_ge (k + i) 32 with h | h
  · rw [hs_n32 _ h]
  · rw [hs_big h, Nat.testBit_lt_two_pow (Nat.lt_of_lt_of_le ha (Nat.pow_le_pow_right (by decide) h))]
theorem n_sub {a b : Nat} (h : b ≤ a) : n32 a - n32 b = n32 (a - b) := by
  have : n32 a = n32 (a - b) + n32 b := by rw [n_add, Nat.sub_add_cancel h]
  rw [this, Int32.add_sub_cancel]
theorem n_of_sml {s : Int32} (h : sml s) : ∃ m, m < 2 ^ 24 ∧ s = n32 m ∧ ∀ i, i < 32 → hs s i = m.testBit i := by
  have e : s = n32 s.toBitVec.toNat := by
    refine hs_ext fun i hi => ?_
    rw [hs_n32 _ hi]
    rfl
  refine ⟨s.toBitVec.toNat, ?_, e, fun i hi => rfl⟩
  apply Nat.lt_pow_two_of_testBit
  intro i hi
  exact h i hi
theorem and2 {x u : Nat} (y v : Nat) (hx : x < 256) (hu : u < 256) : (x + 256 * y) &&& (u + 256 * v) = (x &&& u) + 256 * (y &&& v) := by
  have hxu : x &&& u < 2 ^ 8 := Nat.lt_of_le_of_lt Nat.and_le_left hx
  apply Nat.eq_of_testBit_eq
  intro i
  rw [Nat.testBit_and, Nat.add_comm x, Nat.add_comm u, Nat.add_comm (x &&& u), show (256 : Nat) = 2 ^ 8 from rfl, Nat.testBit_two_pow_mul_add _ hx, Nat.testBit_two_pow_mul_add _ hu, Nat.testBit_two_pow_mul_add _ hxu]
  split
  · rw [Nat.testBit_and]
  · rw [Nat.testBit_and]
def e1 (b : Nat) : Nat := b - ((b / 2) &&& 85)
def a2 (b : Nat) : Nat := (b &&& 51) + ((b / 4) &&& 51)
def a3 (b : Nat) : Nat := (b + b / 16) &&& 15
def pc8 (b : Nat) : Nat := a3 (a2 (e1 b))
theorem f_1 : ∀ b, b < 256 → ∀ c, c < 2 → (b / 2 + 128 * c) &&& 85 = (b / 2) &&& 85 := by decide +kernel
theorem f_1l : ∀ b, b < 256 → (b / 2) &&& 85 ≤ b := by decide +kernel
theorem f_2 : ∀ b, b < 256 → ∀ c, c < 4 → (b / 4 + 64 * c) &&& 51 = (b / 4) &&& 51 := by decide +kernel
theorem f_3 : ∀ b, b < 69 → ∀ c, c < 5 → b % 16 ≤ 4 → (b + (b / 16 + 16 * c)) &&& 15 = (b + b / 16) &&& 15 := by decide +kernel
theorem f_4 : ∀ b, b < 256 → a2 (e1 b) < 69 ∧ a2 (e1 b) % 16 ≤ 4 ∧ pc8 b ≤ 8 := by decide +kernel
theorem f_5 : ∀ b, b < 256 → pc8 b = cnt (fun i => b.testBit i) 8 := by decide +kernel
theorem f_6 : ∀ b, b < 256 → b % 256 = b := by decide +kernel
theorem cnt_add (p : Nat → Bool) (m : Nat) : ∀ n, cnt p (m + n) = cnt p m + cnt (fun k => p (m + k)) n
  | 0 => rfl
  | n + 1 => by
    show (if p (m + n) then cnt p (m + n) + 1 else cnt p (m + n)) = cnt p m + (if p (m + n) then cnt (fun k => p (m + k)) n + 1 else cnt (fun k => p (m + k)) n)
    rw [cnt_add p m n]
    split <;> omega
theorem st1 {b0 b1 b2 : Nat} (h0 : b0 < 256) (h1 : b1 < 256) (h2 : b2 < 256) : ((b0 + 256 * (b1 + 256 * b2)) / 2) &&& 1431655765 = ((b0 / 2) &&& 85) + 256 * (((b1 / 2) &&& 85) + 256 * ((b2 / 2) &&& 85)) := by
  have e : (b0 + 256 * (b1 + 256 * b2)) / 2 = (b0 / 2 + 128 * (b1 % 2)) + 256 * ((b1 / 2 + 128 * (b2 % 2)) + 256 * ((b2 / 2) + 256 * 0)) := by omega
  rw [e, show 1431655765 = 85 + 256 * (85 + 256 * (85 + 256 * 85)) from rfl, and2 _ _ (by omega) (by decide), and2 _ _ (by omega) (by decide), and2 _ _ (by omega) (by decide), f_1 b0 h0 _ (by omega), f_1 b1 h1 _ (by omega)]
  simp
theorem st2a {b0 b1 b2 : Nat} (h0 : b0 < 256) (h1 : b1 < 256) (h2 : b2 < 256) : (b0 + 256 * (b1 + 256 * b2)) &&& 858993459 = (b0 &&& 51) + 256 * ((b1 &&& 51) + 256 * (b2 &&& 51)) := by
  rw [show b0 + 256 * (b1 + 256 * b2) = b0 + 256 * (b1 + 256 * (b2 + 256 * 0)) by omega, show 858993459 = 51 + 256 * (51 + 256 * (51 + 256 * 51)) from rfl, and2 _ _ h0 (by decide), and2 _ _ h1 (by decide), and2 _ _ h2 (by decide)]
  simp
theorem st2 {b0 b1 b2 : Nat} (h0 : b0 < 256) (h1 : b1 < 256) (h2 : b2 < 256) : ((b0 + 256 * (b1 + 256 * b2)) / 4) &&& 858993459 = ((b0 / 4) &&& 51) + 256 * (((b1 / 4) &&& 51) + 256 * ((b2 / 4) &&& 51)) := by
  have e : (b0 + 256 * (b1 + 256 * b2)) / 4 = (b0 / 4 + 64 * (b1 % 4)) + 256 * ((b1 / 4 + 64 * (b2 % 4)) + 256 * ((b2 / 4) + 256 * 0)) := by omega
  rw [e, show 858993459 = 51 + 256 * (51 + 256 * (51 + 256 * 51)) from rfl, and2 _ _ (by omega) (by decide), and2 _ _ (by omega) (by decide), and2 _ _ (by omega) (by decide), f_2 b0 h0 _ (by omega), f_2 b1 h1 _ (by omega)]
  simp
theorem st3 {b0 b1 b2 : Nat} (h0 : b0 < 69) (h1 : b1 < 69) (h2 : b2 < 69) (g0 : b0 % 16 ≤ 4) (g1 : b1 % 16 ≤ 4) (g2 : b2 % 16 ≤ 4) : (b0 + 256 * (b1 + 256 * b2) + (b0 + 256 * (b1 + 256 * b2)) / 16) &&& 252645135 = a3 b0 + 256 * (a3 b1 + 256 * a3 b2) := by
  have e : b0 + 256 * (b1 + 256 * b2) + (b0 + 256 * (b1 + 256 * b2)) / 16 = (b0 + (b0 / 16 + 16 * (b1 % 16))) + 256 * ((b1 + (b1 / 16 + 16 * (b2 % 16))) + 256 * ((b2 + (b2 / 16 + 16 * 0)) + 256 * 0)) := by omega
  rw [e, show 252645135 = 15 + 256 * (15 + 256 * (15 + 256 * 15)) from rfl, and2 _ _ (by omega) (by decide), and2 _ _ (by omega) (by decide), and2 _ _ (by omega) (by decide), f_3 b0 h0 _ (by omega) g0, f_3 b1 h1 _ (by omega) g1, f_3 b2 h2 _ (by omega) g2]
  unfold a3
  simp
theorem c_bitCount {x : St} {s : Int32} (h : sml s) : fJ6_bitCount x s = some (n32 (cnt (hs s) 24)) := by
  obtain ⟨m, hm, rfl, hb⟩ := n_of_sml h
  obtain ⟨b0, b1, b2, h0, h1, h2, rfl⟩ : ∃ b0 b1 b2 : Nat, b0 < 256 ∧ b1 < 256 ∧ b2 < 256 ∧ m = b0 + 256 * (b1 + 256 * b2) := ⟨m % 256, m / 256 % 256, m / 65536, by omega, by omega, by omega, by omega⟩
  have l0 := f_1l b0 h0
  have l1 := f_1l b1 h1
  have l2 := f_1l b2 h2
  have s1 : b0 + 256 * (b1 + 256 * b2) - (((b0 + 256 * (b1 + 256 * b2)) / 2) &&& 1431655765) = e1 b0 + 256 * (e1 b1 + 256 * e1 b2) := by
    rw [st1 h0 h1 h2]
    unfold e1
    omega
  have q0 : e1 b0 < 256 := by unfold e1; omega
  have q1 : e1 b1 < 256 := by unfold e1; omega
  have q2 : e1 b2 < 256 := by unfold e1; omega
  obtain ⟨u0, v0, w0⟩ := f_4 b0 h0
  obtain ⟨u1, v1, w1⟩ := f_4 b1 h1
  obtain ⟨u2, v2, w2⟩ := f_4 b2 h2
  have s2 : ((e1 b0 + 256 * (e1 b1 + 256 * e1 b2)) &&& 858993459) + (((e1 b0 + 256 * (e1 b1 + 256 * e1 b2)) / 4) &&& 858993459) = a2 (e1 b0) + 256 * (a2 (e1 b1) + 256 * a2 (e1 b2)) := by
    rw [st2a q0 q1 q2, st2 q0 q1 q2]
    unfold a2
    omega
  have s3 := st3 u0 u1 u2 v0 v1 v2
  have hcnt : cnt (hs (n32 (b0 + 256 * (b1 + 256 * b2)))) 24 = pc8 b0 + pc8 b1 + pc8 b2 := by
    rw [cnt_add _ 16 8, cnt_add _ 8 8, f_5 b0 h0, f_5 b1 h1, f_5 b2 h2]
    have tb : ∀ i, i < 32 → hs (n32 (b0 + 256 * (b1 + 256 * b2))) i = if i < 8 then b0.testBit i else if i - 8 < 8 then b1.testBit (i - 8) else b2.testBit (i - 16) := fun i hi => by
      rw [hs_n32 _ hi, Nat.add_comm b0, show (256 : Nat) = 2 ^ 8 from rfl, Nat.testBit_two_pow_mul_add _ h0, Nat.add_comm b1, Nat.testBit_two_pow_mul_add _ h1]
      split
      · rfl
      · split
        · rfl
        · rw [Nat.sub_sub]
    refine congr (congrArg _ (congr (congrArg _ (cnt_cg fun k hk => ?_)) (cnt_cg fun k hk => ?_))) (cnt_cg fun k hk => ?_)
    · rw [tb k (by omega), if_pos (by omega)]
    · rw [tb (8 + k) (by omega), if_neg (by omega), if_pos (by omega), Nat.add_sub_cancel_left]
    · rw [tb (16 + k) (by omega), if_neg (by omega), if_neg (by omega), Nat.add_sub_cancel_left]
  unfold fJ6_bitCount
  simp only [lt_e, show (1 : Int32) = n32 1 from rfl, show (2 : Int32) = n32 2 from rfl, show (4 : Int32) = n32 4 from rfl, show (8 : Int32) = n32 8 from rfl, show (16 : Int32) = n32 16 from rfl, show (63 : Int32) = n32 63 from rfl, show (1431655765 : Int32) = n32 1431655765 from rfl, show (858993459 : Int32) = n32 858993459 from rfl, show (252645135 : Int32) = n32 252645135 from rfl]
  rw [n_ush (by omega) (by decide), n_and, n_sub (by rw [st1 h0 h1 h2]; omega), s1, n_ush (by omega) (by decide), n_and, n_and, n_add, s2, n_ush (by omega) (by decide), n_add, n_and, s3]
  have t4 : pc8 b0 + 256 * (pc8 b1 + 256 * pc8 b2) = a3 (a2 (e1 b0)) + 256 * (a3 (a2 (e1 b1)) + 256 * a3 (a2 (e1 b2))) := rfl
  rw [← t4, n_ush (by omega) (by decide), n_add, n_ush (by omega) (by decide), n_add, n_and, hcnt]
  refine congrArg some (congrArg n32 ?_)
  rw [show (63 : Nat) = 2 ^ 6 - 1 from rfl, Nat.and_two_pow_sub_one_eq_mod]
  have hv : (pc8 b0 + 256 * (pc8 b1 + 256 * pc8 b2)) / 2 ^ 8 = pc8 b1 + 256 * pc8 b2 := by omega
  rw [hv]
  have hw : (pc8 b0 + 256 * (pc8 b1 + 256 * pc8 b2) + (pc8 b1 + 256 * pc8 b2)) / 2 ^ 16 = pc8 b2 := by omega
  rw [hw]
  omega
