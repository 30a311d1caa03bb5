/-! the pictures: x the class's cells, y the reference's; N nodes, E edges, T the time -/
/-- the node k isn't gone, the edge e isn't gone -/
def lv (x : St) (k : Nat) : Bool := decide (gi x 3 k = NV)
def le (x : St) (e : Nat) : Bool := decide (gi x 12 e = NV)
/-- an int is a node (an edge) that is there -/
def nd (N : Nat) (x : St) (a : Int32) : Bool := decide (¬ a < 0 ∧ a < n32 N) && lv x a.toNatClampNeg
def ed (E : Nat) (x : St) (a : Int32) : Bool := decide (¬ a < 0 ∧ a < n32 E) && le x a.toNatClampNeg
/-- an int is a node (an edge) that was there at a time -/
def wn (N : Nat) (x : St) (a t : Int32) : Bool := decide (¬ a < 0 ∧ a < n32 N) && (decide (¬ t < gi x 2 a.toNatClampNeg) && decide (¬ gi x 3 a.toNatClampNeg ≤ t))
def we (E : Nat) (x : St) (a t : Int32) : Bool := decide (¬ a < 0 ∧ a < n32 E) && (decide (¬ t < gi x 11 a.toNatClampNeg) && decide (¬ gi x 12 a.toNatClampNeg ≤ t))
/-- nodes -/
def RN (N : Nat) (x y : St) : Prop := N ≤ 24 ∧ gi x 1 2 = n32 N ∧ gi y 0 1 = n32 N ∧ (∀ k, gi y 1 k = gi x 4 k) ∧ (∀ k, gi y 2 k = gi x 5 k) ∧ (∀ k, gi y 4 k = gi x 2 k) ∧ (∀ k, gi y 5 k = gi x 3 k) ∧ (∀ k, gi y 6 k = gi x 6 k)
/-- edges -/
def RE (N E : Nat) (x y : St) : Prop := E ≤ 60 ∧ gi x 10 2 = n32 E ∧ gi y 0 15 = n32 E ∧ (∀ k, gi y 13 k = gi x 13 k) ∧ (∀ k, gi y 14 k = gi x 15 k) ∧ (∀ k, gi y 15 k = gi x 14 k) ∧ (∀ k, gi y 16 k = gi x 11 k) ∧ (∀ k, gi y 17 k = gi x 12 k) ∧
  (∀ e, e < E → ∃ a b l : Nat, a < N ∧ b < N ∧ l < 4 ∧ gi x 13 e = n32 a ∧ gi x 15 e = n32 b ∧ gi x 14 e = n32 l)
/-- time -/
def RT (T : Nat) (x y : St) : Prop := T ≤ 512 ∧ gi x 0 11 = n32 T ∧ gi y 0 0 = n32 T
/-- machines -/
def RM (N : Nat) (x y : St) : Prop := (∀ k, gi y 3 k = gi x 21 k) ∧ (∀ k, k < N → ∃ m : Nat, m < 3 ∧ gi x 21 k = n32 m) ∧ ∀ m, m < 3 → ∃ b : Bool, gi x 22 m = bi b ∧ gi y 21 m = bi !b
/-- laws -/
def RW (x y : St) : Prop := (∀ l, l < 4 → ∃ b : Bool, gi x 17 l = bi b ∧ gi y 18 l = bi b) ∧ (∀ l, gi y 19 l = gi x 18 l) ∧ ∀ l, gi x 18 l ≠ -1 → gi y 20 l = gi x 19 l
theorem nd_n {N k : Nat} {x : St} (hN : N ≤ 24) (hk : k < N) : nd N x (n32 k) = lv x k := by
  unfold nd
  simp (disch := omega) only [eq_self, n_le, n_lt, n_inj, n_nat, gd_in, n_add, bi_z, bi_1, gd_bi, n_nonneg,  some_bind, lt_e, lit_NV, if_true, if_false, ite_true, ite_false, Option.bind_some, not_true, not_false_iff, lit_0, lit_1, lit_2, lit_3, lit_4, lit_5, lit_6, lit_7, lit_8, lit_12, lit_24, lit_25, lit_30, lit_60, lit_63, lit_96, lit_100, lit_512, lit_240]
  simp [hk]
theorem ed_n {E k : Nat} {x : St} (hE : E ≤ 60) (hk : k < E) : ed E x (n32 k) = le x k := by
  unfold ed
  simp (disch := omega) only [eq_self, n_le, n_lt, n_inj, n_nat, gd_in, n_add, bi_z, bi_1, gd_bi, n_nonneg,  some_bind, lt_e, lit_NV, if_true, if_false, ite_true, ite_false, Option.bind_some, not_true, not_false_iff, lit_0, lit_1, lit_2, lit_3, lit_4, lit_5, lit_6, lit_7, lit_8, lit_12, lit_24, lit_25, lit_30, lit_60, lit_63, lit_96, lit_100, lit_512, lit_240]
  simp [hk]
/-- an int that is a number below n -/
theorem n_below {a : Int32} {n : Nat} (hn : n < 2 ^ 31) (h : ¬ a < 0 ∧ a < n32 n) : ∃ k, k < n ∧ a = n32 k := by
  obtain ⟨h1, h2⟩ := n_of h.1
  refine ⟨a.toNatClampNeg, ?_, h1⟩
  have h3 := h.2
  rw [h1, n_lt h2 hn] at h3
  exact h3
theorem nd_ex {N : Nat} {x : St} {a : Int32} (hN : N ≤ 24) (h : nd N x a = true) : ∃ k, k < N ∧ a = n32 k ∧ lv x k = true := by
  unfold nd at h
  simp only [Bool.and_eq_true, decide_eq_true_eq] at h
  obtain ⟨k, h1, h2⟩ := n_below (by omega) h.1
  subst h2
  refine ⟨k, h1, rfl, ?_⟩
  have := h.2
  rwa [n_nat (by omega)] at this
theorem ed_ex {E : Nat} {x : St} {a : Int32} (hE : E ≤ 60) (h : ed E x a = true) : ∃ k, k < E ∧ a = n32 k ∧ le x k = true := by
  unfold ed at h
  simp only [Bool.and_eq_true, decide_eq_true_eq] at h
  obtain ⟨k, h1, h2⟩ := n_below (by omega) h.1
  subst h2
  refine ⟨k, h1, rfl, ?_⟩
  have := h.2
  rwa [n_nat (by omega)] at this
theorem nlt_le {a b : Int32} : (¬ a < b) = (b ≤ a) := by
  rw [eq_iff_iff, Int32.lt_iff_toInt_lt, Int32.le_iff_toInt_le]; omega
theorem nle_lt {a b : Int32} : (¬ a ≤ b) = (b < a) := by
  rw [eq_iff_iff, Int32.lt_iff_toInt_lt, Int32.le_iff_toInt_le]; omega
/-- isIn, for a range from 0 on -/
theorem r_isIn {y : St} {a : Int32} {n : Nat} (hn : n < 2 ^ 31) : fX11_isIn y a (n32 0) (n32 n - n32 1) = some (bi (decide (¬ a < 0 ∧ a < n32 n))) := by
  have key : (n32 n - n32 1 < a) = ¬ a < n32 n := by
    rw [eq_iff_iff, Int32.lt_iff_toInt_lt, Int32.lt_iff_toInt_lt, n_toInt hn]
    have h1 : (n32 n - n32 1).toInt = (n : Int) - 1 := by
      have h5 : n32 n - n32 1 = Int32.ofInt ((n : Int) - 1) := by rw [Int32.ofInt_sub]; rfl
      rw [h5, Int32.toInt_ofInt_of_le (by omega) (by omega)]
    rw [h1]; omega
  unfold fX11_isIn fX11_isIn_j14
  simp only [key]
  by_cases h1 : a < n32 0
  · have h1' : a < 0 := h1
    rw [if_pos h1, decide_eq_false (fun h => h.1 h1')]; rfl
  · have h1' : ¬ a < 0 := h1
    rw [if_neg h1]
    by_cases h2 : a < n32 n
    · rw [if_neg (fun h => h h2), decide_eq_true ⟨h1', h2⟩]; rfl
    · rw [if_pos h2, decide_eq_false (fun h => h2 h.2)]; rfl
theorem inb_of {a : Int32} {n m : Nat} (h : ¬ a < 0 ∧ a < n32 n) (hn : n ≤ m) (hm : m < 2 ^ 31) : inb a m := by
  obtain ⟨k, h1, rfl⟩ := n_below (by omega) h
  exact n_inb (by omega) hm
theorem c_isThereN {x : St} {N : Nat} (hN : gi x 1 2 = n32 N) (h : N ≤ 24) (a : Int32) : fX7_isThereN x a = some (bi (nd N x a)) := by
  unfold fX7_isThereN fX7_isThereN_j27 nd lv
  rw [hN]
  by_cases h1 : a < 0
  · rw [if_pos h1, decide_eq_false (fun q => q.1 h1)]; rfl
  rw [if_neg h1]
  by_cases h2 : a < n32 N
  · rw [if_neg (by rw [nle_lt]; exact h2), gd_t (inb_of ⟨h1, h2⟩ (by omega) (by decide)), decide_eq_true ⟨h1, h2⟩]
    show (if gi x 3 a.toNatClampNeg = NV then _ else _) = _
    split <;> simp_all [bi] <;> rfl
  · rw [if_pos (by rw [← nlt_le]; exact h2), decide_eq_false (fun q => h2 q.2)]; rfl
theorem c_isThereE {x : St} {E : Nat} (hE : gi x 10 2 = n32 E) (h : E ≤ 60) (a : Int32) : fX7_isThereE x a = some (bi (ed E x a)) := by
  unfold fX7_isThereE fX7_isThereE_j27 ed le
  rw [hE]
  by_cases h1 : a < 0
  · rw [if_pos h1, decide_eq_false (fun q => q.1 h1)]; rfl
  rw [if_neg h1]
  by_cases h2 : a < n32 E
  · rw [if_neg (by rw [nle_lt]; exact h2), gd_t (inb_of ⟨h1, h2⟩ (by omega) (by decide)), decide_eq_true ⟨h1, h2⟩]
    show (if gi x 12 a.toNatClampNeg = NV then _ else _) = _
    split <;> simp_all [bi] <;> rfl
  · rw [if_pos (by rw [← nlt_le]; exact h2), decide_eq_false (fun q => h2 q.2)]; rfl
