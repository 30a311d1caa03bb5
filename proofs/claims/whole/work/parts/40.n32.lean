/-! THE PURE PART: no word of the machine from here on -/
def n32 (k : Nat) : Int32 := Int32.ofNat k
theorem n_toInt {n : Nat} (h : n < 2 ^ 31) : (n32 n).toInt = n := nc_of h
theorem n_nat {n : Nat} (h : n < 2 ^ 31) : (n32 n).toNatClampNeg = n := cl_of h
theorem n_lt {a b : Nat} (ha : a < 2 ^ 31) (hb : b < 2 ^ 31) : (n32 a < n32 b) = (a < b) := by
  rw [eq_iff_iff, Int32.lt_iff_toInt_lt, n_toInt ha, n_toInt hb]; omega
theorem n_le {a b : Nat} (ha : a < 2 ^ 31) (hb : b < 2 ^ 31) : (n32 a ≤ n32 b) = (a ≤ b) := by
  rw [eq_iff_iff, Int32.le_iff_toInt_le, n_toInt ha, n_toInt hb]; omega
theorem n_inj {a b : Nat} (ha : a < 2 ^ 31) (hb : b < 2 ^ 31) : (n32 a = n32 b) = (a = b) := by
  rw [eq_iff_iff, ← Int32.toInt_inj, n_toInt ha, n_toInt hb]; omega
theorem n_add (a b : Nat) : n32 a + n32 b = n32 (a + b) := add_of
theorem n_nonneg {a : Nat} (ha : a < 2 ^ 31) : ¬ n32 a < 0 := by
  show ¬ n32 a < n32 0
  rw [n_lt ha (by decide)]; omega
theorem n_inb {a n : Nat} (h : a < n) (hn : n < 2 ^ 31) : inb (n32 a) n := fun q => by
  rcases q with q | q
  · exact n_nonneg (by omega) q
  · rw [n_nat (by omega)] at q; omega
theorem n_of {x : Int32} (h : ¬ x < 0) : x = n32 x.toNatClampNeg ∧ x.toNatClampNeg < 2 ^ 31 := by
  have h0 : 0 ≤ x.toInt := by
    rw [Int32.lt_iff_toInt_lt] at h
    have : (0 : Int32).toInt = 0 := rfl
    omega
  have h1 : x.toNatClampNeg < 2 ^ 31 := by
    show x.toInt.toNat < 2 ^ 31
    have := Int32.toInt_lt x
    omega
  refine ⟨?_, h1⟩
  rw [← Int32.toInt_inj, n_toInt h1]
  show x.toInt = (x.toInt.toNat : Int)
  omega
theorem gd_t {α : Type} {c : Prop} [Decidable c] {x : Option α} (h : c) : gd c x = x := if_pos h
theorem gd_in {α : Type} {a n : Nat} {d : Decidable (inb (n32 a) n)} {x : Option α} (h : a < n) (hn : n < 2 ^ 31) : @gd α (inb (n32 a) n) d x = x := if_pos (n_inb h hn)
theorem lt_e {α β : Type} (x : α) (f : α → Option β) : lt x f = f x := rfl
theorem some_bind {α β : Type} (a : α) (f : α → Option β) : (some a).bind f = f a := rfl
def fold {α : Type} (body : Nat → α → α) (a : α) : Nat → α
  | 0 => a
  | k + 1 => body k (fold body a k)
theorem loop_fold {X E α : Type} {step : X → Option (X ⊕ E)} (N : Nat) (mk : α → Nat → X) (body : Nat → α → α) (P : Nat → α → Prop) {a0 : α} {out : α → E} (h0 : P 0 a0) (hb : ∀ k a, k < N → P k a → step (mk a k) = some (.inl (mk (body k a) (k + 1))) ∧ P (k + 1) (body k a)) (he : ∀ a, P N a → step (mk a N) = some (.inr (out a))) :
    loopF step (mk a0 0) = some (out (fold body a0 N)) ∧ P N (fold body a0 N) := by
  have hP : ∀ k, k ≤ N → P k (fold body a0 k) := by
    intro k
    induction k with
    | zero => intro _; exact h0
    | succ k ih => intro hk; exact (hb k _ hk (ih (by omega))).2
  exact ⟨loopF_seq (fun k => mk (fold body a0 k) k) N (fun k hk => (hb k _ hk (hP k (by omega))).1) (he _ (hP N (Nat.le_refl _))), hP N (Nat.le_refl _)⟩
/-- a loop that returns at the first place that passes the test -/
theorem loop_any {X E : Type} {step : X → Option (X ⊕ E)} (N : Nat) (mk : Nat → X) (test : Nat → Bool) {r e : E} (hb : ∀ k, k < N → step (mk k) = if test k then some (.inr r) else some (.inl (mk (k + 1)))) (he : step (mk N) = some (.inr e)) :
    loopF step (mk 0) = some (if (List.range N).any test then r else e) := by
  have key : ∀ m, m ≤ N → (∀ j, j < N - m → test j = false) → loopF step (mk (N - m)) = some (if (List.range N).any test then r else e) := by
    intro m
    induction m with
    | zero =>
      intro _ h
      have h9 : (List.range N).any test = false := by
        rw [List.any_eq_false]
        intro x hx
        rw [h x (List.mem_range.mp hx)]; decide
      rw [h9]
      exact loopF_end he
    | succ m ih =>
      intro hm h
      have h1 := hb (N - (m + 1)) (by omega)
      by_cases ht : test (N - (m + 1)) = true
      · have h9 : (List.range N).any test = true := List.any_eq_true.mpr ⟨_, List.mem_range.mpr (by omega), ht⟩
        rw [h9]
        rw [if_pos ht] at h1
        exact loopF_end h1
      · rw [if_neg ht] at h1
        rw [show N - (m + 1) + 1 = N - m by omega] at h1
        refine loopF_go h1 (ih (by omega) (fun j hj => ?_))
        by_cases e9 : j = N - (m + 1)
        · subst e9; simpa using ht
        · exact h j (by omega)
  have := key N (Nat.le_refl _) (fun j hj => by omega)
  rwa [Nat.sub_self] at this
/-- how many places below n pass -/
def cnt (p : Nat → Bool) (n : Nat) : Nat := fold (fun k a => if p k then a + 1 else a) 0 n
theorem cnt_le (p : Nat → Bool) : ∀ n, cnt p n ≤ n
  | 0 => Nat.le_refl _
  | n + 1 => by
    show (if p n then cnt p n + 1 else cnt p n) ≤ n + 1
    have := cnt_le p n
    split <;> omega
theorem cnt_cg {p q : Nat → Bool} : ∀ {n : Nat}, (∀ k, k < n → p k = q k) → cnt p n = cnt q n
  | 0, _ => rfl
  | n + 1, h => by
    show (if p n then cnt p n + 1 else cnt p n) = (if q n then cnt q n + 1 else cnt q n)
    rw [h n (Nat.lt_succ_self n), cnt_cg fun k hk => h k (by omega)]
def NV : Int32 := 2147483647
theorem lit_NV : (2147483647 : Int32) = NV := rfl
theorem lit_0 : (0 : Int32) = n32 0 := rfl
theorem lit_1 : (1 : Int32) = n32 1 := rfl
theorem lit_2 : (2 : Int32) = n32 2 := rfl
theorem lit_3 : (3 : Int32) = n32 3 := rfl
theorem lit_4 : (4 : Int32) = n32 4 := rfl
theorem lit_5 : (5 : Int32) = n32 5 := rfl
theorem lit_6 : (6 : Int32) = n32 6 := rfl
theorem lit_7 : (7 : Int32) = n32 7 := rfl
theorem lit_8 : (8 : Int32) = n32 8 := rfl
theorem lit_12 : (12 : Int32) = n32 12 := rfl
theorem lit_24 : (24 : Int32) = n32 24 := rfl
theorem lit_25 : (25 : Int32) = n32 25 := rfl
theorem lit_30 : (30 : Int32) = n32 30 := rfl
theorem lit_60 : (60 : Int32) = n32 60 := rfl
theorem lit_63 : (63 : Int32) = n32 63 := rfl
theorem lit_96 : (96 : Int32) = n32 96 := rfl
theorem lit_100 : (100 : Int32) = n32 100 := rfl
theorem lit_512 : (512 : Int32) = n32 512 := rfl
theorem lit_240 : (240 : Int32) = n32 240 := rfl

/-- a yes or no, as an int -/
def bi (b : Bool) : Int32 := if b then n32 1 else n32 0
theorem bi_z (b : Bool) : (bi b = n32 0) = (b = false) := by cases b <;> simp [bi, n_inj]
theorem bi_1 (b : Bool) : (bi b = n32 1) = (b = true) := by cases b <;> simp [bi, n_inj]
theorem bi_t : bi true = n32 1 := rfl
theorem bi_f : bi false = n32 0 := rfl
theorem bi_and (b : Bool) : (bi b &&& n32 1) = bi b := by cases b <;> rfl
theorem ite_bi {c : Prop} {d : Decidable c} : (@ite (Option Int32) c d (some (n32 1)) (some (n32 0))) = some (bi (decide c)) := by
  by_cases h : c
  · rw [if_pos h, decide_eq_true h]; rfl
  · rw [if_neg h, decide_eq_false h]; rfl
theorem gd_bi {α : Type} {b : Bool} {d : Decidable (bi b &&& n32 1 = bi b)} {x : Option α} : @gd α (bi b &&& n32 1 = bi b) d x = x := if_pos (bi_and b)
