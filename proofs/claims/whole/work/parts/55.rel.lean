/-! ### the other groups of the relation (see NOTES.md) -/
/-- bits of a long -/
def hl (v : Int64) (e : Nat) : Bool := v.toBitVec.getLsbD e
/-- the transaction u -/
def RX (N E : Nat) (x y : St) (u : Nat) : Prop :=
  (∃ b : Bool, gi x (57 + 5 * u) 4 = bi b ∧ gi y 22 u = bi b) ∧ gi y 23 u = gi x (57 + 5 * u) 5 ∧
  (∃ L : Nat, L ≤ 8 ∧ gi x (57 + 5 * u) 7 = n32 L ∧ gi y 26 u = n32 L ∧ ∀ i, i < L → ∃ a b l : Nat, a < N ∧ b < N ∧ l < 4 ∧ gi x (59 + 5 * u) i = n32 a ∧ gi x (60 + 5 * u) i = n32 l ∧ gi x (61 + 5 * u) i = n32 b) ∧
  (∀ i, i < 8 → gi y 27 (8 * u + i) = gi x (59 + 5 * u) i ∧ gi y 29 (8 * u + i) = gi x (60 + 5 * u) i ∧ gi y 28 (8 * u + i) = gi x (61 + 5 * u) i) ∧
  (∀ k, k < 24 → gi y 24 (24 * u + k) = bi (hs (gi x (57 + 5 * u) 6) k) ∧ gi y 25 (24 * u + k) = gi x (58 + 5 * u) k) ∧
  (∀ k, N ≤ k → hs (gi x (57 + 5 * u) 6) k = false) ∧
  (∀ e, e < 60 → gi y 30 (60 * u + e) = bi (hl (gl x (57 + 5 * u) 8) e)) ∧ ∀ e, E ≤ e → hl (gl x (57 + 5 * u) 8) e = false
/-- marks -/
def RK (N : Nat) (x y : St) : Prop := (∀ k, k < N → gi y 7 k = gi x 54 k ∧ gi y 8 k = bi (hs (gi x 53 3) k)) ∧ ∀ k, N ≤ k → hs (gi x 53 3) k = false
/-- the nodes that are there, as a set -/
def RS (N : Nat) (x : St) : Prop := gi x 1 10 = gat (lv x) bit1 N
/-- rules -/
def RR (R : Nat) (x y : St) : Prop := R ≤ 6 ∧ gi x 23 7 = n32 R ∧ gi y 0 42 = n32 R ∧ (∀ k, gi y 36 k = gi x 24 k) ∧ (∀ k, gi y 37 k = gi x 25 k) ∧ (∀ k, gi y 38 k = gi x 26 k) ∧
  (∀ r, r < R → ∃ a b c : Nat, a < 4 ∧ b < 4 ∧ c < 4 ∧ gi x 24 r = n32 a ∧ gi x 25 r = n32 b ∧ gi x 26 r = n32 c) ∧ ∀ r, r < 6 → ∃ b : Bool, gi x 27 r = bi b ∧ gi y 39 r = bi b
/-- told and known edges: told by the edges; known by 2305 ways through the rules -/
def tol (E : Nat) (x : St) (l n : Nat) : Int32 := gat (fun e => le x e && (decide (kl x e = l) && decide (fr x e = n))) (fun e => bit1 (tt x e)) E
def updK (K : Nat → Nat → Int32) (l n : Nat) (v : Int32) : Nat → Nat → Int32 := fun l' n' => if l' = l ∧ n' = n then v else K l' n'
def jn (K : Nat → Nat → Int32) (l : Nat) (s : Int32) : Int32 := gat (hs s) (K l) 24
def rA (x : St) (r : Nat) : Nat := (gi x 24 r).toNatClampNeg
def rB (x : St) (r : Nat) : Nat := (gi x 25 r).toNatClampNeg
def rC (x : St) (r : Nat) : Nat := (gi x 26 r).toNatClampNeg
def psx (x : St) (r n : Nat) (K : Nat → Nat → Int32) : Nat → Nat → Int32 := if gi x 27 r = n32 0 then updK K (rC x r) n (K (rC x r) n ||| jn K (rB x r) (K (rA x r) n)) else K
def pss (R : Nat) (x : St) (K : Nat → Nat → Int32) : Nat → Nat → Int32 := fold (fun r K => fold (fun n K => psx x r n K) K 24) K R
def kno (R E : Nat) (x : St) : Nat → Nat → Int32 := fold (fun _ K => pss R x K) (tol E x) 2305
def RF (R E : Nat) (x : St) : Prop := ∀ l n, l < 4 → n < 24 → gi x (29 + l) n = tol E x l n ∧ gi x (34 + l) n = kno R E x l n
/-- the steps whose relations lie on the stack ahead of step i of the pattern u, the newest first -/
def stk (x : St) (u : Nat) : Nat → List Nat
  | 0 => []
  | i + 1 => i :: (stk x u i).drop (if gi x (79 + 6 * u) i = n32 5 then 1 else if gi x (79 + 6 * u) i = n32 3 ∨ gi x (79 + 6 * u) i = n32 4 then 2 else 0)
/-- a pattern of c steps, its stack h high -/
def RPc (x : St) (u c h : Nat) : Prop := c ≤ 12 ∧ gi x (78 + 6 * u) 5 = n32 c ∧ gi x (78 + 6 * u) 6 = n32 h ∧ h = (stk x u c).length ∧
  (∀ j, j < h → (stk x u c)[h - 1 - j]? = some (gi x (83 + 6 * u) j).toNatClampNeg ∧ ¬ gi x (83 + 6 * u) j < 0) ∧
  (∀ i, i < c → ((∃ q l : Nat, q < 3 ∧ l < 4 ∧ gi x (79 + 6 * u) i = n32 q ∧ gi x (80 + 6 * u) i = n32 l) ∨ (gi x (79 + 6 * u) i = n32 5 ∧ ∃ a : Nat, (stk x u i)[0]? = some a ∧ gi x (81 + 6 * u) i = n32 a) ∨
    ((gi x (79 + 6 * u) i = n32 3 ∨ gi x (79 + 6 * u) i = n32 4) ∧ ∃ a b : Nat, (stk x u i)[0]? = some b ∧ (stk x u i)[1]? = some a ∧ gi x (81 + 6 * u) i = n32 a ∧ gi x (82 + 6 * u) i = n32 b))) ∧
  ∀ i, i < 12 → ∃ a b : Nat, a < 12 ∧ b < 12 ∧ gi x (81 + 6 * u) i = n32 a ∧ gi x (82 + 6 * u) i = n32 b
def RP (x y : St) : Prop := ∃ Pc : Nat, Pc ≤ 6 ∧ gi x 0 10 = n32 Pc ∧ gi y 0 38 = n32 Pc ∧
  (∀ u, u < Pc → ∃ c, RPc x u c 1 ∧ gi y 33 u = n32 c ∧ ∀ i, i < c → gi y 34 (12 * u + i) = gi x (79 + 6 * u) i ∧ gi y 35 (12 * u + i) = gi x (80 + 6 * u) i) ∧
  (∃ c h, RPc x Pc c h ∧ gi y 0 34 = n32 c ∧ gi y 0 35 = n32 h ∧ ∀ i, i < c → gi y 31 i = gi x (79 + 6 * Pc) i ∧ gi y 32 i = gi x (80 + 6 * Pc) i) ∧ ∀ u, Pc < u → u < 7 → RPc x u 0 0
/-- labels of nodes; a key that holds has no twins -/
def RQ (N : Nat) (x : St) : Prop := (∀ k, k < N → ∃ l : Nat, l < 4 ∧ gi x 4 k = n32 l) ∧ ∀ l a b : Nat, l < 4 → a < b → b < N → gi x 17 l = n32 1 → gi x 4 a = n32 l → gi x 4 b = n32 l → lv x a = true → lv x b = true → gi x 5 a ≠ gi x 5 b
/-- what open transactions hold isn't more than the calls ahead of it asked for: c calls, P values written -/
def RC9 (c P : Nat) (x : St) : Prop := ∃ w : Nat → Nat, (∀ u, u < 4 → gi x (57 + 5 * u) 4 = n32 1 → cnt (hs (gi x (57 + 5 * u) 6)) 24 ≤ w u) ∧ P + w 0 + w 1 + w 2 + w 3 ≤ c
/-- after c calls the class x and the reference y stand so -/
def Rel (c : Nat) (x y : St) : Prop := ∃ N E T P R : Nat, T ≤ c ∧ c ≤ 512 ∧ RN N x y ∧ RE N E x y ∧ RT T x y ∧ RM N x y ∧ RW x y ∧ RG N P x y ∧ (∀ u, u < 4 → RX N E x y u) ∧ RK N x y ∧ RS N x ∧ RR R x y ∧ RF R E x ∧ RP x y ∧ RQ N x ∧ RC9 c P x
