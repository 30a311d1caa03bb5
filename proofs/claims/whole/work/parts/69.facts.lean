/-! ### what is told and known: the class's side -/
theorem lit_2304 : (2304 : Int32) = n32 2304 := rfl
/-- nothing but the rows of told and known edges is changed -/
def FXx (x x' : St) : Prop := (∀ a j, gl x' a j = gl x a j) ∧ ∀ a j, a < 29 ∨ a = 33 ∨ 37 < a → gi x' a j = gi x a j
theorem FXx.rf (x : St) : FXx x x := ⟨fun _ _ => rfl, fun _ _ _ => rfl⟩
theorem FXx.tr {x y z : St} (h1 : FXx x y) (h2 : FXx y z) : FXx x z := ⟨fun a j => (h2.1 a j).trans (h1.1 a j), fun a j h => (h2.2 a j h).trans (h1.2 a j h)⟩
theorem FXx.up {x z : St} {a k : Nat} {v : Int32} (h : FXx x z) (ha : (29 ≤ a ∧ a ≤ 32) ∨ (34 ≤ a ∧ a ≤ 37)) : FXx x (ui z a k v) :=
  ⟨h.1, fun b j hb => by rw [gi_no (by omega)]; exact h.2 b j hb⟩
/-- the class's known edges are K, its told ones T -/
def KnC (z : St) (K : Nat → Nat → Int32) : Prop := ∀ l n, l < 4 → n < 24 → gi z (34 + l) n = K l n
def TnC (z : St) (K : Nat → Nat → Int32) : Prop := ∀ l n, l < 4 → n < 24 → gi z (29 + l) n = K l n
theorem tol_succ (k : Nat) (x : St) (l n : Nat) : tol (k + 1) x l n = if le x k && (decide (kl x k = l) && decide (fr x k = n)) then tol k x l n ||| bit1 (tt x k) else tol k x l n := rfl
theorem tol_0 (x : St) (l n : Nat) : tol 0 x l n = n32 0 := rfl
theorem c_takeTold {N E : Nat} {x y : St} (hN : N ≤ 24) (h : RE N E x y) : ∃ x', fX1_takeTold x = some x' ∧ FXx x x' ∧ TnC x' (tol E x) ∧ KnC x' (tol E x) := by
  have hE := h.1
  obtain ⟨x1, e1, f1, t1⟩ := loop_st (step := fX1_takeTold_l2 x) 4 (fun l z => FXx x z ∧ ∀ l' n, l' < l → n < 24 → gi z (29 + l') n = n32 0) (x0 := x) ⟨FXx.rf x, fun l' n h => absurd h (Nat.not_lt_zero l')⟩ (fun l z hl hz => by
      obtain ⟨z', e, f, t, t'⟩ := loop_st (step := fX1_takeTold_l9 z (n32 l)) 24 (fun k z => FXx x z ∧ (∀ l' n, l' < l → n < 24 → gi z (29 + l') n = n32 0) ∧ ∀ n, n < k → gi z (29 + l) n = n32 0) (x0 := z) ⟨hz.1, hz.2, fun n h => absurd h (Nat.not_lt_zero n)⟩ (fun k w hk hw => by
          refine ⟨ui w (29 + l) k (n32 0), ?_, hw.1.up (by omega), fun l' n h1 h2 => ?_, fun n hn => ?_⟩
          · unfold fX1_takeTold_l9
            simp (disch := omega) only [eq_self, n_le, n_lt, n_inj, n_nat, gd_in, n_add, bi_z, bi_1, gd_bi, n_nonneg,  some_bind, lt_e, lit_NV, if_true, if_false, ite_true, ite_false, Option.bind_some, not_true, not_false_iff, lit_0, lit_1, lit_2, lit_3, lit_4, lit_5, lit_6, lit_7, lit_8, lit_12, lit_24, lit_25, lit_30, lit_60, lit_63, lit_96, lit_100, lit_512, lit_240, Nat.not_le.mpr hk]
          · rw [gi_no (by omega)]
            exact hw.2.1 l' n h1 h2
          · by_cases e : n = k
            · rw [gi_yes ⟨rfl, e⟩]
            · rw [gi_no (by omega)]
              exact hw.2.2 n (by omega))
        (fun w hw => by
          unfold fX1_takeTold_l9
          simp (disch := omega) only [eq_self, n_le, n_lt, n_inj, n_nat, gd_in, n_add, bi_z, bi_1, gd_bi, n_nonneg,  some_bind, lt_e, lit_NV, if_true, if_false, ite_true, ite_false, Option.bind_some, not_true, not_false_iff, lit_0, lit_1, lit_2, lit_3, lit_4, lit_5, lit_6, lit_7, lit_8, lit_12, lit_24, lit_25, lit_30, lit_60, lit_63, lit_96, lit_100, lit_512, lit_240, Nat.le_refl])
      refine ⟨z', ?_, f, fun l' n h1 h2 => ?_⟩
      · unfold fX1_takeTold_l2
        simp (disch := omega) only [eq_self, n_le, n_lt, n_inj, n_nat, gd_in, n_add, bi_z, bi_1, gd_bi, n_nonneg,  some_bind, lt_e, lit_NV, if_true, if_false, ite_true, ite_false, Option.bind_some, not_true, not_false_iff, lit_0, lit_1, lit_2, lit_3, lit_4, lit_5, lit_6, lit_7, lit_8, lit_12, lit_24, lit_25, lit_30, lit_60, lit_63, lit_96, lit_100, lit_512, lit_240, Nat.not_le.mpr hl, e]
      · by_cases q : l' = l
        · subst q
          exact t' n h2
        · exact t l' n (by omega) h2)
    (fun z hz => by
      unfold fX1_takeTold_l2
      simp (disch := omega) only [eq_self, n_le, n_lt, n_inj, n_nat, gd_in, n_add, bi_z, bi_1, gd_bi, n_nonneg,  some_bind, lt_e, lit_NV, if_true, if_false, ite_true, ite_false, Option.bind_some, not_true, not_false_iff, lit_0, lit_1, lit_2, lit_3, lit_4, lit_5, lit_6, lit_7, lit_8, lit_12, lit_24, lit_25, lit_30, lit_60, lit_63, lit_96, lit_100, lit_512, lit_240, Nat.le_refl])
  obtain ⟨x2, e2, f2, t2⟩ := loop_st (step := fX1_takeTold_l38 x1) E (fun k z => FXx x z ∧ TnC z (tol k x)) (x0 := x1) ⟨f1, fun l n hl hn => t1 l n hl hn⟩ (fun k z hk hz => by
      obtain ⟨hf, ht⟩ := hz
      obtain ⟨h1, h2, h3, h4, h5, h6⟩ := RE_at h hN hk
      have hc : gi z 10 2 = n32 E := (hf.2 _ _ (by omega)).trans h.2.1
      have g1 : gi z 13 k = n32 (fr x k) := (hf.2 _ _ (by omega)).trans h1
      have g2 : gi z 15 k = n32 (tt x k) := (hf.2 _ _ (by omega)).trans h2
      have g3 : gi z 14 k = n32 (kl x k) := (hf.2 _ _ (by omega)).trans h3
      have hle : le z = le x := le_cg fun k => hf.2 _ _ (by omega)
      have hth : fX7_isThereE z (n32 k) = some (bi (le x k)) := by rw [c_isThereE hc hE, ed_n hE hk, hle]
      cases hl : le x k
      · refine ⟨z, ?_, hf, fun l n q1 q2 => ?_⟩
        · unfold fX1_takeTold_l38 fX1_takeTold_j99
          simp (disch := omega) only [eq_self, n_le, n_lt, n_inj, n_nat, gd_in, n_add, bi_z, bi_1, gd_bi, n_nonneg,  some_bind, lt_e, lit_NV, if_true, if_false, ite_true, ite_false, Option.bind_some, not_true, not_false_iff, lit_0, lit_1, lit_2, lit_3, lit_4, lit_5, lit_6, lit_7, lit_8, lit_12, lit_24, lit_25, lit_30, lit_60, lit_63, lit_96, lit_100, lit_512, lit_240, hc, Nat.not_le.mpr hk, hth, hl]
        · rw [tol_succ, hl]
          exact ht l n q1 q2
      · refine ⟨ui z (29 + kl x k) (fr x k) (gi z (29 + kl x k) (fr x k) ||| bit1 (tt x k)), ?_, hf.up (by omega), fun l n q1 q2 => ?_⟩
        · unfold fX1_takeTold_l38 fX1_takeTold_j99
          simp (disch := omega) only [eq_self, n_le, n_lt, n_inj, n_nat, gd_in, n_add, bi_z, bi_1, gd_bi, n_nonneg,  some_bind, lt_e, lit_NV, if_true, if_false, ite_true, ite_false, Option.bind_some, not_true, not_false_iff, lit_0, lit_1, lit_2, lit_3, lit_4, lit_5, lit_6, lit_7, lit_8, lit_12, lit_24, lit_25, lit_30, lit_60, lit_63, lit_96, lit_100, lit_512, lit_240, hc, Nat.not_le.mpr hk, hth, hl, g1, g2, g3, c_bit, Bool.true_eq_false]
        · rw [tol_succ, hl]
          by_cases q : kl x k = l ∧ fr x k = n
          · obtain ⟨rfl, rfl⟩ := q
            rw [gi_yes ⟨rfl, rfl⟩, ht _ _ q1 q2]
            simp
          · rw [gi_no (by omega), ht _ _ q1 q2, if_neg]
            simp only [Bool.true_and, Bool.and_eq_true, decide_eq_true_eq]
            exact q)
    (fun z hz => by
      have hc : gi z 10 2 = n32 E := (hz.1.2 _ _ (by omega)).trans h.2.1
      unfold fX1_takeTold_l38
      simp (disch := omega) only [eq_self, n_le, n_lt, n_inj, n_nat, gd_in, n_add, bi_z, bi_1, gd_bi, n_nonneg,  some_bind, lt_e, lit_NV, if_true, if_false, ite_true, ite_false, Option.bind_some, not_true, not_false_iff, lit_0, lit_1, lit_2, lit_3, lit_4, lit_5, lit_6, lit_7, lit_8, lit_12, lit_24, lit_25, lit_30, lit_60, lit_63, lit_96, lit_100, lit_512, lit_240, hc, Nat.le_refl])
  obtain ⟨x3, e3, f3, t3, k3⟩ := loop_st (step := fX1_takeTold_l107 x2) 4 (fun l z => FXx x z ∧ TnC z (tol E x) ∧ ∀ l' n, l' < l → n < 24 → gi z (34 + l') n = tol E x l' n) (x0 := x2) ⟨f2, t2, fun l' n h => absurd h (Nat.not_lt_zero l')⟩ (fun l z hl hz => by
      obtain ⟨z', e, f, t, t'⟩ := loop_st (step := fX1_takeTold_l114 z (n32 l)) 24 (fun k z => FXx x z ∧ TnC z (tol E x) ∧ (∀ l' n, l' < l → n < 24 → gi z (34 + l') n = tol E x l' n) ∧ ∀ n, n < k → gi z (34 + l) n = tol E x l n) (x0 := z) ⟨hz.1, hz.2.1, hz.2.2, fun n h => absurd h (Nat.not_lt_zero n)⟩ (fun k w hk hw => by
          refine ⟨ui w (34 + l) k (gi w (29 + l) k), ?_, hw.1.up (by omega), fun l' n h1 h2 => ?_, fun l' n h1 h2 => ?_, fun n hn => ?_⟩
          · unfold fX1_takeTold_l114
            simp (disch := omega) only [eq_self, n_le, n_lt, n_inj, n_nat, gd_in, n_add, bi_z, bi_1, gd_bi, n_nonneg,  some_bind, lt_e, lit_NV, if_true, if_false, ite_true, ite_false, Option.bind_some, not_true, not_false_iff, lit_0, lit_1, lit_2, lit_3, lit_4, lit_5, lit_6, lit_7, lit_8, lit_12, lit_24, lit_25, lit_30, lit_60, lit_63, lit_96, lit_100, lit_512, lit_240, Nat.not_le.mpr hk]
          · rw [gi_no (by omega)]
            exact hw.2.1 l' n h1 h2
          · rw [gi_no (by omega)]
            exact hw.2.2.1 l' n h1 h2
          · by_cases e : n = k
            · subst e
              rw [gi_yes ⟨rfl, rfl⟩]
              exact hw.2.1 l n hl (by omega)
            · rw [gi_no (by omega)]
              exact hw.2.2.2 n (by omega))
        (fun w hw => by
          unfold fX1_takeTold_l114
          simp (disch := omega) only [eq_self, n_le, n_lt, n_inj, n_nat, gd_in, n_add, bi_z, bi_1, gd_bi, n_nonneg,  some_bind, lt_e, lit_NV, if_true, if_false, ite_true, ite_false, Option.bind_some, not_true, not_false_iff, lit_0, lit_1, lit_2, lit_3, lit_4, lit_5, lit_6, lit_7, lit_8, lit_12, lit_24, lit_25, lit_30, lit_60, lit_63, lit_96, lit_100, lit_512, lit_240, Nat.le_refl])
      refine ⟨z', ?_, f, t, fun l' n h1 h2 => ?_⟩
      · unfold fX1_takeTold_l107
        simp (disch := omega) only [eq_self, n_le, n_lt, n_inj, n_nat, gd_in, n_add, bi_z, bi_1, gd_bi, n_nonneg,  some_bind, lt_e, lit_NV, if_true, if_false, ite_true, ite_false, Option.bind_some, not_true, not_false_iff, lit_0, lit_1, lit_2, lit_3, lit_4, lit_5, lit_6, lit_7, lit_8, lit_12, lit_24, lit_25, lit_30, lit_60, lit_63, lit_96, lit_100, lit_512, lit_240, Nat.not_le.mpr hl, e]
      · by_cases q : l' = l
        · subst q
          exact t'.2 n h2
        · exact t'.1 l' n (by omega) h2)
    (fun z hz => by
      unfold fX1_takeTold_l107
      simp (disch := omega) only [eq_self, n_le, n_lt, n_inj, n_nat, gd_in, n_add, bi_z, bi_1, gd_bi, n_nonneg,  some_bind, lt_e, lit_NV, if_true, if_false, ite_true, ite_false, Option.bind_some, not_true, not_false_iff, lit_0, lit_1, lit_2, lit_3, lit_4, lit_5, lit_6, lit_7, lit_8, lit_12, lit_24, lit_25, lit_30, lit_60, lit_63, lit_96, lit_100, lit_512, lit_240, Nat.le_refl])
  refine ⟨x3, ?_, f3, t3, k3⟩
  unfold fX1_takeTold
  simp (disch := omega) only [eq_self, n_le, n_lt, n_inj, n_nat, gd_in, n_add, bi_z, bi_1, gd_bi, n_nonneg,  some_bind, lt_e, lit_NV, if_true, if_false, ite_true, ite_false, Option.bind_some, not_true, not_false_iff, lit_0, lit_1, lit_2, lit_3, lit_4, lit_5, lit_6, lit_7, lit_8, lit_12, lit_24, lit_25, lit_30, lit_60, lit_63, lit_96, lit_100, lit_512, lit_240, e1, e2, e3]
theorem c_forth {z : St} {K : Nat → Nat → Int32} (hK : KnC z K) {l : Nat} (hl : l < 4) (s : Int32) : fX1_forth z (n32 l) s = some (jn K l s) := by
  obtain ⟨e, h1, h2⟩ := loop_gen (step := fX1_forth_l5 z (n32 l) s) 24 (fun k e => e.2 = n32 k ∧ e.1 = gat (hs s) (K l) k) (Q := fun e => e.1 = jn K l s) (x0 := (n32 0, n32 0)) ⟨rfl, rfl⟩ (fun k e hk he => by
    obtain ⟨a, j⟩ := e
    obtain ⟨hj, ha⟩ := he
    have hj : j = n32 k := hj
    have ha : a = gat (hs s) (K l) k := ha
    subst hj
    subst ha
    by_cases e24 : k = 24
    · subst e24
      refine Or.inl ⟨(gat (hs s) (K l) 24, n32 24), ?_, rfl⟩
      unfold fX1_forth_l5
      simp (disch := omega) only [eq_self, n_le, n_lt, n_inj, n_nat, gd_in, n_add, bi_z, bi_1, gd_bi, n_nonneg,  some_bind, lt_e, lit_NV, if_true, if_false, ite_true, ite_false, Option.bind_some, not_true, not_false_iff, lit_0, lit_1, lit_2, lit_3, lit_4, lit_5, lit_6, lit_7, lit_8, lit_12, lit_24, lit_25, lit_30, lit_60, lit_63, lit_96, lit_100, lit_512, lit_240, Nat.le_refl]
    · have hk24 : k < 24 := by omega
      by_cases hz : ush s (n32 k) = n32 0
      · refine Or.inl ⟨(gat (hs s) (K l) k, n32 k), ?_, ?_⟩
        · unfold fX1_forth_l5
          simp (disch := omega) only [eq_self, n_le, n_lt, n_inj, n_nat, gd_in, n_add, bi_z, bi_1, gd_bi, n_nonneg,  some_bind, lt_e, lit_NV, if_true, if_false, ite_true, ite_false, Option.bind_some, not_true, not_false_iff, lit_0, lit_1, lit_2, lit_3, lit_4, lit_5, lit_6, lit_7, lit_8, lit_12, lit_24, lit_25, lit_30, lit_60, lit_63, lit_96, lit_100, lit_512, lit_240, Nat.not_le.mpr hk24, hz]
        · show gat (hs s) (K l) k = gat (hs s) (K l) 24
          refine (gat_stop hk fun i q1 q2 => ?_).symm
          have q := hs_ush k (by omega) s (i - k)
          rw [hz, hs_0, show k + (i - k) = i by omega] at q
          exact q.symm
      · refine Or.inr ⟨hk24, (gat (hs s) (K l) (k + 1), n32 (k + 1)), ?_, rfl, rfl⟩
        unfold fX1_forth_l5 fX1_forth_j40
        rw [gat_succ]
        have hz0 : ¬ ush s (n32 k) = 0 := hz
        simp (disch := omega) only [eq_self, n_le, n_lt, n_inj, n_nat, gd_in, n_add, bi_z, bi_1, gd_bi, n_nonneg,  some_bind, lt_e, lit_NV, if_true, if_false, ite_true, ite_false, Option.bind_some, not_true, not_false_iff, lit_0, lit_1, lit_2, lit_3, lit_4, lit_5, lit_6, lit_7, lit_8, lit_12, lit_24, lit_25, lit_30, lit_60, lit_63, lit_96, lit_100, lit_512, lit_240, Nat.not_le.mpr hk24, hz, c_has s (show k < 32 by omega), hK l k hl hk24]
        cases hs s k <;> simp)
  unfold fX1_forth
  have h1 : loopF (fX1_forth_l5 z (n32 l) s) (0, 0) = some e := h1
  rw [h1, some_bind, h2]
/-! a pass through the rules, with the word whether anything was new -/
abbrev KG : Type := (Nat → Nat → Int32) × Bool
def psg (x : St) (r n : Nat) (p : KG) : KG := (psx x r n p.1, p.2 || !decide (psx x r n p.1 (rC x r) n = p.1 (rC x r) n))
def pgs (R : Nat) (x : St) (p : KG) : KG := fold (fun r p => fold (fun n p => psg x r n p) p 24) p R
theorem fold_fst {α β : Type} {f : Nat → α × β → α × β} {g : Nat → α → α} (h : ∀ k p, (f k p).1 = g k p.1) (p : α × β) : ∀ n, (fold f p n).1 = fold g p.1 n
  | 0 => rfl
  | n + 1 => by
    show (f n (fold f p n)).1 = g n (fold g p.1 n)
    rw [h, fold_fst h p n]
theorem pgs_1 (R : Nat) (x : St) (p : KG) : (pgs R x p).1 = pss R x p.1 :=
  fold_fst (f := fun r p => fold (fun n p => psg x r n p) p 24) (g := fun r K => fold (fun n K => psx x r n K) K 24) (fun r p => fold_fst (f := fun n p => psg x r n p) (g := fun n K => psx x r n K) (fun n p => rfl) p 24) p R
def SM (K : Nat → Nat → Int32) : Prop := ∀ l n, sml (K l n)
def csum (K : Nat → Nat → Int32) : Nat := cnt (fun i => hs (K (i / 576) (i / 24 % 24)) (i % 24)) 2304
theorem csum_le (K : Nat → Nat → Int32) : csum K ≤ 2304 := cnt_le _ _
def stp (p q : KG) : Prop := SM p.1 → SM q.1 ∧ csum p.1 ≤ csum q.1 ∧ (q.2 = true → p.2 = true ∨ csum p.1 < csum q.1) ∧ (q.2 = false → p.2 = false ∧ q.1 = p.1)
theorem stp.rf (p : KG) : stp p p := fun h => ⟨h, Nat.le_refl _, Or.inl, fun q => ⟨q, rfl⟩⟩
theorem stp.tr (p q r : KG) (h1 : stp p q) (h2 : stp q r) : stp p r := fun h => by
  obtain ⟨a1, a2, a3, a4⟩ := h1 h
  obtain ⟨b1, b2, b3, b4⟩ := h2 a1
  refine ⟨b1, by omega, fun e => ?_, fun e => ?_⟩
  · rcases b3 e with q | q
    · rcases a3 q with w | w
      · exact Or.inl w
      · exact Or.inr (by omega)
    · exact Or.inr (by omega)
  · obtain ⟨q1, q2⟩ := b4 e
    obtain ⟨w1, w2⟩ := a4 q1
    exact ⟨w1, q2.trans w2⟩
theorem updK_same (K : Nat → Nat → Int32) (l n : Nat) : updK K l n (K l n) = K := by
  funext a b
  unfold updK
  split
  · rename_i h
    rw [h.1, h.2]
  · rfl
theorem sml_jn {K : Nat → Nat → Int32} (h : SM K) (l : Nat) (s : Int32) : sml (jn K l s) := sml_gat fun k _ => h l k
theorem psg_stp {x : St} {r n : Nat} (hC : rC x r < 4) (hn : n < 24) (p : KG) : stp p (psg x r n p) := fun hS => by
  obtain ⟨K, g⟩ := p
  unfold psg psx
  by_cases hd : gi x 27 r = n32 0
  · simp only [hd, if_true]
    have hv : updK K (rC x r) n (K (rC x r) n ||| jn K (rB x r) (K (rA x r) n)) (rC x r) n = K (rC x r) n ||| jn K (rB x r) (K (rA x r) n) := by
      unfold updK
      rw [if_pos ⟨rfl, rfl⟩]
    rw [hv]
    have hS : SM K := hS
    generalize hw : K (rC x r) n ||| jn K (rB x r) (K (rA x r) n) = w
    have hsb : sbs (K (rC x r) n) w := hw ▸ sbs_or _ _
    have hsm : sml w := hw ▸ sml_or (hS _ _) (sml_jn hS _ _)
    refine ⟨fun l m => ?_, ?_, fun e => ?_, fun e => ?_⟩
    · show sml (updK K (rC x r) n w l m)
      unfold updK
      split
      · exact hsm
      · exact hS l m
    · refine cnt_mono fun i hi h => ?_
      show hs (updK K (rC x r) n w (i / 576) (i / 24 % 24)) (i % 24) = true
      unfold updK
      split
      · rename_i q
        refine hsb _ (by omega) ?_
        rw [← q.1, ← q.2]
        exact h
      · exact h
    · cases hg : g
      · right
        have hne : ¬ w = K (rC x r) n := fun q => by
          simp [hg, q] at e
        have hex : ∃ b, b < 24 ∧ hs (K (rC x r) n) b = false ∧ hs w b = true := by
          apply Classical.byContradiction
          intro hno
          refine hne (sbs.an (fun i hi h => ?_) hsb)
          have hi24 : i < 24 := by
            rcases Nat.lt_or_ge i 24 with h9 | h9
            · exact h9
            · rw [hsm i h9] at h; cases h
          cases h2 : hs (K (rC x r) n) i
          · exact absurd ⟨i, hi24, h2, h⟩ hno
          · rfl
        obtain ⟨b, hb, h1, h2⟩ := hex
        refine cnt_lt (fun i hi h => ?_) ⟨576 * rC x r + 24 * n + b, by omega, ?_, ?_⟩
        · show hs (updK K (rC x r) n w (i / 576) (i / 24 % 24)) (i % 24) = true
          unfold updK
          split
          · rename_i q
            refine hsb _ (by omega) ?_
            rw [← q.1, ← q.2]
            exact h
          · exact h
        · show hs (K ((576 * rC x r + 24 * n + b) / 576) ((576 * rC x r + 24 * n + b) / 24 % 24)) ((576 * rC x r + 24 * n + b) % 24) = false
          rw [show (576 * rC x r + 24 * n + b) / 576 = rC x r by omega, show (576 * rC x r + 24 * n + b) / 24 % 24 = n by omega, show (576 * rC x r + 24 * n + b) % 24 = b by omega]
          exact h1
        · show hs (updK K (rC x r) n w ((576 * rC x r + 24 * n + b) / 576) ((576 * rC x r + 24 * n + b) / 24 % 24)) ((576 * rC x r + 24 * n + b) % 24) = true
          rw [show (576 * rC x r + 24 * n + b) / 576 = rC x r by omega, show (576 * rC x r + 24 * n + b) / 24 % 24 = n by omega, show (576 * rC x r + 24 * n + b) % 24 = b by omega]
          unfold updK
          rw [if_pos ⟨rfl, rfl⟩]
          exact h2
      · exact Or.inl rfl
    · have e : (g || !decide (w = K (rC x r) n)) = false := e
      simp only [Bool.or_eq_false_iff, Bool.not_eq_false', decide_eq_true_eq] at e
      refine ⟨e.1, ?_⟩
      show updK K (rC x r) n w = K
      rw [e.2]
      exact updK_same _ _ _
  · simp only [hd, if_false, decide_true, Bool.not_true, Bool.or_false]
    exact ⟨hS, Nat.le_refl _, Or.inl, fun q => ⟨q, trivial⟩⟩
theorem pgs_stp {R : Nat} {x : St} (hC : ∀ r, r < R → rC x r < 4) (p : KG) : stp p (pgs R x p) :=
  fold_rel stp.rf stp.tr fun r b hr => fold_rel stp.rf stp.tr fun n c hn => psg_stp (hC r hr) hn c
theorem SM_tol {N E : Nat} {x y : St} (hN : N ≤ 24) (h : RE N E x y) : SM (tol E x) := fun l n => sml_gat fun k hk => sml_bit (by
  obtain ⟨-, -, -, -, h5, -⟩ := RE_at h hN hk
  omega)
/-- the known edges behind i ways -/
def wys (R E : Nat) (x : St) (i : Nat) : Nat → Nat → Int32 := fold (fun _ K => pss R x K) (tol E x) i
theorem wys_stay {R E : Nat} {x : St} {i : Nat} (h : pss R x (wys R E x i) = wys R E x i) : ∀ m, wys R E x (i + m) = wys R E x i
  | 0 => rfl
  | m + 1 => by
    show pss R x (wys R E x (i + m)) = _
    rw [wys_stay h m, h]
theorem wys_kno {R E : Nat} {x : St} {i : Nat} (hi : i ≤ 2305) (h : pss R x (wys R E x i) = wys R E x i) : wys R E x i = kno R E x := by
  have := wys_stay h (2305 - i)
  rw [show i + (2305 - i) = 2305 by omega] at this
  exact this.symm
theorem RR_at {R : Nat} {x y : St} (h : RR R x y) {r : Nat} (hr : r < R) : gi x 24 r = n32 (rA x r) ∧ gi x 25 r = n32 (rB x r) ∧ gi x 26 r = n32 (rC x r) ∧ rA x r < 4 ∧ rB x r < 4 ∧ rC x r < 4 := by
  obtain ⟨-, -, -, -, -, -, hh, -⟩ := h
  obtain ⟨a, b, c, h1, h2, h3, h4, h5, h6⟩ := hh r hr
  unfold rA rB rC
  rw [h4, h5, h6, n_nat (by omega), n_nat (by omega), n_nat (by omega)]
  exact ⟨rfl, rfl, rfl, h1, h2, h3⟩
theorem SM_wys {N R E : Nat} {x y : St} (hN : N ≤ 24) (h : RE N E x y) (hR : RR R x y) : ∀ i, SM (wys R E x i)
  | 0 => SM_tol hN h
  | i + 1 => by
    have := (pgs_stp (fun r hr => (RR_at hR hr).2.2.2.2.2) (wys R E x i, false) (SM_wys hN h hR i)).1
    rw [pgs_1] at this
    exact this
theorem c_inferOnce {R : Nat} {x y z : St} {T K : Nat → Nat → Int32} (hR : RR R x y) (hf : FXx x z) (hT : TnC z T) (hK : KnC z K) : ∃ z', fX1_inferOnce z = some (bi (pgs R x (K, false)).2, z') ∧ FXx x z' ∧ TnC z' T ∧ KnC z' (pss R x K) := by
  have hR6 := hR.1
  obtain ⟨z', v, e, f, t, hv, k⟩ := loop_sa (step := fX1_inferOnce_l4 z) R (fun r w v => FXx x w ∧ TnC w T ∧ v = bi (pgs r x (K, false)).2 ∧ KnC w (pgs r x (K, false)).1) (x0 := z) (v0 := n32 0) ⟨hf, hT, rfl, hK⟩
    (fun r w v hr hw => by
      obtain ⟨f, t, rfl, k⟩ := hw
      have hc : gi w 23 7 = n32 R := (f.2 _ _ (by omega)).trans hR.2.1
      obtain ⟨h1, h2, h3, h4, h5, h6⟩ := RR_at hR hr
      obtain ⟨b, hb, -⟩ := hR.2.2.2.2.2.2.2 r (by omega)
      have key : ∃ w' v' j, loopF (fX1_inferOnce_l14 w (n32 r)) (w, bi (pgs r x (K, false)).2, n32 0) = some (w', v', j) ∧ FXx x w' ∧ TnC w' T ∧ v' = bi (pgs (r + 1) x (K, false)).2 ∧ KnC w' (pgs (r + 1) x (K, false)).1 := by
        show ∃ w' v' j, _ = some (w', v', j) ∧ FXx x w' ∧ TnC w' T ∧ v' = bi (fold (fun n p => psg x r n p) (pgs r x (K, false)) 24).2 ∧ KnC w' (fold (fun n p => psg x r n p) (pgs r x (K, false)) 24).1
        revert k
        generalize pgs r x (K, false) = p0
        intro k
        cases b
        · have hd : gi x 27 r = n32 0 := hb
          obtain ⟨w', v', e9, q1, q2, q3, q4⟩ := loop_sa (step := fX1_inferOnce_l14 w (n32 r)) 24 (fun n w v => FXx x w ∧ TnC w T ∧ v = bi (fold (fun n p => psg x r n p) p0 n).2 ∧ KnC w (fold (fun n p => psg x r n p) p0 n).1) (x0 := w) (v0 := bi p0.2) ⟨f, t, rfl, k⟩
            (fun n u v hn hu => by
              obtain ⟨f, t, rfl, k⟩ := hu
              show ∃ x' v', _ ∧ FXx x x' ∧ TnC x' T ∧ v' = bi (psg x r n (fold (fun n p => psg x r n p) p0 n)).2 ∧ KnC x' (psg x r n (fold (fun n p => psg x r n p) p0 n)).1
              revert k
              generalize fold (fun n p => psg x r n p) p0 n = p
              obtain ⟨K', g⟩ := p
              intro k
              have k : KnC u K' := k
              have g1 : gi u 24 r = n32 (rA x r) := (f.2 _ _ (by omega)).trans h1
              have g2 : gi u 25 r = n32 (rB x r) := (f.2 _ _ (by omega)).trans h2
              have g3 : gi u 26 r = n32 (rC x r) := (f.2 _ _ (by omega)).trans h3
              have g4 : gi u 27 r = n32 0 := (f.2 _ _ (by omega)).trans hd
              have k1 : gi u (34 + rC x r) n = K' (rC x r) n := k _ _ h6 hn
              have k2 : gi u (34 + rA x r) n = K' (rA x r) n := k _ _ h4 hn
              have hpx : psx x r n K' = updK K' (rC x r) n (K' (rC x r) n ||| jn K' (rB x r) (K' (rA x r) n)) := by
                unfold psx
                rw [if_pos hd]
              have hpv : psx x r n K' (rC x r) n = K' (rC x r) n ||| jn K' (rB x r) (K' (rA x r) n) := by
                rw [hpx]
                unfold updK
                rw [if_pos ⟨rfl, rfl⟩]
              refine ⟨ui u (34 + rC x r) n (K' (rC x r) n ||| jn K' (rB x r) (K' (rA x r) n)), bi (g || !decide (psx x r n K' (rC x r) n = K' (rC x r) n)), ?_, f.up (by omega), fun l m q1 q2 => ?_, rfl, fun l m q1 q2 => ?_⟩
              · rw [hpv]
                unfold fX1_inferOnce_l14 fX1_inferOnce_j98 fX1_inferOnce_j103
                simp (disch := omega) only [eq_self, n_le, n_lt, n_inj, n_nat, gd_in, n_add, bi_z, bi_1, gd_bi, n_nonneg,  some_bind, lt_e, lit_NV, if_true, if_false, ite_true, ite_false, Option.bind_some, not_true, not_false_iff, lit_0, lit_1, lit_2, lit_3, lit_4, lit_5, lit_6, lit_7, lit_8, lit_12, lit_24, lit_25, lit_30, lit_60, lit_63, lit_96, lit_100, lit_512, lit_240, Nat.not_le.mpr hn, g1, g2, g3, g4, k1, k2, c_forth k h5]
                cases g
                · by_cases q : (K' (rC x r) n ||| jn K' (rB x r) (K' (rA x r) n)) = K' (rC x r) n
                  · simp [q, bi]
                  · simp [q, bi]
                · simp [bi]
              · rw [gi_no (by omega)]
                exact t l m q1 q2
              · show _ = psx x r n K' l m
                rw [hpx]
                unfold updK
                by_cases q : l = rC x r ∧ m = n
                · rw [if_pos q, gi_yes (by omega)]
                · rw [if_neg q, gi_no (by omega)]
                  exact k l m q1 q2)
            (fun u v hu => by
              unfold fX1_inferOnce_l14
              simp (disch := omega) only [eq_self, n_le, n_lt, n_inj, n_nat, gd_in, n_add, bi_z, bi_1, gd_bi, n_nonneg,  some_bind, lt_e, lit_NV, if_true, if_false, ite_true, ite_false, Option.bind_some, not_true, not_false_iff, lit_0, lit_1, lit_2, lit_3, lit_4, lit_5, lit_6, lit_7, lit_8, lit_12, lit_24, lit_25, lit_30, lit_60, lit_63, lit_96, lit_100, lit_512, lit_240, Nat.le_refl])
          exact ⟨w', v', n32 24, e9, q1, q2, q3, q4⟩
        · have hd : gi x 27 r = n32 1 := hb
          have hps : fold (fun n p => psg x r n p) p0 24 = p0 := fold_fix fun n hn => by
            unfold psg psx
            rw [hd, if_neg (by decide)]
            simp
          rw [hps]
          refine ⟨w, bi p0.2, n32 0, loopF_end ?_, f, t, rfl, k⟩
          have g4 : gi w 27 r = n32 1 := (f.2 _ _ (by omega)).trans hd
          unfold fX1_inferOnce_l14
          simp (disch := omega) only [eq_self, n_le, n_lt, n_inj, n_nat, gd_in, n_add, bi_z, bi_1, gd_bi, n_nonneg,  some_bind, lt_e, lit_NV, if_true, if_false, ite_true, ite_false, Option.bind_some, not_true, not_false_iff, lit_0, lit_1, lit_2, lit_3, lit_4, lit_5, lit_6, lit_7, lit_8, lit_12, lit_24, lit_25, lit_30, lit_60, lit_63, lit_96, lit_100, lit_512, lit_240, g4]
          simp
      obtain ⟨w', v', j, e9, q⟩ := key
      refine ⟨w', v', ?_, q⟩
      unfold fX1_inferOnce_l4
      simp (disch := omega) only [eq_self, n_le, n_lt, n_inj, n_nat, gd_in, n_add, bi_z, bi_1, gd_bi, n_nonneg,  some_bind, lt_e, lit_NV, if_true, if_false, ite_true, ite_false, Option.bind_some, not_true, not_false_iff, lit_0, lit_1, lit_2, lit_3, lit_4, lit_5, lit_6, lit_7, lit_8, lit_12, lit_24, lit_25, lit_30, lit_60, lit_63, lit_96, lit_100, lit_512, lit_240, hc, Nat.not_le.mpr hr, e9])
    (fun w v hw => by
      have hc : gi w 23 7 = n32 R := (hw.1.2 _ _ (by omega)).trans hR.2.1
      unfold fX1_inferOnce_l4
      simp (disch := omega) only [eq_self, n_le, n_lt, n_inj, n_nat, gd_in, n_add, bi_z, bi_1, gd_bi, n_nonneg,  some_bind, lt_e, lit_NV, if_true, if_false, ite_true, ite_false, Option.bind_some, not_true, not_false_iff, lit_0, lit_1, lit_2, lit_3, lit_4, lit_5, lit_6, lit_7, lit_8, lit_12, lit_24, lit_25, lit_30, lit_60, lit_63, lit_96, lit_100, lit_512, lit_240, hc, Nat.le_refl])
  subst hv
  refine ⟨z', ?_, f, t, by rw [pgs_1] at k; exact k⟩
  unfold fX1_inferOnce
  simp (disch := omega) only [eq_self, n_le, n_lt, n_inj, n_nat, gd_in, n_add, bi_z, bi_1, gd_bi, n_nonneg,  some_bind, lt_e, lit_NV, if_true, if_false, ite_true, ite_false, Option.bind_some, not_true, not_false_iff, lit_0, lit_1, lit_2, lit_3, lit_4, lit_5, lit_6, lit_7, lit_8, lit_12, lit_24, lit_25, lit_30, lit_60, lit_63, lit_96, lit_100, lit_512, lit_240, e]
  exact gd_bi
theorem c_inferAnew {N E R : Nat} {x y : St} (hN : N ≤ 24) (h : RE N E x y) (hR : RR R x y) : ∃ x', fX1_inferAnew x = some x' ∧ FXx x x' ∧ TnC x' (tol E x) ∧ KnC x' (kno R E x) := by
  obtain ⟨x1, e1, f1, t1, k1⟩ := c_takeTold hN h
  obtain ⟨e, e2, f2, t2, k2⟩ := loop_gen (step := fX1_inferAnew_l8 x1) 2305 (fun i e => FXx x e.1 ∧ TnC e.1 (tol E x) ∧ KnC e.1 (wys R E x i) ∧ e.2.2 = n32 i ∧ ∃ g : Bool, e.2.1 = bi g ∧ (g = false → pss R x (wys R E x i) = wys R E x i)) (Q := fun e => FXx x e.1 ∧ TnC e.1 (tol E x) ∧ KnC e.1 (kno R E x)) (x0 := (x1, n32 1, n32 0)) ⟨f1, t1, k1, rfl, true, rfl, fun q => by cases q⟩
    (fun i e hi he => by
      obtain ⟨w, v, j⟩ := e
      obtain ⟨f, t, k, hj, g, hv, hg⟩ := he
      have hj : j = n32 i := hj
      have hv : v = bi g := hv
      subst hj
      subst hv
      cases g
      · refine Or.inl ⟨(w, bi false, n32 i), ?_, f, t, ?_⟩
        · unfold fX1_inferAnew_l8
          simp (disch := omega) only [eq_self, n_le, n_lt, n_inj, n_nat, gd_in, n_add, bi_z, bi_1, gd_bi, n_nonneg,  some_bind, lt_e, lit_NV, if_true, if_false, ite_true, ite_false, Option.bind_some, not_true, not_false_iff, lit_0, lit_1, lit_2, lit_3, lit_4, lit_5, lit_6, lit_7, lit_8, lit_12, lit_24, lit_25, lit_30, lit_60, lit_63, lit_96, lit_100, lit_512, lit_240]
        · rw [← wys_kno hi (hg rfl)]
          exact k
      · by_cases e9 : i = 2305
        · subst e9
          refine Or.inl ⟨(w, bi true, n32 2305), ?_, f, t, k⟩
          unfold fX1_inferAnew_l8
          simp (disch := omega) only [eq_self, n_le, n_lt, n_inj, n_nat, gd_in, n_add, bi_z, bi_1, gd_bi, n_nonneg,  some_bind, lt_e, lit_NV, if_true, if_false, ite_true, ite_false, Option.bind_some, not_true, not_false_iff, lit_0, lit_1, lit_2, lit_3, lit_4, lit_5, lit_6, lit_7, lit_8, lit_12, lit_24, lit_25, lit_30, lit_60, lit_63, lit_96, lit_100, lit_512, lit_240, lit_2304, Bool.true_eq_false, show 2304 < 2305 by omega]
        · obtain ⟨w', q1, q2, q3, q4⟩ := c_inferOnce hR f t k
          refine Or.inr ⟨by omega, (w', bi (pgs R x (wys R E x i, false)).2, n32 (i + 1)), ?_, q2, q3, q4, rfl, _, rfl, fun hgf => ?_⟩
          · unfold fX1_inferAnew_l8
            simp (disch := omega) only [eq_self, n_le, n_lt, n_inj, n_nat, gd_in, n_add, bi_z, bi_1, gd_bi, n_nonneg,  some_bind, lt_e, lit_NV, if_true, if_false, ite_true, ite_false, Option.bind_some, not_true, not_false_iff, lit_0, lit_1, lit_2, lit_3, lit_4, lit_5, lit_6, lit_7, lit_8, lit_12, lit_24, lit_25, lit_30, lit_60, lit_63, lit_96, lit_100, lit_512, lit_240, lit_2304, Bool.true_eq_false, show ¬ 2304 < i by omega, q1]
          · have := (pgs_stp (fun r hr => (RR_at hR hr).2.2.2.2.2) (wys R E x i, false) (SM_wys hN h hR i)).2.2.2 hgf
            rw [pgs_1] at this
            have h9 : pss R x (wys R E x i) = wys R E x i := this.2
            show pss R x (pss R x (wys R E x i)) = pss R x (wys R E x i)
            rw [h9, h9])
  refine ⟨e.1, ?_, f2, t2, k2⟩
  unfold fX1_inferAnew
  have e2 : loopF (fX1_inferAnew_l8 x1) (x1, 1, 0) = some e := e2
  rw [e1, some_bind, e2]
  rfl
