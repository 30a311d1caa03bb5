/-! ### what is told and known: the reference's side -/
/-- nothing but the rows 40 and 41 is changed -/
def FYy (y y' : St) : Prop := ∀ a j, a ≠ 40 → a ≠ 41 → gi y' a j = gi y a j
theorem FYy.rf (y : St) : FYy y y := fun _ _ _ _ => rfl
theorem FYy.tr {x y z : St} (h1 : FYy x y) (h2 : FYy y z) : FYy x z := fun a j q1 q2 => (h2 a j q1 q2).trans (h1 a j q1 q2)
theorem FYy.up {y z : St} {a k : Nat} {v : Int32} (h : FYy y z) (ha : a = 40 ∨ a = 41) : FYy y (ui z a k v) := fun b j q1 q2 => by
  rw [gi_no (by omega)]
  exact h b j q1 q2
def KnY (z : St) (K : Nat → Nat → Int32) : Prop := ∀ l n, l < 4 → n < 24 → gi z 41 (24 * l + n) = K l n
def TnY (z : St) (K : Nat → Nat → Int32) : Prop := ∀ l n, l < 4 → n < 24 → gi z 40 (24 * l + n) = K l n
theorem RE_FY {N E : Nat} {x y z : St} (h : RE N E x y) (hf : FYy y z) : RE N E x z := RE_fr (fun _ _ _ => rfl) (fun a k ha => hf a k (by omega) (by omega)) (Nat.le_refl N) h
theorem RR_FY {R : Nat} {x y z : St} (h : RR R x y) (hf : FYy y z) : RR R x z := RR_fr (fun _ _ _ => rfl) (fun a k ha => hf a k (by omega) (by omega)) h
theorem RN_FY {N : Nat} {x y z : St} (h : RN N x y) (hf : FYy y z) : RN N x z := RN_fr (fun _ _ _ => rfl) (fun a k ha => hf a k (by omega) (by omega)) h
theorem RM_FY {N : Nat} {x y z : St} (h : RM N x y) (hf : FYy y z) : RM N x z := RM_fr (fun _ _ _ => rfl) (fun a k ha => hf a k (by omega) (by omega)) h
theorem RP_FY {x y z : St} (h : RP x y) (hf : FYy y z) : RP x z := RP_fr (fun _ _ _ => rfl) (fun a k ha => hf a k (by omega) (by omega)) h
theorem r_told {N E : Nat} {x y : St} (hN : N ≤ 24) (h : RE N E x y) : ∃ y1 y2 y3, loopF (fX11_infers_l2 y) (y, n32 0) = some (y1, n32 96) ∧ loopF (fX11_infers_l23 y1) (y1, n32 0) = some (y2, n32 E) ∧ loopF (fX11_infers_l83 y2) (y2, n32 0) = some (y3, n32 96) ∧ FYy y y3 ∧ TnY y3 (tol E x) ∧ KnY y3 (tol E x) := by
  have hE := h.1
  obtain ⟨y1, e1, f1, t1⟩ := loop_st (step := fX11_infers_l2 y) 96 (fun k z => FYy y z ∧ ∀ j, j < k → gi z 40 j = n32 0) (x0 := y) ⟨FYy.rf y, fun j h => absurd h (Nat.not_lt_zero j)⟩ (fun k z hk hz => by
      refine ⟨ui z 40 k (n32 0), ?_, hz.1.up (by omega), fun j hj => ?_⟩
      · unfold fX11_infers_l2
        simp (disch := omega) only [eq_self, n_le, n_lt, n_inj, n_nat, gd_in, n_add, bi_z, bi_1, gd_bi, n_nonneg,  some_bind, lt_e, lit_NV, if_true, if_false, ite_true, ite_false, Option.bind_some, not_true, not_false_iff, lit_0, lit_1, lit_2, lit_3, lit_4, lit_5, lit_6, lit_7, lit_8, lit_12, lit_24, lit_25, lit_30, lit_60, lit_63, lit_96, lit_100, lit_512, lit_240, Nat.not_le.mpr hk]
      · by_cases e : j = k
        · rw [gi_yes ⟨rfl, e⟩]
        · rw [gi_no (by omega)]
          exact hz.2 j (by omega))
    (fun z hz => by
      unfold fX11_infers_l2
      simp (disch := omega) only [eq_self, n_le, n_lt, n_inj, n_nat, gd_in, n_add, bi_z, bi_1, gd_bi, n_nonneg,  some_bind, lt_e, lit_NV, if_true, if_false, ite_true, ite_false, Option.bind_some, not_true, not_false_iff, lit_0, lit_1, lit_2, lit_3, lit_4, lit_5, lit_6, lit_7, lit_8, lit_12, lit_24, lit_25, lit_30, lit_60, lit_63, lit_96, lit_100, lit_512, lit_240, Nat.le_refl])
  obtain ⟨y2, e2, f2, t2⟩ := loop_st (step := fX11_infers_l23 y1) E (fun k z => FYy y z ∧ TnY z (tol k x)) (x0 := y1) ⟨f1, fun l n hl hn => t1 _ (by omega)⟩ (fun k z hk hz => by
      obtain ⟨hf, ht⟩ := hz
      have h' := RE_FY h hf
      obtain ⟨h1, h2, h3, h4, h5, h6⟩ := RE_at h hN hk
      obtain ⟨-, -, hc, q1, q2, q3, -, -, -⟩ := id h'
      have hi : 24 * kl x k + fr x k < 96 := by omega
      have hth : fX11_isEdge z (n32 k) = some (bi (le x k)) := by rw [r_isEdge h', ed_n hE hk]
      have g1 : gi z 13 k = n32 (fr x k) := (q1 k).trans h1
      have g2 : gi z 14 k = n32 (tt x k) := (q2 k).trans h2
      have g3 : gi z 15 k = n32 (kl x k) := (q3 k).trans h3
      cases hl : le x k
      · refine ⟨ui z 40 (24 * kl x k + fr x k) (gi z 40 (24 * kl x k + fr x k)), ?_, hf.up (by omega), fun l n q1 q2 => ?_⟩
        · unfold fX11_infers_l23 fX11_infers_j73
          simp (disch := omega) only [eq_self, n_le, n_lt, n_inj, n_nat, gd_in, n_add, bi_z, bi_1, gd_bi, n_nonneg,  some_bind, lt_e, lit_NV, if_true, if_false, ite_true, ite_false, Option.bind_some, not_true, not_false_iff, lit_0, lit_1, lit_2, lit_3, lit_4, lit_5, lit_6, lit_7, lit_8, lit_12, lit_24, lit_25, lit_30, lit_60, lit_63, lit_96, lit_100, lit_512, lit_240, hc, Nat.not_le.mpr hk, hth, hl, g1, g2, g3, n_mul, or_z]
        · rw [tol_succ, hl]
          by_cases q : 24 * l + n = 24 * kl x k + fr x k
          · rw [gi_yes ⟨rfl, q⟩, ← q]
            exact ht l n q1 q2
          · rw [gi_no (by omega)]
            exact ht l n q1 q2
      · refine ⟨ui z 40 (24 * kl x k + fr x k) (gi z 40 (24 * kl x k + fr x k) ||| bit1 (tt x k)), ?_, hf.up (by omega), fun l n q1 q2 => ?_⟩
        · unfold fX11_infers_l23 fX11_infers_j73
          simp (disch := omega) only [eq_self, n_le, n_lt, n_inj, n_nat, gd_in, n_add, bi_z, bi_1, gd_bi, n_nonneg,  some_bind, lt_e, lit_NV, if_true, if_false, ite_true, ite_false, Option.bind_some, not_true, not_false_iff, lit_0, lit_1, lit_2, lit_3, lit_4, lit_5, lit_6, lit_7, lit_8, lit_12, lit_24, lit_25, lit_30, lit_60, lit_63, lit_96, lit_100, lit_512, lit_240, hc, Nat.not_le.mpr hk, hth, hl, g1, g2, g3, n_mul, Bool.true_eq_false]
          rfl
        · rw [tol_succ, hl]
          by_cases q : kl x k = l ∧ fr x k = n
          · obtain ⟨rfl, rfl⟩ := q
            rw [gi_yes ⟨rfl, rfl⟩, ht _ _ q1 q2]
            simp
          · rw [gi_no (by omega), ht _ _ q1 q2, if_neg]
            simp only [Bool.true_and, Bool.and_eq_true, decide_eq_true_eq]
            exact q)
    (fun z hz => by
      have hc : gi z 0 15 = n32 E := (RE_FY h hz.1).2.2.1
      unfold fX11_infers_l23
      simp (disch := omega) only [eq_self, n_le, n_lt, n_inj, n_nat, gd_in, n_add, bi_z, bi_1, gd_bi, n_nonneg,  some_bind, lt_e, lit_NV, if_true, if_false, ite_true, ite_false, Option.bind_some, not_true, not_false_iff, lit_0, lit_1, lit_2, lit_3, lit_4, lit_5, lit_6, lit_7, lit_8, lit_12, lit_24, lit_25, lit_30, lit_60, lit_63, lit_96, lit_100, lit_512, lit_240, hc, Nat.le_refl])
  obtain ⟨y3, e3, f3, t3, k3⟩ := loop_st (step := fX11_infers_l83 y2) 96 (fun k z => FYy y z ∧ TnY z (tol E x) ∧ ∀ j, j < k → gi z 41 j = gi z 40 j) (x0 := y2) ⟨f2, t2, fun j h => absurd h (Nat.not_lt_zero j)⟩ (fun k z hk hz => by
      refine ⟨ui z 41 k (gi z 40 k), ?_, hz.1.up (by omega), fun l n q1 q2 => ?_, fun j hj => ?_⟩
      · unfold fX11_infers_l83
        simp (disch := omega) only [eq_self, n_le, n_lt, n_inj, n_nat, gd_in, n_add, bi_z, bi_1, gd_bi, n_nonneg,  some_bind, lt_e, lit_NV, if_true, if_false, ite_true, ite_false, Option.bind_some, not_true, not_false_iff, lit_0, lit_1, lit_2, lit_3, lit_4, lit_5, lit_6, lit_7, lit_8, lit_12, lit_24, lit_25, lit_30, lit_60, lit_63, lit_96, lit_100, lit_512, lit_240, Nat.not_le.mpr hk]
      · rw [gi_no (by omega)]
        exact hz.2.1 l n q1 q2
      · rw [gi_no (a := 41) (b := 40) (by omega)]
        by_cases e : j = k
        · rw [gi_yes ⟨rfl, e⟩, e]
        · rw [gi_no (by omega)]
          exact hz.2.2 j (by omega))
    (fun z hz => by
      unfold fX11_infers_l83
      simp (disch := omega) only [eq_self, n_le, n_lt, n_inj, n_nat, gd_in, n_add, bi_z, bi_1, gd_bi, n_nonneg,  some_bind, lt_e, lit_NV, if_true, if_false, ite_true, ite_false, Option.bind_some, not_true, not_false_iff, lit_0, lit_1, lit_2, lit_3, lit_4, lit_5, lit_6, lit_7, lit_8, lit_12, lit_24, lit_25, lit_30, lit_60, lit_63, lit_96, lit_100, lit_512, lit_240, Nat.le_refl])
  exact ⟨y1, y2, y3, e1, e2, e3, f3, t3, fun l n hl hn => (k3 _ (by omega)).trans (t3 l n hl hn)⟩
theorem r_joined {z : St} {K : Nat → Nat → Int32} (hK : KnY z K) {l : Nat} (hl : l < 4) (s : Int32) : fX11_joined z s (n32 (24 * l)) = some (jn K l s) := by
  unfold fX11_joined jn
  rw [lit_0, loop_gat 24 (hs s) (K l) (fun k a hk => ?_) (fun a => ?_)]
  · rfl
  · have hi : 24 * l + k < 96 := by omega
    unfold fX11_joined_l5 fX11_joined_j35
    simp (disch := omega) only [eq_self, n_le, n_lt, n_inj, n_nat, gd_in, n_add, bi_z, bi_1, gd_bi, n_nonneg,  some_bind, lt_e, lit_NV, if_true, if_false, ite_true, ite_false, Option.bind_some, not_true, not_false_iff, lit_0, lit_1, lit_2, lit_3, lit_4, lit_5, lit_6, lit_7, lit_8, lit_12, lit_24, lit_25, lit_30, lit_60, lit_63, lit_96, lit_100, lit_512, lit_240, Nat.not_le.mpr hk, r_has s (show k < 32 by omega), hK l k hl hk]
    cases hs s k <;> simp [or_z]
  · unfold fX11_joined_l5
    simp (disch := omega) only [eq_self, n_le, n_lt, n_inj, n_nat, gd_in, n_add, bi_z, bi_1, gd_bi, n_nonneg,  some_bind, lt_e, lit_NV, if_true, if_false, ite_true, ite_false, Option.bind_some, not_true, not_false_iff, lit_0, lit_1, lit_2, lit_3, lit_4, lit_5, lit_6, lit_7, lit_8, lit_12, lit_24, lit_25, lit_30, lit_60, lit_63, lit_96, lit_100, lit_512, lit_240, Nat.le_refl]
theorem new_z (s b : Int32) : ((s &&& (b ^^^ -n32 1)) = n32 0) = ((b ||| s) = b) := by
  rw [eq_iff_iff]
  have hm : ∀ i, i < 32 → hs (b ^^^ -n32 1) i = !hs b i := fun i hi => hs_not b hi
  constructor
  · intro h
    refine hs_ext fun i hi => ?_
    have := congrArg (fun q => hs q i) h
    simp only [hs_and, hm i hi, hs_0] at this
    rw [hs_or]
    cases h1 : hs b i <;> cases h2 : hs s i <;> simp [h1, h2] at this ⊢
  · intro h
    refine hs_ext fun i hi => ?_
    have := congrArg (fun q => hs q i) h
    simp only [hs_or] at this
    rw [hs_and, hm i hi, hs_0]
    cases h1 : hs b i <;> cases h2 : hs s i <;> simp [h1, h2] at this ⊢
theorem r_pass {R : Nat} {x y z : St} {T K : Nat → Nat → Int32} (hR : RR R x y) (hf : FYy y z) (hT : TnY z T) (hK : KnY z K) : ∃ z', loopF (fX11_infers_l117 z) (z, n32 0, n32 0) = some (z', bi (pgs R x (K, false)).2, n32 R) ∧ FYy y z' ∧ TnY z' T ∧ KnY z' (pss R x K) := by
  have hR6 := hR.1
  obtain ⟨z', v, e, f, t, hv, k⟩ := loop_sa (step := fX11_infers_l117 z) R (fun r w v => FYy y w ∧ TnY w T ∧ v = bi (pgs r x (K, false)).2 ∧ KnY w (pgs r x (K, false)).1) (x0 := z) (v0 := n32 0) ⟨hf, hT, rfl, hK⟩
    (fun r w v hr hw => by
      obtain ⟨f, t, rfl, k⟩ := hw
      have hc : gi w 0 42 = n32 R := (f _ _ (by omega) (by omega)).trans hR.2.2.1
      obtain ⟨h1, h2, h3, h4, h5, h6⟩ := RR_at hR hr
      obtain ⟨-, -, -, r1, r2, r3, -, r5⟩ := id hR
      obtain ⟨b, hb, hby⟩ := r5 r (by omega)
      have key : ∃ w' v' j, loopF (fX11_infers_l127 w (n32 r)) (w, bi (pgs r x (K, false)).2, n32 0) = some (w', v', j) ∧ FYy y w' ∧ TnY w' T ∧ v' = bi (pgs (r + 1) x (K, false)).2 ∧ KnY w' (pgs (r + 1) x (K, false)).1 := by
        show ∃ w' v' j, _ = some (w', v', j) ∧ FYy y w' ∧ TnY w' T ∧ v' = bi (fold (fun n p => psg x r n p) (pgs r x (K, false)) 24).2 ∧ KnY w' (fold (fun n p => psg x r n p) (pgs r x (K, false)) 24).1
        revert k
        generalize pgs r x (K, false) = p0
        intro k
        cases b
        · have hd : gi x 27 r = n32 0 := hb
          have hdy : gi y 39 r = n32 0 := hby
          obtain ⟨w', v', e9, q1, q2, q3, q4⟩ := loop_sa (step := fX11_infers_l127 w (n32 r)) 24 (fun n w v => FYy y w ∧ TnY w T ∧ v = bi (fold (fun n p => psg x r n p) p0 n).2 ∧ KnY w (fold (fun n p => psg x r n p) p0 n).1) (x0 := w) (v0 := bi p0.2) ⟨f, t, rfl, k⟩
            (fun n u v hn hu => by
              obtain ⟨f, t, rfl, k⟩ := hu
              show ∃ x' v', _ ∧ FYy y x' ∧ TnY x' T ∧ v' = bi (psg x r n (fold (fun n p => psg x r n p) p0 n)).2 ∧ KnY x' (psg x r n (fold (fun n p => psg x r n p) p0 n)).1
              revert k
              generalize fold (fun n p => psg x r n p) p0 n = p
              obtain ⟨K', g⟩ := p
              intro k
              have k : KnY u K' := k
              have g1 : gi u 36 r = n32 (rA x r) := (f _ _ (by omega) (by omega)).trans ((r1 r).trans h1)
              have g2 : gi u 37 r = n32 (rB x r) := (f _ _ (by omega) (by omega)).trans ((r2 r).trans h2)
              have g3 : gi u 38 r = n32 (rC x r) := (f _ _ (by omega) (by omega)).trans ((r3 r).trans h3)
              have g4 : gi u 39 r = n32 0 := (f _ _ (by omega) (by omega)).trans hdy
              have k1 : gi u 41 (24 * rC x r + n) = K' (rC x r) n := k _ _ h6 hn
              have k2 : gi u 41 (24 * rA x r + n) = K' (rA x r) n := k _ _ h4 hn
              have i1 : 24 * rC x r + n < 96 := by omega
              have i2 : 24 * rA x r + n < 96 := by omega
              have hpx : psx x r n K' = updK K' (rC x r) n (K' (rC x r) n ||| jn K' (rB x r) (K' (rA x r) n)) := by
                unfold psx
                rw [if_pos hd]
              have hpv : psx x r n K' (rC x r) n = K' (rC x r) n ||| jn K' (rB x r) (K' (rA x r) n) := by
                rw [hpx]
                unfold updK
                rw [if_pos ⟨rfl, rfl⟩]
              refine ⟨ui u 41 (24 * rC x r + n) (K' (rC x r) n ||| jn K' (rB x r) (K' (rA x r) n)), bi (g || !decide (psx x r n K' (rC x r) n = K' (rC x r) n)), ?_, f.up (by omega), fun l m q1 q2 => ?_, rfl, fun l m q1 q2 => ?_⟩
              · rw [hpv]
                unfold fX11_infers_l127 fX11_infers_j205 fX11_infers_j210
                simp (disch := omega) only [eq_self, n_le, n_lt, n_inj, n_nat, gd_in, n_add, bi_z, bi_1, gd_bi, n_nonneg,  some_bind, lt_e, lit_NV, if_true, if_false, ite_true, ite_false, Option.bind_some, not_true, not_false_iff, lit_0, lit_1, lit_2, lit_3, lit_4, lit_5, lit_6, lit_7, lit_8, lit_12, lit_24, lit_25, lit_30, lit_60, lit_63, lit_96, lit_100, lit_512, lit_240, Nat.not_le.mpr hn, g1, g2, g3, g4, k1, k2, n_mul, r_joined k h5, new_z]
                cases g
                · by_cases q : (K' (rC x r) n ||| jn K' (rB x r) (K' (rA x r) n)) = K' (rC x r) n
                  · simp [q, bi]
                  · simp [q, bi]
                · simp [bi]
              · rw [gi_no (by omega)]
                exact t l m q1 q2
              · show _ = psx x r n K' l m
                rw [hpx]
                unfold updK
                by_cases q : l = rC x r ∧ m = n
                · rw [if_pos q, gi_yes (by omega)]
                · rw [if_neg q, gi_no (by omega)]
                  exact k l m q1 q2)
            (fun u v hu => by
              unfold fX11_infers_l127
              simp (disch := omega) only [eq_self, n_le, n_lt, n_inj, n_nat, gd_in, n_add, bi_z, bi_1, gd_bi, n_nonneg,  some_bind, lt_e, lit_NV, if_true, if_false, ite_true, ite_false, Option.bind_some, not_true, not_false_iff, lit_0, lit_1, lit_2, lit_3, lit_4, lit_5, lit_6, lit_7, lit_8, lit_12, lit_24, lit_25, lit_30, lit_60, lit_63, lit_96, lit_100, lit_512, lit_240, Nat.le_refl])
          exact ⟨w', v', n32 24, e9, q1, q2, q3, q4⟩
        · have hd : gi x 27 r = n32 1 := hb
          have hdy : gi y 39 r = n32 1 := hby
          have hps : fold (fun n p => psg x r n p) p0 24 = p0 := fold_fix fun n hn => by
            unfold psg psx
            rw [hd, if_neg (by decide)]
            simp
          rw [hps]
          refine ⟨w, bi p0.2, n32 0, loopF_end ?_, f, t, rfl, k⟩
          have g4 : gi w 39 r = n32 1 := (f _ _ (by omega) (by omega)).trans hdy
          unfold fX11_infers_l127
          simp (disch := omega) only [eq_self, n_le, n_lt, n_inj, n_nat, gd_in, n_add, bi_z, bi_1, gd_bi, n_nonneg,  some_bind, lt_e, lit_NV, if_true, if_false, ite_true, ite_false, Option.bind_some, not_true, not_false_iff, lit_0, lit_1, lit_2, lit_3, lit_4, lit_5, lit_6, lit_7, lit_8, lit_12, lit_24, lit_25, lit_30, lit_60, lit_63, lit_96, lit_100, lit_512, lit_240, g4]
          simp
      obtain ⟨w', v', j, e9, q⟩ := key
      refine ⟨w', v', ?_, q⟩
      unfold fX11_infers_l117
      simp (disch := omega) only [eq_self, n_le, n_lt, n_inj, n_nat, gd_in, n_add, bi_z, bi_1, gd_bi, n_nonneg,  some_bind, lt_e, lit_NV, if_true, if_false, ite_true, ite_false, Option.bind_some, not_true, not_false_iff, lit_0, lit_1, lit_2, lit_3, lit_4, lit_5, lit_6, lit_7, lit_8, lit_12, lit_24, lit_25, lit_30, lit_60, lit_63, lit_96, lit_100, lit_512, lit_240, hc, Nat.not_le.mpr hr, e9])
    (fun w v hw => by
      have hc : gi w 0 42 = n32 R := (hw.1 _ _ (by omega) (by omega)).trans hR.2.2.1
      unfold fX11_infers_l117
      simp (disch := omega) only [eq_self, n_le, n_lt, n_inj, n_nat, gd_in, n_add, bi_z, bi_1, gd_bi, n_nonneg,  some_bind, lt_e, lit_NV, if_true, if_false, ite_true, ite_false, Option.bind_some, not_true, not_false_iff, lit_0, lit_1, lit_2, lit_3, lit_4, lit_5, lit_6, lit_7, lit_8, lit_12, lit_24, lit_25, lit_30, lit_60, lit_63, lit_96, lit_100, lit_512, lit_240, hc, Nat.le_refl])
  subst hv
  exact ⟨z', e, f, t, by rw [pgs_1] at k; exact k⟩
theorem r_infers {N E R : Nat} {x y : St} (hN : N ≤ 24) (h : RE N E x y) (hR : RR R x y) : ∃ y', fX11_infers y = some y' ∧ FYy y y' ∧ TnY y' (tol E x) ∧ KnY y' (kno R E x) := by
  obtain ⟨y1, y2, y3, e1, e2, e3, f3, t3, k3⟩ := r_told hN h
  obtain ⟨e, e4, f4, t4, k4⟩ := loop_gen (step := fX11_infers_l109 y3) 2305 (fun i e => FYy y e.1 ∧ TnY e.1 (tol E x) ∧ KnY e.1 (wys R E x i) ∧ ∃ g : Bool, e.2 = bi g ∧ (g = true → i ≤ csum (wys R E x i)) ∧ (g = false → pss R x (wys R E x i) = wys R E x i)) (Q := fun e => FYy y e.1 ∧ TnY e.1 (tol E x) ∧ KnY e.1 (kno R E x)) (x0 := (y3, n32 1)) ⟨f3, t3, k3, true, rfl, fun _ => Nat.zero_le _, fun q => by cases q⟩
    (fun i e hi he => by
      obtain ⟨w, v⟩ := e
      obtain ⟨f, t, k, g, hv, hg1, hg⟩ := he
      have hv : v = bi g := hv
      subst hv
      cases g
      · refine Or.inl ⟨(w, bi false), ?_, f, t, ?_⟩
        · unfold fX11_infers_l109
          simp (disch := omega) only [eq_self, n_le, n_lt, n_inj, n_nat, gd_in, n_add, bi_z, bi_1, gd_bi, n_nonneg,  some_bind, lt_e, lit_NV, if_true, if_false, ite_true, ite_false, Option.bind_some, not_true, not_false_iff, lit_0, lit_1, lit_2, lit_3, lit_4, lit_5, lit_6, lit_7, lit_8, lit_12, lit_24, lit_25, lit_30, lit_60, lit_63, lit_96, lit_100, lit_512, lit_240]
        · rw [← wys_kno hi (hg rfl)]
          exact k
      · have hle := hg1 rfl
        have hle2 := csum_le (wys R E x i)
        obtain ⟨w', q1, q2, q3, q4⟩ := r_pass hR f t k
        have hst := pgs_stp (fun r hr => (RR_at hR hr).2.2.2.2.2) (wys R E x i, false) (SM_wys hN h hR i)
        refine Or.inr ⟨by omega, (w', bi (pgs R x (wys R E x i, false)).2), ?_, q2, q3, q4, _, rfl, fun hgt => ?_, fun hgf => ?_⟩
        · unfold fX11_infers_l109
          simp (disch := omega) only [eq_self, n_le, n_lt, n_inj, n_nat, gd_in, n_add, bi_z, bi_1, gd_bi, n_nonneg,  some_bind, lt_e, lit_NV, if_true, if_false, ite_true, ite_false, Option.bind_some, not_true, not_false_iff, lit_0, lit_1, lit_2, lit_3, lit_4, lit_5, lit_6, lit_7, lit_8, lit_12, lit_24, lit_25, lit_30, lit_60, lit_63, lit_96, lit_100, lit_512, lit_240, Bool.true_eq_false, q1]
        · rcases hst.2.2.1 hgt with q | q
          · cases q
          · show i + 1 ≤ csum (pss R x (wys R E x i))
            have q : csum (wys R E x i) < csum (pss R x (wys R E x i)) := by
              rw [pgs_1] at q
              exact q
            omega
        · have := hst.2.2.2 hgf
          rw [pgs_1] at this
          have h9 : pss R x (wys R E x i) = wys R E x i := this.2
          show pss R x (pss R x (wys R E x i)) = pss R x (wys R E x i)
          rw [h9, h9])
  refine ⟨e.1, ?_, f4, t4, k4⟩
  unfold fX11_infers
  have e1 : loopF (fX11_infers_l2 y) (y, 0) = some (y1, n32 96) := e1
  have e2 : loopF (fX11_infers_l23 y1) (y1, 0) = some (y2, n32 E) := e2
  have e3 : loopF (fX11_infers_l83 y2) (y2, 0) = some (y3, n32 96) := e3
  have e4 : loopF (fX11_infers_l109 y3) (y3, 1) = some e := e4
  rw [e1, some_bind, e2, some_bind, e3, some_bind, e4]
  rfl
