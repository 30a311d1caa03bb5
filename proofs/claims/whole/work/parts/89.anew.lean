/-! ### answerAnew: going on from sets, and any number of times -/
def im (f : Nat → Int32) (s : Int32) : Int32 := gat (hs s) f 24
theorem hs_im {f : Nat → Int32} {s : Int32} {i : Nat} : hs (im f s) i = true ↔ ∃ n, n < 24 ∧ hs s n = true ∧ hs (f n) i = true := by
  unfold im
  rw [hs_gat, any_ex]
  constructor
  · rintro ⟨n, hn, h⟩
    simp only [Bool.and_eq_true] at h
    exact ⟨n, hn, h.1, h.2⟩
  · rintro ⟨n, hn, h1, h2⟩
    exact ⟨n, hn, by rw [h1, h2]; rfl⟩
theorem im_0 (f : Nat → Int32) : im f (n32 0) = n32 0 := by
  unfold im
  rw [gat_stop (Nat.zero_le 24) fun i _ _ => hs_0 i]
  rfl
theorem rpo_at (o : Nat) (v : Nat → Int32) : ∀ k m, fold (fun n v => rpo o n v) v k m = if m < k ∧ hs (v m) o = true then v m ||| v o else v m
  | 0, m => by rw [if_neg (fun q => absurd q.1 (Nat.not_lt_zero m))]; rfl
  | k + 1, m => by
    have ih := rpo_at o v k
    show rpo o k (fold (fun n v => rpo o n v) v k) m = _
    have hk : fold (fun n v => rpo o n v) v k k = v k := by rw [ih k, if_neg (fun q => absurd q.1 (Nat.lt_irrefl k))]
    have ho : fold (fun n v => rpo o n v) v k o = v o := by
      rw [ih o]
      split
      · exact Int32.or_self
      · rfl
    unfold rpo at ih hk ho ⊢
    by_cases e : m = k
    · subst e
      simp only [if_true, hk, ho]
      by_cases q : hs (v m) o = true
      · rw [if_pos q, if_pos ⟨Nat.lt_succ_self m, q⟩]
      · rw [if_neg q, if_neg (fun z => q z.2)]
    · rw [if_neg e, ih m]
      have hlt : (m < k + 1) = (m < k) := by rw [eq_iff_iff]; omega
      simp only [hlt]
theorem rpp_at (o : Nat) (v : Nat → Int32) {m : Nat} (hm : m < 24) : rpp o v m = if hs (v m) o = true then v m ||| v o else v m := by
  have h := rpo_at o v 24 m
  have e : (m < 24 ∧ hs (v m) o = true) = (hs (v m) o = true) := by rw [eq_iff_iff]; exact ⟨fun q => q.2, fun q => ⟨hm, q⟩⟩
  simp only [e] at h
  exact h
theorem rpp_up (o : Nat) (v : Nat → Int32) {m : Nat} (hm : m < 24) : sbs (v m) (rpp o v m) := by
  rw [rpp_at o v hm]
  split
  · exact sbs_or _ _
  · exact sbs.rf
theorem sbs_or' (s t : Int32) : sbs t (s ||| t) := fun i _ h => by rw [hs_or, h, Bool.or_true]
theorem rep_up (f : Nat → Int32) (W : Int32) {m : Nat} (hm : m < 24) : ∀ k, sbs (rep0 f W m) (fold (fun over v => rpp over v) (rep0 f W) k m)
  | 0 => sbs.rf
  | k + 1 => (rep_up f W hm k).tr (rpp_up k _ hm)
theorem rep_trans (f : Nat → Int32) (W : Int32) : ∀ k, k ≤ 24 → ∀ j n, j < k → n < 24 → hs (fold (fun over v => rpp over v) (rep0 f W) k n) j = true → sbs (fold (fun over v => rpp over v) (rep0 f W) k j) (fold (fun over v => rpp over v) (rep0 f W) k n)
  | 0, _, j, _, hj, _, _ => absurd hj (Nat.not_lt_zero j)
  | k + 1, hk, j, n, hj, hn, h => by
    have ih := rep_trans f W k (by omega)
    show sbs (rpp k (fold (fun over v => rpp over v) (rep0 f W) k) j) (rpp k (fold (fun over v => rpp over v) (rep0 f W) k) n)
    have h : hs (rpp k (fold (fun over v => rpp over v) (rep0 f W) k) n) j = true := h
    revert ih h
    generalize fold (fun over v => rpp over v) (rep0 f W) k = v
    intro ih h
    have hkn : hs (v n) k = true → sbs (v k) (rpp k v n) := fun q => by
      rw [rpp_at k v hn, if_pos q]
      exact sbs_or' _ _
    by_cases e : j = k
    · subst e
      have hjn : hs (v n) j = true := by
        rw [rpp_at j v hn] at h
        by_cases q : hs (v n) j = true
        · exact q
        · rw [if_neg q] at h
          exact absurd h q
      have hvj : rpp j v j = v j := by
        rw [rpp_at j v (by omega)]
        split
        · exact Int32.or_self
        · rfl
      rw [hvj]
      exact hkn hjn
    · have hjk : j < k := by omega
      -- j is in v n, or in v k with k in v n
      have hcase : hs (v n) j = true ∨ (hs (v n) k = true ∧ hs (v k) j = true) := by
        rw [rpp_at k v hn] at h
        by_cases q : hs (v n) k = true
        · rw [if_pos q, hs_or, Bool.or_eq_true] at h
          rcases h with h | h
          · exact Or.inl h
          · exact Or.inr ⟨q, h⟩
        · rw [if_neg q] at h
          exact Or.inl h
      rcases hcase with h1 | ⟨h1, h2⟩
      · have h3 := ih j n hjk hn h1
        rw [rpp_at k v (show j < 24 by omega)]
        split
        · rename_i q
          exact sbs_or2 (h3.tr (rpp_up k v hn)) (hkn (h3 k (by omega) q))
        · exact h3.tr (rpp_up k v hn)
      · have h3 := ih j k hjk (by omega) h2
        rw [rpp_at k v (show j < 24 by omega)]
        split
        · exact sbs_or2 (h3.tr (hkn h1)) (hkn h1)
        · exact h3.tr (hkn h1)
/-- a set from which no step leads out -/
def clsd (f : Nat → Int32) (C : Int32) : Prop := ∀ m, m < 24 → hs C m = true → sbs (f m) C
theorem rep_min {f : Nat → Int32} {W C : Int32} (hC : clsd f C) : ∀ k, k ≤ 24 → ∀ n, n < 24 → hs C n = true → sbs (fold (fun over v => rpp over v) (rep0 f W) k n) C
  | 0, _, n, hn, h => sbs_or2 (hC n hn h) fun i hi q => by
    rw [hs_and, Bool.and_eq_true] at q
    rw [hs_one (by omega) hi q.1]
    exact h
  | k + 1, hk, n, hn, h => by
    have ih := rep_min (W := W) hC k (by omega)
    show sbs (rpp k (fold (fun over v => rpp over v) (rep0 f W) k) n) C
    rw [rpp_at k _ hn]
    split
    · rename_i q
      exact sbs_or2 (ih n hn h) (ih k (by omega) (ih n hn h k (by omega) q))
    · exact ih n hn h
theorem sml_lt {s : Int32} {i : Nat} (h : sml s) (q : hs s i = true) : i < 24 := by
  rcases Nat.lt_or_ge i 24 with h9 | h9
  · exact h9
  · rw [h i h9] at q
    cases q
/-- what is found step by step is what the closure relates -/
theorem rep_im {f : Nat → Int32} {W s B : Int32} (hW : sml W) (hs9 : sbs s W) (h1 : sbs s B) (h2 : ∀ C, sbs s C → clsd f C → sbs B C) (h3 : clsd f B) : B = im (rep f W) s := by
  refine sbs.an (h2 _ (fun i hi q => ?_) fun m hm q => ?_) fun i hi q => ?_
  · have hi24 := sml_lt (sml_sbs hs9 hW) q
    rw [hs_im]
    refine ⟨i, hi24, q, rep_up f W hi24 24 i hi ?_⟩
    unfold rep0
    rw [hs_or, hs_and, hs_own hi, hs9 i hi q, Bool.and_true, Bool.or_true]
  · obtain ⟨n, hn, q1, q2⟩ := hs_im.mp q
    intro i hi q3
    rw [hs_im]
    refine ⟨n, hn, q1, rep_trans f W 24 (Nat.le_refl _) m n hm hn q2 i hi (rep_up f W hm 24 i hi ?_)⟩
    unfold rep0
    rw [hs_or, q3, Bool.true_or]
  · obtain ⟨n, hn, q1, q2⟩ := hs_im.mp q
    exact rep_min h3 24 (Nat.le_refl _) n hn (h1 n (by omega) q1) i hi q2
/-- any number of times any number of times is any number of times -/
theorem rep_rep {f : Nat → Int32} {W s : Int32} (hW : sml W) (hs9 : sbs s W) : im (rep (rep f W) W) s = im (rep f W) s :=
  (rep_im hW hs9 (fun i hi q => by
    have hi24 := sml_lt (sml_sbs hs9 hW) q
    rw [hs_im]
    refine ⟨i, hi24, q, rep_up f W hi24 24 i hi ?_⟩
    unfold rep0
    rw [hs_or, hs_and, hs_own hi, hs9 i hi q, Bool.and_true, Bool.or_true])
    (fun C hC hcl i hi q => by
    obtain ⟨n, hn, q1, q2⟩ := hs_im.mp q
    exact hcl n hn (hC n (by omega) q1) i hi q2)
    (fun m hm q i hi z => by
    obtain ⟨n, hn, q1, q2⟩ := hs_im.mp q
    rw [hs_im]
    exact ⟨n, hn, q1, rep_trans f W 24 (Nat.le_refl _) m n hm hn q2 i hi z⟩)).symm
/-- the rows of nodes out of reach are empty -/
theorem rep_zero {f : Nat → Int32} {W : Int32} {n : Nat} (hf : f n = n32 0) (hw : hs W n = false) (hn : n < 24) : rep f W n = n32 0 := by
  have h0 : rep0 f W n = n32 0 := by
    unfold rep0
    have hst := start_in (u := W) (k := n) (by omega)
    rw [hf, ← hst, hw, if_neg (by decide), or_z]
  have : ∀ k, fold (fun over v => rpp over v) (rep0 f W) k n = n32 0 := fun k => by
    induction k with
    | zero => exact h0
    | succ k ih =>
      show rpp k (fold (fun over v => rpp over v) (rep0 f W) k) n = n32 0
      rw [rpp_at k _ hn, ih, hs_0]
      rfl
  exact this 24
theorem rels_zero (x : St) (u : Nat) (W : Int32) (K : Nat → Nat → Int32) (D : Nat → Int32) {n : Nat} (hw : hs W n = false) (hn : n < 24) : ∀ k i, rels x u W K D k i n = n32 0
  | 0, _ => rfl
  | k + 1, i => by
    have ih := rels_zero x u W K D hw hn k
    show (if i = k then stR x u W K D (rels x u W K D k) k n else rels x u W K D k i n) = n32 0
    split
    · unfold stR
      split
      · show gat (hs (rels x u W K D k (lf x u k) n)) _ 24 = n32 0
        rw [ih, gat_stop (Nat.zero_le 24) fun i _ _ => hs_0 i]
        rfl
      · split
        · show rels x u W K D k (lf x u k) n ||| rels x u W K D k (rt x u k) n = n32 0
          rw [ih, ih]
          rfl
        · split
          · exact rep_zero (ih _) hw hn
          · have hst := start_in (u := W) (k := n) (by omega)
            show one K D (kq x u k) (kb x u k) (bit1 n &&& W) &&& W = n32 0
            rw [← hst, hw]
            unfold one
            simp only [Bool.false_eq_true, if_false, jn_0, bk_0, z_and]
            split
            · exact z_and W
            · split <;> exact z_and W
    · exact ih i
theorem rels_st (x : St) (u : Nat) (W : Int32) (K : Nat → Nat → Int32) (D : Nat → Int32) {i k : Nat} (h : i < k) : ∀ m, rels x u W K D (k + m) i = rels x u W K D k i
  | 0 => rfl
  | m + 1 => by
    funext n
    show (if i = k + m then _ else rels x u W K D (k + m) i n) = _
    rw [if_neg (by omega), rels_st x u W K D h m]
theorem rels_fin (x : St) (u : Nat) (W : Int32) (K : Nat → Nat → Int32) (D : Nat → Int32) {i k c : Nat} (h : i < k) (hk : k ≤ c) : rels x u W K D k i = rels x u W K D c i := by
  have := rels_st x u W K D h (c - k)
  rw [show k + (c - k) = c by omega] at this
  exact this.symm
/-- one step from a set, node by node -/
theorem one_im {K : Nat → Nat → Int32} {D : Nat → Int32} {W s : Int32} (hW : sml W) (hs9 : sbs s W) {q l : Nat} : one K D q l s &&& W = im (fun n => one K D q l (bit1 n &&& W) &&& W) s := by
  refine hs_ext fun i hi => ?_
  rw [Bool.eq_iff_iff, hs_im, hs_and, Bool.and_eq_true]
  have hb : ∀ n, n < 24 → hs s n = true → bit1 n &&& W = bit1 n := fun n hn q => by
    have hst := start_in (u := W) (k := n) (by omega)
    rw [← hst, hs9 n (by omega) q]
    rfl
  have hlin : hs (one K D q l s) i = true ↔ ∃ n, n < 24 ∧ hs s n = true ∧ hs (one K D q l (bit1 n)) i = true := by
    unfold one
    by_cases q0 : q = 0
    · simp only [q0, if_true]
      constructor
      · intro h
        obtain ⟨n, hn, h1, h2⟩ := (hs_im (f := K l)).mp h
        exact ⟨n, hn, h1, by rw [jn_one K l hn]; exact h2⟩
      · rintro ⟨n, hn, h1, h2⟩
        rw [jn_one K l hn] at h2
        exact (hs_im (f := K l)).mpr ⟨n, hn, h1, h2⟩
    · by_cases q1 : q = 1
      · simp only [q1, show ¬ (1 : Nat) = 0 by omega, if_false, if_true]
        unfold bk
        constructor
        · intro h
          rw [hs_gb hi (by decide)] at h
          simp only [Bool.and_eq_true, decide_eq_true_eq, Bool.not_eq_true', decide_eq_false_iff_not] at h
          have hex : ∃ n, n < 32 ∧ hs (K l i &&& s) n = true := by
            apply Classical.byContradiction
            intro hno
            refine h.2 (hs_ext fun n hn => ?_)
            rw [hs_0]
            cases hq : hs (K l i &&& s) n
            · rfl
            · exact absurd ⟨n, hn, hq⟩ hno
          obtain ⟨n, hn, hq⟩ := hex
          rw [hs_and, Bool.and_eq_true] at hq
          have hn24 := sml_lt (sml_sbs hs9 hW) hq.2
          refine ⟨n, hn24, hq.2, ?_⟩
          rw [hs_gb hi (by decide), decide_eq_true h.1]
          simp only [and_bit1 _ hn, hq.1]
          rfl
        · rintro ⟨n, hn, h1, h2⟩
          rw [hs_gb hi (by decide)] at h2 ⊢
          simp only [and_bit1 _ (show n < 32 by omega), Bool.and_eq_true, decide_eq_true_eq, Bool.not_eq_true', decide_eq_false_iff_not] at h2 ⊢
          refine ⟨h2.1, fun h0 => ?_⟩
          have h3 : hs (K l i) n = true := by
            cases hq : hs (K l i) n
            · exact absurd hq h2.2
            · rfl
          have h4 : hs (K l i &&& s) n = true := by rw [hs_and, h3, h1]; rfl
          rw [h0, hs_0] at h4
          cases h4
      · simp only [q0, q1, if_false]
        constructor
        · intro h
          rw [hs_and, Bool.and_eq_true] at h
          refine ⟨i, sml_lt (sml_sbs hs9 hW) h.1, h.1, ?_⟩
          rw [hs_and, hs_own hi, h.2]
          rfl
        · rintro ⟨n, hn, h1, h2⟩
          rw [hs_and, Bool.and_eq_true] at h2 ⊢
          have := hs_one (by omega) hi h2.1
          rw [this]
          rw [this] at h2
          exact ⟨h1, h2.2⟩
  rw [hlin]
  constructor
  · rintro ⟨⟨n, hn, h1, h2⟩, h3⟩
    refine ⟨n, hn, h1, ?_⟩
    rw [hs_and, hb n hn h1, h2, h3]
    rfl
  · rintro ⟨n, hn, h1, h2⟩
    rw [hs_and, hb n hn h1, Bool.and_eq_true] at h2
    exact ⟨⟨n, hn, h1, h2.1⟩, h2.2⟩
section GOON
variable {N u c h : Nat} {x y : St} {K : Nat → Nat → Int32} {W : Int32}
theorem c_often {rec : St → Nat → Int32 → Int32 → Int32 → Int32 → Option Int32} {f : Nat → Int32} {a d : Int32} (hW : sml W) (hf : ∀ n, sbs (f n) W) (hrec : ∀ s, sbs s W → rec x u a s W d = some (im f s)) {s : Int32} (hs9 : sbs s W) : fX5_goOnOften x rec u a s W d = some (im (rep f W) s) := by
  obtain ⟨e, e1, q1, q2, q3⟩ := loop_gen (step := fX5_goOnOften_l9 x rec u a s W d) 24 (fun k e => e.2.2 = n32 k ∧ sbs e.2.1 e.1 ∧ sbs e.1 W ∧ sbs s e.1 ∧ (∀ C, sbs s C → clsd f C → sbs e.1 C) ∧ (∀ m, m < 24 → hs e.1 m = true → hs e.2.1 m = false → sbs (f m) e.1) ∧ (e.2.1 = n32 0 ∨ k + 1 ≤ cnt (hs e.1) 24)) (Q := fun e => sbs s e.1 ∧ (∀ C, sbs s C → clsd f C → sbs e.1 C) ∧ clsd f e.1) (x0 := (s, s, n32 0))
    ⟨rfl, sbs.rf, hs9, sbs.rf, fun C h _ => h, fun m _ h1 h2 => by
      have h1 : hs s m = true := h1
      have h2 : hs s m = false := h2
      exact absurd (h1.symm.trans h2) (by decide), by
      by_cases h0 : s = n32 0
      · exact Or.inl h0
      · right
        have hex : ∃ n, n < 32 ∧ hs s n = true := by
          apply Classical.byContradiction
          intro hno
          refine h0 (hs_ext fun n hn => ?_)
          rw [hs_0]
          cases hq : hs s n
          · rfl
          · exact absurd ⟨n, hn, hq⟩ hno
        obtain ⟨n, hn, hq⟩ := hex
        exact cnt_pos (sml_lt (sml_sbs hs9 hW) hq) hq⟩
    (fun k e hk he => by
      obtain ⟨B, F, j⟩ := e
      obtain ⟨hj, h1, h2, h3, h4, h5, h6⟩ := he
      have hj : j = n32 k := hj
      subst hj
      have h1 : sbs F B := h1
      have h2 : sbs B W := h2
      have h3 : sbs s B := h3
      have h5 : ∀ m, m < 24 → hs B m = true → hs F m = false → sbs (f m) B := h5
      by_cases h0 : F = n32 0
      · refine Or.inl ⟨(B, F, n32 k), ?_, h3, h4, fun m hm q => h5 m hm q (by rw [h0]; exact hs_0 m)⟩
        unfold fX5_goOnOften_l9
        simp (disch := omega) only [eq_self, n_le, n_lt, n_inj, n_nat, gd_in, n_add, bi_z, bi_1, gd_bi, n_nonneg,  some_bind, lt_e, lit_NV, if_true, if_false, ite_true, ite_false, Option.bind_some, not_true, not_false_iff, lit_0, lit_1, lit_2, lit_3, lit_4, lit_5, lit_6, lit_7, lit_8, lit_12, lit_24, lit_25, lit_30, lit_60, lit_63, lit_96, lit_100, lit_512, lit_240, h0]
      · have hk24 : k < 24 := by
          rcases h6 with h6 | h6
          · exact absurd h6 h0
          · have := cnt_le (hs B) 24
            have h6 : k + 1 ≤ cnt (hs B) 24 := h6
            omega
        have hB : ∀ i, i < 32 → hs (B ||| (im f F &&& (B ^^^ -n32 1))) i = (hs B i || hs (im f F) i) := fun i hi => by
          have hn : hs (B ^^^ -n32 1) i = !hs B i := hs_not _ hi
          rw [hs_or, hs_and, hn]
          cases hs B i <;> cases hs (im f F) i <;> rfl
        have hsub : sbs B (B ||| (im f F &&& (B ^^^ -n32 1))) := sbs_or _ _
        have him : sbs (im f F) W := sbs_gat fun n _ => hf n
        have hin : sbs (im f F &&& (B ^^^ -n32 1)) (im f F) := fun i hi q => by
          rw [hs_and, Bool.and_eq_true] at q
          exact q.1
        refine Or.inr ⟨hk24, (B ||| (im f F &&& (B ^^^ -n32 1)), im f F &&& (B ^^^ -n32 1), n32 (k + 1)), ?_, rfl, sbs_or' _ _, sbs_or2 h2 (hin.tr him), h3.tr hsub, fun C hC hcl => ?_, fun m hm q1 q2 => ?_, ?_⟩
        · unfold fX5_goOnOften_l9
          simp (disch := omega) only [eq_self, n_le, n_lt, n_inj, n_nat, gd_in, n_add, bi_z, bi_1, gd_bi, n_nonneg,  some_bind, lt_e, lit_NV, if_true, if_false, ite_true, ite_false, Option.bind_some, not_true, not_false_iff, lit_0, lit_1, lit_2, lit_3, lit_4, lit_5, lit_6, lit_7, lit_8, lit_12, lit_24, lit_25, lit_30, lit_60, lit_63, lit_96, lit_100, lit_512, lit_240, h0, Nat.not_le.mpr hk24, hrec F (h1.tr h2)]
        · refine sbs_or2 (h4 C hC hcl) (hin.tr fun i hi q => ?_)
          obtain ⟨n, hn, z1, z2⟩ := hs_im.mp q
          exact hcl n hn (h4 C hC hcl n (by omega) (h1 n (by omega) z1)) i hi z2
        · have q1 : hs (B ||| (im f F &&& (B ^^^ -n32 1))) m = true := q1
          have q2 : hs (im f F &&& (B ^^^ -n32 1)) m = false := q2
          have hmB : hs B m = true := by
            rw [hs_or, q2, Bool.or_false] at q1
            exact q1
          cases hF : hs F m
          · exact (h5 m hm hmB hF).tr hsub
          · intro i hi q
            show hs (B ||| (im f F &&& (B ^^^ -n32 1))) i = true
            rw [hB i hi, hs_im.mpr ⟨m, hm, hF, q⟩, Bool.or_true]
        · by_cases hn0 : im f F &&& (B ^^^ -n32 1) = n32 0
          · exact Or.inl hn0
          · right
            have h6 : k + 1 ≤ cnt (hs B) 24 := by
              rcases h6 with h6 | h6
              · exact absurd h6 h0
              · exact h6
            have hne : B ≠ B ||| (im f F &&& (B ^^^ -n32 1)) := fun heq => hn0 (hs_ext fun i hi => by
              have hn : hs (B ^^^ -n32 1) i = !hs B i := hs_not _ hi
              have h9 := congrArg (fun q => hs q i) heq
              simp only [hB i hi] at h9
              rw [hs_and, hn, hs_0]
              cases h8 : hs B i <;> cases h7 : hs (im f F) i <;> rw [h8, h7] at h9 <;> first | rfl | cases h9)
            have := grow hsub (sml_sbs (sbs_or2 h2 (hin.tr him)) hW) hne
            show k + 1 + 1 ≤ cnt (hs (B ||| (im f F &&& (B ^^^ -n32 1)))) 24
            omega)
  have e1 : loopF (fX5_goOnOften_l9 x rec u a s W d) (s, s, 0) = some e := e1
  unfold fX5_goOnOften
  rw [e1, some_bind, rep_im hW hs9 q1 q2 q3]
/-- the step below all the steps of the kind MANY that lie over one another -/
theorem c_once (hp : RPc x u c h) (hW : sml W) {D : Nat → Int32} {a : Nat} (ha : a < c) : ∃ b, b ≤ a ∧ fX5_once x u (n32 a) = some (n32 b) ∧ ∀ s, sbs s W → im (rep (rels x u W K D c b) W) s = im (rep (rels x u W K D c a) W) s := by
  have hc := hp.1
  obtain ⟨e, e1, b, hb, eb, hv⟩ := loop_gen (step := fX5_once_l4 x u (n32 a)) 12 (fun k e => e.2 = n32 k ∧ ∃ b, b + k ≤ a ∧ e.1 = n32 b ∧ ∀ s, sbs s W → im (rep (rels x u W K D c b) W) s = im (rep (rels x u W K D c a) W) s) (Q := fun e => ∃ b, b ≤ a ∧ e.1 = n32 b ∧ ∀ s, sbs s W → im (rep (rels x u W K D c b) W) s = im (rep (rels x u W K D c a) W) s) (x0 := (n32 a, n32 0))
    ⟨rfl, a, Nat.le_refl _, rfl, fun _ _ => rfl⟩
    (fun k e hk he => by
      obtain ⟨F, j⟩ := e
      obtain ⟨hj, b, hba, hF, hv⟩ := he
      have hj : j = n32 k := hj
      have hF : F = n32 b := hF
      subst hj
      subst hF
      obtain ⟨q1, q2, q3, q4, -, -, -, q8, -⟩ := RPc_at hp (show b < c by omega)
      by_cases k5 : kq x u b = 5
      · have hlt := stk_lt (List.mem_of_getElem? (q8 k5))
        have er : rels x u W K D c b = rep (rels x u W K D c (lf x u b)) W := funext fun n => by
          rw [← rels_fin x u W K D (Nat.lt_succ_self b) (show b + 1 ≤ c by omega), rels_at]
          unfold stR
          rw [if_neg (by omega), if_neg (by omega), if_pos k5, rels_fin x u W K D hlt (show b ≤ c by omega)]
        refine Or.inr ⟨by omega, (n32 (lf x u b), n32 (k + 1)), ?_, rfl, lf x u b, by omega, rfl, fun s hs9 => ?_⟩
        · unfold fX5_once_l4
          simp (disch := omega) only [eq_self, n_le, n_lt, n_inj, n_nat, gd_in, n_add, bi_z, bi_1, gd_bi, n_nonneg,  some_bind, lt_e, lit_NV, if_true, if_false, ite_true, ite_false, Option.bind_some, not_true, not_false_iff, lit_0, lit_1, lit_2, lit_3, lit_4, lit_5, lit_6, lit_7, lit_8, lit_12, lit_24, lit_25, lit_30, lit_60, lit_63, lit_96, lit_100, lit_512, lit_240, show ¬ 12 ≤ k by omega, q1, q3, k5]
        · rw [← hv s hs9, er, rep_rep hW hs9]
      · refine Or.inl ⟨(n32 b, n32 k), ?_, b, by omega, rfl, hv⟩
        unfold fX5_once_l4
        simp (disch := omega) only [eq_self, n_le, n_lt, n_inj, n_nat, gd_in, n_add, bi_z, bi_1, gd_bi, n_nonneg,  some_bind, lt_e, lit_NV, if_true, if_false, ite_true, ite_false, Option.bind_some, not_true, not_false_iff, lit_0, lit_1, lit_2, lit_3, lit_4, lit_5, lit_6, lit_7, lit_8, lit_12, lit_24, lit_25, lit_30, lit_60, lit_63, lit_96, lit_100, lit_512, lit_240, show ¬ 12 ≤ k by omega, q1, k5])
  have e1 : loopF (fX5_once_l4 x u (n32 a)) (n32 a, 0) = some e := e1
  refine ⟨b, hb, ?_, hv⟩
  unfold fX5_once
  rw [e1, some_bind, eb]
theorem c_goOnFrom (hR : RN N x y) (hK : KnC x K) (hp : RPc x u c h) (hW : sml W) : ∀ (fuel i d : Nat) (s : Int32), i < fuel → i < c → d + i ≤ 11 → sbs s W → fX5_goOnFrom fuel x u (n32 i) s W (n32 d) = some (im (rels x u W K (fun l => lbd N x (n32 l)) c i) s)
  | 0, i, _, _, hi, _, _, _ => absurd hi (Nat.not_lt_zero i)
  | fuel + 1, i, d, s, hi, hic, hd, hs9 => by
    have hc := hp.1
    obtain ⟨q1, q2, q3, q4, q5, q6, q7, q8, q9⟩ := RPc_at hp hic
    have ih := c_goOnFrom hR hK hp hW fuel
    have hin : ∀ j n, sbs (rels x u W K (fun l => lbd N x (n32 l)) c j n) W := fun j n => rels_in _ _ _ _ _ _ _ _
    have e9 : ∀ n, rels x u W K (fun l => lbd N x (n32 l)) c i n = stR x u W K (fun l => lbd N x (n32 l)) (rels x u W K (fun l => lbd N x (n32 l)) i) i n := fun n => by
      rw [← rels_fin x u W K (fun l => lbd N x (n32 l)) (Nat.lt_succ_self i) (show i + 1 ≤ c by omega), rels_at]
    have low : ∀ j, j < i → rels x u W K (fun l => lbd N x (n32 l)) i j = rels x u W K (fun l => lbd N x (n32 l)) c j := fun j hj => rels_fin x u W K _ hj (by omega)
    have him : ∀ g : Nat → Int32, (∀ n, rels x u W K (fun l => lbd N x (n32 l)) c i n = g n) → im (rels x u W K (fun l => lbd N x (n32 l)) c i) s = im g s := fun g hg => by
      rw [show rels x u W K (fun l => lbd N x (n32 l)) c i = g from funext hg]
    show fX5_goOnFromB x (fX5_goOnFrom fuel) u (n32 i) s W (n32 d) = _
    unfold fX5_goOnFromB fX5_goOnFrom_j11
    by_cases h0 : s = n32 0
    · subst h0
      rw [im_0]
      simp (disch := omega) only [eq_self, n_le, n_lt, n_inj, n_nat, gd_in, n_add, bi_z, bi_1, gd_bi, n_nonneg,  some_bind, lt_e, lit_NV, if_true, if_false, ite_true, ite_false, Option.bind_some, not_true, not_false_iff, lit_0, lit_1, lit_2, lit_3, lit_4, lit_5, lit_6, lit_7, lit_8, lit_12, lit_24, lit_25, lit_30, lit_60, lit_63, lit_96, lit_100, lit_512, lit_240, show ¬ 12 < d by omega]
    · by_cases k3 : kq x u i = 3
      · obtain ⟨m1, m2⟩ := q9 (Or.inl k3)
        have ha := stk_lt (List.mem_of_getElem? m2)
        have hb := stk_lt (List.mem_of_getElem? m1)
        have r1 := ih (lf x u i) (d + 1) s (by omega) (by omega) (by omega) hs9
        have r2 := ih (rt x u i) (d + 1) (im (rels x u W K (fun l => lbd N x (n32 l)) c (lf x u i)) s) (by omega) (by omega) (by omega) (sbs_gat fun n _ => hin _ n)
        have hv : im (rels x u W K (fun l => lbd N x (n32 l)) c (rt x u i)) (im (rels x u W K (fun l => lbd N x (n32 l)) c (lf x u i)) s) = im (rels x u W K (fun l => lbd N x (n32 l)) c i) s := by
          rw [him (fun n => im (rels x u W K (fun l => lbd N x (n32 l)) c (rt x u i)) (rels x u W K (fun l => lbd N x (n32 l)) c (lf x u i) n)) (fun n => by
            rw [e9]
            unfold stR
            rw [if_pos k3, low _ ha, low _ hb]
            rfl)]
          refine hs_ext fun b hb9 => ?_
          rw [Bool.eq_iff_iff, hs_im, hs_im]
          constructor
          · rintro ⟨m, hm, z1, z2⟩
            obtain ⟨n, hn, z3, z4⟩ := hs_im.mp z1
            exact ⟨n, hn, z3, hs_im.mpr ⟨m, hm, z4, z2⟩⟩
          · rintro ⟨n, hn, z1, z2⟩
            obtain ⟨m, hm, z3, z4⟩ := hs_im.mp z2
            exact ⟨m, hm, hs_im.mpr ⟨n, hn, z1, z3⟩, z4⟩
        rw [← hv]
        simp (disch := omega) only [eq_self, n_le, n_lt, n_inj, n_nat, gd_in, n_add, bi_z, bi_1, gd_bi, n_nonneg,  some_bind, lt_e, lit_NV, if_true, if_false, ite_true, ite_false, Option.bind_some, not_true, not_false_iff, lit_0, lit_1, lit_2, lit_3, lit_4, lit_5, lit_6, lit_7, lit_8, lit_12, lit_24, lit_25, lit_30, lit_60, lit_63, lit_96, lit_100, lit_512, lit_240, show ¬ 12 < d by omega, h0, q1, q3, q5, k3, r1, r2]
      · by_cases k4 : kq x u i = 4
        · obtain ⟨m1, m2⟩ := q9 (Or.inr k4)
          have ha := stk_lt (List.mem_of_getElem? m2)
          have hb := stk_lt (List.mem_of_getElem? m1)
          have r1 := ih (lf x u i) (d + 1) s (by omega) (by omega) (by omega) hs9
          have r2 := ih (rt x u i) (d + 1) s (by omega) (by omega) (by omega) hs9
          have hv : im (rels x u W K (fun l => lbd N x (n32 l)) c (lf x u i)) s ||| im (rels x u W K (fun l => lbd N x (n32 l)) c (rt x u i)) s = im (rels x u W K (fun l => lbd N x (n32 l)) c i) s := by
            rw [him (fun n => rels x u W K (fun l => lbd N x (n32 l)) c (lf x u i) n ||| rels x u W K (fun l => lbd N x (n32 l)) c (rt x u i) n) (fun n => by
              rw [e9]
              unfold stR
              rw [if_neg k3, if_pos k4, low _ ha, low _ hb])]
            refine hs_ext fun b hb9 => ?_
            rw [Bool.eq_iff_iff, hs_or, Bool.or_eq_true, hs_im, hs_im, hs_im]
            constructor
            · rintro (⟨n, hn, z1, z2⟩ | ⟨n, hn, z1, z2⟩)
              · exact ⟨n, hn, z1, by rw [hs_or, z2, Bool.true_or]⟩
              · exact ⟨n, hn, z1, by rw [hs_or, z2, Bool.or_true]⟩
            · rintro ⟨n, hn, z1, z2⟩
              rw [hs_or, Bool.or_eq_true] at z2
              rcases z2 with z2 | z2
              · exact Or.inl ⟨n, hn, z1, z2⟩
              · exact Or.inr ⟨n, hn, z1, z2⟩
          rw [← hv]
          simp (disch := omega) only [eq_self, n_le, n_lt, n_inj, n_nat, gd_in, n_add, bi_z, bi_1, gd_bi, n_nonneg,  some_bind, lt_e, lit_NV, if_true, if_false, ite_true, ite_false, Option.bind_some, not_true, not_false_iff, lit_0, lit_1, lit_2, lit_3, lit_4, lit_5, lit_6, lit_7, lit_8, lit_12, lit_24, lit_25, lit_30, lit_60, lit_63, lit_96, lit_100, lit_512, lit_240, show ¬ 12 < d by omega, h0, q1, q3, q5, k3, k4, show ¬ 4 = 3 by omega, r1, r2]
        · by_cases k5 : kq x u i = 5
          · have ha := stk_lt (List.mem_of_getElem? (q8 k5))
            obtain ⟨b, hb, r0, hr⟩ := c_once (K := K) (D := fun l => lbd N x (n32 l)) hp hW (show lf x u i < c by omega)
            have r1 := c_often (x := x) (u := u) (rec := fX5_goOnFrom fuel) (f := rels x u W K (fun l => lbd N x (n32 l)) c b) (a := n32 b) (d := n32 (d + 1)) hW (hin _) (fun t ht => ih b (d + 1) t (by omega) (by omega) (by omega) ht) hs9
            rw [hr s hs9] at r1
            have hv : im (rep (rels x u W K (fun l => lbd N x (n32 l)) c (lf x u i)) W) s = im (rels x u W K (fun l => lbd N x (n32 l)) c i) s := by
              rw [him (rep (rels x u W K (fun l => lbd N x (n32 l)) c (lf x u i)) W) (fun n => by
                rw [e9]
                unfold stR
                rw [if_neg k3, if_neg k4, if_pos k5, low _ ha])]
            rw [← hv]
            simp (disch := omega) only [eq_self, n_le, n_lt, n_inj, n_nat, gd_in, n_add, bi_z, bi_1, gd_bi, n_nonneg,  some_bind, lt_e, lit_NV, if_true, if_false, ite_true, ite_false, Option.bind_some, not_true, not_false_iff, lit_0, lit_1, lit_2, lit_3, lit_4, lit_5, lit_6, lit_7, lit_8, lit_12, lit_24, lit_25, lit_30, lit_60, lit_63, lit_96, lit_100, lit_512, lit_240, show ¬ 12 < d by omega, h0, q1, q3, q5, k3, k4, k5, show ¬ 5 = 3 by omega, show ¬ 5 = 4 by omega, r0, r1]
          · have r1 := c_goOne hR (FRx.rf x) hK hp hic (show kq x u i < 3 by omega) s
            have hv := one_im (K := K) (D := fun l => lbd N x (n32 l)) hW hs9 (q := kq x u i) (l := kb x u i)
            rw [him (fun n => one K (fun l => lbd N x (n32 l)) (kq x u i) (kb x u i) (bit1 n &&& W) &&& W) (fun n => by
              rw [e9]
              unfold stR
              rw [if_neg k3, if_neg k4, if_neg k5]), ← hv]
            simp (disch := omega) only [eq_self, n_le, n_lt, n_inj, n_nat, gd_in, n_add, bi_z, bi_1, gd_bi, n_nonneg,  some_bind, lt_e, lit_NV, if_true, if_false, ite_true, ite_false, Option.bind_some, not_true, not_false_iff, lit_0, lit_1, lit_2, lit_3, lit_4, lit_5, lit_6, lit_7, lit_8, lit_12, lit_24, lit_25, lit_30, lit_60, lit_63, lit_96, lit_100, lit_512, lit_240, show ¬ 12 < d by omega, h0, q1, q3, q5, k3, k4, k5, r1]
end GOON
theorem owes_26 : owes fLaw_c26 := fun c x y v p1 p2 p3 p4 h hc => by
  obtain ⟨N, E, T, P, R, hT, -, h2, h3, h4, h5, h6, h7, h8, h9, h10, h11, h12, h13, h14, h15⟩ := id h
  have hN := h2.1
  refine law_I (Q := fun x' y' => Rel (c + 1) x' y') ?_
  obtain ⟨Pc, hPc, g1, g2, g3, -, -⟩ := id h13
  unfold fL_answerAnew fX10_answerAnew fX11_answerAnew fX11_answerAnew_j15
  rw [c_reqPattern hPc g1, r_isAsked h2 hPc g2]
  cases w1 : bw Pc p1
  · exact ⟨1, x, v, 0, th y 1, rfl, rfl, rfl, fun h => absurd h (by decide), Rel_th h hc 1⟩
  rw [c_reqNode h2.2.1 hN]
  cases w2 : nd N x p2
  · exact ⟨1, x, v, 0, th y 1, rfl, rfl, rfl, fun h => absurd h (by decide), Rel_th h hc 1⟩
  obtain ⟨u, hu, rfl⟩ := bw_ex (by omega) w1
  obtain ⟨n, hn, rfl, -⟩ := nd_ex hN w2
  obtain ⟨d, hp, h33, hst⟩ := g3 u hu
  have hd0 := RPc_len hp
  have hd := hp.1
  have e1 := c_goOnFrom (W := rc false N x) h2 (RF_K h12) hp (rc_sml hN) 14 (d - 1) 0 (bit1 n &&& rc false N x) (by omega) (by omega) (by omega) (sbs_and2 _ _)
  have e3 : im (rels x u (rc false N x) (kno R E x) (fun l => lbd N x (n32 l)) d (d - 1)) (bit1 n &&& rc false N x) = rels x u (rc false N x) (kno R E x) (fun l => lbd N x (n32 l)) d (d - 1) n := by
    have hst9 := start_in (u := rc false N x) (k := n) (by omega)
    rw [← hst9]
    cases hq : hs (rc false N x) n
    · rw [rels_zero x u _ _ _ hq (by omega)]
      exact im_0 _
    · refine hs_ext fun i hi => ?_
      rw [Bool.eq_iff_iff, hs_im]
      constructor
      · rintro ⟨m, hm, z1, z2⟩
        rw [← hs_one (by omega) (by omega) z1]
        exact z2
      · intro z
        exact ⟨n, by omega, hs_own (by omega), z⟩
  rw [e3] at e1
  obtain ⟨w, e2, f2, r2⟩ := r_lays (RN_th (c := n32 0) h2) (RE_th h3) (RM_th h5) (RR_th h11) hp (by omega) ((th_ne (by omega)).trans h33) (fun i hi => by rw [th_ne (by omega), th_ne (by omega)]; exact hst i hi) false
  refine ⟨0, x, (rels x u (rc false N x) (kno R E x) (fun l => lbd N x (n32 l)) d (d - 1) n).toInt64, rels x u (rc false N x) (kno R E x) (fun l => lbd N x (n32 l)) d (d - 1) n, w, ?_, ?_, ?_, fun _ => rfl, Rel_R4 h hc (FRx.rf x) f2⟩
  · unfold fX5_goOn
    simp (disch := omega) only [eq_self, n_le, n_lt, n_inj, n_nat, gd_in, n_add, bi_z, bi_1, gd_bi, n_nonneg,  some_bind, lt_e, lit_NV, if_true, if_false, ite_true, ite_false, Option.bind_some, not_true, not_false_iff, lit_0, lit_1, lit_2, lit_3, lit_4, lit_5, lit_6, lit_7, lit_8, lit_12, lit_24, lit_25, lit_30, lit_60, lit_63, lit_96, lit_100, lit_512, lit_240, Sum.elim_inl, c_reach h2 h5, gd_t, hp.2.1, show ¬ d = 0 by omega, c_bit]
    rw [n_dec (by omega) (by omega)]
    have e1 : fX5_goOnFrom 14 x u (n32 (d - 1)) (bit1 n &&& rc false N x) (rc false N x) (n32 0) = _ := e1
    simp (disch := omega) only [eq_self, n_le, n_lt, n_inj, n_nat, gd_in, n_add, bi_z, bi_1, gd_bi, n_nonneg,  some_bind, lt_e, lit_NV, if_true, if_false, ite_true, ite_false, Option.bind_some, not_true, not_false_iff, lit_0, lit_1, lit_2, lit_3, lit_4, lit_5, lit_6, lit_7, lit_8, lit_12, lit_24, lit_25, lit_30, lit_60, lit_63, lit_96, lit_100, lit_512, lit_240, e1, Sum.elim_inl]
  · have e2 : fX11_lays (th y (n32 0)) (n32 u) (n32 0) = some w := e2
    have r2 := r2 n (by omega)
    rw [show 24 * 0 + n = n by omega] at r2
    simp (disch := omega) only [eq_self, n_le, n_lt, n_inj, n_nat, gd_in, n_add, bi_z, bi_1, gd_bi, n_nonneg,  some_bind, lt_e, lit_NV, if_true, if_false, ite_true, ite_false, Option.bind_some, not_true, not_false_iff, lit_0, lit_1, lit_2, lit_3, lit_4, lit_5, lit_6, lit_7, lit_8, lit_12, lit_24, lit_25, lit_30, lit_60, lit_63, lit_96, lit_100, lit_512, lit_240, Bool.and_true, Bool.true_eq_false, r_fails0, e2, r2]
  · rw [f2 _ _ (by omega)]
    rfl
