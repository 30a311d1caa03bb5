noncomputable def fL_node (σ : St) (v : Int64) (a1 : Int32) (a2 : Int32) : Option (Int32 × LX) :=
  (fX10_node σ a1 a2).bind fun z => Sum.elim (fun w => some ((0 : Int32), w.2, w.1.toInt64)) (fun n => if n.1 = 0 then some ((1 : Int32), n.2, v) else if n.1 = 2 then some ((2 : Int32), n.2, v) else none) z
noncomputable def fL_edge (σ : St) (v : Int64) (a1 : Int32) (a2 : Int32) (a3 : Int32) : Option (Int32 × LX) :=
  (fX10_edge σ a1 a2 a3).bind fun z => Sum.elim (fun w => some ((0 : Int32), w.2, w.1.toInt64)) (fun n => if n.1 = 0 then some ((1 : Int32), n.2, v) else if n.1 = 2 then some ((2 : Int32), n.2, v) else none) z
noncomputable def fL_set (σ : St) (v : Int64) (a1 : Int32) (a2 : Int32) : Option (Int32 × LX) :=
  (fX10_set σ a1 a2).bind fun z => Sum.elim (fun w => some ((0 : Int32), w.2, w.1.toInt64)) (fun n => if n.1 = 0 then some ((1 : Int32), n.2, v) else if n.1 = 2 then some ((2 : Int32), n.2, v) else none) z
noncomputable def fL_dropEdge (σ : St) (v : Int64) (a1 : Int32) : Option (Int32 × LX) :=
  (fX10_dropEdge σ a1).bind fun z => Sum.elim (fun w => some ((0 : Int32), w.2, w.1.toInt64)) (fun n => if n.1 = 0 then some ((1 : Int32), n.2, v) else none) z
noncomputable def fL_dropNode (σ : St) (v : Int64) (a1 : Int32) : Option (Int32 × LX) :=
  (fX10_dropNode σ a1).bind fun z => Sum.elim (fun w => some ((0 : Int32), w.2, w.1.toInt64)) (fun n => if n.1 = 0 then some ((1 : Int32), n.2, v) else none) z
noncomputable def fL_key (σ : St) (v : Int64) (a1 : Int32) : Option (Int32 × LX) :=
  (fX10_key σ a1).bind fun z => Sum.elim (fun w => if w.1 = 0 then some ((0 : Int32), w.2, (0 : Int64)) else some ((0 : Int32), w.2, (1 : Int64))) (fun n => if n.1 = 0 then some ((1 : Int32), n.2, v) else if n.1 = 2 then some ((2 : Int32), n.2, v) else none) z
noncomputable def fL_shape (σ : St) (v : Int64) (a1 : Int32) (a2 : Int32) (a3 : Int32) : Option (Int32 × LX) :=
  (fX10_shape σ a1 a2 a3).bind fun z => Sum.elim (fun w => some ((0 : Int32), w, v)) (fun n => if n.1 = 0 then some ((1 : Int32), n.2, v) else if n.1 = 2 then some ((2 : Int32), n.2, v) else none) z
noncomputable def fL_move (σ : St) (v : Int64) (a1 : Int32) (a2 : Int32) : Option (Int32 × LX) :=
  (fX10_move σ a1 a2).bind fun z => Sum.elim (fun w => some ((0 : Int32), w.2, w.1.toInt64)) (fun n => if n.1 = 0 then some ((1 : Int32), n.2, v) else if n.1 = 2 then some ((2 : Int32), n.2, v) else none) z
noncomputable def fL_toggle (σ : St) (v : Int64) (a1 : Int32) : Option (Int32 × LX) :=
  (fX10_toggle σ a1).bind fun z => Sum.elim (fun w => if w.1 = 0 then some ((0 : Int32), w.2, (0 : Int64)) else some ((0 : Int32), w.2, (1 : Int64))) (fun n => if n.1 = 0 then some ((1 : Int32), n.2, v) else none) z
noncomputable def fL_machine (σ : St) (v : Int64) (a1 : Int32) : Option (Int32 × LX) :=
  (fX10_machine σ a1).bind fun z => Sum.elim (fun w => some ((0 : Int32), σ, w.toInt64)) (fun n => if n = 0 then some ((1 : Int32), σ, v) else none) z
noncomputable def fL_copies (σ : St) (v : Int64) (a1 : Int32) : Option (Int32 × LX) :=
  (fX10_copies σ a1).bind fun z => Sum.elim (fun w => some ((0 : Int32), σ, w.toInt64)) (fun n => if n = 0 then some ((1 : Int32), σ, v) else none) z
noncomputable def fL_begin (σ : St) (v : Int64) : Option (Int32 × LX) :=
  (fX10_begin σ).bind fun z => Sum.elim (fun w => some ((0 : Int32), w.2, w.1.toInt64)) (fun n => if n.1 = 2 then some ((1 : Int32), n.2, v) else none) z
noncomputable def fL_write (σ : St) (v : Int64) (a1 : Int32) (a2 : Int32) (a3 : Int32) : Option (Int32 × LX) :=
  (fX10_write σ a1 a2 a3).bind fun z => Sum.elim (fun w => some ((0 : Int32), w, v)) (fun n => if n.1 = 0 then some ((1 : Int32), n.2, v) else none) z
noncomputable def fL_link (σ : St) (v : Int64) (a1 : Int32) (a2 : Int32) (a3 : Int32) (a4 : Int32) : Option (Int32 × LX) :=
  (fX10_link σ a1 a2 a3 a4).bind fun z => Sum.elim (fun w => some ((0 : Int32), w.2, w.1.toInt64)) (fun n => if n.1 = 0 then some ((1 : Int32), n.2, v) else if n.1 = 2 then some ((2 : Int32), n.2, v) else none) z
noncomputable def fL_unlink (σ : St) (v : Int64) (a1 : Int32) (a2 : Int32) : Option (Int32 × LX) :=
  (fX10_unlink σ a1 a2).bind fun z => Sum.elim (fun w => some ((0 : Int32), w, v)) (fun n => if n.1 = 0 then some ((1 : Int32), n.2, v) else none) z
noncomputable def fL_read (σ : St) (v : Int64) (a1 : Int32) (a2 : Int32) : Option (Int32 × LX) :=
  (fX10_read σ a1 a2).bind fun z => Sum.elim (fun w => some ((0 : Int32), σ, w.toInt64)) (fun n => if n = 0 then some ((1 : Int32), σ, v) else none) z
noncomputable def fL_sees (σ : St) (v : Int64) (a1 : Int32) (a2 : Int32) : Option (Int32 × LX) :=
  (fX10_sees σ a1 a2).bind fun z => Sum.elim (fun w => some ((0 : Int32), σ, w.toInt64)) (fun n => if n = 0 then some ((1 : Int32), σ, v) else none) z
noncomputable def fL_commit (σ : St) (v : Int64) (a1 : Int32) (a2 : Int32) : Option (Int32 × LX) :=
  (fX10_commit σ a1 a2).bind fun z => Sum.elim (fun w => some ((0 : Int32), w.2, w.1.toInt64)) (fun n => if n.1 = 0 then some ((1 : Int32), n.2, v) else none) z
noncomputable def fL_valueAt (σ : St) (v : Int64) (a1 : Int32) (a2 : Int32) : Option (Int32 × LX) :=
  (fX10_valueAt σ a1 a2).bind fun z => Sum.elim (fun w => some ((0 : Int32), σ, w.toInt64)) (fun n => if n = 0 then some ((1 : Int32), σ, v) else if n = 1 then some ((2 : Int32), σ, v) else none) z
noncomputable def fL_sizeAt (σ : St) (v : Int64) (a1 : Int32) : Option (Int32 × LX) :=
  (fX10_sizeAt σ a1).bind fun z => Sum.elim (fun w => some ((0 : Int32), σ, w.toInt64)) (fun n => if n = 1 then some ((1 : Int32), σ, v) else none) z
noncomputable def fL_step (σ : St) (v : Int64) (a1 : Int32) (a2 : Int32) : Option (Int32 × LX) :=
  (fX10_step σ a1 a2).bind fun z => Sum.elim (fun w => some ((0 : Int32), w.2, w.1.toInt64)) (fun n => if n.1 = 0 then some ((1 : Int32), n.2, v) else if n.1 = 1 then some ((2 : Int32), n.2, v) else if n.1 = 2 then some ((3 : Int32), n.2, v) else none) z
noncomputable def fL_pattern (σ : St) (v : Int64) : Option (Int32 × LX) :=
  (fX10_pattern σ).bind fun z => Sum.elim (fun w => some ((0 : Int32), w.2, w.1.toInt64)) (fun n => if n.1 = 2 then some ((1 : Int32), n.2, v) else none) z
noncomputable def fL_answer (σ : St) (v : Int64) (a1 : Int32) (a2 : Int32) : Option (Int32 × LX) :=
  (fX10_answer σ a1 a2).bind fun z => Sum.elim (fun w => some ((0 : Int32), w.2, w.1.toInt64)) (fun n => if n.1 = 0 then some ((1 : Int32), n.2, v) else none) z
noncomputable def fL_answerAnew (σ : St) (v : Int64) (a1 : Int32) (a2 : Int32) : Option (Int32 × LX) :=
  (fX10_answerAnew σ a1 a2).bind fun z => Sum.elim (fun w => some ((0 : Int32), σ, w.toInt64)) (fun n => if n = 0 then some ((1 : Int32), σ, v) else none) z
noncomputable def fL_pairs (σ : St) (v : Int64) (a1 : Int32) : Option (Int32 × LX) :=
  (fX10_pairs σ a1).bind fun z => Sum.elim (fun w => some ((0 : Int32), w.2, w.1.toInt64)) (fun n => if n.1 = 0 then some ((1 : Int32), n.2, v) else none) z
noncomputable def fL_isWhole (σ : St) (v : Int64) (a1 : Int32) (a2 : Int32) : Option (Int32 × LX) :=
  (fX10_isWhole σ a1 a2).bind fun z => Sum.elim (fun w => if w.1 = 0 then some ((0 : Int32), w.2, (0 : Int64)) else some ((0 : Int32), w.2, (1 : Int64))) (fun n => if n.1 = 0 then some ((1 : Int32), n.2, v) else none) z
noncomputable def fL_rule (σ : St) (v : Int64) (a1 : Int32) (a2 : Int32) (a3 : Int32) : Option (Int32 × LX) :=
  (fX10_rule σ a1 a2 a3).bind fun z => Sum.elim (fun w => some ((0 : Int32), w.2, w.1.toInt64)) (fun n => if n.1 = 0 then some ((1 : Int32), n.2, v) else if n.1 = 2 then some ((2 : Int32), n.2, v) else none) z
noncomputable def fL_dropRule (σ : St) (v : Int64) (a1 : Int32) : Option (Int32 × LX) :=
  (fX10_dropRule σ a1).bind fun z => Sum.elim (fun w => some ((0 : Int32), w.2, w.1.toInt64)) (fun n => if n.1 = 0 then some ((1 : Int32), n.2, v) else none) z
noncomputable def fL_reasons (σ : St) (v : Int64) (a1 : Int32) (a2 : Int32) (a3 : Int32) : Option (Int32 × LX) :=
  (fX10_reasons σ a1 a2 a3).bind fun z => Sum.elim (fun w => some ((0 : Int32), σ, w.toInt64)) (fun n => if n = 0 then some ((1 : Int32), σ, v) else none) z
noncomputable def fL_walk (σ : St) (v : Int64) (a1 : Int32) (a2 : Int32) : Option (Int32 × LX) :=
  (fX10_walk σ a1 a2).bind fun z => Sum.elim (fun w => some ((0 : Int32), σ, w.toInt64)) (fun n => if n = 0 then some ((1 : Int32), σ, v) else if n = 1 then some ((2 : Int32), σ, v) else none) z
noncomputable def fL_crossings (σ : St) (v : Int64) (a1 : Int32) (a2 : Int32) : Option (Int32 × LX) :=
  (fX10_crossings σ a1 a2).bind fun z => Sum.elim (fun w => some ((0 : Int32), σ, w.toInt64)) (fun n => if n = 0 then some ((1 : Int32), σ, v) else if n = 1 then some ((2 : Int32), σ, v) else none) z
noncomputable def fL_round (σ : St) (v : Int64) (a1 : Int32) : Option (Int32 × LX) :=
  (fX10_round σ a1).bind fun z => Sum.elim (fun w => some ((0 : Int32), w.2, w.1.toInt64)) (fun n => if n.1 = 1 then some ((1 : Int32), n.2, v) else none) z
noncomputable def fL_mark (σ : St) (v : Int64) (a1 : Int32) : Option (Int32 × LX) :=
  (fX10_mark σ a1).bind fun z => Sum.elim (fun w => some ((0 : Int32), σ, w.toInt64)) (fun n => if n = 0 then some ((1 : Int32), σ, v) else none) z
noncomputable def fL_least (σ : St) (v : Int64) (a1 : Int32) : Option (Int32 × LX) :=
  (fX10_least σ a1).bind fun z => Sum.elim (fun w => some ((0 : Int32), σ, w.toInt64)) (fun n => if n = 0 then some ((1 : Int32), σ, v) else none) z
set_option maxHeartbeats 4000000 in
theorem ct_L_node {l : Launch} (hl : l.stackTraces = false) {D : DD} {base B Bo : Nat} (hbs : base ≤ B) (hBo : B + 121 ≤ Bo) {σ : St} {v : Int64} {a1 : Int32} {a2 : Int32} {r : Int32 × LX} (h : fL_node σ v a1 a2 = some r) : MetH l D B Bo base yL_node cL_node 5 [(0, 10, 13, 13), (0, 10, 17, 15)] 8 134 2 12 [.ref (B + 0), .int a1, .int a2, .ref Bo] (σ, v) r.1 r.2 := by
  unfold fL_node at h
  obtain ⟨z, hz, h⟩ := bind_some h
  refine MetH.of (by decide +kernel) (fun v hv => by simp only [List.mem_cons, List.not_mem_nil, or_false] at hv; rcases hv with rfl | rfl | rfl | rfl <;> rfl) (Nat.le_of_ble_eq_true rfl) hbs hBo fun p e s m args below meth c hF hr hT hNc => ?_
  refine k_aload_n hF dL_node_0 rfl ?_
  refine k_iconst hF dL_node_1 ci_0 ?_
  refine k_aload_n hF dL_node_2 rfl ?_
  refine k_iload_n hF dL_node_3 rfl ?_
  refine k_iload_n hF dL_node_4 rfl ?_
  rcases z with w | n
  · dsimp only [Sum.elim_inl] at h
    cases h
    refine kh_V_r hF hBo 0 0 (as := [.int a1, .int a2]) (ct_X10_node hl hbs hz) mv_L_7 shC_0 rfl rfl rfl (by decide) (Nat.le_of_ble_eq_true rfl) dL_node_5 (by decide) (by decide) ?_
    refine k_st (st2 := [.int w.1, .int (0 : Int32), .ref Bo]) rfl ?_
    refine k_i2l hF dL_node_8 ?_
    refine kh_last hF hBo dL_node_9 ?_
    refine k_goto hF (tgt := 21) dL_node_10 (by decide) ?_
    refine k_iconst hF dL_node_21 ci_0 ?_
    exact kh_ret hF hr dL_node_22
  · dsimp only [Sum.elim_inr] at h
    by_cases e0 : n.1 = 0
    · replace h := ite_t e0 h
      cases h
      replace hz : fX10_node σ a1 a2 = some (Sum.inr (0, n.2)) := by rw [hz, ← e0]
      refine kh_V_x hF hNc hBo hT [] (0, 10, 13, 13) [(0, 10, 17, 15)] rfl (k := 0) (by decide) (fun z hz => nomatch hz) ⟨by decide, by decide⟩ (by decide) cl_L_13 cast_0 0 0 (as := [.int a1, .int a2]) (ct_X10_node hl hbs hz) mv_L_7 shC_0 rfl rfl rfl (by decide) (Nat.le_of_ble_eq_true rfl) dL_node_5 (by decide) (by decide) fun q => ?_
      refine k_astore hF (L' := [some (.ref (B + 0)), some (.int a1), some (.int a2), some (.ref Bo), some (.ref q)]) dL_node_13 (by decide) rfl ?_
      refine k_iconst hF dL_node_15 ci_1 ?_
      exact kh_ret hF hr dL_node_16
    · replace h := ite_f e0 h
      by_cases e1 : n.1 = 2
      · replace h := ite_t e1 h
        cases h
        replace hz : fX10_node σ a1 a2 = some (Sum.inr (2, n.2)) := by rw [hz, ← e1]
        refine kh_V_x hF hNc hBo hT [(0, 10, 13, 13)] (0, 10, 17, 15) [] rfl (k := 2) (by decide) (hpass_1_2_0_13 (by decide)) ⟨by decide, by decide⟩ (by decide) cl_L_15 cast_2 0 0 (as := [.int a1, .int a2]) (ct_X10_node hl hbs hz) mv_L_7 shC_0 rfl rfl rfl (by decide) (Nat.le_of_ble_eq_true rfl) dL_node_5 (by decide) (by decide) fun q => ?_
        refine k_astore hF (L' := [some (.ref (B + 0)), some (.int a1), some (.int a2), some (.ref Bo), some (.ref q)]) dL_node_17 (by decide) rfl ?_
        refine k_iconst hF dL_node_19 ci_2 ?_
        exact kh_ret hF hr dL_node_20
      · replace h := ite_f e1 h
        cases h
set_option maxHeartbeats 4000000 in
theorem ct_L_edge {l : Launch} (hl : l.stackTraces = false) {D : DD} {base B Bo : Nat} (hbs : base ≤ B) (hBo : B + 121 ≤ Bo) {σ : St} {v : Int64} {a1 : Int32} {a2 : Int32} {a3 : Int32} {r : Int32 × LX} (h : fL_edge σ v a1 a2 a3 = some r) : MetH l D B Bo base yL_edge cL_edge 6 [(0, 12, 15, 13), (0, 12, 19, 15)] 8 135 4 24 [.ref (B + 0), .int a1, .int a2, .int a3, .ref Bo] (σ, v) r.1 r.2 := by
  unfold fL_edge at h
  obtain ⟨z, hz, h⟩ := bind_some h
  refine MetH.of (by decide +kernel) (fun v hv => by simp only [List.mem_cons, List.not_mem_nil, or_false] at hv; rcases hv with rfl | rfl | rfl | rfl | rfl <;> rfl) (Nat.le_of_ble_eq_true rfl) hbs hBo fun p e s m args below meth c hF hr hT hNc => ?_
  refine k_aload hF dL_edge_0 rfl ?_
  refine k_iconst hF dL_edge_2 ci_0 ?_
  refine k_aload_n hF dL_edge_3 rfl ?_
  refine k_iload_n hF dL_edge_4 rfl ?_
  refine k_iload_n hF dL_edge_5 rfl ?_
  refine k_iload_n hF dL_edge_6 rfl ?_
  rcases z with w | n
  · dsimp only [Sum.elim_inl] at h
    cases h
    refine kh_V_r hF hBo 0 0 (as := [.int a1, .int a2, .int a3]) (ct_X10_edge hl hbs hz) mv_L_17 shC_0 rfl rfl rfl (by decide) (Nat.le_of_ble_eq_true rfl) dL_edge_7 (by decide) (by decide) ?_
    refine k_st (st2 := [.int w.1, .int (0 : Int32), .ref Bo]) rfl ?_
    refine k_i2l hF dL_edge_10 ?_
    refine kh_last hF hBo dL_edge_11 ?_
    refine k_goto hF (tgt := 23) dL_edge_12 (by decide) ?_
    refine k_iconst hF dL_edge_23 ci_0 ?_
    exact kh_ret hF hr dL_edge_24
  · dsimp only [Sum.elim_inr] at h
    by_cases e0 : n.1 = 0
    · replace h := ite_t e0 h
      cases h
      replace hz : fX10_edge σ a1 a2 a3 = some (Sum.inr (0, n.2)) := by rw [hz, ← e0]
      refine kh_V_x hF hNc hBo hT [] (0, 12, 15, 13) [(0, 12, 19, 15)] rfl (k := 0) (by decide) (fun z hz => nomatch hz) ⟨by decide, by decide⟩ (by decide) cl_L_13 cast_0 0 0 (as := [.int a1, .int a2, .int a3]) (ct_X10_edge hl hbs hz) mv_L_17 shC_0 rfl rfl rfl (by decide) (Nat.le_of_ble_eq_true rfl) dL_edge_7 (by decide) (by decide) fun q => ?_
      refine k_astore hF (L' := [some (.ref (B + 0)), some (.int a1), some (.int a2), some (.int a3), some (.ref Bo), some (.ref q)]) dL_edge_15 (by decide) rfl ?_
      refine k_iconst hF dL_edge_17 ci_1 ?_
      exact kh_ret hF hr dL_edge_18
    · replace h := ite_f e0 h
      by_cases e1 : n.1 = 2
      · replace h := ite_t e1 h
        cases h
        replace hz : fX10_edge σ a1 a2 a3 = some (Sum.inr (2, n.2)) := by rw [hz, ← e1]
        refine kh_V_x hF hNc hBo hT [(0, 12, 15, 13)] (0, 12, 19, 15) [] rfl (k := 2) (by decide) (hpass_1_2_0_13 (by decide)) ⟨by decide, by decide⟩ (by decide) cl_L_15 cast_2 0 0 (as := [.int a1, .int a2, .int a3]) (ct_X10_edge hl hbs hz) mv_L_17 shC_0 rfl rfl rfl (by decide) (Nat.le_of_ble_eq_true rfl) dL_edge_7 (by decide) (by decide) fun q => ?_
        refine k_astore hF (L' := [some (.ref (B + 0)), some (.int a1), some (.int a2), some (.int a3), some (.ref Bo), some (.ref q)]) dL_edge_19 (by decide) rfl ?_
        refine k_iconst hF dL_edge_21 ci_2 ?_
        exact kh_ret hF hr dL_edge_22
      · replace h := ite_f e1 h
        cases h
set_option maxHeartbeats 4000000 in
theorem ct_L_set {l : Launch} (hl : l.stackTraces = false) {D : DD} {base B Bo : Nat} (hbs : base ≤ B) (hBo : B + 121 ≤ Bo) {σ : St} {v : Int64} {a1 : Int32} {a2 : Int32} {r : Int32 × LX} (h : fL_set σ v a1 a2 = some r) : MetH l D B Bo base yL_set cL_set 5 [(0, 10, 13, 13), (0, 10, 17, 15)] 8 134 2 12 [.ref (B + 0), .int a1, .int a2, .ref Bo] (σ, v) r.1 r.2 := by
  unfold fL_set at h
  obtain ⟨z, hz, h⟩ := bind_some h
  refine MetH.of (by decide +kernel) (fun v hv => by simp only [List.mem_cons, List.not_mem_nil, or_false] at hv; rcases hv with rfl | rfl | rfl | rfl <;> rfl) (Nat.le_of_ble_eq_true rfl) hbs hBo fun p e s m args below meth c hF hr hT hNc => ?_
  refine k_aload_n hF dL_set_0 rfl ?_
  refine k_iconst hF dL_set_1 ci_0 ?_
  refine k_aload_n hF dL_set_2 rfl ?_
  refine k_iload_n hF dL_set_3 rfl ?_
  refine k_iload_n hF dL_set_4 rfl ?_
  rcases z with w | n
  · dsimp only [Sum.elim_inl] at h
    cases h
    refine kh_V_r hF hBo 0 0 (as := [.int a1, .int a2]) (ct_X10_set hl hbs hz) mv_L_21 shC_0 rfl rfl rfl (by decide) (Nat.le_of_ble_eq_true rfl) dL_set_5 (by decide) (by decide) ?_
    refine k_st (st2 := [.int w.1, .int (0 : Int32), .ref Bo]) rfl ?_
    refine k_i2l hF dL_set_8 ?_
    refine kh_last hF hBo dL_set_9 ?_
    refine k_goto hF (tgt := 21) dL_set_10 (by decide) ?_
    refine k_iconst hF dL_set_21 ci_0 ?_
    exact kh_ret hF hr dL_set_22
  · dsimp only [Sum.elim_inr] at h
    by_cases e0 : n.1 = 0
    · replace h := ite_t e0 h
      cases h
      replace hz : fX10_set σ a1 a2 = some (Sum.inr (0, n.2)) := by rw [hz, ← e0]
      refine kh_V_x hF hNc hBo hT [] (0, 10, 13, 13) [(0, 10, 17, 15)] rfl (k := 0) (by decide) (fun z hz => nomatch hz) ⟨by decide, by decide⟩ (by decide) cl_L_13 cast_0 0 0 (as := [.int a1, .int a2]) (ct_X10_set hl hbs hz) mv_L_21 shC_0 rfl rfl rfl (by decide) (Nat.le_of_ble_eq_true rfl) dL_set_5 (by decide) (by decide) fun q => ?_
      refine k_astore hF (L' := [some (.ref (B + 0)), some (.int a1), some (.int a2), some (.ref Bo), some (.ref q)]) dL_set_13 (by decide) rfl ?_
      refine k_iconst hF dL_set_15 ci_1 ?_
      exact kh_ret hF hr dL_set_16
    · replace h := ite_f e0 h
      by_cases e1 : n.1 = 2
      · replace h := ite_t e1 h
        cases h
        replace hz : fX10_set σ a1 a2 = some (Sum.inr (2, n.2)) := by rw [hz, ← e1]
        refine kh_V_x hF hNc hBo hT [(0, 10, 13, 13)] (0, 10, 17, 15) [] rfl (k := 2) (by decide) (hpass_1_2_0_13 (by decide)) ⟨by decide, by decide⟩ (by decide) cl_L_15 cast_2 0 0 (as := [.int a1, .int a2]) (ct_X10_set hl hbs hz) mv_L_21 shC_0 rfl rfl rfl (by decide) (Nat.le_of_ble_eq_true rfl) dL_set_5 (by decide) (by decide) fun q => ?_
        refine k_astore hF (L' := [some (.ref (B + 0)), some (.int a1), some (.int a2), some (.ref Bo), some (.ref q)]) dL_set_17 (by decide) rfl ?_
        refine k_iconst hF dL_set_19 ci_2 ?_
        exact kh_ret hF hr dL_set_20
      · replace h := ite_f e1 h
        cases h
set_option maxHeartbeats 4000000 in
theorem ct_L_dropEdge {l : Launch} (hl : l.stackTraces = false) {D : DD} {base B Bo : Nat} (hbs : base ≤ B) (hBo : B + 121 ≤ Bo) {σ : St} {v : Int64} {a1 : Int32} {r : Int32 × LX} (h : fL_dropEdge σ v a1 = some r) : MetH l D B Bo base yL_dropEdge cL_dropEdge 4 [(0, 9, 12, 13)] 8 133 1 6 [.ref (B + 0), .int a1, .ref Bo] (σ, v) r.1 r.2 := by
  unfold fL_dropEdge at h
  obtain ⟨z, hz, h⟩ := bind_some h
  refine MetH.of (by decide +kernel) (fun v hv => by simp only [List.mem_cons, List.not_mem_nil, or_false] at hv; rcases hv with rfl | rfl | rfl <;> rfl) (Nat.le_of_ble_eq_true rfl) hbs hBo fun p e s m args below meth c hF hr hT hNc => ?_
  refine k_aload_n hF dL_dropEdge_0 rfl ?_
  refine k_iconst hF dL_dropEdge_1 ci_0 ?_
  refine k_aload_n hF dL_dropEdge_2 rfl ?_
  refine k_iload_n hF dL_dropEdge_3 rfl ?_
  rcases z with w | n
  · dsimp only [Sum.elim_inl] at h
    cases h
    refine kh_V_r hF hBo 0 0 (as := [.int a1]) (ct_X10_dropEdge hl hbs hz) mv_L_24 shC_0 rfl rfl rfl (by decide) (Nat.le_of_ble_eq_true rfl) dL_dropEdge_4 (by decide) (by decide) ?_
    refine k_st (st2 := [.int w.1, .int (0 : Int32), .ref Bo]) rfl ?_
    refine k_i2l hF dL_dropEdge_7 ?_
    refine kh_last hF hBo dL_dropEdge_8 ?_
    refine k_goto hF (tgt := 15) dL_dropEdge_9 (by decide) ?_
    refine k_iconst hF dL_dropEdge_15 ci_0 ?_
    exact kh_ret hF hr dL_dropEdge_16
  · dsimp only [Sum.elim_inr] at h
    by_cases e0 : n.1 = 0
    · replace h := ite_t e0 h
      cases h
      replace hz : fX10_dropEdge σ a1 = some (Sum.inr (0, n.2)) := by rw [hz, ← e0]
      refine kh_V_x hF hNc hBo hT [] (0, 9, 12, 13) [] rfl (k := 0) (by decide) (fun z hz => nomatch hz) ⟨by decide, by decide⟩ (by decide) cl_L_13 cast_0 0 0 (as := [.int a1]) (ct_X10_dropEdge hl hbs hz) mv_L_24 shC_0 rfl rfl rfl (by decide) (Nat.le_of_ble_eq_true rfl) dL_dropEdge_4 (by decide) (by decide) fun q => ?_
      refine k_astore_n hF (L' := [some (.ref (B + 0)), some (.int a1), some (.ref Bo), some (.ref q)]) dL_dropEdge_12 (by decide) rfl ?_
      refine k_iconst hF dL_dropEdge_13 ci_1 ?_
      exact kh_ret hF hr dL_dropEdge_14
    · replace h := ite_f e0 h
      cases h
set_option maxHeartbeats 4000000 in
theorem ct_L_dropNode {l : Launch} (hl : l.stackTraces = false) {D : DD} {base B Bo : Nat} (hbs : base ≤ B) (hBo : B + 121 ≤ Bo) {σ : St} {v : Int64} {a1 : Int32} {r : Int32 × LX} (h : fL_dropNode σ v a1 = some r) : MetH l D B Bo base yL_dropNode cL_dropNode 4 [(0, 9, 12, 13)] 8 135 1 6 [.ref (B + 0), .int a1, .ref Bo] (σ, v) r.1 r.2 := by
  unfold fL_dropNode at h
  obtain ⟨z, hz, h⟩ := bind_some h
  refine MetH.of (by decide +kernel) (fun v hv => by simp only [List.mem_cons, List.not_mem_nil, or_false] at hv; rcases hv with rfl | rfl | rfl <;> rfl) (Nat.le_of_ble_eq_true rfl) hbs hBo fun p e s m args below meth c hF hr hT hNc => ?_
  refine k_aload_n hF dL_dropNode_0 rfl ?_
  refine k_iconst hF dL_dropNode_1 ci_0 ?_
  refine k_aload_n hF dL_dropNode_2 rfl ?_
  refine k_iload_n hF dL_dropNode_3 rfl ?_
  rcases z with w | n
  · dsimp only [Sum.elim_inl] at h
    cases h
    refine kh_V_r hF hBo 0 0 (as := [.int a1]) (ct_X10_dropNode hl hbs hz) mv_L_28 shC_0 rfl rfl rfl (by decide) (Nat.le_of_ble_eq_true rfl) dL_dropNode_4 (by decide) (by decide) ?_
    refine k_st (st2 := [.int w.1, .int (0 : Int32), .ref Bo]) rfl ?_
    refine k_i2l hF dL_dropNode_7 ?_
    refine kh_last hF hBo dL_dropNode_8 ?_
    refine k_goto hF (tgt := 15) dL_dropNode_9 (by decide) ?_
    refine k_iconst hF dL_dropNode_15 ci_0 ?_
    exact kh_ret hF hr dL_dropNode_16
  · dsimp only [Sum.elim_inr] at h
    by_cases e0 : n.1 = 0
    · replace h := ite_t e0 h
      cases h
      replace hz : fX10_dropNode σ a1 = some (Sum.inr (0, n.2)) := by rw [hz, ← e0]
      refine kh_V_x hF hNc hBo hT [] (0, 9, 12, 13) [] rfl (k := 0) (by decide) (fun z hz => nomatch hz) ⟨by decide, by decide⟩ (by decide) cl_L_13 cast_0 0 0 (as := [.int a1]) (ct_X10_dropNode hl hbs hz) mv_L_28 shC_0 rfl rfl rfl (by decide) (Nat.le_of_ble_eq_true rfl) dL_dropNode_4 (by decide) (by decide) fun q => ?_
      refine k_astore_n hF (L' := [some (.ref (B + 0)), some (.int a1), some (.ref Bo), some (.ref q)]) dL_dropNode_12 (by decide) rfl ?_
      refine k_iconst hF dL_dropNode_13 ci_1 ?_
      exact kh_ret hF hr dL_dropNode_14
    · replace h := ite_f e0 h
      cases h
set_option maxHeartbeats 4000000 in
theorem ct_L_key {l : Launch} (hl : l.stackTraces = false) {D : DD} {base B Bo : Nat} (hbs : base ≤ B) (hBo : B + 121 ≤ Bo) {σ : St} {v : Int64} {a1 : Int32} {r : Int32 × LX} (h : fL_key σ v a1 = some r) : MetH l D B Bo base yL_key cL_key 4 [(0, 16, 19, 13), (0, 16, 22, 15)] 8 131 2 12 [.ref (B + 0), .int a1, .ref Bo] (σ, v) r.1 r.2 := by
  unfold fL_key at h
  obtain ⟨z, hz, h⟩ := bind_some h
  refine MetH.of (by decide +kernel) (fun v hv => by simp only [List.mem_cons, List.not_mem_nil, or_false] at hv; rcases hv with rfl | rfl | rfl <;> rfl) (Nat.le_of_ble_eq_true rfl) hbs hBo fun p e s m args below meth c hF hr hT hNc => ?_
  refine k_aload_n hF dL_key_0 rfl ?_
  refine k_iconst hF dL_key_1 ci_0 ?_
  refine k_aload_n hF dL_key_2 rfl ?_
  refine k_iload_n hF dL_key_3 rfl ?_
  rcases z with w | n
  · dsimp only [Sum.elim_inl] at h
    refine kh_V_r hF hBo 0 0 (as := [.int a1]) (ct_X10_key hl hbs hz) mv_L_31 shC_0 rfl rfl rfl (by decide) (Nat.le_of_ble_eq_true rfl) dL_key_4 (by decide) (by decide) ?_
    refine k_st (st2 := [.int w.1, .int (0 : Int32), .ref Bo]) rfl ?_
    by_cases c1 : w.1 = 0
    · replace h := ite_t c1 h
      cases h
      refine k_if_eq hF (tgt := 14) dL_key_7 (by decide) (fun _ => ?_) (fun c => absurd c1 c)
      refine k_lconst hF (v := (0 : Int64)) dL_key_14 (by decide) ?_
      refine kh_last hF hBo dL_key_15 ?_
      refine k_goto hF (tgt := 25) dL_key_16 (by decide) ?_
      refine k_iconst hF dL_key_25 ci_0 ?_
      exact kh_ret hF hr dL_key_26
    · replace h := ite_f c1 h
      cases h
      refine k_if_eq hF (tgt := 14) dL_key_7 (by decide) (fun c => absurd c c1) (fun _ => ?_)
      refine k_lconst hF (v := (1 : Int64)) dL_key_10 (by decide) ?_
      refine k_goto hF (tgt := 15) dL_key_11 (by decide) ?_
      refine kh_last hF hBo dL_key_15 ?_
      refine k_goto hF (tgt := 25) dL_key_16 (by decide) ?_
      refine k_iconst hF dL_key_25 ci_0 ?_
      exact kh_ret hF hr dL_key_26
  · dsimp only [Sum.elim_inr] at h
    by_cases e0 : n.1 = 0
    · replace h := ite_t e0 h
      cases h
      replace hz : fX10_key σ a1 = some (Sum.inr (0, n.2)) := by rw [hz, ← e0]
      refine kh_V_x hF hNc hBo hT [] (0, 16, 19, 13) [(0, 16, 22, 15)] rfl (k := 0) (by decide) (fun z hz => nomatch hz) ⟨by decide, by decide⟩ (by decide) cl_L_13 cast_0 0 0 (as := [.int a1]) (ct_X10_key hl hbs hz) mv_L_31 shC_0 rfl rfl rfl (by decide) (Nat.le_of_ble_eq_true rfl) dL_key_4 (by decide) (by decide) fun q => ?_
      refine k_astore_n hF (L' := [some (.ref (B + 0)), some (.int a1), some (.ref Bo), some (.ref q)]) dL_key_19 (by decide) rfl ?_
      refine k_iconst hF dL_key_20 ci_1 ?_
      exact kh_ret hF hr dL_key_21
    · replace h := ite_f e0 h
      by_cases e1 : n.1 = 2
      · replace h := ite_t e1 h
        cases h
        replace hz : fX10_key σ a1 = some (Sum.inr (2, n.2)) := by rw [hz, ← e1]
        refine kh_V_x hF hNc hBo hT [(0, 16, 19, 13)] (0, 16, 22, 15) [] rfl (k := 2) (by decide) (hpass_1_2_0_13 (by decide)) ⟨by decide, by decide⟩ (by decide) cl_L_15 cast_2 0 0 (as := [.int a1]) (ct_X10_key hl hbs hz) mv_L_31 shC_0 rfl rfl rfl (by decide) (Nat.le_of_ble_eq_true rfl) dL_key_4 (by decide) (by decide) fun q => ?_
        refine k_astore_n hF (L' := [some (.ref (B + 0)), some (.int a1), some (.ref Bo), some (.ref q)]) dL_key_22 (by decide) rfl ?_
        refine k_iconst hF dL_key_23 ci_2 ?_
        exact kh_ret hF hr dL_key_24
      · replace h := ite_f e1 h
        cases h
set_option maxHeartbeats 4000000 in
theorem ct_L_shape {l : Launch} (hl : l.stackTraces = false) {D : DD} {base B Bo : Nat} (hbs : base ≤ B) (hBo : B + 121 ≤ Bo) {σ : St} {v : Int64} {a1 : Int32} {a2 : Int32} {a3 : Int32} {r : Int32 × LX} (h : fL_shape σ v a1 a2 a3 = some r) : MetH l D B Bo base yL_shape cL_shape 5 [(0, 7, 10, 13), (0, 7, 14, 15)] 8 133 4 24 [.ref (B + 0), .int a1, .int a2, .int a3] (σ, v) r.1 r.2 := by
  unfold fL_shape at h
  obtain ⟨z, hz, h⟩ := bind_some h
  refine MetH.of (by decide +kernel) (fun v hv => by simp only [List.mem_cons, List.not_mem_nil, or_false] at hv; rcases hv with rfl | rfl | rfl | rfl <;> rfl) (Nat.le_of_ble_eq_true rfl) hbs hBo fun p e s m args below meth c hF hr hT hNc => ?_
  refine k_aload_n hF dL_shape_0 rfl ?_
  refine k_iload_n hF dL_shape_1 rfl ?_
  refine k_iload_n hF dL_shape_2 rfl ?_
  refine k_iload_n hF dL_shape_3 rfl ?_
  rcases z with w | n
  · dsimp only [Sum.elim_inl] at h
    cases h
    refine kh_V_r hF hBo 0 0 (as := [.int a1, .int a2, .int a3]) (ct_X10_shape hl hbs hz) mv_L_35 shC_0 rfl rfl rfl (by decide) (Nat.le_of_ble_eq_true rfl) dL_shape_4 (by decide) (by decide) ?_
    refine k_st (st2 := []) rfl ?_
    refine k_goto hF (tgt := 18) dL_shape_7 (by decide) ?_
    refine k_iconst hF dL_shape_18 ci_0 ?_
    exact kh_ret hF hr dL_shape_19
  · dsimp only [Sum.elim_inr] at h
    by_cases e0 : n.1 = 0
    · replace h := ite_t e0 h
      cases h
      replace hz : fX10_shape σ a1 a2 a3 = some (Sum.inr (0, n.2)) := by rw [hz, ← e0]
      refine kh_V_x hF hNc hBo hT [] (0, 7, 10, 13) [(0, 7, 14, 15)] rfl (k := 0) (by decide) (fun z hz => nomatch hz) ⟨by decide, by decide⟩ (by decide) cl_L_13 cast_0 0 0 (as := [.int a1, .int a2, .int a3]) (ct_X10_shape hl hbs hz) mv_L_35 shC_0 rfl rfl rfl (by decide) (Nat.le_of_ble_eq_true rfl) dL_shape_4 (by decide) (by decide) fun q => ?_
      refine k_astore hF (L' := [some (.ref (B + 0)), some (.int a1), some (.int a2), some (.int a3), some (.ref q)]) dL_shape_10 (by decide) rfl ?_
      refine k_iconst hF dL_shape_12 ci_1 ?_
      exact kh_ret hF hr dL_shape_13
    · replace h := ite_f e0 h
      by_cases e1 : n.1 = 2
      · replace h := ite_t e1 h
        cases h
        replace hz : fX10_shape σ a1 a2 a3 = some (Sum.inr (2, n.2)) := by rw [hz, ← e1]
        refine kh_V_x hF hNc hBo hT [(0, 7, 10, 13)] (0, 7, 14, 15) [] rfl (k := 2) (by decide) (hpass_1_2_0_13 (by decide)) ⟨by decide, by decide⟩ (by decide) cl_L_15 cast_2 0 0 (as := [.int a1, .int a2, .int a3]) (ct_X10_shape hl hbs hz) mv_L_35 shC_0 rfl rfl rfl (by decide) (Nat.le_of_ble_eq_true rfl) dL_shape_4 (by decide) (by decide) fun q => ?_
        refine k_astore hF (L' := [some (.ref (B + 0)), some (.int a1), some (.int a2), some (.int a3), some (.ref q)]) dL_shape_14 (by decide) rfl ?_
        refine k_iconst hF dL_shape_16 ci_2 ?_
        exact kh_ret hF hr dL_shape_17
      · replace h := ite_f e1 h
        cases h
set_option maxHeartbeats 4000000 in
theorem ct_L_move {l : Launch} (hl : l.stackTraces = false) {D : DD} {base B Bo : Nat} (hbs : base ≤ B) (hBo : B + 121 ≤ Bo) {σ : St} {v : Int64} {a1 : Int32} {a2 : Int32} {r : Int32 × LX} (h : fL_move σ v a1 a2 = some r) : MetH l D B Bo base yL_move cL_move 5 [(0, 10, 13, 13), (0, 10, 17, 15)] 8 134 3 18 [.ref (B + 0), .int a1, .int a2, .ref Bo] (σ, v) r.1 r.2 := by
  unfold fL_move at h
  obtain ⟨z, hz, h⟩ := bind_some h
  refine MetH.of (by decide +kernel) (fun v hv => by simp only [List.mem_cons, List.not_mem_nil, or_false] at hv; rcases hv with rfl | rfl | rfl | rfl <;> rfl) (Nat.le_of_ble_eq_true rfl) hbs hBo fun p e s m args below meth c hF hr hT hNc => ?_
  refine k_aload_n hF dL_move_0 rfl ?_
  refine k_iconst hF dL_move_1 ci_0 ?_
  refine k_aload_n hF dL_move_2 rfl ?_
  refine k_iload_n hF dL_move_3 rfl ?_
  refine k_iload_n hF dL_move_4 rfl ?_
  rcases z with w | n
  · dsimp only [Sum.elim_inl] at h
    cases h
    refine kh_V_r hF hBo 0 0 (as := [.int a1, .int a2]) (ct_X10_move hl hbs hz) mv_L_39 shC_0 rfl rfl rfl (by decide) (Nat.le_of_ble_eq_true rfl) dL_move_5 (by decide) (by decide) ?_
    refine k_st (st2 := [.int w.1, .int (0 : Int32), .ref Bo]) rfl ?_
    refine k_i2l hF dL_move_8 ?_
    refine kh_last hF hBo dL_move_9 ?_
    refine k_goto hF (tgt := 21) dL_move_10 (by decide) ?_
    refine k_iconst hF dL_move_21 ci_0 ?_
    exact kh_ret hF hr dL_move_22
  · dsimp only [Sum.elim_inr] at h
    by_cases e0 : n.1 = 0
    · replace h := ite_t e0 h
      cases h
      replace hz : fX10_move σ a1 a2 = some (Sum.inr (0, n.2)) := by rw [hz, ← e0]
      refine kh_V_x hF hNc hBo hT [] (0, 10, 13, 13) [(0, 10, 17, 15)] rfl (k := 0) (by decide) (fun z hz => nomatch hz) ⟨by decide, by decide⟩ (by decide) cl_L_13 cast_0 0 0 (as := [.int a1, .int a2]) (ct_X10_move hl hbs hz) mv_L_39 shC_0 rfl rfl rfl (by decide) (Nat.le_of_ble_eq_true rfl) dL_move_5 (by decide) (by decide) fun q => ?_
      refine k_astore hF (L' := [some (.ref (B + 0)), some (.int a1), some (.int a2), some (.ref Bo), some (.ref q)]) dL_move_13 (by decide) rfl ?_
      refine k_iconst hF dL_move_15 ci_1 ?_
      exact kh_ret hF hr dL_move_16
    · replace h := ite_f e0 h
      by_cases e1 : n.1 = 2
      · replace h := ite_t e1 h
        cases h
        replace hz : fX10_move σ a1 a2 = some (Sum.inr (2, n.2)) := by rw [hz, ← e1]
        refine kh_V_x hF hNc hBo hT [(0, 10, 13, 13)] (0, 10, 17, 15) [] rfl (k := 2) (by decide) (hpass_1_2_0_13 (by decide)) ⟨by decide, by decide⟩ (by decide) cl_L_15 cast_2 0 0 (as := [.int a1, .int a2]) (ct_X10_move hl hbs hz) mv_L_39 shC_0 rfl rfl rfl (by decide) (Nat.le_of_ble_eq_true rfl) dL_move_5 (by decide) (by decide) fun q => ?_
        refine k_astore hF (L' := [some (.ref (B + 0)), some (.int a1), some (.int a2), some (.ref Bo), some (.ref q)]) dL_move_17 (by decide) rfl ?_
        refine k_iconst hF dL_move_19 ci_2 ?_
        exact kh_ret hF hr dL_move_20
      · replace h := ite_f e1 h
        cases h
set_option maxHeartbeats 4000000 in
theorem ct_L_toggle {l : Launch} (hl : l.stackTraces = false) {D : DD} {base B Bo : Nat} (hbs : base ≤ B) (hBo : B + 121 ≤ Bo) {σ : St} {v : Int64} {a1 : Int32} {r : Int32 × LX} (h : fL_toggle σ v a1 = some r) : MetH l D B Bo base yL_toggle cL_toggle 4 [(0, 16, 19, 13)] 8 131 1 6 [.ref (B + 0), .int a1, .ref Bo] (σ, v) r.1 r.2 := by
  unfold fL_toggle at h
  obtain ⟨z, hz, h⟩ := bind_some h
  refine MetH.of (by decide +kernel) (fun v hv => by simp only [List.mem_cons, List.not_mem_nil, or_false] at hv; rcases hv with rfl | rfl | rfl <;> rfl) (Nat.le_of_ble_eq_true rfl) hbs hBo fun p e s m args below meth c hF hr hT hNc => ?_
  refine k_aload_n hF dL_toggle_0 rfl ?_
  refine k_iconst hF dL_toggle_1 ci_0 ?_
  refine k_aload_n hF dL_toggle_2 rfl ?_
  refine k_iload_n hF dL_toggle_3 rfl ?_
  rcases z with w | n
  · dsimp only [Sum.elim_inl] at h
    refine kh_V_r hF hBo 0 0 (as := [.int a1]) (ct_X10_toggle hl hbs hz) mv_L_42 shC_0 rfl rfl rfl (by decide) (Nat.le_of_ble_eq_true rfl) dL_toggle_4 (by decide) (by decide) ?_
    refine k_st (st2 := [.int w.1, .int (0 : Int32), .ref Bo]) rfl ?_
    by_cases c1 : w.1 = 0
    · replace h := ite_t c1 h
      cases h
      refine k_if_eq hF (tgt := 14) dL_toggle_7 (by decide) (fun _ => ?_) (fun c => absurd c1 c)
      refine k_lconst hF (v := (0 : Int64)) dL_toggle_14 (by decide) ?_
      refine kh_last hF hBo dL_toggle_15 ?_
      refine k_goto hF (tgt := 22) dL_toggle_16 (by decide) ?_
      refine k_iconst hF dL_toggle_22 ci_0 ?_
      exact kh_ret hF hr dL_toggle_23
    · replace h := ite_f c1 h
      cases h
      refine k_if_eq hF (tgt := 14) dL_toggle_7 (by decide) (fun c => absurd c c1) (fun _ => ?_)
      refine k_lconst hF (v := (1 : Int64)) dL_toggle_10 (by decide) ?_
      refine k_goto hF (tgt := 15) dL_toggle_11 (by decide) ?_
      refine kh_last hF hBo dL_toggle_15 ?_
      refine k_goto hF (tgt := 22) dL_toggle_16 (by decide) ?_
      refine k_iconst hF dL_toggle_22 ci_0 ?_
      exact kh_ret hF hr dL_toggle_23
  · dsimp only [Sum.elim_inr] at h
    by_cases e0 : n.1 = 0
    · replace h := ite_t e0 h
      cases h
      replace hz : fX10_toggle σ a1 = some (Sum.inr (0, n.2)) := by rw [hz, ← e0]
      refine kh_V_x hF hNc hBo hT [] (0, 16, 19, 13) [] rfl (k := 0) (by decide) (fun z hz => nomatch hz) ⟨by decide, by decide⟩ (by decide) cl_L_13 cast_0 0 0 (as := [.int a1]) (ct_X10_toggle hl hbs hz) mv_L_42 shC_0 rfl rfl rfl (by decide) (Nat.le_of_ble_eq_true rfl) dL_toggle_4 (by decide) (by decide) fun q => ?_
      refine k_astore_n hF (L' := [some (.ref (B + 0)), some (.int a1), some (.ref Bo), some (.ref q)]) dL_toggle_19 (by decide) rfl ?_
      refine k_iconst hF dL_toggle_20 ci_1 ?_
      exact kh_ret hF hr dL_toggle_21
    · replace h := ite_f e0 h
      cases h
set_option maxHeartbeats 4000000 in
theorem ct_L_machine {l : Launch} (hl : l.stackTraces = false) {D : DD} {base B Bo : Nat} (hbs : base ≤ B) (hBo : B + 121 ≤ Bo) {σ : St} {v : Int64} {a1 : Int32} {r : Int32 × LX} (h : fL_machine σ v a1 = some r) : MetH l D B Bo base yL_machine cL_machine 4 [(0, 9, 12, 13)] 8 132 1 6 [.ref (B + 0), .int a1, .ref Bo] (σ, v) r.1 r.2 := by
  unfold fL_machine at h
  obtain ⟨z, hz, h⟩ := bind_some h
  refine MetH.of (by decide +kernel) (fun v hv => by simp only [List.mem_cons, List.not_mem_nil, or_false] at hv; rcases hv with rfl | rfl | rfl <;> rfl) (Nat.le_of_ble_eq_true rfl) hbs hBo fun p e s m args below meth c hF hr hT hNc => ?_
  refine k_aload_n hF dL_machine_0 rfl ?_
  refine k_iconst hF dL_machine_1 ci_0 ?_
  refine k_aload_n hF dL_machine_2 rfl ?_
  refine k_iload_n hF dL_machine_3 rfl ?_
  rcases z with w | n
  · dsimp only [Sum.elim_inl] at h
    cases h
    refine kh_V_r hF hBo 0 0 (as := [.int a1]) (ct_X10_machine hl hbs hz) mv_L_45 shC_0 rfl rfl rfl (by decide) (Nat.le_of_ble_eq_true rfl) dL_machine_4 (by decide) (by decide) ?_
    refine k_st (st2 := [.int w, .int (0 : Int32), .ref Bo]) rfl ?_
    refine k_i2l hF dL_machine_7 ?_
    refine kh_last hF hBo dL_machine_8 ?_
    refine k_goto hF (tgt := 15) dL_machine_9 (by decide) ?_
    refine k_iconst hF dL_machine_15 ci_0 ?_
    exact kh_ret hF hr dL_machine_16
  · dsimp only [Sum.elim_inr] at h
    by_cases e0 : n = 0
    · replace h := ite_t e0 h
      cases h
      replace hz : fX10_machine σ a1 = some (Sum.inr 0) := by rw [hz, ← e0]
      refine kh_V_x hF hNc hBo hT [] (0, 9, 12, 13) [] rfl (k := 0) (by decide) (fun z hz => nomatch hz) ⟨by decide, by decide⟩ (by decide) cl_L_13 cast_0 0 0 (as := [.int a1]) (ct_X10_machine hl hbs hz) mv_L_45 shC_0 rfl rfl rfl (by decide) (Nat.le_of_ble_eq_true rfl) dL_machine_4 (by decide) (by decide) fun q => ?_
      refine k_astore_n hF (L' := [some (.ref (B + 0)), some (.int a1), some (.ref Bo), some (.ref q)]) dL_machine_12 (by decide) rfl ?_
      refine k_iconst hF dL_machine_13 ci_1 ?_
      exact kh_ret hF hr dL_machine_14
    · replace h := ite_f e0 h
      cases h
set_option maxHeartbeats 4000000 in
theorem ct_L_copies {l : Launch} (hl : l.stackTraces = false) {D : DD} {base B Bo : Nat} (hbs : base ≤ B) (hBo : B + 121 ≤ Bo) {σ : St} {v : Int64} {a1 : Int32} {r : Int32 × LX} (h : fL_copies σ v a1 = some r) : MetH l D B Bo base yL_copies cL_copies 4 [(0, 9, 12, 13)] 8 131 1 6 [.ref (B + 0), .int a1, .ref Bo] (σ, v) r.1 r.2 := by
  unfold fL_copies at h
  obtain ⟨z, hz, h⟩ := bind_some h
  refine MetH.of (by decide +kernel) (fun v hv => by simp only [List.mem_cons, List.not_mem_nil, or_false] at hv; rcases hv with rfl | rfl | rfl <;> rfl) (Nat.le_of_ble_eq_true rfl) hbs hBo fun p e s m args below meth c hF hr hT hNc => ?_
  refine k_aload_n hF dL_copies_0 rfl ?_
  refine k_iconst hF dL_copies_1 ci_0 ?_
  refine k_aload_n hF dL_copies_2 rfl ?_
  refine k_iload_n hF dL_copies_3 rfl ?_
  rcases z with w | n
  · dsimp only [Sum.elim_inl] at h
    cases h
    refine kh_V_r hF hBo 0 0 (as := [.int a1]) (ct_X10_copies hl hbs hz) mv_L_48 shC_0 rfl rfl rfl (by decide) (Nat.le_of_ble_eq_true rfl) dL_copies_4 (by decide) (by decide) ?_
    refine k_st (st2 := [.int w, .int (0 : Int32), .ref Bo]) rfl ?_
    refine k_i2l hF dL_copies_7 ?_
    refine kh_last hF hBo dL_copies_8 ?_
    refine k_goto hF (tgt := 15) dL_copies_9 (by decide) ?_
    refine k_iconst hF dL_copies_15 ci_0 ?_
    exact kh_ret hF hr dL_copies_16
  · dsimp only [Sum.elim_inr] at h
    by_cases e0 : n = 0
    · replace h := ite_t e0 h
      cases h
      replace hz : fX10_copies σ a1 = some (Sum.inr 0) := by rw [hz, ← e0]
      refine kh_V_x hF hNc hBo hT [] (0, 9, 12, 13) [] rfl (k := 0) (by decide) (fun z hz => nomatch hz) ⟨by decide, by decide⟩ (by decide) cl_L_13 cast_0 0 0 (as := [.int a1]) (ct_X10_copies hl hbs hz) mv_L_48 shC_0 rfl rfl rfl (by decide) (Nat.le_of_ble_eq_true rfl) dL_copies_4 (by decide) (by decide) fun q => ?_
      refine k_astore_n hF (L' := [some (.ref (B + 0)), some (.int a1), some (.ref Bo), some (.ref q)]) dL_copies_12 (by decide) rfl ?_
      refine k_iconst hF dL_copies_13 ci_1 ?_
      exact kh_ret hF hr dL_copies_14
    · replace h := ite_f e0 h
      cases h
set_option maxHeartbeats 4000000 in
theorem ct_L_begin {l : Launch} (hl : l.stackTraces = false) {D : DD} {base B Bo : Nat} (hbs : base ≤ B) (hBo : B + 121 ≤ Bo) {σ : St} {v : Int64} {r : Int32 × LX} (h : fL_begin σ v = some r) : MetH l D B Bo base yL_begin cL_begin 3 [(0, 8, 11, 15)] 7 111 1 6 [.ref (B + 0), .ref Bo] (σ, v) r.1 r.2 := by
  unfold fL_begin at h
  obtain ⟨z, hz, h⟩ := bind_some h
  refine MetH.of (by decide +kernel) (fun v hv => by simp only [List.mem_cons, List.not_mem_nil, or_false] at hv; rcases hv with rfl | rfl <;> rfl) (Nat.le_of_ble_eq_true rfl) hbs hBo fun p e s m args below meth c hF hr hT hNc => ?_
  refine k_aload_n hF dL_begin_0 rfl ?_
  refine k_iconst hF dL_begin_1 ci_0 ?_
  refine k_aload_n hF dL_begin_2 rfl ?_
  rcases z with w | n
  · dsimp only [Sum.elim_inl] at h
    cases h
    refine kh_V_r hF hBo 0 0 (as := []) (ct_X10_begin hl hbs hz) mv_L_51 shC_0 rfl rfl rfl (by decide) (Nat.le_of_ble_eq_true rfl) dL_begin_3 (by decide) (by decide) ?_
    refine k_st (st2 := [.int w.1, .int (0 : Int32), .ref Bo]) rfl ?_
    refine k_i2l hF dL_begin_6 ?_
    refine kh_last hF hBo dL_begin_7 ?_
    refine k_goto hF (tgt := 14) dL_begin_8 (by decide) ?_
    refine k_iconst hF dL_begin_14 ci_0 ?_
    exact kh_ret hF hr dL_begin_15
  · dsimp only [Sum.elim_inr] at h
    by_cases e0 : n.1 = 2
    · replace h := ite_t e0 h
      cases h
      replace hz : fX10_begin σ = some (Sum.inr (2, n.2)) := by rw [hz, ← e0]
      refine kh_V_x hF hNc hBo hT [] (0, 8, 11, 15) [] rfl (k := 2) (by decide) (fun z hz => nomatch hz) ⟨by decide, by decide⟩ (by decide) cl_L_15 cast_2 0 0 (as := []) (ct_X10_begin hl hbs hz) mv_L_51 shC_0 rfl rfl rfl (by decide) (Nat.le_of_ble_eq_true rfl) dL_begin_3 (by decide) (by decide) fun q => ?_
      refine k_astore_n hF (L' := [some (.ref (B + 0)), some (.ref Bo), some (.ref q)]) dL_begin_11 (by decide) rfl ?_
      refine k_iconst hF dL_begin_12 ci_1 ?_
      exact kh_ret hF hr dL_begin_13
    · replace h := ite_f e0 h
      cases h
set_option maxHeartbeats 4000000 in
theorem ct_L_write {l : Launch} (hl : l.stackTraces = false) {D : DD} {base B Bo : Nat} (hbs : base ≤ B) (hBo : B + 121 ≤ Bo) {σ : St} {v : Int64} {a1 : Int32} {a2 : Int32} {a3 : Int32} {r : Int32 × LX} (h : fL_write σ v a1 a2 a3 = some r) : MetH l D B Bo base yL_write cL_write 5 [(0, 7, 10, 13)] 9 156 2 12 [.ref (B + 0), .int a1, .int a2, .int a3] (σ, v) r.1 r.2 := by
  unfold fL_write at h
  obtain ⟨z, hz, h⟩ := bind_some h
  refine MetH.of (by decide +kernel) (fun v hv => by simp only [List.mem_cons, List.not_mem_nil, or_false] at hv; rcases hv with rfl | rfl | rfl | rfl <;> rfl) (Nat.le_of_ble_eq_true rfl) hbs hBo fun p e s m args below meth c hF hr hT hNc => ?_
  refine k_aload_n hF dL_write_0 rfl ?_
  refine k_iload_n hF dL_write_1 rfl ?_
  refine k_iload_n hF dL_write_2 rfl ?_
  refine k_iload_n hF dL_write_3 rfl ?_
  rcases z with w | n
  · dsimp only [Sum.elim_inl] at h
    cases h
    refine kh_V_r hF hBo 0 0 (as := [.int a1, .int a2, .int a3]) (ct_X10_write hl hbs hz) mv_L_55 shC_0 rfl rfl rfl (by decide) (Nat.le_of_ble_eq_true rfl) dL_write_4 (by decide) (by decide) ?_
    refine k_st (st2 := []) rfl ?_
    refine k_goto hF (tgt := 14) dL_write_7 (by decide) ?_
    refine k_iconst hF dL_write_14 ci_0 ?_
    exact kh_ret hF hr dL_write_15
  · dsimp only [Sum.elim_inr] at h
    by_cases e0 : n.1 = 0
    · replace h := ite_t e0 h
      cases h
      replace hz : fX10_write σ a1 a2 a3 = some (Sum.inr (0, n.2)) := by rw [hz, ← e0]
      refine kh_V_x hF hNc hBo hT [] (0, 7, 10, 13) [] rfl (k := 0) (by decide) (fun z hz => nomatch hz) ⟨by decide, by decide⟩ (by decide) cl_L_13 cast_0 0 0 (as := [.int a1, .int a2, .int a3]) (ct_X10_write hl hbs hz) mv_L_55 shC_0 rfl rfl rfl (by decide) (Nat.le_of_ble_eq_true rfl) dL_write_4 (by decide) (by decide) fun q => ?_
      refine k_astore hF (L' := [some (.ref (B + 0)), some (.int a1), some (.int a2), some (.int a3), some (.ref q)]) dL_write_10 (by decide) rfl ?_
      refine k_iconst hF dL_write_12 ci_1 ?_
      exact kh_ret hF hr dL_write_13
    · replace h := ite_f e0 h
      cases h
set_option maxHeartbeats 4000000 in
theorem ct_L_link {l : Launch} (hl : l.stackTraces = false) {D : DD} {base B Bo : Nat} (hbs : base ≤ B) (hBo : B + 121 ≤ Bo) {σ : St} {v : Int64} {a1 : Int32} {a2 : Int32} {a3 : Int32} {a4 : Int32} {r : Int32 × LX} (h : fL_link σ v a1 a2 a3 a4 = some r) : MetH l D B Bo base yL_link cL_link 7 [(0, 14, 17, 13), (0, 14, 21, 15)] 9 158 6 36 [.ref (B + 0), .int a1, .int a2, .int a3, .int a4, .ref Bo] (σ, v) r.1 r.2 := by
  unfold fL_link at h
  obtain ⟨z, hz, h⟩ := bind_some h
  refine MetH.of (by decide +kernel) (fun v hv => by simp only [List.mem_cons, List.not_mem_nil, or_false] at hv; rcases hv with rfl | rfl | rfl | rfl | rfl | rfl <;> rfl) (Nat.le_of_ble_eq_true rfl) hbs hBo fun p e s m args below meth c hF hr hT hNc => ?_
  refine k_aload hF dL_link_0 rfl ?_
  refine k_iconst hF dL_link_2 ci_0 ?_
  refine k_aload_n hF dL_link_3 rfl ?_
  refine k_iload_n hF dL_link_4 rfl ?_
  refine k_iload_n hF dL_link_5 rfl ?_
  refine k_iload_n hF dL_link_6 rfl ?_
  refine k_iload hF dL_link_7 rfl ?_
  rcases z with w | n
  · dsimp only [Sum.elim_inl] at h
    cases h
    refine kh_V_r hF hBo 0 0 (as := [.int a1, .int a2, .int a3, .int a4]) (ct_X10_link hl hbs hz) mv_L_58 shC_0 rfl rfl rfl (by decide) (Nat.le_of_ble_eq_true rfl) dL_link_9 (by decide) (by decide) ?_
    refine k_st (st2 := [.int w.1, .int (0 : Int32), .ref Bo]) rfl ?_
    refine k_i2l hF dL_link_12 ?_
    refine kh_last hF hBo dL_link_13 ?_
    refine k_goto hF (tgt := 25) dL_link_14 (by decide) ?_
    refine k_iconst hF dL_link_25 ci_0 ?_
    exact kh_ret hF hr dL_link_26
  · dsimp only [Sum.elim_inr] at h
    by_cases e0 : n.1 = 0
    · replace h := ite_t e0 h
      cases h
      replace hz : fX10_link σ a1 a2 a3 a4 = some (Sum.inr (0, n.2)) := by rw [hz, ← e0]
      refine kh_V_x hF hNc hBo hT [] (0, 14, 17, 13) [(0, 14, 21, 15)] rfl (k := 0) (by decide) (fun z hz => nomatch hz) ⟨by decide, by decide⟩ (by decide) cl_L_13 cast_0 0 0 (as := [.int a1, .int a2, .int a3, .int a4]) (ct_X10_link hl hbs hz) mv_L_58 shC_0 rfl rfl rfl (by decide) (Nat.le_of_ble_eq_true rfl) dL_link_9 (by decide) (by decide) fun q => ?_
      refine k_astore hF (L' := [some (.ref (B + 0)), some (.int a1), some (.int a2), some (.int a3), some (.int a4), some (.ref Bo), some (.ref q)]) dL_link_17 (by decide) rfl ?_
      refine k_iconst hF dL_link_19 ci_1 ?_
      exact kh_ret hF hr dL_link_20
    · replace h := ite_f e0 h
      by_cases e1 : n.1 = 2
      · replace h := ite_t e1 h
        cases h
        replace hz : fX10_link σ a1 a2 a3 a4 = some (Sum.inr (2, n.2)) := by rw [hz, ← e1]
        refine kh_V_x hF hNc hBo hT [(0, 14, 17, 13)] (0, 14, 21, 15) [] rfl (k := 2) (by decide) (hpass_1_2_0_13 (by decide)) ⟨by decide, by decide⟩ (by decide) cl_L_15 cast_2 0 0 (as := [.int a1, .int a2, .int a3, .int a4]) (ct_X10_link hl hbs hz) mv_L_58 shC_0 rfl rfl rfl (by decide) (Nat.le_of_ble_eq_true rfl) dL_link_9 (by decide) (by decide) fun q => ?_
        refine k_astore hF (L' := [some (.ref (B + 0)), some (.int a1), some (.int a2), some (.int a3), some (.int a4), some (.ref Bo), some (.ref q)]) dL_link_21 (by decide) rfl ?_
        refine k_iconst hF dL_link_23 ci_2 ?_
        exact kh_ret hF hr dL_link_24
      · replace h := ite_f e1 h
        cases h
set_option maxHeartbeats 4000000 in
theorem ct_L_unlink {l : Launch} (hl : l.stackTraces = false) {D : DD} {base B Bo : Nat} (hbs : base ≤ B) (hBo : B + 121 ≤ Bo) {σ : St} {v : Int64} {a1 : Int32} {a2 : Int32} {r : Int32 × LX} (h : fL_unlink σ v a1 a2 = some r) : MetH l D B Bo base yL_unlink cL_unlink 4 [(0, 6, 9, 13)] 8 134 2 12 [.ref (B + 0), .int a1, .int a2] (σ, v) r.1 r.2 := by
  unfold fL_unlink at h
  obtain ⟨z, hz, h⟩ := bind_some h
  refine MetH.of (by decide +kernel) (fun v hv => by simp only [List.mem_cons, List.not_mem_nil, or_false] at hv; rcases hv with rfl | rfl | rfl <;> rfl) (Nat.le_of_ble_eq_true rfl) hbs hBo fun p e s m args below meth c hF hr hT hNc => ?_
  refine k_aload_n hF dL_unlink_0 rfl ?_
  refine k_iload_n hF dL_unlink_1 rfl ?_
  refine k_iload_n hF dL_unlink_2 rfl ?_
  rcases z with w | n
  · dsimp only [Sum.elim_inl] at h
    cases h
    refine kh_V_r hF hBo 0 0 (as := [.int a1, .int a2]) (ct_X10_unlink hl hbs hz) mv_L_62 shC_0 rfl rfl rfl (by decide) (Nat.le_of_ble_eq_true rfl) dL_unlink_3 (by decide) (by decide) ?_
    refine k_st (st2 := []) rfl ?_
    refine k_goto hF (tgt := 12) dL_unlink_6 (by decide) ?_
    refine k_iconst hF dL_unlink_12 ci_0 ?_
    exact kh_ret hF hr dL_unlink_13
  · dsimp only [Sum.elim_inr] at h
    by_cases e0 : n.1 = 0
    · replace h := ite_t e0 h
      cases h
      replace hz : fX10_unlink σ a1 a2 = some (Sum.inr (0, n.2)) := by rw [hz, ← e0]
      refine kh_V_x hF hNc hBo hT [] (0, 6, 9, 13) [] rfl (k := 0) (by decide) (fun z hz => nomatch hz) ⟨by decide, by decide⟩ (by decide) cl_L_13 cast_0 0 0 (as := [.int a1, .int a2]) (ct_X10_unlink hl hbs hz) mv_L_62 shC_0 rfl rfl rfl (by decide) (Nat.le_of_ble_eq_true rfl) dL_unlink_3 (by decide) (by decide) fun q => ?_
      refine k_astore_n hF (L' := [some (.ref (B + 0)), some (.int a1), some (.int a2), some (.ref q)]) dL_unlink_9 (by decide) rfl ?_
      refine k_iconst hF dL_unlink_10 ci_1 ?_
      exact kh_ret hF hr dL_unlink_11
    · replace h := ite_f e0 h
      cases h
set_option maxHeartbeats 4000000 in
theorem ct_L_read {l : Launch} (hl : l.stackTraces = false) {D : DD} {base B Bo : Nat} (hbs : base ≤ B) (hBo : B + 121 ≤ Bo) {σ : St} {v : Int64} {a1 : Int32} {a2 : Int32} {r : Int32 × LX} (h : fL_read σ v a1 a2 = some r) : MetH l D B Bo base yL_read cL_read 5 [(0, 10, 13, 13)] 9 156 2 12 [.ref (B + 0), .int a1, .int a2, .ref Bo] (σ, v) r.1 r.2 := by
  unfold fL_read at h
  obtain ⟨z, hz, h⟩ := bind_some h
  refine MetH.of (by decide +kernel) (fun v hv => by simp only [List.mem_cons, List.not_mem_nil, or_false] at hv; rcases hv with rfl | rfl | rfl | rfl <;> rfl) (Nat.le_of_ble_eq_true rfl) hbs hBo fun p e s m args below meth c hF hr hT hNc => ?_
  refine k_aload_n hF dL_read_0 rfl ?_
  refine k_iconst hF dL_read_1 ci_0 ?_
  refine k_aload_n hF dL_read_2 rfl ?_
  refine k_iload_n hF dL_read_3 rfl ?_
  refine k_iload_n hF dL_read_4 rfl ?_
  rcases z with w | n
  · dsimp only [Sum.elim_inl] at h
    cases h
    refine kh_V_r hF hBo 0 0 (as := [.int a1, .int a2]) (ct_X10_read hl hbs hz) mv_L_66 shC_0 rfl rfl rfl (by decide) (Nat.le_of_ble_eq_true rfl) dL_read_5 (by decide) (by decide) ?_
    refine k_st (st2 := [.int w, .int (0 : Int32), .ref Bo]) rfl ?_
    refine k_i2l hF dL_read_8 ?_
    refine kh_last hF hBo dL_read_9 ?_
    refine k_goto hF (tgt := 17) dL_read_10 (by decide) ?_
    refine k_iconst hF dL_read_17 ci_0 ?_
    exact kh_ret hF hr dL_read_18
  · dsimp only [Sum.elim_inr] at h
    by_cases e0 : n = 0
    · replace h := ite_t e0 h
      cases h
      replace hz : fX10_read σ a1 a2 = some (Sum.inr 0) := by rw [hz, ← e0]
      refine kh_V_x hF hNc hBo hT [] (0, 10, 13, 13) [] rfl (k := 0) (by decide) (fun z hz => nomatch hz) ⟨by decide, by decide⟩ (by decide) cl_L_13 cast_0 0 0 (as := [.int a1, .int a2]) (ct_X10_read hl hbs hz) mv_L_66 shC_0 rfl rfl rfl (by decide) (Nat.le_of_ble_eq_true rfl) dL_read_5 (by decide) (by decide) fun q => ?_
      refine k_astore hF (L' := [some (.ref (B + 0)), some (.int a1), some (.int a2), some (.ref Bo), some (.ref q)]) dL_read_13 (by decide) rfl ?_
      refine k_iconst hF dL_read_15 ci_1 ?_
      exact kh_ret hF hr dL_read_16
    · replace h := ite_f e0 h
      cases h
set_option maxHeartbeats 4000000 in
theorem ct_L_sees {l : Launch} (hl : l.stackTraces = false) {D : DD} {base B Bo : Nat} (hbs : base ≤ B) (hBo : B + 121 ≤ Bo) {σ : St} {v : Int64} {a1 : Int32} {a2 : Int32} {r : Int32 × LX} (h : fL_sees σ v a1 a2 = some r) : MetH l D B Bo base yL_sees cL_sees 5 [(0, 10, 13, 13)] 9 158 2 12 [.ref (B + 0), .int a1, .int a2, .ref Bo] (σ, v) r.1 r.2 := by
  unfold fL_sees at h
  obtain ⟨z, hz, h⟩ := bind_some h
  refine MetH.of (by decide +kernel) (fun v hv => by simp only [List.mem_cons, List.not_mem_nil, or_false] at hv; rcases hv with rfl | rfl | rfl | rfl <;> rfl) (Nat.le_of_ble_eq_true rfl) hbs hBo fun p e s m args below meth c hF hr hT hNc => ?_
  refine k_aload_n hF dL_sees_0 rfl ?_
  refine k_iconst hF dL_sees_1 ci_0 ?_
  refine k_aload_n hF dL_sees_2 rfl ?_
  refine k_iload_n hF dL_sees_3 rfl ?_
  refine k_iload_n hF dL_sees_4 rfl ?_
  rcases z with w | n
  · dsimp only [Sum.elim_inl] at h
    cases h
    refine kh_V_r hF hBo 0 0 (as := [.int a1, .int a2]) (ct_X10_sees hl hbs hz) mv_L_69 shC_0 rfl rfl rfl (by decide) (Nat.le_of_ble_eq_true rfl) dL_sees_5 (by decide) (by decide) ?_
    refine k_st (st2 := [.int w, .int (0 : Int32), .ref Bo]) rfl ?_
    refine k_i2l hF dL_sees_8 ?_
    refine kh_last hF hBo dL_sees_9 ?_
    refine k_goto hF (tgt := 17) dL_sees_10 (by decide) ?_
    refine k_iconst hF dL_sees_17 ci_0 ?_
    exact kh_ret hF hr dL_sees_18
  · dsimp only [Sum.elim_inr] at h
    by_cases e0 : n = 0
    · replace h := ite_t e0 h
      cases h
      replace hz : fX10_sees σ a1 a2 = some (Sum.inr 0) := by rw [hz, ← e0]
      refine kh_V_x hF hNc hBo hT [] (0, 10, 13, 13) [] rfl (k := 0) (by decide) (fun z hz => nomatch hz) ⟨by decide, by decide⟩ (by decide) cl_L_13 cast_0 0 0 (as := [.int a1, .int a2]) (ct_X10_sees hl hbs hz) mv_L_69 shC_0 rfl rfl rfl (by decide) (Nat.le_of_ble_eq_true rfl) dL_sees_5 (by decide) (by decide) fun q => ?_
      refine k_astore hF (L' := [some (.ref (B + 0)), some (.int a1), some (.int a2), some (.ref Bo), some (.ref q)]) dL_sees_13 (by decide) rfl ?_
      refine k_iconst hF dL_sees_15 ci_1 ?_
      exact kh_ret hF hr dL_sees_16
    · replace h := ite_f e0 h
      cases h
set_option maxHeartbeats 4000000 in
theorem ct_L_commit {l : Launch} (hl : l.stackTraces = false) {D : DD} {base B Bo : Nat} (hbs : base ≤ B) (hBo : B + 121 ≤ Bo) {σ : St} {v : Int64} {a1 : Int32} {a2 : Int32} {r : Int32 × LX} (h : fL_commit σ v a1 a2 = some r) : MetH l D B Bo base yL_commit cL_commit 5 [(0, 10, 13, 13)] 8 137 1 6 [.ref (B + 0), .int a1, .int a2, .ref Bo] (σ, v) r.1 r.2 := by
  unfold fL_commit at h
  obtain ⟨z, hz, h⟩ := bind_some h
  refine MetH.of (by decide +kernel) (fun v hv => by simp only [List.mem_cons, List.not_mem_nil, or_false] at hv; rcases hv with rfl | rfl | rfl | rfl <;> rfl) (Nat.le_of_ble_eq_true rfl) hbs hBo fun p e s m args below meth c hF hr hT hNc => ?_
  refine k_aload_n hF dL_commit_0 rfl ?_
  refine k_iconst hF dL_commit_1 ci_0 ?_
  refine k_aload_n hF dL_commit_2 rfl ?_
  refine k_iload_n hF dL_commit_3 rfl ?_
  refine k_iload_n hF dL_commit_4 rfl ?_
  rcases z with w | n
  · dsimp only [Sum.elim_inl] at h
    cases h
    refine kh_V_r hF hBo 0 0 (as := [.int a1, .int a2]) (ct_X10_commit hl hbs hz) mv_L_72 shC_0 rfl rfl rfl (by decide) (Nat.le_of_ble_eq_true rfl) dL_commit_5 (by decide) (by decide) ?_
    refine k_st (st2 := [.int w.1, .int (0 : Int32), .ref Bo]) rfl ?_
    refine k_i2l hF dL_commit_8 ?_
    refine kh_last hF hBo dL_commit_9 ?_
    refine k_goto hF (tgt := 17) dL_commit_10 (by decide) ?_
    refine k_iconst hF dL_commit_17 ci_0 ?_
    exact kh_ret hF hr dL_commit_18
  · dsimp only [Sum.elim_inr] at h
    by_cases e0 : n.1 = 0
    · replace h := ite_t e0 h
      cases h
      replace hz : fX10_commit σ a1 a2 = some (Sum.inr (0, n.2)) := by rw [hz, ← e0]
      refine kh_V_x hF hNc hBo hT [] (0, 10, 13, 13) [] rfl (k := 0) (by decide) (fun z hz => nomatch hz) ⟨by decide, by decide⟩ (by decide) cl_L_13 cast_0 0 0 (as := [.int a1, .int a2]) (ct_X10_commit hl hbs hz) mv_L_72 shC_0 rfl rfl rfl (by decide) (Nat.le_of_ble_eq_true rfl) dL_commit_5 (by decide) (by decide) fun q => ?_
      refine k_astore hF (L' := [some (.ref (B + 0)), some (.int a1), some (.int a2), some (.ref Bo), some (.ref q)]) dL_commit_13 (by decide) rfl ?_
      refine k_iconst hF dL_commit_15 ci_1 ?_
      exact kh_ret hF hr dL_commit_16
    · replace h := ite_f e0 h
      cases h
set_option maxHeartbeats 4000000 in
theorem ct_L_valueAt {l : Launch} (hl : l.stackTraces = false) {D : DD} {base B Bo : Nat} (hbs : base ≤ B) (hBo : B + 121 ≤ Bo) {σ : St} {v : Int64} {a1 : Int32} {a2 : Int32} {r : Int32 × LX} (h : fL_valueAt σ v a1 a2 = some r) : MetH l D B Bo base yL_valueAt cL_valueAt 5 [(0, 10, 13, 13), (0, 10, 17, 79)] 8 133 2 12 [.ref (B + 0), .int a1, .int a2, .ref Bo] (σ, v) r.1 r.2 := by
  unfold fL_valueAt at h
  obtain ⟨z, hz, h⟩ := bind_some h
  refine MetH.of (by decide +kernel) (fun v hv => by simp only [List.mem_cons, List.not_mem_nil, or_false] at hv; rcases hv with rfl | rfl | rfl | rfl <;> rfl) (Nat.le_of_ble_eq_true rfl) hbs hBo fun p e s m args below meth c hF hr hT hNc => ?_
  refine k_aload_n hF dL_valueAt_0 rfl ?_
  refine k_iconst hF dL_valueAt_1 ci_0 ?_
  refine k_aload_n hF dL_valueAt_2 rfl ?_
  refine k_iload_n hF dL_valueAt_3 rfl ?_
  refine k_iload_n hF dL_valueAt_4 rfl ?_
  rcases z with w | n
  · dsimp only [Sum.elim_inl] at h
    cases h
    refine kh_V_r hF hBo 0 0 (as := [.int a1, .int a2]) (ct_X10_valueAt hl hbs hz) mv_L_76 shC_0 rfl rfl rfl (by decide) (Nat.le_of_ble_eq_true rfl) dL_valueAt_5 (by decide) (by decide) ?_
    refine k_st (st2 := [.int w, .int (0 : Int32), .ref Bo]) rfl ?_
    refine k_i2l hF dL_valueAt_8 ?_
    refine kh_last hF hBo dL_valueAt_9 ?_
    refine k_goto hF (tgt := 21) dL_valueAt_10 (by decide) ?_
    refine k_iconst hF dL_valueAt_21 ci_0 ?_
    exact kh_ret hF hr dL_valueAt_22
  · dsimp only [Sum.elim_inr] at h
    by_cases e0 : n = 0
    · replace h := ite_t e0 h
      cases h
      replace hz : fX10_valueAt σ a1 a2 = some (Sum.inr 0) := by rw [hz, ← e0]
      refine kh_V_x hF hNc hBo hT [] (0, 10, 13, 13) [(0, 10, 17, 79)] rfl (k := 0) (by decide) (fun z hz => nomatch hz) ⟨by decide, by decide⟩ (by decide) cl_L_13 cast_0 0 0 (as := [.int a1, .int a2]) (ct_X10_valueAt hl hbs hz) mv_L_76 shC_0 rfl rfl rfl (by decide) (Nat.le_of_ble_eq_true rfl) dL_valueAt_5 (by decide) (by decide) fun q => ?_
      refine k_astore hF (L' := [some (.ref (B + 0)), some (.int a1), some (.int a2), some (.ref Bo), some (.ref q)]) dL_valueAt_13 (by decide) rfl ?_
      refine k_iconst hF dL_valueAt_15 ci_1 ?_
      exact kh_ret hF hr dL_valueAt_16
    · replace h := ite_f e0 h
      by_cases e1 : n = 1
      · replace h := ite_t e1 h
        cases h
        replace hz : fX10_valueAt σ a1 a2 = some (Sum.inr 1) := by rw [hz, ← e1]
        refine kh_V_x hF hNc hBo hT [(0, 10, 13, 13)] (0, 10, 17, 79) [] rfl (k := 1) (by decide) (hpass_1_1_0_13 (by decide)) ⟨by decide, by decide⟩ (by decide) cl_L_79 cast_1 0 0 (as := [.int a1, .int a2]) (ct_X10_valueAt hl hbs hz) mv_L_76 shC_0 rfl rfl rfl (by decide) (Nat.le_of_ble_eq_true rfl) dL_valueAt_5 (by decide) (by decide) fun q => ?_
        refine k_astore hF (L' := [some (.ref (B + 0)), some (.int a1), some (.int a2), some (.ref Bo), some (.ref q)]) dL_valueAt_17 (by decide) rfl ?_
        refine k_iconst hF dL_valueAt_19 ci_2 ?_
        exact kh_ret hF hr dL_valueAt_20
      · replace h := ite_f e1 h
        cases h
set_option maxHeartbeats 4000000 in
theorem ct_L_sizeAt {l : Launch} (hl : l.stackTraces = false) {D : DD} {base B Bo : Nat} (hbs : base ≤ B) (hBo : B + 121 ≤ Bo) {σ : St} {v : Int64} {a1 : Int32} {r : Int32 × LX} (h : fL_sizeAt σ v a1 = some r) : MetH l D B Bo base yL_sizeAt cL_sizeAt 4 [(0, 9, 12, 79)] 8 132 1 6 [.ref (B + 0), .int a1, .ref Bo] (σ, v) r.1 r.2 := by
  unfold fL_sizeAt at h
  obtain ⟨z, hz, h⟩ := bind_some h
  refine MetH.of (by decide +kernel) (fun v hv => by simp only [List.mem_cons, List.not_mem_nil, or_false] at hv; rcases hv with rfl | rfl | rfl <;> rfl) (Nat.le_of_ble_eq_true rfl) hbs hBo fun p e s m args below meth c hF hr hT hNc => ?_
  refine k_aload_n hF dL_sizeAt_0 rfl ?_
  refine k_iconst hF dL_sizeAt_1 ci_0 ?_
  refine k_aload_n hF dL_sizeAt_2 rfl ?_
  refine k_iload_n hF dL_sizeAt_3 rfl ?_
  rcases z with w | n
  · dsimp only [Sum.elim_inl] at h
    cases h
    refine kh_V_r hF hBo 0 0 (as := [.int a1]) (ct_X10_sizeAt hl hbs hz) mv_L_81 shC_0 rfl rfl rfl (by decide) (Nat.le_of_ble_eq_true rfl) dL_sizeAt_4 (by decide) (by decide) ?_
    refine k_st (st2 := [.int w, .int (0 : Int32), .ref Bo]) rfl ?_
    refine k_i2l hF dL_sizeAt_7 ?_
    refine kh_last hF hBo dL_sizeAt_8 ?_
    refine k_goto hF (tgt := 15) dL_sizeAt_9 (by decide) ?_
    refine k_iconst hF dL_sizeAt_15 ci_0 ?_
    exact kh_ret hF hr dL_sizeAt_16
  · dsimp only [Sum.elim_inr] at h
    by_cases e0 : n = 1
    · replace h := ite_t e0 h
      cases h
      replace hz : fX10_sizeAt σ a1 = some (Sum.inr 1) := by rw [hz, ← e0]
      refine kh_V_x hF hNc hBo hT [] (0, 9, 12, 79) [] rfl (k := 1) (by decide) (fun z hz => nomatch hz) ⟨by decide, by decide⟩ (by decide) cl_L_79 cast_1 0 0 (as := [.int a1]) (ct_X10_sizeAt hl hbs hz) mv_L_81 shC_0 rfl rfl rfl (by decide) (Nat.le_of_ble_eq_true rfl) dL_sizeAt_4 (by decide) (by decide) fun q => ?_
      refine k_astore_n hF (L' := [some (.ref (B + 0)), some (.int a1), some (.ref Bo), some (.ref q)]) dL_sizeAt_12 (by decide) rfl ?_
      refine k_iconst hF dL_sizeAt_13 ci_1 ?_
      exact kh_ret hF hr dL_sizeAt_14
    · replace h := ite_f e0 h
      cases h
set_option maxHeartbeats 4000000 in
theorem ct_L_step {l : Launch} (hl : l.stackTraces = false) {D : DD} {base B Bo : Nat} (hbs : base ≤ B) (hBo : B + 121 ≤ Bo) {σ : St} {v : Int64} {a1 : Int32} {a2 : Int32} {r : Int32 × LX} (h : fL_step σ v a1 a2 = some r) : MetH l D B Bo base yL_step cL_step 5 [(0, 10, 13, 13), (0, 10, 17, 79), (0, 10, 21, 15)] 8 133 2 12 [.ref (B + 0), .int a1, .int a2, .ref Bo] (σ, v) r.1 r.2 := by
  unfold fL_step at h
  obtain ⟨z, hz, h⟩ := bind_some h
  refine MetH.of (by decide +kernel) (fun v hv => by simp only [List.mem_cons, List.not_mem_nil, or_false] at hv; rcases hv with rfl | rfl | rfl | rfl <;> rfl) (Nat.le_of_ble_eq_true rfl) hbs hBo fun p e s m args below meth c hF hr hT hNc => ?_
  refine k_aload_n hF dL_step_0 rfl ?_
  refine k_iconst hF dL_step_1 ci_0 ?_
  refine k_aload_n hF dL_step_2 rfl ?_
  refine k_iload_n hF dL_step_3 rfl ?_
  refine k_iload_n hF dL_step_4 rfl ?_
  rcases z with w | n
  · dsimp only [Sum.elim_inl] at h
    cases h
    refine kh_V_r hF hBo 0 0 (as := [.int a1, .int a2]) (ct_X10_step hl hbs hz) mv_L_84 shC_0 rfl rfl rfl (by decide) (Nat.le_of_ble_eq_true rfl) dL_step_5 (by decide) (by decide) ?_
    refine k_st (st2 := [.int w.1, .int (0 : Int32), .ref Bo]) rfl ?_
    refine k_i2l hF dL_step_8 ?_
    refine kh_last hF hBo dL_step_9 ?_
    refine k_goto hF (tgt := 25) dL_step_10 (by decide) ?_
    refine k_iconst hF dL_step_25 ci_0 ?_
    exact kh_ret hF hr dL_step_26
  · dsimp only [Sum.elim_inr] at h
    by_cases e0 : n.1 = 0
    · replace h := ite_t e0 h
      cases h
      replace hz : fX10_step σ a1 a2 = some (Sum.inr (0, n.2)) := by rw [hz, ← e0]
      refine kh_V_x hF hNc hBo hT [] (0, 10, 13, 13) [(0, 10, 17, 79), (0, 10, 21, 15)] rfl (k := 0) (by decide) (fun z hz => nomatch hz) ⟨by decide, by decide⟩ (by decide) cl_L_13 cast_0 0 0 (as := [.int a1, .int a2]) (ct_X10_step hl hbs hz) mv_L_84 shC_0 rfl rfl rfl (by decide) (Nat.le_of_ble_eq_true rfl) dL_step_5 (by decide) (by decide) fun q => ?_
      refine k_astore hF (L' := [some (.ref (B + 0)), some (.int a1), some (.int a2), some (.ref Bo), some (.ref q)]) dL_step_13 (by decide) rfl ?_
      refine k_iconst hF dL_step_15 ci_1 ?_
      exact kh_ret hF hr dL_step_16
    · replace h := ite_f e0 h
      by_cases e1 : n.1 = 1
      · replace h := ite_t e1 h
        cases h
        replace hz : fX10_step σ a1 a2 = some (Sum.inr (1, n.2)) := by rw [hz, ← e1]
        refine kh_V_x hF hNc hBo hT [(0, 10, 13, 13)] (0, 10, 17, 79) [(0, 10, 21, 15)] rfl (k := 1) (by decide) (hpass_1_1_0_13 (by decide)) ⟨by decide, by decide⟩ (by decide) cl_L_79 cast_1 0 0 (as := [.int a1, .int a2]) (ct_X10_step hl hbs hz) mv_L_84 shC_0 rfl rfl rfl (by decide) (Nat.le_of_ble_eq_true rfl) dL_step_5 (by decide) (by decide) fun q => ?_
        refine k_astore hF (L' := [some (.ref (B + 0)), some (.int a1), some (.int a2), some (.ref Bo), some (.ref q)]) dL_step_17 (by decide) rfl ?_
        refine k_iconst hF dL_step_19 ci_2 ?_
        exact kh_ret hF hr dL_step_20
      · replace h := ite_f e1 h
        by_cases e2 : n.1 = 2
        · replace h := ite_t e2 h
          cases h
          replace hz : fX10_step σ a1 a2 = some (Sum.inr (2, n.2)) := by rw [hz, ← e2]
          refine kh_V_x hF hNc hBo hT [(0, 10, 13, 13), (0, 10, 17, 79)] (0, 10, 21, 15) [] rfl (k := 2) (by decide) (hpass_2_2_0_1_13_79 (by decide)) ⟨by decide, by decide⟩ (by decide) cl_L_15 cast_2 0 0 (as := [.int a1, .int a2]) (ct_X10_step hl hbs hz) mv_L_84 shC_0 rfl rfl rfl (by decide) (Nat.le_of_ble_eq_true rfl) dL_step_5 (by decide) (by decide) fun q => ?_
          refine k_astore hF (L' := [some (.ref (B + 0)), some (.int a1), some (.int a2), some (.ref Bo), some (.ref q)]) dL_step_21 (by decide) rfl ?_
          refine k_iconst hF dL_step_23 ci_3 ?_
          exact kh_ret hF hr dL_step_24
        · replace h := ite_f e2 h
          cases h
set_option maxHeartbeats 4000000 in
theorem ct_L_pattern {l : Launch} (hl : l.stackTraces = false) {D : DD} {base B Bo : Nat} (hbs : base ≤ B) (hBo : B + 121 ≤ Bo) {σ : St} {v : Int64} {r : Int32 × LX} (h : fL_pattern σ v = some r) : MetH l D B Bo base yL_pattern cL_pattern 3 [(0, 8, 11, 15)] 7 110 1 6 [.ref (B + 0), .ref Bo] (σ, v) r.1 r.2 := by
  unfold fL_pattern at h
  obtain ⟨z, hz, h⟩ := bind_some h
  refine MetH.of (by decide +kernel) (fun v hv => by simp only [List.mem_cons, List.not_mem_nil, or_false] at hv; rcases hv with rfl | rfl <;> rfl) (Nat.le_of_ble_eq_true rfl) hbs hBo fun p e s m args below meth c hF hr hT hNc => ?_
  refine k_aload_n hF dL_pattern_0 rfl ?_
  refine k_iconst hF dL_pattern_1 ci_0 ?_
  refine k_aload_n hF dL_pattern_2 rfl ?_
  rcases z with w | n
  · dsimp only [Sum.elim_inl] at h
    cases h
    refine kh_V_r hF hBo 0 0 (as := []) (ct_X10_pattern hl hbs hz) mv_L_87 shC_0 rfl rfl rfl (by decide) (Nat.le_of_ble_eq_true rfl) dL_pattern_3 (by decide) (by decide) ?_
    refine k_st (st2 := [.int w.1, .int (0 : Int32), .ref Bo]) rfl ?_
    refine k_i2l hF dL_pattern_6 ?_
    refine kh_last hF hBo dL_pattern_7 ?_
    refine k_goto hF (tgt := 14) dL_pattern_8 (by decide) ?_
    refine k_iconst hF dL_pattern_14 ci_0 ?_
    exact kh_ret hF hr dL_pattern_15
  · dsimp only [Sum.elim_inr] at h
    by_cases e0 : n.1 = 2
    · replace h := ite_t e0 h
      cases h
      replace hz : fX10_pattern σ = some (Sum.inr (2, n.2)) := by rw [hz, ← e0]
      refine kh_V_x hF hNc hBo hT [] (0, 8, 11, 15) [] rfl (k := 2) (by decide) (fun z hz => nomatch hz) ⟨by decide, by decide⟩ (by decide) cl_L_15 cast_2 0 0 (as := []) (ct_X10_pattern hl hbs hz) mv_L_87 shC_0 rfl rfl rfl (by decide) (Nat.le_of_ble_eq_true rfl) dL_pattern_3 (by decide) (by decide) fun q => ?_
      refine k_astore_n hF (L' := [some (.ref (B + 0)), some (.ref Bo), some (.ref q)]) dL_pattern_11 (by decide) rfl ?_
      refine k_iconst hF dL_pattern_12 ci_1 ?_
      exact kh_ret hF hr dL_pattern_13
    · replace h := ite_f e0 h
      cases h
set_option maxHeartbeats 4000000 in
theorem ct_L_answer {l : Launch} (hl : l.stackTraces = false) {D : DD} {base B Bo : Nat} (hbs : base ≤ B) (hBo : B + 121 ≤ Bo) {σ : St} {v : Int64} {a1 : Int32} {a2 : Int32} {r : Int32 × LX} (h : fL_answer σ v a1 a2 = some r) : MetH l D B Bo base yL_answer cL_answer 5 [(0, 10, 13, 13)] 8 141 2 12 [.ref (B + 0), .int a1, .int a2, .ref Bo] (σ, v) r.1 r.2 := by
  unfold fL_answer at h
  obtain ⟨z, hz, h⟩ := bind_some h
  refine MetH.of (by decide +kernel) (fun v hv => by simp only [List.mem_cons, List.not_mem_nil, or_false] at hv; rcases hv with rfl | rfl | rfl | rfl <;> rfl) (Nat.le_of_ble_eq_true rfl) hbs hBo fun p e s m args below meth c hF hr hT hNc => ?_
  refine k_aload_n hF dL_answer_0 rfl ?_
  refine k_iconst hF dL_answer_1 ci_0 ?_
  refine k_aload_n hF dL_answer_2 rfl ?_
  refine k_iload_n hF dL_answer_3 rfl ?_
  refine k_iload_n hF dL_answer_4 rfl ?_
  rcases z with w | n
  · dsimp only [Sum.elim_inl] at h
    cases h
    refine kh_V_r hF hBo 0 0 (as := [.int a1, .int a2]) (ct_X10_answer hl hbs hz) mv_L_90 shC_0 rfl rfl rfl (by decide) (Nat.le_of_ble_eq_true rfl) dL_answer_5 (by decide) (by decide) ?_
    refine k_st (st2 := [.int w.1, .int (0 : Int32), .ref Bo]) rfl ?_
    refine k_i2l hF dL_answer_8 ?_
    refine kh_last hF hBo dL_answer_9 ?_
    refine k_goto hF (tgt := 17) dL_answer_10 (by decide) ?_
    refine k_iconst hF dL_answer_17 ci_0 ?_
    exact kh_ret hF hr dL_answer_18
  · dsimp only [Sum.elim_inr] at h
    by_cases e0 : n.1 = 0
    · replace h := ite_t e0 h
      cases h
      replace hz : fX10_answer σ a1 a2 = some (Sum.inr (0, n.2)) := by rw [hz, ← e0]
      refine kh_V_x hF hNc hBo hT [] (0, 10, 13, 13) [] rfl (k := 0) (by decide) (fun z hz => nomatch hz) ⟨by decide, by decide⟩ (by decide) cl_L_13 cast_0 0 0 (as := [.int a1, .int a2]) (ct_X10_answer hl hbs hz) mv_L_90 shC_0 rfl rfl rfl (by decide) (Nat.le_of_ble_eq_true rfl) dL_answer_5 (by decide) (by decide) fun q => ?_
      refine k_astore hF (L' := [some (.ref (B + 0)), some (.int a1), some (.int a2), some (.ref Bo), some (.ref q)]) dL_answer_13 (by decide) rfl ?_
      refine k_iconst hF dL_answer_15 ci_1 ?_
      exact kh_ret hF hr dL_answer_16
    · replace h := ite_f e0 h
      cases h
set_option maxHeartbeats 4000000 in
theorem ct_L_answerAnew {l : Launch} (hl : l.stackTraces = false) {D : DD} {base B Bo : Nat} (hbs : base ≤ B) (hBo : B + 121 ≤ Bo) {σ : St} {v : Int64} {a1 : Int32} {a2 : Int32} {r : Int32 × LX} (h : fL_answerAnew σ v a1 a2 = some r) : MetH l D B Bo base yL_answerAnew cL_answerAnew 5 [(0, 10, 13, 13)] 33 942 2 12 [.ref (B + 0), .int a1, .int a2, .ref Bo] (σ, v) r.1 r.2 := by
  unfold fL_answerAnew at h
  obtain ⟨z, hz, h⟩ := bind_some h
  refine MetH.of (by decide +kernel) (fun v hv => by simp only [List.mem_cons, List.not_mem_nil, or_false] at hv; rcases hv with rfl | rfl | rfl | rfl <;> rfl) (Nat.le_of_ble_eq_true rfl) hbs hBo fun p e s m args below meth c hF hr hT hNc => ?_
  refine k_aload_n hF dL_answerAnew_0 rfl ?_
  refine k_iconst hF dL_answerAnew_1 ci_0 ?_
  refine k_aload_n hF dL_answerAnew_2 rfl ?_
  refine k_iload_n hF dL_answerAnew_3 rfl ?_
  refine k_iload_n hF dL_answerAnew_4 rfl ?_
  rcases z with w | n
  · dsimp only [Sum.elim_inl] at h
    cases h
    refine kh_V_r hF hBo 0 0 (as := [.int a1, .int a2]) (ct_X10_answerAnew hl hbs hz) mv_L_93 shC_0 rfl rfl rfl (by decide) (Nat.le_of_ble_eq_true rfl) dL_answerAnew_5 (by decide) (by decide) ?_
    refine k_st (st2 := [.int w, .int (0 : Int32), .ref Bo]) rfl ?_
    refine k_i2l hF dL_answerAnew_8 ?_
    refine kh_last hF hBo dL_answerAnew_9 ?_
    refine k_goto hF (tgt := 17) dL_answerAnew_10 (by decide) ?_
    refine k_iconst hF dL_answerAnew_17 ci_0 ?_
    exact kh_ret hF hr dL_answerAnew_18
  · dsimp only [Sum.elim_inr] at h
    by_cases e0 : n = 0
    · replace h := ite_t e0 h
      cases h
      replace hz : fX10_answerAnew σ a1 a2 = some (Sum.inr 0) := by rw [hz, ← e0]
      refine kh_V_x hF hNc hBo hT [] (0, 10, 13, 13) [] rfl (k := 0) (by decide) (fun z hz => nomatch hz) ⟨by decide, by decide⟩ (by decide) cl_L_13 cast_0 0 0 (as := [.int a1, .int a2]) (ct_X10_answerAnew hl hbs hz) mv_L_93 shC_0 rfl rfl rfl (by decide) (Nat.le_of_ble_eq_true rfl) dL_answerAnew_5 (by decide) (by decide) fun q => ?_
      refine k_astore hF (L' := [some (.ref (B + 0)), some (.int a1), some (.int a2), some (.ref Bo), some (.ref q)]) dL_answerAnew_13 (by decide) rfl ?_
      refine k_iconst hF dL_answerAnew_15 ci_1 ?_
      exact kh_ret hF hr dL_answerAnew_16
    · replace h := ite_f e0 h
      cases h
set_option maxHeartbeats 4000000 in
theorem ct_L_pairs {l : Launch} (hl : l.stackTraces = false) {D : DD} {base B Bo : Nat} (hbs : base ≤ B) (hBo : B + 121 ≤ Bo) {σ : St} {v : Int64} {a1 : Int32} {r : Int32 × LX} (h : fL_pairs σ v a1 = some r) : MetH l D B Bo base yL_pairs cL_pairs 4 [(0, 9, 12, 13)] 8 143 1 6 [.ref (B + 0), .int a1, .ref Bo] (σ, v) r.1 r.2 := by
  unfold fL_pairs at h
  obtain ⟨z, hz, h⟩ := bind_some h
  refine MetH.of (by decide +kernel) (fun v hv => by simp only [List.mem_cons, List.not_mem_nil, or_false] at hv; rcases hv with rfl | rfl | rfl <;> rfl) (Nat.le_of_ble_eq_true rfl) hbs hBo fun p e s m args below meth c hF hr hT hNc => ?_
  refine k_aload_n hF dL_pairs_0 rfl ?_
  refine k_iconst hF dL_pairs_1 ci_0 ?_
  refine k_aload_n hF dL_pairs_2 rfl ?_
  refine k_iload_n hF dL_pairs_3 rfl ?_
  rcases z with w | n
  · dsimp only [Sum.elim_inl] at h
    cases h
    refine kh_V_r hF hBo 0 0 (as := [.int a1]) (ct_X10_pairs hl hbs hz) mv_L_96 shC_0 rfl rfl rfl (by decide) (Nat.le_of_ble_eq_true rfl) dL_pairs_4 (by decide) (by decide) ?_
    refine k_st (st2 := [.int w.1, .int (0 : Int32), .ref Bo]) rfl ?_
    refine k_i2l hF dL_pairs_7 ?_
    refine kh_last hF hBo dL_pairs_8 ?_
    refine k_goto hF (tgt := 15) dL_pairs_9 (by decide) ?_
    refine k_iconst hF dL_pairs_15 ci_0 ?_
    exact kh_ret hF hr dL_pairs_16
  · dsimp only [Sum.elim_inr] at h
    by_cases e0 : n.1 = 0
    · replace h := ite_t e0 h
      cases h
      replace hz : fX10_pairs σ a1 = some (Sum.inr (0, n.2)) := by rw [hz, ← e0]
      refine kh_V_x hF hNc hBo hT [] (0, 9, 12, 13) [] rfl (k := 0) (by decide) (fun z hz => nomatch hz) ⟨by decide, by decide⟩ (by decide) cl_L_13 cast_0 0 0 (as := [.int a1]) (ct_X10_pairs hl hbs hz) mv_L_96 shC_0 rfl rfl rfl (by decide) (Nat.le_of_ble_eq_true rfl) dL_pairs_4 (by decide) (by decide) fun q => ?_
      refine k_astore_n hF (L' := [some (.ref (B + 0)), some (.int a1), some (.ref Bo), some (.ref q)]) dL_pairs_12 (by decide) rfl ?_
      refine k_iconst hF dL_pairs_13 ci_1 ?_
      exact kh_ret hF hr dL_pairs_14
    · replace h := ite_f e0 h
      cases h
set_option maxHeartbeats 4000000 in
theorem ct_L_isWhole {l : Launch} (hl : l.stackTraces = false) {D : DD} {base B Bo : Nat} (hbs : base ≤ B) (hBo : B + 121 ≤ Bo) {σ : St} {v : Int64} {a1 : Int32} {a2 : Int32} {r : Int32 × LX} (h : fL_isWhole σ v a1 a2 = some r) : MetH l D B Bo base yL_isWhole cL_isWhole 5 [(0, 17, 20, 13)] 8 143 2 12 [.ref (B + 0), .int a1, .int a2, .ref Bo] (σ, v) r.1 r.2 := by
  unfold fL_isWhole at h
  obtain ⟨z, hz, h⟩ := bind_some h
  refine MetH.of (by decide +kernel) (fun v hv => by simp only [List.mem_cons, List.not_mem_nil, or_false] at hv; rcases hv with rfl | rfl | rfl | rfl <;> rfl) (Nat.le_of_ble_eq_true rfl) hbs hBo fun p e s m args below meth c hF hr hT hNc => ?_
  refine k_aload_n hF dL_isWhole_0 rfl ?_
  refine k_iconst hF dL_isWhole_1 ci_0 ?_
  refine k_aload_n hF dL_isWhole_2 rfl ?_
  refine k_iload_n hF dL_isWhole_3 rfl ?_
  refine k_iload_n hF dL_isWhole_4 rfl ?_
  rcases z with w | n
  · dsimp only [Sum.elim_inl] at h
    refine kh_V_r hF hBo 0 0 (as := [.int a1, .int a2]) (ct_X10_isWhole hl hbs hz) mv_L_99 shC_0 rfl rfl rfl (by decide) (Nat.le_of_ble_eq_true rfl) dL_isWhole_5 (by decide) (by decide) ?_
    refine k_st (st2 := [.int w.1, .int (0 : Int32), .ref Bo]) rfl ?_
    by_cases c1 : w.1 = 0
    · replace h := ite_t c1 h
      cases h
      refine k_if_eq hF (tgt := 15) dL_isWhole_8 (by decide) (fun _ => ?_) (fun c => absurd c1 c)
      refine k_lconst hF (v := (0 : Int64)) dL_isWhole_15 (by decide) ?_
      refine kh_last hF hBo dL_isWhole_16 ?_
      refine k_goto hF (tgt := 24) dL_isWhole_17 (by decide) ?_
      refine k_iconst hF dL_isWhole_24 ci_0 ?_
      exact kh_ret hF hr dL_isWhole_25
    · replace h := ite_f c1 h
      cases h
      refine k_if_eq hF (tgt := 15) dL_isWhole_8 (by decide) (fun c => absurd c c1) (fun _ => ?_)
      refine k_lconst hF (v := (1 : Int64)) dL_isWhole_11 (by decide) ?_
      refine k_goto hF (tgt := 16) dL_isWhole_12 (by decide) ?_
      refine kh_last hF hBo dL_isWhole_16 ?_
      refine k_goto hF (tgt := 24) dL_isWhole_17 (by decide) ?_
      refine k_iconst hF dL_isWhole_24 ci_0 ?_
      exact kh_ret hF hr dL_isWhole_25
  · dsimp only [Sum.elim_inr] at h
    by_cases e0 : n.1 = 0
    · replace h := ite_t e0 h
      cases h
      replace hz : fX10_isWhole σ a1 a2 = some (Sum.inr (0, n.2)) := by rw [hz, ← e0]
      refine kh_V_x hF hNc hBo hT [] (0, 17, 20, 13) [] rfl (k := 0) (by decide) (fun z hz => nomatch hz) ⟨by decide, by decide⟩ (by decide) cl_L_13 cast_0 0 0 (as := [.int a1, .int a2]) (ct_X10_isWhole hl hbs hz) mv_L_99 shC_0 rfl rfl rfl (by decide) (Nat.le_of_ble_eq_true rfl) dL_isWhole_5 (by decide) (by decide) fun q => ?_
      refine k_astore hF (L' := [some (.ref (B + 0)), some (.int a1), some (.int a2), some (.ref Bo), some (.ref q)]) dL_isWhole_20 (by decide) rfl ?_
      refine k_iconst hF dL_isWhole_22 ci_1 ?_
      exact kh_ret hF hr dL_isWhole_23
    · replace h := ite_f e0 h
      cases h
set_option maxHeartbeats 4000000 in
theorem ct_L_rule {l : Launch} (hl : l.stackTraces = false) {D : DD} {base B Bo : Nat} (hbs : base ≤ B) (hBo : B + 121 ≤ Bo) {σ : St} {v : Int64} {a1 : Int32} {a2 : Int32} {a3 : Int32} {r : Int32 × LX} (h : fL_rule σ v a1 a2 a3 = some r) : MetH l D B Bo base yL_rule cL_rule 6 [(0, 12, 15, 13), (0, 12, 19, 15)] 8 134 4 24 [.ref (B + 0), .int a1, .int a2, .int a3, .ref Bo] (σ, v) r.1 r.2 := by
  unfold fL_rule at h
  obtain ⟨z, hz, h⟩ := bind_some h
  refine MetH.of (by decide +kernel) (fun v hv => by simp only [List.mem_cons, List.not_mem_nil, or_false] at hv; rcases hv with rfl | rfl | rfl | rfl | rfl <;> rfl) (Nat.le_of_ble_eq_true rfl) hbs hBo fun p e s m args below meth c hF hr hT hNc => ?_
  refine k_aload hF dL_rule_0 rfl ?_
  refine k_iconst hF dL_rule_2 ci_0 ?_
  refine k_aload_n hF dL_rule_3 rfl ?_
  refine k_iload_n hF dL_rule_4 rfl ?_
  refine k_iload_n hF dL_rule_5 rfl ?_
  refine k_iload_n hF dL_rule_6 rfl ?_
  rcases z with w | n
  · dsimp only [Sum.elim_inl] at h
    cases h
    refine kh_V_r hF hBo 0 0 (as := [.int a1, .int a2, .int a3]) (ct_X10_rule hl hbs hz) mv_L_103 shC_0 rfl rfl rfl (by decide) (Nat.le_of_ble_eq_true rfl) dL_rule_7 (by decide) (by decide) ?_
    refine k_st (st2 := [.int w.1, .int (0 : Int32), .ref Bo]) rfl ?_
    refine k_i2l hF dL_rule_10 ?_
    refine kh_last hF hBo dL_rule_11 ?_
    refine k_goto hF (tgt := 23) dL_rule_12 (by decide) ?_
    refine k_iconst hF dL_rule_23 ci_0 ?_
    exact kh_ret hF hr dL_rule_24
  · dsimp only [Sum.elim_inr] at h
    by_cases e0 : n.1 = 0
    · replace h := ite_t e0 h
      cases h
      replace hz : fX10_rule σ a1 a2 a3 = some (Sum.inr (0, n.2)) := by rw [hz, ← e0]
      refine kh_V_x hF hNc hBo hT [] (0, 12, 15, 13) [(0, 12, 19, 15)] rfl (k := 0) (by decide) (fun z hz => nomatch hz) ⟨by decide, by decide⟩ (by decide) cl_L_13 cast_0 0 0 (as := [.int a1, .int a2, .int a3]) (ct_X10_rule hl hbs hz) mv_L_103 shC_0 rfl rfl rfl (by decide) (Nat.le_of_ble_eq_true rfl) dL_rule_7 (by decide) (by decide) fun q => ?_
      refine k_astore hF (L' := [some (.ref (B + 0)), some (.int a1), some (.int a2), some (.int a3), some (.ref Bo), some (.ref q)]) dL_rule_15 (by decide) rfl ?_
      refine k_iconst hF dL_rule_17 ci_1 ?_
      exact kh_ret hF hr dL_rule_18
    · replace h := ite_f e0 h
      by_cases e1 : n.1 = 2
      · replace h := ite_t e1 h
        cases h
        replace hz : fX10_rule σ a1 a2 a3 = some (Sum.inr (2, n.2)) := by rw [hz, ← e1]
        refine kh_V_x hF hNc hBo hT [(0, 12, 15, 13)] (0, 12, 19, 15) [] rfl (k := 2) (by decide) (hpass_1_2_0_13 (by decide)) ⟨by decide, by decide⟩ (by decide) cl_L_15 cast_2 0 0 (as := [.int a1, .int a2, .int a3]) (ct_X10_rule hl hbs hz) mv_L_103 shC_0 rfl rfl rfl (by decide) (Nat.le_of_ble_eq_true rfl) dL_rule_7 (by decide) (by decide) fun q => ?_
        refine k_astore hF (L' := [some (.ref (B + 0)), some (.int a1), some (.int a2), some (.int a3), some (.ref Bo), some (.ref q)]) dL_rule_19 (by decide) rfl ?_
        refine k_iconst hF dL_rule_21 ci_2 ?_
        exact kh_ret hF hr dL_rule_22
      · replace h := ite_f e1 h
        cases h
set_option maxHeartbeats 4000000 in
theorem ct_L_dropRule {l : Launch} (hl : l.stackTraces = false) {D : DD} {base B Bo : Nat} (hbs : base ≤ B) (hBo : B + 121 ≤ Bo) {σ : St} {v : Int64} {a1 : Int32} {r : Int32 × LX} (h : fL_dropRule σ v a1 = some r) : MetH l D B Bo base yL_dropRule cL_dropRule 4 [(0, 9, 12, 13)] 7 114 1 6 [.ref (B + 0), .int a1, .ref Bo] (σ, v) r.1 r.2 := by
  unfold fL_dropRule at h
  obtain ⟨z, hz, h⟩ := bind_some h
  refine MetH.of (by decide +kernel) (fun v hv => by simp only [List.mem_cons, List.not_mem_nil, or_false] at hv; rcases hv with rfl | rfl | rfl <;> rfl) (Nat.le_of_ble_eq_true rfl) hbs hBo fun p e s m args below meth c hF hr hT hNc => ?_
  refine k_aload_n hF dL_dropRule_0 rfl ?_
  refine k_iconst hF dL_dropRule_1 ci_0 ?_
  refine k_aload_n hF dL_dropRule_2 rfl ?_
  refine k_iload_n hF dL_dropRule_3 rfl ?_
  rcases z with w | n
  · dsimp only [Sum.elim_inl] at h
    cases h
    refine kh_V_r hF hBo 0 0 (as := [.int a1]) (ct_X10_dropRule hl hbs hz) mv_L_106 shC_0 rfl rfl rfl (by decide) (Nat.le_of_ble_eq_true rfl) dL_dropRule_4 (by decide) (by decide) ?_
    refine k_st (st2 := [.int w.1, .int (0 : Int32), .ref Bo]) rfl ?_
    refine k_i2l hF dL_dropRule_7 ?_
    refine kh_last hF hBo dL_dropRule_8 ?_
    refine k_goto hF (tgt := 15) dL_dropRule_9 (by decide) ?_
    refine k_iconst hF dL_dropRule_15 ci_0 ?_
    exact kh_ret hF hr dL_dropRule_16
  · dsimp only [Sum.elim_inr] at h
    by_cases e0 : n.1 = 0
    · replace h := ite_t e0 h
      cases h
      replace hz : fX10_dropRule σ a1 = some (Sum.inr (0, n.2)) := by rw [hz, ← e0]
      refine kh_V_x hF hNc hBo hT [] (0, 9, 12, 13) [] rfl (k := 0) (by decide) (fun z hz => nomatch hz) ⟨by decide, by decide⟩ (by decide) cl_L_13 cast_0 0 0 (as := [.int a1]) (ct_X10_dropRule hl hbs hz) mv_L_106 shC_0 rfl rfl rfl (by decide) (Nat.le_of_ble_eq_true rfl) dL_dropRule_4 (by decide) (by decide) fun q => ?_
      refine k_astore_n hF (L' := [some (.ref (B + 0)), some (.int a1), some (.ref Bo), some (.ref q)]) dL_dropRule_12 (by decide) rfl ?_
      refine k_iconst hF dL_dropRule_13 ci_1 ?_
      exact kh_ret hF hr dL_dropRule_14
    · replace h := ite_f e0 h
      cases h
set_option maxHeartbeats 4000000 in
theorem ct_L_reasons {l : Launch} (hl : l.stackTraces = false) {D : DD} {base B Bo : Nat} (hbs : base ≤ B) (hBo : B + 121 ≤ Bo) {σ : St} {v : Int64} {a1 : Int32} {a2 : Int32} {a3 : Int32} {r : Int32 × LX} (h : fL_reasons σ v a1 a2 a3 = some r) : MetH l D B Bo base yL_reasons cL_reasons 6 [(0, 12, 15, 13)] 8 134 3 18 [.ref (B + 0), .int a1, .int a2, .int a3, .ref Bo] (σ, v) r.1 r.2 := by
  unfold fL_reasons at h
  obtain ⟨z, hz, h⟩ := bind_some h
  refine MetH.of (by decide +kernel) (fun v hv => by simp only [List.mem_cons, List.not_mem_nil, or_false] at hv; rcases hv with rfl | rfl | rfl | rfl | rfl <;> rfl) (Nat.le_of_ble_eq_true rfl) hbs hBo fun p e s m args below meth c hF hr hT hNc => ?_
  refine k_aload hF dL_reasons_0 rfl ?_
  refine k_iconst hF dL_reasons_2 ci_0 ?_
  refine k_aload_n hF dL_reasons_3 rfl ?_
  refine k_iload_n hF dL_reasons_4 rfl ?_
  refine k_iload_n hF dL_reasons_5 rfl ?_
  refine k_iload_n hF dL_reasons_6 rfl ?_
  rcases z with w | n
  · dsimp only [Sum.elim_inl] at h
    cases h
    refine kh_V_r hF hBo 0 0 (as := [.int a1, .int a2, .int a3]) (ct_X10_reasons hl hbs hz) mv_L_109 shC_0 rfl rfl rfl (by decide) (Nat.le_of_ble_eq_true rfl) dL_reasons_7 (by decide) (by decide) ?_
    refine k_st (st2 := [.int w, .int (0 : Int32), .ref Bo]) rfl ?_
    refine k_i2l hF dL_reasons_10 ?_
    refine kh_last hF hBo dL_reasons_11 ?_
    refine k_goto hF (tgt := 19) dL_reasons_12 (by decide) ?_
    refine k_iconst hF dL_reasons_19 ci_0 ?_
    exact kh_ret hF hr dL_reasons_20
  · dsimp only [Sum.elim_inr] at h
    by_cases e0 : n = 0
    · replace h := ite_t e0 h
      cases h
      replace hz : fX10_reasons σ a1 a2 a3 = some (Sum.inr 0) := by rw [hz, ← e0]
      refine kh_V_x hF hNc hBo hT [] (0, 12, 15, 13) [] rfl (k := 0) (by decide) (fun z hz => nomatch hz) ⟨by decide, by decide⟩ (by decide) cl_L_13 cast_0 0 0 (as := [.int a1, .int a2, .int a3]) (ct_X10_reasons hl hbs hz) mv_L_109 shC_0 rfl rfl rfl (by decide) (Nat.le_of_ble_eq_true rfl) dL_reasons_7 (by decide) (by decide) fun q => ?_
      refine k_astore hF (L' := [some (.ref (B + 0)), some (.int a1), some (.int a2), some (.int a3), some (.ref Bo), some (.ref q)]) dL_reasons_15 (by decide) rfl ?_
      refine k_iconst hF dL_reasons_17 ci_1 ?_
      exact kh_ret hF hr dL_reasons_18
    · replace h := ite_f e0 h
      cases h
set_option maxHeartbeats 4000000 in
theorem ct_L_walk {l : Launch} (hl : l.stackTraces = false) {D : DD} {base B Bo : Nat} (hbs : base ≤ B) (hBo : B + 121 ≤ Bo) {σ : St} {v : Int64} {a1 : Int32} {a2 : Int32} {r : Int32 × LX} (h : fL_walk σ v a1 a2 = some r) : MetH l D B Bo base yL_walk cL_walk 5 [(0, 10, 13, 13), (0, 10, 17, 79)] 8 133 2 12 [.ref (B + 0), .int a1, .int a2, .ref Bo] (σ, v) r.1 r.2 := by
  unfold fL_walk at h
  obtain ⟨z, hz, h⟩ := bind_some h
  refine MetH.of (by decide +kernel) (fun v hv => by simp only [List.mem_cons, List.not_mem_nil, or_false] at hv; rcases hv with rfl | rfl | rfl | rfl <;> rfl) (Nat.le_of_ble_eq_true rfl) hbs hBo fun p e s m args below meth c hF hr hT hNc => ?_
  refine k_aload_n hF dL_walk_0 rfl ?_
  refine k_iconst hF dL_walk_1 ci_0 ?_
  refine k_aload_n hF dL_walk_2 rfl ?_
  refine k_iload_n hF dL_walk_3 rfl ?_
  refine k_iload_n hF dL_walk_4 rfl ?_
  rcases z with w | n
  · dsimp only [Sum.elim_inl] at h
    cases h
    refine kh_V_r hF hBo 0 0 (as := [.int a1, .int a2]) (ct_X10_walk hl hbs hz) mv_L_112 shC_0 rfl rfl rfl (by decide) (Nat.le_of_ble_eq_true rfl) dL_walk_5 (by decide) (by decide) ?_
    refine k_st (st2 := [.int w, .int (0 : Int32), .ref Bo]) rfl ?_
    refine k_i2l hF dL_walk_8 ?_
    refine kh_last hF hBo dL_walk_9 ?_
    refine k_goto hF (tgt := 21) dL_walk_10 (by decide) ?_
    refine k_iconst hF dL_walk_21 ci_0 ?_
    exact kh_ret hF hr dL_walk_22
  · dsimp only [Sum.elim_inr] at h
    by_cases e0 : n = 0
    · replace h := ite_t e0 h
      cases h
      replace hz : fX10_walk σ a1 a2 = some (Sum.inr 0) := by rw [hz, ← e0]
      refine kh_V_x hF hNc hBo hT [] (0, 10, 13, 13) [(0, 10, 17, 79)] rfl (k := 0) (by decide) (fun z hz => nomatch hz) ⟨by decide, by decide⟩ (by decide) cl_L_13 cast_0 0 0 (as := [.int a1, .int a2]) (ct_X10_walk hl hbs hz) mv_L_112 shC_0 rfl rfl rfl (by decide) (Nat.le_of_ble_eq_true rfl) dL_walk_5 (by decide) (by decide) fun q => ?_
      refine k_astore hF (L' := [some (.ref (B + 0)), some (.int a1), some (.int a2), some (.ref Bo), some (.ref q)]) dL_walk_13 (by decide) rfl ?_
      refine k_iconst hF dL_walk_15 ci_1 ?_
      exact kh_ret hF hr dL_walk_16
    · replace h := ite_f e0 h
      by_cases e1 : n = 1
      · replace h := ite_t e1 h
        cases h
        replace hz : fX10_walk σ a1 a2 = some (Sum.inr 1) := by rw [hz, ← e1]
        refine kh_V_x hF hNc hBo hT [(0, 10, 13, 13)] (0, 10, 17, 79) [] rfl (k := 1) (by decide) (hpass_1_1_0_13 (by decide)) ⟨by decide, by decide⟩ (by decide) cl_L_79 cast_1 0 0 (as := [.int a1, .int a2]) (ct_X10_walk hl hbs hz) mv_L_112 shC_0 rfl rfl rfl (by decide) (Nat.le_of_ble_eq_true rfl) dL_walk_5 (by decide) (by decide) fun q => ?_
        refine k_astore hF (L' := [some (.ref (B + 0)), some (.int a1), some (.int a2), some (.ref Bo), some (.ref q)]) dL_walk_17 (by decide) rfl ?_
        refine k_iconst hF dL_walk_19 ci_2 ?_
        exact kh_ret hF hr dL_walk_20
      · replace h := ite_f e1 h
        cases h
set_option maxHeartbeats 4000000 in
theorem ct_L_crossings {l : Launch} (hl : l.stackTraces = false) {D : DD} {base B Bo : Nat} (hbs : base ≤ B) (hBo : B + 121 ≤ Bo) {σ : St} {v : Int64} {a1 : Int32} {a2 : Int32} {r : Int32 × LX} (h : fL_crossings σ v a1 a2 = some r) : MetH l D B Bo base yL_crossings cL_crossings 5 [(0, 10, 13, 13), (0, 10, 17, 79)] 8 136 2 12 [.ref (B + 0), .int a1, .int a2, .ref Bo] (σ, v) r.1 r.2 := by
  unfold fL_crossings at h
  obtain ⟨z, hz, h⟩ := bind_some h
  refine MetH.of (by decide +kernel) (fun v hv => by simp only [List.mem_cons, List.not_mem_nil, or_false] at hv; rcases hv with rfl | rfl | rfl | rfl <;> rfl) (Nat.le_of_ble_eq_true rfl) hbs hBo fun p e s m args below meth c hF hr hT hNc => ?_
  refine k_aload_n hF dL_crossings_0 rfl ?_
  refine k_iconst hF dL_crossings_1 ci_0 ?_
  refine k_aload_n hF dL_crossings_2 rfl ?_
  refine k_iload_n hF dL_crossings_3 rfl ?_
  refine k_iload_n hF dL_crossings_4 rfl ?_
  rcases z with w | n
  · dsimp only [Sum.elim_inl] at h
    cases h
    refine kh_V_r hF hBo 0 0 (as := [.int a1, .int a2]) (ct_X10_crossings hl hbs hz) mv_L_115 shC_0 rfl rfl rfl (by decide) (Nat.le_of_ble_eq_true rfl) dL_crossings_5 (by decide) (by decide) ?_
    refine k_st (st2 := [.int w, .int (0 : Int32), .ref Bo]) rfl ?_
    refine k_i2l hF dL_crossings_8 ?_
    refine kh_last hF hBo dL_crossings_9 ?_
    refine k_goto hF (tgt := 21) dL_crossings_10 (by decide) ?_
    refine k_iconst hF dL_crossings_21 ci_0 ?_
    exact kh_ret hF hr dL_crossings_22
  · dsimp only [Sum.elim_inr] at h
    by_cases e0 : n = 0
    · replace h := ite_t e0 h
      cases h
      replace hz : fX10_crossings σ a1 a2 = some (Sum.inr 0) := by rw [hz, ← e0]
      refine kh_V_x hF hNc hBo hT [] (0, 10, 13, 13) [(0, 10, 17, 79)] rfl (k := 0) (by decide) (fun z hz => nomatch hz) ⟨by decide, by decide⟩ (by decide) cl_L_13 cast_0 0 0 (as := [.int a1, .int a2]) (ct_X10_crossings hl hbs hz) mv_L_115 shC_0 rfl rfl rfl (by decide) (Nat.le_of_ble_eq_true rfl) dL_crossings_5 (by decide) (by decide) fun q => ?_
      refine k_astore hF (L' := [some (.ref (B + 0)), some (.int a1), some (.int a2), some (.ref Bo), some (.ref q)]) dL_crossings_13 (by decide) rfl ?_
      refine k_iconst hF dL_crossings_15 ci_1 ?_
      exact kh_ret hF hr dL_crossings_16
    · replace h := ite_f e0 h
      by_cases e1 : n = 1
      · replace h := ite_t e1 h
        cases h
        replace hz : fX10_crossings σ a1 a2 = some (Sum.inr 1) := by rw [hz, ← e1]
        refine kh_V_x hF hNc hBo hT [(0, 10, 13, 13)] (0, 10, 17, 79) [] rfl (k := 1) (by decide) (hpass_1_1_0_13 (by decide)) ⟨by decide, by decide⟩ (by decide) cl_L_79 cast_1 0 0 (as := [.int a1, .int a2]) (ct_X10_crossings hl hbs hz) mv_L_115 shC_0 rfl rfl rfl (by decide) (Nat.le_of_ble_eq_true rfl) dL_crossings_5 (by decide) (by decide) fun q => ?_
        refine k_astore hF (L' := [some (.ref (B + 0)), some (.int a1), some (.int a2), some (.ref Bo), some (.ref q)]) dL_crossings_17 (by decide) rfl ?_
        refine k_iconst hF dL_crossings_19 ci_2 ?_
        exact kh_ret hF hr dL_crossings_20
      · replace h := ite_f e1 h
        cases h
set_option maxHeartbeats 4000000 in
theorem ct_L_round {l : Launch} (hl : l.stackTraces = false) {D : DD} {base B Bo : Nat} (hbs : base ≤ B) (hBo : B + 121 ≤ Bo) {σ : St} {v : Int64} {a1 : Int32} {r : Int32 × LX} (h : fL_round σ v a1 = some r) : MetH l D B Bo base yL_round cL_round 4 [(0, 9, 12, 79)] 7 112 1 6 [.ref (B + 0), .int a1, .ref Bo] (σ, v) r.1 r.2 := by
  unfold fL_round at h
  obtain ⟨z, hz, h⟩ := bind_some h
  refine MetH.of (by decide +kernel) (fun v hv => by simp only [List.mem_cons, List.not_mem_nil, or_false] at hv; rcases hv with rfl | rfl | rfl <;> rfl) (Nat.le_of_ble_eq_true rfl) hbs hBo fun p e s m args below meth c hF hr hT hNc => ?_
  refine k_aload_n hF dL_round_0 rfl ?_
  refine k_iconst hF dL_round_1 ci_0 ?_
  refine k_aload_n hF dL_round_2 rfl ?_
  refine k_iload_n hF dL_round_3 rfl ?_
  rcases z with w | n
  · dsimp only [Sum.elim_inl] at h
    cases h
    refine kh_V_r hF hBo 0 0 (as := [.int a1]) (ct_X10_round hl hbs hz) mv_L_118 shC_0 rfl rfl rfl (by decide) (Nat.le_of_ble_eq_true rfl) dL_round_4 (by decide) (by decide) ?_
    refine k_st (st2 := [.int w.1, .int (0 : Int32), .ref Bo]) rfl ?_
    refine k_i2l hF dL_round_7 ?_
    refine kh_last hF hBo dL_round_8 ?_
    refine k_goto hF (tgt := 15) dL_round_9 (by decide) ?_
    refine k_iconst hF dL_round_15 ci_0 ?_
    exact kh_ret hF hr dL_round_16
  · dsimp only [Sum.elim_inr] at h
    by_cases e0 : n.1 = 1
    · replace h := ite_t e0 h
      cases h
      replace hz : fX10_round σ a1 = some (Sum.inr (1, n.2)) := by rw [hz, ← e0]
      refine kh_V_x hF hNc hBo hT [] (0, 9, 12, 79) [] rfl (k := 1) (by decide) (fun z hz => nomatch hz) ⟨by decide, by decide⟩ (by decide) cl_L_79 cast_1 0 0 (as := [.int a1]) (ct_X10_round hl hbs hz) mv_L_118 shC_0 rfl rfl rfl (by decide) (Nat.le_of_ble_eq_true rfl) dL_round_4 (by decide) (by decide) fun q => ?_
      refine k_astore_n hF (L' := [some (.ref (B + 0)), some (.int a1), some (.ref Bo), some (.ref q)]) dL_round_12 (by decide) rfl ?_
      refine k_iconst hF dL_round_13 ci_1 ?_
      exact kh_ret hF hr dL_round_14
    · replace h := ite_f e0 h
      cases h
set_option maxHeartbeats 4000000 in
theorem ct_L_mark {l : Launch} (hl : l.stackTraces = false) {D : DD} {base B Bo : Nat} (hbs : base ≤ B) (hBo : B + 121 ≤ Bo) {σ : St} {v : Int64} {a1 : Int32} {r : Int32 × LX} (h : fL_mark σ v a1 = some r) : MetH l D B Bo base yL_mark cL_mark 4 [(0, 9, 12, 13)] 8 132 1 6 [.ref (B + 0), .int a1, .ref Bo] (σ, v) r.1 r.2 := by
  unfold fL_mark at h
  obtain ⟨z, hz, h⟩ := bind_some h
  refine MetH.of (by decide +kernel) (fun v hv => by simp only [List.mem_cons, List.not_mem_nil, or_false] at hv; rcases hv with rfl | rfl | rfl <;> rfl) (Nat.le_of_ble_eq_true rfl) hbs hBo fun p e s m args below meth c hF hr hT hNc => ?_
  refine k_aload_n hF dL_mark_0 rfl ?_
  refine k_iconst hF dL_mark_1 ci_0 ?_
  refine k_aload_n hF dL_mark_2 rfl ?_
  refine k_iload_n hF dL_mark_3 rfl ?_
  rcases z with w | n
  · dsimp only [Sum.elim_inl] at h
    cases h
    refine kh_V_r hF hBo 0 0 (as := [.int a1]) (ct_X10_mark hl hbs hz) mv_L_121 shC_0 rfl rfl rfl (by decide) (Nat.le_of_ble_eq_true rfl) dL_mark_4 (by decide) (by decide) ?_
    refine k_st (st2 := [.int w, .int (0 : Int32), .ref Bo]) rfl ?_
    refine k_i2l hF dL_mark_7 ?_
    refine kh_last hF hBo dL_mark_8 ?_
    refine k_goto hF (tgt := 15) dL_mark_9 (by decide) ?_
    refine k_iconst hF dL_mark_15 ci_0 ?_
    exact kh_ret hF hr dL_mark_16
  · dsimp only [Sum.elim_inr] at h
    by_cases e0 : n = 0
    · replace h := ite_t e0 h
      cases h
      replace hz : fX10_mark σ a1 = some (Sum.inr 0) := by rw [hz, ← e0]
      refine kh_V_x hF hNc hBo hT [] (0, 9, 12, 13) [] rfl (k := 0) (by decide) (fun z hz => nomatch hz) ⟨by decide, by decide⟩ (by decide) cl_L_13 cast_0 0 0 (as := [.int a1]) (ct_X10_mark hl hbs hz) mv_L_121 shC_0 rfl rfl rfl (by decide) (Nat.le_of_ble_eq_true rfl) dL_mark_4 (by decide) (by decide) fun q => ?_
      refine k_astore_n hF (L' := [some (.ref (B + 0)), some (.int a1), some (.ref Bo), some (.ref q)]) dL_mark_12 (by decide) rfl ?_
      refine k_iconst hF dL_mark_13 ci_1 ?_
      exact kh_ret hF hr dL_mark_14
    · replace h := ite_f e0 h
      cases h
set_option maxHeartbeats 4000000 in
theorem ct_L_least {l : Launch} (hl : l.stackTraces = false) {D : DD} {base B Bo : Nat} (hbs : base ≤ B) (hBo : B + 121 ≤ Bo) {σ : St} {v : Int64} {a1 : Int32} {r : Int32 × LX} (h : fL_least σ v a1 = some r) : MetH l D B Bo base yL_least cL_least 4 [(0, 9, 12, 13)] 8 134 1 6 [.ref (B + 0), .int a1, .ref Bo] (σ, v) r.1 r.2 := by
  unfold fL_least at h
  obtain ⟨z, hz, h⟩ := bind_some h
  refine MetH.of (by decide +kernel) (fun v hv => by simp only [List.mem_cons, List.not_mem_nil, or_false] at hv; rcases hv with rfl | rfl | rfl <;> rfl) (Nat.le_of_ble_eq_true rfl) hbs hBo fun p e s m args below meth c hF hr hT hNc => ?_
  refine k_aload_n hF dL_least_0 rfl ?_
  refine k_iconst hF dL_least_1 ci_0 ?_
  refine k_aload_n hF dL_least_2 rfl ?_
  refine k_iload_n hF dL_least_3 rfl ?_
  rcases z with w | n
  · dsimp only [Sum.elim_inl] at h
    cases h
    refine kh_V_r hF hBo 0 0 (as := [.int a1]) (ct_X10_least hl hbs hz) mv_L_124 shC_0 rfl rfl rfl (by decide) (Nat.le_of_ble_eq_true rfl) dL_least_4 (by decide) (by decide) ?_
    refine k_st (st2 := [.int w, .int (0 : Int32), .ref Bo]) rfl ?_
    refine k_i2l hF dL_least_7 ?_
    refine kh_last hF hBo dL_least_8 ?_
    refine k_goto hF (tgt := 15) dL_least_9 (by decide) ?_
    refine k_iconst hF dL_least_15 ci_0 ?_
    exact kh_ret hF hr dL_least_16
  · dsimp only [Sum.elim_inr] at h
    by_cases e0 : n = 0
    · replace h := ite_t e0 h
      cases h
      replace hz : fX10_least σ a1 = some (Sum.inr 0) := by rw [hz, ← e0]
      refine kh_V_x hF hNc hBo hT [] (0, 9, 12, 13) [] rfl (k := 0) (by decide) (fun z hz => nomatch hz) ⟨by decide, by decide⟩ (by decide) cl_L_13 cast_0 0 0 (as := [.int a1]) (ct_X10_least hl hbs hz) mv_L_124 shC_0 rfl rfl rfl (by decide) (Nat.le_of_ble_eq_true rfl) dL_least_4 (by decide) (by decide) fun q => ?_
      refine k_astore_n hF (L' := [some (.ref (B + 0)), some (.int a1), some (.ref Bo), some (.ref q)]) dL_least_12 (by decide) rfl ?_
      refine k_iconst hF dL_least_13 ci_1 ?_
      exact kh_ret hF hr dL_least_14
    · replace h := ite_f e0 h
      cases h
