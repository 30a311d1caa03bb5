theorem mv_L_7 : mv_ok RL 7 RX10 yX10_node cX10_node 5 (some .int) 2 := ⟨gt_of _ [487, 488, 489, 58, 490] (by decide +kernel) (by decide +kernel), by decide +kernel, by decide +kernel, by decide +kernel⟩
theorem cl_L_13 : Cond.classLink RL 13 (xn 0) ∈ GT := gt_s 485 (by decide +kernel) (by decide +kernel)
theorem cast_0 : Cond.castable (xn 0) (xn 0) ∈ BW := bw_s 496 (by decide +kernel) rfl
theorem cl_L_15 : Cond.classLink RL 15 (xn 2) ∈ GT := gt_s 486 (by decide +kernel) (by decide +kernel)
theorem cast_2 : Cond.castable (xn 2) (xn 2) ∈ BW := bw_s 564 (by decide +kernel) rfl
theorem hpass_1_2_0_13 {zs : List (Nat × Nat × Nat × Nat)} (h : zs.map (fun z => z.2.2.2) = [13]) : ∀ z ∈ zs, z.2.2.2 ≠ 0 ∧ ∃ k' : Nat, k' < 3 ∧ 2 ≠ k' ∧ Cond.classLink RL z.2.2.2 (xn k') ∈ GT := fun z hz => by
  have h1 : z.2.2.2 ∈ zs.map (fun z => z.2.2.2) := List.mem_map_of_mem hz
  rw [h] at h1
  simp only [List.mem_cons, List.not_mem_nil, or_false] at h1
  rw [h1]; exact ⟨by decide, 0, by decide, by decide, cl_L_13⟩
theorem mv_L_17 : mv_ok RL 17 RX10 yX10_edge cX10_edge 5 (some .int) 3 := ⟨gt_of _ [609, 610, 611, 58, 612] (by decide +kernel) (by decide +kernel), by decide +kernel, by decide +kernel, by decide +kernel⟩
theorem mv_L_21 : mv_ok RL 21 RX10 yX10_set cX10_set 4 (some .int) 2 := ⟨gt_of _ [659, 660, 661, 58, 662] (by decide +kernel) (by decide +kernel), by decide +kernel, by decide +kernel, by decide +kernel⟩
theorem mv_L_24 : mv_ok RL 24 RX10 yX10_dropEdge cX10_dropEdge 2 (some .int) 1 := ⟨gt_of _ [667, 668, 669, 58, 670] (by decide +kernel) (by decide +kernel), by decide +kernel, by decide +kernel, by decide +kernel⟩
theorem mv_L_28 : mv_ok RL 28 RX10 yX10_dropNode cX10_dropNode 4 (some .int) 1 := ⟨gt_of _ [697, 698, 699, 58, 700] (by decide +kernel) (by decide +kernel), by decide +kernel, by decide +kernel, by decide +kernel⟩
theorem mv_L_31 : mv_ok RL 31 RX10 yX10_key cX10_key 2 (some .boolean) 1 := ⟨gt_of _ [711, 712, 713, 58, 714] (by decide +kernel) (by decide +kernel), by decide +kernel, by decide +kernel, by decide +kernel⟩
theorem mv_L_35 : mv_ok RL 35 RX10 yX10_shape cX10_shape 4 none 3 := ⟨gt_of _ [729, 730, 731, 58, 732] (by decide +kernel) (by decide +kernel), by decide +kernel, by decide +kernel, by decide +kernel⟩
theorem mv_L_39 : mv_ok RL 39 RX10 yX10_move cX10_move 4 (some .int) 2 := ⟨gt_of _ [741, 742, 743, 58, 744] (by decide +kernel) (by decide +kernel), by decide +kernel, by decide +kernel, by decide +kernel⟩
theorem mv_L_42 : mv_ok RL 42 RX10 yX10_toggle cX10_toggle 2 (some .boolean) 1 := ⟨gt_of _ [753, 754, 755, 58, 756] (by decide +kernel) (by decide +kernel), by decide +kernel, by decide +kernel, by decide +kernel⟩
theorem mv_L_45 : mv_ok RL 45 RX10 yX10_machine cX10_machine 2 (some .int) 1 := ⟨gt_of _ [760, 761, 762, 58, 763] (by decide +kernel) (by decide +kernel), by decide +kernel, by decide +kernel, by decide +kernel⟩
theorem mv_L_48 : mv_ok RL 48 RX10 yX10_copies cX10_copies 2 (some .int) 1 := ⟨gt_of _ [767, 768, 769, 58, 770] (by decide +kernel) (by decide +kernel), by decide +kernel, by decide +kernel, by decide +kernel⟩
theorem mv_L_51 : mv_ok RL 51 RX10 yX10_begin cX10_begin 2 (some .int) 0 := ⟨gt_of _ [780, 781, 782, 58, 783] (by decide +kernel) (by decide +kernel), by decide +kernel, by decide +kernel, by decide +kernel⟩
theorem mv_L_55 : mv_ok RL 55 RX10 yX10_write cX10_write 4 none 3 := ⟨gt_of _ [792, 793, 794, 58, 795] (by decide +kernel) (by decide +kernel), by decide +kernel, by decide +kernel, by decide +kernel⟩
theorem mv_L_58 : mv_ok RL 58 RX10 yX10_link cX10_link 6 (some .int) 4 := ⟨gt_of _ [820, 821, 822, 58, 823] (by decide +kernel) (by decide +kernel), by decide +kernel, by decide +kernel, by decide +kernel⟩
theorem mv_L_62 : mv_ok RL 62 RX10 yX10_unlink cX10_unlink 4 none 2 := ⟨gt_of _ [832, 833, 834, 58, 835] (by decide +kernel) (by decide +kernel), by decide +kernel, by decide +kernel, by decide +kernel⟩
theorem mv_L_66 : mv_ok RL 66 RX10 yX10_read cX10_read 4 (some .int) 2 := ⟨gt_of _ [850, 851, 852, 58, 853] (by decide +kernel) (by decide +kernel), by decide +kernel, by decide +kernel, by decide +kernel⟩
theorem mv_L_69 : mv_ok RL 69 RX10 yX10_sees cX10_sees 6 (some .int) 2 := ⟨gt_of _ [862, 863, 864, 58, 865] (by decide +kernel) (by decide +kernel), by decide +kernel, by decide +kernel, by decide +kernel⟩
theorem mv_L_72 : mv_ok RL 72 RX10 yX10_commit cX10_commit 4 (some .int) 2 := ⟨gt_of _ [873, 874, 875, 58, 876] (by decide +kernel) (by decide +kernel), by decide +kernel, by decide +kernel, by decide +kernel⟩
theorem mv_L_76 : mv_ok RL 76 RX10 yX10_valueAt cX10_valueAt 3 (some .int) 2 := ⟨gt_of _ [910, 911, 912, 58, 913] (by decide +kernel) (by decide +kernel), by decide +kernel, by decide +kernel, by decide +kernel⟩
theorem cl_L_79 : Cond.classLink RL 79 (xn 1) ∈ GT := gt_s 909 (by decide +kernel) (by decide +kernel)
theorem cast_1 : Cond.castable (xn 1) (xn 1) ∈ BW := bw_s 920 (by decide +kernel) rfl
theorem hpass_1_1_0_13 {zs : List (Nat × Nat × Nat × Nat)} (h : zs.map (fun z => z.2.2.2) = [13]) : ∀ z ∈ zs, z.2.2.2 ≠ 0 ∧ ∃ k' : Nat, k' < 3 ∧ 1 ≠ k' ∧ Cond.classLink RL z.2.2.2 (xn k') ∈ GT := fun z hz => by
  have h1 : z.2.2.2 ∈ zs.map (fun z => z.2.2.2) := List.mem_map_of_mem hz
  rw [h] at h1
  simp only [List.mem_cons, List.not_mem_nil, or_false] at h1
  rw [h1]; exact ⟨by decide, 0, by decide, by decide, cl_L_13⟩
theorem mv_L_81 : mv_ok RL 81 RX10 yX10_sizeAt cX10_sizeAt 2 (some .int) 1 := ⟨gt_of _ [938, 939, 940, 58, 941] (by decide +kernel) (by decide +kernel), by decide +kernel, by decide +kernel, by decide +kernel⟩
theorem mv_L_84 : mv_ok RL 84 RX10 yX10_step cX10_step 4 (some .int) 2 := ⟨gt_of _ [955, 956, 957, 58, 958] (by decide +kernel) (by decide +kernel), by decide +kernel, by decide +kernel, by decide +kernel⟩
theorem hpass_2_2_0_1_13_79 {zs : List (Nat × Nat × Nat × Nat)} (h : zs.map (fun z => z.2.2.2) = [13, 79]) : ∀ z ∈ zs, z.2.2.2 ≠ 0 ∧ ∃ k' : Nat, k' < 3 ∧ 2 ≠ k' ∧ Cond.classLink RL z.2.2.2 (xn k') ∈ GT := fun z hz => by
  have h1 : z.2.2.2 ∈ zs.map (fun z => z.2.2.2) := List.mem_map_of_mem hz
  rw [h] at h1
  simp only [List.mem_cons, List.not_mem_nil, or_false] at h1
  rcases h1 with h1 | h1
  · rw [h1]; exact ⟨by decide, 0, by decide, by decide, cl_L_13⟩
  · rw [h1]; exact ⟨by decide, 1, by decide, by decide, cl_L_79⟩
theorem mv_L_87 : mv_ok RL 87 RX10 yX10_pattern cX10_pattern 1 (some .int) 0 := ⟨gt_of _ [974, 975, 976, 58, 977] (by decide +kernel) (by decide +kernel), by decide +kernel, by decide +kernel, by decide +kernel⟩
theorem mv_L_90 : mv_ok RL 90 RX10 yX10_answer cX10_answer 3 (some .int) 2 := ⟨gt_of _ [983, 984, 985, 58, 986] (by decide +kernel) (by decide +kernel), by decide +kernel, by decide +kernel, by decide +kernel⟩
theorem mv_L_93 : mv_ok RL 93 RX10 yX10_answerAnew cX10_answerAnew 3 (some .int) 2 := ⟨gt_of _ [1022, 1023, 1024, 58, 1025] (by decide +kernel) (by decide +kernel), by decide +kernel, by decide +kernel, by decide +kernel⟩
theorem mv_L_96 : mv_ok RL 96 RX10 yX10_pairs cX10_pairs 5 (some .int) 1 := ⟨gt_of _ [1044, 1045, 1046, 58, 1047] (by decide +kernel) (by decide +kernel), by decide +kernel, by decide +kernel, by decide +kernel⟩
theorem mv_L_99 : mv_ok RL 99 RX10 yX10_isWhole cX10_isWhole 5 (some .boolean) 2 := ⟨gt_of _ [1051, 1052, 1053, 58, 1054] (by decide +kernel) (by decide +kernel), by decide +kernel, by decide +kernel, by decide +kernel⟩
theorem mv_L_103 : mv_ok RL 103 RX10 yX10_rule cX10_rule 5 (some .int) 3 := ⟨gt_of _ [1058, 1059, 1060, 58, 1061] (by decide +kernel) (by decide +kernel), by decide +kernel, by decide +kernel, by decide +kernel⟩
theorem mv_L_106 : mv_ok RL 106 RX10 yX10_dropRule cX10_dropRule 3 (some .int) 1 := ⟨gt_of _ [1070, 1071, 1072, 58, 1073] (by decide +kernel) (by decide +kernel), by decide +kernel, by decide +kernel, by decide +kernel⟩
theorem mv_L_109 : mv_ok RL 109 RX10 yX10_reasons cX10_reasons 4 (some .int) 3 := ⟨gt_of _ [1078, 1079, 1080, 58, 1081] (by decide +kernel) (by decide +kernel), by decide +kernel, by decide +kernel, by decide +kernel⟩
theorem mv_L_112 : mv_ok RL 112 RX10 yX10_walk cX10_walk 3 (some .int) 2 := ⟨gt_of _ [1095, 1096, 1097, 58, 1098] (by decide +kernel) (by decide +kernel), by decide +kernel, by decide +kernel, by decide +kernel⟩
theorem mv_L_115 : mv_ok RL 115 RX10 yX10_crossings cX10_crossings 6 (some .int) 2 := ⟨gt_of _ [1116, 1117, 1118, 58, 1119] (by decide +kernel) (by decide +kernel), by decide +kernel, by decide +kernel, by decide +kernel⟩
theorem mv_L_118 : mv_ok RL 118 RX10 yX10_round cX10_round 3 (some .int) 1 := ⟨gt_of _ [1123, 1124, 1125, 58, 1126] (by decide +kernel) (by decide +kernel), by decide +kernel, by decide +kernel, by decide +kernel⟩
theorem mv_L_121 : mv_ok RL 121 RX10 yX10_mark cX10_mark 2 (some .int) 1 := ⟨gt_of _ [1141, 1142, 1143, 58, 1144] (by decide +kernel) (by decide +kernel), by decide +kernel, by decide +kernel, by decide +kernel⟩
theorem mv_L_124 : mv_ok RL 124 RX10 yX10_least cX10_least 4 (some .int) 1 := ⟨gt_of _ [1148, 1149, 1150, 58, 1151] (by decide +kernel) (by decide +kernel), by decide +kernel, by decide +kernel, by decide +kernel⟩
