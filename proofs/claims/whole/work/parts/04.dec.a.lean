theorem dX0_init_0 : decode cX0_init 0 = .ok (.aload_n 0, 1) := by decide +kernel
theorem dX0_init_1 : decode cX0_init 1 = .ok (.invokespecial 3, 3) := by decide +kernel
theorem dX0_init_4 : decode cX0_init 4 = .ok (.aload_n 0, 1) := by decide +kernel
theorem dX0_init_5 : decode cX0_init 5 = .ok (.bipush 60, 2) := by decide +kernel
theorem dX0_init_7 : decode cX0_init 7 = .ok (.newarray .int, 2) := by decide +kernel
theorem dX0_init_9 : decode cX0_init 9 = .ok (.putfield 9, 3) := by decide +kernel
theorem dX0_init_12 : decode cX0_init 12 = .ok (.aload_n 0, 1) := by decide +kernel
theorem dX0_init_13 : decode cX0_init 13 = .ok (.bipush 60, 2) := by decide +kernel
theorem dX0_init_15 : decode cX0_init 15 = .ok (.newarray .int, 2) := by decide +kernel
theorem dX0_init_17 : decode cX0_init 17 = .ok (.putfield 15, 3) := by decide +kernel
theorem dX0_init_20 : decode cX0_init 20 = .ok (.aload_n 0, 1) := by decide +kernel
theorem dX0_init_21 : decode cX0_init 21 = .ok (.bipush 60, 2) := by decide +kernel
theorem dX0_init_23 : decode cX0_init 23 = .ok (.newarray .int, 2) := by decide +kernel
theorem dX0_init_25 : decode cX0_init 25 = .ok (.putfield 18, 3) := by decide +kernel
theorem dX0_init_28 : decode cX0_init 28 = .ok (.return_, 1) := by decide +kernel
theorem dX0_add_0 : decode cX0_add 0 = .ok (.aload_n 0, 1) := by decide +kernel
theorem dX0_add_1 : decode cX0_add 1 = .ok (.iload 4, 2) := by decide +kernel
theorem dX0_add_3 : decode cX0_add 3 = .ok (.invokevirtual 21, 3) := by decide +kernel
theorem dX0_add_6 : decode cX0_add 6 = .ok (.istore 5, 2) := by decide +kernel
theorem dX0_add_8 : decode cX0_add 8 = .ok (.aload_n 0, 1) := by decide +kernel
theorem dX0_add_9 : decode cX0_add 9 = .ok (.getfield 9, 3) := by decide +kernel
theorem dX0_add_12 : decode cX0_add 12 = .ok (.iload 5, 2) := by decide +kernel
theorem dX0_add_14 : decode cX0_add 14 = .ok (.iload_n 1, 1) := by decide +kernel
theorem dX0_add_15 : decode cX0_add 15 = .ok (.iastore, 1) := by decide +kernel
theorem dX0_add_16 : decode cX0_add 16 = .ok (.aload_n 0, 1) := by decide +kernel
theorem dX0_add_17 : decode cX0_add 17 = .ok (.getfield 15, 3) := by decide +kernel
theorem dX0_add_20 : decode cX0_add 20 = .ok (.iload 5, 2) := by decide +kernel
theorem dX0_add_22 : decode cX0_add 22 = .ok (.iload_n 2, 1) := by decide +kernel
theorem dX0_add_23 : decode cX0_add 23 = .ok (.iastore, 1) := by decide +kernel
theorem dX0_add_24 : decode cX0_add 24 = .ok (.aload_n 0, 1) := by decide +kernel
theorem dX0_add_25 : decode cX0_add 25 = .ok (.getfield 18, 3) := by decide +kernel
theorem dX0_add_28 : decode cX0_add 28 = .ok (.iload 5, 2) := by decide +kernel
theorem dX0_add_30 : decode cX0_add 30 = .ok (.iload_n 3, 1) := by decide +kernel
theorem dX0_add_31 : decode cX0_add 31 = .ok (.iastore, 1) := by decide +kernel
theorem dX0_add_32 : decode cX0_add 32 = .ok (.iload 5, 2) := by decide +kernel
theorem dX0_add_34 : decode cX0_add 34 = .ok (.ireturn, 1) := by decide +kernel
theorem dX0_countLike_0 : decode cX0_countLike 0 = .ok (.iconst 0, 1) := by decide +kernel
theorem dX0_countLike_1 : decode cX0_countLike 1 = .ok (.istore 4, 2) := by decide +kernel
theorem dX0_countLike_3 : decode cX0_countLike 3 = .ok (.iconst 0, 1) := by decide +kernel
theorem dX0_countLike_4 : decode cX0_countLike 4 = .ok (.istore 5, 2) := by decide +kernel
theorem dX0_countLike_6 : decode cX0_countLike 6 = .ok (.iload 5, 2) := by decide +kernel
theorem dX0_countLike_8 : decode cX0_countLike 8 = .ok (.aload_n 0, 1) := by decide +kernel
theorem dX0_countLike_9 : decode cX0_countLike 9 = .ok (.getfield 25, 3) := by decide +kernel
theorem dX0_countLike_12 : decode cX0_countLike 12 = .ok (.if_icmp .ge 54, 3) := by decide +kernel
theorem dX0_countLike_15 : decode cX0_countLike 15 = .ok (.aload_n 0, 1) := by decide +kernel
theorem dX0_countLike_16 : decode cX0_countLike 16 = .ok (.iload 5, 2) := by decide +kernel
theorem dX0_countLike_18 : decode cX0_countLike 18 = .ok (.invokevirtual 29, 3) := by decide +kernel
theorem dX0_countLike_21 : decode cX0_countLike 21 = .ok (.ifCond .eq 39, 3) := by decide +kernel
theorem dX0_countLike_24 : decode cX0_countLike 24 = .ok (.aload_n 0, 1) := by decide +kernel
theorem dX0_countLike_25 : decode cX0_countLike 25 = .ok (.getfield 9, 3) := by decide +kernel
theorem dX0_countLike_28 : decode cX0_countLike 28 = .ok (.iload 5, 2) := by decide +kernel
theorem dX0_countLike_30 : decode cX0_countLike 30 = .ok (.iaload, 1) := by decide +kernel
theorem dX0_countLike_31 : decode cX0_countLike 31 = .ok (.iload_n 1, 1) := by decide +kernel
theorem dX0_countLike_32 : decode cX0_countLike 32 = .ok (.if_icmp .ne 28, 3) := by decide +kernel
theorem dX0_countLike_35 : decode cX0_countLike 35 = .ok (.aload_n 0, 1) := by decide +kernel
theorem dX0_countLike_36 : decode cX0_countLike 36 = .ok (.getfield 15, 3) := by decide +kernel
theorem dX0_countLike_39 : decode cX0_countLike 39 = .ok (.iload 5, 2) := by decide +kernel
theorem dX0_countLike_41 : decode cX0_countLike 41 = .ok (.iaload, 1) := by decide +kernel
theorem dX0_countLike_42 : decode cX0_countLike 42 = .ok (.iload_n 2, 1) := by decide +kernel
theorem dX0_countLike_43 : decode cX0_countLike 43 = .ok (.if_icmp .ne 17, 3) := by decide +kernel
theorem dX0_countLike_46 : decode cX0_countLike 46 = .ok (.aload_n 0, 1) := by decide +kernel
theorem dX0_countLike_47 : decode cX0_countLike 47 = .ok (.getfield 18, 3) := by decide +kernel
theorem dX0_countLike_50 : decode cX0_countLike 50 = .ok (.iload 5, 2) := by decide +kernel
theorem dX0_countLike_52 : decode cX0_countLike 52 = .ok (.iaload, 1) := by decide +kernel
theorem dX0_countLike_53 : decode cX0_countLike 53 = .ok (.iload_n 3, 1) := by decide +kernel
theorem dX0_countLike_54 : decode cX0_countLike 54 = .ok (.if_icmp .ne 6, 3) := by decide +kernel
theorem dX0_countLike_57 : decode cX0_countLike 57 = .ok (.iinc 4 1, 3) := by decide +kernel
theorem dX0_countLike_60 : decode cX0_countLike 60 = .ok (.iinc 5 1, 3) := by decide +kernel
theorem dX0_countLike_63 : decode cX0_countLike 63 = .ok (.goto (-57), 3) := by decide +kernel
theorem dX0_countLike_66 : decode cX0_countLike 66 = .ok (.iload 4, 2) := by decide +kernel
theorem dX0_countLike_68 : decode cX0_countLike 68 = .ok (.ireturn, 1) := by decide +kernel
theorem dX0_onward_0 : decode cX0_onward 0 = .ok (.iconst 0, 1) := by decide +kernel
theorem dX0_onward_1 : decode cX0_onward 1 = .ok (.istore_n 2, 1) := by decide +kernel
theorem dX0_onward_2 : decode cX0_onward 2 = .ok (.iconst 0, 1) := by decide +kernel
theorem dX0_onward_3 : decode cX0_onward 3 = .ok (.istore_n 3, 1) := by decide +kernel
theorem dX0_onward_4 : decode cX0_onward 4 = .ok (.iload_n 3, 1) := by decide +kernel
theorem dX0_onward_5 : decode cX0_onward 5 = .ok (.aload_n 0, 1) := by decide +kernel
theorem dX0_onward_6 : decode cX0_onward 6 = .ok (.getfield 25, 3) := by decide +kernel
theorem dX0_onward_9 : decode cX0_onward 9 = .ok (.if_icmp .ge 42, 3) := by decide +kernel
theorem dX0_onward_12 : decode cX0_onward 12 = .ok (.aload_n 0, 1) := by decide +kernel
theorem dX0_onward_13 : decode cX0_onward 13 = .ok (.iload_n 3, 1) := by decide +kernel
theorem dX0_onward_14 : decode cX0_onward 14 = .ok (.invokevirtual 29, 3) := by decide +kernel
theorem dX0_onward_17 : decode cX0_onward 17 = .ok (.ifCond .eq 28, 3) := by decide +kernel
theorem dX0_onward_20 : decode cX0_onward 20 = .ok (.iload_n 1, 1) := by decide +kernel
theorem dX0_onward_21 : decode cX0_onward 21 = .ok (.aload_n 0, 1) := by decide +kernel
theorem dX0_onward_22 : decode cX0_onward 22 = .ok (.getfield 9, 3) := by decide +kernel
theorem dX0_onward_25 : decode cX0_onward 25 = .ok (.iload_n 3, 1) := by decide +kernel
theorem dX0_onward_26 : decode cX0_onward 26 = .ok (.iaload, 1) := by decide +kernel
theorem dX0_onward_27 : decode cX0_onward 27 = .ok (.invokestatic 33, 3) := by decide +kernel
theorem dX0_onward_30 : decode cX0_onward 30 = .ok (.ifCond .eq 15, 3) := by decide +kernel
theorem dX0_onward_33 : decode cX0_onward 33 = .ok (.iload_n 2, 1) := by decide +kernel
theorem dX0_onward_34 : decode cX0_onward 34 = .ok (.aload_n 0, 1) := by decide +kernel
theorem dX0_onward_35 : decode cX0_onward 35 = .ok (.getfield 18, 3) := by decide +kernel
theorem dX0_onward_38 : decode cX0_onward 38 = .ok (.iload_n 3, 1) := by decide +kernel
theorem dX0_onward_39 : decode cX0_onward 39 = .ok (.iaload, 1) := by decide +kernel
theorem dX0_onward_40 : decode cX0_onward 40 = .ok (.invokestatic 37, 3) := by decide +kernel
theorem dX0_onward_43 : decode cX0_onward 43 = .ok (.ior, 1) := by decide +kernel
theorem dX0_onward_44 : decode cX0_onward 44 = .ok (.istore_n 2, 1) := by decide +kernel
theorem dX0_onward_45 : decode cX0_onward 45 = .ok (.iinc 3 1, 3) := by decide +kernel
theorem dX0_onward_48 : decode cX0_onward 48 = .ok (.goto (-44), 3) := by decide +kernel
theorem dX0_onward_51 : decode cX0_onward 51 = .ok (.iload_n 2, 1) := by decide +kernel
theorem dX0_onward_52 : decode cX0_onward 52 = .ok (.ireturn, 1) := by decide +kernel
theorem dX0_neighbours_0 : decode cX0_neighbours 0 = .ok (.aload_n 0, 1) := by decide +kernel
theorem dX0_neighbours_1 : decode cX0_neighbours 1 = .ok (.iload_n 1, 1) := by decide +kernel
theorem dX0_neighbours_2 : decode cX0_neighbours 2 = .ok (.invokevirtual 40, 3) := by decide +kernel
theorem dX0_neighbours_5 : decode cX0_neighbours 5 = .ok (.istore_n 2, 1) := by decide +kernel
theorem dX0_neighbours_6 : decode cX0_neighbours 6 = .ok (.iconst 0, 1) := by decide +kernel
theorem dX0_neighbours_7 : decode cX0_neighbours 7 = .ok (.istore_n 3, 1) := by decide +kernel
theorem dX0_neighbours_8 : decode cX0_neighbours 8 = .ok (.iload_n 3, 1) := by decide +kernel
theorem dX0_neighbours_9 : decode cX0_neighbours 9 = .ok (.aload_n 0, 1) := by decide +kernel
theorem dX0_neighbours_10 : decode cX0_neighbours 10 = .ok (.getfield 25, 3) := by decide +kernel
theorem dX0_neighbours_13 : decode cX0_neighbours 13 = .ok (.if_icmp .ge 42, 3) := by decide +kernel
theorem dX0_neighbours_16 : decode cX0_neighbours 16 = .ok (.aload_n 0, 1) := by decide +kernel
theorem dX0_neighbours_17 : decode cX0_neighbours 17 = .ok (.iload_n 3, 1) := by decide +kernel
theorem dX0_neighbours_18 : decode cX0_neighbours 18 = .ok (.invokevirtual 29, 3) := by decide +kernel
theorem dX0_neighbours_21 : decode cX0_neighbours 21 = .ok (.ifCond .eq 28, 3) := by decide +kernel
theorem dX0_neighbours_24 : decode cX0_neighbours 24 = .ok (.iload_n 1, 1) := by decide +kernel
theorem dX0_neighbours_25 : decode cX0_neighbours 25 = .ok (.aload_n 0, 1) := by decide +kernel
theorem dX0_neighbours_26 : decode cX0_neighbours 26 = .ok (.getfield 18, 3) := by decide +kernel
theorem dX0_neighbours_29 : decode cX0_neighbours 29 = .ok (.iload_n 3, 1) := by decide +kernel
theorem dX0_neighbours_30 : decode cX0_neighbours 30 = .ok (.iaload, 1) := by decide +kernel
theorem dX0_neighbours_31 : decode cX0_neighbours 31 = .ok (.invokestatic 33, 3) := by decide +kernel
theorem dX0_neighbours_34 : decode cX0_neighbours 34 = .ok (.ifCond .eq 15, 3) := by decide +kernel
theorem dX0_neighbours_37 : decode cX0_neighbours 37 = .ok (.iload_n 2, 1) := by decide +kernel
theorem dX0_neighbours_38 : decode cX0_neighbours 38 = .ok (.aload_n 0, 1) := by decide +kernel
theorem dX0_neighbours_39 : decode cX0_neighbours 39 = .ok (.getfield 9, 3) := by decide +kernel
theorem dX0_neighbours_42 : decode cX0_neighbours 42 = .ok (.iload_n 3, 1) := by decide +kernel
theorem dX0_neighbours_43 : decode cX0_neighbours 43 = .ok (.iaload, 1) := by decide +kernel
theorem dX0_neighbours_44 : decode cX0_neighbours 44 = .ok (.invokestatic 37, 3) := by decide +kernel
theorem dX0_neighbours_47 : decode cX0_neighbours 47 = .ok (.ior, 1) := by decide +kernel
theorem dX0_neighbours_48 : decode cX0_neighbours 48 = .ok (.istore_n 2, 1) := by decide +kernel
theorem dX0_neighbours_49 : decode cX0_neighbours 49 = .ok (.iinc 3 1, 3) := by decide +kernel
theorem dX0_neighbours_52 : decode cX0_neighbours 52 = .ok (.goto (-44), 3) := by decide +kernel
theorem dX0_neighbours_55 : decode cX0_neighbours 55 = .ok (.iload_n 2, 1) := by decide +kernel
theorem dX0_neighbours_56 : decode cX0_neighbours 56 = .ok (.ireturn, 1) := by decide +kernel
theorem dX1_init_0 : decode cX1_init 0 = .ok (.aload_n 0, 1) := by decide +kernel
theorem dX1_init_1 : decode cX1_init 1 = .ok (.invokespecial 3, 3) := by decide +kernel
theorem dX1_init_4 : decode cX1_init 4 = .ok (.aload_n 0, 1) := by decide +kernel
theorem dX1_init_5 : decode cX1_init 5 = .ok (.bipush 6, 2) := by decide +kernel
theorem dX1_init_7 : decode cX1_init 7 = .ok (.newarray .int, 2) := by decide +kernel
theorem dX1_init_9 : decode cX1_init 9 = .ok (.putfield 9, 3) := by decide +kernel
theorem dX1_init_12 : decode cX1_init 12 = .ok (.aload_n 0, 1) := by decide +kernel
theorem dX1_init_13 : decode cX1_init 13 = .ok (.bipush 6, 2) := by decide +kernel
theorem dX1_init_15 : decode cX1_init 15 = .ok (.newarray .int, 2) := by decide +kernel
theorem dX1_init_17 : decode cX1_init 17 = .ok (.putfield 15, 3) := by decide +kernel
theorem dX1_init_20 : decode cX1_init 20 = .ok (.aload_n 0, 1) := by decide +kernel
theorem dX1_init_21 : decode cX1_init 21 = .ok (.bipush 6, 2) := by decide +kernel
theorem dX1_init_23 : decode cX1_init 23 = .ok (.newarray .int, 2) := by decide +kernel
theorem dX1_init_25 : decode cX1_init 25 = .ok (.putfield 18, 3) := by decide +kernel
theorem dX1_init_28 : decode cX1_init 28 = .ok (.aload_n 0, 1) := by decide +kernel
theorem dX1_init_29 : decode cX1_init 29 = .ok (.bipush 6, 2) := by decide +kernel
theorem dX1_init_31 : decode cX1_init 31 = .ok (.newarray .boolean, 2) := by decide +kernel
theorem dX1_init_33 : decode cX1_init 33 = .ok (.putfield 21, 3) := by decide +kernel
theorem dX1_init_36 : decode cX1_init 36 = .ok (.aload_n 0, 1) := by decide +kernel
theorem dX1_init_37 : decode cX1_init 37 = .ok (.iconst 4, 1) := by decide +kernel
theorem dX1_init_38 : decode cX1_init 38 = .ok (.bipush 24, 2) := by decide +kernel
theorem dX1_init_40 : decode cX1_init 40 = .ok (.multianewarray 25 2, 4) := by decide +kernel
theorem dX1_init_44 : decode cX1_init 44 = .ok (.putfield 27, 3) := by decide +kernel
theorem dX1_init_47 : decode cX1_init 47 = .ok (.aload_n 0, 1) := by decide +kernel
theorem dX1_init_48 : decode cX1_init 48 = .ok (.iconst 4, 1) := by decide +kernel
theorem dX1_init_49 : decode cX1_init 49 = .ok (.bipush 24, 2) := by decide +kernel
theorem dX1_init_51 : decode cX1_init 51 = .ok (.multianewarray 25 2, 4) := by decide +kernel
theorem dX1_init_55 : decode cX1_init 55 = .ok (.putfield 30, 3) := by decide +kernel
theorem dX1_init_58 : decode cX1_init 58 = .ok (.aload_n 0, 1) := by decide +kernel
theorem dX1_init_59 : decode cX1_init 59 = .ok (.iconst 0, 1) := by decide +kernel
theorem dX1_init_60 : decode cX1_init 60 = .ok (.putfield 33, 3) := by decide +kernel
theorem dX1_init_63 : decode cX1_init 63 = .ok (.aload_n 0, 1) := by decide +kernel
theorem dX1_init_64 : decode cX1_init 64 = .ok (.aload_n 1, 1) := by decide +kernel
theorem dX1_init_65 : decode cX1_init 65 = .ok (.putfield 37, 3) := by decide +kernel
theorem dX1_init_68 : decode cX1_init 68 = .ok (.return_, 1) := by decide +kernel
theorem dX1_addRule_0 : decode cX1_addRule 0 = .ok (.aload_n 0, 1) := by decide +kernel
theorem dX1_addRule_1 : decode cX1_addRule 1 = .ok (.getfield 33, 3) := by decide +kernel
theorem dX1_addRule_4 : decode cX1_addRule 4 = .ok (.istore 4, 2) := by decide +kernel
theorem dX1_addRule_6 : decode cX1_addRule 6 = .ok (.aload_n 0, 1) := by decide +kernel
theorem dX1_addRule_7 : decode cX1_addRule 7 = .ok (.dup, 1) := by decide +kernel
theorem dX1_addRule_8 : decode cX1_addRule 8 = .ok (.getfield 33, 3) := by decide +kernel
theorem dX1_addRule_11 : decode cX1_addRule 11 = .ok (.iconst 1, 1) := by decide +kernel
theorem dX1_addRule_12 : decode cX1_addRule 12 = .ok (.iadd, 1) := by decide +kernel
theorem dX1_addRule_13 : decode cX1_addRule 13 = .ok (.putfield 33, 3) := by decide +kernel
theorem dX1_addRule_16 : decode cX1_addRule 16 = .ok (.aload_n 0, 1) := by decide +kernel
theorem dX1_addRule_17 : decode cX1_addRule 17 = .ok (.getfield 9, 3) := by decide +kernel
theorem dX1_addRule_20 : decode cX1_addRule 20 = .ok (.iload 4, 2) := by decide +kernel
theorem dX1_addRule_22 : decode cX1_addRule 22 = .ok (.iload_n 1, 1) := by decide +kernel
theorem dX1_addRule_23 : decode cX1_addRule 23 = .ok (.iastore, 1) := by decide +kernel
theorem dX1_addRule_24 : decode cX1_addRule 24 = .ok (.aload_n 0, 1) := by decide +kernel
theorem dX1_addRule_25 : decode cX1_addRule 25 = .ok (.getfield 15, 3) := by decide +kernel
theorem dX1_addRule_28 : decode cX1_addRule 28 = .ok (.iload 4, 2) := by decide +kernel
theorem dX1_addRule_30 : decode cX1_addRule 30 = .ok (.iload_n 2, 1) := by decide +kernel
theorem dX1_addRule_31 : decode cX1_addRule 31 = .ok (.iastore, 1) := by decide +kernel
theorem dX1_addRule_32 : decode cX1_addRule 32 = .ok (.aload_n 0, 1) := by decide +kernel
theorem dX1_addRule_33 : decode cX1_addRule 33 = .ok (.getfield 18, 3) := by decide +kernel
theorem dX1_addRule_36 : decode cX1_addRule 36 = .ok (.iload 4, 2) := by decide +kernel
theorem dX1_addRule_38 : decode cX1_addRule 38 = .ok (.iload_n 3, 1) := by decide +kernel
theorem dX1_addRule_39 : decode cX1_addRule 39 = .ok (.iastore, 1) := by decide +kernel
theorem dX1_addRule_40 : decode cX1_addRule 40 = .ok (.iload 4, 2) := by decide +kernel
theorem dX1_addRule_42 : decode cX1_addRule 42 = .ok (.ireturn, 1) := by decide +kernel
theorem dX1_inferAnew_0 : decode cX1_inferAnew 0 = .ok (.aload_n 0, 1) := by decide +kernel
theorem dX1_inferAnew_1 : decode cX1_inferAnew 1 = .ok (.invokevirtual 41, 3) := by decide +kernel
theorem dX1_inferAnew_4 : decode cX1_inferAnew 4 = .ok (.iconst 1, 1) := by decide +kernel
theorem dX1_inferAnew_5 : decode cX1_inferAnew 5 = .ok (.istore_n 1, 1) := by decide +kernel
theorem dX1_inferAnew_6 : decode cX1_inferAnew 6 = .ok (.iconst 0, 1) := by decide +kernel
theorem dX1_inferAnew_7 : decode cX1_inferAnew 7 = .ok (.istore_n 2, 1) := by decide +kernel
theorem dX1_inferAnew_8 : decode cX1_inferAnew 8 = .ok (.iload_n 1, 1) := by decide +kernel
theorem dX1_inferAnew_9 : decode cX1_inferAnew 9 = .ok (.ifCond .eq 21, 3) := by decide +kernel
theorem dX1_inferAnew_12 : decode cX1_inferAnew 12 = .ok (.iload_n 2, 1) := by decide +kernel
theorem dX1_inferAnew_13 : decode cX1_inferAnew 13 = .ok (.sipush 2304, 3) := by decide +kernel
theorem dX1_inferAnew_16 : decode cX1_inferAnew 16 = .ok (.if_icmp .gt 14, 3) := by decide +kernel
theorem dX1_inferAnew_19 : decode cX1_inferAnew 19 = .ok (.aload_n 0, 1) := by decide +kernel
theorem dX1_inferAnew_20 : decode cX1_inferAnew 20 = .ok (.invokevirtual 44, 3) := by decide +kernel
theorem dX1_inferAnew_23 : decode cX1_inferAnew 23 = .ok (.istore_n 1, 1) := by decide +kernel
theorem dX1_inferAnew_24 : decode cX1_inferAnew 24 = .ok (.iinc 2 1, 3) := by decide +kernel
theorem dX1_inferAnew_27 : decode cX1_inferAnew 27 = .ok (.goto (-19), 3) := by decide +kernel
theorem dX1_inferAnew_30 : decode cX1_inferAnew 30 = .ok (.return_, 1) := by decide +kernel
theorem dX1_takeTold_0 : decode cX1_takeTold 0 = .ok (.iconst 0, 1) := by decide +kernel
theorem dX1_takeTold_1 : decode cX1_takeTold 1 = .ok (.istore_n 1, 1) := by decide +kernel
theorem dX1_takeTold_2 : decode cX1_takeTold 2 = .ok (.iload_n 1, 1) := by decide +kernel
theorem dX1_takeTold_3 : decode cX1_takeTold 3 = .ok (.iconst 4, 1) := by decide +kernel
theorem dX1_takeTold_4 : decode cX1_takeTold 4 = .ok (.if_icmp .ge 32, 3) := by decide +kernel
theorem dX1_takeTold_7 : decode cX1_takeTold 7 = .ok (.iconst 0, 1) := by decide +kernel
theorem dX1_takeTold_8 : decode cX1_takeTold 8 = .ok (.istore_n 2, 1) := by decide +kernel
theorem dX1_takeTold_9 : decode cX1_takeTold 9 = .ok (.iload_n 2, 1) := by decide +kernel
theorem dX1_takeTold_10 : decode cX1_takeTold 10 = .ok (.bipush 24, 2) := by decide +kernel
theorem dX1_takeTold_12 : decode cX1_takeTold 12 = .ok (.if_icmp .ge 18, 3) := by decide +kernel
theorem dX1_takeTold_15 : decode cX1_takeTold 15 = .ok (.aload_n 0, 1) := by decide +kernel
theorem dX1_takeTold_16 : decode cX1_takeTold 16 = .ok (.getfield 27, 3) := by decide +kernel
theorem dX1_takeTold_19 : decode cX1_takeTold 19 = .ok (.iload_n 1, 1) := by decide +kernel
theorem dX1_takeTold_20 : decode cX1_takeTold 20 = .ok (.aaload, 1) := by decide +kernel
theorem dX1_takeTold_21 : decode cX1_takeTold 21 = .ok (.iload_n 2, 1) := by decide +kernel
theorem dX1_takeTold_22 : decode cX1_takeTold 22 = .ok (.iconst 0, 1) := by decide +kernel
theorem dX1_takeTold_23 : decode cX1_takeTold 23 = .ok (.iastore, 1) := by decide +kernel
theorem dX1_takeTold_24 : decode cX1_takeTold 24 = .ok (.iinc 2 1, 3) := by decide +kernel
theorem dX1_takeTold_27 : decode cX1_takeTold 27 = .ok (.goto (-18), 3) := by decide +kernel
theorem dX1_takeTold_30 : decode cX1_takeTold 30 = .ok (.iinc 1 1, 3) := by decide +kernel
theorem dX1_takeTold_33 : decode cX1_takeTold 33 = .ok (.goto (-31), 3) := by decide +kernel
theorem dX1_takeTold_36 : decode cX1_takeTold 36 = .ok (.iconst 0, 1) := by decide +kernel
theorem dX1_takeTold_37 : decode cX1_takeTold 37 = .ok (.istore_n 1, 1) := by decide +kernel
theorem dX1_takeTold_38 : decode cX1_takeTold 38 = .ok (.iload_n 1, 1) := by decide +kernel
theorem dX1_takeTold_39 : decode cX1_takeTold 39 = .ok (.aload_n 0, 1) := by decide +kernel
theorem dX1_takeTold_40 : decode cX1_takeTold 40 = .ok (.getfield 37, 3) := by decide +kernel
theorem dX1_takeTold_43 : decode cX1_takeTold 43 = .ok (.getfield 48, 3) := by decide +kernel
theorem dX1_takeTold_46 : decode cX1_takeTold 46 = .ok (.if_icmp .ge 59, 3) := by decide +kernel
theorem dX1_takeTold_49 : decode cX1_takeTold 49 = .ok (.aload_n 0, 1) := by decide +kernel
theorem dX1_takeTold_50 : decode cX1_takeTold 50 = .ok (.getfield 37, 3) := by decide +kernel
theorem dX1_takeTold_53 : decode cX1_takeTold 53 = .ok (.iload_n 1, 1) := by decide +kernel
theorem dX1_takeTold_54 : decode cX1_takeTold 54 = .ok (.invokevirtual 53, 3) := by decide +kernel
theorem dX1_takeTold_57 : decode cX1_takeTold 57 = .ok (.ifCond .eq 42, 3) := by decide +kernel
theorem dX1_takeTold_60 : decode cX1_takeTold 60 = .ok (.aload_n 0, 1) := by decide +kernel
theorem dX1_takeTold_61 : decode cX1_takeTold 61 = .ok (.getfield 27, 3) := by decide +kernel
theorem dX1_takeTold_64 : decode cX1_takeTold 64 = .ok (.aload_n 0, 1) := by decide +kernel
theorem dX1_takeTold_65 : decode cX1_takeTold 65 = .ok (.getfield 37, 3) := by decide +kernel
theorem dX1_takeTold_68 : decode cX1_takeTold 68 = .ok (.getfield 57, 3) := by decide +kernel
theorem dX1_takeTold_71 : decode cX1_takeTold 71 = .ok (.iload_n 1, 1) := by decide +kernel
theorem dX1_takeTold_72 : decode cX1_takeTold 72 = .ok (.iaload, 1) := by decide +kernel
theorem dX1_takeTold_73 : decode cX1_takeTold 73 = .ok (.aaload, 1) := by decide +kernel
theorem dX1_takeTold_74 : decode cX1_takeTold 74 = .ok (.aload_n 0, 1) := by decide +kernel
theorem dX1_takeTold_75 : decode cX1_takeTold 75 = .ok (.getfield 37, 3) := by decide +kernel
theorem dX1_takeTold_78 : decode cX1_takeTold 78 = .ok (.getfield 60, 3) := by decide +kernel
theorem dX1_takeTold_81 : decode cX1_takeTold 81 = .ok (.iload_n 1, 1) := by decide +kernel
theorem dX1_takeTold_82 : decode cX1_takeTold 82 = .ok (.iaload, 1) := by decide +kernel
theorem dX1_takeTold_83 : decode cX1_takeTold 83 = .ok (.dup2, 1) := by decide +kernel
theorem dX1_takeTold_84 : decode cX1_takeTold 84 = .ok (.iaload, 1) := by decide +kernel
theorem dX1_takeTold_85 : decode cX1_takeTold 85 = .ok (.aload_n 0, 1) := by decide +kernel
theorem dX1_takeTold_86 : decode cX1_takeTold 86 = .ok (.getfield 37, 3) := by decide +kernel
theorem dX1_takeTold_89 : decode cX1_takeTold 89 = .ok (.getfield 63, 3) := by decide +kernel
theorem dX1_takeTold_92 : decode cX1_takeTold 92 = .ok (.iload_n 1, 1) := by decide +kernel
theorem dX1_takeTold_93 : decode cX1_takeTold 93 = .ok (.iaload, 1) := by decide +kernel
theorem dX1_takeTold_94 : decode cX1_takeTold 94 = .ok (.invokestatic 66, 3) := by decide +kernel
theorem dX1_takeTold_97 : decode cX1_takeTold 97 = .ok (.ior, 1) := by decide +kernel
theorem dX1_takeTold_98 : decode cX1_takeTold 98 = .ok (.iastore, 1) := by decide +kernel
theorem dX1_takeTold_99 : decode cX1_takeTold 99 = .ok (.iinc 1 1, 3) := by decide +kernel
theorem dX1_takeTold_102 : decode cX1_takeTold 102 = .ok (.goto (-64), 3) := by decide +kernel
theorem dX1_takeTold_105 : decode cX1_takeTold 105 = .ok (.iconst 0, 1) := by decide +kernel
theorem dX1_takeTold_106 : decode cX1_takeTold 106 = .ok (.istore_n 1, 1) := by decide +kernel
theorem dX1_takeTold_107 : decode cX1_takeTold 107 = .ok (.iload_n 1, 1) := by decide +kernel
theorem dX1_takeTold_108 : decode cX1_takeTold 108 = .ok (.iconst 4, 1) := by decide +kernel
theorem dX1_takeTold_109 : decode cX1_takeTold 109 = .ok (.if_icmp .ge 39, 3) := by decide +kernel
theorem dX1_takeTold_112 : decode cX1_takeTold 112 = .ok (.iconst 0, 1) := by decide +kernel
theorem dX1_takeTold_113 : decode cX1_takeTold 113 = .ok (.istore_n 2, 1) := by decide +kernel
theorem dX1_takeTold_114 : decode cX1_takeTold 114 = .ok (.iload_n 2, 1) := by decide +kernel
theorem dX1_takeTold_115 : decode cX1_takeTold 115 = .ok (.bipush 24, 2) := by decide +kernel
theorem dX1_takeTold_117 : decode cX1_takeTold 117 = .ok (.if_icmp .ge 25, 3) := by decide +kernel
theorem dX1_takeTold_120 : decode cX1_takeTold 120 = .ok (.aload_n 0, 1) := by decide +kernel
theorem dX1_takeTold_121 : decode cX1_takeTold 121 = .ok (.getfield 30, 3) := by decide +kernel
theorem dX1_takeTold_124 : decode cX1_takeTold 124 = .ok (.iload_n 1, 1) := by decide +kernel
theorem dX1_takeTold_125 : decode cX1_takeTold 125 = .ok (.aaload, 1) := by decide +kernel
theorem dX1_takeTold_126 : decode cX1_takeTold 126 = .ok (.iload_n 2, 1) := by decide +kernel
theorem dX1_takeTold_127 : decode cX1_takeTold 127 = .ok (.aload_n 0, 1) := by decide +kernel
theorem dX1_takeTold_128 : decode cX1_takeTold 128 = .ok (.getfield 27, 3) := by decide +kernel
theorem dX1_takeTold_131 : decode cX1_takeTold 131 = .ok (.iload_n 1, 1) := by decide +kernel
theorem dX1_takeTold_132 : decode cX1_takeTold 132 = .ok (.aaload, 1) := by decide +kernel
theorem dX1_takeTold_133 : decode cX1_takeTold 133 = .ok (.iload_n 2, 1) := by decide +kernel
theorem dX1_takeTold_134 : decode cX1_takeTold 134 = .ok (.iaload, 1) := by decide +kernel
theorem dX1_takeTold_135 : decode cX1_takeTold 135 = .ok (.iastore, 1) := by decide +kernel
theorem dX1_takeTold_136 : decode cX1_takeTold 136 = .ok (.iinc 2 1, 3) := by decide +kernel
theorem dX1_takeTold_139 : decode cX1_takeTold 139 = .ok (.goto (-25), 3) := by decide +kernel
theorem dX1_takeTold_142 : decode cX1_takeTold 142 = .ok (.iinc 1 1, 3) := by decide +kernel
theorem dX1_takeTold_145 : decode cX1_takeTold 145 = .ok (.goto (-38), 3) := by decide +kernel
theorem dX1_takeTold_148 : decode cX1_takeTold 148 = .ok (.return_, 1) := by decide +kernel
theorem dX1_inferOnce_0 : decode cX1_inferOnce 0 = .ok (.iconst 0, 1) := by decide +kernel
theorem dX1_inferOnce_1 : decode cX1_inferOnce 1 = .ok (.istore_n 1, 1) := by decide +kernel
theorem dX1_inferOnce_2 : decode cX1_inferOnce 2 = .ok (.iconst 0, 1) := by decide +kernel
theorem dX1_inferOnce_3 : decode cX1_inferOnce 3 = .ok (.istore_n 2, 1) := by decide +kernel
theorem dX1_inferOnce_4 : decode cX1_inferOnce 4 = .ok (.iload_n 2, 1) := by decide +kernel
theorem dX1_inferOnce_5 : decode cX1_inferOnce 5 = .ok (.aload_n 0, 1) := by decide +kernel
theorem dX1_inferOnce_6 : decode cX1_inferOnce 6 = .ok (.getfield 33, 3) := by decide +kernel
theorem dX1_inferOnce_9 : decode cX1_inferOnce 9 = .ok (.if_icmp .ge 107, 3) := by decide +kernel
theorem dX1_inferOnce_12 : decode cX1_inferOnce 12 = .ok (.iconst 0, 1) := by decide +kernel
theorem dX1_inferOnce_13 : decode cX1_inferOnce 13 = .ok (.istore_n 3, 1) := by decide +kernel
theorem dX1_inferOnce_14 : decode cX1_inferOnce 14 = .ok (.iload_n 3, 1) := by decide +kernel
theorem dX1_inferOnce_15 : decode cX1_inferOnce 15 = .ok (.bipush 24, 2) := by decide +kernel
theorem dX1_inferOnce_17 : decode cX1_inferOnce 17 = .ok (.if_icmp .ge 93, 3) := by decide +kernel
theorem dX1_inferOnce_20 : decode cX1_inferOnce 20 = .ok (.aload_n 0, 1) := by decide +kernel
theorem dX1_inferOnce_21 : decode cX1_inferOnce 21 = .ok (.getfield 21, 3) := by decide +kernel
theorem dX1_inferOnce_24 : decode cX1_inferOnce 24 = .ok (.iload_n 2, 1) := by decide +kernel
theorem dX1_inferOnce_25 : decode cX1_inferOnce 25 = .ok (.baload, 1) := by decide +kernel
theorem dX1_inferOnce_26 : decode cX1_inferOnce 26 = .ok (.ifCond .ne 84, 3) := by decide +kernel
theorem dX1_inferOnce_29 : decode cX1_inferOnce 29 = .ok (.aload_n 0, 1) := by decide +kernel
theorem dX1_inferOnce_30 : decode cX1_inferOnce 30 = .ok (.getfield 30, 3) := by decide +kernel
theorem dX1_inferOnce_33 : decode cX1_inferOnce 33 = .ok (.aload_n 0, 1) := by decide +kernel
theorem dX1_inferOnce_34 : decode cX1_inferOnce 34 = .ok (.getfield 18, 3) := by decide +kernel
theorem dX1_inferOnce_37 : decode cX1_inferOnce 37 = .ok (.iload_n 2, 1) := by decide +kernel
theorem dX1_inferOnce_38 : decode cX1_inferOnce 38 = .ok (.iaload, 1) := by decide +kernel
theorem dX1_inferOnce_39 : decode cX1_inferOnce 39 = .ok (.aaload, 1) := by decide +kernel
theorem dX1_inferOnce_40 : decode cX1_inferOnce 40 = .ok (.iload_n 3, 1) := by decide +kernel
theorem dX1_inferOnce_41 : decode cX1_inferOnce 41 = .ok (.iaload, 1) := by decide +kernel
theorem dX1_inferOnce_42 : decode cX1_inferOnce 42 = .ok (.istore 4, 2) := by decide +kernel
theorem dX1_inferOnce_44 : decode cX1_inferOnce 44 = .ok (.iload 4, 2) := by decide +kernel
theorem dX1_inferOnce_46 : decode cX1_inferOnce 46 = .ok (.aload_n 0, 1) := by decide +kernel
theorem dX1_inferOnce_47 : decode cX1_inferOnce 47 = .ok (.aload_n 0, 1) := by decide +kernel
theorem dX1_inferOnce_48 : decode cX1_inferOnce 48 = .ok (.getfield 15, 3) := by decide +kernel
theorem dX1_inferOnce_51 : decode cX1_inferOnce 51 = .ok (.iload_n 2, 1) := by decide +kernel
theorem dX1_inferOnce_52 : decode cX1_inferOnce 52 = .ok (.iaload, 1) := by decide +kernel
theorem dX1_inferOnce_53 : decode cX1_inferOnce 53 = .ok (.aload_n 0, 1) := by decide +kernel
theorem dX1_inferOnce_54 : decode cX1_inferOnce 54 = .ok (.getfield 30, 3) := by decide +kernel
theorem dX1_inferOnce_57 : decode cX1_inferOnce 57 = .ok (.aload_n 0, 1) := by decide +kernel
theorem dX1_inferOnce_58 : decode cX1_inferOnce 58 = .ok (.getfield 9, 3) := by decide +kernel
theorem dX1_inferOnce_61 : decode cX1_inferOnce 61 = .ok (.iload_n 2, 1) := by decide +kernel
theorem dX1_inferOnce_62 : decode cX1_inferOnce 62 = .ok (.iaload, 1) := by decide +kernel
theorem dX1_inferOnce_63 : decode cX1_inferOnce 63 = .ok (.aaload, 1) := by decide +kernel
theorem dX1_inferOnce_64 : decode cX1_inferOnce 64 = .ok (.iload_n 3, 1) := by decide +kernel
theorem dX1_inferOnce_65 : decode cX1_inferOnce 65 = .ok (.iaload, 1) := by decide +kernel
theorem dX1_inferOnce_66 : decode cX1_inferOnce 66 = .ok (.invokevirtual 70, 3) := by decide +kernel
theorem dX1_inferOnce_69 : decode cX1_inferOnce 69 = .ok (.ior, 1) := by decide +kernel
theorem dX1_inferOnce_70 : decode cX1_inferOnce 70 = .ok (.istore 5, 2) := by decide +kernel
theorem dX1_inferOnce_72 : decode cX1_inferOnce 72 = .ok (.aload_n 0, 1) := by decide +kernel
theorem dX1_inferOnce_73 : decode cX1_inferOnce 73 = .ok (.getfield 30, 3) := by decide +kernel
theorem dX1_inferOnce_76 : decode cX1_inferOnce 76 = .ok (.aload_n 0, 1) := by decide +kernel
theorem dX1_inferOnce_77 : decode cX1_inferOnce 77 = .ok (.getfield 18, 3) := by decide +kernel
theorem dX1_inferOnce_80 : decode cX1_inferOnce 80 = .ok (.iload_n 2, 1) := by decide +kernel
theorem dX1_inferOnce_81 : decode cX1_inferOnce 81 = .ok (.iaload, 1) := by decide +kernel
theorem dX1_inferOnce_82 : decode cX1_inferOnce 82 = .ok (.aaload, 1) := by decide +kernel
theorem dX1_inferOnce_83 : decode cX1_inferOnce 83 = .ok (.iload_n 3, 1) := by decide +kernel
theorem dX1_inferOnce_84 : decode cX1_inferOnce 84 = .ok (.iload 5, 2) := by decide +kernel
theorem dX1_inferOnce_86 : decode cX1_inferOnce 86 = .ok (.iastore, 1) := by decide +kernel
theorem dX1_inferOnce_87 : decode cX1_inferOnce 87 = .ok (.iload_n 1, 1) := by decide +kernel
theorem dX1_inferOnce_88 : decode cX1_inferOnce 88 = .ok (.ifCond .ne 10, 3) := by decide +kernel
theorem dX1_inferOnce_91 : decode cX1_inferOnce 91 = .ok (.iload 5, 2) := by decide +kernel
theorem dX1_inferOnce_93 : decode cX1_inferOnce 93 = .ok (.iload 4, 2) := by decide +kernel
theorem dX1_inferOnce_95 : decode cX1_inferOnce 95 = .ok (.if_icmp .eq 7, 3) := by decide +kernel
theorem dX1_inferOnce_98 : decode cX1_inferOnce 98 = .ok (.iconst 1, 1) := by decide +kernel
theorem dX1_inferOnce_99 : decode cX1_inferOnce 99 = .ok (.goto 4, 3) := by decide +kernel
theorem dX1_inferOnce_102 : decode cX1_inferOnce 102 = .ok (.iconst 0, 1) := by decide +kernel
theorem dX1_inferOnce_103 : decode cX1_inferOnce 103 = .ok (.istore_n 1, 1) := by decide +kernel
theorem dX1_inferOnce_104 : decode cX1_inferOnce 104 = .ok (.iinc 3 1, 3) := by decide +kernel
theorem dX1_inferOnce_107 : decode cX1_inferOnce 107 = .ok (.goto (-93), 3) := by decide +kernel
theorem dX1_inferOnce_110 : decode cX1_inferOnce 110 = .ok (.iinc 2 1, 3) := by decide +kernel
theorem dX1_inferOnce_113 : decode cX1_inferOnce 113 = .ok (.goto (-109), 3) := by decide +kernel
theorem dX1_inferOnce_116 : decode cX1_inferOnce 116 = .ok (.iload_n 1, 1) := by decide +kernel
theorem dX1_inferOnce_117 : decode cX1_inferOnce 117 = .ok (.ireturn, 1) := by decide +kernel
theorem dX1_forth_0 : decode cX1_forth 0 = .ok (.iconst 0, 1) := by decide +kernel
theorem dX1_forth_1 : decode cX1_forth 1 = .ok (.istore_n 3, 1) := by decide +kernel
theorem dX1_forth_2 : decode cX1_forth 2 = .ok (.iconst 0, 1) := by decide +kernel
theorem dX1_forth_3 : decode cX1_forth 3 = .ok (.istore 4, 2) := by decide +kernel
theorem dX1_forth_5 : decode cX1_forth 5 = .ok (.iload 4, 2) := by decide +kernel
theorem dX1_forth_7 : decode cX1_forth 7 = .ok (.bipush 24, 2) := by decide +kernel
theorem dX1_forth_9 : decode cX1_forth 9 = .ok (.if_icmp .ge 37, 3) := by decide +kernel
theorem dX1_forth_12 : decode cX1_forth 12 = .ok (.iload_n 2, 1) := by decide +kernel
theorem dX1_forth_13 : decode cX1_forth 13 = .ok (.iload 4, 2) := by decide +kernel
theorem dX1_forth_15 : decode cX1_forth 15 = .ok (.iushr, 1) := by decide +kernel
theorem dX1_forth_16 : decode cX1_forth 16 = .ok (.ifCond .eq 30, 3) := by decide +kernel
theorem dX1_forth_19 : decode cX1_forth 19 = .ok (.iload_n 2, 1) := by decide +kernel
theorem dX1_forth_20 : decode cX1_forth 20 = .ok (.iload 4, 2) := by decide +kernel
theorem dX1_forth_22 : decode cX1_forth 22 = .ok (.invokestatic 74, 3) := by decide +kernel
theorem dX1_forth_25 : decode cX1_forth 25 = .ok (.ifCond .eq 15, 3) := by decide +kernel
theorem dX1_forth_28 : decode cX1_forth 28 = .ok (.iload_n 3, 1) := by decide +kernel
theorem dX1_forth_29 : decode cX1_forth 29 = .ok (.aload_n 0, 1) := by decide +kernel
theorem dX1_forth_30 : decode cX1_forth 30 = .ok (.getfield 30, 3) := by decide +kernel
theorem dX1_forth_33 : decode cX1_forth 33 = .ok (.iload_n 1, 1) := by decide +kernel
theorem dX1_forth_34 : decode cX1_forth 34 = .ok (.aaload, 1) := by decide +kernel
theorem dX1_forth_35 : decode cX1_forth 35 = .ok (.iload 4, 2) := by decide +kernel
theorem dX1_forth_37 : decode cX1_forth 37 = .ok (.iaload, 1) := by decide +kernel
theorem dX1_forth_38 : decode cX1_forth 38 = .ok (.ior, 1) := by decide +kernel
theorem dX1_forth_39 : decode cX1_forth 39 = .ok (.istore_n 3, 1) := by decide +kernel
theorem dX1_forth_40 : decode cX1_forth 40 = .ok (.iinc 4 1, 3) := by decide +kernel
theorem dX1_forth_43 : decode cX1_forth 43 = .ok (.goto (-38), 3) := by decide +kernel
theorem dX1_forth_46 : decode cX1_forth 46 = .ok (.iload_n 3, 1) := by decide +kernel
theorem dX1_forth_47 : decode cX1_forth 47 = .ok (.ireturn, 1) := by decide +kernel
theorem dX1_backwards_0 : decode cX1_backwards 0 = .ok (.iconst 0, 1) := by decide +kernel
theorem dX1_backwards_1 : decode cX1_backwards 1 = .ok (.istore_n 3, 1) := by decide +kernel
theorem dX1_backwards_2 : decode cX1_backwards 2 = .ok (.iconst 0, 1) := by decide +kernel
theorem dX1_backwards_3 : decode cX1_backwards 3 = .ok (.istore 4, 2) := by decide +kernel
theorem dX1_backwards_5 : decode cX1_backwards 5 = .ok (.iload 4, 2) := by decide +kernel
theorem dX1_backwards_7 : decode cX1_backwards 7 = .ok (.bipush 24, 2) := by decide +kernel
theorem dX1_backwards_9 : decode cX1_backwards 9 = .ok (.if_icmp .ge 31, 3) := by decide +kernel
theorem dX1_backwards_12 : decode cX1_backwards 12 = .ok (.aload_n 0, 1) := by decide +kernel
theorem dX1_backwards_13 : decode cX1_backwards 13 = .ok (.getfield 30, 3) := by decide +kernel
theorem dX1_backwards_16 : decode cX1_backwards 16 = .ok (.iload_n 1, 1) := by decide +kernel
theorem dX1_backwards_17 : decode cX1_backwards 17 = .ok (.aaload, 1) := by decide +kernel
theorem dX1_backwards_18 : decode cX1_backwards 18 = .ok (.iload 4, 2) := by decide +kernel
theorem dX1_backwards_20 : decode cX1_backwards 20 = .ok (.iaload, 1) := by decide +kernel
theorem dX1_backwards_21 : decode cX1_backwards 21 = .ok (.iload_n 2, 1) := by decide +kernel
theorem dX1_backwards_22 : decode cX1_backwards 22 = .ok (.iand, 1) := by decide +kernel
theorem dX1_backwards_23 : decode cX1_backwards 23 = .ok (.ifCond .eq 11, 3) := by decide +kernel
theorem dX1_backwards_26 : decode cX1_backwards 26 = .ok (.iload_n 3, 1) := by decide +kernel
theorem dX1_backwards_27 : decode cX1_backwards 27 = .ok (.iload 4, 2) := by decide +kernel
theorem dX1_backwards_29 : decode cX1_backwards 29 = .ok (.invokestatic 66, 3) := by decide +kernel
theorem dX1_backwards_32 : decode cX1_backwards 32 = .ok (.ior, 1) := by decide +kernel
theorem dX1_backwards_33 : decode cX1_backwards 33 = .ok (.istore_n 3, 1) := by decide +kernel
theorem dX1_backwards_34 : decode cX1_backwards 34 = .ok (.iinc 4 1, 3) := by decide +kernel
theorem dX1_backwards_37 : decode cX1_backwards 37 = .ok (.goto (-32), 3) := by decide +kernel
theorem dX1_backwards_40 : decode cX1_backwards 40 = .ok (.iload_n 3, 1) := by decide +kernel
theorem dX1_backwards_41 : decode cX1_backwards 41 = .ok (.ireturn, 1) := by decide +kernel
theorem dX1_countInferred_0 : decode cX1_countInferred 0 = .ok (.iconst 0, 1) := by decide +kernel
theorem dX1_countInferred_1 : decode cX1_countInferred 1 = .ok (.istore_n 1, 1) := by decide +kernel
theorem dX1_countInferred_2 : decode cX1_countInferred 2 = .ok (.iconst 0, 1) := by decide +kernel
theorem dX1_countInferred_3 : decode cX1_countInferred 3 = .ok (.istore_n 2, 1) := by decide +kernel
theorem dX1_countInferred_4 : decode cX1_countInferred 4 = .ok (.iload_n 2, 1) := by decide +kernel
theorem dX1_countInferred_5 : decode cX1_countInferred 5 = .ok (.iconst 4, 1) := by decide +kernel
theorem dX1_countInferred_6 : decode cX1_countInferred 6 = .ok (.if_icmp .ge 48, 3) := by decide +kernel
theorem dX1_countInferred_9 : decode cX1_countInferred 9 = .ok (.iconst 0, 1) := by decide +kernel
theorem dX1_countInferred_10 : decode cX1_countInferred 10 = .ok (.istore_n 3, 1) := by decide +kernel
theorem dX1_countInferred_11 : decode cX1_countInferred 11 = .ok (.iload_n 3, 1) := by decide +kernel
theorem dX1_countInferred_12 : decode cX1_countInferred 12 = .ok (.bipush 24, 2) := by decide +kernel
theorem dX1_countInferred_14 : decode cX1_countInferred 14 = .ok (.if_icmp .ge 34, 3) := by decide +kernel
theorem dX1_countInferred_17 : decode cX1_countInferred 17 = .ok (.iload_n 1, 1) := by decide +kernel
theorem dX1_countInferred_18 : decode cX1_countInferred 18 = .ok (.aload_n 0, 1) := by decide +kernel
theorem dX1_countInferred_19 : decode cX1_countInferred 19 = .ok (.getfield 30, 3) := by decide +kernel
theorem dX1_countInferred_22 : decode cX1_countInferred 22 = .ok (.iload_n 2, 1) := by decide +kernel
theorem dX1_countInferred_23 : decode cX1_countInferred 23 = .ok (.aaload, 1) := by decide +kernel
theorem dX1_countInferred_24 : decode cX1_countInferred 24 = .ok (.iload_n 3, 1) := by decide +kernel
theorem dX1_countInferred_25 : decode cX1_countInferred 25 = .ok (.iaload, 1) := by decide +kernel
theorem dX1_countInferred_26 : decode cX1_countInferred 26 = .ok (.aload_n 0, 1) := by decide +kernel
theorem dX1_countInferred_27 : decode cX1_countInferred 27 = .ok (.getfield 27, 3) := by decide +kernel
theorem dX1_countInferred_30 : decode cX1_countInferred 30 = .ok (.iload_n 2, 1) := by decide +kernel
theorem dX1_countInferred_31 : decode cX1_countInferred 31 = .ok (.aaload, 1) := by decide +kernel
theorem dX1_countInferred_32 : decode cX1_countInferred 32 = .ok (.iload_n 3, 1) := by decide +kernel
theorem dX1_countInferred_33 : decode cX1_countInferred 33 = .ok (.iaload, 1) := by decide +kernel
theorem dX1_countInferred_34 : decode cX1_countInferred 34 = .ok (.iconst (-1), 1) := by decide +kernel
theorem dX1_countInferred_35 : decode cX1_countInferred 35 = .ok (.ixor, 1) := by decide +kernel
theorem dX1_countInferred_36 : decode cX1_countInferred 36 = .ok (.iand, 1) := by decide +kernel
theorem dX1_countInferred_37 : decode cX1_countInferred 37 = .ok (.invokestatic 78, 3) := by decide +kernel
theorem dX1_countInferred_40 : decode cX1_countInferred 40 = .ok (.iadd, 1) := by decide +kernel
theorem dX1_countInferred_41 : decode cX1_countInferred 41 = .ok (.istore_n 1, 1) := by decide +kernel
theorem dX1_countInferred_42 : decode cX1_countInferred 42 = .ok (.iinc 3 1, 3) := by decide +kernel
theorem dX1_countInferred_45 : decode cX1_countInferred 45 = .ok (.goto (-34), 3) := by decide +kernel
theorem dX1_countInferred_48 : decode cX1_countInferred 48 = .ok (.iinc 2 1, 3) := by decide +kernel
theorem dX1_countInferred_51 : decode cX1_countInferred 51 = .ok (.goto (-47), 3) := by decide +kernel
theorem dX1_countInferred_54 : decode cX1_countInferred 54 = .ok (.iload_n 1, 1) := by decide +kernel
theorem dX1_countInferred_55 : decode cX1_countInferred 55 = .ok (.ireturn, 1) := by decide +kernel
theorem dX1_countWays_0 : decode cX1_countWays 0 = .ok (.iconst 0, 1) := by decide +kernel
theorem dX1_countWays_1 : decode cX1_countWays 1 = .ok (.istore 4, 2) := by decide +kernel
theorem dX1_countWays_3 : decode cX1_countWays 3 = .ok (.iconst 0, 1) := by decide +kernel
theorem dX1_countWays_4 : decode cX1_countWays 4 = .ok (.istore 5, 2) := by decide +kernel
theorem dX1_countWays_6 : decode cX1_countWays 6 = .ok (.iload 5, 2) := by decide +kernel
theorem dX1_countWays_8 : decode cX1_countWays 8 = .ok (.aload_n 0, 1) := by decide +kernel
theorem dX1_countWays_9 : decode cX1_countWays 9 = .ok (.getfield 33, 3) := by decide +kernel
theorem dX1_countWays_12 : decode cX1_countWays 12 = .ok (.if_icmp .ge 68, 3) := by decide +kernel
theorem dX1_countWays_15 : decode cX1_countWays 15 = .ok (.aload_n 0, 1) := by decide +kernel
theorem dX1_countWays_16 : decode cX1_countWays 16 = .ok (.getfield 21, 3) := by decide +kernel
theorem dX1_countWays_19 : decode cX1_countWays 19 = .ok (.iload 5, 2) := by decide +kernel
theorem dX1_countWays_21 : decode cX1_countWays 21 = .ok (.baload, 1) := by decide +kernel
theorem dX1_countWays_22 : decode cX1_countWays 22 = .ok (.ifCond .ne 52, 3) := by decide +kernel
theorem dX1_countWays_25 : decode cX1_countWays 25 = .ok (.aload_n 0, 1) := by decide +kernel
theorem dX1_countWays_26 : decode cX1_countWays 26 = .ok (.getfield 18, 3) := by decide +kernel
theorem dX1_countWays_29 : decode cX1_countWays 29 = .ok (.iload 5, 2) := by decide +kernel
theorem dX1_countWays_31 : decode cX1_countWays 31 = .ok (.iaload, 1) := by decide +kernel
theorem dX1_countWays_32 : decode cX1_countWays 32 = .ok (.iload_n 2, 1) := by decide +kernel
theorem dX1_countWays_33 : decode cX1_countWays 33 = .ok (.if_icmp .ne 41, 3) := by decide +kernel
theorem dX1_countWays_36 : decode cX1_countWays 36 = .ok (.iload 4, 2) := by decide +kernel
theorem dX1_countWays_38 : decode cX1_countWays 38 = .ok (.aload_n 0, 1) := by decide +kernel
theorem dX1_countWays_39 : decode cX1_countWays 39 = .ok (.getfield 30, 3) := by decide +kernel
theorem dX1_countWays_42 : decode cX1_countWays 42 = .ok (.aload_n 0, 1) := by decide +kernel
theorem dX1_countWays_43 : decode cX1_countWays 43 = .ok (.getfield 9, 3) := by decide +kernel
theorem dX1_countWays_46 : decode cX1_countWays 46 = .ok (.iload 5, 2) := by decide +kernel
theorem dX1_countWays_48 : decode cX1_countWays 48 = .ok (.iaload, 1) := by decide +kernel
theorem dX1_countWays_49 : decode cX1_countWays 49 = .ok (.aaload, 1) := by decide +kernel
theorem dX1_countWays_50 : decode cX1_countWays 50 = .ok (.iload_n 1, 1) := by decide +kernel
theorem dX1_countWays_51 : decode cX1_countWays 51 = .ok (.iaload, 1) := by decide +kernel
theorem dX1_countWays_52 : decode cX1_countWays 52 = .ok (.aload_n 0, 1) := by decide +kernel
theorem dX1_countWays_53 : decode cX1_countWays 53 = .ok (.aload_n 0, 1) := by decide +kernel
theorem dX1_countWays_54 : decode cX1_countWays 54 = .ok (.getfield 15, 3) := by decide +kernel
theorem dX1_countWays_57 : decode cX1_countWays 57 = .ok (.iload 5, 2) := by decide +kernel
theorem dX1_countWays_59 : decode cX1_countWays 59 = .ok (.iaload, 1) := by decide +kernel
theorem dX1_countWays_60 : decode cX1_countWays 60 = .ok (.iload_n 3, 1) := by decide +kernel
theorem dX1_countWays_61 : decode cX1_countWays 61 = .ok (.invokestatic 66, 3) := by decide +kernel
theorem dX1_countWays_64 : decode cX1_countWays 64 = .ok (.invokevirtual 83, 3) := by decide +kernel
theorem dX1_countWays_67 : decode cX1_countWays 67 = .ok (.iand, 1) := by decide +kernel
theorem dX1_countWays_68 : decode cX1_countWays 68 = .ok (.invokestatic 78, 3) := by decide +kernel
theorem dX1_countWays_71 : decode cX1_countWays 71 = .ok (.iadd, 1) := by decide +kernel
theorem dX1_countWays_72 : decode cX1_countWays 72 = .ok (.istore 4, 2) := by decide +kernel
theorem dX1_countWays_74 : decode cX1_countWays 74 = .ok (.iinc 5 1, 3) := by decide +kernel
theorem dX1_countWays_77 : decode cX1_countWays 77 = .ok (.goto (-71), 3) := by decide +kernel
theorem dX1_countWays_80 : decode cX1_countWays 80 = .ok (.iload 4, 2) := by decide +kernel
theorem dX1_countWays_82 : decode cX1_countWays 82 = .ok (.ireturn, 1) := by decide +kernel
theorem dX2_init_0 : decode cX2_init 0 = .ok (.aload_n 0, 1) := by decide +kernel
theorem dX2_init_1 : decode cX2_init 1 = .ok (.invokespecial 3, 3) := by decide +kernel
theorem dX2_init_4 : decode cX2_init 4 = .ok (.aload_n 0, 1) := by decide +kernel
theorem dX2_init_5 : decode cX2_init 5 = .ok (.iconst 4, 1) := by decide +kernel
theorem dX2_init_6 : decode cX2_init 6 = .ok (.newarray .boolean, 2) := by decide +kernel
theorem dX2_init_8 : decode cX2_init 8 = .ok (.putfield 9, 3) := by decide +kernel
theorem dX2_init_11 : decode cX2_init 11 = .ok (.aload_n 0, 1) := by decide +kernel
theorem dX2_init_12 : decode cX2_init 12 = .ok (.iconst 4, 1) := by decide +kernel
theorem dX2_init_13 : decode cX2_init 13 = .ok (.newarray .int, 2) := by decide +kernel
theorem dX2_init_15 : decode cX2_init 15 = .ok (.putfield 15, 3) := by decide +kernel
theorem dX2_init_18 : decode cX2_init 18 = .ok (.aload_n 0, 1) := by decide +kernel
theorem dX2_init_19 : decode cX2_init 19 = .ok (.iconst 4, 1) := by decide +kernel
theorem dX2_init_20 : decode cX2_init 20 = .ok (.newarray .int, 2) := by decide +kernel
theorem dX2_init_22 : decode cX2_init 22 = .ok (.putfield 19, 3) := by decide +kernel
theorem dX2_init_25 : decode cX2_init 25 = .ok (.aload_n 0, 1) := by decide +kernel
theorem dX2_init_26 : decode cX2_init 26 = .ok (.aload_n 1, 1) := by decide +kernel
theorem dX2_init_27 : decode cX2_init 27 = .ok (.putfield 22, 3) := by decide +kernel
theorem dX2_init_30 : decode cX2_init 30 = .ok (.iconst 0, 1) := by decide +kernel
theorem dX2_init_31 : decode cX2_init 31 = .ok (.istore_n 2, 1) := by decide +kernel
theorem dX2_init_32 : decode cX2_init 32 = .ok (.iload_n 2, 1) := by decide +kernel
theorem dX2_init_33 : decode cX2_init 33 = .ok (.iconst 4, 1) := by decide +kernel
theorem dX2_init_34 : decode cX2_init 34 = .ok (.if_icmp .ge 16, 3) := by decide +kernel
theorem dX2_init_37 : decode cX2_init 37 = .ok (.aload_n 0, 1) := by decide +kernel
theorem dX2_init_38 : decode cX2_init 38 = .ok (.getfield 15, 3) := by decide +kernel
theorem dX2_init_41 : decode cX2_init 41 = .ok (.iload_n 2, 1) := by decide +kernel
theorem dX2_init_42 : decode cX2_init 42 = .ok (.iconst (-1), 1) := by decide +kernel
theorem dX2_init_43 : decode cX2_init 43 = .ok (.iastore, 1) := by decide +kernel
theorem dX2_init_44 : decode cX2_init 44 = .ok (.iinc 2 1, 3) := by decide +kernel
theorem dX2_init_47 : decode cX2_init 47 = .ok (.goto (-15), 3) := by decide +kernel
theorem dX2_init_50 : decode cX2_init 50 = .ok (.return_, 1) := by decide +kernel
theorem dX2_isTaken_0 : decode cX2_isTaken 0 = .ok (.aload_n 0, 1) := by decide +kernel
theorem dX2_isTaken_1 : decode cX2_isTaken 1 = .ok (.getfield 9, 3) := by decide +kernel
theorem dX2_isTaken_4 : decode cX2_isTaken 4 = .ok (.iload_n 1, 1) := by decide +kernel
theorem dX2_isTaken_5 : decode cX2_isTaken 5 = .ok (.baload, 1) := by decide +kernel
theorem dX2_isTaken_6 : decode cX2_isTaken 6 = .ok (.ifCond .ne 5, 3) := by decide +kernel
theorem dX2_isTaken_9 : decode cX2_isTaken 9 = .ok (.iconst 0, 1) := by decide +kernel
theorem dX2_isTaken_10 : decode cX2_isTaken 10 = .ok (.ireturn, 1) := by decide +kernel
theorem dX2_isTaken_11 : decode cX2_isTaken 11 = .ok (.iconst 0, 1) := by decide +kernel
theorem dX2_isTaken_12 : decode cX2_isTaken 12 = .ok (.istore 4, 2) := by decide +kernel
theorem dX2_isTaken_14 : decode cX2_isTaken 14 = .ok (.iload 4, 2) := by decide +kernel
theorem dX2_isTaken_16 : decode cX2_isTaken 16 = .ok (.aload_n 0, 1) := by decide +kernel
theorem dX2_isTaken_17 : decode cX2_isTaken 17 = .ok (.getfield 22, 3) := by decide +kernel
theorem dX2_isTaken_20 : decode cX2_isTaken 20 = .ok (.getfield 26, 3) := by decide +kernel
theorem dX2_isTaken_23 : decode cX2_isTaken 23 = .ok (.if_icmp .ge 57, 3) := by decide +kernel
theorem dX2_isTaken_26 : decode cX2_isTaken 26 = .ok (.iload 4, 2) := by decide +kernel
theorem dX2_isTaken_28 : decode cX2_isTaken 28 = .ok (.iload_n 3, 1) := by decide +kernel
theorem dX2_isTaken_29 : decode cX2_isTaken 29 = .ok (.if_icmp .eq 45, 3) := by decide +kernel
theorem dX2_isTaken_32 : decode cX2_isTaken 32 = .ok (.aload_n 0, 1) := by decide +kernel
theorem dX2_isTaken_33 : decode cX2_isTaken 33 = .ok (.getfield 22, 3) := by decide +kernel
theorem dX2_isTaken_36 : decode cX2_isTaken 36 = .ok (.iload 4, 2) := by decide +kernel
theorem dX2_isTaken_38 : decode cX2_isTaken 38 = .ok (.invokevirtual 32, 3) := by decide +kernel
theorem dX2_isTaken_41 : decode cX2_isTaken 41 = .ok (.ifCond .eq 33, 3) := by decide +kernel
theorem dX2_isTaken_44 : decode cX2_isTaken 44 = .ok (.aload_n 0, 1) := by decide +kernel
theorem dX2_isTaken_45 : decode cX2_isTaken 45 = .ok (.getfield 22, 3) := by decide +kernel
theorem dX2_isTaken_48 : decode cX2_isTaken 48 = .ok (.getfield 36, 3) := by decide +kernel
theorem dX2_isTaken_51 : decode cX2_isTaken 51 = .ok (.iload 4, 2) := by decide +kernel
theorem dX2_isTaken_53 : decode cX2_isTaken 53 = .ok (.iaload, 1) := by decide +kernel
theorem dX2_isTaken_54 : decode cX2_isTaken 54 = .ok (.iload_n 1, 1) := by decide +kernel
theorem dX2_isTaken_55 : decode cX2_isTaken 55 = .ok (.if_icmp .ne 19, 3) := by decide +kernel
theorem dX2_isTaken_58 : decode cX2_isTaken 58 = .ok (.aload_n 0, 1) := by decide +kernel
theorem dX2_isTaken_59 : decode cX2_isTaken 59 = .ok (.getfield 22, 3) := by decide +kernel
theorem dX2_isTaken_62 : decode cX2_isTaken 62 = .ok (.getfield 39, 3) := by decide +kernel
theorem dX2_isTaken_65 : decode cX2_isTaken 65 = .ok (.iload 4, 2) := by decide +kernel
theorem dX2_isTaken_67 : decode cX2_isTaken 67 = .ok (.iaload, 1) := by decide +kernel
theorem dX2_isTaken_68 : decode cX2_isTaken 68 = .ok (.iload_n 2, 1) := by decide +kernel
theorem dX2_isTaken_69 : decode cX2_isTaken 69 = .ok (.if_icmp .ne 5, 3) := by decide +kernel
theorem dX2_isTaken_72 : decode cX2_isTaken 72 = .ok (.iconst 1, 1) := by decide +kernel
theorem dX2_isTaken_73 : decode cX2_isTaken 73 = .ok (.ireturn, 1) := by decide +kernel
theorem dX2_isTaken_74 : decode cX2_isTaken 74 = .ok (.iinc 4 1, 3) := by decide +kernel
theorem dX2_isTaken_77 : decode cX2_isTaken 77 = .ok (.goto (-63), 3) := by decide +kernel
theorem dX2_isTaken_80 : decode cX2_isTaken 80 = .ok (.iconst 0, 1) := by decide +kernel
theorem dX2_isTaken_81 : decode cX2_isTaken 81 = .ok (.ireturn, 1) := by decide +kernel
theorem dX2_hasTwins_0 : decode cX2_hasTwins 0 = .ok (.aload_n 0, 1) := by decide +kernel
theorem dX2_hasTwins_1 : decode cX2_hasTwins 1 = .ok (.getfield 22, 3) := by decide +kernel
theorem dX2_hasTwins_4 : decode cX2_hasTwins 4 = .ok (.iload_n 1, 1) := by decide +kernel
theorem dX2_hasTwins_5 : decode cX2_hasTwins 5 = .ok (.invokevirtual 42, 3) := by decide +kernel
theorem dX2_hasTwins_8 : decode cX2_hasTwins 8 = .ok (.istore_n 3, 1) := by decide +kernel
theorem dX2_hasTwins_9 : decode cX2_hasTwins 9 = .ok (.iconst 0, 1) := by decide +kernel
theorem dX2_hasTwins_10 : decode cX2_hasTwins 10 = .ok (.istore 4, 2) := by decide +kernel
theorem dX2_hasTwins_12 : decode cX2_hasTwins 12 = .ok (.iload 4, 2) := by decide +kernel
theorem dX2_hasTwins_14 : decode cX2_hasTwins 14 = .ok (.bipush 24, 2) := by decide +kernel
theorem dX2_hasTwins_16 : decode cX2_hasTwins 16 = .ok (.if_icmp .ge 63, 3) := by decide +kernel
theorem dX2_hasTwins_19 : decode cX2_hasTwins 19 = .ok (.iload 4, 2) := by decide +kernel
theorem dX2_hasTwins_21 : decode cX2_hasTwins 21 = .ok (.aload_n 2, 1) := by decide +kernel
theorem dX2_hasTwins_22 : decode cX2_hasTwins 22 = .ok (.arraylength, 1) := by decide +kernel
theorem dX2_hasTwins_23 : decode cX2_hasTwins 23 = .ok (.if_icmp .ge 56, 3) := by decide +kernel
theorem dX2_hasTwins_26 : decode cX2_hasTwins 26 = .ok (.iconst 0, 1) := by decide +kernel
theorem dX2_hasTwins_27 : decode cX2_hasTwins 27 = .ok (.istore 5, 2) := by decide +kernel
theorem dX2_hasTwins_29 : decode cX2_hasTwins 29 = .ok (.iload 5, 2) := by decide +kernel
theorem dX2_hasTwins_31 : decode cX2_hasTwins 31 = .ok (.iload 4, 2) := by decide +kernel
theorem dX2_hasTwins_33 : decode cX2_hasTwins 33 = .ok (.if_icmp .ge 40, 3) := by decide +kernel
theorem dX2_hasTwins_36 : decode cX2_hasTwins 36 = .ok (.iload_n 3, 1) := by decide +kernel
theorem dX2_hasTwins_37 : decode cX2_hasTwins 37 = .ok (.iload 4, 2) := by decide +kernel
theorem dX2_hasTwins_39 : decode cX2_hasTwins 39 = .ok (.invokestatic 46, 3) := by decide +kernel
theorem dX2_hasTwins_42 : decode cX2_hasTwins 42 = .ok (.ifCond .eq 25, 3) := by decide +kernel
theorem dX2_hasTwins_45 : decode cX2_hasTwins 45 = .ok (.iload_n 3, 1) := by decide +kernel
theorem dX2_hasTwins_46 : decode cX2_hasTwins 46 = .ok (.iload 5, 2) := by decide +kernel
theorem dX2_hasTwins_48 : decode cX2_hasTwins 48 = .ok (.invokestatic 46, 3) := by decide +kernel
theorem dX2_hasTwins_51 : decode cX2_hasTwins 51 = .ok (.ifCond .eq 16, 3) := by decide +kernel
theorem dX2_hasTwins_54 : decode cX2_hasTwins 54 = .ok (.aload_n 2, 1) := by decide +kernel
theorem dX2_hasTwins_55 : decode cX2_hasTwins 55 = .ok (.iload 4, 2) := by decide +kernel
theorem dX2_hasTwins_57 : decode cX2_hasTwins 57 = .ok (.iaload, 1) := by decide +kernel
theorem dX2_hasTwins_58 : decode cX2_hasTwins 58 = .ok (.aload_n 2, 1) := by decide +kernel
theorem dX2_hasTwins_59 : decode cX2_hasTwins 59 = .ok (.iload 5, 2) := by decide +kernel
theorem dX2_hasTwins_61 : decode cX2_hasTwins 61 = .ok (.iaload, 1) := by decide +kernel
theorem dX2_hasTwins_62 : decode cX2_hasTwins 62 = .ok (.if_icmp .ne 5, 3) := by decide +kernel
theorem dX2_hasTwins_65 : decode cX2_hasTwins 65 = .ok (.iconst 1, 1) := by decide +kernel
theorem dX2_hasTwins_66 : decode cX2_hasTwins 66 = .ok (.ireturn, 1) := by decide +kernel
theorem dX2_hasTwins_67 : decode cX2_hasTwins 67 = .ok (.iinc 5 1, 3) := by decide +kernel
theorem dX2_hasTwins_70 : decode cX2_hasTwins 70 = .ok (.goto (-41), 3) := by decide +kernel
theorem dX2_hasTwins_73 : decode cX2_hasTwins 73 = .ok (.iinc 4 1, 3) := by decide +kernel
theorem dX2_hasTwins_76 : decode cX2_hasTwins 76 = .ok (.goto (-64), 3) := by decide +kernel
theorem dX2_hasTwins_79 : decode cX2_hasTwins 79 = .ok (.iconst 0, 1) := by decide +kernel
theorem dX2_hasTwins_80 : decode cX2_hasTwins 80 = .ok (.ireturn, 1) := by decide +kernel
theorem dX2_isAllowed_0 : decode cX2_isAllowed 0 = .ok (.aload_n 0, 1) := by decide +kernel
theorem dX2_isAllowed_1 : decode cX2_isAllowed 1 = .ok (.getfield 15, 3) := by decide +kernel
theorem dX2_isAllowed_4 : decode cX2_isAllowed 4 = .ok (.iload_n 2, 1) := by decide +kernel
theorem dX2_isAllowed_5 : decode cX2_isAllowed 5 = .ok (.iaload, 1) := by decide +kernel
theorem dX2_isAllowed_6 : decode cX2_isAllowed 6 = .ok (.iconst (-1), 1) := by decide +kernel
theorem dX2_isAllowed_7 : decode cX2_isAllowed 7 = .ok (.if_icmp .eq 39, 3) := by decide +kernel
theorem dX2_isAllowed_10 : decode cX2_isAllowed 10 = .ok (.aload_n 0, 1) := by decide +kernel
theorem dX2_isAllowed_11 : decode cX2_isAllowed 11 = .ok (.getfield 22, 3) := by decide +kernel
theorem dX2_isAllowed_14 : decode cX2_isAllowed 14 = .ok (.getfield 36, 3) := by decide +kernel
theorem dX2_isAllowed_17 : decode cX2_isAllowed 17 = .ok (.iload_n 1, 1) := by decide +kernel
theorem dX2_isAllowed_18 : decode cX2_isAllowed 18 = .ok (.iaload, 1) := by decide +kernel
theorem dX2_isAllowed_19 : decode cX2_isAllowed 19 = .ok (.aload_n 0, 1) := by decide +kernel
theorem dX2_isAllowed_20 : decode cX2_isAllowed 20 = .ok (.getfield 15, 3) := by decide +kernel
theorem dX2_isAllowed_23 : decode cX2_isAllowed 23 = .ok (.iload_n 2, 1) := by decide +kernel
theorem dX2_isAllowed_24 : decode cX2_isAllowed 24 = .ok (.iaload, 1) := by decide +kernel
theorem dX2_isAllowed_25 : decode cX2_isAllowed 25 = .ok (.if_icmp .ne 25, 3) := by decide +kernel
theorem dX2_isAllowed_28 : decode cX2_isAllowed 28 = .ok (.aload_n 0, 1) := by decide +kernel
theorem dX2_isAllowed_29 : decode cX2_isAllowed 29 = .ok (.getfield 22, 3) := by decide +kernel
theorem dX2_isAllowed_32 : decode cX2_isAllowed 32 = .ok (.getfield 36, 3) := by decide +kernel
theorem dX2_isAllowed_35 : decode cX2_isAllowed 35 = .ok (.iload_n 3, 1) := by decide +kernel
theorem dX2_isAllowed_36 : decode cX2_isAllowed 36 = .ok (.iaload, 1) := by decide +kernel
theorem dX2_isAllowed_37 : decode cX2_isAllowed 37 = .ok (.aload_n 0, 1) := by decide +kernel
theorem dX2_isAllowed_38 : decode cX2_isAllowed 38 = .ok (.getfield 19, 3) := by decide +kernel
theorem dX2_isAllowed_41 : decode cX2_isAllowed 41 = .ok (.iload_n 2, 1) := by decide +kernel
theorem dX2_isAllowed_42 : decode cX2_isAllowed 42 = .ok (.iaload, 1) := by decide +kernel
theorem dX2_isAllowed_43 : decode cX2_isAllowed 43 = .ok (.if_icmp .ne 7, 3) := by decide +kernel
theorem dX2_isAllowed_46 : decode cX2_isAllowed 46 = .ok (.iconst 1, 1) := by decide +kernel
theorem dX2_isAllowed_47 : decode cX2_isAllowed 47 = .ok (.goto 4, 3) := by decide +kernel
theorem dX2_isAllowed_50 : decode cX2_isAllowed 50 = .ok (.iconst 0, 1) := by decide +kernel
theorem dX2_isAllowed_51 : decode cX2_isAllowed 51 = .ok (.ireturn, 1) := by decide +kernel
theorem dX3_init_0 : decode cX3_init 0 = .ok (.aload_n 0, 1) := by decide +kernel
theorem dX3_init_1 : decode cX3_init 1 = .ok (.invokespecial 3, 3) := by decide +kernel
theorem dX3_init_4 : decode cX3_init 4 = .ok (.aload_n 0, 1) := by decide +kernel
theorem dX3_init_5 : decode cX3_init 5 = .ok (.bipush 24, 2) := by decide +kernel
theorem dX3_init_7 : decode cX3_init 7 = .ok (.newarray .int, 2) := by decide +kernel
theorem dX3_init_9 : decode cX3_init 9 = .ok (.putfield 9, 3) := by decide +kernel
theorem dX3_init_12 : decode cX3_init 12 = .ok (.aload_n 0, 1) := by decide +kernel
theorem dX3_init_13 : decode cX3_init 13 = .ok (.iconst 3, 1) := by decide +kernel
theorem dX3_init_14 : decode cX3_init 14 = .ok (.newarray .boolean, 2) := by decide +kernel
theorem dX3_init_16 : decode cX3_init 16 = .ok (.putfield 15, 3) := by decide +kernel
theorem dX3_init_19 : decode cX3_init 19 = .ok (.aload_n 0, 1) := by decide +kernel
theorem dX3_init_20 : decode cX3_init 20 = .ok (.aload_n 1, 1) := by decide +kernel
theorem dX3_init_21 : decode cX3_init 21 = .ok (.putfield 19, 3) := by decide +kernel
theorem dX3_init_24 : decode cX3_init 24 = .ok (.aload_n 0, 1) := by decide +kernel
theorem dX3_init_25 : decode cX3_init 25 = .ok (.aload_n 2, 1) := by decide +kernel
theorem dX3_init_26 : decode cX3_init 26 = .ok (.putfield 23, 3) := by decide +kernel
theorem dX3_init_29 : decode cX3_init 29 = .ok (.iconst 0, 1) := by decide +kernel
theorem dX3_init_30 : decode cX3_init 30 = .ok (.istore_n 3, 1) := by decide +kernel
theorem dX3_init_31 : decode cX3_init 31 = .ok (.iload_n 3, 1) := by decide +kernel
theorem dX3_init_32 : decode cX3_init 32 = .ok (.iconst 3, 1) := by decide +kernel
theorem dX3_init_33 : decode cX3_init 33 = .ok (.if_icmp .ge 16, 3) := by decide +kernel
theorem dX3_init_36 : decode cX3_init 36 = .ok (.aload_n 0, 1) := by decide +kernel
theorem dX3_init_37 : decode cX3_init 37 = .ok (.getfield 15, 3) := by decide +kernel
theorem dX3_init_40 : decode cX3_init 40 = .ok (.iload_n 3, 1) := by decide +kernel
theorem dX3_init_41 : decode cX3_init 41 = .ok (.iconst 1, 1) := by decide +kernel
theorem dX3_init_42 : decode cX3_init 42 = .ok (.bastore, 1) := by decide +kernel
theorem dX3_init_43 : decode cX3_init 43 = .ok (.iinc 3 1, 3) := by decide +kernel
theorem dX3_init_46 : decode cX3_init 46 = .ok (.goto (-15), 3) := by decide +kernel
theorem dX3_init_49 : decode cX3_init 49 = .ok (.return_, 1) := by decide +kernel
theorem dX3_load_0 : decode cX3_load 0 = .ok (.iconst 0, 1) := by decide +kernel
theorem dX3_load_1 : decode cX3_load 1 = .ok (.istore_n 2, 1) := by decide +kernel
theorem dX3_load_2 : decode cX3_load 2 = .ok (.iconst 0, 1) := by decide +kernel
theorem dX3_load_3 : decode cX3_load 3 = .ok (.istore_n 3, 1) := by decide +kernel
theorem dX3_load_4 : decode cX3_load 4 = .ok (.iload_n 3, 1) := by decide +kernel
theorem dX3_load_5 : decode cX3_load 5 = .ok (.aload_n 0, 1) := by decide +kernel
theorem dX3_load_6 : decode cX3_load 6 = .ok (.getfield 19, 3) := by decide +kernel
theorem dX3_load_9 : decode cX3_load 9 = .ok (.getfield 27, 3) := by decide +kernel
theorem dX3_load_12 : decode cX3_load 12 = .ok (.if_icmp .ge 33, 3) := by decide +kernel
theorem dX3_load_15 : decode cX3_load 15 = .ok (.aload_n 0, 1) := by decide +kernel
theorem dX3_load_16 : decode cX3_load 16 = .ok (.getfield 19, 3) := by decide +kernel
theorem dX3_load_19 : decode cX3_load 19 = .ok (.iload_n 3, 1) := by decide +kernel
theorem dX3_load_20 : decode cX3_load 20 = .ok (.invokevirtual 33, 3) := by decide +kernel
theorem dX3_load_23 : decode cX3_load 23 = .ok (.ifCond .eq 16, 3) := by decide +kernel
theorem dX3_load_26 : decode cX3_load 26 = .ok (.aload_n 0, 1) := by decide +kernel
theorem dX3_load_27 : decode cX3_load 27 = .ok (.getfield 9, 3) := by decide +kernel
theorem dX3_load_30 : decode cX3_load 30 = .ok (.iload_n 3, 1) := by decide +kernel
theorem dX3_load_31 : decode cX3_load 31 = .ok (.iaload, 1) := by decide +kernel
theorem dX3_load_32 : decode cX3_load 32 = .ok (.iload_n 1, 1) := by decide +kernel
theorem dX3_load_33 : decode cX3_load 33 = .ok (.if_icmp .ne 6, 3) := by decide +kernel
theorem dX3_load_36 : decode cX3_load 36 = .ok (.iinc 2 1, 3) := by decide +kernel
theorem dX3_load_39 : decode cX3_load 39 = .ok (.iinc 3 1, 3) := by decide +kernel
theorem dX3_load_42 : decode cX3_load 42 = .ok (.goto (-38), 3) := by decide +kernel
theorem dX3_load_45 : decode cX3_load 45 = .ok (.iload_n 2, 1) := by decide +kernel
theorem dX3_load_46 : decode cX3_load 46 = .ok (.ireturn, 1) := by decide +kernel
theorem dX3_emptiest_0 : decode cX3_emptiest 0 = .ok (.iconst (-1), 1) := by decide +kernel
theorem dX3_emptiest_1 : decode cX3_emptiest 1 = .ok (.istore_n 1, 1) := by decide +kernel
theorem dX3_emptiest_2 : decode cX3_emptiest 2 = .ok (.bipush 25, 2) := by decide +kernel
theorem dX3_emptiest_4 : decode cX3_emptiest 4 = .ok (.istore_n 2, 1) := by decide +kernel
theorem dX3_emptiest_5 : decode cX3_emptiest 5 = .ok (.iconst 0, 1) := by decide +kernel
theorem dX3_emptiest_6 : decode cX3_emptiest 6 = .ok (.istore_n 3, 1) := by decide +kernel
theorem dX3_emptiest_7 : decode cX3_emptiest 7 = .ok (.iload_n 3, 1) := by decide +kernel
theorem dX3_emptiest_8 : decode cX3_emptiest 8 = .ok (.iconst 3, 1) := by decide +kernel
theorem dX3_emptiest_9 : decode cX3_emptiest 9 = .ok (.if_icmp .ge 36, 3) := by decide +kernel
theorem dX3_emptiest_12 : decode cX3_emptiest 12 = .ok (.aload_n 0, 1) := by decide +kernel
theorem dX3_emptiest_13 : decode cX3_emptiest 13 = .ok (.iload_n 3, 1) := by decide +kernel
theorem dX3_emptiest_14 : decode cX3_emptiest 14 = .ok (.invokevirtual 37, 3) := by decide +kernel
theorem dX3_emptiest_17 : decode cX3_emptiest 17 = .ok (.istore 4, 2) := by decide +kernel
theorem dX3_emptiest_19 : decode cX3_emptiest 19 = .ok (.aload_n 0, 1) := by decide +kernel
theorem dX3_emptiest_20 : decode cX3_emptiest 20 = .ok (.getfield 15, 3) := by decide +kernel
theorem dX3_emptiest_23 : decode cX3_emptiest 23 = .ok (.iload_n 3, 1) := by decide +kernel
theorem dX3_emptiest_24 : decode cX3_emptiest 24 = .ok (.baload, 1) := by decide +kernel
theorem dX3_emptiest_25 : decode cX3_emptiest 25 = .ok (.ifCond .eq 14, 3) := by decide +kernel
theorem dX3_emptiest_28 : decode cX3_emptiest 28 = .ok (.iload 4, 2) := by decide +kernel
theorem dX3_emptiest_30 : decode cX3_emptiest 30 = .ok (.iload_n 2, 1) := by decide +kernel
theorem dX3_emptiest_31 : decode cX3_emptiest 31 = .ok (.if_icmp .ge 8, 3) := by decide +kernel
theorem dX3_emptiest_34 : decode cX3_emptiest 34 = .ok (.iload_n 3, 1) := by decide +kernel
theorem dX3_emptiest_35 : decode cX3_emptiest 35 = .ok (.istore_n 1, 1) := by decide +kernel
theorem dX3_emptiest_36 : decode cX3_emptiest 36 = .ok (.iload 4, 2) := by decide +kernel
theorem dX3_emptiest_38 : decode cX3_emptiest 38 = .ok (.istore_n 2, 1) := by decide +kernel
theorem dX3_emptiest_39 : decode cX3_emptiest 39 = .ok (.iinc 3 1, 3) := by decide +kernel
theorem dX3_emptiest_42 : decode cX3_emptiest 42 = .ok (.goto (-35), 3) := by decide +kernel
theorem dX3_emptiest_45 : decode cX3_emptiest 45 = .ok (.iload_n 1, 1) := by decide +kernel
theorem dX3_emptiest_46 : decode cX3_emptiest 46 = .ok (.ireturn, 1) := by decide +kernel
theorem dX3_reachable_0 : decode cX3_reachable 0 = .ok (.iconst 0, 1) := by decide +kernel
theorem dX3_reachable_1 : decode cX3_reachable 1 = .ok (.istore_n 1, 1) := by decide +kernel
theorem dX3_reachable_2 : decode cX3_reachable 2 = .ok (.iconst 0, 1) := by decide +kernel
theorem dX3_reachable_3 : decode cX3_reachable 3 = .ok (.istore_n 2, 1) := by decide +kernel
theorem dX3_reachable_4 : decode cX3_reachable 4 = .ok (.iload_n 2, 1) := by decide +kernel
theorem dX3_reachable_5 : decode cX3_reachable 5 = .ok (.aload_n 0, 1) := by decide +kernel
theorem dX3_reachable_6 : decode cX3_reachable 6 = .ok (.getfield 19, 3) := by decide +kernel
theorem dX3_reachable_9 : decode cX3_reachable 9 = .ok (.getfield 27, 3) := by decide +kernel
theorem dX3_reachable_12 : decode cX3_reachable 12 = .ok (.if_icmp .ge 41, 3) := by decide +kernel
theorem dX3_reachable_15 : decode cX3_reachable 15 = .ok (.aload_n 0, 1) := by decide +kernel
theorem dX3_reachable_16 : decode cX3_reachable 16 = .ok (.getfield 19, 3) := by decide +kernel
theorem dX3_reachable_19 : decode cX3_reachable 19 = .ok (.iload_n 2, 1) := by decide +kernel
theorem dX3_reachable_20 : decode cX3_reachable 20 = .ok (.invokevirtual 33, 3) := by decide +kernel
theorem dX3_reachable_23 : decode cX3_reachable 23 = .ok (.ifCond .eq 24, 3) := by decide +kernel
theorem dX3_reachable_26 : decode cX3_reachable 26 = .ok (.aload_n 0, 1) := by decide +kernel
theorem dX3_reachable_27 : decode cX3_reachable 27 = .ok (.getfield 15, 3) := by decide +kernel
theorem dX3_reachable_30 : decode cX3_reachable 30 = .ok (.aload_n 0, 1) := by decide +kernel
theorem dX3_reachable_31 : decode cX3_reachable 31 = .ok (.getfield 9, 3) := by decide +kernel
theorem dX3_reachable_34 : decode cX3_reachable 34 = .ok (.iload_n 2, 1) := by decide +kernel
theorem dX3_reachable_35 : decode cX3_reachable 35 = .ok (.iaload, 1) := by decide +kernel
theorem dX3_reachable_36 : decode cX3_reachable 36 = .ok (.baload, 1) := by decide +kernel
theorem dX3_reachable_37 : decode cX3_reachable 37 = .ok (.ifCond .eq 10, 3) := by decide +kernel
theorem dX3_reachable_40 : decode cX3_reachable 40 = .ok (.iload_n 1, 1) := by decide +kernel
theorem dX3_reachable_41 : decode cX3_reachable 41 = .ok (.iload_n 2, 1) := by decide +kernel
theorem dX3_reachable_42 : decode cX3_reachable 42 = .ok (.invokestatic 41, 3) := by decide +kernel
theorem dX3_reachable_45 : decode cX3_reachable 45 = .ok (.ior, 1) := by decide +kernel
theorem dX3_reachable_46 : decode cX3_reachable 46 = .ok (.istore_n 1, 1) := by decide +kernel
theorem dX3_reachable_47 : decode cX3_reachable 47 = .ok (.iinc 2 1, 3) := by decide +kernel
theorem dX3_reachable_50 : decode cX3_reachable 50 = .ok (.goto (-46), 3) := by decide +kernel
theorem dX3_reachable_53 : decode cX3_reachable 53 = .ok (.iload_n 1, 1) := by decide +kernel
theorem dX3_reachable_54 : decode cX3_reachable 54 = .ok (.ireturn, 1) := by decide +kernel
theorem dX3_isCut_0 : decode cX3_isCut 0 = .ok (.aload_n 0, 1) := by decide +kernel
theorem dX3_isCut_1 : decode cX3_isCut 1 = .ok (.getfield 9, 3) := by decide +kernel
theorem dX3_isCut_4 : decode cX3_isCut 4 = .ok (.aload_n 0, 1) := by decide +kernel
theorem dX3_isCut_5 : decode cX3_isCut 5 = .ok (.getfield 23, 3) := by decide +kernel
theorem dX3_isCut_8 : decode cX3_isCut 8 = .ok (.getfield 44, 3) := by decide +kernel
theorem dX3_isCut_11 : decode cX3_isCut 11 = .ok (.iload_n 1, 1) := by decide +kernel
theorem dX3_isCut_12 : decode cX3_isCut 12 = .ok (.iaload, 1) := by decide +kernel
theorem dX3_isCut_13 : decode cX3_isCut 13 = .ok (.iaload, 1) := by decide +kernel
theorem dX3_isCut_14 : decode cX3_isCut 14 = .ok (.aload_n 0, 1) := by decide +kernel
theorem dX3_isCut_15 : decode cX3_isCut 15 = .ok (.getfield 9, 3) := by decide +kernel
theorem dX3_isCut_18 : decode cX3_isCut 18 = .ok (.aload_n 0, 1) := by decide +kernel
theorem dX3_isCut_19 : decode cX3_isCut 19 = .ok (.getfield 23, 3) := by decide +kernel
theorem dX3_isCut_22 : decode cX3_isCut 22 = .ok (.getfield 49, 3) := by decide +kernel
theorem dX3_isCut_25 : decode cX3_isCut 25 = .ok (.iload_n 1, 1) := by decide +kernel
theorem dX3_isCut_26 : decode cX3_isCut 26 = .ok (.iaload, 1) := by decide +kernel
theorem dX3_isCut_27 : decode cX3_isCut 27 = .ok (.iaload, 1) := by decide +kernel
theorem dX3_isCut_28 : decode cX3_isCut 28 = .ok (.if_icmp .eq 7, 3) := by decide +kernel
theorem dX3_isCut_31 : decode cX3_isCut 31 = .ok (.iconst 1, 1) := by decide +kernel
theorem dX3_isCut_32 : decode cX3_isCut 32 = .ok (.goto 4, 3) := by decide +kernel
theorem dX3_isCut_35 : decode cX3_isCut 35 = .ok (.iconst 0, 1) := by decide +kernel
theorem dX3_isCut_36 : decode cX3_isCut 36 = .ok (.ireturn, 1) := by decide +kernel
theorem dX3_copied_0 : decode cX3_copied 0 = .ok (.iconst 0, 1) := by decide +kernel
theorem dX3_copied_1 : decode cX3_copied 1 = .ok (.istore_n 2, 1) := by decide +kernel
theorem dX3_copied_2 : decode cX3_copied 2 = .ok (.iconst 0, 1) := by decide +kernel
theorem dX3_copied_3 : decode cX3_copied 3 = .ok (.istore_n 3, 1) := by decide +kernel
theorem dX3_copied_4 : decode cX3_copied 4 = .ok (.iload_n 3, 1) := by decide +kernel
theorem dX3_copied_5 : decode cX3_copied 5 = .ok (.aload_n 0, 1) := by decide +kernel
theorem dX3_copied_6 : decode cX3_copied 6 = .ok (.getfield 23, 3) := by decide +kernel
theorem dX3_copied_9 : decode cX3_copied 9 = .ok (.getfield 52, 3) := by decide +kernel
theorem dX3_copied_12 : decode cX3_copied 12 = .ok (.if_icmp .ge 88, 3) := by decide +kernel
theorem dX3_copied_15 : decode cX3_copied 15 = .ok (.aload_n 0, 1) := by decide +kernel
theorem dX3_copied_16 : decode cX3_copied 16 = .ok (.getfield 23, 3) := by decide +kernel
theorem dX3_copied_19 : decode cX3_copied 19 = .ok (.iload_n 3, 1) := by decide +kernel
theorem dX3_copied_20 : decode cX3_copied 20 = .ok (.invokevirtual 53, 3) := by decide +kernel
theorem dX3_copied_23 : decode cX3_copied 23 = .ok (.ifCond .eq 71, 3) := by decide +kernel
theorem dX3_copied_26 : decode cX3_copied 26 = .ok (.aload_n 0, 1) := by decide +kernel
theorem dX3_copied_27 : decode cX3_copied 27 = .ok (.iload_n 3, 1) := by decide +kernel
theorem dX3_copied_28 : decode cX3_copied 28 = .ok (.invokevirtual 54, 3) := by decide +kernel
theorem dX3_copied_31 : decode cX3_copied 31 = .ok (.ifCond .eq 63, 3) := by decide +kernel
theorem dX3_copied_34 : decode cX3_copied 34 = .ok (.aload_n 0, 1) := by decide +kernel
theorem dX3_copied_35 : decode cX3_copied 35 = .ok (.getfield 23, 3) := by decide +kernel
theorem dX3_copied_38 : decode cX3_copied 38 = .ok (.getfield 44, 3) := by decide +kernel
theorem dX3_copied_41 : decode cX3_copied 41 = .ok (.iload_n 3, 1) := by decide +kernel
theorem dX3_copied_42 : decode cX3_copied 42 = .ok (.iaload, 1) := by decide +kernel
theorem dX3_copied_43 : decode cX3_copied 43 = .ok (.istore 4, 2) := by decide +kernel
theorem dX3_copied_45 : decode cX3_copied 45 = .ok (.aload_n 0, 1) := by decide +kernel
theorem dX3_copied_46 : decode cX3_copied 46 = .ok (.getfield 23, 3) := by decide +kernel
theorem dX3_copied_49 : decode cX3_copied 49 = .ok (.getfield 49, 3) := by decide +kernel
theorem dX3_copied_52 : decode cX3_copied 52 = .ok (.iload_n 3, 1) := by decide +kernel
theorem dX3_copied_53 : decode cX3_copied 53 = .ok (.iaload, 1) := by decide +kernel
theorem dX3_copied_54 : decode cX3_copied 54 = .ok (.istore 5, 2) := by decide +kernel
theorem dX3_copied_56 : decode cX3_copied 56 = .ok (.aload_n 0, 1) := by decide +kernel
theorem dX3_copied_57 : decode cX3_copied 57 = .ok (.getfield 9, 3) := by decide +kernel
theorem dX3_copied_60 : decode cX3_copied 60 = .ok (.iload 4, 2) := by decide +kernel
theorem dX3_copied_62 : decode cX3_copied 62 = .ok (.iaload, 1) := by decide +kernel
theorem dX3_copied_63 : decode cX3_copied 63 = .ok (.iload_n 1, 1) := by decide +kernel
theorem dX3_copied_64 : decode cX3_copied 64 = .ok (.if_icmp .ne 11, 3) := by decide +kernel
theorem dX3_copied_67 : decode cX3_copied 67 = .ok (.iload_n 2, 1) := by decide +kernel
theorem dX3_copied_68 : decode cX3_copied 68 = .ok (.iload 5, 2) := by decide +kernel
theorem dX3_copied_70 : decode cX3_copied 70 = .ok (.invokestatic 41, 3) := by decide +kernel
theorem dX3_copied_73 : decode cX3_copied 73 = .ok (.ior, 1) := by decide +kernel
theorem dX3_copied_74 : decode cX3_copied 74 = .ok (.istore_n 2, 1) := by decide +kernel
theorem dX3_copied_75 : decode cX3_copied 75 = .ok (.aload_n 0, 1) := by decide +kernel
theorem dX3_copied_76 : decode cX3_copied 76 = .ok (.getfield 9, 3) := by decide +kernel
theorem dX3_copied_79 : decode cX3_copied 79 = .ok (.iload 5, 2) := by decide +kernel
theorem dX3_copied_81 : decode cX3_copied 81 = .ok (.iaload, 1) := by decide +kernel
theorem dX3_copied_82 : decode cX3_copied 82 = .ok (.iload_n 1, 1) := by decide +kernel
theorem dX3_copied_83 : decode cX3_copied 83 = .ok (.if_icmp .ne 11, 3) := by decide +kernel
theorem dX3_copied_86 : decode cX3_copied 86 = .ok (.iload_n 2, 1) := by decide +kernel
theorem dX3_copied_87 : decode cX3_copied 87 = .ok (.iload 4, 2) := by decide +kernel
theorem dX3_copied_89 : decode cX3_copied 89 = .ok (.invokestatic 41, 3) := by decide +kernel
theorem dX3_copied_92 : decode cX3_copied 92 = .ok (.ior, 1) := by decide +kernel
theorem dX3_copied_93 : decode cX3_copied 93 = .ok (.istore_n 2, 1) := by decide +kernel
theorem dX3_copied_94 : decode cX3_copied 94 = .ok (.iinc 3 1, 3) := by decide +kernel
theorem dX3_copied_97 : decode cX3_copied 97 = .ok (.goto (-93), 3) := by decide +kernel
theorem dX3_copied_100 : decode cX3_copied 100 = .ok (.iload_n 2, 1) := by decide +kernel
theorem dX3_copied_101 : decode cX3_copied 101 = .ok (.ireturn, 1) := by decide +kernel
theorem dX3_moveBest_0 : decode cX3_moveBest 0 = .ok (.aload_n 0, 1) := by decide +kernel
theorem dX3_moveBest_1 : decode cX3_moveBest 1 = .ok (.invokevirtual 57, 3) := by decide +kernel
theorem dX3_moveBest_4 : decode cX3_moveBest 4 = .ok (.istore_n 1, 1) := by decide +kernel
theorem dX3_moveBest_5 : decode cX3_moveBest 5 = .ok (.iload_n 1, 1) := by decide +kernel
theorem dX3_moveBest_6 : decode cX3_moveBest 6 = .ok (.iconst (-1), 1) := by decide +kernel
theorem dX3_moveBest_7 : decode cX3_moveBest 7 = .ok (.if_icmp .ne 5, 3) := by decide +kernel
theorem dX3_moveBest_10 : decode cX3_moveBest 10 = .ok (.iconst (-1), 1) := by decide +kernel
theorem dX3_moveBest_11 : decode cX3_moveBest 11 = .ok (.ireturn, 1) := by decide +kernel
theorem dX3_moveBest_12 : decode cX3_moveBest 12 = .ok (.aload_n 0, 1) := by decide +kernel
theorem dX3_moveBest_13 : decode cX3_moveBest 13 = .ok (.iload_n 1, 1) := by decide +kernel
theorem dX3_moveBest_14 : decode cX3_moveBest 14 = .ok (.invokevirtual 37, 3) := by decide +kernel
theorem dX3_moveBest_17 : decode cX3_moveBest 17 = .ok (.iconst 2, 1) := by decide +kernel
theorem dX3_moveBest_18 : decode cX3_moveBest 18 = .ok (.iadd, 1) := by decide +kernel
theorem dX3_moveBest_19 : decode cX3_moveBest 19 = .ok (.istore_n 2, 1) := by decide +kernel
theorem dX3_moveBest_20 : decode cX3_moveBest 20 = .ok (.aload_n 0, 1) := by decide +kernel
theorem dX3_moveBest_21 : decode cX3_moveBest 21 = .ok (.invokevirtual 61, 3) := by decide +kernel
theorem dX3_moveBest_24 : decode cX3_moveBest 24 = .ok (.istore_n 3, 1) := by decide +kernel
theorem dX3_moveBest_25 : decode cX3_moveBest 25 = .ok (.iconst (-1), 1) := by decide +kernel
theorem dX3_moveBest_26 : decode cX3_moveBest 26 = .ok (.istore 4, 2) := by decide +kernel
theorem dX3_moveBest_28 : decode cX3_moveBest 28 = .ok (.iconst (-1), 1) := by decide +kernel
theorem dX3_moveBest_29 : decode cX3_moveBest 29 = .ok (.istore 5, 2) := by decide +kernel
theorem dX3_moveBest_31 : decode cX3_moveBest 31 = .ok (.iconst 0, 1) := by decide +kernel
theorem dX3_moveBest_32 : decode cX3_moveBest 32 = .ok (.istore 6, 2) := by decide +kernel
theorem dX3_moveBest_34 : decode cX3_moveBest 34 = .ok (.iconst 0, 1) := by decide +kernel
theorem dX3_moveBest_35 : decode cX3_moveBest 35 = .ok (.istore 7, 2) := by decide +kernel
theorem dX3_moveBest_37 : decode cX3_moveBest 37 = .ok (.iload 7, 2) := by decide +kernel
theorem dX3_moveBest_39 : decode cX3_moveBest 39 = .ok (.aload_n 0, 1) := by decide +kernel
theorem dX3_moveBest_40 : decode cX3_moveBest 40 = .ok (.getfield 19, 3) := by decide +kernel
theorem dX3_moveBest_43 : decode cX3_moveBest 43 = .ok (.getfield 27, 3) := by decide +kernel
theorem dX3_moveBest_46 : decode cX3_moveBest 46 = .ok (.if_icmp .ge 112, 3) := by decide +kernel
theorem dX3_moveBest_49 : decode cX3_moveBest 49 = .ok (.iconst 0, 1) := by decide +kernel
theorem dX3_moveBest_50 : decode cX3_moveBest 50 = .ok (.istore 8, 2) := by decide +kernel
theorem dX3_moveBest_52 : decode cX3_moveBest 52 = .ok (.iload 8, 2) := by decide +kernel
theorem dX3_moveBest_54 : decode cX3_moveBest 54 = .ok (.iconst 3, 1) := by decide +kernel
theorem dX3_moveBest_55 : decode cX3_moveBest 55 = .ok (.if_icmp .ge 97, 3) := by decide +kernel
theorem dX3_moveBest_58 : decode cX3_moveBest 58 = .ok (.iload_n 3, 1) := by decide +kernel
theorem dX3_moveBest_59 : decode cX3_moveBest 59 = .ok (.iload 7, 2) := by decide +kernel
theorem dX3_moveBest_61 : decode cX3_moveBest 61 = .ok (.invokestatic 64, 3) := by decide +kernel
theorem dX3_moveBest_64 : decode cX3_moveBest 64 = .ok (.ifCond .eq 41, 3) := by decide +kernel
theorem dX3_moveBest_67 : decode cX3_moveBest 67 = .ok (.aload_n 0, 1) := by decide +kernel
theorem dX3_moveBest_68 : decode cX3_moveBest 68 = .ok (.getfield 15, 3) := by decide +kernel
theorem dX3_moveBest_71 : decode cX3_moveBest 71 = .ok (.iload 8, 2) := by decide +kernel
theorem dX3_moveBest_73 : decode cX3_moveBest 73 = .ok (.baload, 1) := by decide +kernel
theorem dX3_moveBest_74 : decode cX3_moveBest 74 = .ok (.ifCond .eq 31, 3) := by decide +kernel
theorem dX3_moveBest_77 : decode cX3_moveBest 77 = .ok (.iload 8, 2) := by decide +kernel
theorem dX3_moveBest_79 : decode cX3_moveBest 79 = .ok (.aload_n 0, 1) := by decide +kernel
theorem dX3_moveBest_80 : decode cX3_moveBest 80 = .ok (.getfield 9, 3) := by decide +kernel
theorem dX3_moveBest_83 : decode cX3_moveBest 83 = .ok (.iload 7, 2) := by decide +kernel
theorem dX3_moveBest_85 : decode cX3_moveBest 85 = .ok (.iaload, 1) := by decide +kernel
theorem dX3_moveBest_86 : decode cX3_moveBest 86 = .ok (.if_icmp .eq 19, 3) := by decide +kernel
theorem dX3_moveBest_89 : decode cX3_moveBest 89 = .ok (.aload_n 0, 1) := by decide +kernel
theorem dX3_moveBest_90 : decode cX3_moveBest 90 = .ok (.iload 8, 2) := by decide +kernel
theorem dX3_moveBest_92 : decode cX3_moveBest 92 = .ok (.invokevirtual 37, 3) := by decide +kernel
theorem dX3_moveBest_95 : decode cX3_moveBest 95 = .ok (.iconst 1, 1) := by decide +kernel
theorem dX3_moveBest_96 : decode cX3_moveBest 96 = .ok (.iadd, 1) := by decide +kernel
theorem dX3_moveBest_97 : decode cX3_moveBest 97 = .ok (.iload_n 2, 1) := by decide +kernel
theorem dX3_moveBest_98 : decode cX3_moveBest 98 = .ok (.if_icmp .gt 7, 3) := by decide +kernel
theorem dX3_moveBest_101 : decode cX3_moveBest 101 = .ok (.iconst 1, 1) := by decide +kernel
theorem dX3_moveBest_102 : decode cX3_moveBest 102 = .ok (.goto 4, 3) := by decide +kernel
theorem dX3_moveBest_105 : decode cX3_moveBest 105 = .ok (.iconst 0, 1) := by decide +kernel
theorem dX3_moveBest_106 : decode cX3_moveBest 106 = .ok (.istore 9, 2) := by decide +kernel
theorem dX3_moveBest_108 : decode cX3_moveBest 108 = .ok (.iload 9, 2) := by decide +kernel
theorem dX3_moveBest_110 : decode cX3_moveBest 110 = .ok (.ifCond .eq 14, 3) := by decide +kernel
theorem dX3_moveBest_113 : decode cX3_moveBest 113 = .ok (.aload_n 0, 1) := by decide +kernel
theorem dX3_moveBest_114 : decode cX3_moveBest 114 = .ok (.iload 7, 2) := by decide +kernel
theorem dX3_moveBest_116 : decode cX3_moveBest 116 = .ok (.iload 8, 2) := by decide +kernel
theorem dX3_moveBest_118 : decode cX3_moveBest 118 = .ok (.invokevirtual 68, 3) := by decide +kernel
theorem dX3_moveBest_121 : decode cX3_moveBest 121 = .ok (.goto 4, 3) := by decide +kernel
theorem dX3_moveBest_124 : decode cX3_moveBest 124 = .ok (.iconst 0, 1) := by decide +kernel
theorem dX3_moveBest_125 : decode cX3_moveBest 125 = .ok (.istore 10, 2) := by decide +kernel
theorem dX3_moveBest_127 : decode cX3_moveBest 127 = .ok (.iload 10, 2) := by decide +kernel
theorem dX3_moveBest_129 : decode cX3_moveBest 129 = .ok (.iload 6, 2) := by decide +kernel
theorem dX3_moveBest_131 : decode cX3_moveBest 131 = .ok (.if_icmp .le 15, 3) := by decide +kernel
theorem dX3_moveBest_134 : decode cX3_moveBest 134 = .ok (.iload 7, 2) := by decide +kernel
theorem dX3_moveBest_136 : decode cX3_moveBest 136 = .ok (.istore 4, 2) := by decide +kernel
theorem dX3_moveBest_138 : decode cX3_moveBest 138 = .ok (.iload 8, 2) := by decide +kernel
theorem dX3_moveBest_140 : decode cX3_moveBest 140 = .ok (.istore 5, 2) := by decide +kernel
theorem dX3_moveBest_142 : decode cX3_moveBest 142 = .ok (.iload 10, 2) := by decide +kernel
theorem dX3_moveBest_144 : decode cX3_moveBest 144 = .ok (.istore 6, 2) := by decide +kernel
theorem dX3_moveBest_146 : decode cX3_moveBest 146 = .ok (.iinc 8 1, 3) := by decide +kernel
theorem dX3_moveBest_149 : decode cX3_moveBest 149 = .ok (.goto (-97), 3) := by decide +kernel
theorem dX3_moveBest_152 : decode cX3_moveBest 152 = .ok (.iinc 7 1, 3) := by decide +kernel
theorem dX3_moveBest_155 : decode cX3_moveBest 155 = .ok (.goto (-118), 3) := by decide +kernel
theorem dX3_moveBest_158 : decode cX3_moveBest 158 = .ok (.iload 4, 2) := by decide +kernel
theorem dX3_moveBest_160 : decode cX3_moveBest 160 = .ok (.iconst (-1), 1) := by decide +kernel
theorem dX3_moveBest_161 : decode cX3_moveBest 161 = .ok (.if_icmp .eq 12, 3) := by decide +kernel
theorem dX3_moveBest_164 : decode cX3_moveBest 164 = .ok (.aload_n 0, 1) := by decide +kernel
theorem dX3_moveBest_165 : decode cX3_moveBest 165 = .ok (.getfield 9, 3) := by decide +kernel
theorem dX3_moveBest_168 : decode cX3_moveBest 168 = .ok (.iload 4, 2) := by decide +kernel
theorem dX3_moveBest_170 : decode cX3_moveBest 170 = .ok (.iload 5, 2) := by decide +kernel
theorem dX3_moveBest_172 : decode cX3_moveBest 172 = .ok (.iastore, 1) := by decide +kernel
theorem dX3_moveBest_173 : decode cX3_moveBest 173 = .ok (.iload 4, 2) := by decide +kernel
theorem dX3_moveBest_175 : decode cX3_moveBest 175 = .ok (.ireturn, 1) := by decide +kernel
theorem dX3_cutFewer_0 : decode cX3_cutFewer 0 = .ok (.iconst 0, 1) := by decide +kernel
theorem dX3_cutFewer_1 : decode cX3_cutFewer 1 = .ok (.istore_n 3, 1) := by decide +kernel
theorem dX3_cutFewer_2 : decode cX3_cutFewer 2 = .ok (.iconst 0, 1) := by decide +kernel
theorem dX3_cutFewer_3 : decode cX3_cutFewer 3 = .ok (.istore 4, 2) := by decide +kernel
theorem dX3_cutFewer_5 : decode cX3_cutFewer 5 = .ok (.iload 4, 2) := by decide +kernel
theorem dX3_cutFewer_7 : decode cX3_cutFewer 7 = .ok (.aload_n 0, 1) := by decide +kernel
theorem dX3_cutFewer_8 : decode cX3_cutFewer 8 = .ok (.getfield 23, 3) := by decide +kernel
theorem dX3_cutFewer_11 : decode cX3_cutFewer 11 = .ok (.getfield 52, 3) := by decide +kernel
theorem dX3_cutFewer_14 : decode cX3_cutFewer 14 = .ok (.if_icmp .ge 136, 3) := by decide +kernel
theorem dX3_cutFewer_17 : decode cX3_cutFewer 17 = .ok (.aload_n 0, 1) := by decide +kernel
theorem dX3_cutFewer_18 : decode cX3_cutFewer 18 = .ok (.getfield 23, 3) := by decide +kernel
theorem dX3_cutFewer_21 : decode cX3_cutFewer 21 = .ok (.getfield 44, 3) := by decide +kernel
theorem dX3_cutFewer_24 : decode cX3_cutFewer 24 = .ok (.iload 4, 2) := by decide +kernel
theorem dX3_cutFewer_26 : decode cX3_cutFewer 26 = .ok (.iaload, 1) := by decide +kernel
theorem dX3_cutFewer_27 : decode cX3_cutFewer 27 = .ok (.iload_n 1, 1) := by decide +kernel
theorem dX3_cutFewer_28 : decode cX3_cutFewer 28 = .ok (.if_icmp .ne 7, 3) := by decide +kernel
theorem dX3_cutFewer_31 : decode cX3_cutFewer 31 = .ok (.iconst 1, 1) := by decide +kernel
theorem dX3_cutFewer_32 : decode cX3_cutFewer 32 = .ok (.goto 4, 3) := by decide +kernel
theorem dX3_cutFewer_35 : decode cX3_cutFewer 35 = .ok (.iconst 0, 1) := by decide +kernel
theorem dX3_cutFewer_36 : decode cX3_cutFewer 36 = .ok (.istore 5, 2) := by decide +kernel
theorem dX3_cutFewer_38 : decode cX3_cutFewer 38 = .ok (.aload_n 0, 1) := by decide +kernel
theorem dX3_cutFewer_39 : decode cX3_cutFewer 39 = .ok (.getfield 23, 3) := by decide +kernel
theorem dX3_cutFewer_42 : decode cX3_cutFewer 42 = .ok (.getfield 49, 3) := by decide +kernel
theorem dX3_cutFewer_45 : decode cX3_cutFewer 45 = .ok (.iload 4, 2) := by decide +kernel
theorem dX3_cutFewer_47 : decode cX3_cutFewer 47 = .ok (.iaload, 1) := by decide +kernel
theorem dX3_cutFewer_48 : decode cX3_cutFewer 48 = .ok (.iload_n 1, 1) := by decide +kernel
theorem dX3_cutFewer_49 : decode cX3_cutFewer 49 = .ok (.if_icmp .ne 7, 3) := by decide +kernel
theorem dX3_cutFewer_52 : decode cX3_cutFewer 52 = .ok (.iconst 1, 1) := by decide +kernel
theorem dX3_cutFewer_53 : decode cX3_cutFewer 53 = .ok (.goto 4, 3) := by decide +kernel
theorem dX3_cutFewer_56 : decode cX3_cutFewer 56 = .ok (.iconst 0, 1) := by decide +kernel
theorem dX3_cutFewer_57 : decode cX3_cutFewer 57 = .ok (.istore 6, 2) := by decide +kernel
theorem dX3_cutFewer_59 : decode cX3_cutFewer 59 = .ok (.aload_n 0, 1) := by decide +kernel
theorem dX3_cutFewer_60 : decode cX3_cutFewer 60 = .ok (.getfield 23, 3) := by decide +kernel
theorem dX3_cutFewer_63 : decode cX3_cutFewer 63 = .ok (.iload 4, 2) := by decide +kernel
theorem dX3_cutFewer_65 : decode cX3_cutFewer 65 = .ok (.invokevirtual 53, 3) := by decide +kernel
theorem dX3_cutFewer_68 : decode cX3_cutFewer 68 = .ok (.ifCond .eq 76, 3) := by decide +kernel
theorem dX3_cutFewer_71 : decode cX3_cutFewer 71 = .ok (.iload 5, 2) := by decide +kernel
theorem dX3_cutFewer_73 : decode cX3_cutFewer 73 = .ok (.iload 6, 2) := by decide +kernel
theorem dX3_cutFewer_75 : decode cX3_cutFewer 75 = .ok (.if_icmp .eq 69, 3) := by decide +kernel
theorem dX3_cutFewer_78 : decode cX3_cutFewer 78 = .ok (.aload_n 0, 1) := by decide +kernel
theorem dX3_cutFewer_79 : decode cX3_cutFewer 79 = .ok (.getfield 9, 3) := by decide +kernel
theorem dX3_cutFewer_82 : decode cX3_cutFewer 82 = .ok (.iload 5, 2) := by decide +kernel
theorem dX3_cutFewer_84 : decode cX3_cutFewer 84 = .ok (.ifCond .eq 16, 3) := by decide +kernel
theorem dX3_cutFewer_87 : decode cX3_cutFewer 87 = .ok (.aload_n 0, 1) := by decide +kernel
theorem dX3_cutFewer_88 : decode cX3_cutFewer 88 = .ok (.getfield 23, 3) := by decide +kernel
theorem dX3_cutFewer_91 : decode cX3_cutFewer 91 = .ok (.getfield 49, 3) := by decide +kernel
theorem dX3_cutFewer_94 : decode cX3_cutFewer 94 = .ok (.iload 4, 2) := by decide +kernel
theorem dX3_cutFewer_96 : decode cX3_cutFewer 96 = .ok (.iaload, 1) := by decide +kernel
theorem dX3_cutFewer_97 : decode cX3_cutFewer 97 = .ok (.goto 13, 3) := by decide +kernel
theorem dX3_cutFewer_100 : decode cX3_cutFewer 100 = .ok (.aload_n 0, 1) := by decide +kernel
theorem dX3_cutFewer_101 : decode cX3_cutFewer 101 = .ok (.getfield 23, 3) := by decide +kernel
theorem dX3_cutFewer_104 : decode cX3_cutFewer 104 = .ok (.getfield 44, 3) := by decide +kernel
theorem dX3_cutFewer_107 : decode cX3_cutFewer 107 = .ok (.iload 4, 2) := by decide +kernel
theorem dX3_cutFewer_109 : decode cX3_cutFewer 109 = .ok (.iaload, 1) := by decide +kernel
theorem dX3_cutFewer_110 : decode cX3_cutFewer 110 = .ok (.iaload, 1) := by decide +kernel
theorem dX3_cutFewer_111 : decode cX3_cutFewer 111 = .ok (.istore 7, 2) := by decide +kernel
theorem dX3_cutFewer_113 : decode cX3_cutFewer 113 = .ok (.iload_n 3, 1) := by decide +kernel
theorem dX3_cutFewer_114 : decode cX3_cutFewer 114 = .ok (.iload 7, 2) := by decide +kernel
theorem dX3_cutFewer_116 : decode cX3_cutFewer 116 = .ok (.aload_n 0, 1) := by decide +kernel
theorem dX3_cutFewer_117 : decode cX3_cutFewer 117 = .ok (.getfield 9, 3) := by decide +kernel
theorem dX3_cutFewer_120 : decode cX3_cutFewer 120 = .ok (.iload_n 1, 1) := by decide +kernel
theorem dX3_cutFewer_121 : decode cX3_cutFewer 121 = .ok (.iaload, 1) := by decide +kernel
theorem dX3_cutFewer_122 : decode cX3_cutFewer 122 = .ok (.if_icmp .eq 7, 3) := by decide +kernel
theorem dX3_cutFewer_125 : decode cX3_cutFewer 125 = .ok (.iconst 1, 1) := by decide +kernel
theorem dX3_cutFewer_126 : decode cX3_cutFewer 126 = .ok (.goto 4, 3) := by decide +kernel
theorem dX3_cutFewer_129 : decode cX3_cutFewer 129 = .ok (.iconst 0, 1) := by decide +kernel
theorem dX3_cutFewer_130 : decode cX3_cutFewer 130 = .ok (.iload 7, 2) := by decide +kernel
theorem dX3_cutFewer_132 : decode cX3_cutFewer 132 = .ok (.iload_n 2, 1) := by decide +kernel
theorem dX3_cutFewer_133 : decode cX3_cutFewer 133 = .ok (.if_icmp .eq 7, 3) := by decide +kernel
theorem dX3_cutFewer_136 : decode cX3_cutFewer 136 = .ok (.iconst 1, 1) := by decide +kernel
theorem dX3_cutFewer_137 : decode cX3_cutFewer 137 = .ok (.goto 4, 3) := by decide +kernel
theorem dX3_cutFewer_140 : decode cX3_cutFewer 140 = .ok (.iconst 0, 1) := by decide +kernel
theorem dX3_cutFewer_141 : decode cX3_cutFewer 141 = .ok (.isub, 1) := by decide +kernel
theorem dX3_cutFewer_142 : decode cX3_cutFewer 142 = .ok (.iadd, 1) := by decide +kernel
theorem dX3_cutFewer_143 : decode cX3_cutFewer 143 = .ok (.istore_n 3, 1) := by decide +kernel
theorem dX3_cutFewer_144 : decode cX3_cutFewer 144 = .ok (.iinc 4 1, 3) := by decide +kernel
theorem dX3_cutFewer_147 : decode cX3_cutFewer 147 = .ok (.goto (-142), 3) := by decide +kernel
theorem dX3_cutFewer_150 : decode cX3_cutFewer 150 = .ok (.iload_n 3, 1) := by decide +kernel
theorem dX3_cutFewer_151 : decode cX3_cutFewer 151 = .ok (.ireturn, 1) := by decide +kernel
theorem dX4_init_0 : decode cX4_init 0 = .ok (.aload_n 0, 1) := by decide +kernel
theorem dX4_init_1 : decode cX4_init 1 = .ok (.invokespecial 3, 3) := by decide +kernel
theorem dX4_init_4 : decode cX4_init 4 = .ok (.aload_n 0, 1) := by decide +kernel
theorem dX4_init_5 : decode cX4_init 5 = .ok (.bipush 24, 2) := by decide +kernel
theorem dX4_init_7 : decode cX4_init 7 = .ok (.newarray .int, 2) := by decide +kernel
theorem dX4_init_9 : decode cX4_init 9 = .ok (.putfield 9, 3) := by decide +kernel
theorem dX4_init_12 : decode cX4_init 12 = .ok (.aload_n 0, 1) := by decide +kernel
theorem dX4_init_13 : decode cX4_init 13 = .ok (.bipush 24, 2) := by decide +kernel
theorem dX4_init_15 : decode cX4_init 15 = .ok (.newarray .int, 2) := by decide +kernel
theorem dX4_init_17 : decode cX4_init 17 = .ok (.putfield 15, 3) := by decide +kernel
theorem dX4_init_20 : decode cX4_init 20 = .ok (.aload_n 0, 1) := by decide +kernel
theorem dX4_init_21 : decode cX4_init 21 = .ok (.iconst 0, 1) := by decide +kernel
theorem dX4_init_22 : decode cX4_init 22 = .ok (.putfield 18, 3) := by decide +kernel
theorem dX4_init_25 : decode cX4_init 25 = .ok (.aload_n 0, 1) := by decide +kernel
theorem dX4_init_26 : decode cX4_init 26 = .ok (.aload_n 1, 1) := by decide +kernel
theorem dX4_init_27 : decode cX4_init 27 = .ok (.putfield 22, 3) := by decide +kernel
theorem dX4_init_30 : decode cX4_init 30 = .ok (.return_, 1) := by decide +kernel
theorem dX4_comeTo_0 : decode cX4_comeTo 0 = .ok (.aload_n 0, 1) := by decide +kernel
theorem dX4_comeTo_1 : decode cX4_comeTo 1 = .ok (.getfield 9, 3) := by decide +kernel
theorem dX4_comeTo_4 : decode cX4_comeTo 4 = .ok (.iload_n 1, 1) := by decide +kernel
theorem dX4_comeTo_5 : decode cX4_comeTo 5 = .ok (.iload_n 1, 1) := by decide +kernel
theorem dX4_comeTo_6 : decode cX4_comeTo 6 = .ok (.iastore, 1) := by decide +kernel
theorem dX4_comeTo_7 : decode cX4_comeTo 7 = .ok (.aload_n 0, 1) := by decide +kernel
theorem dX4_comeTo_8 : decode cX4_comeTo 8 = .ok (.dup, 1) := by decide +kernel
theorem dX4_comeTo_9 : decode cX4_comeTo 9 = .ok (.getfield 18, 3) := by decide +kernel
theorem dX4_comeTo_12 : decode cX4_comeTo 12 = .ok (.iload_n 1, 1) := by decide +kernel
theorem dX4_comeTo_13 : decode cX4_comeTo 13 = .ok (.invokestatic 26, 3) := by decide +kernel
theorem dX4_comeTo_16 : decode cX4_comeTo 16 = .ok (.ior, 1) := by decide +kernel
theorem dX4_comeTo_17 : decode cX4_comeTo 17 = .ok (.putfield 18, 3) := by decide +kernel
theorem dX4_comeTo_20 : decode cX4_comeTo 20 = .ok (.return_, 1) := by decide +kernel
theorem dX4_startAnew_0 : decode cX4_startAnew 0 = .ok (.iconst 0, 1) := by decide +kernel
theorem dX4_startAnew_1 : decode cX4_startAnew 1 = .ok (.istore_n 2, 1) := by decide +kernel
theorem dX4_startAnew_2 : decode cX4_startAnew 2 = .ok (.iload_n 2, 1) := by decide +kernel
theorem dX4_startAnew_3 : decode cX4_startAnew 3 = .ok (.bipush 24, 2) := by decide +kernel
theorem dX4_startAnew_5 : decode cX4_startAnew 5 = .ok (.if_icmp .ge 16, 3) := by decide +kernel
theorem dX4_startAnew_8 : decode cX4_startAnew 8 = .ok (.aload_n 0, 1) := by decide +kernel
theorem dX4_startAnew_9 : decode cX4_startAnew 9 = .ok (.getfield 9, 3) := by decide +kernel
theorem dX4_startAnew_12 : decode cX4_startAnew 12 = .ok (.iload_n 2, 1) := by decide +kernel
theorem dX4_startAnew_13 : decode cX4_startAnew 13 = .ok (.iload_n 2, 1) := by decide +kernel
theorem dX4_startAnew_14 : decode cX4_startAnew 14 = .ok (.iastore, 1) := by decide +kernel
theorem dX4_startAnew_15 : decode cX4_startAnew 15 = .ok (.iinc 2 1, 3) := by decide +kernel
theorem dX4_startAnew_18 : decode cX4_startAnew 18 = .ok (.goto (-16), 3) := by decide +kernel
theorem dX4_startAnew_21 : decode cX4_startAnew 21 = .ok (.aload_n 0, 1) := by decide +kernel
theorem dX4_startAnew_22 : decode cX4_startAnew 22 = .ok (.iload_n 1, 1) := by decide +kernel
theorem dX4_startAnew_23 : decode cX4_startAnew 23 = .ok (.putfield 18, 3) := by decide +kernel
theorem dX4_startAnew_26 : decode cX4_startAnew 26 = .ok (.return_, 1) := by decide +kernel
theorem dX4_sendAll_0 : decode cX4_sendAll 0 = .ok (.aload_n 0, 1) := by decide +kernel
theorem dX4_sendAll_1 : decode cX4_sendAll 1 = .ok (.getfield 18, 3) := by decide +kernel
theorem dX4_sendAll_4 : decode cX4_sendAll 4 = .ok (.istore_n 1, 1) := by decide +kernel
theorem dX4_sendAll_5 : decode cX4_sendAll 5 = .ok (.aload_n 0, 1) := by decide +kernel
theorem dX4_sendAll_6 : decode cX4_sendAll 6 = .ok (.iconst 0, 1) := by decide +kernel
theorem dX4_sendAll_7 : decode cX4_sendAll 7 = .ok (.putfield 18, 3) := by decide +kernel
theorem dX4_sendAll_10 : decode cX4_sendAll 10 = .ok (.iconst 0, 1) := by decide +kernel
theorem dX4_sendAll_11 : decode cX4_sendAll 11 = .ok (.istore_n 2, 1) := by decide +kernel
theorem dX4_sendAll_12 : decode cX4_sendAll 12 = .ok (.iload_n 2, 1) := by decide +kernel
theorem dX4_sendAll_13 : decode cX4_sendAll 13 = .ok (.bipush 24, 2) := by decide +kernel
theorem dX4_sendAll_15 : decode cX4_sendAll 15 = .ok (.if_icmp .ge 21, 3) := by decide +kernel
theorem dX4_sendAll_18 : decode cX4_sendAll 18 = .ok (.aload_n 0, 1) := by decide +kernel
theorem dX4_sendAll_19 : decode cX4_sendAll 19 = .ok (.getfield 15, 3) := by decide +kernel
theorem dX4_sendAll_22 : decode cX4_sendAll 22 = .ok (.iload_n 2, 1) := by decide +kernel
theorem dX4_sendAll_23 : decode cX4_sendAll 23 = .ok (.aload_n 0, 1) := by decide +kernel
theorem dX4_sendAll_24 : decode cX4_sendAll 24 = .ok (.getfield 9, 3) := by decide +kernel
theorem dX4_sendAll_27 : decode cX4_sendAll 27 = .ok (.iload_n 2, 1) := by decide +kernel
theorem dX4_sendAll_28 : decode cX4_sendAll 28 = .ok (.iaload, 1) := by decide +kernel
theorem dX4_sendAll_29 : decode cX4_sendAll 29 = .ok (.iastore, 1) := by decide +kernel
theorem dX4_sendAll_30 : decode cX4_sendAll 30 = .ok (.iinc 2 1, 3) := by decide +kernel
theorem dX4_sendAll_33 : decode cX4_sendAll 33 = .ok (.goto (-21), 3) := by decide +kernel
theorem dX4_sendAll_36 : decode cX4_sendAll 36 = .ok (.iconst 0, 1) := by decide +kernel
theorem dX4_sendAll_37 : decode cX4_sendAll 37 = .ok (.istore_n 2, 1) := by decide +kernel
theorem dX4_sendAll_38 : decode cX4_sendAll 38 = .ok (.iload_n 2, 1) := by decide +kernel
theorem dX4_sendAll_39 : decode cX4_sendAll 39 = .ok (.aload_n 0, 1) := by decide +kernel
theorem dX4_sendAll_40 : decode cX4_sendAll 40 = .ok (.getfield 22, 3) := by decide +kernel
theorem dX4_sendAll_43 : decode cX4_sendAll 43 = .ok (.getfield 30, 3) := by decide +kernel
theorem dX4_sendAll_46 : decode cX4_sendAll 46 = .ok (.if_icmp .ge 66, 3) := by decide +kernel
theorem dX4_sendAll_49 : decode cX4_sendAll 49 = .ok (.aload_n 0, 1) := by decide +kernel
theorem dX4_sendAll_50 : decode cX4_sendAll 50 = .ok (.getfield 22, 3) := by decide +kernel
theorem dX4_sendAll_53 : decode cX4_sendAll 53 = .ok (.iload_n 2, 1) := by decide +kernel
theorem dX4_sendAll_54 : decode cX4_sendAll 54 = .ok (.invokevirtual 35, 3) := by decide +kernel
theorem dX4_sendAll_57 : decode cX4_sendAll 57 = .ok (.ifCond .eq 49, 3) := by decide +kernel
theorem dX4_sendAll_60 : decode cX4_sendAll 60 = .ok (.aload_n 0, 1) := by decide +kernel
theorem dX4_sendAll_61 : decode cX4_sendAll 61 = .ok (.iload_n 1, 1) := by decide +kernel
theorem dX4_sendAll_62 : decode cX4_sendAll 62 = .ok (.aload_n 0, 1) := by decide +kernel
theorem dX4_sendAll_63 : decode cX4_sendAll 63 = .ok (.getfield 22, 3) := by decide +kernel
theorem dX4_sendAll_66 : decode cX4_sendAll 66 = .ok (.getfield 39, 3) := by decide +kernel
theorem dX4_sendAll_69 : decode cX4_sendAll 69 = .ok (.iload_n 2, 1) := by decide +kernel
theorem dX4_sendAll_70 : decode cX4_sendAll 70 = .ok (.iaload, 1) := by decide +kernel
theorem dX4_sendAll_71 : decode cX4_sendAll 71 = .ok (.aload_n 0, 1) := by decide +kernel
theorem dX4_sendAll_72 : decode cX4_sendAll 72 = .ok (.getfield 22, 3) := by decide +kernel
theorem dX4_sendAll_75 : decode cX4_sendAll 75 = .ok (.getfield 42, 3) := by decide +kernel
