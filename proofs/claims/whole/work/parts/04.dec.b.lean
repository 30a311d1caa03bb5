theorem dX4_sendAll_78 : decode cX4_sendAll 78 = .ok (.iload_n 2, 1) := by decide +kernel
theorem dX4_sendAll_79 : decode cX4_sendAll 79 = .ok (.iaload, 1) := by decide +kernel
theorem dX4_sendAll_80 : decode cX4_sendAll 80 = .ok (.invokevirtual 45, 3) := by decide +kernel
theorem dX4_sendAll_83 : decode cX4_sendAll 83 = .ok (.aload_n 0, 1) := by decide +kernel
theorem dX4_sendAll_84 : decode cX4_sendAll 84 = .ok (.iload_n 1, 1) := by decide +kernel
theorem dX4_sendAll_85 : decode cX4_sendAll 85 = .ok (.aload_n 0, 1) := by decide +kernel
theorem dX4_sendAll_86 : decode cX4_sendAll 86 = .ok (.getfield 22, 3) := by decide +kernel
theorem dX4_sendAll_89 : decode cX4_sendAll 89 = .ok (.getfield 42, 3) := by decide +kernel
theorem dX4_sendAll_92 : decode cX4_sendAll 92 = .ok (.iload_n 2, 1) := by decide +kernel
theorem dX4_sendAll_93 : decode cX4_sendAll 93 = .ok (.iaload, 1) := by decide +kernel
theorem dX4_sendAll_94 : decode cX4_sendAll 94 = .ok (.aload_n 0, 1) := by decide +kernel
theorem dX4_sendAll_95 : decode cX4_sendAll 95 = .ok (.getfield 22, 3) := by decide +kernel
theorem dX4_sendAll_98 : decode cX4_sendAll 98 = .ok (.getfield 39, 3) := by decide +kernel
theorem dX4_sendAll_101 : decode cX4_sendAll 101 = .ok (.iload_n 2, 1) := by decide +kernel
theorem dX4_sendAll_102 : decode cX4_sendAll 102 = .ok (.iaload, 1) := by decide +kernel
theorem dX4_sendAll_103 : decode cX4_sendAll 103 = .ok (.invokevirtual 45, 3) := by decide +kernel
theorem dX4_sendAll_106 : decode cX4_sendAll 106 = .ok (.iinc 2 1, 3) := by decide +kernel
theorem dX4_sendAll_109 : decode cX4_sendAll 109 = .ok (.goto (-71), 3) := by decide +kernel
theorem dX4_sendAll_112 : decode cX4_sendAll 112 = .ok (.return_, 1) := by decide +kernel
theorem dX4_sendAlong_0 : decode cX4_sendAlong 0 = .ok (.iload_n 1, 1) := by decide +kernel
theorem dX4_sendAlong_1 : decode cX4_sendAlong 1 = .ok (.iload_n 2, 1) := by decide +kernel
theorem dX4_sendAlong_2 : decode cX4_sendAlong 2 = .ok (.invokestatic 49, 3) := by decide +kernel
theorem dX4_sendAlong_5 : decode cX4_sendAlong 5 = .ok (.ifCond .eq 43, 3) := by decide +kernel
theorem dX4_sendAlong_8 : decode cX4_sendAlong 8 = .ok (.aload_n 0, 1) := by decide +kernel
theorem dX4_sendAlong_9 : decode cX4_sendAlong 9 = .ok (.getfield 15, 3) := by decide +kernel
theorem dX4_sendAlong_12 : decode cX4_sendAlong 12 = .ok (.iload_n 2, 1) := by decide +kernel
theorem dX4_sendAlong_13 : decode cX4_sendAlong 13 = .ok (.iaload, 1) := by decide +kernel
theorem dX4_sendAlong_14 : decode cX4_sendAlong 14 = .ok (.aload_n 0, 1) := by decide +kernel
theorem dX4_sendAlong_15 : decode cX4_sendAlong 15 = .ok (.getfield 9, 3) := by decide +kernel
theorem dX4_sendAlong_18 : decode cX4_sendAlong 18 = .ok (.iload_n 3, 1) := by decide +kernel
theorem dX4_sendAlong_19 : decode cX4_sendAlong 19 = .ok (.iaload, 1) := by decide +kernel
theorem dX4_sendAlong_20 : decode cX4_sendAlong 20 = .ok (.if_icmp .ge 28, 3) := by decide +kernel
theorem dX4_sendAlong_23 : decode cX4_sendAlong 23 = .ok (.aload_n 0, 1) := by decide +kernel
theorem dX4_sendAlong_24 : decode cX4_sendAlong 24 = .ok (.getfield 9, 3) := by decide +kernel
theorem dX4_sendAlong_27 : decode cX4_sendAlong 27 = .ok (.iload_n 3, 1) := by decide +kernel
theorem dX4_sendAlong_28 : decode cX4_sendAlong 28 = .ok (.aload_n 0, 1) := by decide +kernel
theorem dX4_sendAlong_29 : decode cX4_sendAlong 29 = .ok (.getfield 15, 3) := by decide +kernel
theorem dX4_sendAlong_32 : decode cX4_sendAlong 32 = .ok (.iload_n 2, 1) := by decide +kernel
theorem dX4_sendAlong_33 : decode cX4_sendAlong 33 = .ok (.iaload, 1) := by decide +kernel
theorem dX4_sendAlong_34 : decode cX4_sendAlong 34 = .ok (.iastore, 1) := by decide +kernel
theorem dX4_sendAlong_35 : decode cX4_sendAlong 35 = .ok (.aload_n 0, 1) := by decide +kernel
theorem dX4_sendAlong_36 : decode cX4_sendAlong 36 = .ok (.dup, 1) := by decide +kernel
theorem dX4_sendAlong_37 : decode cX4_sendAlong 37 = .ok (.getfield 18, 3) := by decide +kernel
theorem dX4_sendAlong_40 : decode cX4_sendAlong 40 = .ok (.iload_n 3, 1) := by decide +kernel
theorem dX4_sendAlong_41 : decode cX4_sendAlong 41 = .ok (.invokestatic 26, 3) := by decide +kernel
theorem dX4_sendAlong_44 : decode cX4_sendAlong 44 = .ok (.ior, 1) := by decide +kernel
theorem dX4_sendAlong_45 : decode cX4_sendAlong 45 = .ok (.putfield 18, 3) := by decide +kernel
theorem dX4_sendAlong_48 : decode cX4_sendAlong 48 = .ok (.return_, 1) := by decide +kernel
theorem dX5_init_0 : decode cX5_init 0 = .ok (.aload_n 0, 1) := by decide +kernel
theorem dX5_init_1 : decode cX5_init 1 = .ok (.invokespecial 3, 3) := by decide +kernel
theorem dX5_init_4 : decode cX5_init 4 = .ok (.aload_n 0, 1) := by decide +kernel
theorem dX5_init_5 : decode cX5_init 5 = .ok (.bipush 12, 2) := by decide +kernel
theorem dX5_init_7 : decode cX5_init 7 = .ok (.bipush 24, 2) := by decide +kernel
theorem dX5_init_9 : decode cX5_init 9 = .ok (.multianewarray 9 2, 4) := by decide +kernel
theorem dX5_init_13 : decode cX5_init 13 = .ok (.putfield 11, 3) := by decide +kernel
theorem dX5_init_16 : decode cX5_init 16 = .ok (.aload_n 0, 1) := by decide +kernel
theorem dX5_init_17 : decode cX5_init 17 = .ok (.bipush 24, 2) := by decide +kernel
theorem dX5_init_19 : decode cX5_init 19 = .ok (.newarray .int, 2) := by decide +kernel
theorem dX5_init_21 : decode cX5_init 21 = .ok (.putfield 16, 3) := by decide +kernel
theorem dX5_init_24 : decode cX5_init 24 = .ok (.aload_n 0, 1) := by decide +kernel
theorem dX5_init_25 : decode cX5_init 25 = .ok (.aload_n 1, 1) := by decide +kernel
theorem dX5_init_26 : decode cX5_init 26 = .ok (.putfield 20, 3) := by decide +kernel
theorem dX5_init_29 : decode cX5_init 29 = .ok (.aload_n 0, 1) := by decide +kernel
theorem dX5_init_30 : decode cX5_init 30 = .ok (.aload_n 2, 1) := by decide +kernel
theorem dX5_init_31 : decode cX5_init 31 = .ok (.putfield 24, 3) := by decide +kernel
theorem dX5_init_34 : decode cX5_init 34 = .ok (.return_, 1) := by decide +kernel
theorem dX5_relate_0 : decode cX5_relate 0 = .ok (.aload_n 1, 1) := by decide +kernel
theorem dX5_relate_1 : decode cX5_relate 1 = .ok (.getfield 28, 3) := by decide +kernel
theorem dX5_relate_4 : decode cX5_relate 4 = .ok (.ifCond .ne 8, 3) := by decide +kernel
theorem dX5_relate_7 : decode cX5_relate 7 = .ok (.aload_n 0, 1) := by decide +kernel
theorem dX5_relate_8 : decode cX5_relate 8 = .ok (.getfield 16, 3) := by decide +kernel
theorem dX5_relate_11 : decode cX5_relate 11 = .ok (.areturn, 1) := by decide +kernel
theorem dX5_relate_12 : decode cX5_relate 12 = .ok (.iconst 0, 1) := by decide +kernel
theorem dX5_relate_13 : decode cX5_relate 13 = .ok (.istore_n 3, 1) := by decide +kernel
theorem dX5_relate_14 : decode cX5_relate 14 = .ok (.iload_n 3, 1) := by decide +kernel
theorem dX5_relate_15 : decode cX5_relate 15 = .ok (.aload_n 1, 1) := by decide +kernel
theorem dX5_relate_16 : decode cX5_relate 16 = .ok (.getfield 28, 3) := by decide +kernel
theorem dX5_relate_19 : decode cX5_relate 19 = .ok (.if_icmp .ge 16, 3) := by decide +kernel
theorem dX5_relate_22 : decode cX5_relate 22 = .ok (.aload_n 0, 1) := by decide +kernel
theorem dX5_relate_23 : decode cX5_relate 23 = .ok (.aload_n 1, 1) := by decide +kernel
theorem dX5_relate_24 : decode cX5_relate 24 = .ok (.iload_n 3, 1) := by decide +kernel
theorem dX5_relate_25 : decode cX5_relate 25 = .ok (.iload_n 2, 1) := by decide +kernel
theorem dX5_relate_26 : decode cX5_relate 26 = .ok (.invokevirtual 34, 3) := by decide +kernel
theorem dX5_relate_29 : decode cX5_relate 29 = .ok (.iinc 3 1, 3) := by decide +kernel
theorem dX5_relate_32 : decode cX5_relate 32 = .ok (.goto (-18), 3) := by decide +kernel
theorem dX5_relate_35 : decode cX5_relate 35 = .ok (.aload_n 0, 1) := by decide +kernel
theorem dX5_relate_36 : decode cX5_relate 36 = .ok (.getfield 11, 3) := by decide +kernel
theorem dX5_relate_39 : decode cX5_relate 39 = .ok (.aload_n 1, 1) := by decide +kernel
theorem dX5_relate_40 : decode cX5_relate 40 = .ok (.getfield 28, 3) := by decide +kernel
theorem dX5_relate_43 : decode cX5_relate 43 = .ok (.iconst 1, 1) := by decide +kernel
theorem dX5_relate_44 : decode cX5_relate 44 = .ok (.isub, 1) := by decide +kernel
theorem dX5_relate_45 : decode cX5_relate 45 = .ok (.aaload, 1) := by decide +kernel
theorem dX5_relate_46 : decode cX5_relate 46 = .ok (.areturn, 1) := by decide +kernel
theorem dX5_relateStep_0 : decode cX5_relateStep 0 = .ok (.aload_n 0, 1) := by decide +kernel
theorem dX5_relateStep_1 : decode cX5_relateStep 1 = .ok (.getfield 11, 3) := by decide +kernel
theorem dX5_relateStep_4 : decode cX5_relateStep 4 = .ok (.iload_n 2, 1) := by decide +kernel
theorem dX5_relateStep_5 : decode cX5_relateStep 5 = .ok (.aaload, 1) := by decide +kernel
theorem dX5_relateStep_6 : decode cX5_relateStep 6 = .ok (.astore 4, 2) := by decide +kernel
theorem dX5_relateStep_8 : decode cX5_relateStep 8 = .ok (.aload_n 0, 1) := by decide +kernel
theorem dX5_relateStep_9 : decode cX5_relateStep 9 = .ok (.getfield 11, 3) := by decide +kernel
theorem dX5_relateStep_12 : decode cX5_relateStep 12 = .ok (.aload_n 1, 1) := by decide +kernel
theorem dX5_relateStep_13 : decode cX5_relateStep 13 = .ok (.getfield 38, 3) := by decide +kernel
theorem dX5_relateStep_16 : decode cX5_relateStep 16 = .ok (.iload_n 2, 1) := by decide +kernel
theorem dX5_relateStep_17 : decode cX5_relateStep 17 = .ok (.iaload, 1) := by decide +kernel
theorem dX5_relateStep_18 : decode cX5_relateStep 18 = .ok (.aaload, 1) := by decide +kernel
theorem dX5_relateStep_19 : decode cX5_relateStep 19 = .ok (.astore 5, 2) := by decide +kernel
theorem dX5_relateStep_21 : decode cX5_relateStep 21 = .ok (.aload_n 0, 1) := by decide +kernel
theorem dX5_relateStep_22 : decode cX5_relateStep 22 = .ok (.getfield 11, 3) := by decide +kernel
theorem dX5_relateStep_25 : decode cX5_relateStep 25 = .ok (.aload_n 1, 1) := by decide +kernel
theorem dX5_relateStep_26 : decode cX5_relateStep 26 = .ok (.getfield 41, 3) := by decide +kernel
theorem dX5_relateStep_29 : decode cX5_relateStep 29 = .ok (.iload_n 2, 1) := by decide +kernel
theorem dX5_relateStep_30 : decode cX5_relateStep 30 = .ok (.iaload, 1) := by decide +kernel
theorem dX5_relateStep_31 : decode cX5_relateStep 31 = .ok (.aaload, 1) := by decide +kernel
theorem dX5_relateStep_32 : decode cX5_relateStep 32 = .ok (.astore 6, 2) := by decide +kernel
theorem dX5_relateStep_34 : decode cX5_relateStep 34 = .ok (.aload_n 1, 1) := by decide +kernel
theorem dX5_relateStep_35 : decode cX5_relateStep 35 = .ok (.getfield 44, 3) := by decide +kernel
theorem dX5_relateStep_38 : decode cX5_relateStep 38 = .ok (.iload_n 2, 1) := by decide +kernel
theorem dX5_relateStep_39 : decode cX5_relateStep 39 = .ok (.iaload, 1) := by decide +kernel
theorem dX5_relateStep_40 : decode cX5_relateStep 40 = .ok (.tableswitch 86 3 5 #[28, 40, 75], 28) := by decide +kernel
theorem dX5_relateStep_68 : decode cX5_relateStep 68 = .ok (.aload 5, 2) := by decide +kernel
theorem dX5_relateStep_70 : decode cX5_relateStep 70 = .ok (.aload 6, 2) := by decide +kernel
theorem dX5_relateStep_72 : decode cX5_relateStep 72 = .ok (.aload 4, 2) := by decide +kernel
theorem dX5_relateStep_74 : decode cX5_relateStep 74 = .ok (.invokestatic 47, 3) := by decide +kernel
theorem dX5_relateStep_77 : decode cX5_relateStep 77 = .ok (.goto 85, 3) := by decide +kernel
theorem dX5_relateStep_80 : decode cX5_relateStep 80 = .ok (.iconst 0, 1) := by decide +kernel
theorem dX5_relateStep_81 : decode cX5_relateStep 81 = .ok (.istore 7, 2) := by decide +kernel
theorem dX5_relateStep_83 : decode cX5_relateStep 83 = .ok (.iload 7, 2) := by decide +kernel
theorem dX5_relateStep_85 : decode cX5_relateStep 85 = .ok (.bipush 24, 2) := by decide +kernel
theorem dX5_relateStep_87 : decode cX5_relateStep 87 = .ok (.if_icmp .ge 25, 3) := by decide +kernel
theorem dX5_relateStep_90 : decode cX5_relateStep 90 = .ok (.aload 4, 2) := by decide +kernel
theorem dX5_relateStep_92 : decode cX5_relateStep 92 = .ok (.iload 7, 2) := by decide +kernel
theorem dX5_relateStep_94 : decode cX5_relateStep 94 = .ok (.aload 5, 2) := by decide +kernel
theorem dX5_relateStep_96 : decode cX5_relateStep 96 = .ok (.iload 7, 2) := by decide +kernel
theorem dX5_relateStep_98 : decode cX5_relateStep 98 = .ok (.iaload, 1) := by decide +kernel
theorem dX5_relateStep_99 : decode cX5_relateStep 99 = .ok (.aload 6, 2) := by decide +kernel
theorem dX5_relateStep_101 : decode cX5_relateStep 101 = .ok (.iload 7, 2) := by decide +kernel
theorem dX5_relateStep_103 : decode cX5_relateStep 103 = .ok (.iaload, 1) := by decide +kernel
theorem dX5_relateStep_104 : decode cX5_relateStep 104 = .ok (.ior, 1) := by decide +kernel
theorem dX5_relateStep_105 : decode cX5_relateStep 105 = .ok (.iastore, 1) := by decide +kernel
theorem dX5_relateStep_106 : decode cX5_relateStep 106 = .ok (.iinc 7 1, 3) := by decide +kernel
theorem dX5_relateStep_109 : decode cX5_relateStep 109 = .ok (.goto (-26), 3) := by decide +kernel
theorem dX5_relateStep_112 : decode cX5_relateStep 112 = .ok (.goto 50, 3) := by decide +kernel
theorem dX5_relateStep_115 : decode cX5_relateStep 115 = .ok (.aload 5, 2) := by decide +kernel
theorem dX5_relateStep_117 : decode cX5_relateStep 117 = .ok (.iload_n 3, 1) := by decide +kernel
theorem dX5_relateStep_118 : decode cX5_relateStep 118 = .ok (.aload 4, 2) := by decide +kernel
theorem dX5_relateStep_120 : decode cX5_relateStep 120 = .ok (.invokestatic 51, 3) := by decide +kernel
theorem dX5_relateStep_123 : decode cX5_relateStep 123 = .ok (.goto 39, 3) := by decide +kernel
theorem dX5_relateStep_126 : decode cX5_relateStep 126 = .ok (.iconst 0, 1) := by decide +kernel
theorem dX5_relateStep_127 : decode cX5_relateStep 127 = .ok (.istore 7, 2) := by decide +kernel
theorem dX5_relateStep_129 : decode cX5_relateStep 129 = .ok (.iload 7, 2) := by decide +kernel
theorem dX5_relateStep_131 : decode cX5_relateStep 131 = .ok (.bipush 24, 2) := by decide +kernel
theorem dX5_relateStep_133 : decode cX5_relateStep 133 = .ok (.if_icmp .ge 29, 3) := by decide +kernel
theorem dX5_relateStep_136 : decode cX5_relateStep 136 = .ok (.aload 4, 2) := by decide +kernel
theorem dX5_relateStep_138 : decode cX5_relateStep 138 = .ok (.iload 7, 2) := by decide +kernel
theorem dX5_relateStep_140 : decode cX5_relateStep 140 = .ok (.aload_n 0, 1) := by decide +kernel
theorem dX5_relateStep_141 : decode cX5_relateStep 141 = .ok (.aload_n 1, 1) := by decide +kernel
theorem dX5_relateStep_142 : decode cX5_relateStep 142 = .ok (.iload_n 2, 1) := by decide +kernel
theorem dX5_relateStep_143 : decode cX5_relateStep 143 = .ok (.iload 7, 2) := by decide +kernel
theorem dX5_relateStep_145 : decode cX5_relateStep 145 = .ok (.invokestatic 55, 3) := by decide +kernel
theorem dX5_relateStep_148 : decode cX5_relateStep 148 = .ok (.iload_n 3, 1) := by decide +kernel
theorem dX5_relateStep_149 : decode cX5_relateStep 149 = .ok (.iand, 1) := by decide +kernel
theorem dX5_relateStep_150 : decode cX5_relateStep 150 = .ok (.invokevirtual 59, 3) := by decide +kernel
theorem dX5_relateStep_153 : decode cX5_relateStep 153 = .ok (.iload_n 3, 1) := by decide +kernel
theorem dX5_relateStep_154 : decode cX5_relateStep 154 = .ok (.iand, 1) := by decide +kernel
theorem dX5_relateStep_155 : decode cX5_relateStep 155 = .ok (.iastore, 1) := by decide +kernel
theorem dX5_relateStep_156 : decode cX5_relateStep 156 = .ok (.iinc 7 1, 3) := by decide +kernel
theorem dX5_relateStep_159 : decode cX5_relateStep 159 = .ok (.goto (-30), 3) := by decide +kernel
theorem dX5_relateStep_162 : decode cX5_relateStep 162 = .ok (.return_, 1) := by decide +kernel
theorem dX5_join_0 : decode cX5_join 0 = .ok (.iconst 0, 1) := by decide +kernel
theorem dX5_join_1 : decode cX5_join 1 = .ok (.istore_n 3, 1) := by decide +kernel
theorem dX5_join_2 : decode cX5_join 2 = .ok (.iload_n 3, 1) := by decide +kernel
theorem dX5_join_3 : decode cX5_join 3 = .ok (.bipush 24, 2) := by decide +kernel
theorem dX5_join_5 : decode cX5_join 5 = .ok (.if_icmp .ge 53, 3) := by decide +kernel
theorem dX5_join_8 : decode cX5_join 8 = .ok (.iconst 0, 1) := by decide +kernel
theorem dX5_join_9 : decode cX5_join 9 = .ok (.istore 4, 2) := by decide +kernel
theorem dX5_join_11 : decode cX5_join 11 = .ok (.iconst 0, 1) := by decide +kernel
theorem dX5_join_12 : decode cX5_join 12 = .ok (.istore 5, 2) := by decide +kernel
theorem dX5_join_14 : decode cX5_join 14 = .ok (.iload 5, 2) := by decide +kernel
theorem dX5_join_16 : decode cX5_join 16 = .ok (.bipush 24, 2) := by decide +kernel
theorem dX5_join_18 : decode cX5_join 18 = .ok (.if_icmp .ge 29, 3) := by decide +kernel
theorem dX5_join_21 : decode cX5_join 21 = .ok (.aload_n 0, 1) := by decide +kernel
theorem dX5_join_22 : decode cX5_join 22 = .ok (.iload_n 3, 1) := by decide +kernel
theorem dX5_join_23 : decode cX5_join 23 = .ok (.iaload, 1) := by decide +kernel
theorem dX5_join_24 : decode cX5_join 24 = .ok (.iload 5, 2) := by decide +kernel
theorem dX5_join_26 : decode cX5_join 26 = .ok (.invokestatic 63, 3) := by decide +kernel
theorem dX5_join_29 : decode cX5_join 29 = .ok (.ifCond .eq 12, 3) := by decide +kernel
theorem dX5_join_32 : decode cX5_join 32 = .ok (.iload 4, 2) := by decide +kernel
theorem dX5_join_34 : decode cX5_join 34 = .ok (.aload_n 1, 1) := by decide +kernel
theorem dX5_join_35 : decode cX5_join 35 = .ok (.iload 5, 2) := by decide +kernel
theorem dX5_join_37 : decode cX5_join 37 = .ok (.iaload, 1) := by decide +kernel
theorem dX5_join_38 : decode cX5_join 38 = .ok (.ior, 1) := by decide +kernel
theorem dX5_join_39 : decode cX5_join 39 = .ok (.istore 4, 2) := by decide +kernel
theorem dX5_join_41 : decode cX5_join 41 = .ok (.iinc 5 1, 3) := by decide +kernel
theorem dX5_join_44 : decode cX5_join 44 = .ok (.goto (-30), 3) := by decide +kernel
theorem dX5_join_47 : decode cX5_join 47 = .ok (.aload_n 2, 1) := by decide +kernel
theorem dX5_join_48 : decode cX5_join 48 = .ok (.iload_n 3, 1) := by decide +kernel
theorem dX5_join_49 : decode cX5_join 49 = .ok (.iload 4, 2) := by decide +kernel
theorem dX5_join_51 : decode cX5_join 51 = .ok (.iastore, 1) := by decide +kernel
theorem dX5_join_52 : decode cX5_join 52 = .ok (.iinc 3 1, 3) := by decide +kernel
theorem dX5_join_55 : decode cX5_join 55 = .ok (.goto (-53), 3) := by decide +kernel
theorem dX5_join_58 : decode cX5_join 58 = .ok (.return_, 1) := by decide +kernel
theorem dX5_repeat_0 : decode cX5_repeat 0 = .ok (.iconst 0, 1) := by decide +kernel
theorem dX5_repeat_1 : decode cX5_repeat 1 = .ok (.istore_n 3, 1) := by decide +kernel
theorem dX5_repeat_2 : decode cX5_repeat 2 = .ok (.iload_n 3, 1) := by decide +kernel
theorem dX5_repeat_3 : decode cX5_repeat 3 = .ok (.bipush 24, 2) := by decide +kernel
theorem dX5_repeat_5 : decode cX5_repeat 5 = .ok (.if_icmp .ge 22, 3) := by decide +kernel
theorem dX5_repeat_8 : decode cX5_repeat 8 = .ok (.aload_n 2, 1) := by decide +kernel
theorem dX5_repeat_9 : decode cX5_repeat 9 = .ok (.iload_n 3, 1) := by decide +kernel
theorem dX5_repeat_10 : decode cX5_repeat 10 = .ok (.aload_n 0, 1) := by decide +kernel
theorem dX5_repeat_11 : decode cX5_repeat 11 = .ok (.iload_n 3, 1) := by decide +kernel
theorem dX5_repeat_12 : decode cX5_repeat 12 = .ok (.iaload, 1) := by decide +kernel
theorem dX5_repeat_13 : decode cX5_repeat 13 = .ok (.iload_n 3, 1) := by decide +kernel
theorem dX5_repeat_14 : decode cX5_repeat 14 = .ok (.invokestatic 55, 3) := by decide +kernel
theorem dX5_repeat_17 : decode cX5_repeat 17 = .ok (.iload_n 1, 1) := by decide +kernel
theorem dX5_repeat_18 : decode cX5_repeat 18 = .ok (.iand, 1) := by decide +kernel
theorem dX5_repeat_19 : decode cX5_repeat 19 = .ok (.ior, 1) := by decide +kernel
theorem dX5_repeat_20 : decode cX5_repeat 20 = .ok (.iastore, 1) := by decide +kernel
theorem dX5_repeat_21 : decode cX5_repeat 21 = .ok (.iinc 3 1, 3) := by decide +kernel
theorem dX5_repeat_24 : decode cX5_repeat 24 = .ok (.goto (-22), 3) := by decide +kernel
theorem dX5_repeat_27 : decode cX5_repeat 27 = .ok (.iconst 0, 1) := by decide +kernel
theorem dX5_repeat_28 : decode cX5_repeat 28 = .ok (.istore_n 3, 1) := by decide +kernel
theorem dX5_repeat_29 : decode cX5_repeat 29 = .ok (.iload_n 3, 1) := by decide +kernel
theorem dX5_repeat_30 : decode cX5_repeat 30 = .ok (.bipush 24, 2) := by decide +kernel
theorem dX5_repeat_32 : decode cX5_repeat 32 = .ok (.if_icmp .ge 46, 3) := by decide +kernel
theorem dX5_repeat_35 : decode cX5_repeat 35 = .ok (.iconst 0, 1) := by decide +kernel
theorem dX5_repeat_36 : decode cX5_repeat 36 = .ok (.istore 4, 2) := by decide +kernel
theorem dX5_repeat_38 : decode cX5_repeat 38 = .ok (.iload 4, 2) := by decide +kernel
theorem dX5_repeat_40 : decode cX5_repeat 40 = .ok (.bipush 24, 2) := by decide +kernel
theorem dX5_repeat_42 : decode cX5_repeat 42 = .ok (.if_icmp .ge 30, 3) := by decide +kernel
theorem dX5_repeat_45 : decode cX5_repeat 45 = .ok (.aload_n 2, 1) := by decide +kernel
theorem dX5_repeat_46 : decode cX5_repeat 46 = .ok (.iload 4, 2) := by decide +kernel
theorem dX5_repeat_48 : decode cX5_repeat 48 = .ok (.iaload, 1) := by decide +kernel
theorem dX5_repeat_49 : decode cX5_repeat 49 = .ok (.iload_n 3, 1) := by decide +kernel
theorem dX5_repeat_50 : decode cX5_repeat 50 = .ok (.invokestatic 63, 3) := by decide +kernel
theorem dX5_repeat_53 : decode cX5_repeat 53 = .ok (.ifCond .eq 13, 3) := by decide +kernel
theorem dX5_repeat_56 : decode cX5_repeat 56 = .ok (.aload_n 2, 1) := by decide +kernel
theorem dX5_repeat_57 : decode cX5_repeat 57 = .ok (.iload 4, 2) := by decide +kernel
theorem dX5_repeat_59 : decode cX5_repeat 59 = .ok (.dup2, 1) := by decide +kernel
theorem dX5_repeat_60 : decode cX5_repeat 60 = .ok (.iaload, 1) := by decide +kernel
theorem dX5_repeat_61 : decode cX5_repeat 61 = .ok (.aload_n 2, 1) := by decide +kernel
theorem dX5_repeat_62 : decode cX5_repeat 62 = .ok (.iload_n 3, 1) := by decide +kernel
theorem dX5_repeat_63 : decode cX5_repeat 63 = .ok (.iaload, 1) := by decide +kernel
theorem dX5_repeat_64 : decode cX5_repeat 64 = .ok (.ior, 1) := by decide +kernel
theorem dX5_repeat_65 : decode cX5_repeat 65 = .ok (.iastore, 1) := by decide +kernel
theorem dX5_repeat_66 : decode cX5_repeat 66 = .ok (.iinc 4 1, 3) := by decide +kernel
theorem dX5_repeat_69 : decode cX5_repeat 69 = .ok (.goto (-31), 3) := by decide +kernel
theorem dX5_repeat_72 : decode cX5_repeat 72 = .ok (.iinc 3 1, 3) := by decide +kernel
theorem dX5_repeat_75 : decode cX5_repeat 75 = .ok (.goto (-46), 3) := by decide +kernel
theorem dX5_repeat_78 : decode cX5_repeat 78 = .ok (.return_, 1) := by decide +kernel
theorem dX5_goOneStep_0 : decode cX5_goOneStep 0 = .ok (.aload_n 1, 1) := by decide +kernel
theorem dX5_goOneStep_1 : decode cX5_goOneStep 1 = .ok (.getfield 67, 3) := by decide +kernel
theorem dX5_goOneStep_4 : decode cX5_goOneStep 4 = .ok (.iload_n 2, 1) := by decide +kernel
theorem dX5_goOneStep_5 : decode cX5_goOneStep 5 = .ok (.iaload, 1) := by decide +kernel
theorem dX5_goOneStep_6 : decode cX5_goOneStep 6 = .ok (.istore 4, 2) := by decide +kernel
theorem dX5_goOneStep_8 : decode cX5_goOneStep 8 = .ok (.aload_n 1, 1) := by decide +kernel
theorem dX5_goOneStep_9 : decode cX5_goOneStep 9 = .ok (.getfield 44, 3) := by decide +kernel
theorem dX5_goOneStep_12 : decode cX5_goOneStep 12 = .ok (.iload_n 2, 1) := by decide +kernel
theorem dX5_goOneStep_13 : decode cX5_goOneStep 13 = .ok (.iaload, 1) := by decide +kernel
theorem dX5_goOneStep_14 : decode cX5_goOneStep 14 = .ok (.lookupswitch 48 #[(0, 26), (1, 37)], 26) := by decide +kernel
theorem dX5_goOneStep_40 : decode cX5_goOneStep 40 = .ok (.aload_n 0, 1) := by decide +kernel
theorem dX5_goOneStep_41 : decode cX5_goOneStep 41 = .ok (.getfield 24, 3) := by decide +kernel
theorem dX5_goOneStep_44 : decode cX5_goOneStep 44 = .ok (.iload 4, 2) := by decide +kernel
theorem dX5_goOneStep_46 : decode cX5_goOneStep 46 = .ok (.iload_n 3, 1) := by decide +kernel
theorem dX5_goOneStep_47 : decode cX5_goOneStep 47 = .ok (.invokevirtual 70, 3) := by decide +kernel
theorem dX5_goOneStep_50 : decode cX5_goOneStep 50 = .ok (.ireturn, 1) := by decide +kernel
theorem dX5_goOneStep_51 : decode cX5_goOneStep 51 = .ok (.aload_n 0, 1) := by decide +kernel
theorem dX5_goOneStep_52 : decode cX5_goOneStep 52 = .ok (.getfield 24, 3) := by decide +kernel
theorem dX5_goOneStep_55 : decode cX5_goOneStep 55 = .ok (.iload 4, 2) := by decide +kernel
theorem dX5_goOneStep_57 : decode cX5_goOneStep 57 = .ok (.iload_n 3, 1) := by decide +kernel
theorem dX5_goOneStep_58 : decode cX5_goOneStep 58 = .ok (.invokevirtual 76, 3) := by decide +kernel
theorem dX5_goOneStep_61 : decode cX5_goOneStep 61 = .ok (.ireturn, 1) := by decide +kernel
theorem dX5_goOneStep_62 : decode cX5_goOneStep 62 = .ok (.iload_n 3, 1) := by decide +kernel
theorem dX5_goOneStep_63 : decode cX5_goOneStep 63 = .ok (.aload_n 0, 1) := by decide +kernel
theorem dX5_goOneStep_64 : decode cX5_goOneStep 64 = .ok (.getfield 20, 3) := by decide +kernel
theorem dX5_goOneStep_67 : decode cX5_goOneStep 67 = .ok (.iload 4, 2) := by decide +kernel
theorem dX5_goOneStep_69 : decode cX5_goOneStep 69 = .ok (.invokevirtual 79, 3) := by decide +kernel
theorem dX5_goOneStep_72 : decode cX5_goOneStep 72 = .ok (.iand, 1) := by decide +kernel
theorem dX5_goOneStep_73 : decode cX5_goOneStep 73 = .ok (.ireturn, 1) := by decide +kernel
theorem dX5_goOn_0 : decode cX5_goOn 0 = .ok (.aload_n 1, 1) := by decide +kernel
theorem dX5_goOn_1 : decode cX5_goOn 1 = .ok (.getfield 28, 3) := by decide +kernel
theorem dX5_goOn_4 : decode cX5_goOn 4 = .ok (.ifCond .ne 5, 3) := by decide +kernel
theorem dX5_goOn_7 : decode cX5_goOn 7 = .ok (.iconst 0, 1) := by decide +kernel
theorem dX5_goOn_8 : decode cX5_goOn 8 = .ok (.ireturn, 1) := by decide +kernel
theorem dX5_goOn_9 : decode cX5_goOn 9 = .ok (.aload_n 0, 1) := by decide +kernel
theorem dX5_goOn_10 : decode cX5_goOn 10 = .ok (.aload_n 1, 1) := by decide +kernel
theorem dX5_goOn_11 : decode cX5_goOn 11 = .ok (.aload_n 1, 1) := by decide +kernel
theorem dX5_goOn_12 : decode cX5_goOn 12 = .ok (.getfield 28, 3) := by decide +kernel
theorem dX5_goOn_15 : decode cX5_goOn 15 = .ok (.iconst 1, 1) := by decide +kernel
theorem dX5_goOn_16 : decode cX5_goOn 16 = .ok (.isub, 1) := by decide +kernel
theorem dX5_goOn_17 : decode cX5_goOn 17 = .ok (.iload_n 2, 1) := by decide +kernel
theorem dX5_goOn_18 : decode cX5_goOn 18 = .ok (.invokestatic 55, 3) := by decide +kernel
theorem dX5_goOn_21 : decode cX5_goOn 21 = .ok (.iload_n 3, 1) := by decide +kernel
theorem dX5_goOn_22 : decode cX5_goOn 22 = .ok (.iand, 1) := by decide +kernel
theorem dX5_goOn_23 : decode cX5_goOn 23 = .ok (.iload_n 3, 1) := by decide +kernel
theorem dX5_goOn_24 : decode cX5_goOn 24 = .ok (.iconst 0, 1) := by decide +kernel
theorem dX5_goOn_25 : decode cX5_goOn 25 = .ok (.invokevirtual 84, 3) := by decide +kernel
theorem dX5_goOn_28 : decode cX5_goOn 28 = .ok (.ireturn, 1) := by decide +kernel
theorem dX5_goOnFrom_0 : decode cX5_goOnFrom 0 = .ok (.iload 5, 2) := by decide +kernel
theorem dX5_goOnFrom_2 : decode cX5_goOnFrom 2 = .ok (.bipush 12, 2) := by decide +kernel
theorem dX5_goOnFrom_4 : decode cX5_goOnFrom 4 = .ok (.if_icmp .gt 7, 3) := by decide +kernel
theorem dX5_goOnFrom_7 : decode cX5_goOnFrom 7 = .ok (.iload_n 3, 1) := by decide +kernel
theorem dX5_goOnFrom_8 : decode cX5_goOnFrom 8 = .ok (.ifCond .ne 5, 3) := by decide +kernel
theorem dX5_goOnFrom_11 : decode cX5_goOnFrom 11 = .ok (.iconst 0, 1) := by decide +kernel
theorem dX5_goOnFrom_12 : decode cX5_goOnFrom 12 = .ok (.ireturn, 1) := by decide +kernel
theorem dX5_goOnFrom_13 : decode cX5_goOnFrom 13 = .ok (.aload_n 1, 1) := by decide +kernel
theorem dX5_goOnFrom_14 : decode cX5_goOnFrom 14 = .ok (.getfield 38, 3) := by decide +kernel
theorem dX5_goOnFrom_17 : decode cX5_goOnFrom 17 = .ok (.iload_n 2, 1) := by decide +kernel
theorem dX5_goOnFrom_18 : decode cX5_goOnFrom 18 = .ok (.iaload, 1) := by decide +kernel
theorem dX5_goOnFrom_19 : decode cX5_goOnFrom 19 = .ok (.istore 6, 2) := by decide +kernel
theorem dX5_goOnFrom_21 : decode cX5_goOnFrom 21 = .ok (.aload_n 1, 1) := by decide +kernel
theorem dX5_goOnFrom_22 : decode cX5_goOnFrom 22 = .ok (.getfield 41, 3) := by decide +kernel
theorem dX5_goOnFrom_25 : decode cX5_goOnFrom 25 = .ok (.iload_n 2, 1) := by decide +kernel
theorem dX5_goOnFrom_26 : decode cX5_goOnFrom 26 = .ok (.iaload, 1) := by decide +kernel
theorem dX5_goOnFrom_27 : decode cX5_goOnFrom 27 = .ok (.istore 7, 2) := by decide +kernel
theorem dX5_goOnFrom_29 : decode cX5_goOnFrom 29 = .ok (.aload_n 1, 1) := by decide +kernel
theorem dX5_goOnFrom_30 : decode cX5_goOnFrom 30 = .ok (.getfield 44, 3) := by decide +kernel
theorem dX5_goOnFrom_33 : decode cX5_goOnFrom 33 = .ok (.iload_n 2, 1) := by decide +kernel
theorem dX5_goOnFrom_34 : decode cX5_goOnFrom 34 = .ok (.iaload, 1) := by decide +kernel
theorem dX5_goOnFrom_35 : decode cX5_goOnFrom 35 = .ok (.tableswitch 106 3 5 #[25, 57, 87], 25) := by decide +kernel
theorem dX5_goOnFrom_60 : decode cX5_goOnFrom 60 = .ok (.aload_n 0, 1) := by decide +kernel
theorem dX5_goOnFrom_61 : decode cX5_goOnFrom 61 = .ok (.aload_n 1, 1) := by decide +kernel
theorem dX5_goOnFrom_62 : decode cX5_goOnFrom 62 = .ok (.iload 6, 2) := by decide +kernel
theorem dX5_goOnFrom_64 : decode cX5_goOnFrom 64 = .ok (.iload_n 3, 1) := by decide +kernel
theorem dX5_goOnFrom_65 : decode cX5_goOnFrom 65 = .ok (.iload 4, 2) := by decide +kernel
theorem dX5_goOnFrom_67 : decode cX5_goOnFrom 67 = .ok (.iload 5, 2) := by decide +kernel
theorem dX5_goOnFrom_69 : decode cX5_goOnFrom 69 = .ok (.iconst 1, 1) := by decide +kernel
theorem dX5_goOnFrom_70 : decode cX5_goOnFrom 70 = .ok (.iadd, 1) := by decide +kernel
theorem dX5_goOnFrom_71 : decode cX5_goOnFrom 71 = .ok (.invokevirtual 84, 3) := by decide +kernel
theorem dX5_goOnFrom_74 : decode cX5_goOnFrom 74 = .ok (.istore 8, 2) := by decide +kernel
theorem dX5_goOnFrom_76 : decode cX5_goOnFrom 76 = .ok (.aload_n 0, 1) := by decide +kernel
theorem dX5_goOnFrom_77 : decode cX5_goOnFrom 77 = .ok (.aload_n 1, 1) := by decide +kernel
theorem dX5_goOnFrom_78 : decode cX5_goOnFrom 78 = .ok (.iload 7, 2) := by decide +kernel
theorem dX5_goOnFrom_80 : decode cX5_goOnFrom 80 = .ok (.iload 8, 2) := by decide +kernel
theorem dX5_goOnFrom_82 : decode cX5_goOnFrom 82 = .ok (.iload 4, 2) := by decide +kernel
theorem dX5_goOnFrom_84 : decode cX5_goOnFrom 84 = .ok (.iload 5, 2) := by decide +kernel
theorem dX5_goOnFrom_86 : decode cX5_goOnFrom 86 = .ok (.iconst 1, 1) := by decide +kernel
theorem dX5_goOnFrom_87 : decode cX5_goOnFrom 87 = .ok (.iadd, 1) := by decide +kernel
theorem dX5_goOnFrom_88 : decode cX5_goOnFrom 88 = .ok (.invokevirtual 84, 3) := by decide +kernel
theorem dX5_goOnFrom_91 : decode cX5_goOnFrom 91 = .ok (.ireturn, 1) := by decide +kernel
theorem dX5_goOnFrom_92 : decode cX5_goOnFrom 92 = .ok (.aload_n 0, 1) := by decide +kernel
theorem dX5_goOnFrom_93 : decode cX5_goOnFrom 93 = .ok (.aload_n 1, 1) := by decide +kernel
theorem dX5_goOnFrom_94 : decode cX5_goOnFrom 94 = .ok (.iload 6, 2) := by decide +kernel
theorem dX5_goOnFrom_96 : decode cX5_goOnFrom 96 = .ok (.iload_n 3, 1) := by decide +kernel
theorem dX5_goOnFrom_97 : decode cX5_goOnFrom 97 = .ok (.iload 4, 2) := by decide +kernel
theorem dX5_goOnFrom_99 : decode cX5_goOnFrom 99 = .ok (.iload 5, 2) := by decide +kernel
theorem dX5_goOnFrom_101 : decode cX5_goOnFrom 101 = .ok (.iconst 1, 1) := by decide +kernel
theorem dX5_goOnFrom_102 : decode cX5_goOnFrom 102 = .ok (.iadd, 1) := by decide +kernel
theorem dX5_goOnFrom_103 : decode cX5_goOnFrom 103 = .ok (.invokevirtual 84, 3) := by decide +kernel
theorem dX5_goOnFrom_106 : decode cX5_goOnFrom 106 = .ok (.aload_n 0, 1) := by decide +kernel
theorem dX5_goOnFrom_107 : decode cX5_goOnFrom 107 = .ok (.aload_n 1, 1) := by decide +kernel
theorem dX5_goOnFrom_108 : decode cX5_goOnFrom 108 = .ok (.iload 7, 2) := by decide +kernel
theorem dX5_goOnFrom_110 : decode cX5_goOnFrom 110 = .ok (.iload_n 3, 1) := by decide +kernel
theorem dX5_goOnFrom_111 : decode cX5_goOnFrom 111 = .ok (.iload 4, 2) := by decide +kernel
theorem dX5_goOnFrom_113 : decode cX5_goOnFrom 113 = .ok (.iload 5, 2) := by decide +kernel
theorem dX5_goOnFrom_115 : decode cX5_goOnFrom 115 = .ok (.iconst 1, 1) := by decide +kernel
theorem dX5_goOnFrom_116 : decode cX5_goOnFrom 116 = .ok (.iadd, 1) := by decide +kernel
theorem dX5_goOnFrom_117 : decode cX5_goOnFrom 117 = .ok (.invokevirtual 84, 3) := by decide +kernel
theorem dX5_goOnFrom_120 : decode cX5_goOnFrom 120 = .ok (.ior, 1) := by decide +kernel
theorem dX5_goOnFrom_121 : decode cX5_goOnFrom 121 = .ok (.ireturn, 1) := by decide +kernel
theorem dX5_goOnFrom_122 : decode cX5_goOnFrom 122 = .ok (.aload_n 0, 1) := by decide +kernel
theorem dX5_goOnFrom_123 : decode cX5_goOnFrom 123 = .ok (.aload_n 1, 1) := by decide +kernel
theorem dX5_goOnFrom_124 : decode cX5_goOnFrom 124 = .ok (.aload_n 1, 1) := by decide +kernel
theorem dX5_goOnFrom_125 : decode cX5_goOnFrom 125 = .ok (.iload 6, 2) := by decide +kernel
theorem dX5_goOnFrom_127 : decode cX5_goOnFrom 127 = .ok (.invokestatic 88, 3) := by decide +kernel
theorem dX5_goOnFrom_130 : decode cX5_goOnFrom 130 = .ok (.iload_n 3, 1) := by decide +kernel
theorem dX5_goOnFrom_131 : decode cX5_goOnFrom 131 = .ok (.iload 4, 2) := by decide +kernel
theorem dX5_goOnFrom_133 : decode cX5_goOnFrom 133 = .ok (.iload 5, 2) := by decide +kernel
theorem dX5_goOnFrom_135 : decode cX5_goOnFrom 135 = .ok (.iconst 1, 1) := by decide +kernel
theorem dX5_goOnFrom_136 : decode cX5_goOnFrom 136 = .ok (.iadd, 1) := by decide +kernel
theorem dX5_goOnFrom_137 : decode cX5_goOnFrom 137 = .ok (.invokevirtual 92, 3) := by decide +kernel
theorem dX5_goOnFrom_140 : decode cX5_goOnFrom 140 = .ok (.ireturn, 1) := by decide +kernel
theorem dX5_goOnFrom_141 : decode cX5_goOnFrom 141 = .ok (.aload_n 0, 1) := by decide +kernel
theorem dX5_goOnFrom_142 : decode cX5_goOnFrom 142 = .ok (.aload_n 1, 1) := by decide +kernel
theorem dX5_goOnFrom_143 : decode cX5_goOnFrom 143 = .ok (.iload_n 2, 1) := by decide +kernel
theorem dX5_goOnFrom_144 : decode cX5_goOnFrom 144 = .ok (.iload_n 3, 1) := by decide +kernel
theorem dX5_goOnFrom_145 : decode cX5_goOnFrom 145 = .ok (.invokevirtual 59, 3) := by decide +kernel
theorem dX5_goOnFrom_148 : decode cX5_goOnFrom 148 = .ok (.iload 4, 2) := by decide +kernel
theorem dX5_goOnFrom_150 : decode cX5_goOnFrom 150 = .ok (.iand, 1) := by decide +kernel
theorem dX5_goOnFrom_151 : decode cX5_goOnFrom 151 = .ok (.ireturn, 1) := by decide +kernel
theorem dX5_once_0 : decode cX5_once 0 = .ok (.iload_n 1, 1) := by decide +kernel
theorem dX5_once_1 : decode cX5_once 1 = .ok (.istore_n 2, 1) := by decide +kernel
theorem dX5_once_2 : decode cX5_once 2 = .ok (.iconst 0, 1) := by decide +kernel
theorem dX5_once_3 : decode cX5_once 3 = .ok (.istore_n 3, 1) := by decide +kernel
theorem dX5_once_4 : decode cX5_once 4 = .ok (.iload_n 3, 1) := by decide +kernel
theorem dX5_once_5 : decode cX5_once 5 = .ok (.bipush 12, 2) := by decide +kernel
theorem dX5_once_7 : decode cX5_once 7 = .ok (.if_icmp .ge 26, 3) := by decide +kernel
theorem dX5_once_10 : decode cX5_once 10 = .ok (.aload_n 0, 1) := by decide +kernel
theorem dX5_once_11 : decode cX5_once 11 = .ok (.getfield 44, 3) := by decide +kernel
theorem dX5_once_14 : decode cX5_once 14 = .ok (.iload_n 2, 1) := by decide +kernel
theorem dX5_once_15 : decode cX5_once 15 = .ok (.iaload, 1) := by decide +kernel
theorem dX5_once_16 : decode cX5_once 16 = .ok (.iconst 5, 1) := by decide +kernel
theorem dX5_once_17 : decode cX5_once 17 = .ok (.if_icmp .ne 16, 3) := by decide +kernel
theorem dX5_once_20 : decode cX5_once 20 = .ok (.aload_n 0, 1) := by decide +kernel
theorem dX5_once_21 : decode cX5_once 21 = .ok (.getfield 38, 3) := by decide +kernel
theorem dX5_once_24 : decode cX5_once 24 = .ok (.iload_n 2, 1) := by decide +kernel
theorem dX5_once_25 : decode cX5_once 25 = .ok (.iaload, 1) := by decide +kernel
theorem dX5_once_26 : decode cX5_once 26 = .ok (.istore_n 2, 1) := by decide +kernel
theorem dX5_once_27 : decode cX5_once 27 = .ok (.iinc 3 1, 3) := by decide +kernel
theorem dX5_once_30 : decode cX5_once 30 = .ok (.goto (-26), 3) := by decide +kernel
theorem dX5_once_33 : decode cX5_once 33 = .ok (.iload_n 2, 1) := by decide +kernel
theorem dX5_once_34 : decode cX5_once 34 = .ok (.ireturn, 1) := by decide +kernel
theorem dX5_goOnOften_0 : decode cX5_goOnOften 0 = .ok (.iload_n 3, 1) := by decide +kernel
theorem dX5_goOnOften_1 : decode cX5_goOnOften 1 = .ok (.istore 6, 2) := by decide +kernel
theorem dX5_goOnOften_3 : decode cX5_goOnOften 3 = .ok (.iload_n 3, 1) := by decide +kernel
theorem dX5_goOnOften_4 : decode cX5_goOnOften 4 = .ok (.istore 7, 2) := by decide +kernel
theorem dX5_goOnOften_6 : decode cX5_goOnOften 6 = .ok (.iconst 0, 1) := by decide +kernel
theorem dX5_goOnOften_7 : decode cX5_goOnOften 7 = .ok (.istore 8, 2) := by decide +kernel
theorem dX5_goOnOften_9 : decode cX5_goOnOften 9 = .ok (.iload 7, 2) := by decide +kernel
theorem dX5_goOnOften_11 : decode cX5_goOnOften 11 = .ok (.ifCond .eq 42, 3) := by decide +kernel
theorem dX5_goOnOften_14 : decode cX5_goOnOften 14 = .ok (.iload 8, 2) := by decide +kernel
theorem dX5_goOnOften_16 : decode cX5_goOnOften 16 = .ok (.bipush 24, 2) := by decide +kernel
theorem dX5_goOnOften_18 : decode cX5_goOnOften 18 = .ok (.if_icmp .ge 35, 3) := by decide +kernel
theorem dX5_goOnOften_21 : decode cX5_goOnOften 21 = .ok (.aload_n 0, 1) := by decide +kernel
theorem dX5_goOnOften_22 : decode cX5_goOnOften 22 = .ok (.aload_n 1, 1) := by decide +kernel
theorem dX5_goOnOften_23 : decode cX5_goOnOften 23 = .ok (.iload_n 2, 1) := by decide +kernel
theorem dX5_goOnOften_24 : decode cX5_goOnOften 24 = .ok (.iload 7, 2) := by decide +kernel
theorem dX5_goOnOften_26 : decode cX5_goOnOften 26 = .ok (.iload 4, 2) := by decide +kernel
theorem dX5_goOnOften_28 : decode cX5_goOnOften 28 = .ok (.iload 5, 2) := by decide +kernel
theorem dX5_goOnOften_30 : decode cX5_goOnOften 30 = .ok (.invokevirtual 84, 3) := by decide +kernel
theorem dX5_goOnOften_33 : decode cX5_goOnOften 33 = .ok (.iload 6, 2) := by decide +kernel
theorem dX5_goOnOften_35 : decode cX5_goOnOften 35 = .ok (.iconst (-1), 1) := by decide +kernel
theorem dX5_goOnOften_36 : decode cX5_goOnOften 36 = .ok (.ixor, 1) := by decide +kernel
theorem dX5_goOnOften_37 : decode cX5_goOnOften 37 = .ok (.iand, 1) := by decide +kernel
theorem dX5_goOnOften_38 : decode cX5_goOnOften 38 = .ok (.istore 7, 2) := by decide +kernel
theorem dX5_goOnOften_40 : decode cX5_goOnOften 40 = .ok (.iload 6, 2) := by decide +kernel
theorem dX5_goOnOften_42 : decode cX5_goOnOften 42 = .ok (.iload 7, 2) := by decide +kernel
theorem dX5_goOnOften_44 : decode cX5_goOnOften 44 = .ok (.ior, 1) := by decide +kernel
theorem dX5_goOnOften_45 : decode cX5_goOnOften 45 = .ok (.istore 6, 2) := by decide +kernel
theorem dX5_goOnOften_47 : decode cX5_goOnOften 47 = .ok (.iinc 8 1, 3) := by decide +kernel
theorem dX5_goOnOften_50 : decode cX5_goOnOften 50 = .ok (.goto (-41), 3) := by decide +kernel
theorem dX5_goOnOften_53 : decode cX5_goOnOften 53 = .ok (.iload 6, 2) := by decide +kernel
theorem dX5_goOnOften_55 : decode cX5_goOnOften 55 = .ok (.ireturn, 1) := by decide +kernel
theorem dX6_init_0 : decode cX6_init 0 = .ok (.aload_n 0, 1) := by decide +kernel
theorem dX6_init_1 : decode cX6_init 1 = .ok (.invokespecial 3, 3) := by decide +kernel
theorem dX6_init_4 : decode cX6_init 4 = .ok (.aload_n 0, 1) := by decide +kernel
theorem dX6_init_5 : decode cX6_init 5 = .ok (.bipush 24, 2) := by decide +kernel
theorem dX6_init_7 : decode cX6_init 7 = .ok (.newarray .int, 2) := by decide +kernel
theorem dX6_init_9 : decode cX6_init 9 = .ok (.putfield 9, 3) := by decide +kernel
theorem dX6_init_12 : decode cX6_init 12 = .ok (.aload_n 0, 1) := by decide +kernel
theorem dX6_init_13 : decode cX6_init 13 = .ok (.bipush 24, 2) := by decide +kernel
theorem dX6_init_15 : decode cX6_init 15 = .ok (.newarray .int, 2) := by decide +kernel
theorem dX6_init_17 : decode cX6_init 17 = .ok (.putfield 15, 3) := by decide +kernel
theorem dX6_init_20 : decode cX6_init 20 = .ok (.aload_n 0, 1) := by decide +kernel
theorem dX6_init_21 : decode cX6_init 21 = .ok (.bipush 24, 2) := by decide +kernel
theorem dX6_init_23 : decode cX6_init 23 = .ok (.newarray .int, 2) := by decide +kernel
theorem dX6_init_25 : decode cX6_init 25 = .ok (.putfield 18, 3) := by decide +kernel
theorem dX6_init_28 : decode cX6_init 28 = .ok (.aload_n 0, 1) := by decide +kernel
theorem dX6_init_29 : decode cX6_init 29 = .ok (.sipush 512, 3) := by decide +kernel
theorem dX6_init_32 : decode cX6_init 32 = .ok (.newarray .int, 2) := by decide +kernel
theorem dX6_init_34 : decode cX6_init 34 = .ok (.putfield 21, 3) := by decide +kernel
theorem dX6_init_37 : decode cX6_init 37 = .ok (.aload_n 0, 1) := by decide +kernel
theorem dX6_init_38 : decode cX6_init 38 = .ok (.sipush 512, 3) := by decide +kernel
theorem dX6_init_41 : decode cX6_init 41 = .ok (.newarray .int, 2) := by decide +kernel
theorem dX6_init_43 : decode cX6_init 43 = .ok (.putfield 24, 3) := by decide +kernel
theorem dX6_init_46 : decode cX6_init 46 = .ok (.aload_n 0, 1) := by decide +kernel
theorem dX6_init_47 : decode cX6_init 47 = .ok (.sipush 512, 3) := by decide +kernel
theorem dX6_init_50 : decode cX6_init 50 = .ok (.newarray .int, 2) := by decide +kernel
theorem dX6_init_52 : decode cX6_init 52 = .ok (.putfield 27, 3) := by decide +kernel
theorem dX6_init_55 : decode cX6_init 55 = .ok (.aload_n 0, 1) := by decide +kernel
theorem dX6_init_56 : decode cX6_init 56 = .ok (.iconst 0, 1) := by decide +kernel
theorem dX6_init_57 : decode cX6_init 57 = .ok (.putfield 30, 3) := by decide +kernel
theorem dX6_init_60 : decode cX6_init 60 = .ok (.aload_n 0, 1) := by decide +kernel
theorem dX6_init_61 : decode cX6_init 61 = .ok (.iconst 0, 1) := by decide +kernel
theorem dX6_init_62 : decode cX6_init 62 = .ok (.putfield 34, 3) := by decide +kernel
theorem dX6_init_65 : decode cX6_init 65 = .ok (.return_, 1) := by decide +kernel
theorem dX6_add_0 : decode cX6_add 0 = .ok (.aload_n 0, 1) := by decide +kernel
theorem dX6_add_1 : decode cX6_add 1 = .ok (.iload_n 3, 1) := by decide +kernel
theorem dX6_add_2 : decode cX6_add 2 = .ok (.invokevirtual 37, 3) := by decide +kernel
theorem dX6_add_5 : decode cX6_add 5 = .ok (.istore 4, 2) := by decide +kernel
theorem dX6_add_7 : decode cX6_add 7 = .ok (.aload_n 0, 1) := by decide +kernel
theorem dX6_add_8 : decode cX6_add 8 = .ok (.getfield 9, 3) := by decide +kernel
theorem dX6_add_11 : decode cX6_add 11 = .ok (.iload 4, 2) := by decide +kernel
theorem dX6_add_13 : decode cX6_add 13 = .ok (.iload_n 1, 1) := by decide +kernel
theorem dX6_add_14 : decode cX6_add 14 = .ok (.iastore, 1) := by decide +kernel
theorem dX6_add_15 : decode cX6_add 15 = .ok (.aload_n 0, 1) := by decide +kernel
theorem dX6_add_16 : decode cX6_add 16 = .ok (.dup, 1) := by decide +kernel
theorem dX6_add_17 : decode cX6_add 17 = .ok (.getfield 34, 3) := by decide +kernel
theorem dX6_add_20 : decode cX6_add 20 = .ok (.iload 4, 2) := by decide +kernel
theorem dX6_add_22 : decode cX6_add 22 = .ok (.invokestatic 41, 3) := by decide +kernel
theorem dX6_add_25 : decode cX6_add 25 = .ok (.ior, 1) := by decide +kernel
theorem dX6_add_26 : decode cX6_add 26 = .ok (.putfield 34, 3) := by decide +kernel
theorem dX6_add_29 : decode cX6_add 29 = .ok (.aload_n 0, 1) := by decide +kernel
theorem dX6_add_30 : decode cX6_add 30 = .ok (.iload 4, 2) := by decide +kernel
theorem dX6_add_32 : decode cX6_add 32 = .ok (.iload_n 2, 1) := by decide +kernel
theorem dX6_add_33 : decode cX6_add 33 = .ok (.iload_n 3, 1) := by decide +kernel
theorem dX6_add_34 : decode cX6_add 34 = .ok (.invokevirtual 44, 3) := by decide +kernel
theorem dX6_add_37 : decode cX6_add 37 = .ok (.iload 4, 2) := by decide +kernel
theorem dX6_add_39 : decode cX6_add 39 = .ok (.ireturn, 1) := by decide +kernel
theorem dX6_put_0 : decode cX6_put 0 = .ok (.aload_n 0, 1) := by decide +kernel
theorem dX6_put_1 : decode cX6_put 1 = .ok (.getfield 15, 3) := by decide +kernel
theorem dX6_put_4 : decode cX6_put 4 = .ok (.iload_n 1, 1) := by decide +kernel
theorem dX6_put_5 : decode cX6_put 5 = .ok (.iload_n 2, 1) := by decide +kernel
theorem dX6_put_6 : decode cX6_put 6 = .ok (.iastore, 1) := by decide +kernel
theorem dX6_put_7 : decode cX6_put 7 = .ok (.aload_n 0, 1) := by decide +kernel
theorem dX6_put_8 : decode cX6_put 8 = .ok (.getfield 18, 3) := by decide +kernel
theorem dX6_put_11 : decode cX6_put 11 = .ok (.iload_n 1, 1) := by decide +kernel
theorem dX6_put_12 : decode cX6_put 12 = .ok (.iload_n 3, 1) := by decide +kernel
theorem dX6_put_13 : decode cX6_put 13 = .ok (.iastore, 1) := by decide +kernel
theorem dX6_put_14 : decode cX6_put 14 = .ok (.aload_n 0, 1) := by decide +kernel
theorem dX6_put_15 : decode cX6_put 15 = .ok (.getfield 30, 3) := by decide +kernel
theorem dX6_put_18 : decode cX6_put 18 = .ok (.sipush 512, 3) := by decide +kernel
theorem dX6_put_21 : decode cX6_put 21 = .ok (.if_icmp .ge 43, 3) := by decide +kernel
theorem dX6_put_24 : decode cX6_put 24 = .ok (.aload_n 0, 1) := by decide +kernel
theorem dX6_put_25 : decode cX6_put 25 = .ok (.getfield 21, 3) := by decide +kernel
theorem dX6_put_28 : decode cX6_put 28 = .ok (.aload_n 0, 1) := by decide +kernel
theorem dX6_put_29 : decode cX6_put 29 = .ok (.getfield 30, 3) := by decide +kernel
theorem dX6_put_32 : decode cX6_put 32 = .ok (.iload_n 1, 1) := by decide +kernel
theorem dX6_put_33 : decode cX6_put 33 = .ok (.iastore, 1) := by decide +kernel
theorem dX6_put_34 : decode cX6_put 34 = .ok (.aload_n 0, 1) := by decide +kernel
theorem dX6_put_35 : decode cX6_put 35 = .ok (.getfield 24, 3) := by decide +kernel
theorem dX6_put_38 : decode cX6_put 38 = .ok (.aload_n 0, 1) := by decide +kernel
theorem dX6_put_39 : decode cX6_put 39 = .ok (.getfield 30, 3) := by decide +kernel
theorem dX6_put_42 : decode cX6_put 42 = .ok (.iload_n 2, 1) := by decide +kernel
theorem dX6_put_43 : decode cX6_put 43 = .ok (.iastore, 1) := by decide +kernel
theorem dX6_put_44 : decode cX6_put 44 = .ok (.aload_n 0, 1) := by decide +kernel
theorem dX6_put_45 : decode cX6_put 45 = .ok (.getfield 27, 3) := by decide +kernel
theorem dX6_put_48 : decode cX6_put 48 = .ok (.aload_n 0, 1) := by decide +kernel
theorem dX6_put_49 : decode cX6_put 49 = .ok (.getfield 30, 3) := by decide +kernel
theorem dX6_put_52 : decode cX6_put 52 = .ok (.iload_n 3, 1) := by decide +kernel
theorem dX6_put_53 : decode cX6_put 53 = .ok (.iastore, 1) := by decide +kernel
theorem dX6_put_54 : decode cX6_put 54 = .ok (.aload_n 0, 1) := by decide +kernel
theorem dX6_put_55 : decode cX6_put 55 = .ok (.dup, 1) := by decide +kernel
theorem dX6_put_56 : decode cX6_put 56 = .ok (.getfield 30, 3) := by decide +kernel
theorem dX6_put_59 : decode cX6_put 59 = .ok (.iconst 1, 1) := by decide +kernel
theorem dX6_put_60 : decode cX6_put 60 = .ok (.iadd, 1) := by decide +kernel
theorem dX6_put_61 : decode cX6_put 61 = .ok (.putfield 30, 3) := by decide +kernel
theorem dX6_put_64 : decode cX6_put 64 = .ok (.return_, 1) := by decide +kernel
theorem dX6_leave_0 : decode cX6_leave 0 = .ok (.aload_n 0, 1) := by decide +kernel
theorem dX6_leave_1 : decode cX6_leave 1 = .ok (.iload_n 1, 1) := by decide +kernel
theorem dX6_leave_2 : decode cX6_leave 2 = .ok (.iload_n 2, 1) := by decide +kernel
theorem dX6_leave_3 : decode cX6_leave 3 = .ok (.invokevirtual 48, 3) := by decide +kernel
theorem dX6_leave_6 : decode cX6_leave 6 = .ok (.aload_n 0, 1) := by decide +kernel
theorem dX6_leave_7 : decode cX6_leave 7 = .ok (.getfield 18, 3) := by decide +kernel
theorem dX6_leave_10 : decode cX6_leave 10 = .ok (.iload_n 1, 1) := by decide +kernel
theorem dX6_leave_11 : decode cX6_leave 11 = .ok (.iload_n 2, 1) := by decide +kernel
theorem dX6_leave_12 : decode cX6_leave 12 = .ok (.iastore, 1) := by decide +kernel
theorem dX6_leave_13 : decode cX6_leave 13 = .ok (.aload_n 0, 1) := by decide +kernel
theorem dX6_leave_14 : decode cX6_leave 14 = .ok (.dup, 1) := by decide +kernel
theorem dX6_leave_15 : decode cX6_leave 15 = .ok (.getfield 34, 3) := by decide +kernel
theorem dX6_leave_18 : decode cX6_leave 18 = .ok (.iload_n 1, 1) := by decide +kernel
theorem dX6_leave_19 : decode cX6_leave 19 = .ok (.invokestatic 41, 3) := by decide +kernel
theorem dX6_leave_22 : decode cX6_leave 22 = .ok (.iconst (-1), 1) := by decide +kernel
theorem dX6_leave_23 : decode cX6_leave 23 = .ok (.ixor, 1) := by decide +kernel
theorem dX6_leave_24 : decode cX6_leave 24 = .ok (.iand, 1) := by decide +kernel
theorem dX6_leave_25 : decode cX6_leave 25 = .ok (.putfield 34, 3) := by decide +kernel
theorem dX6_leave_28 : decode cX6_leave 28 = .ok (.return_, 1) := by decide +kernel
theorem dX6_valueAsOf_0 : decode cX6_valueAsOf 0 = .ok (.aload_n 0, 1) := by decide +kernel
theorem dX6_valueAsOf_1 : decode cX6_valueAsOf 1 = .ok (.getfield 30, 3) := by decide +kernel
theorem dX6_valueAsOf_4 : decode cX6_valueAsOf 4 = .ok (.iconst 1, 1) := by decide +kernel
theorem dX6_valueAsOf_5 : decode cX6_valueAsOf 5 = .ok (.isub, 1) := by decide +kernel
theorem dX6_valueAsOf_6 : decode cX6_valueAsOf 6 = .ok (.istore_n 3, 1) := by decide +kernel
theorem dX6_valueAsOf_7 : decode cX6_valueAsOf 7 = .ok (.iload_n 3, 1) := by decide +kernel
theorem dX6_valueAsOf_8 : decode cX6_valueAsOf 8 = .ok (.ifCond .lt 36, 3) := by decide +kernel
theorem dX6_valueAsOf_11 : decode cX6_valueAsOf 11 = .ok (.aload_n 0, 1) := by decide +kernel
theorem dX6_valueAsOf_12 : decode cX6_valueAsOf 12 = .ok (.getfield 21, 3) := by decide +kernel
theorem dX6_valueAsOf_15 : decode cX6_valueAsOf 15 = .ok (.iload_n 3, 1) := by decide +kernel
theorem dX6_valueAsOf_16 : decode cX6_valueAsOf 16 = .ok (.iaload, 1) := by decide +kernel
theorem dX6_valueAsOf_17 : decode cX6_valueAsOf 17 = .ok (.iload_n 1, 1) := by decide +kernel
theorem dX6_valueAsOf_18 : decode cX6_valueAsOf 18 = .ok (.if_icmp .ne 20, 3) := by decide +kernel
theorem dX6_valueAsOf_21 : decode cX6_valueAsOf 21 = .ok (.aload_n 0, 1) := by decide +kernel
theorem dX6_valueAsOf_22 : decode cX6_valueAsOf 22 = .ok (.getfield 27, 3) := by decide +kernel
theorem dX6_valueAsOf_25 : decode cX6_valueAsOf 25 = .ok (.iload_n 3, 1) := by decide +kernel
theorem dX6_valueAsOf_26 : decode cX6_valueAsOf 26 = .ok (.iaload, 1) := by decide +kernel
theorem dX6_valueAsOf_27 : decode cX6_valueAsOf 27 = .ok (.iload_n 2, 1) := by decide +kernel
theorem dX6_valueAsOf_28 : decode cX6_valueAsOf 28 = .ok (.if_icmp .gt 10, 3) := by decide +kernel
theorem dX6_valueAsOf_31 : decode cX6_valueAsOf 31 = .ok (.aload_n 0, 1) := by decide +kernel
theorem dX6_valueAsOf_32 : decode cX6_valueAsOf 32 = .ok (.getfield 24, 3) := by decide +kernel
theorem dX6_valueAsOf_35 : decode cX6_valueAsOf 35 = .ok (.iload_n 3, 1) := by decide +kernel
theorem dX6_valueAsOf_36 : decode cX6_valueAsOf 36 = .ok (.iaload, 1) := by decide +kernel
theorem dX6_valueAsOf_37 : decode cX6_valueAsOf 37 = .ok (.ireturn, 1) := by decide +kernel
theorem dX6_valueAsOf_38 : decode cX6_valueAsOf 38 = .ok (.iinc 3 (-1), 3) := by decide +kernel
theorem dX6_valueAsOf_41 : decode cX6_valueAsOf 41 = .ok (.goto (-34), 3) := by decide +kernel
theorem dX6_valueAsOf_44 : decode cX6_valueAsOf 44 = .ok (.aload_n 0, 1) := by decide +kernel
theorem dX6_valueAsOf_45 : decode cX6_valueAsOf 45 = .ok (.getfield 15, 3) := by decide +kernel
theorem dX6_valueAsOf_48 : decode cX6_valueAsOf 48 = .ok (.iload_n 1, 1) := by decide +kernel
theorem dX6_valueAsOf_49 : decode cX6_valueAsOf 49 = .ok (.iaload, 1) := by decide +kernel
theorem dX6_valueAsOf_50 : decode cX6_valueAsOf 50 = .ok (.ireturn, 1) := by decide +kernel
theorem dX6_labelled_0 : decode cX6_labelled 0 = .ok (.iconst 0, 1) := by decide +kernel
theorem dX6_labelled_1 : decode cX6_labelled 1 = .ok (.istore_n 2, 1) := by decide +kernel
theorem dX6_labelled_2 : decode cX6_labelled 2 = .ok (.iconst 0, 1) := by decide +kernel
theorem dX6_labelled_3 : decode cX6_labelled 3 = .ok (.istore_n 3, 1) := by decide +kernel
theorem dX6_labelled_4 : decode cX6_labelled 4 = .ok (.iload_n 3, 1) := by decide +kernel
theorem dX6_labelled_5 : decode cX6_labelled 5 = .ok (.aload_n 0, 1) := by decide +kernel
theorem dX6_labelled_6 : decode cX6_labelled 6 = .ok (.getfield 52, 3) := by decide +kernel
theorem dX6_labelled_9 : decode cX6_labelled 9 = .ok (.if_icmp .ge 34, 3) := by decide +kernel
theorem dX6_labelled_12 : decode cX6_labelled 12 = .ok (.aload_n 0, 1) := by decide +kernel
theorem dX6_labelled_13 : decode cX6_labelled 13 = .ok (.iload_n 3, 1) := by decide +kernel
theorem dX6_labelled_14 : decode cX6_labelled 14 = .ok (.invokevirtual 55, 3) := by decide +kernel
theorem dX6_labelled_17 : decode cX6_labelled 17 = .ok (.ifCond .eq 20, 3) := by decide +kernel
theorem dX6_labelled_20 : decode cX6_labelled 20 = .ok (.aload_n 0, 1) := by decide +kernel
theorem dX6_labelled_21 : decode cX6_labelled 21 = .ok (.getfield 9, 3) := by decide +kernel
theorem dX6_labelled_24 : decode cX6_labelled 24 = .ok (.iload_n 3, 1) := by decide +kernel
theorem dX6_labelled_25 : decode cX6_labelled 25 = .ok (.iaload, 1) := by decide +kernel
theorem dX6_labelled_26 : decode cX6_labelled 26 = .ok (.iload_n 1, 1) := by decide +kernel
theorem dX6_labelled_27 : decode cX6_labelled 27 = .ok (.if_icmp .ne 10, 3) := by decide +kernel
theorem dX6_labelled_30 : decode cX6_labelled 30 = .ok (.iload_n 2, 1) := by decide +kernel
theorem dX6_labelled_31 : decode cX6_labelled 31 = .ok (.iload_n 3, 1) := by decide +kernel
theorem dX6_labelled_32 : decode cX6_labelled 32 = .ok (.invokestatic 41, 3) := by decide +kernel
theorem dX6_labelled_35 : decode cX6_labelled 35 = .ok (.ior, 1) := by decide +kernel
theorem dX6_labelled_36 : decode cX6_labelled 36 = .ok (.istore_n 2, 1) := by decide +kernel
theorem dX6_labelled_37 : decode cX6_labelled 37 = .ok (.iinc 3 1, 3) := by decide +kernel
theorem dX6_labelled_40 : decode cX6_labelled 40 = .ok (.goto (-36), 3) := by decide +kernel
theorem dX6_labelled_43 : decode cX6_labelled 43 = .ok (.iload_n 2, 1) := by decide +kernel
theorem dX6_labelled_44 : decode cX6_labelled 44 = .ok (.ireturn, 1) := by decide +kernel
theorem dX7_init_0 : decode cX7_init 0 = .ok (.aload_n 0, 1) := by decide +kernel
theorem dX7_init_1 : decode cX7_init 1 = .ok (.invokespecial 3, 3) := by decide +kernel
theorem dX7_init_4 : decode cX7_init 4 = .ok (.aload_n 0, 1) := by decide +kernel
theorem dX7_init_5 : decode cX7_init 5 = .ok (.bipush 60, 2) := by decide +kernel
theorem dX7_init_7 : decode cX7_init 7 = .ok (.newarray .int, 2) := by decide +kernel
theorem dX7_init_9 : decode cX7_init 9 = .ok (.putfield 9, 3) := by decide +kernel
theorem dX7_init_12 : decode cX7_init 12 = .ok (.aload_n 0, 1) := by decide +kernel
theorem dX7_init_13 : decode cX7_init 13 = .ok (.bipush 60, 2) := by decide +kernel
theorem dX7_init_15 : decode cX7_init 15 = .ok (.newarray .int, 2) := by decide +kernel
theorem dX7_init_17 : decode cX7_init 17 = .ok (.putfield 15, 3) := by decide +kernel
theorem dX7_init_20 : decode cX7_init 20 = .ok (.aload_n 0, 1) := by decide +kernel
theorem dX7_init_21 : decode cX7_init 21 = .ok (.iconst 0, 1) := by decide +kernel
theorem dX7_init_22 : decode cX7_init 22 = .ok (.putfield 18, 3) := by decide +kernel
theorem dX7_init_25 : decode cX7_init 25 = .ok (.return_, 1) := by decide +kernel
theorem dX7_isThere_0 : decode cX7_isThere 0 = .ok (.iload_n 1, 1) := by decide +kernel
theorem dX7_isThere_1 : decode cX7_isThere 1 = .ok (.ifCond .lt 26, 3) := by decide +kernel
theorem dX7_isThere_4 : decode cX7_isThere 4 = .ok (.iload_n 1, 1) := by decide +kernel
theorem dX7_isThere_5 : decode cX7_isThere 5 = .ok (.aload_n 0, 1) := by decide +kernel
theorem dX7_isThere_6 : decode cX7_isThere 6 = .ok (.getfield 18, 3) := by decide +kernel
theorem dX7_isThere_9 : decode cX7_isThere 9 = .ok (.if_icmp .ge 18, 3) := by decide +kernel
theorem dX7_isThere_12 : decode cX7_isThere 12 = .ok (.aload_n 0, 1) := by decide +kernel
theorem dX7_isThere_13 : decode cX7_isThere 13 = .ok (.getfield 15, 3) := by decide +kernel
theorem dX7_isThere_16 : decode cX7_isThere 16 = .ok (.iload_n 1, 1) := by decide +kernel
theorem dX7_isThere_17 : decode cX7_isThere 17 = .ok (.iaload, 1) := by decide +kernel
theorem dX7_isThere_18 : decode cX7_isThere 18 = .ok (.ldc 22, 2) := by decide +kernel
theorem dX7_isThere_20 : decode cX7_isThere 20 = .ok (.if_icmp .ne 7, 3) := by decide +kernel
theorem dX7_isThere_23 : decode cX7_isThere 23 = .ok (.iconst 1, 1) := by decide +kernel
theorem dX7_isThere_24 : decode cX7_isThere 24 = .ok (.goto 4, 3) := by decide +kernel
theorem dX7_isThere_27 : decode cX7_isThere 27 = .ok (.iconst 0, 1) := by decide +kernel
theorem dX7_isThere_28 : decode cX7_isThere 28 = .ok (.ireturn, 1) := by decide +kernel
theorem dX7_wasThere_0 : decode cX7_wasThere 0 = .ok (.iload_n 1, 1) := by decide +kernel
theorem dX7_wasThere_1 : decode cX7_wasThere 1 = .ok (.ifCond .lt 35, 3) := by decide +kernel
theorem dX7_wasThere_4 : decode cX7_wasThere 4 = .ok (.iload_n 1, 1) := by decide +kernel
theorem dX7_wasThere_5 : decode cX7_wasThere 5 = .ok (.aload_n 0, 1) := by decide +kernel
theorem dX7_wasThere_6 : decode cX7_wasThere 6 = .ok (.getfield 18, 3) := by decide +kernel
theorem dX7_wasThere_9 : decode cX7_wasThere 9 = .ok (.if_icmp .ge 27, 3) := by decide +kernel
theorem dX7_wasThere_12 : decode cX7_wasThere 12 = .ok (.aload_n 0, 1) := by decide +kernel
theorem dX7_wasThere_13 : decode cX7_wasThere 13 = .ok (.getfield 9, 3) := by decide +kernel
theorem dX7_wasThere_16 : decode cX7_wasThere 16 = .ok (.iload_n 1, 1) := by decide +kernel
theorem dX7_wasThere_17 : decode cX7_wasThere 17 = .ok (.iaload, 1) := by decide +kernel
theorem dX7_wasThere_18 : decode cX7_wasThere 18 = .ok (.iload_n 2, 1) := by decide +kernel
theorem dX7_wasThere_19 : decode cX7_wasThere 19 = .ok (.if_icmp .gt 17, 3) := by decide +kernel
theorem dX7_wasThere_22 : decode cX7_wasThere 22 = .ok (.iload_n 2, 1) := by decide +kernel
theorem dX7_wasThere_23 : decode cX7_wasThere 23 = .ok (.aload_n 0, 1) := by decide +kernel
theorem dX7_wasThere_24 : decode cX7_wasThere 24 = .ok (.getfield 15, 3) := by decide +kernel
theorem dX7_wasThere_27 : decode cX7_wasThere 27 = .ok (.iload_n 1, 1) := by decide +kernel
theorem dX7_wasThere_28 : decode cX7_wasThere 28 = .ok (.iaload, 1) := by decide +kernel
theorem dX7_wasThere_29 : decode cX7_wasThere 29 = .ok (.if_icmp .ge 7, 3) := by decide +kernel
theorem dX7_wasThere_32 : decode cX7_wasThere 32 = .ok (.iconst 1, 1) := by decide +kernel
theorem dX7_wasThere_33 : decode cX7_wasThere 33 = .ok (.goto 4, 3) := by decide +kernel
theorem dX7_wasThere_36 : decode cX7_wasThere 36 = .ok (.iconst 0, 1) := by decide +kernel
theorem dX7_wasThere_37 : decode cX7_wasThere 37 = .ok (.ireturn, 1) := by decide +kernel
theorem dX7_come_0 : decode cX7_come 0 = .ok (.aload_n 0, 1) := by decide +kernel
theorem dX7_come_1 : decode cX7_come 1 = .ok (.getfield 18, 3) := by decide +kernel
theorem dX7_come_4 : decode cX7_come 4 = .ok (.istore_n 2, 1) := by decide +kernel
theorem dX7_come_5 : decode cX7_come 5 = .ok (.aload_n 0, 1) := by decide +kernel
theorem dX7_come_6 : decode cX7_come 6 = .ok (.dup, 1) := by decide +kernel
theorem dX7_come_7 : decode cX7_come 7 = .ok (.getfield 18, 3) := by decide +kernel
theorem dX7_come_10 : decode cX7_come 10 = .ok (.iconst 1, 1) := by decide +kernel
theorem dX7_come_11 : decode cX7_come 11 = .ok (.iadd, 1) := by decide +kernel
theorem dX7_come_12 : decode cX7_come 12 = .ok (.putfield 18, 3) := by decide +kernel
theorem dX7_come_15 : decode cX7_come 15 = .ok (.aload_n 0, 1) := by decide +kernel
theorem dX7_come_16 : decode cX7_come 16 = .ok (.getfield 9, 3) := by decide +kernel
theorem dX7_come_19 : decode cX7_come 19 = .ok (.iload_n 2, 1) := by decide +kernel
theorem dX7_come_20 : decode cX7_come 20 = .ok (.iload_n 1, 1) := by decide +kernel
theorem dX7_come_21 : decode cX7_come 21 = .ok (.iastore, 1) := by decide +kernel
theorem dX7_come_22 : decode cX7_come 22 = .ok (.aload_n 0, 1) := by decide +kernel
theorem dX7_come_23 : decode cX7_come 23 = .ok (.getfield 15, 3) := by decide +kernel
theorem dX7_come_26 : decode cX7_come 26 = .ok (.iload_n 2, 1) := by decide +kernel
theorem dX7_come_27 : decode cX7_come 27 = .ok (.ldc 22, 2) := by decide +kernel
theorem dX7_come_29 : decode cX7_come 29 = .ok (.iastore, 1) := by decide +kernel
theorem dX7_come_30 : decode cX7_come 30 = .ok (.iload_n 2, 1) := by decide +kernel
theorem dX7_come_31 : decode cX7_come 31 = .ok (.ireturn, 1) := by decide +kernel
theorem dX7_end_0 : decode cX7_end 0 = .ok (.aload_n 0, 1) := by decide +kernel
theorem dX7_end_1 : decode cX7_end 1 = .ok (.getfield 15, 3) := by decide +kernel
theorem dX7_end_4 : decode cX7_end 4 = .ok (.iload_n 1, 1) := by decide +kernel
theorem dX7_end_5 : decode cX7_end 5 = .ok (.iload_n 2, 1) := by decide +kernel
theorem dX7_end_6 : decode cX7_end 6 = .ok (.iastore, 1) := by decide +kernel
theorem dX7_end_7 : decode cX7_end 7 = .ok (.return_, 1) := by decide +kernel
theorem dX7_countAsOf_0 : decode cX7_countAsOf 0 = .ok (.iconst 0, 1) := by decide +kernel
theorem dX7_countAsOf_1 : decode cX7_countAsOf 1 = .ok (.istore_n 2, 1) := by decide +kernel
theorem dX7_countAsOf_2 : decode cX7_countAsOf 2 = .ok (.iconst 0, 1) := by decide +kernel
theorem dX7_countAsOf_3 : decode cX7_countAsOf 3 = .ok (.istore_n 3, 1) := by decide +kernel
theorem dX7_countAsOf_4 : decode cX7_countAsOf 4 = .ok (.iload_n 3, 1) := by decide +kernel
theorem dX7_countAsOf_5 : decode cX7_countAsOf 5 = .ok (.aload_n 0, 1) := by decide +kernel
theorem dX7_countAsOf_6 : decode cX7_countAsOf 6 = .ok (.getfield 18, 3) := by decide +kernel
theorem dX7_countAsOf_9 : decode cX7_countAsOf 9 = .ok (.if_icmp .ge 21, 3) := by decide +kernel
theorem dX7_countAsOf_12 : decode cX7_countAsOf 12 = .ok (.aload_n 0, 1) := by decide +kernel
theorem dX7_countAsOf_13 : decode cX7_countAsOf 13 = .ok (.iload_n 3, 1) := by decide +kernel
theorem dX7_countAsOf_14 : decode cX7_countAsOf 14 = .ok (.iload_n 1, 1) := by decide +kernel
theorem dX7_countAsOf_15 : decode cX7_countAsOf 15 = .ok (.invokevirtual 23, 3) := by decide +kernel
theorem dX7_countAsOf_18 : decode cX7_countAsOf 18 = .ok (.ifCond .eq 6, 3) := by decide +kernel
theorem dX7_countAsOf_21 : decode cX7_countAsOf 21 = .ok (.iinc 2 1, 3) := by decide +kernel
theorem dX7_countAsOf_24 : decode cX7_countAsOf 24 = .ok (.iinc 3 1, 3) := by decide +kernel
theorem dX7_countAsOf_27 : decode cX7_countAsOf 27 = .ok (.goto (-23), 3) := by decide +kernel
theorem dX7_countAsOf_30 : decode cX7_countAsOf 30 = .ok (.iload_n 2, 1) := by decide +kernel
theorem dX7_countAsOf_31 : decode cX7_countAsOf 31 = .ok (.ireturn, 1) := by decide +kernel
theorem dX8_init_0 : decode cX8_init 0 = .ok (.aload_n 0, 1) := by decide +kernel
theorem dX8_init_1 : decode cX8_init 1 = .ok (.invokespecial 3, 3) := by decide +kernel
theorem dX8_init_4 : decode cX8_init 4 = .ok (.aload_n 0, 1) := by decide +kernel
theorem dX8_init_5 : decode cX8_init 5 = .ok (.bipush 12, 2) := by decide +kernel
theorem dX8_init_7 : decode cX8_init 7 = .ok (.newarray .int, 2) := by decide +kernel
theorem dX8_init_9 : decode cX8_init 9 = .ok (.putfield 9, 3) := by decide +kernel
theorem dX8_init_12 : decode cX8_init 12 = .ok (.aload_n 0, 1) := by decide +kernel
theorem dX8_init_13 : decode cX8_init 13 = .ok (.bipush 12, 2) := by decide +kernel
theorem dX8_init_15 : decode cX8_init 15 = .ok (.newarray .int, 2) := by decide +kernel
theorem dX8_init_17 : decode cX8_init 17 = .ok (.putfield 15, 3) := by decide +kernel
theorem dX8_init_20 : decode cX8_init 20 = .ok (.aload_n 0, 1) := by decide +kernel
theorem dX8_init_21 : decode cX8_init 21 = .ok (.bipush 12, 2) := by decide +kernel
theorem dX8_init_23 : decode cX8_init 23 = .ok (.newarray .int, 2) := by decide +kernel
theorem dX8_init_25 : decode cX8_init 25 = .ok (.putfield 18, 3) := by decide +kernel
theorem dX8_init_28 : decode cX8_init 28 = .ok (.aload_n 0, 1) := by decide +kernel
theorem dX8_init_29 : decode cX8_init 29 = .ok (.bipush 12, 2) := by decide +kernel
theorem dX8_init_31 : decode cX8_init 31 = .ok (.newarray .int, 2) := by decide +kernel
theorem dX8_init_33 : decode cX8_init 33 = .ok (.putfield 21, 3) := by decide +kernel
theorem dX8_init_36 : decode cX8_init 36 = .ok (.aload_n 0, 1) := by decide +kernel
theorem dX8_init_37 : decode cX8_init 37 = .ok (.bipush 12, 2) := by decide +kernel
theorem dX8_init_39 : decode cX8_init 39 = .ok (.newarray .int, 2) := by decide +kernel
theorem dX8_init_41 : decode cX8_init 41 = .ok (.putfield 24, 3) := by decide +kernel
theorem dX8_init_44 : decode cX8_init 44 = .ok (.aload_n 0, 1) := by decide +kernel
theorem dX8_init_45 : decode cX8_init 45 = .ok (.iconst 0, 1) := by decide +kernel
theorem dX8_init_46 : decode cX8_init 46 = .ok (.putfield 27, 3) := by decide +kernel
theorem dX8_init_49 : decode cX8_init 49 = .ok (.aload_n 0, 1) := by decide +kernel
theorem dX8_init_50 : decode cX8_init 50 = .ok (.iconst 0, 1) := by decide +kernel
theorem dX8_init_51 : decode cX8_init 51 = .ok (.putfield 31, 3) := by decide +kernel
theorem dX8_init_54 : decode cX8_init 54 = .ok (.return_, 1) := by decide +kernel
theorem dX8_taken_0 : decode cX8_taken 0 = .ok (.iload_n 0, 1) := by decide +kernel
theorem dX8_taken_1 : decode cX8_taken 1 = .ok (.iconst 3, 1) := by decide +kernel
theorem dX8_taken_2 : decode cX8_taken 2 = .ok (.if_icmp .eq 8, 3) := by decide +kernel
theorem dX8_taken_5 : decode cX8_taken 5 = .ok (.iload_n 0, 1) := by decide +kernel
theorem dX8_taken_6 : decode cX8_taken 6 = .ok (.iconst 4, 1) := by decide +kernel
theorem dX8_taken_7 : decode cX8_taken 7 = .ok (.if_icmp .ne 5, 3) := by decide +kernel
theorem dX8_taken_10 : decode cX8_taken 10 = .ok (.iconst 2, 1) := by decide +kernel
theorem dX8_taken_11 : decode cX8_taken 11 = .ok (.ireturn, 1) := by decide +kernel
theorem dX8_taken_12 : decode cX8_taken 12 = .ok (.iload_n 0, 1) := by decide +kernel
theorem dX8_taken_13 : decode cX8_taken 13 = .ok (.iconst 5, 1) := by decide +kernel
theorem dX8_taken_14 : decode cX8_taken 14 = .ok (.if_icmp .ne 7, 3) := by decide +kernel
theorem dX8_taken_17 : decode cX8_taken 17 = .ok (.iconst 1, 1) := by decide +kernel
theorem dX8_taken_18 : decode cX8_taken 18 = .ok (.goto 4, 3) := by decide +kernel
theorem dX8_taken_21 : decode cX8_taken 21 = .ok (.iconst 0, 1) := by decide +kernel
theorem dX8_taken_22 : decode cX8_taken 22 = .ok (.ireturn, 1) := by decide +kernel
theorem dX8_put_0 : decode cX8_put 0 = .ok (.iload_n 1, 1) := by decide +kernel
theorem dX8_put_1 : decode cX8_put 1 = .ok (.invokestatic 34, 3) := by decide +kernel
theorem dX8_put_4 : decode cX8_put 4 = .ok (.istore_n 3, 1) := by decide +kernel
theorem dX8_put_5 : decode cX8_put 5 = .ok (.aload_n 0, 1) := by decide +kernel
theorem dX8_put_6 : decode cX8_put 6 = .ok (.getfield 27, 3) := by decide +kernel
theorem dX8_put_9 : decode cX8_put 9 = .ok (.bipush 12, 2) := by decide +kernel
theorem dX8_put_11 : decode cX8_put 11 = .ok (.if_icmp .ge 11, 3) := by decide +kernel
theorem dX8_put_14 : decode cX8_put 14 = .ok (.aload_n 0, 1) := by decide +kernel
theorem dX8_put_15 : decode cX8_put 15 = .ok (.getfield 31, 3) := by decide +kernel
theorem dX8_put_18 : decode cX8_put 18 = .ok (.iload_n 3, 1) := by decide +kernel
theorem dX8_put_19 : decode cX8_put 19 = .ok (.if_icmp .ge 4, 3) := by decide +kernel
theorem dX8_put_22 : decode cX8_put 22 = .ok (.return_, 1) := by decide +kernel
theorem dX8_put_23 : decode cX8_put 23 = .ok (.aload_n 0, 1) := by decide +kernel
theorem dX8_put_24 : decode cX8_put 24 = .ok (.getfield 9, 3) := by decide +kernel
theorem dX8_put_27 : decode cX8_put 27 = .ok (.aload_n 0, 1) := by decide +kernel
theorem dX8_put_28 : decode cX8_put 28 = .ok (.getfield 27, 3) := by decide +kernel
theorem dX8_put_31 : decode cX8_put 31 = .ok (.iload_n 1, 1) := by decide +kernel
theorem dX8_put_32 : decode cX8_put 32 = .ok (.iastore, 1) := by decide +kernel
theorem dX8_put_33 : decode cX8_put 33 = .ok (.aload_n 0, 1) := by decide +kernel
theorem dX8_put_34 : decode cX8_put 34 = .ok (.getfield 15, 3) := by decide +kernel
theorem dX8_put_37 : decode cX8_put 37 = .ok (.aload_n 0, 1) := by decide +kernel
theorem dX8_put_38 : decode cX8_put 38 = .ok (.getfield 27, 3) := by decide +kernel
theorem dX8_put_41 : decode cX8_put 41 = .ok (.iload_n 2, 1) := by decide +kernel
theorem dX8_put_42 : decode cX8_put 42 = .ok (.iastore, 1) := by decide +kernel
theorem dX8_put_43 : decode cX8_put 43 = .ok (.iload_n 3, 1) := by decide +kernel
theorem dX8_put_44 : decode cX8_put 44 = .ok (.iconst 2, 1) := by decide +kernel
theorem dX8_put_45 : decode cX8_put 45 = .ok (.if_icmp .ne 31, 3) := by decide +kernel
theorem dX8_put_48 : decode cX8_put 48 = .ok (.aload_n 0, 1) := by decide +kernel
theorem dX8_put_49 : decode cX8_put 49 = .ok (.dup, 1) := by decide +kernel
theorem dX8_put_50 : decode cX8_put 50 = .ok (.getfield 31, 3) := by decide +kernel
theorem dX8_put_53 : decode cX8_put 53 = .ok (.iconst 1, 1) := by decide +kernel
theorem dX8_put_54 : decode cX8_put 54 = .ok (.isub, 1) := by decide +kernel
theorem dX8_put_55 : decode cX8_put 55 = .ok (.putfield 31, 3) := by decide +kernel
theorem dX8_put_58 : decode cX8_put 58 = .ok (.aload_n 0, 1) := by decide +kernel
theorem dX8_put_59 : decode cX8_put 59 = .ok (.getfield 21, 3) := by decide +kernel
theorem dX8_put_62 : decode cX8_put 62 = .ok (.aload_n 0, 1) := by decide +kernel
theorem dX8_put_63 : decode cX8_put 63 = .ok (.getfield 27, 3) := by decide +kernel
theorem dX8_put_66 : decode cX8_put 66 = .ok (.aload_n 0, 1) := by decide +kernel
theorem dX8_put_67 : decode cX8_put 67 = .ok (.getfield 24, 3) := by decide +kernel
theorem dX8_put_70 : decode cX8_put 70 = .ok (.aload_n 0, 1) := by decide +kernel
theorem dX8_put_71 : decode cX8_put 71 = .ok (.getfield 31, 3) := by decide +kernel
theorem dX8_put_74 : decode cX8_put 74 = .ok (.iaload, 1) := by decide +kernel
theorem dX8_put_75 : decode cX8_put 75 = .ok (.iastore, 1) := by decide +kernel
theorem dX8_put_76 : decode cX8_put 76 = .ok (.iload_n 3, 1) := by decide +kernel
theorem dX8_put_77 : decode cX8_put 77 = .ok (.iconst 1, 1) := by decide +kernel
theorem dX8_put_78 : decode cX8_put 78 = .ok (.if_icmp .lt 31, 3) := by decide +kernel
theorem dX8_put_81 : decode cX8_put 81 = .ok (.aload_n 0, 1) := by decide +kernel
theorem dX8_put_82 : decode cX8_put 82 = .ok (.dup, 1) := by decide +kernel
theorem dX8_put_83 : decode cX8_put 83 = .ok (.getfield 31, 3) := by decide +kernel
theorem dX8_put_86 : decode cX8_put 86 = .ok (.iconst 1, 1) := by decide +kernel
theorem dX8_put_87 : decode cX8_put 87 = .ok (.isub, 1) := by decide +kernel
theorem dX8_put_88 : decode cX8_put 88 = .ok (.putfield 31, 3) := by decide +kernel
theorem dX8_put_91 : decode cX8_put 91 = .ok (.aload_n 0, 1) := by decide +kernel
theorem dX8_put_92 : decode cX8_put 92 = .ok (.getfield 18, 3) := by decide +kernel
theorem dX8_put_95 : decode cX8_put 95 = .ok (.aload_n 0, 1) := by decide +kernel
theorem dX8_put_96 : decode cX8_put 96 = .ok (.getfield 27, 3) := by decide +kernel
theorem dX8_put_99 : decode cX8_put 99 = .ok (.aload_n 0, 1) := by decide +kernel
theorem dX8_put_100 : decode cX8_put 100 = .ok (.getfield 24, 3) := by decide +kernel
theorem dX8_put_103 : decode cX8_put 103 = .ok (.aload_n 0, 1) := by decide +kernel
theorem dX8_put_104 : decode cX8_put 104 = .ok (.getfield 31, 3) := by decide +kernel
theorem dX8_put_107 : decode cX8_put 107 = .ok (.iaload, 1) := by decide +kernel
theorem dX8_put_108 : decode cX8_put 108 = .ok (.iastore, 1) := by decide +kernel
theorem dX8_put_109 : decode cX8_put 109 = .ok (.aload_n 0, 1) := by decide +kernel
theorem dX8_put_110 : decode cX8_put 110 = .ok (.getfield 24, 3) := by decide +kernel
theorem dX8_put_113 : decode cX8_put 113 = .ok (.aload_n 0, 1) := by decide +kernel
theorem dX8_put_114 : decode cX8_put 114 = .ok (.getfield 31, 3) := by decide +kernel
theorem dX8_put_117 : decode cX8_put 117 = .ok (.aload_n 0, 1) := by decide +kernel
theorem dX8_put_118 : decode cX8_put 118 = .ok (.getfield 27, 3) := by decide +kernel
theorem dX8_put_121 : decode cX8_put 121 = .ok (.iastore, 1) := by decide +kernel
theorem dX8_put_122 : decode cX8_put 122 = .ok (.aload_n 0, 1) := by decide +kernel
theorem dX8_put_123 : decode cX8_put 123 = .ok (.dup, 1) := by decide +kernel
theorem dX8_put_124 : decode cX8_put 124 = .ok (.getfield 31, 3) := by decide +kernel
theorem dX8_put_127 : decode cX8_put 127 = .ok (.iconst 1, 1) := by decide +kernel
theorem dX8_put_128 : decode cX8_put 128 = .ok (.iadd, 1) := by decide +kernel
theorem dX8_put_129 : decode cX8_put 129 = .ok (.putfield 31, 3) := by decide +kernel
theorem dX8_put_132 : decode cX8_put 132 = .ok (.aload_n 0, 1) := by decide +kernel
theorem dX8_put_133 : decode cX8_put 133 = .ok (.dup, 1) := by decide +kernel
theorem dX8_put_134 : decode cX8_put 134 = .ok (.getfield 27, 3) := by decide +kernel
theorem dX8_put_137 : decode cX8_put 137 = .ok (.iconst 1, 1) := by decide +kernel
theorem dX8_put_138 : decode cX8_put 138 = .ok (.iadd, 1) := by decide +kernel
theorem dX8_put_139 : decode cX8_put 139 = .ok (.putfield 27, 3) := by decide +kernel
theorem dX8_put_142 : decode cX8_put 142 = .ok (.return_, 1) := by decide +kernel
theorem dX9_init_0 : decode cX9_init 0 = .ok (.aload_n 0, 1) := by decide +kernel
theorem dX9_init_1 : decode cX9_init 1 = .ok (.invokespecial 3, 3) := by decide +kernel
theorem dX9_init_4 : decode cX9_init 4 = .ok (.aload_n 0, 1) := by decide +kernel
theorem dX9_init_5 : decode cX9_init 5 = .ok (.bipush 24, 2) := by decide +kernel
theorem dX9_init_7 : decode cX9_init 7 = .ok (.newarray .int, 2) := by decide +kernel
theorem dX9_init_9 : decode cX9_init 9 = .ok (.putfield 9, 3) := by decide +kernel
theorem dX9_init_12 : decode cX9_init 12 = .ok (.aload_n 0, 1) := by decide +kernel
theorem dX9_init_13 : decode cX9_init 13 = .ok (.bipush 8, 2) := by decide +kernel
theorem dX9_init_15 : decode cX9_init 15 = .ok (.newarray .int, 2) := by decide +kernel
theorem dX9_init_17 : decode cX9_init 17 = .ok (.putfield 15, 3) := by decide +kernel
theorem dX9_init_20 : decode cX9_init 20 = .ok (.aload_n 0, 1) := by decide +kernel
theorem dX9_init_21 : decode cX9_init 21 = .ok (.bipush 8, 2) := by decide +kernel
theorem dX9_init_23 : decode cX9_init 23 = .ok (.newarray .int, 2) := by decide +kernel
theorem dX9_init_25 : decode cX9_init 25 = .ok (.putfield 18, 3) := by decide +kernel
theorem dX9_init_28 : decode cX9_init 28 = .ok (.aload_n 0, 1) := by decide +kernel
theorem dX9_init_29 : decode cX9_init 29 = .ok (.bipush 8, 2) := by decide +kernel
theorem dX9_init_31 : decode cX9_init 31 = .ok (.newarray .int, 2) := by decide +kernel
theorem dX9_init_33 : decode cX9_init 33 = .ok (.putfield 21, 3) := by decide +kernel
theorem dX9_init_36 : decode cX9_init 36 = .ok (.aload_n 0, 1) := by decide +kernel
theorem dX9_init_37 : decode cX9_init 37 = .ok (.iconst 0, 1) := by decide +kernel
theorem dX9_init_38 : decode cX9_init 38 = .ok (.putfield 24, 3) := by decide +kernel
theorem dX9_init_41 : decode cX9_init 41 = .ok (.aload_n 0, 1) := by decide +kernel
theorem dX9_init_42 : decode cX9_init 42 = .ok (.iconst 0, 1) := by decide +kernel
theorem dX9_init_43 : decode cX9_init 43 = .ok (.putfield 28, 3) := by decide +kernel
theorem dX9_init_46 : decode cX9_init 46 = .ok (.aload_n 0, 1) := by decide +kernel
theorem dX9_init_47 : decode cX9_init 47 = .ok (.iconst 0, 1) := by decide +kernel
theorem dX9_init_48 : decode cX9_init 48 = .ok (.putfield 32, 3) := by decide +kernel
theorem dX9_init_51 : decode cX9_init 51 = .ok (.aload_n 0, 1) := by decide +kernel
theorem dX9_init_52 : decode cX9_init 52 = .ok (.iconst 0, 1) := by decide +kernel
theorem dX9_init_53 : decode cX9_init 53 = .ok (.putfield 35, 3) := by decide +kernel
theorem dX9_init_56 : decode cX9_init 56 = .ok (.aload_n 0, 1) := by decide +kernel
theorem dX9_init_57 : decode cX9_init 57 = .ok (.lconst 0, 1) := by decide +kernel
theorem dX9_init_58 : decode cX9_init 58 = .ok (.putfield 38, 3) := by decide +kernel
theorem dX9_init_61 : decode cX9_init 61 = .ok (.return_, 1) := by decide +kernel
theorem dX9_openAt_0 : decode cX9_openAt 0 = .ok (.aload_n 0, 1) := by decide +kernel
theorem dX9_openAt_1 : decode cX9_openAt 1 = .ok (.iconst 1, 1) := by decide +kernel
theorem dX9_openAt_2 : decode cX9_openAt 2 = .ok (.putfield 24, 3) := by decide +kernel
theorem dX9_openAt_5 : decode cX9_openAt 5 = .ok (.aload_n 0, 1) := by decide +kernel
theorem dX9_openAt_6 : decode cX9_openAt 6 = .ok (.iload_n 1, 1) := by decide +kernel
theorem dX9_openAt_7 : decode cX9_openAt 7 = .ok (.putfield 28, 3) := by decide +kernel
theorem dX9_openAt_10 : decode cX9_openAt 10 = .ok (.aload_n 0, 1) := by decide +kernel
theorem dX9_openAt_11 : decode cX9_openAt 11 = .ok (.iconst 0, 1) := by decide +kernel
theorem dX9_openAt_12 : decode cX9_openAt 12 = .ok (.putfield 32, 3) := by decide +kernel
theorem dX9_openAt_15 : decode cX9_openAt 15 = .ok (.aload_n 0, 1) := by decide +kernel
theorem dX9_openAt_16 : decode cX9_openAt 16 = .ok (.iconst 0, 1) := by decide +kernel
theorem dX9_openAt_17 : decode cX9_openAt 17 = .ok (.putfield 35, 3) := by decide +kernel
theorem dX9_openAt_20 : decode cX9_openAt 20 = .ok (.aload_n 0, 1) := by decide +kernel
theorem dX9_openAt_21 : decode cX9_openAt 21 = .ok (.lconst 0, 1) := by decide +kernel
theorem dX9_openAt_22 : decode cX9_openAt 22 = .ok (.putfield 38, 3) := by decide +kernel
theorem dX9_openAt_25 : decode cX9_openAt 25 = .ok (.return_, 1) := by decide +kernel
theorem dX9_putValue_0 : decode cX9_putValue 0 = .ok (.aload_n 0, 1) := by decide +kernel
theorem dX9_putValue_1 : decode cX9_putValue 1 = .ok (.dup, 1) := by decide +kernel
theorem dX9_putValue_2 : decode cX9_putValue 2 = .ok (.getfield 32, 3) := by decide +kernel
theorem dX9_putValue_5 : decode cX9_putValue 5 = .ok (.iload_n 1, 1) := by decide +kernel
theorem dX9_putValue_6 : decode cX9_putValue 6 = .ok (.invokestatic 42, 3) := by decide +kernel
theorem dX9_putValue_9 : decode cX9_putValue 9 = .ok (.ior, 1) := by decide +kernel
theorem dX9_putValue_10 : decode cX9_putValue 10 = .ok (.putfield 32, 3) := by decide +kernel
theorem dX9_putValue_13 : decode cX9_putValue 13 = .ok (.aload_n 0, 1) := by decide +kernel
theorem dX9_putValue_14 : decode cX9_putValue 14 = .ok (.getfield 9, 3) := by decide +kernel
theorem dX9_putValue_17 : decode cX9_putValue 17 = .ok (.iload_n 1, 1) := by decide +kernel
theorem dX9_putValue_18 : decode cX9_putValue 18 = .ok (.iload_n 2, 1) := by decide +kernel
theorem dX9_putValue_19 : decode cX9_putValue 19 = .ok (.iastore, 1) := by decide +kernel
theorem dX9_putValue_20 : decode cX9_putValue 20 = .ok (.return_, 1) := by decide +kernel
theorem dX9_putLink_0 : decode cX9_putLink 0 = .ok (.aload_n 0, 1) := by decide +kernel
theorem dX9_putLink_1 : decode cX9_putLink 1 = .ok (.getfield 15, 3) := by decide +kernel
theorem dX9_putLink_4 : decode cX9_putLink 4 = .ok (.aload_n 0, 1) := by decide +kernel
theorem dX9_putLink_5 : decode cX9_putLink 5 = .ok (.getfield 35, 3) := by decide +kernel
theorem dX9_putLink_8 : decode cX9_putLink 8 = .ok (.iload_n 1, 1) := by decide +kernel
theorem dX9_putLink_9 : decode cX9_putLink 9 = .ok (.iastore, 1) := by decide +kernel
theorem dX9_putLink_10 : decode cX9_putLink 10 = .ok (.aload_n 0, 1) := by decide +kernel
theorem dX9_putLink_11 : decode cX9_putLink 11 = .ok (.getfield 18, 3) := by decide +kernel
theorem dX9_putLink_14 : decode cX9_putLink 14 = .ok (.aload_n 0, 1) := by decide +kernel
theorem dX9_putLink_15 : decode cX9_putLink 15 = .ok (.getfield 35, 3) := by decide +kernel
theorem dX9_putLink_18 : decode cX9_putLink 18 = .ok (.iload_n 2, 1) := by decide +kernel
theorem dX9_putLink_19 : decode cX9_putLink 19 = .ok (.iastore, 1) := by decide +kernel
theorem dX9_putLink_20 : decode cX9_putLink 20 = .ok (.aload_n 0, 1) := by decide +kernel
theorem dX9_putLink_21 : decode cX9_putLink 21 = .ok (.getfield 21, 3) := by decide +kernel
theorem dX9_putLink_24 : decode cX9_putLink 24 = .ok (.aload_n 0, 1) := by decide +kernel
theorem dX9_putLink_25 : decode cX9_putLink 25 = .ok (.getfield 35, 3) := by decide +kernel
theorem dX9_putLink_28 : decode cX9_putLink 28 = .ok (.iload_n 3, 1) := by decide +kernel
theorem dX9_putLink_29 : decode cX9_putLink 29 = .ok (.iastore, 1) := by decide +kernel
theorem dX9_putLink_30 : decode cX9_putLink 30 = .ok (.aload_n 0, 1) := by decide +kernel
theorem dX9_putLink_31 : decode cX9_putLink 31 = .ok (.dup, 1) := by decide +kernel
theorem dX9_putLink_32 : decode cX9_putLink 32 = .ok (.getfield 35, 3) := by decide +kernel
theorem dX9_putLink_35 : decode cX9_putLink 35 = .ok (.iconst 1, 1) := by decide +kernel
theorem dX9_putLink_36 : decode cX9_putLink 36 = .ok (.iadd, 1) := by decide +kernel
theorem dX9_putLink_37 : decode cX9_putLink 37 = .ok (.putfield 35, 3) := by decide +kernel
theorem dX9_putLink_40 : decode cX9_putLink 40 = .ok (.return_, 1) := by decide +kernel
theorem dX9_putDrop_0 : decode cX9_putDrop 0 = .ok (.aload_n 0, 1) := by decide +kernel
theorem dX9_putDrop_1 : decode cX9_putDrop 1 = .ok (.dup, 1) := by decide +kernel
theorem dX9_putDrop_2 : decode cX9_putDrop 2 = .ok (.getfield 38, 3) := by decide +kernel
theorem dX9_putDrop_5 : decode cX9_putDrop 5 = .ok (.lconst 1, 1) := by decide +kernel
theorem dX9_putDrop_6 : decode cX9_putDrop 6 = .ok (.iload_n 1, 1) := by decide +kernel
theorem dX9_putDrop_7 : decode cX9_putDrop 7 = .ok (.lshl, 1) := by decide +kernel
theorem dX9_putDrop_8 : decode cX9_putDrop 8 = .ok (.lor, 1) := by decide +kernel
theorem dX9_putDrop_9 : decode cX9_putDrop 9 = .ok (.putfield 38, 3) := by decide +kernel
theorem dX9_putDrop_12 : decode cX9_putDrop 12 = .ok (.return_, 1) := by decide +kernel
theorem dX9_drops_0 : decode cX9_drops 0 = .ok (.aload_n 0, 1) := by decide +kernel
theorem dX9_drops_1 : decode cX9_drops 1 = .ok (.getfield 38, 3) := by decide +kernel
theorem dX9_drops_4 : decode cX9_drops 4 = .ok (.lconst 1, 1) := by decide +kernel
theorem dX9_drops_5 : decode cX9_drops 5 = .ok (.iload_n 1, 1) := by decide +kernel
theorem dX9_drops_6 : decode cX9_drops 6 = .ok (.lshl, 1) := by decide +kernel
theorem dX9_drops_7 : decode cX9_drops 7 = .ok (.land, 1) := by decide +kernel
theorem dX9_drops_8 : decode cX9_drops 8 = .ok (.lconst 0, 1) := by decide +kernel
theorem dX9_drops_9 : decode cX9_drops 9 = .ok (.lcmp, 1) := by decide +kernel
theorem dX9_drops_10 : decode cX9_drops 10 = .ok (.ifCond .eq 7, 3) := by decide +kernel
theorem dX9_drops_13 : decode cX9_drops 13 = .ok (.iconst 1, 1) := by decide +kernel
theorem dX9_drops_14 : decode cX9_drops 14 = .ok (.goto 4, 3) := by decide +kernel
theorem dX9_drops_17 : decode cX9_drops 17 = .ok (.iconst 0, 1) := by decide +kernel
theorem dX9_drops_18 : decode cX9_drops 18 = .ok (.ireturn, 1) := by decide +kernel
theorem dX9_hasWrites_0 : decode cX9_hasWrites 0 = .ok (.aload_n 0, 1) := by decide +kernel
theorem dX9_hasWrites_1 : decode cX9_hasWrites 1 = .ok (.getfield 32, 3) := by decide +kernel
theorem dX9_hasWrites_4 : decode cX9_hasWrites 4 = .ok (.ifCond .ne 19, 3) := by decide +kernel
theorem dX9_hasWrites_7 : decode cX9_hasWrites 7 = .ok (.aload_n 0, 1) := by decide +kernel
theorem dX9_hasWrites_8 : decode cX9_hasWrites 8 = .ok (.getfield 35, 3) := by decide +kernel
theorem dX9_hasWrites_11 : decode cX9_hasWrites 11 = .ok (.ifCond .ne 12, 3) := by decide +kernel
theorem dX9_hasWrites_14 : decode cX9_hasWrites 14 = .ok (.aload_n 0, 1) := by decide +kernel
theorem dX9_hasWrites_15 : decode cX9_hasWrites 15 = .ok (.getfield 38, 3) := by decide +kernel
theorem dX9_hasWrites_18 : decode cX9_hasWrites 18 = .ok (.lconst 0, 1) := by decide +kernel
theorem dX9_hasWrites_19 : decode cX9_hasWrites 19 = .ok (.lcmp, 1) := by decide +kernel
theorem dX9_hasWrites_20 : decode cX9_hasWrites 20 = .ok (.ifCond .eq 7, 3) := by decide +kernel
theorem dX9_hasWrites_23 : decode cX9_hasWrites 23 = .ok (.iconst 1, 1) := by decide +kernel
theorem dX9_hasWrites_24 : decode cX9_hasWrites 24 = .ok (.goto 4, 3) := by decide +kernel
theorem dX9_hasWrites_27 : decode cX9_hasWrites 27 = .ok (.iconst 0, 1) := by decide +kernel
theorem dX9_hasWrites_28 : decode cX9_hasWrites 28 = .ok (.ireturn, 1) := by decide +kernel
theorem dX9_linksFrom_0 : decode cX9_linksFrom 0 = .ok (.iconst 0, 1) := by decide +kernel
theorem dX9_linksFrom_1 : decode cX9_linksFrom 1 = .ok (.istore_n 2, 1) := by decide +kernel
theorem dX9_linksFrom_2 : decode cX9_linksFrom 2 = .ok (.iconst 0, 1) := by decide +kernel
theorem dX9_linksFrom_3 : decode cX9_linksFrom 3 = .ok (.istore_n 3, 1) := by decide +kernel
theorem dX9_linksFrom_4 : decode cX9_linksFrom 4 = .ok (.iload_n 3, 1) := by decide +kernel
theorem dX9_linksFrom_5 : decode cX9_linksFrom 5 = .ok (.aload_n 0, 1) := by decide +kernel
theorem dX9_linksFrom_6 : decode cX9_linksFrom 6 = .ok (.getfield 35, 3) := by decide +kernel
theorem dX9_linksFrom_9 : decode cX9_linksFrom 9 = .ok (.if_icmp .ge 22, 3) := by decide +kernel
theorem dX9_linksFrom_12 : decode cX9_linksFrom 12 = .ok (.aload_n 0, 1) := by decide +kernel
theorem dX9_linksFrom_13 : decode cX9_linksFrom 13 = .ok (.getfield 15, 3) := by decide +kernel
theorem dX9_linksFrom_16 : decode cX9_linksFrom 16 = .ok (.iload_n 3, 1) := by decide +kernel
theorem dX9_linksFrom_17 : decode cX9_linksFrom 17 = .ok (.iaload, 1) := by decide +kernel
theorem dX9_linksFrom_18 : decode cX9_linksFrom 18 = .ok (.iload_n 1, 1) := by decide +kernel
theorem dX9_linksFrom_19 : decode cX9_linksFrom 19 = .ok (.if_icmp .ne 6, 3) := by decide +kernel
theorem dX9_linksFrom_22 : decode cX9_linksFrom 22 = .ok (.iinc 2 1, 3) := by decide +kernel
theorem dX9_linksFrom_25 : decode cX9_linksFrom 25 = .ok (.iinc 3 1, 3) := by decide +kernel
theorem dX9_linksFrom_28 : decode cX9_linksFrom 28 = .ok (.goto (-24), 3) := by decide +kernel
theorem dX9_linksFrom_31 : decode cX9_linksFrom 31 = .ok (.iload_n 2, 1) := by decide +kernel
theorem dX9_linksFrom_32 : decode cX9_linksFrom 32 = .ok (.ireturn, 1) := by decide +kernel
theorem dX9_touching_0 : decode cX9_touching 0 = .ok (.aload_n 0, 1) := by decide +kernel
theorem dX9_touching_1 : decode cX9_touching 1 = .ok (.getfield 32, 3) := by decide +kernel
theorem dX9_touching_4 : decode cX9_touching 4 = .ok (.istore_n 2, 1) := by decide +kernel
theorem dX9_touching_5 : decode cX9_touching 5 = .ok (.iconst 0, 1) := by decide +kernel
theorem dX9_touching_6 : decode cX9_touching 6 = .ok (.istore_n 3, 1) := by decide +kernel
theorem dX9_touching_7 : decode cX9_touching 7 = .ok (.iload_n 3, 1) := by decide +kernel
theorem dX9_touching_8 : decode cX9_touching 8 = .ok (.aload_n 0, 1) := by decide +kernel
theorem dX9_touching_9 : decode cX9_touching 9 = .ok (.getfield 35, 3) := by decide +kernel
theorem dX9_touching_12 : decode cX9_touching 12 = .ok (.if_icmp .ge 31, 3) := by decide +kernel
theorem dX9_touching_15 : decode cX9_touching 15 = .ok (.iload_n 2, 1) := by decide +kernel
theorem dX9_touching_16 : decode cX9_touching 16 = .ok (.aload_n 0, 1) := by decide +kernel
theorem dX9_touching_17 : decode cX9_touching 17 = .ok (.getfield 15, 3) := by decide +kernel
theorem dX9_touching_20 : decode cX9_touching 20 = .ok (.iload_n 3, 1) := by decide +kernel
theorem dX9_touching_21 : decode cX9_touching 21 = .ok (.iaload, 1) := by decide +kernel
theorem dX9_touching_22 : decode cX9_touching 22 = .ok (.invokestatic 42, 3) := by decide +kernel
theorem dX9_touching_25 : decode cX9_touching 25 = .ok (.aload_n 0, 1) := by decide +kernel
theorem dX9_touching_26 : decode cX9_touching 26 = .ok (.getfield 21, 3) := by decide +kernel
theorem dX9_touching_29 : decode cX9_touching 29 = .ok (.iload_n 3, 1) := by decide +kernel
theorem dX9_touching_30 : decode cX9_touching 30 = .ok (.iaload, 1) := by decide +kernel
theorem dX9_touching_31 : decode cX9_touching 31 = .ok (.invokestatic 42, 3) := by decide +kernel
theorem dX9_touching_34 : decode cX9_touching 34 = .ok (.ior, 1) := by decide +kernel
theorem dX9_touching_35 : decode cX9_touching 35 = .ok (.ior, 1) := by decide +kernel
theorem dX9_touching_36 : decode cX9_touching 36 = .ok (.istore_n 2, 1) := by decide +kernel
theorem dX9_touching_37 : decode cX9_touching 37 = .ok (.iinc 3 1, 3) := by decide +kernel
theorem dX9_touching_40 : decode cX9_touching 40 = .ok (.goto (-33), 3) := by decide +kernel
theorem dX9_touching_43 : decode cX9_touching 43 = .ok (.iconst 0, 1) := by decide +kernel
theorem dX9_touching_44 : decode cX9_touching 44 = .ok (.istore_n 3, 1) := by decide +kernel
theorem dX9_touching_45 : decode cX9_touching 45 = .ok (.iload_n 3, 1) := by decide +kernel
theorem dX9_touching_46 : decode cX9_touching 46 = .ok (.aload_n 1, 1) := by decide +kernel
theorem dX9_touching_47 : decode cX9_touching 47 = .ok (.getfield 46, 3) := by decide +kernel
theorem dX9_touching_50 : decode cX9_touching 50 = .ok (.if_icmp .ge 39, 3) := by decide +kernel
theorem dX9_touching_53 : decode cX9_touching 53 = .ok (.aload_n 0, 1) := by decide +kernel
theorem dX9_touching_54 : decode cX9_touching 54 = .ok (.iload_n 3, 1) := by decide +kernel
theorem dX9_touching_55 : decode cX9_touching 55 = .ok (.invokevirtual 51, 3) := by decide +kernel
theorem dX9_touching_58 : decode cX9_touching 58 = .ok (.ifCond .eq 25, 3) := by decide +kernel
theorem dX9_touching_61 : decode cX9_touching 61 = .ok (.iload_n 2, 1) := by decide +kernel
theorem dX9_touching_62 : decode cX9_touching 62 = .ok (.aload_n 1, 1) := by decide +kernel
theorem dX9_touching_63 : decode cX9_touching 63 = .ok (.getfield 55, 3) := by decide +kernel
theorem dX9_touching_66 : decode cX9_touching 66 = .ok (.iload_n 3, 1) := by decide +kernel
theorem dX9_touching_67 : decode cX9_touching 67 = .ok (.iaload, 1) := by decide +kernel
theorem dX9_touching_68 : decode cX9_touching 68 = .ok (.invokestatic 42, 3) := by decide +kernel
theorem dX9_touching_71 : decode cX9_touching 71 = .ok (.aload_n 1, 1) := by decide +kernel
theorem dX9_touching_72 : decode cX9_touching 72 = .ok (.getfield 56, 3) := by decide +kernel
theorem dX9_touching_75 : decode cX9_touching 75 = .ok (.iload_n 3, 1) := by decide +kernel
theorem dX9_touching_76 : decode cX9_touching 76 = .ok (.iaload, 1) := by decide +kernel
theorem dX9_touching_77 : decode cX9_touching 77 = .ok (.invokestatic 42, 3) := by decide +kernel
theorem dX9_touching_80 : decode cX9_touching 80 = .ok (.ior, 1) := by decide +kernel
theorem dX9_touching_81 : decode cX9_touching 81 = .ok (.ior, 1) := by decide +kernel
theorem dX9_touching_82 : decode cX9_touching 82 = .ok (.istore_n 2, 1) := by decide +kernel
theorem dX9_touching_83 : decode cX9_touching 83 = .ok (.iinc 3 1, 3) := by decide +kernel
theorem dX9_touching_86 : decode cX9_touching 86 = .ok (.goto (-41), 3) := by decide +kernel
theorem dX9_touching_89 : decode cX9_touching 89 = .ok (.iload_n 2, 1) := by decide +kernel
theorem dX9_touching_90 : decode cX9_touching 90 = .ok (.ireturn, 1) := by decide +kernel
theorem dJ6_bitCount_0f7a4_0 : decode cJ6_bitCount_0f7a4 0 = .ok (.iload_n 0, 1) := by decide +kernel
theorem dJ6_bitCount_0f7a4_1 : decode cJ6_bitCount_0f7a4 1 = .ok (.iload_n 0, 1) := by decide +kernel
theorem dJ6_bitCount_0f7a4_2 : decode cJ6_bitCount_0f7a4 2 = .ok (.iconst 1, 1) := by decide +kernel
theorem dJ6_bitCount_0f7a4_3 : decode cJ6_bitCount_0f7a4 3 = .ok (.iushr, 1) := by decide +kernel
theorem dJ6_bitCount_0f7a4_4 : decode cJ6_bitCount_0f7a4 4 = .ok (.ldc_w 265, 3) := by decide +kernel
theorem dJ6_bitCount_0f7a4_7 : decode cJ6_bitCount_0f7a4 7 = .ok (.iand, 1) := by decide +kernel
theorem dJ6_bitCount_0f7a4_8 : decode cJ6_bitCount_0f7a4 8 = .ok (.isub, 1) := by decide +kernel
theorem dJ6_bitCount_0f7a4_9 : decode cJ6_bitCount_0f7a4 9 = .ok (.istore_n 0, 1) := by decide +kernel
theorem dJ6_bitCount_0f7a4_10 : decode cJ6_bitCount_0f7a4 10 = .ok (.iload_n 0, 1) := by decide +kernel
theorem dJ6_bitCount_0f7a4_11 : decode cJ6_bitCount_0f7a4 11 = .ok (.ldc_w 266, 3) := by decide +kernel
theorem dJ6_bitCount_0f7a4_14 : decode cJ6_bitCount_0f7a4 14 = .ok (.iand, 1) := by decide +kernel
theorem dJ6_bitCount_0f7a4_15 : decode cJ6_bitCount_0f7a4 15 = .ok (.iload_n 0, 1) := by decide +kernel
theorem dJ6_bitCount_0f7a4_16 : decode cJ6_bitCount_0f7a4 16 = .ok (.iconst 2, 1) := by decide +kernel
theorem dJ6_bitCount_0f7a4_17 : decode cJ6_bitCount_0f7a4 17 = .ok (.iushr, 1) := by decide +kernel
theorem dJ6_bitCount_0f7a4_18 : decode cJ6_bitCount_0f7a4 18 = .ok (.ldc_w 266, 3) := by decide +kernel
theorem dJ6_bitCount_0f7a4_21 : decode cJ6_bitCount_0f7a4 21 = .ok (.iand, 1) := by decide +kernel
theorem dJ6_bitCount_0f7a4_22 : decode cJ6_bitCount_0f7a4 22 = .ok (.iadd, 1) := by decide +kernel
theorem dJ6_bitCount_0f7a4_23 : decode cJ6_bitCount_0f7a4 23 = .ok (.istore_n 0, 1) := by decide +kernel
theorem dJ6_bitCount_0f7a4_24 : decode cJ6_bitCount_0f7a4 24 = .ok (.iload_n 0, 1) := by decide +kernel
theorem dJ6_bitCount_0f7a4_25 : decode cJ6_bitCount_0f7a4 25 = .ok (.iload_n 0, 1) := by decide +kernel
theorem dJ6_bitCount_0f7a4_26 : decode cJ6_bitCount_0f7a4 26 = .ok (.iconst 4, 1) := by decide +kernel
theorem dJ6_bitCount_0f7a4_27 : decode cJ6_bitCount_0f7a4 27 = .ok (.iushr, 1) := by decide +kernel
theorem dJ6_bitCount_0f7a4_28 : decode cJ6_bitCount_0f7a4 28 = .ok (.iadd, 1) := by decide +kernel
theorem dJ6_bitCount_0f7a4_29 : decode cJ6_bitCount_0f7a4 29 = .ok (.ldc_w 267, 3) := by decide +kernel
theorem dJ6_bitCount_0f7a4_32 : decode cJ6_bitCount_0f7a4 32 = .ok (.iand, 1) := by decide +kernel
theorem dJ6_bitCount_0f7a4_33 : decode cJ6_bitCount_0f7a4 33 = .ok (.istore_n 0, 1) := by decide +kernel
theorem dJ6_bitCount_0f7a4_34 : decode cJ6_bitCount_0f7a4 34 = .ok (.iload_n 0, 1) := by decide +kernel
theorem dJ6_bitCount_0f7a4_35 : decode cJ6_bitCount_0f7a4 35 = .ok (.iload_n 0, 1) := by decide +kernel
theorem dJ6_bitCount_0f7a4_36 : decode cJ6_bitCount_0f7a4 36 = .ok (.bipush 8, 2) := by decide +kernel
theorem dJ6_bitCount_0f7a4_38 : decode cJ6_bitCount_0f7a4 38 = .ok (.iushr, 1) := by decide +kernel
theorem dJ6_bitCount_0f7a4_39 : decode cJ6_bitCount_0f7a4 39 = .ok (.iadd, 1) := by decide +kernel
theorem dJ6_bitCount_0f7a4_40 : decode cJ6_bitCount_0f7a4 40 = .ok (.istore_n 0, 1) := by decide +kernel
theorem dJ6_bitCount_0f7a4_41 : decode cJ6_bitCount_0f7a4 41 = .ok (.iload_n 0, 1) := by decide +kernel
theorem dJ6_bitCount_0f7a4_42 : decode cJ6_bitCount_0f7a4 42 = .ok (.iload_n 0, 1) := by decide +kernel
theorem dJ6_bitCount_0f7a4_43 : decode cJ6_bitCount_0f7a4 43 = .ok (.bipush 16, 2) := by decide +kernel
theorem dJ6_bitCount_0f7a4_45 : decode cJ6_bitCount_0f7a4 45 = .ok (.iushr, 1) := by decide +kernel
theorem dJ6_bitCount_0f7a4_46 : decode cJ6_bitCount_0f7a4 46 = .ok (.iadd, 1) := by decide +kernel
theorem dJ6_bitCount_0f7a4_47 : decode cJ6_bitCount_0f7a4 47 = .ok (.istore_n 0, 1) := by decide +kernel
theorem dJ6_bitCount_0f7a4_48 : decode cJ6_bitCount_0f7a4 48 = .ok (.iload_n 0, 1) := by decide +kernel
theorem dJ6_bitCount_0f7a4_49 : decode cJ6_bitCount_0f7a4 49 = .ok (.bipush 63, 2) := by decide +kernel
theorem dJ6_bitCount_0f7a4_51 : decode cJ6_bitCount_0f7a4 51 = .ok (.iand, 1) := by decide +kernel
theorem dJ6_bitCount_0f7a4_52 : decode cJ6_bitCount_0f7a4 52 = .ok (.ireturn, 1) := by decide +kernel
