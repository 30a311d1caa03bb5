theorem dX10_init_0 : decode cX10_init 0 = .ok (.aload_n 0, 1) := by decide +kernel
theorem dX10_init_1 : decode cX10_init 1 = .ok (.invokespecial 1, 3) := by decide +kernel
theorem dX10_init_4 : decode cX10_init 4 = .ok (.aload_n 0, 1) := by decide +kernel
theorem dX10_init_5 : decode cX10_init 5 = .ok (.iconst 0, 1) := by decide +kernel
theorem dX10_init_6 : decode cX10_init 6 = .ok (.putfield 7, 3) := by decide +kernel
theorem dX10_init_9 : decode cX10_init 9 = .ok (.aload_n 0, 1) := by decide +kernel
theorem dX10_init_10 : decode cX10_init 10 = .ok (.iconst 0, 1) := by decide +kernel
theorem dX10_init_11 : decode cX10_init 11 = .ok (.putfield 13, 3) := by decide +kernel
theorem dX10_init_14 : decode cX10_init 14 = .ok (.aload_n 0, 1) := by decide +kernel
theorem dX10_init_15 : decode cX10_init 15 = .ok (.new 16, 3) := by decide +kernel
theorem dX10_init_18 : decode cX10_init 18 = .ok (.dup, 1) := by decide +kernel
theorem dX10_init_19 : decode cX10_init 19 = .ok (.invokespecial 18, 3) := by decide +kernel
theorem dX10_init_22 : decode cX10_init 22 = .ok (.putfield 19, 3) := by decide +kernel
theorem dX10_init_25 : decode cX10_init 25 = .ok (.aload_n 0, 1) := by decide +kernel
theorem dX10_init_26 : decode cX10_init 26 = .ok (.new 23, 3) := by decide +kernel
theorem dX10_init_29 : decode cX10_init 29 = .ok (.dup, 1) := by decide +kernel
theorem dX10_init_30 : decode cX10_init 30 = .ok (.invokespecial 25, 3) := by decide +kernel
theorem dX10_init_33 : decode cX10_init 33 = .ok (.putfield 26, 3) := by decide +kernel
theorem dX10_init_36 : decode cX10_init 36 = .ok (.aload_n 0, 1) := by decide +kernel
theorem dX10_init_37 : decode cX10_init 37 = .ok (.new 30, 3) := by decide +kernel
theorem dX10_init_40 : decode cX10_init 40 = .ok (.dup, 1) := by decide +kernel
theorem dX10_init_41 : decode cX10_init 41 = .ok (.aload_n 0, 1) := by decide +kernel
theorem dX10_init_42 : decode cX10_init 42 = .ok (.getfield 19, 3) := by decide +kernel
theorem dX10_init_45 : decode cX10_init 45 = .ok (.invokespecial 32, 3) := by decide +kernel
theorem dX10_init_48 : decode cX10_init 48 = .ok (.putfield 35, 3) := by decide +kernel
theorem dX10_init_51 : decode cX10_init 51 = .ok (.aload_n 0, 1) := by decide +kernel
theorem dX10_init_52 : decode cX10_init 52 = .ok (.new 39, 3) := by decide +kernel
theorem dX10_init_55 : decode cX10_init 55 = .ok (.dup, 1) := by decide +kernel
theorem dX10_init_56 : decode cX10_init 56 = .ok (.aload_n 0, 1) := by decide +kernel
theorem dX10_init_57 : decode cX10_init 57 = .ok (.getfield 19, 3) := by decide +kernel
theorem dX10_init_60 : decode cX10_init 60 = .ok (.aload_n 0, 1) := by decide +kernel
theorem dX10_init_61 : decode cX10_init 61 = .ok (.getfield 26, 3) := by decide +kernel
theorem dX10_init_64 : decode cX10_init 64 = .ok (.invokespecial 41, 3) := by decide +kernel
theorem dX10_init_67 : decode cX10_init 67 = .ok (.putfield 44, 3) := by decide +kernel
theorem dX10_init_70 : decode cX10_init 70 = .ok (.aload_n 0, 1) := by decide +kernel
theorem dX10_init_71 : decode cX10_init 71 = .ok (.new 48, 3) := by decide +kernel
theorem dX10_init_74 : decode cX10_init 74 = .ok (.dup, 1) := by decide +kernel
theorem dX10_init_75 : decode cX10_init 75 = .ok (.aload_n 0, 1) := by decide +kernel
theorem dX10_init_76 : decode cX10_init 76 = .ok (.getfield 26, 3) := by decide +kernel
theorem dX10_init_79 : decode cX10_init 79 = .ok (.invokespecial 50, 3) := by decide +kernel
theorem dX10_init_82 : decode cX10_init 82 = .ok (.putfield 53, 3) := by decide +kernel
theorem dX10_init_85 : decode cX10_init 85 = .ok (.aload_n 0, 1) := by decide +kernel
theorem dX10_init_86 : decode cX10_init 86 = .ok (.new 57, 3) := by decide +kernel
theorem dX10_init_89 : decode cX10_init 89 = .ok (.dup, 1) := by decide +kernel
theorem dX10_init_90 : decode cX10_init 90 = .ok (.aload_n 0, 1) := by decide +kernel
theorem dX10_init_91 : decode cX10_init 91 = .ok (.getfield 19, 3) := by decide +kernel
theorem dX10_init_94 : decode cX10_init 94 = .ok (.aload_n 0, 1) := by decide +kernel
theorem dX10_init_95 : decode cX10_init 95 = .ok (.getfield 53, 3) := by decide +kernel
theorem dX10_init_98 : decode cX10_init 98 = .ok (.invokespecial 59, 3) := by decide +kernel
theorem dX10_init_101 : decode cX10_init 101 = .ok (.putfield 62, 3) := by decide +kernel
theorem dX10_init_104 : decode cX10_init 104 = .ok (.aload_n 0, 1) := by decide +kernel
theorem dX10_init_105 : decode cX10_init 105 = .ok (.new 66, 3) := by decide +kernel
theorem dX10_init_108 : decode cX10_init 108 = .ok (.dup, 1) := by decide +kernel
theorem dX10_init_109 : decode cX10_init 109 = .ok (.aload_n 0, 1) := by decide +kernel
theorem dX10_init_110 : decode cX10_init 110 = .ok (.getfield 26, 3) := by decide +kernel
theorem dX10_init_113 : decode cX10_init 113 = .ok (.invokespecial 68, 3) := by decide +kernel
theorem dX10_init_116 : decode cX10_init 116 = .ok (.putfield 69, 3) := by decide +kernel
theorem dX10_init_119 : decode cX10_init 119 = .ok (.aload_n 0, 1) := by decide +kernel
theorem dX10_init_120 : decode cX10_init 120 = .ok (.iconst 4, 1) := by decide +kernel
theorem dX10_init_121 : decode cX10_init 121 = .ok (.anewarray 73, 3) := by decide +kernel
theorem dX10_init_124 : decode cX10_init 124 = .ok (.putfield 75, 3) := by decide +kernel
theorem dX10_init_127 : decode cX10_init 127 = .ok (.iconst 0, 1) := by decide +kernel
theorem dX10_init_128 : decode cX10_init 128 = .ok (.istore_n 1, 1) := by decide +kernel
theorem dX10_init_129 : decode cX10_init 129 = .ok (.iload_n 1, 1) := by decide +kernel
theorem dX10_init_130 : decode cX10_init 130 = .ok (.iconst 4, 1) := by decide +kernel
theorem dX10_init_131 : decode cX10_init 131 = .ok (.if_icmp .ge 22, 3) := by decide +kernel
theorem dX10_init_134 : decode cX10_init 134 = .ok (.aload_n 0, 1) := by decide +kernel
theorem dX10_init_135 : decode cX10_init 135 = .ok (.getfield 75, 3) := by decide +kernel
theorem dX10_init_138 : decode cX10_init 138 = .ok (.iload_n 1, 1) := by decide +kernel
theorem dX10_init_139 : decode cX10_init 139 = .ok (.new 73, 3) := by decide +kernel
theorem dX10_init_142 : decode cX10_init 142 = .ok (.dup, 1) := by decide +kernel
theorem dX10_init_143 : decode cX10_init 143 = .ok (.invokespecial 79, 3) := by decide +kernel
theorem dX10_init_146 : decode cX10_init 146 = .ok (.aastore, 1) := by decide +kernel
theorem dX10_init_147 : decode cX10_init 147 = .ok (.iinc 1 1, 3) := by decide +kernel
theorem dX10_init_150 : decode cX10_init 150 = .ok (.goto (-21), 3) := by decide +kernel
theorem dX10_init_153 : decode cX10_init 153 = .ok (.aload_n 0, 1) := by decide +kernel
theorem dX10_init_154 : decode cX10_init 154 = .ok (.bipush 7, 2) := by decide +kernel
theorem dX10_init_156 : decode cX10_init 156 = .ok (.anewarray 80, 3) := by decide +kernel
theorem dX10_init_159 : decode cX10_init 159 = .ok (.putfield 82, 3) := by decide +kernel
theorem dX10_init_162 : decode cX10_init 162 = .ok (.iconst 0, 1) := by decide +kernel
theorem dX10_init_163 : decode cX10_init 163 = .ok (.istore_n 1, 1) := by decide +kernel
theorem dX10_init_164 : decode cX10_init 164 = .ok (.iload_n 1, 1) := by decide +kernel
theorem dX10_init_165 : decode cX10_init 165 = .ok (.bipush 6, 2) := by decide +kernel
theorem dX10_init_167 : decode cX10_init 167 = .ok (.if_icmp .gt 22, 3) := by decide +kernel
theorem dX10_init_170 : decode cX10_init 170 = .ok (.aload_n 0, 1) := by decide +kernel
theorem dX10_init_171 : decode cX10_init 171 = .ok (.getfield 82, 3) := by decide +kernel
theorem dX10_init_174 : decode cX10_init 174 = .ok (.iload_n 1, 1) := by decide +kernel
theorem dX10_init_175 : decode cX10_init 175 = .ok (.new 80, 3) := by decide +kernel
theorem dX10_init_178 : decode cX10_init 178 = .ok (.dup, 1) := by decide +kernel
theorem dX10_init_179 : decode cX10_init 179 = .ok (.invokespecial 86, 3) := by decide +kernel
theorem dX10_init_182 : decode cX10_init 182 = .ok (.aastore, 1) := by decide +kernel
theorem dX10_init_183 : decode cX10_init 183 = .ok (.iinc 1 1, 3) := by decide +kernel
theorem dX10_init_186 : decode cX10_init 186 = .ok (.goto (-22), 3) := by decide +kernel
theorem dX10_init_189 : decode cX10_init 189 = .ok (.aload_n 0, 1) := by decide +kernel
theorem dX10_init_190 : decode cX10_init 190 = .ok (.bipush 24, 2) := by decide +kernel
theorem dX10_init_192 : decode cX10_init 192 = .ok (.newarray .int, 2) := by decide +kernel
theorem dX10_init_194 : decode cX10_init 194 = .ok (.putfield 87, 3) := by decide +kernel
theorem dX10_init_197 : decode cX10_init 197 = .ok (.return_, 1) := by decide +kernel
theorem dX10_node_0 : decode cX10_node 0 = .ok (.iload_n 1, 1) := by decide +kernel
theorem dX10_node_1 : decode cX10_node 1 = .ok (.invokestatic 91, 3) := by decide +kernel
theorem dX10_node_4 : decode cX10_node 4 = .ok (.aload_n 0, 1) := by decide +kernel
theorem dX10_node_5 : decode cX10_node 5 = .ok (.getfield 19, 3) := by decide +kernel
theorem dX10_node_8 : decode cX10_node 8 = .ok (.getfield 95, 3) := by decide +kernel
theorem dX10_node_11 : decode cX10_node 11 = .ok (.bipush 24, 2) := by decide +kernel
theorem dX10_node_13 : decode cX10_node 13 = .ok (.if_icmp .lt 13, 3) := by decide +kernel
theorem dX10_node_16 : decode cX10_node 16 = .ok (.new 98, 3) := by decide +kernel
theorem dX10_node_19 : decode cX10_node 19 = .ok (.dup, 1) := by decide +kernel
theorem dX10_node_20 : decode cX10_node 20 = .ok (.ldc 100, 2) := by decide +kernel
theorem dX10_node_22 : decode cX10_node 22 = .ok (.invokespecial 102, 3) := by decide +kernel
theorem dX10_node_25 : decode cX10_node 25 = .ok (.athrow, 1) := by decide +kernel
theorem dX10_node_26 : decode cX10_node 26 = .ok (.aload_n 0, 1) := by decide +kernel
theorem dX10_node_27 : decode cX10_node 27 = .ok (.getfield 44, 3) := by decide +kernel
theorem dX10_node_30 : decode cX10_node 30 = .ok (.invokevirtual 105, 3) := by decide +kernel
theorem dX10_node_33 : decode cX10_node 33 = .ok (.istore_n 3, 1) := by decide +kernel
theorem dX10_node_34 : decode cX10_node 34 = .ok (.iload_n 3, 1) := by decide +kernel
theorem dX10_node_35 : decode cX10_node 35 = .ok (.iconst (-1), 1) := by decide +kernel
theorem dX10_node_36 : decode cX10_node 36 = .ok (.if_icmp .ne 13, 3) := by decide +kernel
theorem dX10_node_39 : decode cX10_node 39 = .ok (.new 98, 3) := by decide +kernel
theorem dX10_node_42 : decode cX10_node 42 = .ok (.dup, 1) := by decide +kernel
theorem dX10_node_43 : decode cX10_node 43 = .ok (.ldc 109, 2) := by decide +kernel
theorem dX10_node_45 : decode cX10_node 45 = .ok (.invokespecial 102, 3) := by decide +kernel
theorem dX10_node_48 : decode cX10_node 48 = .ok (.athrow, 1) := by decide +kernel
theorem dX10_node_49 : decode cX10_node 49 = .ok (.aload_n 0, 1) := by decide +kernel
theorem dX10_node_50 : decode cX10_node 50 = .ok (.getfield 35, 3) := by decide +kernel
theorem dX10_node_53 : decode cX10_node 53 = .ok (.iload_n 1, 1) := by decide +kernel
theorem dX10_node_54 : decode cX10_node 54 = .ok (.iload_n 2, 1) := by decide +kernel
theorem dX10_node_55 : decode cX10_node 55 = .ok (.iconst (-1), 1) := by decide +kernel
theorem dX10_node_56 : decode cX10_node 56 = .ok (.invokevirtual 111, 3) := by decide +kernel
theorem dX10_node_59 : decode cX10_node 59 = .ok (.ifCond .eq 13, 3) := by decide +kernel
theorem dX10_node_62 : decode cX10_node 62 = .ok (.new 98, 3) := by decide +kernel
theorem dX10_node_65 : decode cX10_node 65 = .ok (.dup, 1) := by decide +kernel
theorem dX10_node_66 : decode cX10_node 66 = .ok (.ldc 115, 2) := by decide +kernel
theorem dX10_node_68 : decode cX10_node 68 = .ok (.invokespecial 102, 3) := by decide +kernel
theorem dX10_node_71 : decode cX10_node 71 = .ok (.athrow, 1) := by decide +kernel
theorem dX10_node_72 : decode cX10_node 72 = .ok (.aload_n 0, 1) := by decide +kernel
theorem dX10_node_73 : decode cX10_node 73 = .ok (.dup, 1) := by decide +kernel
theorem dX10_node_74 : decode cX10_node 74 = .ok (.getfield 13, 3) := by decide +kernel
theorem dX10_node_77 : decode cX10_node 77 = .ok (.iconst 1, 1) := by decide +kernel
theorem dX10_node_78 : decode cX10_node 78 = .ok (.iadd, 1) := by decide +kernel
theorem dX10_node_79 : decode cX10_node 79 = .ok (.putfield 13, 3) := by decide +kernel
theorem dX10_node_82 : decode cX10_node 82 = .ok (.aload_n 0, 1) := by decide +kernel
theorem dX10_node_83 : decode cX10_node 83 = .ok (.getfield 19, 3) := by decide +kernel
theorem dX10_node_86 : decode cX10_node 86 = .ok (.iload_n 1, 1) := by decide +kernel
theorem dX10_node_87 : decode cX10_node 87 = .ok (.iload_n 2, 1) := by decide +kernel
theorem dX10_node_88 : decode cX10_node 88 = .ok (.aload_n 0, 1) := by decide +kernel
theorem dX10_node_89 : decode cX10_node 89 = .ok (.getfield 13, 3) := by decide +kernel
theorem dX10_node_92 : decode cX10_node 92 = .ok (.invokevirtual 117, 3) := by decide +kernel
theorem dX10_node_95 : decode cX10_node 95 = .ok (.istore 4, 2) := by decide +kernel
theorem dX10_node_97 : decode cX10_node 97 = .ok (.aload_n 0, 1) := by decide +kernel
theorem dX10_node_98 : decode cX10_node 98 = .ok (.getfield 44, 3) := by decide +kernel
theorem dX10_node_101 : decode cX10_node 101 = .ok (.getfield 121, 3) := by decide +kernel
theorem dX10_node_104 : decode cX10_node 104 = .ok (.iload 4, 2) := by decide +kernel
theorem dX10_node_106 : decode cX10_node 106 = .ok (.iload_n 3, 1) := by decide +kernel
theorem dX10_node_107 : decode cX10_node 107 = .ok (.iastore, 1) := by decide +kernel
theorem dX10_node_108 : decode cX10_node 108 = .ok (.aload_n 0, 1) := by decide +kernel
theorem dX10_node_109 : decode cX10_node 109 = .ok (.getfield 69, 3) := by decide +kernel
theorem dX10_node_112 : decode cX10_node 112 = .ok (.iload 4, 2) := by decide +kernel
theorem dX10_node_114 : decode cX10_node 114 = .ok (.invokevirtual 124, 3) := by decide +kernel
theorem dX10_node_117 : decode cX10_node 117 = .ok (.iload 4, 2) := by decide +kernel
theorem dX10_node_119 : decode cX10_node 119 = .ok (.ireturn, 1) := by decide +kernel
theorem dX10_edge_0 : decode cX10_edge 0 = .ok (.aload_n 0, 1) := by decide +kernel
theorem dX10_edge_1 : decode cX10_edge 1 = .ok (.iload_n 1, 1) := by decide +kernel
theorem dX10_edge_2 : decode cX10_edge 2 = .ok (.invokevirtual 127, 3) := by decide +kernel
theorem dX10_edge_5 : decode cX10_edge 5 = .ok (.aload_n 0, 1) := by decide +kernel
theorem dX10_edge_6 : decode cX10_edge 6 = .ok (.iload_n 3, 1) := by decide +kernel
theorem dX10_edge_7 : decode cX10_edge 7 = .ok (.invokevirtual 127, 3) := by decide +kernel
theorem dX10_edge_10 : decode cX10_edge 10 = .ok (.iload_n 2, 1) := by decide +kernel
theorem dX10_edge_11 : decode cX10_edge 11 = .ok (.invokestatic 91, 3) := by decide +kernel
theorem dX10_edge_14 : decode cX10_edge 14 = .ok (.aload_n 0, 1) := by decide +kernel
theorem dX10_edge_15 : decode cX10_edge 15 = .ok (.getfield 26, 3) := by decide +kernel
theorem dX10_edge_18 : decode cX10_edge 18 = .ok (.getfield 130, 3) := by decide +kernel
theorem dX10_edge_21 : decode cX10_edge 21 = .ok (.bipush 60, 2) := by decide +kernel
theorem dX10_edge_23 : decode cX10_edge 23 = .ok (.if_icmp .lt 13, 3) := by decide +kernel
theorem dX10_edge_26 : decode cX10_edge 26 = .ok (.new 98, 3) := by decide +kernel
theorem dX10_edge_29 : decode cX10_edge 29 = .ok (.dup, 1) := by decide +kernel
theorem dX10_edge_30 : decode cX10_edge 30 = .ok (.ldc 131, 2) := by decide +kernel
theorem dX10_edge_32 : decode cX10_edge 32 = .ok (.invokespecial 102, 3) := by decide +kernel
theorem dX10_edge_35 : decode cX10_edge 35 = .ok (.athrow, 1) := by decide +kernel
theorem dX10_edge_36 : decode cX10_edge 36 = .ok (.aload_n 0, 1) := by decide +kernel
theorem dX10_edge_37 : decode cX10_edge 37 = .ok (.getfield 35, 3) := by decide +kernel
theorem dX10_edge_40 : decode cX10_edge 40 = .ok (.iload_n 1, 1) := by decide +kernel
theorem dX10_edge_41 : decode cX10_edge 41 = .ok (.iload_n 2, 1) := by decide +kernel
theorem dX10_edge_42 : decode cX10_edge 42 = .ok (.iload_n 3, 1) := by decide +kernel
theorem dX10_edge_43 : decode cX10_edge 43 = .ok (.invokevirtual 133, 3) := by decide +kernel
theorem dX10_edge_46 : decode cX10_edge 46 = .ok (.ifCond .ne 13, 3) := by decide +kernel
theorem dX10_edge_49 : decode cX10_edge 49 = .ok (.new 98, 3) := by decide +kernel
theorem dX10_edge_52 : decode cX10_edge 52 = .ok (.dup, 1) := by decide +kernel
theorem dX10_edge_53 : decode cX10_edge 53 = .ok (.ldc 136, 2) := by decide +kernel
theorem dX10_edge_55 : decode cX10_edge 55 = .ok (.invokespecial 102, 3) := by decide +kernel
theorem dX10_edge_58 : decode cX10_edge 58 = .ok (.athrow, 1) := by decide +kernel
theorem dX10_edge_59 : decode cX10_edge 59 = .ok (.aload_n 0, 1) := by decide +kernel
theorem dX10_edge_60 : decode cX10_edge 60 = .ok (.dup, 1) := by decide +kernel
theorem dX10_edge_61 : decode cX10_edge 61 = .ok (.getfield 13, 3) := by decide +kernel
theorem dX10_edge_64 : decode cX10_edge 64 = .ok (.iconst 1, 1) := by decide +kernel
theorem dX10_edge_65 : decode cX10_edge 65 = .ok (.iadd, 1) := by decide +kernel
theorem dX10_edge_66 : decode cX10_edge 66 = .ok (.putfield 13, 3) := by decide +kernel
theorem dX10_edge_69 : decode cX10_edge 69 = .ok (.aload_n 0, 1) := by decide +kernel
theorem dX10_edge_70 : decode cX10_edge 70 = .ok (.iload_n 1, 1) := by decide +kernel
theorem dX10_edge_71 : decode cX10_edge 71 = .ok (.iload_n 2, 1) := by decide +kernel
theorem dX10_edge_72 : decode cX10_edge 72 = .ok (.iload_n 3, 1) := by decide +kernel
theorem dX10_edge_73 : decode cX10_edge 73 = .ok (.invokevirtual 138, 3) := by decide +kernel
theorem dX10_edge_76 : decode cX10_edge 76 = .ok (.istore 4, 2) := by decide +kernel
theorem dX10_edge_78 : decode cX10_edge 78 = .ok (.aload_n 0, 1) := by decide +kernel
theorem dX10_edge_79 : decode cX10_edge 79 = .ok (.getfield 53, 3) := by decide +kernel
theorem dX10_edge_82 : decode cX10_edge 82 = .ok (.invokevirtual 141, 3) := by decide +kernel
theorem dX10_edge_85 : decode cX10_edge 85 = .ok (.iload 4, 2) := by decide +kernel
theorem dX10_edge_87 : decode cX10_edge 87 = .ok (.ireturn, 1) := by decide +kernel
theorem dX10_set_0 : decode cX10_set 0 = .ok (.aload_n 0, 1) := by decide +kernel
theorem dX10_set_1 : decode cX10_set 1 = .ok (.iload_n 1, 1) := by decide +kernel
theorem dX10_set_2 : decode cX10_set 2 = .ok (.invokevirtual 127, 3) := by decide +kernel
theorem dX10_set_5 : decode cX10_set 5 = .ok (.aload_n 0, 1) := by decide +kernel
theorem dX10_set_6 : decode cX10_set 6 = .ok (.getfield 35, 3) := by decide +kernel
theorem dX10_set_9 : decode cX10_set 9 = .ok (.aload_n 0, 1) := by decide +kernel
theorem dX10_set_10 : decode cX10_set 10 = .ok (.getfield 19, 3) := by decide +kernel
theorem dX10_set_13 : decode cX10_set 13 = .ok (.getfield 144, 3) := by decide +kernel
theorem dX10_set_16 : decode cX10_set 16 = .ok (.iload_n 1, 1) := by decide +kernel
theorem dX10_set_17 : decode cX10_set 17 = .ok (.iaload, 1) := by decide +kernel
theorem dX10_set_18 : decode cX10_set 18 = .ok (.iload_n 2, 1) := by decide +kernel
theorem dX10_set_19 : decode cX10_set 19 = .ok (.iload_n 1, 1) := by decide +kernel
theorem dX10_set_20 : decode cX10_set 20 = .ok (.invokevirtual 111, 3) := by decide +kernel
theorem dX10_set_23 : decode cX10_set 23 = .ok (.ifCond .eq 13, 3) := by decide +kernel
theorem dX10_set_26 : decode cX10_set 26 = .ok (.new 98, 3) := by decide +kernel
theorem dX10_set_29 : decode cX10_set 29 = .ok (.dup, 1) := by decide +kernel
theorem dX10_set_30 : decode cX10_set 30 = .ok (.ldc 115, 2) := by decide +kernel
theorem dX10_set_32 : decode cX10_set 32 = .ok (.invokespecial 102, 3) := by decide +kernel
theorem dX10_set_35 : decode cX10_set 35 = .ok (.athrow, 1) := by decide +kernel
theorem dX10_set_36 : decode cX10_set 36 = .ok (.aload_n 0, 1) := by decide +kernel
theorem dX10_set_37 : decode cX10_set 37 = .ok (.getfield 19, 3) := by decide +kernel
theorem dX10_set_40 : decode cX10_set 40 = .ok (.getfield 147, 3) := by decide +kernel
theorem dX10_set_43 : decode cX10_set 43 = .ok (.iload_n 1, 1) := by decide +kernel
theorem dX10_set_44 : decode cX10_set 44 = .ok (.iaload, 1) := by decide +kernel
theorem dX10_set_45 : decode cX10_set 45 = .ok (.istore_n 3, 1) := by decide +kernel
theorem dX10_set_46 : decode cX10_set 46 = .ok (.aload_n 0, 1) := by decide +kernel
theorem dX10_set_47 : decode cX10_set 47 = .ok (.dup, 1) := by decide +kernel
theorem dX10_set_48 : decode cX10_set 48 = .ok (.getfield 13, 3) := by decide +kernel
theorem dX10_set_51 : decode cX10_set 51 = .ok (.iconst 1, 1) := by decide +kernel
theorem dX10_set_52 : decode cX10_set 52 = .ok (.iadd, 1) := by decide +kernel
theorem dX10_set_53 : decode cX10_set 53 = .ok (.putfield 13, 3) := by decide +kernel
theorem dX10_set_56 : decode cX10_set 56 = .ok (.aload_n 0, 1) := by decide +kernel
theorem dX10_set_57 : decode cX10_set 57 = .ok (.getfield 19, 3) := by decide +kernel
theorem dX10_set_60 : decode cX10_set 60 = .ok (.iload_n 1, 1) := by decide +kernel
theorem dX10_set_61 : decode cX10_set 61 = .ok (.iload_n 2, 1) := by decide +kernel
theorem dX10_set_62 : decode cX10_set 62 = .ok (.aload_n 0, 1) := by decide +kernel
theorem dX10_set_63 : decode cX10_set 63 = .ok (.getfield 13, 3) := by decide +kernel
theorem dX10_set_66 : decode cX10_set 66 = .ok (.invokevirtual 150, 3) := by decide +kernel
theorem dX10_set_69 : decode cX10_set 69 = .ok (.iload_n 3, 1) := by decide +kernel
theorem dX10_set_70 : decode cX10_set 70 = .ok (.ireturn, 1) := by decide +kernel
theorem dX10_dropEdge_0 : decode cX10_dropEdge 0 = .ok (.aload_n 0, 1) := by decide +kernel
theorem dX10_dropEdge_1 : decode cX10_dropEdge 1 = .ok (.iload_n 1, 1) := by decide +kernel
theorem dX10_dropEdge_2 : decode cX10_dropEdge 2 = .ok (.invokevirtual 154, 3) := by decide +kernel
theorem dX10_dropEdge_5 : decode cX10_dropEdge 5 = .ok (.aload_n 0, 1) := by decide +kernel
theorem dX10_dropEdge_6 : decode cX10_dropEdge 6 = .ok (.dup, 1) := by decide +kernel
theorem dX10_dropEdge_7 : decode cX10_dropEdge 7 = .ok (.getfield 13, 3) := by decide +kernel
theorem dX10_dropEdge_10 : decode cX10_dropEdge 10 = .ok (.iconst 1, 1) := by decide +kernel
theorem dX10_dropEdge_11 : decode cX10_dropEdge 11 = .ok (.iadd, 1) := by decide +kernel
theorem dX10_dropEdge_12 : decode cX10_dropEdge 12 = .ok (.putfield 13, 3) := by decide +kernel
theorem dX10_dropEdge_15 : decode cX10_dropEdge 15 = .ok (.aload_n 0, 1) := by decide +kernel
theorem dX10_dropEdge_16 : decode cX10_dropEdge 16 = .ok (.iload_n 1, 1) := by decide +kernel
theorem dX10_dropEdge_17 : decode cX10_dropEdge 17 = .ok (.invokevirtual 157, 3) := by decide +kernel
theorem dX10_dropEdge_20 : decode cX10_dropEdge 20 = .ok (.aload_n 0, 1) := by decide +kernel
theorem dX10_dropEdge_21 : decode cX10_dropEdge 21 = .ok (.invokevirtual 160, 3) := by decide +kernel
theorem dX10_dropEdge_24 : decode cX10_dropEdge 24 = .ok (.aload_n 0, 1) := by decide +kernel
theorem dX10_dropEdge_25 : decode cX10_dropEdge 25 = .ok (.getfield 13, 3) := by decide +kernel
theorem dX10_dropEdge_28 : decode cX10_dropEdge 28 = .ok (.ireturn, 1) := by decide +kernel
theorem dX10_dropNode_0 : decode cX10_dropNode 0 = .ok (.aload_n 0, 1) := by decide +kernel
theorem dX10_dropNode_1 : decode cX10_dropNode 1 = .ok (.iload_n 1, 1) := by decide +kernel
theorem dX10_dropNode_2 : decode cX10_dropNode 2 = .ok (.invokevirtual 127, 3) := by decide +kernel
theorem dX10_dropNode_5 : decode cX10_dropNode 5 = .ok (.aload_n 0, 1) := by decide +kernel
theorem dX10_dropNode_6 : decode cX10_dropNode 6 = .ok (.dup, 1) := by decide +kernel
theorem dX10_dropNode_7 : decode cX10_dropNode 7 = .ok (.getfield 13, 3) := by decide +kernel
theorem dX10_dropNode_10 : decode cX10_dropNode 10 = .ok (.iconst 1, 1) := by decide +kernel
theorem dX10_dropNode_11 : decode cX10_dropNode 11 = .ok (.iadd, 1) := by decide +kernel
theorem dX10_dropNode_12 : decode cX10_dropNode 12 = .ok (.putfield 13, 3) := by decide +kernel
theorem dX10_dropNode_15 : decode cX10_dropNode 15 = .ok (.iconst 0, 1) := by decide +kernel
theorem dX10_dropNode_16 : decode cX10_dropNode 16 = .ok (.istore_n 2, 1) := by decide +kernel
theorem dX10_dropNode_17 : decode cX10_dropNode 17 = .ok (.iconst 0, 1) := by decide +kernel
theorem dX10_dropNode_18 : decode cX10_dropNode 18 = .ok (.istore_n 3, 1) := by decide +kernel
theorem dX10_dropNode_19 : decode cX10_dropNode 19 = .ok (.iload_n 3, 1) := by decide +kernel
theorem dX10_dropNode_20 : decode cX10_dropNode 20 = .ok (.aload_n 0, 1) := by decide +kernel
theorem dX10_dropNode_21 : decode cX10_dropNode 21 = .ok (.getfield 26, 3) := by decide +kernel
theorem dX10_dropNode_24 : decode cX10_dropNode 24 = .ok (.getfield 130, 3) := by decide +kernel
theorem dX10_dropNode_27 : decode cX10_dropNode 27 = .ok (.if_icmp .ge 54, 3) := by decide +kernel
theorem dX10_dropNode_30 : decode cX10_dropNode 30 = .ok (.aload_n 0, 1) := by decide +kernel
theorem dX10_dropNode_31 : decode cX10_dropNode 31 = .ok (.getfield 26, 3) := by decide +kernel
theorem dX10_dropNode_34 : decode cX10_dropNode 34 = .ok (.iload_n 3, 1) := by decide +kernel
theorem dX10_dropNode_35 : decode cX10_dropNode 35 = .ok (.invokevirtual 163, 3) := by decide +kernel
theorem dX10_dropNode_38 : decode cX10_dropNode 38 = .ok (.ifCond .eq 37, 3) := by decide +kernel
theorem dX10_dropNode_41 : decode cX10_dropNode 41 = .ok (.aload_n 0, 1) := by decide +kernel
theorem dX10_dropNode_42 : decode cX10_dropNode 42 = .ok (.getfield 26, 3) := by decide +kernel
theorem dX10_dropNode_45 : decode cX10_dropNode 45 = .ok (.getfield 167, 3) := by decide +kernel
theorem dX10_dropNode_48 : decode cX10_dropNode 48 = .ok (.iload_n 3, 1) := by decide +kernel
theorem dX10_dropNode_49 : decode cX10_dropNode 49 = .ok (.iaload, 1) := by decide +kernel
theorem dX10_dropNode_50 : decode cX10_dropNode 50 = .ok (.iload_n 1, 1) := by decide +kernel
theorem dX10_dropNode_51 : decode cX10_dropNode 51 = .ok (.if_icmp .eq 16, 3) := by decide +kernel
theorem dX10_dropNode_54 : decode cX10_dropNode 54 = .ok (.aload_n 0, 1) := by decide +kernel
theorem dX10_dropNode_55 : decode cX10_dropNode 55 = .ok (.getfield 26, 3) := by decide +kernel
theorem dX10_dropNode_58 : decode cX10_dropNode 58 = .ok (.getfield 170, 3) := by decide +kernel
theorem dX10_dropNode_61 : decode cX10_dropNode 61 = .ok (.iload_n 3, 1) := by decide +kernel
theorem dX10_dropNode_62 : decode cX10_dropNode 62 = .ok (.iaload, 1) := by decide +kernel
theorem dX10_dropNode_63 : decode cX10_dropNode 63 = .ok (.iload_n 1, 1) := by decide +kernel
theorem dX10_dropNode_64 : decode cX10_dropNode 64 = .ok (.if_icmp .ne 11, 3) := by decide +kernel
theorem dX10_dropNode_67 : decode cX10_dropNode 67 = .ok (.aload_n 0, 1) := by decide +kernel
theorem dX10_dropNode_68 : decode cX10_dropNode 68 = .ok (.iload_n 3, 1) := by decide +kernel
theorem dX10_dropNode_69 : decode cX10_dropNode 69 = .ok (.invokevirtual 157, 3) := by decide +kernel
theorem dX10_dropNode_72 : decode cX10_dropNode 72 = .ok (.iinc 2 1, 3) := by decide +kernel
theorem dX10_dropNode_75 : decode cX10_dropNode 75 = .ok (.iinc 3 1, 3) := by decide +kernel
theorem dX10_dropNode_78 : decode cX10_dropNode 78 = .ok (.goto (-59), 3) := by decide +kernel
theorem dX10_dropNode_81 : decode cX10_dropNode 81 = .ok (.aload_n 0, 1) := by decide +kernel
theorem dX10_dropNode_82 : decode cX10_dropNode 82 = .ok (.getfield 19, 3) := by decide +kernel
theorem dX10_dropNode_85 : decode cX10_dropNode 85 = .ok (.iload_n 1, 1) := by decide +kernel
theorem dX10_dropNode_86 : decode cX10_dropNode 86 = .ok (.aload_n 0, 1) := by decide +kernel
theorem dX10_dropNode_87 : decode cX10_dropNode 87 = .ok (.getfield 13, 3) := by decide +kernel
theorem dX10_dropNode_90 : decode cX10_dropNode 90 = .ok (.invokevirtual 173, 3) := by decide +kernel
theorem dX10_dropNode_93 : decode cX10_dropNode 93 = .ok (.aload_n 0, 1) := by decide +kernel
theorem dX10_dropNode_94 : decode cX10_dropNode 94 = .ok (.invokevirtual 160, 3) := by decide +kernel
theorem dX10_dropNode_97 : decode cX10_dropNode 97 = .ok (.iload_n 2, 1) := by decide +kernel
theorem dX10_dropNode_98 : decode cX10_dropNode 98 = .ok (.ireturn, 1) := by decide +kernel
theorem dX10_key_0 : decode cX10_key 0 = .ok (.iload_n 1, 1) := by decide +kernel
theorem dX10_key_1 : decode cX10_key 1 = .ok (.invokestatic 91, 3) := by decide +kernel
theorem dX10_key_4 : decode cX10_key 4 = .ok (.aload_n 0, 1) := by decide +kernel
theorem dX10_key_5 : decode cX10_key 5 = .ok (.getfield 35, 3) := by decide +kernel
theorem dX10_key_8 : decode cX10_key 8 = .ok (.getfield 177, 3) := by decide +kernel
theorem dX10_key_11 : decode cX10_key 11 = .ok (.iload_n 1, 1) := by decide +kernel
theorem dX10_key_12 : decode cX10_key 12 = .ok (.baload, 1) := by decide +kernel
theorem dX10_key_13 : decode cX10_key 13 = .ok (.ifCond .ne 31, 3) := by decide +kernel
theorem dX10_key_16 : decode cX10_key 16 = .ok (.aload_n 0, 1) := by decide +kernel
theorem dX10_key_17 : decode cX10_key 17 = .ok (.getfield 35, 3) := by decide +kernel
theorem dX10_key_20 : decode cX10_key 20 = .ok (.iload_n 1, 1) := by decide +kernel
theorem dX10_key_21 : decode cX10_key 21 = .ok (.aload_n 0, 1) := by decide +kernel
theorem dX10_key_22 : decode cX10_key 22 = .ok (.getfield 19, 3) := by decide +kernel
theorem dX10_key_25 : decode cX10_key 25 = .ok (.getfield 147, 3) := by decide +kernel
theorem dX10_key_28 : decode cX10_key 28 = .ok (.invokevirtual 181, 3) := by decide +kernel
theorem dX10_key_31 : decode cX10_key 31 = .ok (.ifCond .eq 13, 3) := by decide +kernel
theorem dX10_key_34 : decode cX10_key 34 = .ok (.new 98, 3) := by decide +kernel
theorem dX10_key_37 : decode cX10_key 37 = .ok (.dup, 1) := by decide +kernel
theorem dX10_key_38 : decode cX10_key 38 = .ok (.ldc 185, 2) := by decide +kernel
theorem dX10_key_40 : decode cX10_key 40 = .ok (.invokespecial 102, 3) := by decide +kernel
theorem dX10_key_43 : decode cX10_key 43 = .ok (.athrow, 1) := by decide +kernel
theorem dX10_key_44 : decode cX10_key 44 = .ok (.aload_n 0, 1) := by decide +kernel
theorem dX10_key_45 : decode cX10_key 45 = .ok (.getfield 35, 3) := by decide +kernel
theorem dX10_key_48 : decode cX10_key 48 = .ok (.getfield 177, 3) := by decide +kernel
theorem dX10_key_51 : decode cX10_key 51 = .ok (.iload_n 1, 1) := by decide +kernel
theorem dX10_key_52 : decode cX10_key 52 = .ok (.aload_n 0, 1) := by decide +kernel
theorem dX10_key_53 : decode cX10_key 53 = .ok (.getfield 35, 3) := by decide +kernel
theorem dX10_key_56 : decode cX10_key 56 = .ok (.getfield 177, 3) := by decide +kernel
theorem dX10_key_59 : decode cX10_key 59 = .ok (.iload_n 1, 1) := by decide +kernel
theorem dX10_key_60 : decode cX10_key 60 = .ok (.baload, 1) := by decide +kernel
theorem dX10_key_61 : decode cX10_key 61 = .ok (.ifCond .ne 7, 3) := by decide +kernel
theorem dX10_key_64 : decode cX10_key 64 = .ok (.iconst 1, 1) := by decide +kernel
theorem dX10_key_65 : decode cX10_key 65 = .ok (.goto 4, 3) := by decide +kernel
theorem dX10_key_68 : decode cX10_key 68 = .ok (.iconst 0, 1) := by decide +kernel
theorem dX10_key_69 : decode cX10_key 69 = .ok (.bastore, 1) := by decide +kernel
theorem dX10_key_70 : decode cX10_key 70 = .ok (.aload_n 0, 1) := by decide +kernel
theorem dX10_key_71 : decode cX10_key 71 = .ok (.getfield 35, 3) := by decide +kernel
theorem dX10_key_74 : decode cX10_key 74 = .ok (.getfield 177, 3) := by decide +kernel
theorem dX10_key_77 : decode cX10_key 77 = .ok (.iload_n 1, 1) := by decide +kernel
theorem dX10_key_78 : decode cX10_key 78 = .ok (.baload, 1) := by decide +kernel
theorem dX10_key_79 : decode cX10_key 79 = .ok (.ireturn, 1) := by decide +kernel
theorem dX10_shape_0 : decode cX10_shape 0 = .ok (.iload_n 1, 1) := by decide +kernel
theorem dX10_shape_1 : decode cX10_shape 1 = .ok (.invokestatic 91, 3) := by decide +kernel
theorem dX10_shape_4 : decode cX10_shape 4 = .ok (.iload_n 2, 1) := by decide +kernel
theorem dX10_shape_5 : decode cX10_shape 5 = .ok (.iconst (-1), 1) := by decide +kernel
theorem dX10_shape_6 : decode cX10_shape 6 = .ok (.if_icmp .ne 14, 3) := by decide +kernel
theorem dX10_shape_9 : decode cX10_shape 9 = .ok (.aload_n 0, 1) := by decide +kernel
theorem dX10_shape_10 : decode cX10_shape 10 = .ok (.getfield 35, 3) := by decide +kernel
theorem dX10_shape_13 : decode cX10_shape 13 = .ok (.getfield 187, 3) := by decide +kernel
theorem dX10_shape_16 : decode cX10_shape 16 = .ok (.iload_n 1, 1) := by decide +kernel
theorem dX10_shape_17 : decode cX10_shape 17 = .ok (.iconst (-1), 1) := by decide +kernel
theorem dX10_shape_18 : decode cX10_shape 18 = .ok (.iastore, 1) := by decide +kernel
theorem dX10_shape_19 : decode cX10_shape 19 = .ok (.return_, 1) := by decide +kernel
theorem dX10_shape_20 : decode cX10_shape 20 = .ok (.iload_n 2, 1) := by decide +kernel
theorem dX10_shape_21 : decode cX10_shape 21 = .ok (.invokestatic 91, 3) := by decide +kernel
theorem dX10_shape_24 : decode cX10_shape 24 = .ok (.iload_n 3, 1) := by decide +kernel
theorem dX10_shape_25 : decode cX10_shape 25 = .ok (.invokestatic 91, 3) := by decide +kernel
theorem dX10_shape_28 : decode cX10_shape 28 = .ok (.aload_n 0, 1) := by decide +kernel
theorem dX10_shape_29 : decode cX10_shape 29 = .ok (.iload_n 1, 1) := by decide +kernel
theorem dX10_shape_30 : decode cX10_shape 30 = .ok (.iload_n 2, 1) := by decide +kernel
theorem dX10_shape_31 : decode cX10_shape 31 = .ok (.iload_n 3, 1) := by decide +kernel
theorem dX10_shape_32 : decode cX10_shape 32 = .ok (.invokevirtual 190, 3) := by decide +kernel
theorem dX10_shape_35 : decode cX10_shape 35 = .ok (.ifCond .ne 13, 3) := by decide +kernel
theorem dX10_shape_38 : decode cX10_shape 38 = .ok (.new 98, 3) := by decide +kernel
theorem dX10_shape_41 : decode cX10_shape 41 = .ok (.dup, 1) := by decide +kernel
theorem dX10_shape_42 : decode cX10_shape 42 = .ok (.ldc 193, 2) := by decide +kernel
theorem dX10_shape_44 : decode cX10_shape 44 = .ok (.invokespecial 102, 3) := by decide +kernel
theorem dX10_shape_47 : decode cX10_shape 47 = .ok (.athrow, 1) := by decide +kernel
theorem dX10_shape_48 : decode cX10_shape 48 = .ok (.aload_n 0, 1) := by decide +kernel
theorem dX10_shape_49 : decode cX10_shape 49 = .ok (.getfield 35, 3) := by decide +kernel
theorem dX10_shape_52 : decode cX10_shape 52 = .ok (.getfield 187, 3) := by decide +kernel
theorem dX10_shape_55 : decode cX10_shape 55 = .ok (.iload_n 1, 1) := by decide +kernel
theorem dX10_shape_56 : decode cX10_shape 56 = .ok (.iload_n 2, 1) := by decide +kernel
theorem dX10_shape_57 : decode cX10_shape 57 = .ok (.iastore, 1) := by decide +kernel
theorem dX10_shape_58 : decode cX10_shape 58 = .ok (.aload_n 0, 1) := by decide +kernel
theorem dX10_shape_59 : decode cX10_shape 59 = .ok (.getfield 35, 3) := by decide +kernel
theorem dX10_shape_62 : decode cX10_shape 62 = .ok (.getfield 195, 3) := by decide +kernel
theorem dX10_shape_65 : decode cX10_shape 65 = .ok (.iload_n 1, 1) := by decide +kernel
theorem dX10_shape_66 : decode cX10_shape 66 = .ok (.iload_n 3, 1) := by decide +kernel
theorem dX10_shape_67 : decode cX10_shape 67 = .ok (.iastore, 1) := by decide +kernel
theorem dX10_shape_68 : decode cX10_shape 68 = .ok (.return_, 1) := by decide +kernel
theorem dX10_move_0 : decode cX10_move 0 = .ok (.aload_n 0, 1) := by decide +kernel
theorem dX10_move_1 : decode cX10_move 1 = .ok (.iload_n 1, 1) := by decide +kernel
theorem dX10_move_2 : decode cX10_move 2 = .ok (.invokevirtual 127, 3) := by decide +kernel
theorem dX10_move_5 : decode cX10_move 5 = .ok (.iload_n 2, 1) := by decide +kernel
theorem dX10_move_6 : decode cX10_move 6 = .ok (.invokestatic 198, 3) := by decide +kernel
theorem dX10_move_9 : decode cX10_move 9 = .ok (.aload_n 0, 1) := by decide +kernel
theorem dX10_move_10 : decode cX10_move 10 = .ok (.getfield 44, 3) := by decide +kernel
theorem dX10_move_13 : decode cX10_move 13 = .ok (.getfield 121, 3) := by decide +kernel
theorem dX10_move_16 : decode cX10_move 16 = .ok (.iload_n 1, 1) := by decide +kernel
theorem dX10_move_17 : decode cX10_move 17 = .ok (.iaload, 1) := by decide +kernel
theorem dX10_move_18 : decode cX10_move 18 = .ok (.istore_n 3, 1) := by decide +kernel
theorem dX10_move_19 : decode cX10_move 19 = .ok (.aload_n 0, 1) := by decide +kernel
theorem dX10_move_20 : decode cX10_move 20 = .ok (.getfield 44, 3) := by decide +kernel
theorem dX10_move_23 : decode cX10_move 23 = .ok (.getfield 201, 3) := by decide +kernel
theorem dX10_move_26 : decode cX10_move 26 = .ok (.iload_n 3, 1) := by decide +kernel
theorem dX10_move_27 : decode cX10_move 27 = .ok (.baload, 1) := by decide +kernel
theorem dX10_move_28 : decode cX10_move 28 = .ok (.ifCond .eq 15, 3) := by decide +kernel
theorem dX10_move_31 : decode cX10_move 31 = .ok (.aload_n 0, 1) := by decide +kernel
theorem dX10_move_32 : decode cX10_move 32 = .ok (.getfield 44, 3) := by decide +kernel
theorem dX10_move_35 : decode cX10_move 35 = .ok (.getfield 201, 3) := by decide +kernel
theorem dX10_move_38 : decode cX10_move 38 = .ok (.iload_n 2, 1) := by decide +kernel
theorem dX10_move_39 : decode cX10_move 39 = .ok (.baload, 1) := by decide +kernel
theorem dX10_move_40 : decode cX10_move 40 = .ok (.ifCond .ne 13, 3) := by decide +kernel
theorem dX10_move_43 : decode cX10_move 43 = .ok (.new 98, 3) := by decide +kernel
theorem dX10_move_46 : decode cX10_move 46 = .ok (.dup, 1) := by decide +kernel
theorem dX10_move_47 : decode cX10_move 47 = .ok (.ldc 204, 2) := by decide +kernel
theorem dX10_move_49 : decode cX10_move 49 = .ok (.invokespecial 102, 3) := by decide +kernel
theorem dX10_move_52 : decode cX10_move 52 = .ok (.athrow, 1) := by decide +kernel
theorem dX10_move_53 : decode cX10_move 53 = .ok (.aload_n 0, 1) := by decide +kernel
theorem dX10_move_54 : decode cX10_move 54 = .ok (.getfield 44, 3) := by decide +kernel
theorem dX10_move_57 : decode cX10_move 57 = .ok (.getfield 121, 3) := by decide +kernel
theorem dX10_move_60 : decode cX10_move 60 = .ok (.iload_n 1, 1) := by decide +kernel
theorem dX10_move_61 : decode cX10_move 61 = .ok (.iload_n 2, 1) := by decide +kernel
theorem dX10_move_62 : decode cX10_move 62 = .ok (.iastore, 1) := by decide +kernel
theorem dX10_move_63 : decode cX10_move 63 = .ok (.iload_n 3, 1) := by decide +kernel
theorem dX10_move_64 : decode cX10_move 64 = .ok (.ireturn, 1) := by decide +kernel
theorem dX10_shift_0 : decode cX10_shift 0 = .ok (.aload_n 0, 1) := by decide +kernel
theorem dX10_shift_1 : decode cX10_shift 1 = .ok (.getfield 44, 3) := by decide +kernel
theorem dX10_shift_4 : decode cX10_shift 4 = .ok (.invokevirtual 206, 3) := by decide +kernel
theorem dX10_shift_7 : decode cX10_shift 7 = .ok (.ireturn, 1) := by decide +kernel
theorem dX10_toggle_0 : decode cX10_toggle 0 = .ok (.iload_n 1, 1) := by decide +kernel
theorem dX10_toggle_1 : decode cX10_toggle 1 = .ok (.invokestatic 198, 3) := by decide +kernel
theorem dX10_toggle_4 : decode cX10_toggle 4 = .ok (.aload_n 0, 1) := by decide +kernel
theorem dX10_toggle_5 : decode cX10_toggle 5 = .ok (.getfield 44, 3) := by decide +kernel
theorem dX10_toggle_8 : decode cX10_toggle 8 = .ok (.getfield 201, 3) := by decide +kernel
theorem dX10_toggle_11 : decode cX10_toggle 11 = .ok (.iload_n 1, 1) := by decide +kernel
theorem dX10_toggle_12 : decode cX10_toggle 12 = .ok (.aload_n 0, 1) := by decide +kernel
theorem dX10_toggle_13 : decode cX10_toggle 13 = .ok (.getfield 44, 3) := by decide +kernel
theorem dX10_toggle_16 : decode cX10_toggle 16 = .ok (.getfield 201, 3) := by decide +kernel
theorem dX10_toggle_19 : decode cX10_toggle 19 = .ok (.iload_n 1, 1) := by decide +kernel
theorem dX10_toggle_20 : decode cX10_toggle 20 = .ok (.baload, 1) := by decide +kernel
theorem dX10_toggle_21 : decode cX10_toggle 21 = .ok (.ifCond .ne 7, 3) := by decide +kernel
theorem dX10_toggle_24 : decode cX10_toggle 24 = .ok (.iconst 1, 1) := by decide +kernel
theorem dX10_toggle_25 : decode cX10_toggle 25 = .ok (.goto 4, 3) := by decide +kernel
theorem dX10_toggle_28 : decode cX10_toggle 28 = .ok (.iconst 0, 1) := by decide +kernel
theorem dX10_toggle_29 : decode cX10_toggle 29 = .ok (.bastore, 1) := by decide +kernel
theorem dX10_toggle_30 : decode cX10_toggle 30 = .ok (.aload_n 0, 1) := by decide +kernel
theorem dX10_toggle_31 : decode cX10_toggle 31 = .ok (.getfield 44, 3) := by decide +kernel
theorem dX10_toggle_34 : decode cX10_toggle 34 = .ok (.getfield 201, 3) := by decide +kernel
theorem dX10_toggle_37 : decode cX10_toggle 37 = .ok (.iload_n 1, 1) := by decide +kernel
theorem dX10_toggle_38 : decode cX10_toggle 38 = .ok (.baload, 1) := by decide +kernel
theorem dX10_toggle_39 : decode cX10_toggle 39 = .ok (.ireturn, 1) := by decide +kernel
theorem dX10_machine_0 : decode cX10_machine 0 = .ok (.aload_n 0, 1) := by decide +kernel
theorem dX10_machine_1 : decode cX10_machine 1 = .ok (.iload_n 1, 1) := by decide +kernel
theorem dX10_machine_2 : decode cX10_machine 2 = .ok (.invokevirtual 127, 3) := by decide +kernel
theorem dX10_machine_5 : decode cX10_machine 5 = .ok (.aload_n 0, 1) := by decide +kernel
theorem dX10_machine_6 : decode cX10_machine 6 = .ok (.getfield 44, 3) := by decide +kernel
theorem dX10_machine_9 : decode cX10_machine 9 = .ok (.getfield 121, 3) := by decide +kernel
theorem dX10_machine_12 : decode cX10_machine 12 = .ok (.iload_n 1, 1) := by decide +kernel
theorem dX10_machine_13 : decode cX10_machine 13 = .ok (.iaload, 1) := by decide +kernel
theorem dX10_machine_14 : decode cX10_machine 14 = .ok (.ireturn, 1) := by decide +kernel
theorem dX10_cut_0 : decode cX10_cut 0 = .ok (.iconst 0, 1) := by decide +kernel
theorem dX10_cut_1 : decode cX10_cut 1 = .ok (.istore_n 1, 1) := by decide +kernel
theorem dX10_cut_2 : decode cX10_cut 2 = .ok (.iconst 0, 1) := by decide +kernel
theorem dX10_cut_3 : decode cX10_cut 3 = .ok (.istore_n 2, 1) := by decide +kernel
theorem dX10_cut_4 : decode cX10_cut 4 = .ok (.iload_n 2, 1) := by decide +kernel
theorem dX10_cut_5 : decode cX10_cut 5 = .ok (.aload_n 0, 1) := by decide +kernel
theorem dX10_cut_6 : decode cX10_cut 6 = .ok (.getfield 26, 3) := by decide +kernel
theorem dX10_cut_9 : decode cX10_cut 9 = .ok (.getfield 130, 3) := by decide +kernel
theorem dX10_cut_12 : decode cX10_cut 12 = .ok (.if_icmp .ge 34, 3) := by decide +kernel
theorem dX10_cut_15 : decode cX10_cut 15 = .ok (.aload_n 0, 1) := by decide +kernel
theorem dX10_cut_16 : decode cX10_cut 16 = .ok (.getfield 26, 3) := by decide +kernel
theorem dX10_cut_19 : decode cX10_cut 19 = .ok (.iload_n 2, 1) := by decide +kernel
theorem dX10_cut_20 : decode cX10_cut 20 = .ok (.invokevirtual 163, 3) := by decide +kernel
theorem dX10_cut_23 : decode cX10_cut 23 = .ok (.ifCond .eq 17, 3) := by decide +kernel
theorem dX10_cut_26 : decode cX10_cut 26 = .ok (.aload_n 0, 1) := by decide +kernel
theorem dX10_cut_27 : decode cX10_cut 27 = .ok (.getfield 44, 3) := by decide +kernel
theorem dX10_cut_30 : decode cX10_cut 30 = .ok (.iload_n 2, 1) := by decide +kernel
theorem dX10_cut_31 : decode cX10_cut 31 = .ok (.invokevirtual 209, 3) := by decide +kernel
theorem dX10_cut_34 : decode cX10_cut 34 = .ok (.ifCond .eq 6, 3) := by decide +kernel
theorem dX10_cut_37 : decode cX10_cut 37 = .ok (.iinc 1 1, 3) := by decide +kernel
theorem dX10_cut_40 : decode cX10_cut 40 = .ok (.iinc 2 1, 3) := by decide +kernel
theorem dX10_cut_43 : decode cX10_cut 43 = .ok (.goto (-39), 3) := by decide +kernel
theorem dX10_cut_46 : decode cX10_cut 46 = .ok (.iload_n 1, 1) := by decide +kernel
theorem dX10_cut_47 : decode cX10_cut 47 = .ok (.ireturn, 1) := by decide +kernel
theorem dX10_copies_0 : decode cX10_copies 0 = .ok (.iload_n 1, 1) := by decide +kernel
theorem dX10_copies_1 : decode cX10_copies 1 = .ok (.invokestatic 198, 3) := by decide +kernel
theorem dX10_copies_4 : decode cX10_copies 4 = .ok (.aload_n 0, 1) := by decide +kernel
theorem dX10_copies_5 : decode cX10_copies 5 = .ok (.getfield 44, 3) := by decide +kernel
theorem dX10_copies_8 : decode cX10_copies 8 = .ok (.iload_n 1, 1) := by decide +kernel
theorem dX10_copies_9 : decode cX10_copies 9 = .ok (.invokevirtual 212, 3) := by decide +kernel
theorem dX10_copies_12 : decode cX10_copies 12 = .ok (.invokestatic 216, 3) := by decide +kernel
theorem dX10_copies_15 : decode cX10_copies 15 = .ok (.ireturn, 1) := by decide +kernel
theorem dX10_begin_0 : decode cX10_begin 0 = .ok (.iconst 0, 1) := by decide +kernel
theorem dX10_begin_1 : decode cX10_begin 1 = .ok (.istore_n 1, 1) := by decide +kernel
theorem dX10_begin_2 : decode cX10_begin 2 = .ok (.iload_n 1, 1) := by decide +kernel
theorem dX10_begin_3 : decode cX10_begin 3 = .ok (.iconst 4, 1) := by decide +kernel
theorem dX10_begin_4 : decode cX10_begin 4 = .ok (.if_icmp .ge 36, 3) := by decide +kernel
theorem dX10_begin_7 : decode cX10_begin 7 = .ok (.aload_n 0, 1) := by decide +kernel
theorem dX10_begin_8 : decode cX10_begin 8 = .ok (.getfield 75, 3) := by decide +kernel
theorem dX10_begin_11 : decode cX10_begin 11 = .ok (.iload_n 1, 1) := by decide +kernel
theorem dX10_begin_12 : decode cX10_begin 12 = .ok (.aaload, 1) := by decide +kernel
theorem dX10_begin_13 : decode cX10_begin 13 = .ok (.getfield 221, 3) := by decide +kernel
theorem dX10_begin_16 : decode cX10_begin 16 = .ok (.ifCond .ne 18, 3) := by decide +kernel
theorem dX10_begin_19 : decode cX10_begin 19 = .ok (.aload_n 0, 1) := by decide +kernel
theorem dX10_begin_20 : decode cX10_begin 20 = .ok (.getfield 75, 3) := by decide +kernel
theorem dX10_begin_23 : decode cX10_begin 23 = .ok (.iload_n 1, 1) := by decide +kernel
theorem dX10_begin_24 : decode cX10_begin 24 = .ok (.aaload, 1) := by decide +kernel
theorem dX10_begin_25 : decode cX10_begin 25 = .ok (.aload_n 0, 1) := by decide +kernel
theorem dX10_begin_26 : decode cX10_begin 26 = .ok (.getfield 13, 3) := by decide +kernel
theorem dX10_begin_29 : decode cX10_begin 29 = .ok (.invokevirtual 225, 3) := by decide +kernel
theorem dX10_begin_32 : decode cX10_begin 32 = .ok (.iload_n 1, 1) := by decide +kernel
theorem dX10_begin_33 : decode cX10_begin 33 = .ok (.ireturn, 1) := by decide +kernel
theorem dX10_begin_34 : decode cX10_begin 34 = .ok (.iinc 1 1, 3) := by decide +kernel
theorem dX10_begin_37 : decode cX10_begin 37 = .ok (.goto (-35), 3) := by decide +kernel
theorem dX10_begin_40 : decode cX10_begin 40 = .ok (.new 98, 3) := by decide +kernel
theorem dX10_begin_43 : decode cX10_begin 43 = .ok (.dup, 1) := by decide +kernel
theorem dX10_begin_44 : decode cX10_begin 44 = .ok (.ldc 228, 2) := by decide +kernel
theorem dX10_begin_46 : decode cX10_begin 46 = .ok (.invokespecial 102, 3) := by decide +kernel
theorem dX10_begin_49 : decode cX10_begin 49 = .ok (.athrow, 1) := by decide +kernel
theorem dX10_write_0 : decode cX10_write 0 = .ok (.aload_n 0, 1) := by decide +kernel
theorem dX10_write_1 : decode cX10_write 1 = .ok (.iload_n 1, 1) := by decide +kernel
theorem dX10_write_2 : decode cX10_write 2 = .ok (.iload_n 2, 1) := by decide +kernel
theorem dX10_write_3 : decode cX10_write 3 = .ok (.invokevirtual 230, 3) := by decide +kernel
theorem dX10_write_6 : decode cX10_write 6 = .ok (.aload_n 0, 1) := by decide +kernel
theorem dX10_write_7 : decode cX10_write 7 = .ok (.getfield 75, 3) := by decide +kernel
theorem dX10_write_10 : decode cX10_write 10 = .ok (.iload_n 1, 1) := by decide +kernel
theorem dX10_write_11 : decode cX10_write 11 = .ok (.aaload, 1) := by decide +kernel
theorem dX10_write_12 : decode cX10_write 12 = .ok (.iload_n 2, 1) := by decide +kernel
theorem dX10_write_13 : decode cX10_write 13 = .ok (.iload_n 3, 1) := by decide +kernel
theorem dX10_write_14 : decode cX10_write 14 = .ok (.invokevirtual 233, 3) := by decide +kernel
theorem dX10_write_17 : decode cX10_write 17 = .ok (.return_, 1) := by decide +kernel
theorem dX10_link_0 : decode cX10_link 0 = .ok (.aload_n 0, 1) := by decide +kernel
theorem dX10_link_1 : decode cX10_link 1 = .ok (.iload_n 1, 1) := by decide +kernel
theorem dX10_link_2 : decode cX10_link 2 = .ok (.iload_n 2, 1) := by decide +kernel
theorem dX10_link_3 : decode cX10_link 3 = .ok (.invokevirtual 230, 3) := by decide +kernel
theorem dX10_link_6 : decode cX10_link 6 = .ok (.aload_n 0, 1) := by decide +kernel
theorem dX10_link_7 : decode cX10_link 7 = .ok (.iload_n 1, 1) := by decide +kernel
theorem dX10_link_8 : decode cX10_link 8 = .ok (.iload 4, 2) := by decide +kernel
theorem dX10_link_10 : decode cX10_link 10 = .ok (.invokevirtual 230, 3) := by decide +kernel
theorem dX10_link_13 : decode cX10_link 13 = .ok (.iload_n 3, 1) := by decide +kernel
theorem dX10_link_14 : decode cX10_link 14 = .ok (.invokestatic 91, 3) := by decide +kernel
theorem dX10_link_17 : decode cX10_link 17 = .ok (.aload_n 0, 1) := by decide +kernel
theorem dX10_link_18 : decode cX10_link 18 = .ok (.getfield 75, 3) := by decide +kernel
theorem dX10_link_21 : decode cX10_link 21 = .ok (.iload_n 1, 1) := by decide +kernel
theorem dX10_link_22 : decode cX10_link 22 = .ok (.aaload, 1) := by decide +kernel
theorem dX10_link_23 : decode cX10_link 23 = .ok (.astore 5, 2) := by decide +kernel
theorem dX10_link_25 : decode cX10_link 25 = .ok (.aload 5, 2) := by decide +kernel
theorem dX10_link_27 : decode cX10_link 27 = .ok (.getfield 236, 3) := by decide +kernel
theorem dX10_link_30 : decode cX10_link 30 = .ok (.bipush 8, 2) := by decide +kernel
theorem dX10_link_32 : decode cX10_link 32 = .ok (.if_icmp .lt 13, 3) := by decide +kernel
theorem dX10_link_35 : decode cX10_link 35 = .ok (.new 98, 3) := by decide +kernel
theorem dX10_link_38 : decode cX10_link 38 = .ok (.dup, 1) := by decide +kernel
theorem dX10_link_39 : decode cX10_link 39 = .ok (.ldc 239, 2) := by decide +kernel
theorem dX10_link_41 : decode cX10_link 41 = .ok (.invokespecial 102, 3) := by decide +kernel
theorem dX10_link_44 : decode cX10_link 44 = .ok (.athrow, 1) := by decide +kernel
theorem dX10_link_45 : decode cX10_link 45 = .ok (.aload 5, 2) := by decide +kernel
theorem dX10_link_47 : decode cX10_link 47 = .ok (.iload_n 2, 1) := by decide +kernel
theorem dX10_link_48 : decode cX10_link 48 = .ok (.iload_n 3, 1) := by decide +kernel
theorem dX10_link_49 : decode cX10_link 49 = .ok (.iload 4, 2) := by decide +kernel
theorem dX10_link_51 : decode cX10_link 51 = .ok (.invokevirtual 241, 3) := by decide +kernel
theorem dX10_link_54 : decode cX10_link 54 = .ok (.aload 5, 2) := by decide +kernel
theorem dX10_link_56 : decode cX10_link 56 = .ok (.getfield 236, 3) := by decide +kernel
theorem dX10_link_59 : decode cX10_link 59 = .ok (.ireturn, 1) := by decide +kernel
theorem dX10_unlink_0 : decode cX10_unlink 0 = .ok (.aload_n 0, 1) := by decide +kernel
theorem dX10_unlink_1 : decode cX10_unlink 1 = .ok (.iload_n 1, 1) := by decide +kernel
theorem dX10_unlink_2 : decode cX10_unlink 2 = .ok (.invokevirtual 244, 3) := by decide +kernel
theorem dX10_unlink_5 : decode cX10_unlink 5 = .ok (.aload_n 0, 1) := by decide +kernel
theorem dX10_unlink_6 : decode cX10_unlink 6 = .ok (.getfield 75, 3) := by decide +kernel
theorem dX10_unlink_9 : decode cX10_unlink 9 = .ok (.iload_n 1, 1) := by decide +kernel
theorem dX10_unlink_10 : decode cX10_unlink 10 = .ok (.aaload, 1) := by decide +kernel
theorem dX10_unlink_11 : decode cX10_unlink 11 = .ok (.astore_n 3, 1) := by decide +kernel
theorem dX10_unlink_12 : decode cX10_unlink 12 = .ok (.aload_n 0, 1) := by decide +kernel
theorem dX10_unlink_13 : decode cX10_unlink 13 = .ok (.getfield 26, 3) := by decide +kernel
theorem dX10_unlink_16 : decode cX10_unlink 16 = .ok (.iload_n 2, 1) := by decide +kernel
theorem dX10_unlink_17 : decode cX10_unlink 17 = .ok (.aload_n 3, 1) := by decide +kernel
theorem dX10_unlink_18 : decode cX10_unlink 18 = .ok (.getfield 247, 3) := by decide +kernel
theorem dX10_unlink_21 : decode cX10_unlink 21 = .ok (.invokevirtual 250, 3) := by decide +kernel
theorem dX10_unlink_24 : decode cX10_unlink 24 = .ok (.ifCond .eq 11, 3) := by decide +kernel
theorem dX10_unlink_27 : decode cX10_unlink 27 = .ok (.aload_n 3, 1) := by decide +kernel
theorem dX10_unlink_28 : decode cX10_unlink 28 = .ok (.iload_n 2, 1) := by decide +kernel
theorem dX10_unlink_29 : decode cX10_unlink 29 = .ok (.invokevirtual 254, 3) := by decide +kernel
theorem dX10_unlink_32 : decode cX10_unlink 32 = .ok (.ifCond .eq 14, 3) := by decide +kernel
theorem dX10_unlink_35 : decode cX10_unlink 35 = .ok (.new 257, 3) := by decide +kernel
theorem dX10_unlink_38 : decode cX10_unlink 38 = .ok (.dup, 1) := by decide +kernel
theorem dX10_unlink_39 : decode cX10_unlink 39 = .ok (.ldc_w 259, 3) := by decide +kernel
theorem dX10_unlink_42 : decode cX10_unlink 42 = .ok (.invokespecial 261, 3) := by decide +kernel
theorem dX10_unlink_45 : decode cX10_unlink 45 = .ok (.athrow, 1) := by decide +kernel
theorem dX10_unlink_46 : decode cX10_unlink 46 = .ok (.aload_n 3, 1) := by decide +kernel
theorem dX10_unlink_47 : decode cX10_unlink 47 = .ok (.iload_n 2, 1) := by decide +kernel
theorem dX10_unlink_48 : decode cX10_unlink 48 = .ok (.invokevirtual 262, 3) := by decide +kernel
theorem dX10_unlink_51 : decode cX10_unlink 51 = .ok (.return_, 1) := by decide +kernel
theorem dX10_read_0 : decode cX10_read 0 = .ok (.aload_n 0, 1) := by decide +kernel
theorem dX10_read_1 : decode cX10_read 1 = .ok (.iload_n 1, 1) := by decide +kernel
theorem dX10_read_2 : decode cX10_read 2 = .ok (.iload_n 2, 1) := by decide +kernel
theorem dX10_read_3 : decode cX10_read 3 = .ok (.invokevirtual 230, 3) := by decide +kernel
theorem dX10_read_6 : decode cX10_read 6 = .ok (.aload_n 0, 1) := by decide +kernel
theorem dX10_read_7 : decode cX10_read 7 = .ok (.getfield 75, 3) := by decide +kernel
theorem dX10_read_10 : decode cX10_read 10 = .ok (.iload_n 1, 1) := by decide +kernel
theorem dX10_read_11 : decode cX10_read 11 = .ok (.aaload, 1) := by decide +kernel
theorem dX10_read_12 : decode cX10_read 12 = .ok (.astore_n 3, 1) := by decide +kernel
theorem dX10_read_13 : decode cX10_read 13 = .ok (.aload_n 3, 1) := by decide +kernel
theorem dX10_read_14 : decode cX10_read 14 = .ok (.getfield 265, 3) := by decide +kernel
theorem dX10_read_17 : decode cX10_read 17 = .ok (.iload_n 2, 1) := by decide +kernel
theorem dX10_read_18 : decode cX10_read 18 = .ok (.invokestatic 268, 3) := by decide +kernel
theorem dX10_read_21 : decode cX10_read 21 = .ok (.ifCond .eq 12, 3) := by decide +kernel
theorem dX10_read_24 : decode cX10_read 24 = .ok (.aload_n 3, 1) := by decide +kernel
theorem dX10_read_25 : decode cX10_read 25 = .ok (.getfield 271, 3) := by decide +kernel
theorem dX10_read_28 : decode cX10_read 28 = .ok (.iload_n 2, 1) := by decide +kernel
theorem dX10_read_29 : decode cX10_read 29 = .ok (.iaload, 1) := by decide +kernel
theorem dX10_read_30 : decode cX10_read 30 = .ok (.goto 15, 3) := by decide +kernel
theorem dX10_read_33 : decode cX10_read 33 = .ok (.aload_n 0, 1) := by decide +kernel
theorem dX10_read_34 : decode cX10_read 34 = .ok (.getfield 19, 3) := by decide +kernel
theorem dX10_read_37 : decode cX10_read 37 = .ok (.iload_n 2, 1) := by decide +kernel
theorem dX10_read_38 : decode cX10_read 38 = .ok (.aload_n 3, 1) := by decide +kernel
theorem dX10_read_39 : decode cX10_read 39 = .ok (.getfield 247, 3) := by decide +kernel
theorem dX10_read_42 : decode cX10_read 42 = .ok (.invokevirtual 272, 3) := by decide +kernel
theorem dX10_read_45 : decode cX10_read 45 = .ok (.ireturn, 1) := by decide +kernel
theorem dX10_sees_0 : decode cX10_sees 0 = .ok (.aload_n 0, 1) := by decide +kernel
theorem dX10_sees_1 : decode cX10_sees 1 = .ok (.iload_n 1, 1) := by decide +kernel
theorem dX10_sees_2 : decode cX10_sees 2 = .ok (.iload_n 2, 1) := by decide +kernel
theorem dX10_sees_3 : decode cX10_sees 3 = .ok (.invokevirtual 230, 3) := by decide +kernel
theorem dX10_sees_6 : decode cX10_sees 6 = .ok (.aload_n 0, 1) := by decide +kernel
theorem dX10_sees_7 : decode cX10_sees 7 = .ok (.getfield 75, 3) := by decide +kernel
theorem dX10_sees_10 : decode cX10_sees 10 = .ok (.iload_n 1, 1) := by decide +kernel
theorem dX10_sees_11 : decode cX10_sees 11 = .ok (.aaload, 1) := by decide +kernel
theorem dX10_sees_12 : decode cX10_sees 12 = .ok (.astore_n 3, 1) := by decide +kernel
theorem dX10_sees_13 : decode cX10_sees 13 = .ok (.aload_n 3, 1) := by decide +kernel
theorem dX10_sees_14 : decode cX10_sees 14 = .ok (.iload_n 2, 1) := by decide +kernel
theorem dX10_sees_15 : decode cX10_sees 15 = .ok (.invokevirtual 276, 3) := by decide +kernel
theorem dX10_sees_18 : decode cX10_sees 18 = .ok (.istore 4, 2) := by decide +kernel
theorem dX10_sees_20 : decode cX10_sees 20 = .ok (.iconst 0, 1) := by decide +kernel
theorem dX10_sees_21 : decode cX10_sees 21 = .ok (.istore 5, 2) := by decide +kernel
theorem dX10_sees_23 : decode cX10_sees 23 = .ok (.iload 5, 2) := by decide +kernel
theorem dX10_sees_25 : decode cX10_sees 25 = .ok (.aload_n 0, 1) := by decide +kernel
theorem dX10_sees_26 : decode cX10_sees 26 = .ok (.getfield 26, 3) := by decide +kernel
theorem dX10_sees_29 : decode cX10_sees 29 = .ok (.getfield 130, 3) := by decide +kernel
theorem dX10_sees_32 : decode cX10_sees 32 = .ok (.if_icmp .ge 51, 3) := by decide +kernel
theorem dX10_sees_35 : decode cX10_sees 35 = .ok (.aload_n 0, 1) := by decide +kernel
theorem dX10_sees_36 : decode cX10_sees 36 = .ok (.getfield 26, 3) := by decide +kernel
theorem dX10_sees_39 : decode cX10_sees 39 = .ok (.iload 5, 2) := by decide +kernel
theorem dX10_sees_41 : decode cX10_sees 41 = .ok (.aload_n 3, 1) := by decide +kernel
theorem dX10_sees_42 : decode cX10_sees 42 = .ok (.getfield 247, 3) := by decide +kernel
theorem dX10_sees_45 : decode cX10_sees 45 = .ok (.invokevirtual 250, 3) := by decide +kernel
theorem dX10_sees_48 : decode cX10_sees 48 = .ok (.ifCond .eq 29, 3) := by decide +kernel
theorem dX10_sees_51 : decode cX10_sees 51 = .ok (.aload_n 0, 1) := by decide +kernel
theorem dX10_sees_52 : decode cX10_sees 52 = .ok (.getfield 26, 3) := by decide +kernel
theorem dX10_sees_55 : decode cX10_sees 55 = .ok (.getfield 167, 3) := by decide +kernel
theorem dX10_sees_58 : decode cX10_sees 58 = .ok (.iload 5, 2) := by decide +kernel
theorem dX10_sees_60 : decode cX10_sees 60 = .ok (.iaload, 1) := by decide +kernel
theorem dX10_sees_61 : decode cX10_sees 61 = .ok (.iload_n 2, 1) := by decide +kernel
theorem dX10_sees_62 : decode cX10_sees 62 = .ok (.if_icmp .ne 15, 3) := by decide +kernel
theorem dX10_sees_65 : decode cX10_sees 65 = .ok (.aload_n 3, 1) := by decide +kernel
theorem dX10_sees_66 : decode cX10_sees 66 = .ok (.iload 5, 2) := by decide +kernel
theorem dX10_sees_68 : decode cX10_sees 68 = .ok (.invokevirtual 254, 3) := by decide +kernel
theorem dX10_sees_71 : decode cX10_sees 71 = .ok (.ifCond .ne 6, 3) := by decide +kernel
theorem dX10_sees_74 : decode cX10_sees 74 = .ok (.iinc 4 1, 3) := by decide +kernel
theorem dX10_sees_77 : decode cX10_sees 77 = .ok (.iinc 5 1, 3) := by decide +kernel
theorem dX10_sees_80 : decode cX10_sees 80 = .ok (.goto (-57), 3) := by decide +kernel
theorem dX10_sees_83 : decode cX10_sees 83 = .ok (.iload 4, 2) := by decide +kernel
theorem dX10_sees_85 : decode cX10_sees 85 = .ok (.ireturn, 1) := by decide +kernel
theorem dX10_commit_0 : decode cX10_commit 0 = .ok (.aload_n 0, 1) := by decide +kernel
theorem dX10_commit_1 : decode cX10_commit 1 = .ok (.iload_n 1, 1) := by decide +kernel
theorem dX10_commit_2 : decode cX10_commit 2 = .ok (.invokevirtual 244, 3) := by decide +kernel
theorem dX10_commit_5 : decode cX10_commit 5 = .ok (.aload_n 0, 1) := by decide +kernel
theorem dX10_commit_6 : decode cX10_commit 6 = .ok (.getfield 75, 3) := by decide +kernel
theorem dX10_commit_9 : decode cX10_commit 9 = .ok (.iload_n 1, 1) := by decide +kernel
theorem dX10_commit_10 : decode cX10_commit 10 = .ok (.aaload, 1) := by decide +kernel
theorem dX10_commit_11 : decode cX10_commit 11 = .ok (.astore_n 3, 1) := by decide +kernel
theorem dX10_commit_12 : decode cX10_commit 12 = .ok (.aload_n 3, 1) := by decide +kernel
theorem dX10_commit_13 : decode cX10_commit 13 = .ok (.iconst 0, 1) := by decide +kernel
theorem dX10_commit_14 : decode cX10_commit 14 = .ok (.putfield 221, 3) := by decide +kernel
theorem dX10_commit_17 : decode cX10_commit 17 = .ok (.iload_n 2, 1) := by decide +kernel
theorem dX10_commit_18 : decode cX10_commit 18 = .ok (.ifCond .eq 10, 3) := by decide +kernel
theorem dX10_commit_21 : decode cX10_commit 21 = .ok (.aload_n 3, 1) := by decide +kernel
theorem dX10_commit_22 : decode cX10_commit 22 = .ok (.invokevirtual 279, 3) := by decide +kernel
theorem dX10_commit_25 : decode cX10_commit 25 = .ok (.ifCond .ne 8, 3) := by decide +kernel
theorem dX10_commit_28 : decode cX10_commit 28 = .ok (.aload_n 0, 1) := by decide +kernel
theorem dX10_commit_29 : decode cX10_commit 29 = .ok (.getfield 13, 3) := by decide +kernel
theorem dX10_commit_32 : decode cX10_commit 32 = .ok (.ireturn, 1) := by decide +kernel
theorem dX10_commit_33 : decode cX10_commit 33 = .ok (.aload_n 0, 1) := by decide +kernel
theorem dX10_commit_34 : decode cX10_commit 34 = .ok (.aload_n 3, 1) := by decide +kernel
theorem dX10_commit_35 : decode cX10_commit 35 = .ok (.invokevirtual 283, 3) := by decide +kernel
theorem dX10_commit_38 : decode cX10_commit 38 = .ok (.ifCond .eq 5, 3) := by decide +kernel
theorem dX10_commit_41 : decode cX10_commit 41 = .ok (.iconst (-1), 1) := by decide +kernel
theorem dX10_commit_42 : decode cX10_commit 42 = .ok (.ireturn, 1) := by decide +kernel
theorem dX10_commit_43 : decode cX10_commit 43 = .ok (.aload_n 0, 1) := by decide +kernel
theorem dX10_commit_44 : decode cX10_commit 44 = .ok (.aload_n 3, 1) := by decide +kernel
theorem dX10_commit_45 : decode cX10_commit 45 = .ok (.invokevirtual 287, 3) := by decide +kernel
theorem dX10_commit_48 : decode cX10_commit 48 = .ok (.ifCond .eq 6, 3) := by decide +kernel
theorem dX10_commit_51 : decode cX10_commit 51 = .ok (.bipush (-2), 2) := by decide +kernel
theorem dX10_commit_53 : decode cX10_commit 53 = .ok (.ireturn, 1) := by decide +kernel
theorem dX10_commit_54 : decode cX10_commit 54 = .ok (.aload_n 0, 1) := by decide +kernel
theorem dX10_commit_55 : decode cX10_commit 55 = .ok (.aload_n 3, 1) := by decide +kernel
theorem dX10_commit_56 : decode cX10_commit 56 = .ok (.invokevirtual 290, 3) := by decide +kernel
theorem dX10_commit_59 : decode cX10_commit 59 = .ok (.aload_n 0, 1) := by decide +kernel
theorem dX10_commit_60 : decode cX10_commit 60 = .ok (.getfield 13, 3) := by decide +kernel
theorem dX10_commit_63 : decode cX10_commit 63 = .ok (.ireturn, 1) := by decide +kernel
theorem dX10_time_0 : decode cX10_time 0 = .ok (.aload_n 0, 1) := by decide +kernel
theorem dX10_time_1 : decode cX10_time 1 = .ok (.getfield 13, 3) := by decide +kernel
theorem dX10_time_4 : decode cX10_time 4 = .ok (.ireturn, 1) := by decide +kernel
theorem dX10_valueAt_0 : decode cX10_valueAt 0 = .ok (.aload_n 0, 1) := by decide +kernel
theorem dX10_valueAt_1 : decode cX10_valueAt 1 = .ok (.iload_n 2, 1) := by decide +kernel
theorem dX10_valueAt_2 : decode cX10_valueAt 2 = .ok (.invokevirtual 294, 3) := by decide +kernel
theorem dX10_valueAt_5 : decode cX10_valueAt 5 = .ok (.aload_n 0, 1) := by decide +kernel
theorem dX10_valueAt_6 : decode cX10_valueAt 6 = .ok (.getfield 19, 3) := by decide +kernel
theorem dX10_valueAt_9 : decode cX10_valueAt 9 = .ok (.iload_n 1, 1) := by decide +kernel
theorem dX10_valueAt_10 : decode cX10_valueAt 10 = .ok (.iload_n 2, 1) := by decide +kernel
theorem dX10_valueAt_11 : decode cX10_valueAt 11 = .ok (.invokevirtual 297, 3) := by decide +kernel
theorem dX10_valueAt_14 : decode cX10_valueAt 14 = .ok (.ifCond .ne 14, 3) := by decide +kernel
theorem dX10_valueAt_17 : decode cX10_valueAt 17 = .ok (.new 257, 3) := by decide +kernel
theorem dX10_valueAt_20 : decode cX10_valueAt 20 = .ok (.dup, 1) := by decide +kernel
theorem dX10_valueAt_21 : decode cX10_valueAt 21 = .ok (.ldc_w 298, 3) := by decide +kernel
theorem dX10_valueAt_24 : decode cX10_valueAt 24 = .ok (.invokespecial 261, 3) := by decide +kernel
theorem dX10_valueAt_27 : decode cX10_valueAt 27 = .ok (.athrow, 1) := by decide +kernel
theorem dX10_valueAt_28 : decode cX10_valueAt 28 = .ok (.aload_n 0, 1) := by decide +kernel
theorem dX10_valueAt_29 : decode cX10_valueAt 29 = .ok (.getfield 19, 3) := by decide +kernel
theorem dX10_valueAt_32 : decode cX10_valueAt 32 = .ok (.iload_n 1, 1) := by decide +kernel
theorem dX10_valueAt_33 : decode cX10_valueAt 33 = .ok (.iload_n 2, 1) := by decide +kernel
theorem dX10_valueAt_34 : decode cX10_valueAt 34 = .ok (.invokevirtual 272, 3) := by decide +kernel
theorem dX10_valueAt_37 : decode cX10_valueAt 37 = .ok (.ireturn, 1) := by decide +kernel
theorem dX10_sizeAt_0 : decode cX10_sizeAt 0 = .ok (.aload_n 0, 1) := by decide +kernel
theorem dX10_sizeAt_1 : decode cX10_sizeAt 1 = .ok (.iload_n 1, 1) := by decide +kernel
theorem dX10_sizeAt_2 : decode cX10_sizeAt 2 = .ok (.invokevirtual 294, 3) := by decide +kernel
theorem dX10_sizeAt_5 : decode cX10_sizeAt 5 = .ok (.bipush 100, 2) := by decide +kernel
theorem dX10_sizeAt_7 : decode cX10_sizeAt 7 = .ok (.aload_n 0, 1) := by decide +kernel
theorem dX10_sizeAt_8 : decode cX10_sizeAt 8 = .ok (.getfield 19, 3) := by decide +kernel
theorem dX10_sizeAt_11 : decode cX10_sizeAt 11 = .ok (.iload_n 1, 1) := by decide +kernel
theorem dX10_sizeAt_12 : decode cX10_sizeAt 12 = .ok (.invokevirtual 300, 3) := by decide +kernel
theorem dX10_sizeAt_15 : decode cX10_sizeAt 15 = .ok (.imul, 1) := by decide +kernel
theorem dX10_sizeAt_16 : decode cX10_sizeAt 16 = .ok (.aload_n 0, 1) := by decide +kernel
theorem dX10_sizeAt_17 : decode cX10_sizeAt 17 = .ok (.getfield 26, 3) := by decide +kernel
theorem dX10_sizeAt_20 : decode cX10_sizeAt 20 = .ok (.iload_n 1, 1) := by decide +kernel
theorem dX10_sizeAt_21 : decode cX10_sizeAt 21 = .ok (.invokevirtual 303, 3) := by decide +kernel
theorem dX10_sizeAt_24 : decode cX10_sizeAt 24 = .ok (.iadd, 1) := by decide +kernel
theorem dX10_sizeAt_25 : decode cX10_sizeAt 25 = .ok (.ireturn, 1) := by decide +kernel
theorem dX10_step_0 : decode cX10_step 0 = .ok (.iload_n 1, 1) := by decide +kernel
theorem dX10_step_1 : decode cX10_step 1 = .ok (.ifCond .lt 8, 3) := by decide +kernel
theorem dX10_step_4 : decode cX10_step 4 = .ok (.iload_n 1, 1) := by decide +kernel
theorem dX10_step_5 : decode cX10_step 5 = .ok (.iconst 5, 1) := by decide +kernel
theorem dX10_step_6 : decode cX10_step 6 = .ok (.if_icmp .le 14, 3) := by decide +kernel
theorem dX10_step_9 : decode cX10_step 9 = .ok (.new 304, 3) := by decide +kernel
theorem dX10_step_12 : decode cX10_step 12 = .ok (.dup, 1) := by decide +kernel
theorem dX10_step_13 : decode cX10_step 13 = .ok (.ldc_w 306, 3) := by decide +kernel
theorem dX10_step_16 : decode cX10_step 16 = .ok (.invokespecial 308, 3) := by decide +kernel
theorem dX10_step_19 : decode cX10_step 19 = .ok (.athrow, 1) := by decide +kernel
theorem dX10_step_20 : decode cX10_step 20 = .ok (.iload_n 1, 1) := by decide +kernel
theorem dX10_step_21 : decode cX10_step 21 = .ok (.iconst 2, 1) := by decide +kernel
theorem dX10_step_22 : decode cX10_step 22 = .ok (.if_icmp .gt 10, 3) := by decide +kernel
theorem dX10_step_25 : decode cX10_step 25 = .ok (.iload_n 2, 1) := by decide +kernel
theorem dX10_step_26 : decode cX10_step 26 = .ok (.invokestatic 91, 3) := by decide +kernel
theorem dX10_step_29 : decode cX10_step 29 = .ok (.goto 18, 3) := by decide +kernel
theorem dX10_step_32 : decode cX10_step 32 = .ok (.iload_n 2, 1) := by decide +kernel
theorem dX10_step_33 : decode cX10_step 33 = .ok (.ifCond .eq 14, 3) := by decide +kernel
theorem dX10_step_36 : decode cX10_step 36 = .ok (.new 304, 3) := by decide +kernel
theorem dX10_step_39 : decode cX10_step 39 = .ok (.dup, 1) := by decide +kernel
theorem dX10_step_40 : decode cX10_step 40 = .ok (.ldc_w 309, 3) := by decide +kernel
theorem dX10_step_43 : decode cX10_step 43 = .ok (.invokespecial 308, 3) := by decide +kernel
theorem dX10_step_46 : decode cX10_step 46 = .ok (.athrow, 1) := by decide +kernel
theorem dX10_step_47 : decode cX10_step 47 = .ok (.aload_n 0, 1) := by decide +kernel
theorem dX10_step_48 : decode cX10_step 48 = .ok (.getfield 82, 3) := by decide +kernel
theorem dX10_step_51 : decode cX10_step 51 = .ok (.aload_n 0, 1) := by decide +kernel
theorem dX10_step_52 : decode cX10_step 52 = .ok (.getfield 7, 3) := by decide +kernel
theorem dX10_step_55 : decode cX10_step 55 = .ok (.aaload, 1) := by decide +kernel
theorem dX10_step_56 : decode cX10_step 56 = .ok (.astore_n 3, 1) := by decide +kernel
theorem dX10_step_57 : decode cX10_step 57 = .ok (.aload_n 3, 1) := by decide +kernel
theorem dX10_step_58 : decode cX10_step 58 = .ok (.getfield 311, 3) := by decide +kernel
theorem dX10_step_61 : decode cX10_step 61 = .ok (.bipush 12, 2) := by decide +kernel
theorem dX10_step_63 : decode cX10_step 63 = .ok (.if_icmp .lt 14, 3) := by decide +kernel
theorem dX10_step_66 : decode cX10_step 66 = .ok (.new 98, 3) := by decide +kernel
theorem dX10_step_69 : decode cX10_step 69 = .ok (.dup, 1) := by decide +kernel
theorem dX10_step_70 : decode cX10_step 70 = .ok (.ldc_w 312, 3) := by decide +kernel
theorem dX10_step_73 : decode cX10_step 73 = .ok (.invokespecial 102, 3) := by decide +kernel
theorem dX10_step_76 : decode cX10_step 76 = .ok (.athrow, 1) := by decide +kernel
theorem dX10_step_77 : decode cX10_step 77 = .ok (.aload_n 3, 1) := by decide +kernel
theorem dX10_step_78 : decode cX10_step 78 = .ok (.getfield 314, 3) := by decide +kernel
theorem dX10_step_81 : decode cX10_step 81 = .ok (.iload_n 1, 1) := by decide +kernel
theorem dX10_step_82 : decode cX10_step 82 = .ok (.invokestatic 317, 3) := by decide +kernel
theorem dX10_step_85 : decode cX10_step 85 = .ok (.if_icmp .ge 14, 3) := by decide +kernel
theorem dX10_step_88 : decode cX10_step 88 = .ok (.new 98, 3) := by decide +kernel
theorem dX10_step_91 : decode cX10_step 91 = .ok (.dup, 1) := by decide +kernel
theorem dX10_step_92 : decode cX10_step 92 = .ok (.ldc_w 320, 3) := by decide +kernel
theorem dX10_step_95 : decode cX10_step 95 = .ok (.invokespecial 102, 3) := by decide +kernel
theorem dX10_step_98 : decode cX10_step 98 = .ok (.athrow, 1) := by decide +kernel
theorem dX10_step_99 : decode cX10_step 99 = .ok (.aload_n 3, 1) := by decide +kernel
theorem dX10_step_100 : decode cX10_step 100 = .ok (.iload_n 1, 1) := by decide +kernel
theorem dX10_step_101 : decode cX10_step 101 = .ok (.iload_n 2, 1) := by decide +kernel
theorem dX10_step_102 : decode cX10_step 102 = .ok (.invokevirtual 322, 3) := by decide +kernel
theorem dX10_step_105 : decode cX10_step 105 = .ok (.aload_n 3, 1) := by decide +kernel
theorem dX10_step_106 : decode cX10_step 106 = .ok (.getfield 314, 3) := by decide +kernel
theorem dX10_step_109 : decode cX10_step 109 = .ok (.ireturn, 1) := by decide +kernel
theorem dX10_pattern_0 : decode cX10_pattern 0 = .ok (.aload_n 0, 1) := by decide +kernel
theorem dX10_pattern_1 : decode cX10_pattern 1 = .ok (.getfield 7, 3) := by decide +kernel
theorem dX10_pattern_4 : decode cX10_pattern 4 = .ok (.bipush 6, 2) := by decide +kernel
theorem dX10_pattern_6 : decode cX10_pattern 6 = .ok (.if_icmp .lt 14, 3) := by decide +kernel
theorem dX10_pattern_9 : decode cX10_pattern 9 = .ok (.new 98, 3) := by decide +kernel
theorem dX10_pattern_12 : decode cX10_pattern 12 = .ok (.dup, 1) := by decide +kernel
theorem dX10_pattern_13 : decode cX10_pattern 13 = .ok (.ldc_w 324, 3) := by decide +kernel
theorem dX10_pattern_16 : decode cX10_pattern 16 = .ok (.invokespecial 102, 3) := by decide +kernel
theorem dX10_pattern_19 : decode cX10_pattern 19 = .ok (.athrow, 1) := by decide +kernel
theorem dX10_pattern_20 : decode cX10_pattern 20 = .ok (.aload_n 0, 1) := by decide +kernel
theorem dX10_pattern_21 : decode cX10_pattern 21 = .ok (.getfield 82, 3) := by decide +kernel
theorem dX10_pattern_24 : decode cX10_pattern 24 = .ok (.aload_n 0, 1) := by decide +kernel
theorem dX10_pattern_25 : decode cX10_pattern 25 = .ok (.getfield 7, 3) := by decide +kernel
theorem dX10_pattern_28 : decode cX10_pattern 28 = .ok (.aaload, 1) := by decide +kernel
theorem dX10_pattern_29 : decode cX10_pattern 29 = .ok (.getfield 314, 3) := by decide +kernel
theorem dX10_pattern_32 : decode cX10_pattern 32 = .ok (.iconst 1, 1) := by decide +kernel
theorem dX10_pattern_33 : decode cX10_pattern 33 = .ok (.if_icmp .eq 14, 3) := by decide +kernel
theorem dX10_pattern_36 : decode cX10_pattern 36 = .ok (.new 98, 3) := by decide +kernel
theorem dX10_pattern_39 : decode cX10_pattern 39 = .ok (.dup, 1) := by decide +kernel
theorem dX10_pattern_40 : decode cX10_pattern 40 = .ok (.ldc_w 326, 3) := by decide +kernel
theorem dX10_pattern_43 : decode cX10_pattern 43 = .ok (.invokespecial 102, 3) := by decide +kernel
theorem dX10_pattern_46 : decode cX10_pattern 46 = .ok (.athrow, 1) := by decide +kernel
theorem dX10_pattern_47 : decode cX10_pattern 47 = .ok (.aload_n 0, 1) := by decide +kernel
theorem dX10_pattern_48 : decode cX10_pattern 48 = .ok (.dup, 1) := by decide +kernel
theorem dX10_pattern_49 : decode cX10_pattern 49 = .ok (.getfield 7, 3) := by decide +kernel
theorem dX10_pattern_52 : decode cX10_pattern 52 = .ok (.dup_x1, 1) := by decide +kernel
theorem dX10_pattern_53 : decode cX10_pattern 53 = .ok (.iconst 1, 1) := by decide +kernel
theorem dX10_pattern_54 : decode cX10_pattern 54 = .ok (.iadd, 1) := by decide +kernel
theorem dX10_pattern_55 : decode cX10_pattern 55 = .ok (.putfield 7, 3) := by decide +kernel
theorem dX10_pattern_58 : decode cX10_pattern 58 = .ok (.ireturn, 1) := by decide +kernel
theorem dX10_answer_0 : decode cX10_answer 0 = .ok (.aload_n 0, 1) := by decide +kernel
theorem dX10_answer_1 : decode cX10_answer 1 = .ok (.iload_n 1, 1) := by decide +kernel
theorem dX10_answer_2 : decode cX10_answer 2 = .ok (.invokevirtual 328, 3) := by decide +kernel
theorem dX10_answer_5 : decode cX10_answer 5 = .ok (.aload_n 0, 1) := by decide +kernel
theorem dX10_answer_6 : decode cX10_answer 6 = .ok (.iload_n 2, 1) := by decide +kernel
theorem dX10_answer_7 : decode cX10_answer 7 = .ok (.invokevirtual 127, 3) := by decide +kernel
theorem dX10_answer_10 : decode cX10_answer 10 = .ok (.aload_n 0, 1) := by decide +kernel
theorem dX10_answer_11 : decode cX10_answer 11 = .ok (.getfield 62, 3) := by decide +kernel
theorem dX10_answer_14 : decode cX10_answer 14 = .ok (.aload_n 0, 1) := by decide +kernel
theorem dX10_answer_15 : decode cX10_answer 15 = .ok (.getfield 82, 3) := by decide +kernel
theorem dX10_answer_18 : decode cX10_answer 18 = .ok (.iload_n 1, 1) := by decide +kernel
theorem dX10_answer_19 : decode cX10_answer 19 = .ok (.aaload, 1) := by decide +kernel
theorem dX10_answer_20 : decode cX10_answer 20 = .ok (.aload_n 0, 1) := by decide +kernel
theorem dX10_answer_21 : decode cX10_answer 21 = .ok (.getfield 44, 3) := by decide +kernel
theorem dX10_answer_24 : decode cX10_answer 24 = .ok (.invokevirtual 331, 3) := by decide +kernel
theorem dX10_answer_27 : decode cX10_answer 27 = .ok (.invokevirtual 334, 3) := by decide +kernel
theorem dX10_answer_30 : decode cX10_answer 30 = .ok (.iload_n 2, 1) := by decide +kernel
theorem dX10_answer_31 : decode cX10_answer 31 = .ok (.iaload, 1) := by decide +kernel
theorem dX10_answer_32 : decode cX10_answer 32 = .ok (.ireturn, 1) := by decide +kernel
theorem dX10_answerAnew_0 : decode cX10_answerAnew 0 = .ok (.aload_n 0, 1) := by decide +kernel
theorem dX10_answerAnew_1 : decode cX10_answerAnew 1 = .ok (.iload_n 1, 1) := by decide +kernel
theorem dX10_answerAnew_2 : decode cX10_answerAnew 2 = .ok (.invokevirtual 328, 3) := by decide +kernel
theorem dX10_answerAnew_5 : decode cX10_answerAnew 5 = .ok (.aload_n 0, 1) := by decide +kernel
theorem dX10_answerAnew_6 : decode cX10_answerAnew 6 = .ok (.iload_n 2, 1) := by decide +kernel
theorem dX10_answerAnew_7 : decode cX10_answerAnew 7 = .ok (.invokevirtual 127, 3) := by decide +kernel
theorem dX10_answerAnew_10 : decode cX10_answerAnew 10 = .ok (.aload_n 0, 1) := by decide +kernel
theorem dX10_answerAnew_11 : decode cX10_answerAnew 11 = .ok (.getfield 62, 3) := by decide +kernel
theorem dX10_answerAnew_14 : decode cX10_answerAnew 14 = .ok (.aload_n 0, 1) := by decide +kernel
theorem dX10_answerAnew_15 : decode cX10_answerAnew 15 = .ok (.getfield 82, 3) := by decide +kernel
theorem dX10_answerAnew_18 : decode cX10_answerAnew 18 = .ok (.iload_n 1, 1) := by decide +kernel
theorem dX10_answerAnew_19 : decode cX10_answerAnew 19 = .ok (.aaload, 1) := by decide +kernel
theorem dX10_answerAnew_20 : decode cX10_answerAnew 20 = .ok (.iload_n 2, 1) := by decide +kernel
theorem dX10_answerAnew_21 : decode cX10_answerAnew 21 = .ok (.aload_n 0, 1) := by decide +kernel
theorem dX10_answerAnew_22 : decode cX10_answerAnew 22 = .ok (.getfield 44, 3) := by decide +kernel
theorem dX10_answerAnew_25 : decode cX10_answerAnew 25 = .ok (.invokevirtual 331, 3) := by decide +kernel
theorem dX10_answerAnew_28 : decode cX10_answerAnew 28 = .ok (.invokevirtual 338, 3) := by decide +kernel
theorem dX10_answerAnew_31 : decode cX10_answerAnew 31 = .ok (.ireturn, 1) := by decide +kernel
theorem dX10_pairs_0 : decode cX10_pairs 0 = .ok (.aload_n 0, 1) := by decide +kernel
theorem dX10_pairs_1 : decode cX10_pairs 1 = .ok (.iload_n 1, 1) := by decide +kernel
theorem dX10_pairs_2 : decode cX10_pairs 2 = .ok (.invokevirtual 328, 3) := by decide +kernel
theorem dX10_pairs_5 : decode cX10_pairs 5 = .ok (.aload_n 0, 1) := by decide +kernel
theorem dX10_pairs_6 : decode cX10_pairs 6 = .ok (.getfield 62, 3) := by decide +kernel
theorem dX10_pairs_9 : decode cX10_pairs 9 = .ok (.aload_n 0, 1) := by decide +kernel
theorem dX10_pairs_10 : decode cX10_pairs 10 = .ok (.getfield 82, 3) := by decide +kernel
theorem dX10_pairs_13 : decode cX10_pairs 13 = .ok (.iload_n 1, 1) := by decide +kernel
theorem dX10_pairs_14 : decode cX10_pairs 14 = .ok (.aaload, 1) := by decide +kernel
theorem dX10_pairs_15 : decode cX10_pairs 15 = .ok (.aload_n 0, 1) := by decide +kernel
theorem dX10_pairs_16 : decode cX10_pairs 16 = .ok (.getfield 44, 3) := by decide +kernel
theorem dX10_pairs_19 : decode cX10_pairs 19 = .ok (.invokevirtual 331, 3) := by decide +kernel
theorem dX10_pairs_22 : decode cX10_pairs 22 = .ok (.invokevirtual 334, 3) := by decide +kernel
theorem dX10_pairs_25 : decode cX10_pairs 25 = .ok (.astore_n 2, 1) := by decide +kernel
theorem dX10_pairs_26 : decode cX10_pairs 26 = .ok (.iconst 0, 1) := by decide +kernel
theorem dX10_pairs_27 : decode cX10_pairs 27 = .ok (.istore_n 3, 1) := by decide +kernel
theorem dX10_pairs_28 : decode cX10_pairs 28 = .ok (.iconst 0, 1) := by decide +kernel
theorem dX10_pairs_29 : decode cX10_pairs 29 = .ok (.istore 4, 2) := by decide +kernel
theorem dX10_pairs_31 : decode cX10_pairs 31 = .ok (.iload 4, 2) := by decide +kernel
theorem dX10_pairs_33 : decode cX10_pairs 33 = .ok (.bipush 24, 2) := by decide +kernel
theorem dX10_pairs_35 : decode cX10_pairs 35 = .ok (.if_icmp .ge 19, 3) := by decide +kernel
theorem dX10_pairs_38 : decode cX10_pairs 38 = .ok (.iload_n 3, 1) := by decide +kernel
theorem dX10_pairs_39 : decode cX10_pairs 39 = .ok (.aload_n 2, 1) := by decide +kernel
theorem dX10_pairs_40 : decode cX10_pairs 40 = .ok (.iload 4, 2) := by decide +kernel
theorem dX10_pairs_42 : decode cX10_pairs 42 = .ok (.iaload, 1) := by decide +kernel
theorem dX10_pairs_43 : decode cX10_pairs 43 = .ok (.invokestatic 216, 3) := by decide +kernel
theorem dX10_pairs_46 : decode cX10_pairs 46 = .ok (.iadd, 1) := by decide +kernel
theorem dX10_pairs_47 : decode cX10_pairs 47 = .ok (.istore_n 3, 1) := by decide +kernel
theorem dX10_pairs_48 : decode cX10_pairs 48 = .ok (.iinc 4 1, 3) := by decide +kernel
theorem dX10_pairs_51 : decode cX10_pairs 51 = .ok (.goto (-20), 3) := by decide +kernel
theorem dX10_pairs_54 : decode cX10_pairs 54 = .ok (.iload_n 3, 1) := by decide +kernel
theorem dX10_pairs_55 : decode cX10_pairs 55 = .ok (.ireturn, 1) := by decide +kernel
theorem dX10_isWhole_0 : decode cX10_isWhole 0 = .ok (.aload_n 0, 1) := by decide +kernel
theorem dX10_isWhole_1 : decode cX10_isWhole 1 = .ok (.iload_n 1, 1) := by decide +kernel
theorem dX10_isWhole_2 : decode cX10_isWhole 2 = .ok (.invokevirtual 328, 3) := by decide +kernel
theorem dX10_isWhole_5 : decode cX10_isWhole 5 = .ok (.aload_n 0, 1) := by decide +kernel
theorem dX10_isWhole_6 : decode cX10_isWhole 6 = .ok (.iload_n 2, 1) := by decide +kernel
theorem dX10_isWhole_7 : decode cX10_isWhole 7 = .ok (.invokevirtual 127, 3) := by decide +kernel
theorem dX10_isWhole_10 : decode cX10_isWhole 10 = .ok (.aload_n 0, 1) := by decide +kernel
theorem dX10_isWhole_11 : decode cX10_isWhole 11 = .ok (.getfield 62, 3) := by decide +kernel
theorem dX10_isWhole_14 : decode cX10_isWhole 14 = .ok (.aload_n 0, 1) := by decide +kernel
theorem dX10_isWhole_15 : decode cX10_isWhole 15 = .ok (.getfield 82, 3) := by decide +kernel
theorem dX10_isWhole_18 : decode cX10_isWhole 18 = .ok (.iload_n 1, 1) := by decide +kernel
theorem dX10_isWhole_19 : decode cX10_isWhole 19 = .ok (.aaload, 1) := by decide +kernel
theorem dX10_isWhole_20 : decode cX10_isWhole 20 = .ok (.aload_n 0, 1) := by decide +kernel
theorem dX10_isWhole_21 : decode cX10_isWhole 21 = .ok (.getfield 44, 3) := by decide +kernel
theorem dX10_isWhole_24 : decode cX10_isWhole 24 = .ok (.invokevirtual 331, 3) := by decide +kernel
theorem dX10_isWhole_27 : decode cX10_isWhole 27 = .ok (.invokevirtual 334, 3) := by decide +kernel
theorem dX10_isWhole_30 : decode cX10_isWhole 30 = .ok (.iload_n 2, 1) := by decide +kernel
theorem dX10_isWhole_31 : decode cX10_isWhole 31 = .ok (.iaload, 1) := by decide +kernel
theorem dX10_isWhole_32 : decode cX10_isWhole 32 = .ok (.istore_n 3, 1) := by decide +kernel
theorem dX10_isWhole_33 : decode cX10_isWhole 33 = .ok (.aload_n 0, 1) := by decide +kernel
theorem dX10_isWhole_34 : decode cX10_isWhole 34 = .ok (.getfield 62, 3) := by decide +kernel
theorem dX10_isWhole_37 : decode cX10_isWhole 37 = .ok (.aload_n 0, 1) := by decide +kernel
theorem dX10_isWhole_38 : decode cX10_isWhole 38 = .ok (.getfield 82, 3) := by decide +kernel
theorem dX10_isWhole_41 : decode cX10_isWhole 41 = .ok (.iload_n 1, 1) := by decide +kernel
theorem dX10_isWhole_42 : decode cX10_isWhole 42 = .ok (.aaload, 1) := by decide +kernel
theorem dX10_isWhole_43 : decode cX10_isWhole 43 = .ok (.aload_n 0, 1) := by decide +kernel
theorem dX10_isWhole_44 : decode cX10_isWhole 44 = .ok (.getfield 19, 3) := by decide +kernel
theorem dX10_isWhole_47 : decode cX10_isWhole 47 = .ok (.getfield 342, 3) := by decide +kernel
theorem dX10_isWhole_50 : decode cX10_isWhole 50 = .ok (.invokevirtual 334, 3) := by decide +kernel
theorem dX10_isWhole_53 : decode cX10_isWhole 53 = .ok (.iload_n 2, 1) := by decide +kernel
theorem dX10_isWhole_54 : decode cX10_isWhole 54 = .ok (.iaload, 1) := by decide +kernel
theorem dX10_isWhole_55 : decode cX10_isWhole 55 = .ok (.istore 4, 2) := by decide +kernel
theorem dX10_isWhole_57 : decode cX10_isWhole 57 = .ok (.iload_n 3, 1) := by decide +kernel
theorem dX10_isWhole_58 : decode cX10_isWhole 58 = .ok (.iload 4, 2) := by decide +kernel
theorem dX10_isWhole_60 : decode cX10_isWhole 60 = .ok (.if_icmp .ne 7, 3) := by decide +kernel
theorem dX10_isWhole_63 : decode cX10_isWhole 63 = .ok (.iconst 1, 1) := by decide +kernel
theorem dX10_isWhole_64 : decode cX10_isWhole 64 = .ok (.goto 4, 3) := by decide +kernel
theorem dX10_isWhole_67 : decode cX10_isWhole 67 = .ok (.iconst 0, 1) := by decide +kernel
theorem dX10_isWhole_68 : decode cX10_isWhole 68 = .ok (.ireturn, 1) := by decide +kernel
theorem dX10_rule_0 : decode cX10_rule 0 = .ok (.iload_n 1, 1) := by decide +kernel
theorem dX10_rule_1 : decode cX10_rule 1 = .ok (.invokestatic 91, 3) := by decide +kernel
theorem dX10_rule_4 : decode cX10_rule 4 = .ok (.iload_n 2, 1) := by decide +kernel
theorem dX10_rule_5 : decode cX10_rule 5 = .ok (.invokestatic 91, 3) := by decide +kernel
theorem dX10_rule_8 : decode cX10_rule 8 = .ok (.iload_n 3, 1) := by decide +kernel
theorem dX10_rule_9 : decode cX10_rule 9 = .ok (.invokestatic 91, 3) := by decide +kernel
theorem dX10_rule_12 : decode cX10_rule 12 = .ok (.aload_n 0, 1) := by decide +kernel
theorem dX10_rule_13 : decode cX10_rule 13 = .ok (.getfield 53, 3) := by decide +kernel
theorem dX10_rule_16 : decode cX10_rule 16 = .ok (.getfield 345, 3) := by decide +kernel
theorem dX10_rule_19 : decode cX10_rule 19 = .ok (.bipush 6, 2) := by decide +kernel
theorem dX10_rule_21 : decode cX10_rule 21 = .ok (.if_icmp .lt 14, 3) := by decide +kernel
theorem dX10_rule_24 : decode cX10_rule 24 = .ok (.new 98, 3) := by decide +kernel
theorem dX10_rule_27 : decode cX10_rule 27 = .ok (.dup, 1) := by decide +kernel
theorem dX10_rule_28 : decode cX10_rule 28 = .ok (.ldc_w 348, 3) := by decide +kernel
theorem dX10_rule_31 : decode cX10_rule 31 = .ok (.invokespecial 102, 3) := by decide +kernel
theorem dX10_rule_34 : decode cX10_rule 34 = .ok (.athrow, 1) := by decide +kernel
theorem dX10_rule_35 : decode cX10_rule 35 = .ok (.aload_n 0, 1) := by decide +kernel
theorem dX10_rule_36 : decode cX10_rule 36 = .ok (.getfield 53, 3) := by decide +kernel
theorem dX10_rule_39 : decode cX10_rule 39 = .ok (.iload_n 1, 1) := by decide +kernel
theorem dX10_rule_40 : decode cX10_rule 40 = .ok (.iload_n 2, 1) := by decide +kernel
theorem dX10_rule_41 : decode cX10_rule 41 = .ok (.iload_n 3, 1) := by decide +kernel
theorem dX10_rule_42 : decode cX10_rule 42 = .ok (.invokevirtual 350, 3) := by decide +kernel
theorem dX10_rule_45 : decode cX10_rule 45 = .ok (.istore 4, 2) := by decide +kernel
theorem dX10_rule_47 : decode cX10_rule 47 = .ok (.aload_n 0, 1) := by decide +kernel
theorem dX10_rule_48 : decode cX10_rule 48 = .ok (.getfield 53, 3) := by decide +kernel
theorem dX10_rule_51 : decode cX10_rule 51 = .ok (.invokevirtual 141, 3) := by decide +kernel
theorem dX10_rule_54 : decode cX10_rule 54 = .ok (.iload 4, 2) := by decide +kernel
theorem dX10_rule_56 : decode cX10_rule 56 = .ok (.ireturn, 1) := by decide +kernel
theorem dX10_dropRule_0 : decode cX10_dropRule 0 = .ok (.iload_n 1, 1) := by decide +kernel
theorem dX10_dropRule_1 : decode cX10_dropRule 1 = .ok (.ifCond .lt 26, 3) := by decide +kernel
theorem dX10_dropRule_4 : decode cX10_dropRule 4 = .ok (.iload_n 1, 1) := by decide +kernel
theorem dX10_dropRule_5 : decode cX10_dropRule 5 = .ok (.aload_n 0, 1) := by decide +kernel
theorem dX10_dropRule_6 : decode cX10_dropRule 6 = .ok (.getfield 53, 3) := by decide +kernel
theorem dX10_dropRule_9 : decode cX10_dropRule 9 = .ok (.getfield 345, 3) := by decide +kernel
theorem dX10_dropRule_12 : decode cX10_dropRule 12 = .ok (.if_icmp .ge 15, 3) := by decide +kernel
theorem dX10_dropRule_15 : decode cX10_dropRule 15 = .ok (.aload_n 0, 1) := by decide +kernel
theorem dX10_dropRule_16 : decode cX10_dropRule 16 = .ok (.getfield 53, 3) := by decide +kernel
theorem dX10_dropRule_19 : decode cX10_dropRule 19 = .ok (.getfield 353, 3) := by decide +kernel
theorem dX10_dropRule_22 : decode cX10_dropRule 22 = .ok (.iload_n 1, 1) := by decide +kernel
theorem dX10_dropRule_23 : decode cX10_dropRule 23 = .ok (.baload, 1) := by decide +kernel
theorem dX10_dropRule_24 : decode cX10_dropRule 24 = .ok (.ifCond .eq 14, 3) := by decide +kernel
theorem dX10_dropRule_27 : decode cX10_dropRule 27 = .ok (.new 257, 3) := by decide +kernel
theorem dX10_dropRule_30 : decode cX10_dropRule 30 = .ok (.dup, 1) := by decide +kernel
theorem dX10_dropRule_31 : decode cX10_dropRule 31 = .ok (.ldc_w 356, 3) := by decide +kernel
theorem dX10_dropRule_34 : decode cX10_dropRule 34 = .ok (.invokespecial 261, 3) := by decide +kernel
theorem dX10_dropRule_37 : decode cX10_dropRule 37 = .ok (.athrow, 1) := by decide +kernel
theorem dX10_dropRule_38 : decode cX10_dropRule 38 = .ok (.aload_n 0, 1) := by decide +kernel
theorem dX10_dropRule_39 : decode cX10_dropRule 39 = .ok (.getfield 53, 3) := by decide +kernel
theorem dX10_dropRule_42 : decode cX10_dropRule 42 = .ok (.invokevirtual 358, 3) := by decide +kernel
theorem dX10_dropRule_45 : decode cX10_dropRule 45 = .ok (.istore_n 2, 1) := by decide +kernel
theorem dX10_dropRule_46 : decode cX10_dropRule 46 = .ok (.aload_n 0, 1) := by decide +kernel
theorem dX10_dropRule_47 : decode cX10_dropRule 47 = .ok (.getfield 53, 3) := by decide +kernel
theorem dX10_dropRule_50 : decode cX10_dropRule 50 = .ok (.getfield 353, 3) := by decide +kernel
theorem dX10_dropRule_53 : decode cX10_dropRule 53 = .ok (.iload_n 1, 1) := by decide +kernel
theorem dX10_dropRule_54 : decode cX10_dropRule 54 = .ok (.iconst 1, 1) := by decide +kernel
theorem dX10_dropRule_55 : decode cX10_dropRule 55 = .ok (.bastore, 1) := by decide +kernel
theorem dX10_dropRule_56 : decode cX10_dropRule 56 = .ok (.aload_n 0, 1) := by decide +kernel
theorem dX10_dropRule_57 : decode cX10_dropRule 57 = .ok (.getfield 53, 3) := by decide +kernel
theorem dX10_dropRule_60 : decode cX10_dropRule 60 = .ok (.invokevirtual 141, 3) := by decide +kernel
theorem dX10_dropRule_63 : decode cX10_dropRule 63 = .ok (.iload_n 2, 1) := by decide +kernel
theorem dX10_dropRule_64 : decode cX10_dropRule 64 = .ok (.aload_n 0, 1) := by decide +kernel
theorem dX10_dropRule_65 : decode cX10_dropRule 65 = .ok (.getfield 53, 3) := by decide +kernel
theorem dX10_dropRule_68 : decode cX10_dropRule 68 = .ok (.invokevirtual 358, 3) := by decide +kernel
theorem dX10_dropRule_71 : decode cX10_dropRule 71 = .ok (.isub, 1) := by decide +kernel
theorem dX10_dropRule_72 : decode cX10_dropRule 72 = .ok (.ireturn, 1) := by decide +kernel
theorem dX10_inferred_0 : decode cX10_inferred 0 = .ok (.aload_n 0, 1) := by decide +kernel
theorem dX10_inferred_1 : decode cX10_inferred 1 = .ok (.getfield 53, 3) := by decide +kernel
theorem dX10_inferred_4 : decode cX10_inferred 4 = .ok (.invokevirtual 358, 3) := by decide +kernel
theorem dX10_inferred_7 : decode cX10_inferred 7 = .ok (.ireturn, 1) := by decide +kernel
theorem dX10_reasons_0 : decode cX10_reasons 0 = .ok (.aload_n 0, 1) := by decide +kernel
theorem dX10_reasons_1 : decode cX10_reasons 1 = .ok (.iload_n 1, 1) := by decide +kernel
theorem dX10_reasons_2 : decode cX10_reasons 2 = .ok (.invokevirtual 127, 3) := by decide +kernel
theorem dX10_reasons_5 : decode cX10_reasons 5 = .ok (.aload_n 0, 1) := by decide +kernel
theorem dX10_reasons_6 : decode cX10_reasons 6 = .ok (.iload_n 3, 1) := by decide +kernel
theorem dX10_reasons_7 : decode cX10_reasons 7 = .ok (.invokevirtual 127, 3) := by decide +kernel
theorem dX10_reasons_10 : decode cX10_reasons 10 = .ok (.iload_n 2, 1) := by decide +kernel
theorem dX10_reasons_11 : decode cX10_reasons 11 = .ok (.invokestatic 91, 3) := by decide +kernel
theorem dX10_reasons_14 : decode cX10_reasons 14 = .ok (.aload_n 0, 1) := by decide +kernel
theorem dX10_reasons_15 : decode cX10_reasons 15 = .ok (.getfield 26, 3) := by decide +kernel
theorem dX10_reasons_18 : decode cX10_reasons 18 = .ok (.iload_n 1, 1) := by decide +kernel
theorem dX10_reasons_19 : decode cX10_reasons 19 = .ok (.iload_n 2, 1) := by decide +kernel
theorem dX10_reasons_20 : decode cX10_reasons 20 = .ok (.iload_n 3, 1) := by decide +kernel
theorem dX10_reasons_21 : decode cX10_reasons 21 = .ok (.invokevirtual 361, 3) := by decide +kernel
theorem dX10_reasons_24 : decode cX10_reasons 24 = .ok (.aload_n 0, 1) := by decide +kernel
theorem dX10_reasons_25 : decode cX10_reasons 25 = .ok (.getfield 53, 3) := by decide +kernel
theorem dX10_reasons_28 : decode cX10_reasons 28 = .ok (.iload_n 1, 1) := by decide +kernel
theorem dX10_reasons_29 : decode cX10_reasons 29 = .ok (.iload_n 2, 1) := by decide +kernel
theorem dX10_reasons_30 : decode cX10_reasons 30 = .ok (.iload_n 3, 1) := by decide +kernel
theorem dX10_reasons_31 : decode cX10_reasons 31 = .ok (.invokevirtual 364, 3) := by decide +kernel
theorem dX10_reasons_34 : decode cX10_reasons 34 = .ok (.iadd, 1) := by decide +kernel
theorem dX10_reasons_35 : decode cX10_reasons 35 = .ok (.ireturn, 1) := by decide +kernel
theorem dX10_walk_0 : decode cX10_walk 0 = .ok (.aload_n 0, 1) := by decide +kernel
theorem dX10_walk_1 : decode cX10_walk 1 = .ok (.iload_n 1, 1) := by decide +kernel
theorem dX10_walk_2 : decode cX10_walk 2 = .ok (.invokevirtual 127, 3) := by decide +kernel
theorem dX10_walk_5 : decode cX10_walk 5 = .ok (.iload_n 2, 1) := by decide +kernel
theorem dX10_walk_6 : decode cX10_walk 6 = .ok (.invokestatic 367, 3) := by decide +kernel
theorem dX10_walk_9 : decode cX10_walk 9 = .ok (.aload_n 0, 1) := by decide +kernel
theorem dX10_walk_10 : decode cX10_walk 10 = .ok (.iload_n 1, 1) := by decide +kernel
theorem dX10_walk_11 : decode cX10_walk 11 = .ok (.iload_n 2, 1) := by decide +kernel
theorem dX10_walk_12 : decode cX10_walk 12 = .ok (.invokevirtual 370, 3) := by decide +kernel
theorem dX10_walk_15 : decode cX10_walk 15 = .ok (.ireturn, 1) := by decide +kernel
theorem dX10_crossings_0 : decode cX10_crossings 0 = .ok (.aload_n 0, 1) := by decide +kernel
theorem dX10_crossings_1 : decode cX10_crossings 1 = .ok (.iload_n 1, 1) := by decide +kernel
theorem dX10_crossings_2 : decode cX10_crossings 2 = .ok (.invokevirtual 127, 3) := by decide +kernel
theorem dX10_crossings_5 : decode cX10_crossings 5 = .ok (.iload_n 2, 1) := by decide +kernel
theorem dX10_crossings_6 : decode cX10_crossings 6 = .ok (.invokestatic 367, 3) := by decide +kernel
theorem dX10_crossings_9 : decode cX10_crossings 9 = .ok (.iload_n 2, 1) := by decide +kernel
theorem dX10_crossings_10 : decode cX10_crossings 10 = .ok (.ifCond .ne 5, 3) := by decide +kernel
theorem dX10_crossings_13 : decode cX10_crossings 13 = .ok (.iconst 0, 1) := by decide +kernel
theorem dX10_crossings_14 : decode cX10_crossings 14 = .ok (.ireturn, 1) := by decide +kernel
theorem dX10_crossings_15 : decode cX10_crossings 15 = .ok (.aload_n 0, 1) := by decide +kernel
theorem dX10_crossings_16 : decode cX10_crossings 16 = .ok (.iload_n 1, 1) := by decide +kernel
theorem dX10_crossings_17 : decode cX10_crossings 17 = .ok (.iload_n 2, 1) := by decide +kernel
theorem dX10_crossings_18 : decode cX10_crossings 18 = .ok (.iconst 1, 1) := by decide +kernel
theorem dX10_crossings_19 : decode cX10_crossings 19 = .ok (.isub, 1) := by decide +kernel
theorem dX10_crossings_20 : decode cX10_crossings 20 = .ok (.invokevirtual 370, 3) := by decide +kernel
theorem dX10_crossings_23 : decode cX10_crossings 23 = .ok (.istore_n 3, 1) := by decide +kernel
theorem dX10_crossings_24 : decode cX10_crossings 24 = .ok (.iconst 0, 1) := by decide +kernel
theorem dX10_crossings_25 : decode cX10_crossings 25 = .ok (.istore 4, 2) := by decide +kernel
theorem dX10_crossings_27 : decode cX10_crossings 27 = .ok (.iconst 0, 1) := by decide +kernel
theorem dX10_crossings_28 : decode cX10_crossings 28 = .ok (.istore 5, 2) := by decide +kernel
theorem dX10_crossings_30 : decode cX10_crossings 30 = .ok (.iload 5, 2) := by decide +kernel
theorem dX10_crossings_32 : decode cX10_crossings 32 = .ok (.aload_n 0, 1) := by decide +kernel
theorem dX10_crossings_33 : decode cX10_crossings 33 = .ok (.getfield 26, 3) := by decide +kernel
theorem dX10_crossings_36 : decode cX10_crossings 36 = .ok (.getfield 130, 3) := by decide +kernel
theorem dX10_crossings_39 : decode cX10_crossings 39 = .ok (.if_icmp .ge 53, 3) := by decide +kernel
theorem dX10_crossings_42 : decode cX10_crossings 42 = .ok (.aload_n 0, 1) := by decide +kernel
theorem dX10_crossings_43 : decode cX10_crossings 43 = .ok (.getfield 26, 3) := by decide +kernel
theorem dX10_crossings_46 : decode cX10_crossings 46 = .ok (.iload 5, 2) := by decide +kernel
theorem dX10_crossings_48 : decode cX10_crossings 48 = .ok (.invokevirtual 163, 3) := by decide +kernel
theorem dX10_crossings_51 : decode cX10_crossings 51 = .ok (.ifCond .eq 35, 3) := by decide +kernel
theorem dX10_crossings_54 : decode cX10_crossings 54 = .ok (.iload_n 3, 1) := by decide +kernel
theorem dX10_crossings_55 : decode cX10_crossings 55 = .ok (.aload_n 0, 1) := by decide +kernel
theorem dX10_crossings_56 : decode cX10_crossings 56 = .ok (.getfield 26, 3) := by decide +kernel
theorem dX10_crossings_59 : decode cX10_crossings 59 = .ok (.getfield 167, 3) := by decide +kernel
theorem dX10_crossings_62 : decode cX10_crossings 62 = .ok (.iload 5, 2) := by decide +kernel
theorem dX10_crossings_64 : decode cX10_crossings 64 = .ok (.iaload, 1) := by decide +kernel
theorem dX10_crossings_65 : decode cX10_crossings 65 = .ok (.invokestatic 268, 3) := by decide +kernel
theorem dX10_crossings_68 : decode cX10_crossings 68 = .ok (.ifCond .eq 18, 3) := by decide +kernel
theorem dX10_crossings_71 : decode cX10_crossings 71 = .ok (.aload_n 0, 1) := by decide +kernel
theorem dX10_crossings_72 : decode cX10_crossings 72 = .ok (.getfield 44, 3) := by decide +kernel
theorem dX10_crossings_75 : decode cX10_crossings 75 = .ok (.iload 5, 2) := by decide +kernel
theorem dX10_crossings_77 : decode cX10_crossings 77 = .ok (.invokevirtual 209, 3) := by decide +kernel
theorem dX10_crossings_80 : decode cX10_crossings 80 = .ok (.ifCond .eq 6, 3) := by decide +kernel
theorem dX10_crossings_83 : decode cX10_crossings 83 = .ok (.iinc 4 1, 3) := by decide +kernel
theorem dX10_crossings_86 : decode cX10_crossings 86 = .ok (.iinc 5 1, 3) := by decide +kernel
theorem dX10_crossings_89 : decode cX10_crossings 89 = .ok (.goto (-59), 3) := by decide +kernel
theorem dX10_crossings_92 : decode cX10_crossings 92 = .ok (.iload 4, 2) := by decide +kernel
theorem dX10_crossings_94 : decode cX10_crossings 94 = .ok (.ireturn, 1) := by decide +kernel
theorem dX10_round_0 : decode cX10_round 0 = .ok (.iload_n 1, 1) := by decide +kernel
theorem dX10_round_1 : decode cX10_round 1 = .ok (.iconst 1, 1) := by decide +kernel
theorem dX10_round_2 : decode cX10_round 2 = .ok (.if_icmp .lt 9, 3) := by decide +kernel
theorem dX10_round_5 : decode cX10_round 5 = .ok (.iload_n 1, 1) := by decide +kernel
theorem dX10_round_6 : decode cX10_round 6 = .ok (.bipush 30, 2) := by decide +kernel
theorem dX10_round_8 : decode cX10_round 8 = .ok (.if_icmp .le 14, 3) := by decide +kernel
theorem dX10_round_11 : decode cX10_round 11 = .ok (.new 304, 3) := by decide +kernel
theorem dX10_round_14 : decode cX10_round 14 = .ok (.dup, 1) := by decide +kernel
theorem dX10_round_15 : decode cX10_round 15 = .ok (.ldc_w 373, 3) := by decide +kernel
theorem dX10_round_18 : decode cX10_round 18 = .ok (.invokespecial 308, 3) := by decide +kernel
theorem dX10_round_21 : decode cX10_round 21 = .ok (.athrow, 1) := by decide +kernel
theorem dX10_round_22 : decode cX10_round 22 = .ok (.iconst 0, 1) := by decide +kernel
theorem dX10_round_23 : decode cX10_round 23 = .ok (.istore_n 2, 1) := by decide +kernel
theorem dX10_round_24 : decode cX10_round 24 = .ok (.iload_n 2, 1) := by decide +kernel
theorem dX10_round_25 : decode cX10_round 25 = .ok (.iload_n 1, 1) := by decide +kernel
theorem dX10_round_26 : decode cX10_round 26 = .ok (.if_icmp .ge 26, 3) := by decide +kernel
theorem dX10_round_29 : decode cX10_round 29 = .ok (.aload_n 0, 1) := by decide +kernel
theorem dX10_round_30 : decode cX10_round 30 = .ok (.getfield 69, 3) := by decide +kernel
theorem dX10_round_33 : decode cX10_round 33 = .ok (.getfield 375, 3) := by decide +kernel
theorem dX10_round_36 : decode cX10_round 36 = .ok (.ifCond .eq 16, 3) := by decide +kernel
theorem dX10_round_39 : decode cX10_round 39 = .ok (.aload_n 0, 1) := by decide +kernel
theorem dX10_round_40 : decode cX10_round 40 = .ok (.getfield 69, 3) := by decide +kernel
theorem dX10_round_43 : decode cX10_round 43 = .ok (.invokevirtual 378, 3) := by decide +kernel
theorem dX10_round_46 : decode cX10_round 46 = .ok (.iinc 2 1, 3) := by decide +kernel
theorem dX10_round_49 : decode cX10_round 49 = .ok (.goto (-25), 3) := by decide +kernel
theorem dX10_round_52 : decode cX10_round 52 = .ok (.aload_n 0, 1) := by decide +kernel
theorem dX10_round_53 : decode cX10_round 53 = .ok (.getfield 69, 3) := by decide +kernel
theorem dX10_round_56 : decode cX10_round 56 = .ok (.getfield 375, 3) := by decide +kernel
theorem dX10_round_59 : decode cX10_round 59 = .ok (.invokestatic 216, 3) := by decide +kernel
theorem dX10_round_62 : decode cX10_round 62 = .ok (.ireturn, 1) := by decide +kernel
theorem dX10_mark_0 : decode cX10_mark 0 = .ok (.aload_n 0, 1) := by decide +kernel
theorem dX10_mark_1 : decode cX10_mark 1 = .ok (.iload_n 1, 1) := by decide +kernel
theorem dX10_mark_2 : decode cX10_mark 2 = .ok (.invokevirtual 127, 3) := by decide +kernel
theorem dX10_mark_5 : decode cX10_mark 5 = .ok (.aload_n 0, 1) := by decide +kernel
theorem dX10_mark_6 : decode cX10_mark 6 = .ok (.getfield 69, 3) := by decide +kernel
theorem dX10_mark_9 : decode cX10_mark 9 = .ok (.getfield 381, 3) := by decide +kernel
theorem dX10_mark_12 : decode cX10_mark 12 = .ok (.iload_n 1, 1) := by decide +kernel
theorem dX10_mark_13 : decode cX10_mark 13 = .ok (.iaload, 1) := by decide +kernel
theorem dX10_mark_14 : decode cX10_mark 14 = .ok (.ireturn, 1) := by decide +kernel
theorem dX10_least_0 : decode cX10_least 0 = .ok (.aload_n 0, 1) := by decide +kernel
theorem dX10_least_1 : decode cX10_least 1 = .ok (.iload_n 1, 1) := by decide +kernel
theorem dX10_least_2 : decode cX10_least 2 = .ok (.invokevirtual 127, 3) := by decide +kernel
theorem dX10_least_5 : decode cX10_least 5 = .ok (.iload_n 1, 1) := by decide +kernel
theorem dX10_least_6 : decode cX10_least 6 = .ok (.invokestatic 384, 3) := by decide +kernel
theorem dX10_least_9 : decode cX10_least 9 = .ok (.istore_n 2, 1) := by decide +kernel
theorem dX10_least_10 : decode cX10_least 10 = .ok (.iconst 0, 1) := by decide +kernel
theorem dX10_least_11 : decode cX10_least 11 = .ok (.istore_n 3, 1) := by decide +kernel
theorem dX10_least_12 : decode cX10_least 12 = .ok (.iload_n 3, 1) := by decide +kernel
theorem dX10_least_13 : decode cX10_least 13 = .ok (.bipush 24, 2) := by decide +kernel
theorem dX10_least_15 : decode cX10_least 15 = .ok (.if_icmp .ge 20, 3) := by decide +kernel
theorem dX10_least_18 : decode cX10_least 18 = .ok (.iload_n 2, 1) := by decide +kernel
theorem dX10_least_19 : decode cX10_least 19 = .ok (.aload_n 0, 1) := by decide +kernel
theorem dX10_least_20 : decode cX10_least 20 = .ok (.getfield 26, 3) := by decide +kernel
theorem dX10_least_23 : decode cX10_least 23 = .ok (.iload_n 2, 1) := by decide +kernel
theorem dX10_least_24 : decode cX10_least 24 = .ok (.invokevirtual 387, 3) := by decide +kernel
theorem dX10_least_27 : decode cX10_least 27 = .ok (.ior, 1) := by decide +kernel
theorem dX10_least_28 : decode cX10_least 28 = .ok (.istore_n 2, 1) := by decide +kernel
theorem dX10_least_29 : decode cX10_least 29 = .ok (.iinc 3 1, 3) := by decide +kernel
theorem dX10_least_32 : decode cX10_least 32 = .ok (.goto (-20), 3) := by decide +kernel
theorem dX10_least_35 : decode cX10_least 35 = .ok (.iload_n 2, 1) := by decide +kernel
theorem dX10_least_36 : decode cX10_least 36 = .ok (.invokestatic 390, 3) := by decide +kernel
theorem dX10_least_39 : decode cX10_least 39 = .ok (.ireturn, 1) := by decide +kernel
theorem dX10_requireLabel_0 : decode cX10_requireLabel 0 = .ok (.iload_n 0, 1) := by decide +kernel
theorem dX10_requireLabel_1 : decode cX10_requireLabel 1 = .ok (.ifCond .lt 8, 3) := by decide +kernel
theorem dX10_requireLabel_4 : decode cX10_requireLabel 4 = .ok (.iload_n 0, 1) := by decide +kernel
theorem dX10_requireLabel_5 : decode cX10_requireLabel 5 = .ok (.iconst 4, 1) := by decide +kernel
theorem dX10_requireLabel_6 : decode cX10_requireLabel 6 = .ok (.if_icmp .lt 14, 3) := by decide +kernel
theorem dX10_requireLabel_9 : decode cX10_requireLabel 9 = .ok (.new 257, 3) := by decide +kernel
theorem dX10_requireLabel_12 : decode cX10_requireLabel 12 = .ok (.dup, 1) := by decide +kernel
theorem dX10_requireLabel_13 : decode cX10_requireLabel 13 = .ok (.ldc_w 393, 3) := by decide +kernel
theorem dX10_requireLabel_16 : decode cX10_requireLabel 16 = .ok (.invokespecial 261, 3) := by decide +kernel
theorem dX10_requireLabel_19 : decode cX10_requireLabel 19 = .ok (.athrow, 1) := by decide +kernel
theorem dX10_requireLabel_20 : decode cX10_requireLabel 20 = .ok (.return_, 1) := by decide +kernel
theorem dX10_requireNode_0 : decode cX10_requireNode 0 = .ok (.aload_n 0, 1) := by decide +kernel
theorem dX10_requireNode_1 : decode cX10_requireNode 1 = .ok (.getfield 19, 3) := by decide +kernel
theorem dX10_requireNode_4 : decode cX10_requireNode 4 = .ok (.iload_n 1, 1) := by decide +kernel
theorem dX10_requireNode_5 : decode cX10_requireNode 5 = .ok (.invokevirtual 395, 3) := by decide +kernel
theorem dX10_requireNode_8 : decode cX10_requireNode 8 = .ok (.ifCond .ne 14, 3) := by decide +kernel
theorem dX10_requireNode_11 : decode cX10_requireNode 11 = .ok (.new 257, 3) := by decide +kernel
theorem dX10_requireNode_14 : decode cX10_requireNode 14 = .ok (.dup, 1) := by decide +kernel
theorem dX10_requireNode_15 : decode cX10_requireNode 15 = .ok (.ldc_w 396, 3) := by decide +kernel
theorem dX10_requireNode_18 : decode cX10_requireNode 18 = .ok (.invokespecial 261, 3) := by decide +kernel
theorem dX10_requireNode_21 : decode cX10_requireNode 21 = .ok (.athrow, 1) := by decide +kernel
theorem dX10_requireNode_22 : decode cX10_requireNode 22 = .ok (.return_, 1) := by decide +kernel
theorem dX10_requireEdge_0 : decode cX10_requireEdge 0 = .ok (.aload_n 0, 1) := by decide +kernel
theorem dX10_requireEdge_1 : decode cX10_requireEdge 1 = .ok (.getfield 26, 3) := by decide +kernel
theorem dX10_requireEdge_4 : decode cX10_requireEdge 4 = .ok (.iload_n 1, 1) := by decide +kernel
theorem dX10_requireEdge_5 : decode cX10_requireEdge 5 = .ok (.invokevirtual 163, 3) := by decide +kernel
theorem dX10_requireEdge_8 : decode cX10_requireEdge 8 = .ok (.ifCond .ne 14, 3) := by decide +kernel
theorem dX10_requireEdge_11 : decode cX10_requireEdge 11 = .ok (.new 257, 3) := by decide +kernel
theorem dX10_requireEdge_14 : decode cX10_requireEdge 14 = .ok (.dup, 1) := by decide +kernel
theorem dX10_requireEdge_15 : decode cX10_requireEdge 15 = .ok (.ldc_w 259, 3) := by decide +kernel
theorem dX10_requireEdge_18 : decode cX10_requireEdge 18 = .ok (.invokespecial 261, 3) := by decide +kernel
theorem dX10_requireEdge_21 : decode cX10_requireEdge 21 = .ok (.athrow, 1) := by decide +kernel
theorem dX10_requireEdge_22 : decode cX10_requireEdge 22 = .ok (.return_, 1) := by decide +kernel
theorem dX10_requireMachine_0 : decode cX10_requireMachine 0 = .ok (.iload_n 0, 1) := by decide +kernel
theorem dX10_requireMachine_1 : decode cX10_requireMachine 1 = .ok (.ifCond .lt 8, 3) := by decide +kernel
theorem dX10_requireMachine_4 : decode cX10_requireMachine 4 = .ok (.iload_n 0, 1) := by decide +kernel
theorem dX10_requireMachine_5 : decode cX10_requireMachine 5 = .ok (.iconst 3, 1) := by decide +kernel
theorem dX10_requireMachine_6 : decode cX10_requireMachine 6 = .ok (.if_icmp .lt 14, 3) := by decide +kernel
theorem dX10_requireMachine_9 : decode cX10_requireMachine 9 = .ok (.new 257, 3) := by decide +kernel
theorem dX10_requireMachine_12 : decode cX10_requireMachine 12 = .ok (.dup, 1) := by decide +kernel
theorem dX10_requireMachine_13 : decode cX10_requireMachine 13 = .ok (.ldc_w 398, 3) := by decide +kernel
theorem dX10_requireMachine_16 : decode cX10_requireMachine 16 = .ok (.invokespecial 261, 3) := by decide +kernel
theorem dX10_requireMachine_19 : decode cX10_requireMachine 19 = .ok (.athrow, 1) := by decide +kernel
theorem dX10_requireMachine_20 : decode cX10_requireMachine 20 = .ok (.return_, 1) := by decide +kernel
theorem dX10_requireTransaction_0 : decode cX10_requireTransaction 0 = .ok (.iload_n 1, 1) := by decide +kernel
theorem dX10_requireTransaction_1 : decode cX10_requireTransaction 1 = .ok (.ifCond .lt 20, 3) := by decide +kernel
theorem dX10_requireTransaction_4 : decode cX10_requireTransaction 4 = .ok (.iload_n 1, 1) := by decide +kernel
theorem dX10_requireTransaction_5 : decode cX10_requireTransaction 5 = .ok (.iconst 4, 1) := by decide +kernel
theorem dX10_requireTransaction_6 : decode cX10_requireTransaction 6 = .ok (.if_icmp .ge 15, 3) := by decide +kernel
theorem dX10_requireTransaction_9 : decode cX10_requireTransaction 9 = .ok (.aload_n 0, 1) := by decide +kernel
theorem dX10_requireTransaction_10 : decode cX10_requireTransaction 10 = .ok (.getfield 75, 3) := by decide +kernel
theorem dX10_requireTransaction_13 : decode cX10_requireTransaction 13 = .ok (.iload_n 1, 1) := by decide +kernel
theorem dX10_requireTransaction_14 : decode cX10_requireTransaction 14 = .ok (.aaload, 1) := by decide +kernel
theorem dX10_requireTransaction_15 : decode cX10_requireTransaction 15 = .ok (.getfield 221, 3) := by decide +kernel
theorem dX10_requireTransaction_18 : decode cX10_requireTransaction 18 = .ok (.ifCond .ne 14, 3) := by decide +kernel
theorem dX10_requireTransaction_21 : decode cX10_requireTransaction 21 = .ok (.new 257, 3) := by decide +kernel
theorem dX10_requireTransaction_24 : decode cX10_requireTransaction 24 = .ok (.dup, 1) := by decide +kernel
theorem dX10_requireTransaction_25 : decode cX10_requireTransaction 25 = .ok (.ldc_w 400, 3) := by decide +kernel
theorem dX10_requireTransaction_28 : decode cX10_requireTransaction 28 = .ok (.invokespecial 261, 3) := by decide +kernel
theorem dX10_requireTransaction_31 : decode cX10_requireTransaction 31 = .ok (.athrow, 1) := by decide +kernel
theorem dX10_requireTransaction_32 : decode cX10_requireTransaction 32 = .ok (.return_, 1) := by decide +kernel
theorem dX10_requireSeen_0 : decode cX10_requireSeen 0 = .ok (.aload_n 0, 1) := by decide +kernel
theorem dX10_requireSeen_1 : decode cX10_requireSeen 1 = .ok (.iload_n 1, 1) := by decide +kernel
theorem dX10_requireSeen_2 : decode cX10_requireSeen 2 = .ok (.invokevirtual 244, 3) := by decide +kernel
theorem dX10_requireSeen_5 : decode cX10_requireSeen 5 = .ok (.aload_n 0, 1) := by decide +kernel
theorem dX10_requireSeen_6 : decode cX10_requireSeen 6 = .ok (.getfield 19, 3) := by decide +kernel
theorem dX10_requireSeen_9 : decode cX10_requireSeen 9 = .ok (.iload_n 2, 1) := by decide +kernel
theorem dX10_requireSeen_10 : decode cX10_requireSeen 10 = .ok (.aload_n 0, 1) := by decide +kernel
theorem dX10_requireSeen_11 : decode cX10_requireSeen 11 = .ok (.getfield 75, 3) := by decide +kernel
theorem dX10_requireSeen_14 : decode cX10_requireSeen 14 = .ok (.iload_n 1, 1) := by decide +kernel
theorem dX10_requireSeen_15 : decode cX10_requireSeen 15 = .ok (.aaload, 1) := by decide +kernel
theorem dX10_requireSeen_16 : decode cX10_requireSeen 16 = .ok (.getfield 247, 3) := by decide +kernel
theorem dX10_requireSeen_19 : decode cX10_requireSeen 19 = .ok (.invokevirtual 297, 3) := by decide +kernel
theorem dX10_requireSeen_22 : decode cX10_requireSeen 22 = .ok (.ifCond .ne 14, 3) := by decide +kernel
theorem dX10_requireSeen_25 : decode cX10_requireSeen 25 = .ok (.new 257, 3) := by decide +kernel
theorem dX10_requireSeen_28 : decode cX10_requireSeen 28 = .ok (.dup, 1) := by decide +kernel
theorem dX10_requireSeen_29 : decode cX10_requireSeen 29 = .ok (.ldc_w 402, 3) := by decide +kernel
theorem dX10_requireSeen_32 : decode cX10_requireSeen 32 = .ok (.invokespecial 261, 3) := by decide +kernel
theorem dX10_requireSeen_35 : decode cX10_requireSeen 35 = .ok (.athrow, 1) := by decide +kernel
theorem dX10_requireSeen_36 : decode cX10_requireSeen 36 = .ok (.return_, 1) := by decide +kernel
theorem dX10_requirePattern_0 : decode cX10_requirePattern 0 = .ok (.iload_n 1, 1) := by decide +kernel
theorem dX10_requirePattern_1 : decode cX10_requirePattern 1 = .ok (.ifCond .lt 11, 3) := by decide +kernel
theorem dX10_requirePattern_4 : decode cX10_requirePattern 4 = .ok (.iload_n 1, 1) := by decide +kernel
theorem dX10_requirePattern_5 : decode cX10_requirePattern 5 = .ok (.aload_n 0, 1) := by decide +kernel
theorem dX10_requirePattern_6 : decode cX10_requirePattern 6 = .ok (.getfield 7, 3) := by decide +kernel
theorem dX10_requirePattern_9 : decode cX10_requirePattern 9 = .ok (.if_icmp .lt 14, 3) := by decide +kernel
theorem dX10_requirePattern_12 : decode cX10_requirePattern 12 = .ok (.new 257, 3) := by decide +kernel
theorem dX10_requirePattern_15 : decode cX10_requirePattern 15 = .ok (.dup, 1) := by decide +kernel
theorem dX10_requirePattern_16 : decode cX10_requirePattern 16 = .ok (.ldc_w 404, 3) := by decide +kernel
theorem dX10_requirePattern_19 : decode cX10_requirePattern 19 = .ok (.invokespecial 261, 3) := by decide +kernel
theorem dX10_requirePattern_22 : decode cX10_requirePattern 22 = .ok (.athrow, 1) := by decide +kernel
theorem dX10_requirePattern_23 : decode cX10_requirePattern 23 = .ok (.return_, 1) := by decide +kernel
theorem dX10_requireTime_0 : decode cX10_requireTime 0 = .ok (.iload_n 1, 1) := by decide +kernel
theorem dX10_requireTime_1 : decode cX10_requireTime 1 = .ok (.ifCond .lt 11, 3) := by decide +kernel
theorem dX10_requireTime_4 : decode cX10_requireTime 4 = .ok (.iload_n 1, 1) := by decide +kernel
theorem dX10_requireTime_5 : decode cX10_requireTime 5 = .ok (.aload_n 0, 1) := by decide +kernel
theorem dX10_requireTime_6 : decode cX10_requireTime 6 = .ok (.getfield 13, 3) := by decide +kernel
theorem dX10_requireTime_9 : decode cX10_requireTime 9 = .ok (.if_icmp .le 14, 3) := by decide +kernel
theorem dX10_requireTime_12 : decode cX10_requireTime 12 = .ok (.new 304, 3) := by decide +kernel
theorem dX10_requireTime_15 : decode cX10_requireTime 15 = .ok (.dup, 1) := by decide +kernel
theorem dX10_requireTime_16 : decode cX10_requireTime 16 = .ok (.ldc_w 406, 3) := by decide +kernel
theorem dX10_requireTime_19 : decode cX10_requireTime 19 = .ok (.invokespecial 308, 3) := by decide +kernel
theorem dX10_requireTime_22 : decode cX10_requireTime 22 = .ok (.athrow, 1) := by decide +kernel
theorem dX10_requireTime_23 : decode cX10_requireTime 23 = .ok (.return_, 1) := by decide +kernel
theorem dX10_requireSteps_0 : decode cX10_requireSteps 0 = .ok (.iload_n 0, 1) := by decide +kernel
theorem dX10_requireSteps_1 : decode cX10_requireSteps 1 = .ok (.ifCond .lt 9, 3) := by decide +kernel
theorem dX10_requireSteps_4 : decode cX10_requireSteps 4 = .ok (.iload_n 0, 1) := by decide +kernel
theorem dX10_requireSteps_5 : decode cX10_requireSteps 5 = .ok (.bipush 30, 2) := by decide +kernel
theorem dX10_requireSteps_7 : decode cX10_requireSteps 7 = .ok (.if_icmp .le 14, 3) := by decide +kernel
theorem dX10_requireSteps_10 : decode cX10_requireSteps 10 = .ok (.new 304, 3) := by decide +kernel
theorem dX10_requireSteps_13 : decode cX10_requireSteps 13 = .ok (.dup, 1) := by decide +kernel
theorem dX10_requireSteps_14 : decode cX10_requireSteps 14 = .ok (.ldc_w 408, 3) := by decide +kernel
theorem dX10_requireSteps_17 : decode cX10_requireSteps 17 = .ok (.invokespecial 308, 3) := by decide +kernel
theorem dX10_requireSteps_20 : decode cX10_requireSteps 20 = .ok (.athrow, 1) := by decide +kernel
theorem dX10_requireSteps_21 : decode cX10_requireSteps 21 = .ok (.return_, 1) := by decide +kernel
theorem dX10_addEdge_0 : decode cX10_addEdge 0 = .ok (.aload_n 0, 1) := by decide +kernel
theorem dX10_addEdge_1 : decode cX10_addEdge 1 = .ok (.getfield 26, 3) := by decide +kernel
theorem dX10_addEdge_4 : decode cX10_addEdge 4 = .ok (.iload_n 1, 1) := by decide +kernel
theorem dX10_addEdge_5 : decode cX10_addEdge 5 = .ok (.iload_n 2, 1) := by decide +kernel
theorem dX10_addEdge_6 : decode cX10_addEdge 6 = .ok (.iload_n 3, 1) := by decide +kernel
theorem dX10_addEdge_7 : decode cX10_addEdge 7 = .ok (.aload_n 0, 1) := by decide +kernel
theorem dX10_addEdge_8 : decode cX10_addEdge 8 = .ok (.getfield 13, 3) := by decide +kernel
theorem dX10_addEdge_11 : decode cX10_addEdge 11 = .ok (.invokevirtual 410, 3) := by decide +kernel
theorem dX10_addEdge_14 : decode cX10_addEdge 14 = .ok (.istore 4, 2) := by decide +kernel
theorem dX10_addEdge_16 : decode cX10_addEdge 16 = .ok (.aload_n 0, 1) := by decide +kernel
theorem dX10_addEdge_17 : decode cX10_addEdge 17 = .ok (.getfield 19, 3) := by decide +kernel
theorem dX10_addEdge_20 : decode cX10_addEdge 20 = .ok (.getfield 413, 3) := by decide +kernel
theorem dX10_addEdge_23 : decode cX10_addEdge 23 = .ok (.iload_n 1, 1) := by decide +kernel
theorem dX10_addEdge_24 : decode cX10_addEdge 24 = .ok (.aload_n 0, 1) := by decide +kernel
theorem dX10_addEdge_25 : decode cX10_addEdge 25 = .ok (.getfield 13, 3) := by decide +kernel
theorem dX10_addEdge_28 : decode cX10_addEdge 28 = .ok (.iastore, 1) := by decide +kernel
theorem dX10_addEdge_29 : decode cX10_addEdge 29 = .ok (.aload_n 0, 1) := by decide +kernel
theorem dX10_addEdge_30 : decode cX10_addEdge 30 = .ok (.getfield 19, 3) := by decide +kernel
theorem dX10_addEdge_33 : decode cX10_addEdge 33 = .ok (.getfield 413, 3) := by decide +kernel
theorem dX10_addEdge_36 : decode cX10_addEdge 36 = .ok (.iload_n 3, 1) := by decide +kernel
theorem dX10_addEdge_37 : decode cX10_addEdge 37 = .ok (.aload_n 0, 1) := by decide +kernel
theorem dX10_addEdge_38 : decode cX10_addEdge 38 = .ok (.getfield 13, 3) := by decide +kernel
theorem dX10_addEdge_41 : decode cX10_addEdge 41 = .ok (.iastore, 1) := by decide +kernel
theorem dX10_addEdge_42 : decode cX10_addEdge 42 = .ok (.aload_n 0, 1) := by decide +kernel
theorem dX10_addEdge_43 : decode cX10_addEdge 43 = .ok (.getfield 69, 3) := by decide +kernel
theorem dX10_addEdge_46 : decode cX10_addEdge 46 = .ok (.dup, 1) := by decide +kernel
theorem dX10_addEdge_47 : decode cX10_addEdge 47 = .ok (.getfield 375, 3) := by decide +kernel
theorem dX10_addEdge_50 : decode cX10_addEdge 50 = .ok (.iload_n 1, 1) := by decide +kernel
theorem dX10_addEdge_51 : decode cX10_addEdge 51 = .ok (.invokestatic 384, 3) := by decide +kernel
theorem dX10_addEdge_54 : decode cX10_addEdge 54 = .ok (.iload_n 3, 1) := by decide +kernel
theorem dX10_addEdge_55 : decode cX10_addEdge 55 = .ok (.invokestatic 384, 3) := by decide +kernel
theorem dX10_addEdge_58 : decode cX10_addEdge 58 = .ok (.ior, 1) := by decide +kernel
theorem dX10_addEdge_59 : decode cX10_addEdge 59 = .ok (.ior, 1) := by decide +kernel
theorem dX10_addEdge_60 : decode cX10_addEdge 60 = .ok (.putfield 375, 3) := by decide +kernel
theorem dX10_addEdge_63 : decode cX10_addEdge 63 = .ok (.iload 4, 2) := by decide +kernel
theorem dX10_addEdge_65 : decode cX10_addEdge 65 = .ok (.ireturn, 1) := by decide +kernel
theorem dX10_endEdge_0 : decode cX10_endEdge 0 = .ok (.aload_n 0, 1) := by decide +kernel
theorem dX10_endEdge_1 : decode cX10_endEdge 1 = .ok (.getfield 26, 3) := by decide +kernel
theorem dX10_endEdge_4 : decode cX10_endEdge 4 = .ok (.iload_n 1, 1) := by decide +kernel
theorem dX10_endEdge_5 : decode cX10_endEdge 5 = .ok (.aload_n 0, 1) := by decide +kernel
theorem dX10_endEdge_6 : decode cX10_endEdge 6 = .ok (.getfield 13, 3) := by decide +kernel
theorem dX10_endEdge_9 : decode cX10_endEdge 9 = .ok (.invokevirtual 416, 3) := by decide +kernel
theorem dX10_endEdge_12 : decode cX10_endEdge 12 = .ok (.aload_n 0, 1) := by decide +kernel
theorem dX10_endEdge_13 : decode cX10_endEdge 13 = .ok (.getfield 19, 3) := by decide +kernel
theorem dX10_endEdge_16 : decode cX10_endEdge 16 = .ok (.getfield 413, 3) := by decide +kernel
theorem dX10_endEdge_19 : decode cX10_endEdge 19 = .ok (.aload_n 0, 1) := by decide +kernel
theorem dX10_endEdge_20 : decode cX10_endEdge 20 = .ok (.getfield 26, 3) := by decide +kernel
theorem dX10_endEdge_23 : decode cX10_endEdge 23 = .ok (.getfield 167, 3) := by decide +kernel
theorem dX10_endEdge_26 : decode cX10_endEdge 26 = .ok (.iload_n 1, 1) := by decide +kernel
theorem dX10_endEdge_27 : decode cX10_endEdge 27 = .ok (.iaload, 1) := by decide +kernel
theorem dX10_endEdge_28 : decode cX10_endEdge 28 = .ok (.aload_n 0, 1) := by decide +kernel
theorem dX10_endEdge_29 : decode cX10_endEdge 29 = .ok (.getfield 13, 3) := by decide +kernel
theorem dX10_endEdge_32 : decode cX10_endEdge 32 = .ok (.iastore, 1) := by decide +kernel
theorem dX10_endEdge_33 : decode cX10_endEdge 33 = .ok (.aload_n 0, 1) := by decide +kernel
theorem dX10_endEdge_34 : decode cX10_endEdge 34 = .ok (.getfield 19, 3) := by decide +kernel
theorem dX10_endEdge_37 : decode cX10_endEdge 37 = .ok (.getfield 413, 3) := by decide +kernel
theorem dX10_endEdge_40 : decode cX10_endEdge 40 = .ok (.aload_n 0, 1) := by decide +kernel
theorem dX10_endEdge_41 : decode cX10_endEdge 41 = .ok (.getfield 26, 3) := by decide +kernel
theorem dX10_endEdge_44 : decode cX10_endEdge 44 = .ok (.getfield 170, 3) := by decide +kernel
theorem dX10_endEdge_47 : decode cX10_endEdge 47 = .ok (.iload_n 1, 1) := by decide +kernel
theorem dX10_endEdge_48 : decode cX10_endEdge 48 = .ok (.iaload, 1) := by decide +kernel
theorem dX10_endEdge_49 : decode cX10_endEdge 49 = .ok (.aload_n 0, 1) := by decide +kernel
theorem dX10_endEdge_50 : decode cX10_endEdge 50 = .ok (.getfield 13, 3) := by decide +kernel
theorem dX10_endEdge_53 : decode cX10_endEdge 53 = .ok (.iastore, 1) := by decide +kernel
theorem dX10_endEdge_54 : decode cX10_endEdge 54 = .ok (.return_, 1) := by decide +kernel
theorem dX10_startAnew_0 : decode cX10_startAnew 0 = .ok (.aload_n 0, 1) := by decide +kernel
theorem dX10_startAnew_1 : decode cX10_startAnew 1 = .ok (.getfield 69, 3) := by decide +kernel
theorem dX10_startAnew_4 : decode cX10_startAnew 4 = .ok (.aload_n 0, 1) := by decide +kernel
theorem dX10_startAnew_5 : decode cX10_startAnew 5 = .ok (.getfield 19, 3) := by decide +kernel
theorem dX10_startAnew_8 : decode cX10_startAnew 8 = .ok (.getfield 342, 3) := by decide +kernel
theorem dX10_startAnew_11 : decode cX10_startAnew 11 = .ok (.invokevirtual 419, 3) := by decide +kernel
theorem dX10_startAnew_14 : decode cX10_startAnew 14 = .ok (.aload_n 0, 1) := by decide +kernel
theorem dX10_startAnew_15 : decode cX10_startAnew 15 = .ok (.getfield 53, 3) := by decide +kernel
theorem dX10_startAnew_18 : decode cX10_startAnew 18 = .ok (.invokevirtual 141, 3) := by decide +kernel
theorem dX10_startAnew_21 : decode cX10_startAnew 21 = .ok (.return_, 1) := by decide +kernel
theorem dX10_areShaped_0 : decode cX10_areShaped 0 = .ok (.iconst 0, 1) := by decide +kernel
theorem dX10_areShaped_1 : decode cX10_areShaped 1 = .ok (.istore 4, 2) := by decide +kernel
theorem dX10_areShaped_3 : decode cX10_areShaped 3 = .ok (.iload 4, 2) := by decide +kernel
theorem dX10_areShaped_5 : decode cX10_areShaped 5 = .ok (.aload_n 0, 1) := by decide +kernel
theorem dX10_areShaped_6 : decode cX10_areShaped 6 = .ok (.getfield 26, 3) := by decide +kernel
theorem dX10_areShaped_9 : decode cX10_areShaped 9 = .ok (.getfield 130, 3) := by decide +kernel
theorem dX10_areShaped_12 : decode cX10_areShaped 12 = .ok (.if_icmp .ge 81, 3) := by decide +kernel
theorem dX10_areShaped_15 : decode cX10_areShaped 15 = .ok (.aload_n 0, 1) := by decide +kernel
theorem dX10_areShaped_16 : decode cX10_areShaped 16 = .ok (.getfield 26, 3) := by decide +kernel
theorem dX10_areShaped_19 : decode cX10_areShaped 19 = .ok (.iload 4, 2) := by decide +kernel
theorem dX10_areShaped_21 : decode cX10_areShaped 21 = .ok (.invokevirtual 163, 3) := by decide +kernel
theorem dX10_areShaped_24 : decode cX10_areShaped 24 = .ok (.ifCond .eq 63, 3) := by decide +kernel
theorem dX10_areShaped_27 : decode cX10_areShaped 27 = .ok (.aload_n 0, 1) := by decide +kernel
theorem dX10_areShaped_28 : decode cX10_areShaped 28 = .ok (.getfield 26, 3) := by decide +kernel
theorem dX10_areShaped_31 : decode cX10_areShaped 31 = .ok (.getfield 421, 3) := by decide +kernel
theorem dX10_areShaped_34 : decode cX10_areShaped 34 = .ok (.iload 4, 2) := by decide +kernel
theorem dX10_areShaped_36 : decode cX10_areShaped 36 = .ok (.iaload, 1) := by decide +kernel
theorem dX10_areShaped_37 : decode cX10_areShaped 37 = .ok (.iload_n 1, 1) := by decide +kernel
theorem dX10_areShaped_38 : decode cX10_areShaped 38 = .ok (.if_icmp .ne 49, 3) := by decide +kernel
theorem dX10_areShaped_41 : decode cX10_areShaped 41 = .ok (.aload_n 0, 1) := by decide +kernel
theorem dX10_areShaped_42 : decode cX10_areShaped 42 = .ok (.getfield 19, 3) := by decide +kernel
theorem dX10_areShaped_45 : decode cX10_areShaped 45 = .ok (.getfield 144, 3) := by decide +kernel
theorem dX10_areShaped_48 : decode cX10_areShaped 48 = .ok (.aload_n 0, 1) := by decide +kernel
theorem dX10_areShaped_49 : decode cX10_areShaped 49 = .ok (.getfield 26, 3) := by decide +kernel
theorem dX10_areShaped_52 : decode cX10_areShaped 52 = .ok (.getfield 167, 3) := by decide +kernel
theorem dX10_areShaped_55 : decode cX10_areShaped 55 = .ok (.iload 4, 2) := by decide +kernel
theorem dX10_areShaped_57 : decode cX10_areShaped 57 = .ok (.iaload, 1) := by decide +kernel
theorem dX10_areShaped_58 : decode cX10_areShaped 58 = .ok (.iaload, 1) := by decide +kernel
theorem dX10_areShaped_59 : decode cX10_areShaped 59 = .ok (.iload_n 2, 1) := by decide +kernel
theorem dX10_areShaped_60 : decode cX10_areShaped 60 = .ok (.if_icmp .ne 25, 3) := by decide +kernel
theorem dX10_areShaped_63 : decode cX10_areShaped 63 = .ok (.aload_n 0, 1) := by decide +kernel
theorem dX10_areShaped_64 : decode cX10_areShaped 64 = .ok (.getfield 19, 3) := by decide +kernel
theorem dX10_areShaped_67 : decode cX10_areShaped 67 = .ok (.getfield 144, 3) := by decide +kernel
theorem dX10_areShaped_70 : decode cX10_areShaped 70 = .ok (.aload_n 0, 1) := by decide +kernel
theorem dX10_areShaped_71 : decode cX10_areShaped 71 = .ok (.getfield 26, 3) := by decide +kernel
theorem dX10_areShaped_74 : decode cX10_areShaped 74 = .ok (.getfield 170, 3) := by decide +kernel
theorem dX10_areShaped_77 : decode cX10_areShaped 77 = .ok (.iload 4, 2) := by decide +kernel
theorem dX10_areShaped_79 : decode cX10_areShaped 79 = .ok (.iaload, 1) := by decide +kernel
theorem dX10_areShaped_80 : decode cX10_areShaped 80 = .ok (.iaload, 1) := by decide +kernel
theorem dX10_areShaped_81 : decode cX10_areShaped 81 = .ok (.iload_n 3, 1) := by decide +kernel
theorem dX10_areShaped_82 : decode cX10_areShaped 82 = .ok (.if_icmp .eq 5, 3) := by decide +kernel
theorem dX10_areShaped_85 : decode cX10_areShaped 85 = .ok (.iconst 0, 1) := by decide +kernel
theorem dX10_areShaped_86 : decode cX10_areShaped 86 = .ok (.ireturn, 1) := by decide +kernel
theorem dX10_areShaped_87 : decode cX10_areShaped 87 = .ok (.iinc 4 1, 3) := by decide +kernel
theorem dX10_areShaped_90 : decode cX10_areShaped 90 = .ok (.goto (-87), 3) := by decide +kernel
theorem dX10_areShaped_93 : decode cX10_areShaped 93 = .ok (.iconst 1, 1) := by decide +kernel
theorem dX10_areShaped_94 : decode cX10_areShaped 94 = .ok (.ireturn, 1) := by decide +kernel
theorem dX10_clashes_0 : decode cX10_clashes 0 = .ok (.aload_n 1, 1) := by decide +kernel
theorem dX10_clashes_1 : decode cX10_clashes 1 = .ok (.aload_n 0, 1) := by decide +kernel
theorem dX10_clashes_2 : decode cX10_clashes 2 = .ok (.getfield 26, 3) := by decide +kernel
theorem dX10_clashes_5 : decode cX10_clashes 5 = .ok (.invokevirtual 422, 3) := by decide +kernel
theorem dX10_clashes_8 : decode cX10_clashes 8 = .ok (.istore_n 2, 1) := by decide +kernel
theorem dX10_clashes_9 : decode cX10_clashes 9 = .ok (.iconst 0, 1) := by decide +kernel
theorem dX10_clashes_10 : decode cX10_clashes 10 = .ok (.istore_n 3, 1) := by decide +kernel
theorem dX10_clashes_11 : decode cX10_clashes 11 = .ok (.iload_n 3, 1) := by decide +kernel
theorem dX10_clashes_12 : decode cX10_clashes 12 = .ok (.aload_n 0, 1) := by decide +kernel
theorem dX10_clashes_13 : decode cX10_clashes 13 = .ok (.getfield 19, 3) := by decide +kernel
theorem dX10_clashes_16 : decode cX10_clashes 16 = .ok (.getfield 95, 3) := by decide +kernel
theorem dX10_clashes_19 : decode cX10_clashes 19 = .ok (.if_icmp .ge 46, 3) := by decide +kernel
theorem dX10_clashes_22 : decode cX10_clashes 22 = .ok (.iload_n 2, 1) := by decide +kernel
theorem dX10_clashes_23 : decode cX10_clashes 23 = .ok (.iload_n 3, 1) := by decide +kernel
theorem dX10_clashes_24 : decode cX10_clashes 24 = .ok (.invokestatic 268, 3) := by decide +kernel
theorem dX10_clashes_27 : decode cX10_clashes 27 = .ok (.ifCond .eq 32, 3) := by decide +kernel
theorem dX10_clashes_30 : decode cX10_clashes 30 = .ok (.aload_n 0, 1) := by decide +kernel
theorem dX10_clashes_31 : decode cX10_clashes 31 = .ok (.getfield 19, 3) := by decide +kernel
theorem dX10_clashes_34 : decode cX10_clashes 34 = .ok (.getfield 413, 3) := by decide +kernel
theorem dX10_clashes_37 : decode cX10_clashes 37 = .ok (.iload_n 3, 1) := by decide +kernel
theorem dX10_clashes_38 : decode cX10_clashes 38 = .ok (.iaload, 1) := by decide +kernel
theorem dX10_clashes_39 : decode cX10_clashes 39 = .ok (.aload_n 1, 1) := by decide +kernel
theorem dX10_clashes_40 : decode cX10_clashes 40 = .ok (.getfield 247, 3) := by decide +kernel
theorem dX10_clashes_43 : decode cX10_clashes 43 = .ok (.if_icmp .gt 14, 3) := by decide +kernel
theorem dX10_clashes_46 : decode cX10_clashes 46 = .ok (.aload_n 0, 1) := by decide +kernel
theorem dX10_clashes_47 : decode cX10_clashes 47 = .ok (.getfield 19, 3) := by decide +kernel
theorem dX10_clashes_50 : decode cX10_clashes 50 = .ok (.iload_n 3, 1) := by decide +kernel
theorem dX10_clashes_51 : decode cX10_clashes 51 = .ok (.invokevirtual 395, 3) := by decide +kernel
theorem dX10_clashes_54 : decode cX10_clashes 54 = .ok (.ifCond .ne 5, 3) := by decide +kernel
theorem dX10_clashes_57 : decode cX10_clashes 57 = .ok (.iconst 1, 1) := by decide +kernel
theorem dX10_clashes_58 : decode cX10_clashes 58 = .ok (.ireturn, 1) := by decide +kernel
theorem dX10_clashes_59 : decode cX10_clashes 59 = .ok (.iinc 3 1, 3) := by decide +kernel
theorem dX10_clashes_62 : decode cX10_clashes 62 = .ok (.goto (-51), 3) := by decide +kernel
theorem dX10_clashes_65 : decode cX10_clashes 65 = .ok (.iconst 0, 1) := by decide +kernel
theorem dX10_clashes_66 : decode cX10_clashes 66 = .ok (.ireturn, 1) := by decide +kernel
theorem dX10_breaksLaws_0 : decode cX10_breaksLaws 0 = .ok (.aload_n 0, 1) := by decide +kernel
theorem dX10_breaksLaws_1 : decode cX10_breaksLaws 1 = .ok (.getfield 26, 3) := by decide +kernel
theorem dX10_breaksLaws_4 : decode cX10_breaksLaws 4 = .ok (.getfield 130, 3) := by decide +kernel
theorem dX10_breaksLaws_7 : decode cX10_breaksLaws 7 = .ok (.aload_n 1, 1) := by decide +kernel
theorem dX10_breaksLaws_8 : decode cX10_breaksLaws 8 = .ok (.getfield 236, 3) := by decide +kernel
theorem dX10_breaksLaws_11 : decode cX10_breaksLaws 11 = .ok (.iadd, 1) := by decide +kernel
theorem dX10_breaksLaws_12 : decode cX10_breaksLaws 12 = .ok (.bipush 60, 2) := by decide +kernel
theorem dX10_breaksLaws_14 : decode cX10_breaksLaws 14 = .ok (.if_icmp .gt 19, 3) := by decide +kernel
theorem dX10_breaksLaws_17 : decode cX10_breaksLaws 17 = .ok (.aload_n 0, 1) := by decide +kernel
theorem dX10_breaksLaws_18 : decode cX10_breaksLaws 18 = .ok (.aload_n 1, 1) := by decide +kernel
theorem dX10_breaksLaws_19 : decode cX10_breaksLaws 19 = .ok (.invokevirtual 426, 3) := by decide +kernel
theorem dX10_breaksLaws_22 : decode cX10_breaksLaws 22 = .ok (.ifCond .ne 11, 3) := by decide +kernel
theorem dX10_breaksLaws_25 : decode cX10_breaksLaws 25 = .ok (.aload_n 0, 1) := by decide +kernel
theorem dX10_breaksLaws_26 : decode cX10_breaksLaws 26 = .ok (.aload_n 1, 1) := by decide +kernel
theorem dX10_breaksLaws_27 : decode cX10_breaksLaws 27 = .ok (.invokevirtual 429, 3) := by decide +kernel
theorem dX10_breaksLaws_30 : decode cX10_breaksLaws 30 = .ok (.ifCond .eq 7, 3) := by decide +kernel
theorem dX10_breaksLaws_33 : decode cX10_breaksLaws 33 = .ok (.iconst 1, 1) := by decide +kernel
theorem dX10_breaksLaws_34 : decode cX10_breaksLaws 34 = .ok (.goto 4, 3) := by decide +kernel
theorem dX10_breaksLaws_37 : decode cX10_breaksLaws 37 = .ok (.iconst 0, 1) := by decide +kernel
theorem dX10_breaksLaws_38 : decode cX10_breaksLaws 38 = .ok (.ireturn, 1) := by decide +kernel
theorem dX10_breaksShape_0 : decode cX10_breaksShape 0 = .ok (.iconst 0, 1) := by decide +kernel
theorem dX10_breaksShape_1 : decode cX10_breaksShape 1 = .ok (.istore_n 2, 1) := by decide +kernel
theorem dX10_breaksShape_2 : decode cX10_breaksShape 2 = .ok (.iload_n 2, 1) := by decide +kernel
theorem dX10_breaksShape_3 : decode cX10_breaksShape 3 = .ok (.aload_n 1, 1) := by decide +kernel
theorem dX10_breaksShape_4 : decode cX10_breaksShape 4 = .ok (.getfield 236, 3) := by decide +kernel
theorem dX10_breaksShape_7 : decode cX10_breaksShape 7 = .ok (.if_icmp .ge 39, 3) := by decide +kernel
theorem dX10_breaksShape_10 : decode cX10_breaksShape 10 = .ok (.aload_n 0, 1) := by decide +kernel
theorem dX10_breaksShape_11 : decode cX10_breaksShape 11 = .ok (.getfield 35, 3) := by decide +kernel
theorem dX10_breaksShape_14 : decode cX10_breaksShape 14 = .ok (.aload_n 1, 1) := by decide +kernel
theorem dX10_breaksShape_15 : decode cX10_breaksShape 15 = .ok (.getfield 432, 3) := by decide +kernel
theorem dX10_breaksShape_18 : decode cX10_breaksShape 18 = .ok (.iload_n 2, 1) := by decide +kernel
theorem dX10_breaksShape_19 : decode cX10_breaksShape 19 = .ok (.iaload, 1) := by decide +kernel
theorem dX10_breaksShape_20 : decode cX10_breaksShape 20 = .ok (.aload_n 1, 1) := by decide +kernel
theorem dX10_breaksShape_21 : decode cX10_breaksShape 21 = .ok (.getfield 433, 3) := by decide +kernel
theorem dX10_breaksShape_24 : decode cX10_breaksShape 24 = .ok (.iload_n 2, 1) := by decide +kernel
theorem dX10_breaksShape_25 : decode cX10_breaksShape 25 = .ok (.iaload, 1) := by decide +kernel
theorem dX10_breaksShape_26 : decode cX10_breaksShape 26 = .ok (.aload_n 1, 1) := by decide +kernel
theorem dX10_breaksShape_27 : decode cX10_breaksShape 27 = .ok (.getfield 434, 3) := by decide +kernel
theorem dX10_breaksShape_30 : decode cX10_breaksShape 30 = .ok (.iload_n 2, 1) := by decide +kernel
theorem dX10_breaksShape_31 : decode cX10_breaksShape 31 = .ok (.iaload, 1) := by decide +kernel
theorem dX10_breaksShape_32 : decode cX10_breaksShape 32 = .ok (.invokevirtual 133, 3) := by decide +kernel
theorem dX10_breaksShape_35 : decode cX10_breaksShape 35 = .ok (.ifCond .ne 5, 3) := by decide +kernel
theorem dX10_breaksShape_38 : decode cX10_breaksShape 38 = .ok (.iconst 1, 1) := by decide +kernel
theorem dX10_breaksShape_39 : decode cX10_breaksShape 39 = .ok (.ireturn, 1) := by decide +kernel
theorem dX10_breaksShape_40 : decode cX10_breaksShape 40 = .ok (.iinc 2 1, 3) := by decide +kernel
theorem dX10_breaksShape_43 : decode cX10_breaksShape 43 = .ok (.goto (-41), 3) := by decide +kernel
theorem dX10_breaksShape_46 : decode cX10_breaksShape 46 = .ok (.iconst 0, 1) := by decide +kernel
theorem dX10_breaksShape_47 : decode cX10_breaksShape 47 = .ok (.ireturn, 1) := by decide +kernel
theorem dX10_breaksKey_0 : decode cX10_breaksKey 0 = .ok (.iconst 0, 1) := by decide +kernel
theorem dX10_breaksKey_1 : decode cX10_breaksKey 1 = .ok (.istore_n 2, 1) := by decide +kernel
theorem dX10_breaksKey_2 : decode cX10_breaksKey 2 = .ok (.iload_n 2, 1) := by decide +kernel
theorem dX10_breaksKey_3 : decode cX10_breaksKey 3 = .ok (.aload_n 0, 1) := by decide +kernel
theorem dX10_breaksKey_4 : decode cX10_breaksKey 4 = .ok (.getfield 19, 3) := by decide +kernel
theorem dX10_breaksKey_7 : decode cX10_breaksKey 7 = .ok (.getfield 95, 3) := by decide +kernel
theorem dX10_breaksKey_10 : decode cX10_breaksKey 10 = .ok (.if_icmp .ge 44, 3) := by decide +kernel
theorem dX10_breaksKey_13 : decode cX10_breaksKey 13 = .ok (.aload_n 0, 1) := by decide +kernel
theorem dX10_breaksKey_14 : decode cX10_breaksKey 14 = .ok (.getfield 87, 3) := by decide +kernel
theorem dX10_breaksKey_17 : decode cX10_breaksKey 17 = .ok (.iload_n 2, 1) := by decide +kernel
theorem dX10_breaksKey_18 : decode cX10_breaksKey 18 = .ok (.aload_n 1, 1) := by decide +kernel
theorem dX10_breaksKey_19 : decode cX10_breaksKey 19 = .ok (.getfield 265, 3) := by decide +kernel
theorem dX10_breaksKey_22 : decode cX10_breaksKey 22 = .ok (.iload_n 2, 1) := by decide +kernel
theorem dX10_breaksKey_23 : decode cX10_breaksKey 23 = .ok (.invokestatic 268, 3) := by decide +kernel
theorem dX10_breaksKey_26 : decode cX10_breaksKey 26 = .ok (.ifCond .eq 12, 3) := by decide +kernel
theorem dX10_breaksKey_29 : decode cX10_breaksKey 29 = .ok (.aload_n 1, 1) := by decide +kernel
theorem dX10_breaksKey_30 : decode cX10_breaksKey 30 = .ok (.getfield 271, 3) := by decide +kernel
theorem dX10_breaksKey_33 : decode cX10_breaksKey 33 = .ok (.iload_n 2, 1) := by decide +kernel
theorem dX10_breaksKey_34 : decode cX10_breaksKey 34 = .ok (.iaload, 1) := by decide +kernel
theorem dX10_breaksKey_35 : decode cX10_breaksKey 35 = .ok (.goto 12, 3) := by decide +kernel
theorem dX10_breaksKey_38 : decode cX10_breaksKey 38 = .ok (.aload_n 0, 1) := by decide +kernel
theorem dX10_breaksKey_39 : decode cX10_breaksKey 39 = .ok (.getfield 19, 3) := by decide +kernel
theorem dX10_breaksKey_42 : decode cX10_breaksKey 42 = .ok (.getfield 147, 3) := by decide +kernel
theorem dX10_breaksKey_45 : decode cX10_breaksKey 45 = .ok (.iload_n 2, 1) := by decide +kernel
theorem dX10_breaksKey_46 : decode cX10_breaksKey 46 = .ok (.iaload, 1) := by decide +kernel
theorem dX10_breaksKey_47 : decode cX10_breaksKey 47 = .ok (.iastore, 1) := by decide +kernel
theorem dX10_breaksKey_48 : decode cX10_breaksKey 48 = .ok (.iinc 2 1, 3) := by decide +kernel
theorem dX10_breaksKey_51 : decode cX10_breaksKey 51 = .ok (.goto (-49), 3) := by decide +kernel
theorem dX10_breaksKey_54 : decode cX10_breaksKey 54 = .ok (.iconst 0, 1) := by decide +kernel
theorem dX10_breaksKey_55 : decode cX10_breaksKey 55 = .ok (.istore_n 2, 1) := by decide +kernel
theorem dX10_breaksKey_56 : decode cX10_breaksKey 56 = .ok (.iload_n 2, 1) := by decide +kernel
theorem dX10_breaksKey_57 : decode cX10_breaksKey 57 = .ok (.iconst 4, 1) := by decide +kernel
theorem dX10_breaksKey_58 : decode cX10_breaksKey 58 = .ok (.if_icmp .ge 38, 3) := by decide +kernel
theorem dX10_breaksKey_61 : decode cX10_breaksKey 61 = .ok (.aload_n 0, 1) := by decide +kernel
theorem dX10_breaksKey_62 : decode cX10_breaksKey 62 = .ok (.getfield 35, 3) := by decide +kernel
theorem dX10_breaksKey_65 : decode cX10_breaksKey 65 = .ok (.getfield 177, 3) := by decide +kernel
theorem dX10_breaksKey_68 : decode cX10_breaksKey 68 = .ok (.iload_n 2, 1) := by decide +kernel
theorem dX10_breaksKey_69 : decode cX10_breaksKey 69 = .ok (.baload, 1) := by decide +kernel
theorem dX10_breaksKey_70 : decode cX10_breaksKey 70 = .ok (.ifCond .eq 20, 3) := by decide +kernel
theorem dX10_breaksKey_73 : decode cX10_breaksKey 73 = .ok (.aload_n 0, 1) := by decide +kernel
theorem dX10_breaksKey_74 : decode cX10_breaksKey 74 = .ok (.getfield 35, 3) := by decide +kernel
theorem dX10_breaksKey_77 : decode cX10_breaksKey 77 = .ok (.iload_n 2, 1) := by decide +kernel
theorem dX10_breaksKey_78 : decode cX10_breaksKey 78 = .ok (.aload_n 0, 1) := by decide +kernel
theorem dX10_breaksKey_79 : decode cX10_breaksKey 79 = .ok (.getfield 87, 3) := by decide +kernel
theorem dX10_breaksKey_82 : decode cX10_breaksKey 82 = .ok (.invokevirtual 181, 3) := by decide +kernel
theorem dX10_breaksKey_85 : decode cX10_breaksKey 85 = .ok (.ifCond .eq 5, 3) := by decide +kernel
theorem dX10_breaksKey_88 : decode cX10_breaksKey 88 = .ok (.iconst 1, 1) := by decide +kernel
theorem dX10_breaksKey_89 : decode cX10_breaksKey 89 = .ok (.ireturn, 1) := by decide +kernel
theorem dX10_breaksKey_90 : decode cX10_breaksKey 90 = .ok (.iinc 2 1, 3) := by decide +kernel
theorem dX10_breaksKey_93 : decode cX10_breaksKey 93 = .ok (.goto (-37), 3) := by decide +kernel
theorem dX10_breaksKey_96 : decode cX10_breaksKey 96 = .ok (.iconst 0, 1) := by decide +kernel
theorem dX10_breaksKey_97 : decode cX10_breaksKey 97 = .ok (.ireturn, 1) := by decide +kernel
theorem dX10_writeAll_0 : decode cX10_writeAll 0 = .ok (.aload_n 0, 1) := by decide +kernel
theorem dX10_writeAll_1 : decode cX10_writeAll 1 = .ok (.dup, 1) := by decide +kernel
theorem dX10_writeAll_2 : decode cX10_writeAll 2 = .ok (.getfield 13, 3) := by decide +kernel
theorem dX10_writeAll_5 : decode cX10_writeAll 5 = .ok (.iconst 1, 1) := by decide +kernel
theorem dX10_writeAll_6 : decode cX10_writeAll 6 = .ok (.iadd, 1) := by decide +kernel
theorem dX10_writeAll_7 : decode cX10_writeAll 7 = .ok (.putfield 13, 3) := by decide +kernel
theorem dX10_writeAll_10 : decode cX10_writeAll 10 = .ok (.iconst 0, 1) := by decide +kernel
theorem dX10_writeAll_11 : decode cX10_writeAll 11 = .ok (.istore_n 2, 1) := by decide +kernel
theorem dX10_writeAll_12 : decode cX10_writeAll 12 = .ok (.iload_n 2, 1) := by decide +kernel
theorem dX10_writeAll_13 : decode cX10_writeAll 13 = .ok (.aload_n 0, 1) := by decide +kernel
theorem dX10_writeAll_14 : decode cX10_writeAll 14 = .ok (.getfield 19, 3) := by decide +kernel
theorem dX10_writeAll_17 : decode cX10_writeAll 17 = .ok (.getfield 95, 3) := by decide +kernel
theorem dX10_writeAll_20 : decode cX10_writeAll 20 = .ok (.if_icmp .ge 38, 3) := by decide +kernel
theorem dX10_writeAll_23 : decode cX10_writeAll 23 = .ok (.aload_n 1, 1) := by decide +kernel
theorem dX10_writeAll_24 : decode cX10_writeAll 24 = .ok (.getfield 265, 3) := by decide +kernel
theorem dX10_writeAll_27 : decode cX10_writeAll 27 = .ok (.iload_n 2, 1) := by decide +kernel
theorem dX10_writeAll_28 : decode cX10_writeAll 28 = .ok (.invokestatic 268, 3) := by decide +kernel
theorem dX10_writeAll_31 : decode cX10_writeAll 31 = .ok (.ifCond .eq 21, 3) := by decide +kernel
theorem dX10_writeAll_34 : decode cX10_writeAll 34 = .ok (.aload_n 0, 1) := by decide +kernel
theorem dX10_writeAll_35 : decode cX10_writeAll 35 = .ok (.getfield 19, 3) := by decide +kernel
theorem dX10_writeAll_38 : decode cX10_writeAll 38 = .ok (.iload_n 2, 1) := by decide +kernel
theorem dX10_writeAll_39 : decode cX10_writeAll 39 = .ok (.aload_n 1, 1) := by decide +kernel
theorem dX10_writeAll_40 : decode cX10_writeAll 40 = .ok (.getfield 271, 3) := by decide +kernel
theorem dX10_writeAll_43 : decode cX10_writeAll 43 = .ok (.iload_n 2, 1) := by decide +kernel
theorem dX10_writeAll_44 : decode cX10_writeAll 44 = .ok (.iaload, 1) := by decide +kernel
theorem dX10_writeAll_45 : decode cX10_writeAll 45 = .ok (.aload_n 0, 1) := by decide +kernel
theorem dX10_writeAll_46 : decode cX10_writeAll 46 = .ok (.getfield 13, 3) := by decide +kernel
theorem dX10_writeAll_49 : decode cX10_writeAll 49 = .ok (.invokevirtual 150, 3) := by decide +kernel
theorem dX10_writeAll_52 : decode cX10_writeAll 52 = .ok (.iinc 2 1, 3) := by decide +kernel
theorem dX10_writeAll_55 : decode cX10_writeAll 55 = .ok (.goto (-43), 3) := by decide +kernel
theorem dX10_writeAll_58 : decode cX10_writeAll 58 = .ok (.iconst 0, 1) := by decide +kernel
theorem dX10_writeAll_59 : decode cX10_writeAll 59 = .ok (.istore_n 2, 1) := by decide +kernel
theorem dX10_writeAll_60 : decode cX10_writeAll 60 = .ok (.iload_n 2, 1) := by decide +kernel
theorem dX10_writeAll_61 : decode cX10_writeAll 61 = .ok (.aload_n 0, 1) := by decide +kernel
theorem dX10_writeAll_62 : decode cX10_writeAll 62 = .ok (.getfield 26, 3) := by decide +kernel
theorem dX10_writeAll_65 : decode cX10_writeAll 65 = .ok (.getfield 130, 3) := by decide +kernel
theorem dX10_writeAll_68 : decode cX10_writeAll 68 = .ok (.if_icmp .ge 22, 3) := by decide +kernel
theorem dX10_writeAll_71 : decode cX10_writeAll 71 = .ok (.aload_n 1, 1) := by decide +kernel
theorem dX10_writeAll_72 : decode cX10_writeAll 72 = .ok (.iload_n 2, 1) := by decide +kernel
theorem dX10_writeAll_73 : decode cX10_writeAll 73 = .ok (.invokevirtual 254, 3) := by decide +kernel
theorem dX10_writeAll_76 : decode cX10_writeAll 76 = .ok (.ifCond .eq 8, 3) := by decide +kernel
theorem dX10_writeAll_79 : decode cX10_writeAll 79 = .ok (.aload_n 0, 1) := by decide +kernel
theorem dX10_writeAll_80 : decode cX10_writeAll 80 = .ok (.iload_n 2, 1) := by decide +kernel
theorem dX10_writeAll_81 : decode cX10_writeAll 81 = .ok (.invokevirtual 157, 3) := by decide +kernel
theorem dX10_writeAll_84 : decode cX10_writeAll 84 = .ok (.iinc 2 1, 3) := by decide +kernel
theorem dX10_writeAll_87 : decode cX10_writeAll 87 = .ok (.goto (-27), 3) := by decide +kernel
theorem dX10_writeAll_90 : decode cX10_writeAll 90 = .ok (.iconst 0, 1) := by decide +kernel
theorem dX10_writeAll_91 : decode cX10_writeAll 91 = .ok (.istore_n 2, 1) := by decide +kernel
theorem dX10_writeAll_92 : decode cX10_writeAll 92 = .ok (.iload_n 2, 1) := by decide +kernel
theorem dX10_writeAll_93 : decode cX10_writeAll 93 = .ok (.aload_n 1, 1) := by decide +kernel
theorem dX10_writeAll_94 : decode cX10_writeAll 94 = .ok (.getfield 236, 3) := by decide +kernel
theorem dX10_writeAll_97 : decode cX10_writeAll 97 = .ok (.if_icmp .ge 32, 3) := by decide +kernel
theorem dX10_writeAll_100 : decode cX10_writeAll 100 = .ok (.aload_n 0, 1) := by decide +kernel
theorem dX10_writeAll_101 : decode cX10_writeAll 101 = .ok (.aload_n 1, 1) := by decide +kernel
theorem dX10_writeAll_102 : decode cX10_writeAll 102 = .ok (.getfield 432, 3) := by decide +kernel
theorem dX10_writeAll_105 : decode cX10_writeAll 105 = .ok (.iload_n 2, 1) := by decide +kernel
theorem dX10_writeAll_106 : decode cX10_writeAll 106 = .ok (.iaload, 1) := by decide +kernel
theorem dX10_writeAll_107 : decode cX10_writeAll 107 = .ok (.aload_n 1, 1) := by decide +kernel
theorem dX10_writeAll_108 : decode cX10_writeAll 108 = .ok (.getfield 433, 3) := by decide +kernel
theorem dX10_writeAll_111 : decode cX10_writeAll 111 = .ok (.iload_n 2, 1) := by decide +kernel
theorem dX10_writeAll_112 : decode cX10_writeAll 112 = .ok (.iaload, 1) := by decide +kernel
theorem dX10_writeAll_113 : decode cX10_writeAll 113 = .ok (.aload_n 1, 1) := by decide +kernel
theorem dX10_writeAll_114 : decode cX10_writeAll 114 = .ok (.getfield 434, 3) := by decide +kernel
theorem dX10_writeAll_117 : decode cX10_writeAll 117 = .ok (.iload_n 2, 1) := by decide +kernel
theorem dX10_writeAll_118 : decode cX10_writeAll 118 = .ok (.iaload, 1) := by decide +kernel
theorem dX10_writeAll_119 : decode cX10_writeAll 119 = .ok (.invokevirtual 138, 3) := by decide +kernel
theorem dX10_writeAll_122 : decode cX10_writeAll 122 = .ok (.pop, 1) := by decide +kernel
theorem dX10_writeAll_123 : decode cX10_writeAll 123 = .ok (.iinc 2 1, 3) := by decide +kernel
theorem dX10_writeAll_126 : decode cX10_writeAll 126 = .ok (.goto (-34), 3) := by decide +kernel
theorem dX10_writeAll_129 : decode cX10_writeAll 129 = .ok (.aload_n 1, 1) := by decide +kernel
theorem dX10_writeAll_130 : decode cX10_writeAll 130 = .ok (.getfield 435, 3) := by decide +kernel
theorem dX10_writeAll_133 : decode cX10_writeAll 133 = .ok (.lconst 0, 1) := by decide +kernel
theorem dX10_writeAll_134 : decode cX10_writeAll 134 = .ok (.lcmp, 1) := by decide +kernel
theorem dX10_writeAll_135 : decode cX10_writeAll 135 = .ok (.ifCond .eq 17, 3) := by decide +kernel
theorem dX10_writeAll_138 : decode cX10_writeAll 138 = .ok (.aload_n 0, 1) := by decide +kernel
theorem dX10_writeAll_139 : decode cX10_writeAll 139 = .ok (.getfield 69, 3) := by decide +kernel
theorem dX10_writeAll_142 : decode cX10_writeAll 142 = .ok (.aload_n 0, 1) := by decide +kernel
theorem dX10_writeAll_143 : decode cX10_writeAll 143 = .ok (.getfield 19, 3) := by decide +kernel
theorem dX10_writeAll_146 : decode cX10_writeAll 146 = .ok (.getfield 342, 3) := by decide +kernel
theorem dX10_writeAll_149 : decode cX10_writeAll 149 = .ok (.invokevirtual 419, 3) := by decide +kernel
theorem dX10_writeAll_152 : decode cX10_writeAll 152 = .ok (.aload_n 0, 1) := by decide +kernel
theorem dX10_writeAll_153 : decode cX10_writeAll 153 = .ok (.getfield 53, 3) := by decide +kernel
theorem dX10_writeAll_156 : decode cX10_writeAll 156 = .ok (.invokevirtual 141, 3) := by decide +kernel
theorem dX10_writeAll_159 : decode cX10_writeAll 159 = .ok (.return_, 1) := by decide +kernel
theorem dX10_walkedFrom_0 : decode cX10_walkedFrom 0 = .ok (.aload_n 0, 1) := by decide +kernel
theorem dX10_walkedFrom_1 : decode cX10_walkedFrom 1 = .ok (.getfield 44, 3) := by decide +kernel
theorem dX10_walkedFrom_4 : decode cX10_walkedFrom 4 = .ok (.invokevirtual 331, 3) := by decide +kernel
theorem dX10_walkedFrom_7 : decode cX10_walkedFrom 7 = .ok (.istore_n 3, 1) := by decide +kernel
theorem dX10_walkedFrom_8 : decode cX10_walkedFrom 8 = .ok (.iload_n 1, 1) := by decide +kernel
theorem dX10_walkedFrom_9 : decode cX10_walkedFrom 9 = .ok (.invokestatic 384, 3) := by decide +kernel
theorem dX10_walkedFrom_12 : decode cX10_walkedFrom 12 = .ok (.iload_n 3, 1) := by decide +kernel
theorem dX10_walkedFrom_13 : decode cX10_walkedFrom 13 = .ok (.iand, 1) := by decide +kernel
theorem dX10_walkedFrom_14 : decode cX10_walkedFrom 14 = .ok (.istore 4, 2) := by decide +kernel
theorem dX10_walkedFrom_16 : decode cX10_walkedFrom 16 = .ok (.iconst 0, 1) := by decide +kernel
theorem dX10_walkedFrom_17 : decode cX10_walkedFrom 17 = .ok (.istore 5, 2) := by decide +kernel
theorem dX10_walkedFrom_19 : decode cX10_walkedFrom 19 = .ok (.iload 5, 2) := by decide +kernel
theorem dX10_walkedFrom_21 : decode cX10_walkedFrom 21 = .ok (.iload_n 2, 1) := by decide +kernel
theorem dX10_walkedFrom_22 : decode cX10_walkedFrom 22 = .ok (.if_icmp .ge 25, 3) := by decide +kernel
theorem dX10_walkedFrom_25 : decode cX10_walkedFrom 25 = .ok (.iload 4, 2) := by decide +kernel
theorem dX10_walkedFrom_27 : decode cX10_walkedFrom 27 = .ok (.aload_n 0, 1) := by decide +kernel
theorem dX10_walkedFrom_28 : decode cX10_walkedFrom 28 = .ok (.getfield 26, 3) := by decide +kernel
theorem dX10_walkedFrom_31 : decode cX10_walkedFrom 31 = .ok (.iload 4, 2) := by decide +kernel
theorem dX10_walkedFrom_33 : decode cX10_walkedFrom 33 = .ok (.invokevirtual 439, 3) := by decide +kernel
theorem dX10_walkedFrom_36 : decode cX10_walkedFrom 36 = .ok (.iload_n 3, 1) := by decide +kernel
theorem dX10_walkedFrom_37 : decode cX10_walkedFrom 37 = .ok (.iand, 1) := by decide +kernel
theorem dX10_walkedFrom_38 : decode cX10_walkedFrom 38 = .ok (.ior, 1) := by decide +kernel
theorem dX10_walkedFrom_39 : decode cX10_walkedFrom 39 = .ok (.istore 4, 2) := by decide +kernel
theorem dX10_walkedFrom_41 : decode cX10_walkedFrom 41 = .ok (.iinc 5 1, 3) := by decide +kernel
theorem dX10_walkedFrom_44 : decode cX10_walkedFrom 44 = .ok (.goto (-25), 3) := by decide +kernel
theorem dX10_walkedFrom_47 : decode cX10_walkedFrom 47 = .ok (.iload 4, 2) := by decide +kernel
theorem dX10_walkedFrom_49 : decode cX10_walkedFrom 49 = .ok (.ireturn, 1) := by decide +kernel
theorem dX10_bit_0 : decode cX10_bit 0 = .ok (.iconst 1, 1) := by decide +kernel
theorem dX10_bit_1 : decode cX10_bit 1 = .ok (.iload_n 0, 1) := by decide +kernel
theorem dX10_bit_2 : decode cX10_bit 2 = .ok (.ishl, 1) := by decide +kernel
theorem dX10_bit_3 : decode cX10_bit 3 = .ok (.ireturn, 1) := by decide +kernel
theorem dX10_has_0 : decode cX10_has 0 = .ok (.iload_n 0, 1) := by decide +kernel
theorem dX10_has_1 : decode cX10_has 1 = .ok (.iload_n 1, 1) := by decide +kernel
theorem dX10_has_2 : decode cX10_has 2 = .ok (.iushr, 1) := by decide +kernel
theorem dX10_has_3 : decode cX10_has 3 = .ok (.iconst 1, 1) := by decide +kernel
theorem dX10_has_4 : decode cX10_has 4 = .ok (.iand, 1) := by decide +kernel
theorem dX10_has_5 : decode cX10_has 5 = .ok (.ifCond .eq 7, 3) := by decide +kernel
theorem dX10_has_8 : decode cX10_has 8 = .ok (.iconst 1, 1) := by decide +kernel
theorem dX10_has_9 : decode cX10_has 9 = .ok (.goto 4, 3) := by decide +kernel
theorem dX10_has_12 : decode cX10_has 12 = .ok (.iconst 0, 1) := by decide +kernel
theorem dX10_has_13 : decode cX10_has 13 = .ok (.ireturn, 1) := by decide +kernel
theorem dX10_lowest_0 : decode cX10_lowest 0 = .ok (.iconst 0, 1) := by decide +kernel
theorem dX10_lowest_1 : decode cX10_lowest 1 = .ok (.istore_n 1, 1) := by decide +kernel
theorem dX10_lowest_2 : decode cX10_lowest 2 = .ok (.iload_n 1, 1) := by decide +kernel
theorem dX10_lowest_3 : decode cX10_lowest 3 = .ok (.bipush 24, 2) := by decide +kernel
theorem dX10_lowest_5 : decode cX10_lowest 5 = .ok (.if_icmp .ge 19, 3) := by decide +kernel
theorem dX10_lowest_8 : decode cX10_lowest 8 = .ok (.iload_n 0, 1) := by decide +kernel
theorem dX10_lowest_9 : decode cX10_lowest 9 = .ok (.iload_n 1, 1) := by decide +kernel
theorem dX10_lowest_10 : decode cX10_lowest 10 = .ok (.invokestatic 268, 3) := by decide +kernel
theorem dX10_lowest_13 : decode cX10_lowest 13 = .ok (.ifCond .eq 5, 3) := by decide +kernel
theorem dX10_lowest_16 : decode cX10_lowest 16 = .ok (.iload_n 1, 1) := by decide +kernel
theorem dX10_lowest_17 : decode cX10_lowest 17 = .ok (.ireturn, 1) := by decide +kernel
theorem dX10_lowest_18 : decode cX10_lowest 18 = .ok (.iinc 1 1, 3) := by decide +kernel
theorem dX10_lowest_21 : decode cX10_lowest 21 = .ok (.goto (-19), 3) := by decide +kernel
theorem dX10_lowest_24 : decode cX10_lowest 24 = .ok (.iconst (-1), 1) := by decide +kernel
theorem dX10_lowest_25 : decode cX10_lowest 25 = .ok (.ireturn, 1) := by decide +kernel
