theorem dX11_breaks_5 : decode cX11_breaks 5 = .ok (.getfield 87, 3) := by decide +kernel
theorem dX11_breaks_8 : decode cX11_breaks 8 = .ok (.iload_n 1, 1) := by decide +kernel
theorem dX11_breaks_9 : decode cX11_breaks 9 = .ok (.iaload, 1) := by decide +kernel
theorem dX11_breaks_10 : decode cX11_breaks 10 = .ok (.iadd, 1) := by decide +kernel
theorem dX11_breaks_11 : decode cX11_breaks 11 = .ok (.bipush 60, 2) := by decide +kernel
theorem dX11_breaks_13 : decode cX11_breaks 13 = .ok (.if_icmp .le 7, 3) := by decide +kernel
theorem dX11_breaks_16 : decode cX11_breaks 16 = .ok (.iconst 1, 1) := by decide +kernel
theorem dX11_breaks_17 : decode cX11_breaks 17 = .ok (.goto 4, 3) := by decide +kernel
theorem dX11_breaks_20 : decode cX11_breaks 20 = .ok (.iconst 0, 1) := by decide +kernel
theorem dX11_breaks_21 : decode cX11_breaks 21 = .ok (.istore_n 2, 1) := by decide +kernel
theorem dX11_breaks_22 : decode cX11_breaks 22 = .ok (.bipush 8, 2) := by decide +kernel
theorem dX11_breaks_24 : decode cX11_breaks 24 = .ok (.iload_n 1, 1) := by decide +kernel
theorem dX11_breaks_25 : decode cX11_breaks 25 = .ok (.imul, 1) := by decide +kernel
theorem dX11_breaks_26 : decode cX11_breaks 26 = .ok (.istore_n 3, 1) := by decide +kernel
theorem dX11_breaks_27 : decode cX11_breaks 27 = .ok (.iload_n 3, 1) := by decide +kernel
theorem dX11_breaks_28 : decode cX11_breaks 28 = .ok (.bipush 8, 2) := by decide +kernel
theorem dX11_breaks_30 : decode cX11_breaks 30 = .ok (.iload_n 1, 1) := by decide +kernel
theorem dX11_breaks_31 : decode cX11_breaks 31 = .ok (.imul, 1) := by decide +kernel
theorem dX11_breaks_32 : decode cX11_breaks 32 = .ok (.aload_n 0, 1) := by decide +kernel
theorem dX11_breaks_33 : decode cX11_breaks 33 = .ok (.getfield 87, 3) := by decide +kernel
theorem dX11_breaks_36 : decode cX11_breaks 36 = .ok (.iload_n 1, 1) := by decide +kernel
theorem dX11_breaks_37 : decode cX11_breaks 37 = .ok (.iaload, 1) := by decide +kernel
theorem dX11_breaks_38 : decode cX11_breaks 38 = .ok (.iadd, 1) := by decide +kernel
theorem dX11_breaks_39 : decode cX11_breaks 39 = .ok (.if_icmp .ge 44, 3) := by decide +kernel
theorem dX11_breaks_42 : decode cX11_breaks 42 = .ok (.iload_n 2, 1) := by decide +kernel
theorem dX11_breaks_43 : decode cX11_breaks 43 = .ok (.ifCond .ne 28, 3) := by decide +kernel
theorem dX11_breaks_46 : decode cX11_breaks 46 = .ok (.aload_n 0, 1) := by decide +kernel
theorem dX11_breaks_47 : decode cX11_breaks 47 = .ok (.aload_n 0, 1) := by decide +kernel
theorem dX11_breaks_48 : decode cX11_breaks 48 = .ok (.getfield 96, 3) := by decide +kernel
theorem dX11_breaks_51 : decode cX11_breaks 51 = .ok (.iload_n 3, 1) := by decide +kernel
theorem dX11_breaks_52 : decode cX11_breaks 52 = .ok (.iaload, 1) := by decide +kernel
theorem dX11_breaks_53 : decode cX11_breaks 53 = .ok (.aload_n 0, 1) := by decide +kernel
theorem dX11_breaks_54 : decode cX11_breaks 54 = .ok (.getfield 90, 3) := by decide +kernel
theorem dX11_breaks_57 : decode cX11_breaks 57 = .ok (.iload_n 3, 1) := by decide +kernel
theorem dX11_breaks_58 : decode cX11_breaks 58 = .ok (.iaload, 1) := by decide +kernel
theorem dX11_breaks_59 : decode cX11_breaks 59 = .ok (.aload_n 0, 1) := by decide +kernel
theorem dX11_breaks_60 : decode cX11_breaks 60 = .ok (.getfield 93, 3) := by decide +kernel
theorem dX11_breaks_63 : decode cX11_breaks 63 = .ok (.iload_n 3, 1) := by decide +kernel
theorem dX11_breaks_64 : decode cX11_breaks 64 = .ok (.iaload, 1) := by decide +kernel
theorem dX11_breaks_65 : decode cX11_breaks 65 = .ok (.invokevirtual 188, 3) := by decide +kernel
theorem dX11_breaks_68 : decode cX11_breaks 68 = .ok (.ifCond .ne 7, 3) := by decide +kernel
theorem dX11_breaks_71 : decode cX11_breaks 71 = .ok (.iconst 1, 1) := by decide +kernel
theorem dX11_breaks_72 : decode cX11_breaks 72 = .ok (.goto 4, 3) := by decide +kernel
theorem dX11_breaks_75 : decode cX11_breaks 75 = .ok (.iconst 0, 1) := by decide +kernel
theorem dX11_breaks_76 : decode cX11_breaks 76 = .ok (.istore_n 2, 1) := by decide +kernel
theorem dX11_breaks_77 : decode cX11_breaks 77 = .ok (.iinc 3 1, 3) := by decide +kernel
theorem dX11_breaks_80 : decode cX11_breaks 80 = .ok (.goto (-53), 3) := by decide +kernel
theorem dX11_breaks_83 : decode cX11_breaks 83 = .ok (.iconst 0, 1) := by decide +kernel
theorem dX11_breaks_84 : decode cX11_breaks 84 = .ok (.istore_n 3, 1) := by decide +kernel
theorem dX11_breaks_85 : decode cX11_breaks 85 = .ok (.iload_n 3, 1) := by decide +kernel
theorem dX11_breaks_86 : decode cX11_breaks 86 = .ok (.aload_n 0, 1) := by decide +kernel
theorem dX11_breaks_87 : decode cX11_breaks 87 = .ok (.getfield 150, 3) := by decide +kernel
theorem dX11_breaks_90 : decode cX11_breaks 90 = .ok (.if_icmp .ge 132, 3) := by decide +kernel
theorem dX11_breaks_93 : decode cX11_breaks 93 = .ok (.iconst 0, 1) := by decide +kernel
theorem dX11_breaks_94 : decode cX11_breaks 94 = .ok (.istore 4, 2) := by decide +kernel
theorem dX11_breaks_96 : decode cX11_breaks 96 = .ok (.iload 4, 2) := by decide +kernel
theorem dX11_breaks_98 : decode cX11_breaks 98 = .ok (.aload_n 0, 1) := by decide +kernel
theorem dX11_breaks_99 : decode cX11_breaks 99 = .ok (.getfield 150, 3) := by decide +kernel
theorem dX11_breaks_102 : decode cX11_breaks 102 = .ok (.if_icmp .ge 114, 3) := by decide +kernel
theorem dX11_breaks_105 : decode cX11_breaks 105 = .ok (.iload_n 3, 1) := by decide +kernel
theorem dX11_breaks_106 : decode cX11_breaks 106 = .ok (.iload 4, 2) := by decide +kernel
theorem dX11_breaks_108 : decode cX11_breaks 108 = .ok (.if_icmp .eq 68, 3) := by decide +kernel
theorem dX11_breaks_111 : decode cX11_breaks 111 = .ok (.aload_n 0, 1) := by decide +kernel
theorem dX11_breaks_112 : decode cX11_breaks 112 = .ok (.iload_n 3, 1) := by decide +kernel
theorem dX11_breaks_113 : decode cX11_breaks 113 = .ok (.invokevirtual 163, 3) := by decide +kernel
theorem dX11_breaks_116 : decode cX11_breaks 116 = .ok (.ifCond .eq 60, 3) := by decide +kernel
theorem dX11_breaks_119 : decode cX11_breaks 119 = .ok (.aload_n 0, 1) := by decide +kernel
theorem dX11_breaks_120 : decode cX11_breaks 120 = .ok (.iload 4, 2) := by decide +kernel
theorem dX11_breaks_122 : decode cX11_breaks 122 = .ok (.invokevirtual 163, 3) := by decide +kernel
theorem dX11_breaks_125 : decode cX11_breaks 125 = .ok (.ifCond .eq 51, 3) := by decide +kernel
theorem dX11_breaks_128 : decode cX11_breaks 128 = .ok (.aload_n 0, 1) := by decide +kernel
theorem dX11_breaks_129 : decode cX11_breaks 129 = .ok (.getfield 81, 3) := by decide +kernel
theorem dX11_breaks_132 : decode cX11_breaks 132 = .ok (.bipush 24, 2) := by decide +kernel
theorem dX11_breaks_134 : decode cX11_breaks 134 = .ok (.iload_n 1, 1) := by decide +kernel
theorem dX11_breaks_135 : decode cX11_breaks 135 = .ok (.imul, 1) := by decide +kernel
theorem dX11_breaks_136 : decode cX11_breaks 136 = .ok (.iload_n 3, 1) := by decide +kernel
theorem dX11_breaks_137 : decode cX11_breaks 137 = .ok (.iadd, 1) := by decide +kernel
theorem dX11_breaks_138 : decode cX11_breaks 138 = .ok (.baload, 1) := by decide +kernel
theorem dX11_breaks_139 : decode cX11_breaks 139 = .ok (.ifCond .eq 37, 3) := by decide +kernel
theorem dX11_breaks_142 : decode cX11_breaks 142 = .ok (.aload_n 0, 1) := by decide +kernel
theorem dX11_breaks_143 : decode cX11_breaks 143 = .ok (.getfield 63, 3) := by decide +kernel
theorem dX11_breaks_146 : decode cX11_breaks 146 = .ok (.aload_n 0, 1) := by decide +kernel
theorem dX11_breaks_147 : decode cX11_breaks 147 = .ok (.getfield 7, 3) := by decide +kernel
theorem dX11_breaks_150 : decode cX11_breaks 150 = .ok (.iload_n 3, 1) := by decide +kernel
theorem dX11_breaks_151 : decode cX11_breaks 151 = .ok (.iaload, 1) := by decide +kernel
theorem dX11_breaks_152 : decode cX11_breaks 152 = .ok (.baload, 1) := by decide +kernel
theorem dX11_breaks_153 : decode cX11_breaks 153 = .ok (.ifCond .eq 23, 3) := by decide +kernel
theorem dX11_breaks_156 : decode cX11_breaks 156 = .ok (.aload_n 0, 1) := by decide +kernel
theorem dX11_breaks_157 : decode cX11_breaks 157 = .ok (.getfield 7, 3) := by decide +kernel
theorem dX11_breaks_160 : decode cX11_breaks 160 = .ok (.iload_n 3, 1) := by decide +kernel
theorem dX11_breaks_161 : decode cX11_breaks 161 = .ok (.iaload, 1) := by decide +kernel
theorem dX11_breaks_162 : decode cX11_breaks 162 = .ok (.aload_n 0, 1) := by decide +kernel
theorem dX11_breaks_163 : decode cX11_breaks 163 = .ok (.getfield 7, 3) := by decide +kernel
theorem dX11_breaks_166 : decode cX11_breaks 166 = .ok (.iload 4, 2) := by decide +kernel
theorem dX11_breaks_168 : decode cX11_breaks 168 = .ok (.iaload, 1) := by decide +kernel
theorem dX11_breaks_169 : decode cX11_breaks 169 = .ok (.if_icmp .ne 7, 3) := by decide +kernel
theorem dX11_breaks_172 : decode cX11_breaks 172 = .ok (.iconst 1, 1) := by decide +kernel
theorem dX11_breaks_173 : decode cX11_breaks 173 = .ok (.goto 4, 3) := by decide +kernel
theorem dX11_breaks_176 : decode cX11_breaks 176 = .ok (.iconst 0, 1) := by decide +kernel
theorem dX11_breaks_177 : decode cX11_breaks 177 = .ok (.istore 5, 2) := by decide +kernel
theorem dX11_breaks_179 : decode cX11_breaks 179 = .ok (.iload_n 2, 1) := by decide +kernel
theorem dX11_breaks_180 : decode cX11_breaks 180 = .ok (.ifCond .ne 24, 3) := by decide +kernel
theorem dX11_breaks_183 : decode cX11_breaks 183 = .ok (.iload 5, 2) := by decide +kernel
theorem dX11_breaks_185 : decode cX11_breaks 185 = .ok (.ifCond .eq 23, 3) := by decide +kernel
theorem dX11_breaks_188 : decode cX11_breaks 188 = .ok (.aload_n 0, 1) := by decide +kernel
theorem dX11_breaks_189 : decode cX11_breaks 189 = .ok (.iload_n 1, 1) := by decide +kernel
theorem dX11_breaks_190 : decode cX11_breaks 190 = .ok (.iload_n 3, 1) := by decide +kernel
theorem dX11_breaks_191 : decode cX11_breaks 191 = .ok (.invokevirtual 233, 3) := by decide +kernel
theorem dX11_breaks_194 : decode cX11_breaks 194 = .ok (.aload_n 0, 1) := by decide +kernel
theorem dX11_breaks_195 : decode cX11_breaks 195 = .ok (.iload_n 1, 1) := by decide +kernel
theorem dX11_breaks_196 : decode cX11_breaks 196 = .ok (.iload 4, 2) := by decide +kernel
theorem dX11_breaks_198 : decode cX11_breaks 198 = .ok (.invokevirtual 233, 3) := by decide +kernel
theorem dX11_breaks_201 : decode cX11_breaks 201 = .ok (.if_icmp .ne 7, 3) := by decide +kernel
theorem dX11_breaks_204 : decode cX11_breaks 204 = .ok (.iconst 1, 1) := by decide +kernel
theorem dX11_breaks_205 : decode cX11_breaks 205 = .ok (.goto 4, 3) := by decide +kernel
theorem dX11_breaks_208 : decode cX11_breaks 208 = .ok (.iconst 0, 1) := by decide +kernel
theorem dX11_breaks_209 : decode cX11_breaks 209 = .ok (.istore_n 2, 1) := by decide +kernel
theorem dX11_breaks_210 : decode cX11_breaks 210 = .ok (.iinc 4 1, 3) := by decide +kernel
theorem dX11_breaks_213 : decode cX11_breaks 213 = .ok (.goto (-117), 3) := by decide +kernel
theorem dX11_breaks_216 : decode cX11_breaks 216 = .ok (.iinc 3 1, 3) := by decide +kernel
theorem dX11_breaks_219 : decode cX11_breaks 219 = .ok (.goto (-134), 3) := by decide +kernel
theorem dX11_breaks_222 : decode cX11_breaks 222 = .ok (.iload_n 2, 1) := by decide +kernel
theorem dX11_breaks_223 : decode cX11_breaks 223 = .ok (.ireturn, 1) := by decide +kernel
theorem dX11_commit_0 : decode cX11_commit 0 = .ok (.aload_n 0, 1) := by decide +kernel
theorem dX11_commit_1 : decode cX11_commit 1 = .ok (.aload_n 0, 1) := by decide +kernel
theorem dX11_commit_2 : decode cX11_commit 2 = .ok (.iload_n 1, 1) := by decide +kernel
theorem dX11_commit_3 : decode cX11_commit 3 = .ok (.invokevirtual 217, 3) := by decide +kernel
theorem dX11_commit_6 : decode cX11_commit 6 = .ok (.ifCond .eq 7, 3) := by decide +kernel
theorem dX11_commit_9 : decode cX11_commit 9 = .ok (.iconst 0, 1) := by decide +kernel
theorem dX11_commit_10 : decode cX11_commit 10 = .ok (.goto 4, 3) := by decide +kernel
theorem dX11_commit_13 : decode cX11_commit 13 = .ok (.iconst 1, 1) := by decide +kernel
theorem dX11_commit_14 : decode cX11_commit 14 = .ok (.invokevirtual 181, 3) := by decide +kernel
theorem dX11_commit_17 : decode cX11_commit 17 = .ok (.ifCond .eq 5, 3) := by decide +kernel
theorem dX11_commit_20 : decode cX11_commit 20 = .ok (.iconst 0, 1) := by decide +kernel
theorem dX11_commit_21 : decode cX11_commit 21 = .ok (.ireturn, 1) := by decide +kernel
theorem dX11_commit_22 : decode cX11_commit 22 = .ok (.aload_n 0, 1) := by decide +kernel
theorem dX11_commit_23 : decode cX11_commit 23 = .ok (.getfield 75, 3) := by decide +kernel
theorem dX11_commit_26 : decode cX11_commit 26 = .ok (.iload_n 1, 1) := by decide +kernel
theorem dX11_commit_27 : decode cX11_commit 27 = .ok (.iconst 0, 1) := by decide +kernel
theorem dX11_commit_28 : decode cX11_commit 28 = .ok (.bastore, 1) := by decide +kernel
theorem dX11_commit_29 : decode cX11_commit 29 = .ok (.aload_n 0, 1) := by decide +kernel
theorem dX11_commit_30 : decode cX11_commit 30 = .ok (.iload_n 1, 1) := by decide +kernel
theorem dX11_commit_31 : decode cX11_commit 31 = .ok (.invokevirtual 236, 3) := by decide +kernel
theorem dX11_commit_34 : decode cX11_commit 34 = .ok (.istore_n 3, 1) := by decide +kernel
theorem dX11_commit_35 : decode cX11_commit 35 = .ok (.iload_n 2, 1) := by decide +kernel
theorem dX11_commit_36 : decode cX11_commit 36 = .ok (.ifCond .eq 7, 3) := by decide +kernel
theorem dX11_commit_39 : decode cX11_commit 39 = .ok (.iload_n 3, 1) := by decide +kernel
theorem dX11_commit_40 : decode cX11_commit 40 = .ok (.ifCond .ne 8, 3) := by decide +kernel
theorem dX11_commit_43 : decode cX11_commit 43 = .ok (.aload_n 0, 1) := by decide +kernel
theorem dX11_commit_44 : decode cX11_commit 44 = .ok (.getfield 160, 3) := by decide +kernel
theorem dX11_commit_47 : decode cX11_commit 47 = .ok (.ireturn, 1) := by decide +kernel
theorem dX11_commit_48 : decode cX11_commit 48 = .ok (.iconst 0, 1) := by decide +kernel
theorem dX11_commit_49 : decode cX11_commit 49 = .ok (.istore 4, 2) := by decide +kernel
theorem dX11_commit_51 : decode cX11_commit 51 = .ok (.iload 4, 2) := by decide +kernel
theorem dX11_commit_53 : decode cX11_commit 53 = .ok (.aload_n 0, 1) := by decide +kernel
theorem dX11_commit_54 : decode cX11_commit 54 = .ok (.getfield 150, 3) := by decide +kernel
theorem dX11_commit_57 : decode cX11_commit 57 = .ok (.if_icmp .ge 45, 3) := by decide +kernel
theorem dX11_commit_60 : decode cX11_commit 60 = .ok (.iload_n 3, 1) := by decide +kernel
theorem dX11_commit_61 : decode cX11_commit 61 = .ok (.iload 4, 2) := by decide +kernel
theorem dX11_commit_63 : decode cX11_commit 63 = .ok (.invokestatic 142, 3) := by decide +kernel
theorem dX11_commit_66 : decode cX11_commit 66 = .ok (.ifCond .eq 30, 3) := by decide +kernel
theorem dX11_commit_69 : decode cX11_commit 69 = .ok (.aload_n 0, 1) := by decide +kernel
theorem dX11_commit_70 : decode cX11_commit 70 = .ok (.iload 4, 2) := by decide +kernel
theorem dX11_commit_72 : decode cX11_commit 72 = .ok (.invokevirtual 163, 3) := by decide +kernel
theorem dX11_commit_75 : decode cX11_commit 75 = .ok (.ifCond .eq 19, 3) := by decide +kernel
theorem dX11_commit_78 : decode cX11_commit 78 = .ok (.aload_n 0, 1) := by decide +kernel
theorem dX11_commit_79 : decode cX11_commit 79 = .ok (.getfield 25, 3) := by decide +kernel
theorem dX11_commit_82 : decode cX11_commit 82 = .ok (.iload 4, 2) := by decide +kernel
theorem dX11_commit_84 : decode cX11_commit 84 = .ok (.iaload, 1) := by decide +kernel
theorem dX11_commit_85 : decode cX11_commit 85 = .ok (.aload_n 0, 1) := by decide +kernel
theorem dX11_commit_86 : decode cX11_commit 86 = .ok (.getfield 78, 3) := by decide +kernel
theorem dX11_commit_89 : decode cX11_commit 89 = .ok (.iload_n 1, 1) := by decide +kernel
theorem dX11_commit_90 : decode cX11_commit 90 = .ok (.iaload, 1) := by decide +kernel
theorem dX11_commit_91 : decode cX11_commit 91 = .ok (.if_icmp .le 5, 3) := by decide +kernel
theorem dX11_commit_94 : decode cX11_commit 94 = .ok (.iconst (-1), 1) := by decide +kernel
theorem dX11_commit_95 : decode cX11_commit 95 = .ok (.ireturn, 1) := by decide +kernel
theorem dX11_commit_96 : decode cX11_commit 96 = .ok (.iinc 4 1, 3) := by decide +kernel
theorem dX11_commit_99 : decode cX11_commit 99 = .ok (.goto (-48), 3) := by decide +kernel
theorem dX11_commit_102 : decode cX11_commit 102 = .ok (.aload_n 0, 1) := by decide +kernel
theorem dX11_commit_103 : decode cX11_commit 103 = .ok (.iload_n 1, 1) := by decide +kernel
theorem dX11_commit_104 : decode cX11_commit 104 = .ok (.invokevirtual 239, 3) := by decide +kernel
theorem dX11_commit_107 : decode cX11_commit 107 = .ok (.ifCond .eq 6, 3) := by decide +kernel
theorem dX11_commit_110 : decode cX11_commit 110 = .ok (.bipush (-2), 2) := by decide +kernel
theorem dX11_commit_112 : decode cX11_commit 112 = .ok (.ireturn, 1) := by decide +kernel
theorem dX11_commit_113 : decode cX11_commit 113 = .ok (.aload_n 0, 1) := by decide +kernel
theorem dX11_commit_114 : decode cX11_commit 114 = .ok (.dup, 1) := by decide +kernel
theorem dX11_commit_115 : decode cX11_commit 115 = .ok (.getfield 160, 3) := by decide +kernel
theorem dX11_commit_118 : decode cX11_commit 118 = .ok (.iconst 1, 1) := by decide +kernel
theorem dX11_commit_119 : decode cX11_commit 119 = .ok (.iadd, 1) := by decide +kernel
theorem dX11_commit_120 : decode cX11_commit 120 = .ok (.putfield 160, 3) := by decide +kernel
theorem dX11_commit_123 : decode cX11_commit 123 = .ok (.iconst 0, 1) := by decide +kernel
theorem dX11_commit_124 : decode cX11_commit 124 = .ok (.istore 4, 2) := by decide +kernel
theorem dX11_commit_126 : decode cX11_commit 126 = .ok (.iconst 0, 1) := by decide +kernel
theorem dX11_commit_127 : decode cX11_commit 127 = .ok (.istore 5, 2) := by decide +kernel
theorem dX11_commit_129 : decode cX11_commit 129 = .ok (.iload 5, 2) := by decide +kernel
theorem dX11_commit_131 : decode cX11_commit 131 = .ok (.bipush 60, 2) := by decide +kernel
theorem dX11_commit_133 : decode cX11_commit 133 = .ok (.if_icmp .ge 33, 3) := by decide +kernel
theorem dX11_commit_136 : decode cX11_commit 136 = .ok (.aload_n 0, 1) := by decide +kernel
theorem dX11_commit_137 : decode cX11_commit 137 = .ok (.getfield 99, 3) := by decide +kernel
theorem dX11_commit_140 : decode cX11_commit 140 = .ok (.bipush 60, 2) := by decide +kernel
theorem dX11_commit_142 : decode cX11_commit 142 = .ok (.iload_n 1, 1) := by decide +kernel
theorem dX11_commit_143 : decode cX11_commit 143 = .ok (.imul, 1) := by decide +kernel
theorem dX11_commit_144 : decode cX11_commit 144 = .ok (.iload 5, 2) := by decide +kernel
theorem dX11_commit_146 : decode cX11_commit 146 = .ok (.iadd, 1) := by decide +kernel
theorem dX11_commit_147 : decode cX11_commit 147 = .ok (.baload, 1) := by decide +kernel
theorem dX11_commit_148 : decode cX11_commit 148 = .ok (.ifCond .eq 12, 3) := by decide +kernel
theorem dX11_commit_151 : decode cX11_commit 151 = .ok (.aload_n 0, 1) := by decide +kernel
theorem dX11_commit_152 : decode cX11_commit 152 = .ok (.iload 5, 2) := by decide +kernel
theorem dX11_commit_154 : decode cX11_commit 154 = .ok (.invokevirtual 198, 3) := by decide +kernel
theorem dX11_commit_157 : decode cX11_commit 157 = .ok (.iconst 1, 1) := by decide +kernel
theorem dX11_commit_158 : decode cX11_commit 158 = .ok (.istore 4, 2) := by decide +kernel
theorem dX11_commit_160 : decode cX11_commit 160 = .ok (.iinc 5 1, 3) := by decide +kernel
theorem dX11_commit_163 : decode cX11_commit 163 = .ok (.goto (-34), 3) := by decide +kernel
theorem dX11_commit_166 : decode cX11_commit 166 = .ok (.iconst 0, 1) := by decide +kernel
theorem dX11_commit_167 : decode cX11_commit 167 = .ok (.istore 5, 2) := by decide +kernel
theorem dX11_commit_169 : decode cX11_commit 169 = .ok (.iload 5, 2) := by decide +kernel
theorem dX11_commit_171 : decode cX11_commit 171 = .ok (.bipush 24, 2) := by decide +kernel
theorem dX11_commit_173 : decode cX11_commit 173 = .ok (.if_icmp .ge 42, 3) := by decide +kernel
theorem dX11_commit_176 : decode cX11_commit 176 = .ok (.aload_n 0, 1) := by decide +kernel
theorem dX11_commit_177 : decode cX11_commit 177 = .ok (.getfield 81, 3) := by decide +kernel
theorem dX11_commit_180 : decode cX11_commit 180 = .ok (.bipush 24, 2) := by decide +kernel
theorem dX11_commit_182 : decode cX11_commit 182 = .ok (.iload_n 1, 1) := by decide +kernel
theorem dX11_commit_183 : decode cX11_commit 183 = .ok (.imul, 1) := by decide +kernel
theorem dX11_commit_184 : decode cX11_commit 184 = .ok (.iload 5, 2) := by decide +kernel
theorem dX11_commit_186 : decode cX11_commit 186 = .ok (.iadd, 1) := by decide +kernel
theorem dX11_commit_187 : decode cX11_commit 187 = .ok (.baload, 1) := by decide +kernel
theorem dX11_commit_188 : decode cX11_commit 188 = .ok (.ifCond .eq 21, 3) := by decide +kernel
theorem dX11_commit_191 : decode cX11_commit 191 = .ok (.aload_n 0, 1) := by decide +kernel
theorem dX11_commit_192 : decode cX11_commit 192 = .ok (.iload 5, 2) := by decide +kernel
theorem dX11_commit_194 : decode cX11_commit 194 = .ok (.aload_n 0, 1) := by decide +kernel
theorem dX11_commit_195 : decode cX11_commit 195 = .ok (.getfield 84, 3) := by decide +kernel
theorem dX11_commit_198 : decode cX11_commit 198 = .ok (.bipush 24, 2) := by decide +kernel
theorem dX11_commit_200 : decode cX11_commit 200 = .ok (.iload_n 1, 1) := by decide +kernel
theorem dX11_commit_201 : decode cX11_commit 201 = .ok (.imul, 1) := by decide +kernel
theorem dX11_commit_202 : decode cX11_commit 202 = .ok (.iload 5, 2) := by decide +kernel
theorem dX11_commit_204 : decode cX11_commit 204 = .ok (.iadd, 1) := by decide +kernel
theorem dX11_commit_205 : decode cX11_commit 205 = .ok (.iaload, 1) := by decide +kernel
theorem dX11_commit_206 : decode cX11_commit 206 = .ok (.invokevirtual 184, 3) := by decide +kernel
theorem dX11_commit_209 : decode cX11_commit 209 = .ok (.iinc 5 1, 3) := by decide +kernel
theorem dX11_commit_212 : decode cX11_commit 212 = .ok (.goto (-43), 3) := by decide +kernel
theorem dX11_commit_215 : decode cX11_commit 215 = .ok (.bipush 8, 2) := by decide +kernel
theorem dX11_commit_217 : decode cX11_commit 217 = .ok (.iload_n 1, 1) := by decide +kernel
theorem dX11_commit_218 : decode cX11_commit 218 = .ok (.imul, 1) := by decide +kernel
theorem dX11_commit_219 : decode cX11_commit 219 = .ok (.istore 5, 2) := by decide +kernel
theorem dX11_commit_221 : decode cX11_commit 221 = .ok (.iload 5, 2) := by decide +kernel
theorem dX11_commit_223 : decode cX11_commit 223 = .ok (.bipush 8, 2) := by decide +kernel
theorem dX11_commit_225 : decode cX11_commit 225 = .ok (.iload_n 1, 1) := by decide +kernel
theorem dX11_commit_226 : decode cX11_commit 226 = .ok (.imul, 1) := by decide +kernel
theorem dX11_commit_227 : decode cX11_commit 227 = .ok (.aload_n 0, 1) := by decide +kernel
theorem dX11_commit_228 : decode cX11_commit 228 = .ok (.getfield 87, 3) := by decide +kernel
theorem dX11_commit_231 : decode cX11_commit 231 = .ok (.iload_n 1, 1) := by decide +kernel
theorem dX11_commit_232 : decode cX11_commit 232 = .ok (.iaload, 1) := by decide +kernel
theorem dX11_commit_233 : decode cX11_commit 233 = .ok (.iadd, 1) := by decide +kernel
theorem dX11_commit_234 : decode cX11_commit 234 = .ok (.if_icmp .ge 35, 3) := by decide +kernel
theorem dX11_commit_237 : decode cX11_commit 237 = .ok (.aload_n 0, 1) := by decide +kernel
theorem dX11_commit_238 : decode cX11_commit 238 = .ok (.aload_n 0, 1) := by decide +kernel
theorem dX11_commit_239 : decode cX11_commit 239 = .ok (.getfield 90, 3) := by decide +kernel
theorem dX11_commit_242 : decode cX11_commit 242 = .ok (.iload 5, 2) := by decide +kernel
theorem dX11_commit_244 : decode cX11_commit 244 = .ok (.iaload, 1) := by decide +kernel
theorem dX11_commit_245 : decode cX11_commit 245 = .ok (.aload_n 0, 1) := by decide +kernel
theorem dX11_commit_246 : decode cX11_commit 246 = .ok (.getfield 96, 3) := by decide +kernel
theorem dX11_commit_249 : decode cX11_commit 249 = .ok (.iload 5, 2) := by decide +kernel
theorem dX11_commit_251 : decode cX11_commit 251 = .ok (.iaload, 1) := by decide +kernel
theorem dX11_commit_252 : decode cX11_commit 252 = .ok (.aload_n 0, 1) := by decide +kernel
theorem dX11_commit_253 : decode cX11_commit 253 = .ok (.getfield 93, 3) := by decide +kernel
theorem dX11_commit_256 : decode cX11_commit 256 = .ok (.iload 5, 2) := by decide +kernel
theorem dX11_commit_258 : decode cX11_commit 258 = .ok (.iaload, 1) := by decide +kernel
theorem dX11_commit_259 : decode cX11_commit 259 = .ok (.invokevirtual 191, 3) := by decide +kernel
theorem dX11_commit_262 : decode cX11_commit 262 = .ok (.pop, 1) := by decide +kernel
theorem dX11_commit_263 : decode cX11_commit 263 = .ok (.iinc 5 1, 3) := by decide +kernel
theorem dX11_commit_266 : decode cX11_commit 266 = .ok (.goto (-45), 3) := by decide +kernel
theorem dX11_commit_269 : decode cX11_commit 269 = .ok (.iload 4, 2) := by decide +kernel
theorem dX11_commit_271 : decode cX11_commit 271 = .ok (.ifCond .eq 7, 3) := by decide +kernel
theorem dX11_commit_274 : decode cX11_commit 274 = .ok (.aload_n 0, 1) := by decide +kernel
theorem dX11_commit_275 : decode cX11_commit 275 = .ok (.invokevirtual 202, 3) := by decide +kernel
theorem dX11_commit_278 : decode cX11_commit 278 = .ok (.aload_n 0, 1) := by decide +kernel
theorem dX11_commit_279 : decode cX11_commit 279 = .ok (.getfield 160, 3) := by decide +kernel
theorem dX11_commit_282 : decode cX11_commit 282 = .ok (.ireturn, 1) := by decide +kernel
theorem dX11_time_0 : decode cX11_time 0 = .ok (.aload_n 0, 1) := by decide +kernel
theorem dX11_time_1 : decode cX11_time 1 = .ok (.iconst 0, 1) := by decide +kernel
theorem dX11_time_2 : decode cX11_time 2 = .ok (.putfield 138, 3) := by decide +kernel
theorem dX11_time_5 : decode cX11_time 5 = .ok (.aload_n 0, 1) := by decide +kernel
theorem dX11_time_6 : decode cX11_time 6 = .ok (.getfield 160, 3) := by decide +kernel
theorem dX11_time_9 : decode cX11_time 9 = .ok (.ireturn, 1) := by decide +kernel
theorem dX11_valueAt_0 : decode cX11_valueAt 0 = .ok (.iload_n 2, 1) := by decide +kernel
theorem dX11_valueAt_1 : decode cX11_valueAt 1 = .ok (.iconst 0, 1) := by decide +kernel
theorem dX11_valueAt_2 : decode cX11_valueAt 2 = .ok (.aload_n 0, 1) := by decide +kernel
theorem dX11_valueAt_3 : decode cX11_valueAt 3 = .ok (.getfield 160, 3) := by decide +kernel
theorem dX11_valueAt_6 : decode cX11_valueAt 6 = .ok (.invokestatic 146, 3) := by decide +kernel
theorem dX11_valueAt_9 : decode cX11_valueAt 9 = .ok (.istore_n 3, 1) := by decide +kernel
theorem dX11_valueAt_10 : decode cX11_valueAt 10 = .ok (.iload_n 1, 1) := by decide +kernel
theorem dX11_valueAt_11 : decode cX11_valueAt 11 = .ok (.iconst 0, 1) := by decide +kernel
theorem dX11_valueAt_12 : decode cX11_valueAt 12 = .ok (.aload_n 0, 1) := by decide +kernel
theorem dX11_valueAt_13 : decode cX11_valueAt 13 = .ok (.getfield 150, 3) := by decide +kernel
theorem dX11_valueAt_16 : decode cX11_valueAt 16 = .ok (.iconst 1, 1) := by decide +kernel
theorem dX11_valueAt_17 : decode cX11_valueAt 17 = .ok (.isub, 1) := by decide +kernel
theorem dX11_valueAt_18 : decode cX11_valueAt 18 = .ok (.invokestatic 146, 3) := by decide +kernel
theorem dX11_valueAt_21 : decode cX11_valueAt 21 = .ok (.ifCond .eq 26, 3) := by decide +kernel
theorem dX11_valueAt_24 : decode cX11_valueAt 24 = .ok (.aload_n 0, 1) := by decide +kernel
theorem dX11_valueAt_25 : decode cX11_valueAt 25 = .ok (.getfield 19, 3) := by decide +kernel
theorem dX11_valueAt_28 : decode cX11_valueAt 28 = .ok (.iload_n 1, 1) := by decide +kernel
theorem dX11_valueAt_29 : decode cX11_valueAt 29 = .ok (.iaload, 1) := by decide +kernel
theorem dX11_valueAt_30 : decode cX11_valueAt 30 = .ok (.aload_n 0, 1) := by decide +kernel
theorem dX11_valueAt_31 : decode cX11_valueAt 31 = .ok (.getfield 22, 3) := by decide +kernel
theorem dX11_valueAt_34 : decode cX11_valueAt 34 = .ok (.iload_n 1, 1) := by decide +kernel
theorem dX11_valueAt_35 : decode cX11_valueAt 35 = .ok (.iaload, 1) := by decide +kernel
theorem dX11_valueAt_36 : decode cX11_valueAt 36 = .ok (.iload_n 2, 1) := by decide +kernel
theorem dX11_valueAt_37 : decode cX11_valueAt 37 = .ok (.invokestatic 220, 3) := by decide +kernel
theorem dX11_valueAt_40 : decode cX11_valueAt 40 = .ok (.ifCond .eq 7, 3) := by decide +kernel
theorem dX11_valueAt_43 : decode cX11_valueAt 43 = .ok (.iconst 1, 1) := by decide +kernel
theorem dX11_valueAt_44 : decode cX11_valueAt 44 = .ok (.goto 4, 3) := by decide +kernel
theorem dX11_valueAt_47 : decode cX11_valueAt 47 = .ok (.iconst 0, 1) := by decide +kernel
theorem dX11_valueAt_48 : decode cX11_valueAt 48 = .ok (.istore 4, 2) := by decide +kernel
theorem dX11_valueAt_50 : decode cX11_valueAt 50 = .ok (.aload_n 0, 1) := by decide +kernel
theorem dX11_valueAt_51 : decode cX11_valueAt 51 = .ok (.iload_n 3, 1) := by decide +kernel
theorem dX11_valueAt_52 : decode cX11_valueAt 52 = .ok (.ifCond .ne 7, 3) := by decide +kernel
theorem dX11_valueAt_55 : decode cX11_valueAt 55 = .ok (.iconst 2, 1) := by decide +kernel
theorem dX11_valueAt_56 : decode cX11_valueAt 56 = .ok (.goto 13, 3) := by decide +kernel
theorem dX11_valueAt_59 : decode cX11_valueAt 59 = .ok (.iload 4, 2) := by decide +kernel
theorem dX11_valueAt_61 : decode cX11_valueAt 61 = .ok (.ifCond .eq 7, 3) := by decide +kernel
theorem dX11_valueAt_64 : decode cX11_valueAt 64 = .ok (.iconst 0, 1) := by decide +kernel
theorem dX11_valueAt_65 : decode cX11_valueAt 65 = .ok (.goto 4, 3) := by decide +kernel
theorem dX11_valueAt_68 : decode cX11_valueAt 68 = .ok (.iconst 1, 1) := by decide +kernel
theorem dX11_valueAt_69 : decode cX11_valueAt 69 = .ok (.invokevirtual 181, 3) := by decide +kernel
theorem dX11_valueAt_72 : decode cX11_valueAt 72 = .ok (.ifCond .eq 7, 3) := by decide +kernel
theorem dX11_valueAt_75 : decode cX11_valueAt 75 = .ok (.iconst 0, 1) := by decide +kernel
theorem dX11_valueAt_76 : decode cX11_valueAt 76 = .ok (.goto 9, 3) := by decide +kernel
theorem dX11_valueAt_79 : decode cX11_valueAt 79 = .ok (.aload_n 0, 1) := by decide +kernel
theorem dX11_valueAt_80 : decode cX11_valueAt 80 = .ok (.iload_n 1, 1) := by decide +kernel
theorem dX11_valueAt_81 : decode cX11_valueAt 81 = .ok (.iload_n 2, 1) := by decide +kernel
theorem dX11_valueAt_82 : decode cX11_valueAt 82 = .ok (.invokevirtual 229, 3) := by decide +kernel
theorem dX11_valueAt_85 : decode cX11_valueAt 85 = .ok (.ireturn, 1) := by decide +kernel
theorem dX11_sizeAt_0 : decode cX11_sizeAt 0 = .ok (.aload_n 0, 1) := by decide +kernel
theorem dX11_sizeAt_1 : decode cX11_sizeAt 1 = .ok (.iload_n 1, 1) := by decide +kernel
theorem dX11_sizeAt_2 : decode cX11_sizeAt 2 = .ok (.iconst 0, 1) := by decide +kernel
theorem dX11_sizeAt_3 : decode cX11_sizeAt 3 = .ok (.aload_n 0, 1) := by decide +kernel
theorem dX11_sizeAt_4 : decode cX11_sizeAt 4 = .ok (.getfield 160, 3) := by decide +kernel
theorem dX11_sizeAt_7 : decode cX11_sizeAt 7 = .ok (.invokestatic 146, 3) := by decide +kernel
theorem dX11_sizeAt_10 : decode cX11_sizeAt 10 = .ok (.ifCond .eq 7, 3) := by decide +kernel
theorem dX11_sizeAt_13 : decode cX11_sizeAt 13 = .ok (.iconst 0, 1) := by decide +kernel
theorem dX11_sizeAt_14 : decode cX11_sizeAt 14 = .ok (.goto 4, 3) := by decide +kernel
theorem dX11_sizeAt_17 : decode cX11_sizeAt 17 = .ok (.iconst 1, 1) := by decide +kernel
theorem dX11_sizeAt_18 : decode cX11_sizeAt 18 = .ok (.invokevirtual 181, 3) := by decide +kernel
theorem dX11_sizeAt_21 : decode cX11_sizeAt 21 = .ok (.ifCond .eq 5, 3) := by decide +kernel
theorem dX11_sizeAt_24 : decode cX11_sizeAt 24 = .ok (.iconst 0, 1) := by decide +kernel
theorem dX11_sizeAt_25 : decode cX11_sizeAt 25 = .ok (.ireturn, 1) := by decide +kernel
theorem dX11_sizeAt_26 : decode cX11_sizeAt 26 = .ok (.iconst 0, 1) := by decide +kernel
theorem dX11_sizeAt_27 : decode cX11_sizeAt 27 = .ok (.istore_n 2, 1) := by decide +kernel
theorem dX11_sizeAt_28 : decode cX11_sizeAt 28 = .ok (.iconst 0, 1) := by decide +kernel
theorem dX11_sizeAt_29 : decode cX11_sizeAt 29 = .ok (.istore_n 3, 1) := by decide +kernel
theorem dX11_sizeAt_30 : decode cX11_sizeAt 30 = .ok (.iload_n 3, 1) := by decide +kernel
theorem dX11_sizeAt_31 : decode cX11_sizeAt 31 = .ok (.aload_n 0, 1) := by decide +kernel
theorem dX11_sizeAt_32 : decode cX11_sizeAt 32 = .ok (.getfield 150, 3) := by decide +kernel
theorem dX11_sizeAt_35 : decode cX11_sizeAt 35 = .ok (.if_icmp .ge 37, 3) := by decide +kernel
theorem dX11_sizeAt_38 : decode cX11_sizeAt 38 = .ok (.iload_n 2, 1) := by decide +kernel
theorem dX11_sizeAt_39 : decode cX11_sizeAt 39 = .ok (.aload_n 0, 1) := by decide +kernel
theorem dX11_sizeAt_40 : decode cX11_sizeAt 40 = .ok (.getfield 19, 3) := by decide +kernel
theorem dX11_sizeAt_43 : decode cX11_sizeAt 43 = .ok (.iload_n 3, 1) := by decide +kernel
theorem dX11_sizeAt_44 : decode cX11_sizeAt 44 = .ok (.iaload, 1) := by decide +kernel
theorem dX11_sizeAt_45 : decode cX11_sizeAt 45 = .ok (.aload_n 0, 1) := by decide +kernel
theorem dX11_sizeAt_46 : decode cX11_sizeAt 46 = .ok (.getfield 22, 3) := by decide +kernel
theorem dX11_sizeAt_49 : decode cX11_sizeAt 49 = .ok (.iload_n 3, 1) := by decide +kernel
theorem dX11_sizeAt_50 : decode cX11_sizeAt 50 = .ok (.iaload, 1) := by decide +kernel
theorem dX11_sizeAt_51 : decode cX11_sizeAt 51 = .ok (.iload_n 1, 1) := by decide +kernel
theorem dX11_sizeAt_52 : decode cX11_sizeAt 52 = .ok (.invokestatic 220, 3) := by decide +kernel
theorem dX11_sizeAt_55 : decode cX11_sizeAt 55 = .ok (.ifCond .eq 8, 3) := by decide +kernel
theorem dX11_sizeAt_58 : decode cX11_sizeAt 58 = .ok (.bipush 100, 2) := by decide +kernel
theorem dX11_sizeAt_60 : decode cX11_sizeAt 60 = .ok (.goto 4, 3) := by decide +kernel
theorem dX11_sizeAt_63 : decode cX11_sizeAt 63 = .ok (.iconst 0, 1) := by decide +kernel
theorem dX11_sizeAt_64 : decode cX11_sizeAt 64 = .ok (.iadd, 1) := by decide +kernel
theorem dX11_sizeAt_65 : decode cX11_sizeAt 65 = .ok (.istore_n 2, 1) := by decide +kernel
theorem dX11_sizeAt_66 : decode cX11_sizeAt 66 = .ok (.iinc 3 1, 3) := by decide +kernel
theorem dX11_sizeAt_69 : decode cX11_sizeAt 69 = .ok (.goto (-39), 3) := by decide +kernel
theorem dX11_sizeAt_72 : decode cX11_sizeAt 72 = .ok (.iconst 0, 1) := by decide +kernel
theorem dX11_sizeAt_73 : decode cX11_sizeAt 73 = .ok (.istore_n 3, 1) := by decide +kernel
theorem dX11_sizeAt_74 : decode cX11_sizeAt 74 = .ok (.iload_n 3, 1) := by decide +kernel
theorem dX11_sizeAt_75 : decode cX11_sizeAt 75 = .ok (.aload_n 0, 1) := by decide +kernel
theorem dX11_sizeAt_76 : decode cX11_sizeAt 76 = .ok (.getfield 154, 3) := by decide +kernel
theorem dX11_sizeAt_79 : decode cX11_sizeAt 79 = .ok (.if_icmp .ge 36, 3) := by decide +kernel
theorem dX11_sizeAt_82 : decode cX11_sizeAt 82 = .ok (.iload_n 2, 1) := by decide +kernel
theorem dX11_sizeAt_83 : decode cX11_sizeAt 83 = .ok (.aload_n 0, 1) := by decide +kernel
theorem dX11_sizeAt_84 : decode cX11_sizeAt 84 = .ok (.getfield 57, 3) := by decide +kernel
theorem dX11_sizeAt_87 : decode cX11_sizeAt 87 = .ok (.iload_n 3, 1) := by decide +kernel
theorem dX11_sizeAt_88 : decode cX11_sizeAt 88 = .ok (.iaload, 1) := by decide +kernel
theorem dX11_sizeAt_89 : decode cX11_sizeAt 89 = .ok (.aload_n 0, 1) := by decide +kernel
theorem dX11_sizeAt_90 : decode cX11_sizeAt 90 = .ok (.getfield 60, 3) := by decide +kernel
theorem dX11_sizeAt_93 : decode cX11_sizeAt 93 = .ok (.iload_n 3, 1) := by decide +kernel
theorem dX11_sizeAt_94 : decode cX11_sizeAt 94 = .ok (.iaload, 1) := by decide +kernel
theorem dX11_sizeAt_95 : decode cX11_sizeAt 95 = .ok (.iload_n 1, 1) := by decide +kernel
theorem dX11_sizeAt_96 : decode cX11_sizeAt 96 = .ok (.invokestatic 220, 3) := by decide +kernel
theorem dX11_sizeAt_99 : decode cX11_sizeAt 99 = .ok (.ifCond .eq 7, 3) := by decide +kernel
theorem dX11_sizeAt_102 : decode cX11_sizeAt 102 = .ok (.iconst 1, 1) := by decide +kernel
theorem dX11_sizeAt_103 : decode cX11_sizeAt 103 = .ok (.goto 4, 3) := by decide +kernel
theorem dX11_sizeAt_106 : decode cX11_sizeAt 106 = .ok (.iconst 0, 1) := by decide +kernel
theorem dX11_sizeAt_107 : decode cX11_sizeAt 107 = .ok (.iadd, 1) := by decide +kernel
theorem dX11_sizeAt_108 : decode cX11_sizeAt 108 = .ok (.istore_n 2, 1) := by decide +kernel
theorem dX11_sizeAt_109 : decode cX11_sizeAt 109 = .ok (.iinc 3 1, 3) := by decide +kernel
theorem dX11_sizeAt_112 : decode cX11_sizeAt 112 = .ok (.goto (-38), 3) := by decide +kernel
theorem dX11_sizeAt_115 : decode cX11_sizeAt 115 = .ok (.iload_n 2, 1) := by decide +kernel
theorem dX11_sizeAt_116 : decode cX11_sizeAt 116 = .ok (.ireturn, 1) := by decide +kernel
theorem dX11_infers_0 : decode cX11_infers 0 = .ok (.iconst 0, 1) := by decide +kernel
theorem dX11_infers_1 : decode cX11_infers 1 = .ok (.istore_n 1, 1) := by decide +kernel
theorem dX11_infers_2 : decode cX11_infers 2 = .ok (.iload_n 1, 1) := by decide +kernel
theorem dX11_infers_3 : decode cX11_infers 3 = .ok (.bipush 96, 2) := by decide +kernel
theorem dX11_infers_5 : decode cX11_infers 5 = .ok (.if_icmp .ge 16, 3) := by decide +kernel
theorem dX11_infers_8 : decode cX11_infers 8 = .ok (.aload_n 0, 1) := by decide +kernel
theorem dX11_infers_9 : decode cX11_infers 9 = .ok (.getfield 129, 3) := by decide +kernel
theorem dX11_infers_12 : decode cX11_infers 12 = .ok (.iload_n 1, 1) := by decide +kernel
theorem dX11_infers_13 : decode cX11_infers 13 = .ok (.iconst 0, 1) := by decide +kernel
theorem dX11_infers_14 : decode cX11_infers 14 = .ok (.iastore, 1) := by decide +kernel
theorem dX11_infers_15 : decode cX11_infers 15 = .ok (.iinc 1 1, 3) := by decide +kernel
theorem dX11_infers_18 : decode cX11_infers 18 = .ok (.goto (-16), 3) := by decide +kernel
theorem dX11_infers_21 : decode cX11_infers 21 = .ok (.iconst 0, 1) := by decide +kernel
theorem dX11_infers_22 : decode cX11_infers 22 = .ok (.istore_n 1, 1) := by decide +kernel
theorem dX11_infers_23 : decode cX11_infers 23 = .ok (.iload_n 1, 1) := by decide +kernel
theorem dX11_infers_24 : decode cX11_infers 24 = .ok (.aload_n 0, 1) := by decide +kernel
theorem dX11_infers_25 : decode cX11_infers 25 = .ok (.getfield 154, 3) := by decide +kernel
theorem dX11_infers_28 : decode cX11_infers 28 = .ok (.if_icmp .ge 53, 3) := by decide +kernel
theorem dX11_infers_31 : decode cX11_infers 31 = .ok (.aload_n 0, 1) := by decide +kernel
theorem dX11_infers_32 : decode cX11_infers 32 = .ok (.getfield 129, 3) := by decide +kernel
theorem dX11_infers_35 : decode cX11_infers 35 = .ok (.bipush 24, 2) := by decide +kernel
theorem dX11_infers_37 : decode cX11_infers 37 = .ok (.aload_n 0, 1) := by decide +kernel
theorem dX11_infers_38 : decode cX11_infers 38 = .ok (.getfield 54, 3) := by decide +kernel
theorem dX11_infers_41 : decode cX11_infers 41 = .ok (.iload_n 1, 1) := by decide +kernel
theorem dX11_infers_42 : decode cX11_infers 42 = .ok (.iaload, 1) := by decide +kernel
theorem dX11_infers_43 : decode cX11_infers 43 = .ok (.imul, 1) := by decide +kernel
theorem dX11_infers_44 : decode cX11_infers 44 = .ok (.aload_n 0, 1) := by decide +kernel
theorem dX11_infers_45 : decode cX11_infers 45 = .ok (.getfield 48, 3) := by decide +kernel
theorem dX11_infers_48 : decode cX11_infers 48 = .ok (.iload_n 1, 1) := by decide +kernel
theorem dX11_infers_49 : decode cX11_infers 49 = .ok (.iaload, 1) := by decide +kernel
theorem dX11_infers_50 : decode cX11_infers 50 = .ok (.iadd, 1) := by decide +kernel
theorem dX11_infers_51 : decode cX11_infers 51 = .ok (.dup2, 1) := by decide +kernel
theorem dX11_infers_52 : decode cX11_infers 52 = .ok (.iaload, 1) := by decide +kernel
theorem dX11_infers_53 : decode cX11_infers 53 = .ok (.aload_n 0, 1) := by decide +kernel
theorem dX11_infers_54 : decode cX11_infers 54 = .ok (.iload_n 1, 1) := by decide +kernel
theorem dX11_infers_55 : decode cX11_infers 55 = .ok (.invokevirtual 195, 3) := by decide +kernel
theorem dX11_infers_58 : decode cX11_infers 58 = .ok (.ifCond .eq 14, 3) := by decide +kernel
theorem dX11_infers_61 : decode cX11_infers 61 = .ok (.iconst 1, 1) := by decide +kernel
theorem dX11_infers_62 : decode cX11_infers 62 = .ok (.aload_n 0, 1) := by decide +kernel
theorem dX11_infers_63 : decode cX11_infers 63 = .ok (.getfield 51, 3) := by decide +kernel
theorem dX11_infers_66 : decode cX11_infers 66 = .ok (.iload_n 1, 1) := by decide +kernel
theorem dX11_infers_67 : decode cX11_infers 67 = .ok (.iaload, 1) := by decide +kernel
theorem dX11_infers_68 : decode cX11_infers 68 = .ok (.ishl, 1) := by decide +kernel
theorem dX11_infers_69 : decode cX11_infers 69 = .ok (.goto 4, 3) := by decide +kernel
theorem dX11_infers_72 : decode cX11_infers 72 = .ok (.iconst 0, 1) := by decide +kernel
theorem dX11_infers_73 : decode cX11_infers 73 = .ok (.ior, 1) := by decide +kernel
theorem dX11_infers_74 : decode cX11_infers 74 = .ok (.iastore, 1) := by decide +kernel
theorem dX11_infers_75 : decode cX11_infers 75 = .ok (.iinc 1 1, 3) := by decide +kernel
theorem dX11_infers_78 : decode cX11_infers 78 = .ok (.goto (-55), 3) := by decide +kernel
theorem dX11_infers_81 : decode cX11_infers 81 = .ok (.iconst 0, 1) := by decide +kernel
theorem dX11_infers_82 : decode cX11_infers 82 = .ok (.istore_n 1, 1) := by decide +kernel
theorem dX11_infers_83 : decode cX11_infers 83 = .ok (.iload_n 1, 1) := by decide +kernel
theorem dX11_infers_84 : decode cX11_infers 84 = .ok (.bipush 96, 2) := by decide +kernel
theorem dX11_infers_86 : decode cX11_infers 86 = .ok (.if_icmp .ge 21, 3) := by decide +kernel
theorem dX11_infers_89 : decode cX11_infers 89 = .ok (.aload_n 0, 1) := by decide +kernel
theorem dX11_infers_90 : decode cX11_infers 90 = .ok (.getfield 132, 3) := by decide +kernel
theorem dX11_infers_93 : decode cX11_infers 93 = .ok (.iload_n 1, 1) := by decide +kernel
theorem dX11_infers_94 : decode cX11_infers 94 = .ok (.aload_n 0, 1) := by decide +kernel
theorem dX11_infers_95 : decode cX11_infers 95 = .ok (.getfield 129, 3) := by decide +kernel
theorem dX11_infers_98 : decode cX11_infers 98 = .ok (.iload_n 1, 1) := by decide +kernel
theorem dX11_infers_99 : decode cX11_infers 99 = .ok (.iaload, 1) := by decide +kernel
theorem dX11_infers_100 : decode cX11_infers 100 = .ok (.iastore, 1) := by decide +kernel
theorem dX11_infers_101 : decode cX11_infers 101 = .ok (.iinc 1 1, 3) := by decide +kernel
theorem dX11_infers_104 : decode cX11_infers 104 = .ok (.goto (-21), 3) := by decide +kernel
theorem dX11_infers_107 : decode cX11_infers 107 = .ok (.iconst 1, 1) := by decide +kernel
theorem dX11_infers_108 : decode cX11_infers 108 = .ok (.istore_n 1, 1) := by decide +kernel
theorem dX11_infers_109 : decode cX11_infers 109 = .ok (.iload_n 1, 1) := by decide +kernel
theorem dX11_infers_110 : decode cX11_infers 110 = .ok (.ifCond .eq 128, 3) := by decide +kernel
theorem dX11_infers_113 : decode cX11_infers 113 = .ok (.iconst 0, 1) := by decide +kernel
theorem dX11_infers_114 : decode cX11_infers 114 = .ok (.istore_n 1, 1) := by decide +kernel
theorem dX11_infers_115 : decode cX11_infers 115 = .ok (.iconst 0, 1) := by decide +kernel
theorem dX11_infers_116 : decode cX11_infers 116 = .ok (.istore_n 2, 1) := by decide +kernel
theorem dX11_infers_117 : decode cX11_infers 117 = .ok (.iload_n 2, 1) := by decide +kernel
theorem dX11_infers_118 : decode cX11_infers 118 = .ok (.aload_n 0, 1) := by decide +kernel
theorem dX11_infers_119 : decode cX11_infers 119 = .ok (.getfield 242, 3) := by decide +kernel
theorem dX11_infers_122 : decode cX11_infers 122 = .ok (.if_icmp .ge 113, 3) := by decide +kernel
theorem dX11_infers_125 : decode cX11_infers 125 = .ok (.iconst 0, 1) := by decide +kernel
theorem dX11_infers_126 : decode cX11_infers 126 = .ok (.istore_n 3, 1) := by decide +kernel
theorem dX11_infers_127 : decode cX11_infers 127 = .ok (.iload_n 3, 1) := by decide +kernel
theorem dX11_infers_128 : decode cX11_infers 128 = .ok (.bipush 24, 2) := by decide +kernel
theorem dX11_infers_130 : decode cX11_infers 130 = .ok (.if_icmp .ge 99, 3) := by decide +kernel
theorem dX11_infers_133 : decode cX11_infers 133 = .ok (.aload_n 0, 1) := by decide +kernel
theorem dX11_infers_134 : decode cX11_infers 134 = .ok (.getfield 126, 3) := by decide +kernel
theorem dX11_infers_137 : decode cX11_infers 137 = .ok (.iload_n 2, 1) := by decide +kernel
theorem dX11_infers_138 : decode cX11_infers 138 = .ok (.baload, 1) := by decide +kernel
theorem dX11_infers_139 : decode cX11_infers 139 = .ok (.ifCond .ne 90, 3) := by decide +kernel
theorem dX11_infers_142 : decode cX11_infers 142 = .ok (.aload_n 0, 1) := by decide +kernel
theorem dX11_infers_143 : decode cX11_infers 143 = .ok (.aload_n 0, 1) := by decide +kernel
theorem dX11_infers_144 : decode cX11_infers 144 = .ok (.getfield 132, 3) := by decide +kernel
theorem dX11_infers_147 : decode cX11_infers 147 = .ok (.bipush 24, 2) := by decide +kernel
theorem dX11_infers_149 : decode cX11_infers 149 = .ok (.aload_n 0, 1) := by decide +kernel
theorem dX11_infers_150 : decode cX11_infers 150 = .ok (.getfield 117, 3) := by decide +kernel
theorem dX11_infers_153 : decode cX11_infers 153 = .ok (.iload_n 2, 1) := by decide +kernel
theorem dX11_infers_154 : decode cX11_infers 154 = .ok (.iaload, 1) := by decide +kernel
theorem dX11_infers_155 : decode cX11_infers 155 = .ok (.imul, 1) := by decide +kernel
theorem dX11_infers_156 : decode cX11_infers 156 = .ok (.iload_n 3, 1) := by decide +kernel
theorem dX11_infers_157 : decode cX11_infers 157 = .ok (.iadd, 1) := by decide +kernel
theorem dX11_infers_158 : decode cX11_infers 158 = .ok (.iaload, 1) := by decide +kernel
theorem dX11_infers_159 : decode cX11_infers 159 = .ok (.bipush 24, 2) := by decide +kernel
theorem dX11_infers_161 : decode cX11_infers 161 = .ok (.aload_n 0, 1) := by decide +kernel
theorem dX11_infers_162 : decode cX11_infers 162 = .ok (.getfield 120, 3) := by decide +kernel
theorem dX11_infers_165 : decode cX11_infers 165 = .ok (.iload_n 2, 1) := by decide +kernel
theorem dX11_infers_166 : decode cX11_infers 166 = .ok (.iaload, 1) := by decide +kernel
theorem dX11_infers_167 : decode cX11_infers 167 = .ok (.imul, 1) := by decide +kernel
theorem dX11_infers_168 : decode cX11_infers 168 = .ok (.invokevirtual 245, 3) := by decide +kernel
theorem dX11_infers_171 : decode cX11_infers 171 = .ok (.istore 4, 2) := by decide +kernel
theorem dX11_infers_173 : decode cX11_infers 173 = .ok (.bipush 24, 2) := by decide +kernel
theorem dX11_infers_175 : decode cX11_infers 175 = .ok (.aload_n 0, 1) := by decide +kernel
theorem dX11_infers_176 : decode cX11_infers 176 = .ok (.getfield 123, 3) := by decide +kernel
theorem dX11_infers_179 : decode cX11_infers 179 = .ok (.iload_n 2, 1) := by decide +kernel
theorem dX11_infers_180 : decode cX11_infers 180 = .ok (.iaload, 1) := by decide +kernel
theorem dX11_infers_181 : decode cX11_infers 181 = .ok (.imul, 1) := by decide +kernel
theorem dX11_infers_182 : decode cX11_infers 182 = .ok (.iload_n 3, 1) := by decide +kernel
theorem dX11_infers_183 : decode cX11_infers 183 = .ok (.iadd, 1) := by decide +kernel
theorem dX11_infers_184 : decode cX11_infers 184 = .ok (.istore 5, 2) := by decide +kernel
theorem dX11_infers_186 : decode cX11_infers 186 = .ok (.iload_n 1, 1) := by decide +kernel
theorem dX11_infers_187 : decode cX11_infers 187 = .ok (.ifCond .ne 18, 3) := by decide +kernel
theorem dX11_infers_190 : decode cX11_infers 190 = .ok (.iload 4, 2) := by decide +kernel
theorem dX11_infers_192 : decode cX11_infers 192 = .ok (.aload_n 0, 1) := by decide +kernel
theorem dX11_infers_193 : decode cX11_infers 193 = .ok (.getfield 132, 3) := by decide +kernel
theorem dX11_infers_196 : decode cX11_infers 196 = .ok (.iload 5, 2) := by decide +kernel
theorem dX11_infers_198 : decode cX11_infers 198 = .ok (.iaload, 1) := by decide +kernel
theorem dX11_infers_199 : decode cX11_infers 199 = .ok (.iconst (-1), 1) := by decide +kernel
theorem dX11_infers_200 : decode cX11_infers 200 = .ok (.ixor, 1) := by decide +kernel
theorem dX11_infers_201 : decode cX11_infers 201 = .ok (.iand, 1) := by decide +kernel
theorem dX11_infers_202 : decode cX11_infers 202 = .ok (.ifCond .eq 7, 3) := by decide +kernel
theorem dX11_infers_205 : decode cX11_infers 205 = .ok (.iconst 1, 1) := by decide +kernel
theorem dX11_infers_206 : decode cX11_infers 206 = .ok (.goto 4, 3) := by decide +kernel
theorem dX11_infers_209 : decode cX11_infers 209 = .ok (.iconst 0, 1) := by decide +kernel
theorem dX11_infers_210 : decode cX11_infers 210 = .ok (.istore_n 1, 1) := by decide +kernel
theorem dX11_infers_211 : decode cX11_infers 211 = .ok (.aload_n 0, 1) := by decide +kernel
theorem dX11_infers_212 : decode cX11_infers 212 = .ok (.getfield 132, 3) := by decide +kernel
theorem dX11_infers_215 : decode cX11_infers 215 = .ok (.iload 5, 2) := by decide +kernel
theorem dX11_infers_217 : decode cX11_infers 217 = .ok (.dup2, 1) := by decide +kernel
theorem dX11_infers_218 : decode cX11_infers 218 = .ok (.iaload, 1) := by decide +kernel
theorem dX11_infers_219 : decode cX11_infers 219 = .ok (.iload 4, 2) := by decide +kernel
theorem dX11_infers_221 : decode cX11_infers 221 = .ok (.ior, 1) := by decide +kernel
theorem dX11_infers_222 : decode cX11_infers 222 = .ok (.iastore, 1) := by decide +kernel
theorem dX11_infers_223 : decode cX11_infers 223 = .ok (.iinc 3 1, 3) := by decide +kernel
theorem dX11_infers_226 : decode cX11_infers 226 = .ok (.goto (-99), 3) := by decide +kernel
theorem dX11_infers_229 : decode cX11_infers 229 = .ok (.iinc 2 1, 3) := by decide +kernel
theorem dX11_infers_232 : decode cX11_infers 232 = .ok (.goto (-115), 3) := by decide +kernel
theorem dX11_infers_235 : decode cX11_infers 235 = .ok (.goto (-126), 3) := by decide +kernel
theorem dX11_infers_238 : decode cX11_infers 238 = .ok (.return_, 1) := by decide +kernel
theorem dX11_joined_0 : decode cX11_joined 0 = .ok (.iconst 0, 1) := by decide +kernel
theorem dX11_joined_1 : decode cX11_joined 1 = .ok (.istore_n 3, 1) := by decide +kernel
theorem dX11_joined_2 : decode cX11_joined 2 = .ok (.iconst 0, 1) := by decide +kernel
theorem dX11_joined_3 : decode cX11_joined 3 = .ok (.istore 4, 2) := by decide +kernel
theorem dX11_joined_5 : decode cX11_joined 5 = .ok (.iload 4, 2) := by decide +kernel
theorem dX11_joined_7 : decode cX11_joined 7 = .ok (.bipush 24, 2) := by decide +kernel
theorem dX11_joined_9 : decode cX11_joined 9 = .ok (.if_icmp .ge 34, 3) := by decide +kernel
theorem dX11_joined_12 : decode cX11_joined 12 = .ok (.iload_n 3, 1) := by decide +kernel
theorem dX11_joined_13 : decode cX11_joined 13 = .ok (.iload_n 1, 1) := by decide +kernel
theorem dX11_joined_14 : decode cX11_joined 14 = .ok (.iload 4, 2) := by decide +kernel
theorem dX11_joined_16 : decode cX11_joined 16 = .ok (.invokestatic 142, 3) := by decide +kernel
theorem dX11_joined_19 : decode cX11_joined 19 = .ok (.ifCond .eq 15, 3) := by decide +kernel
theorem dX11_joined_22 : decode cX11_joined 22 = .ok (.aload_n 0, 1) := by decide +kernel
theorem dX11_joined_23 : decode cX11_joined 23 = .ok (.getfield 132, 3) := by decide +kernel
theorem dX11_joined_26 : decode cX11_joined 26 = .ok (.iload_n 2, 1) := by decide +kernel
theorem dX11_joined_27 : decode cX11_joined 27 = .ok (.iload 4, 2) := by decide +kernel
theorem dX11_joined_29 : decode cX11_joined 29 = .ok (.iadd, 1) := by decide +kernel
theorem dX11_joined_30 : decode cX11_joined 30 = .ok (.iaload, 1) := by decide +kernel
theorem dX11_joined_31 : decode cX11_joined 31 = .ok (.goto 4, 3) := by decide +kernel
theorem dX11_joined_34 : decode cX11_joined 34 = .ok (.iconst 0, 1) := by decide +kernel
theorem dX11_joined_35 : decode cX11_joined 35 = .ok (.ior, 1) := by decide +kernel
theorem dX11_joined_36 : decode cX11_joined 36 = .ok (.istore_n 3, 1) := by decide +kernel
theorem dX11_joined_37 : decode cX11_joined 37 = .ok (.iinc 4 1, 3) := by decide +kernel
theorem dX11_joined_40 : decode cX11_joined 40 = .ok (.goto (-35), 3) := by decide +kernel
theorem dX11_joined_43 : decode cX11_joined 43 = .ok (.iload_n 3, 1) := by decide +kernel
theorem dX11_joined_44 : decode cX11_joined 44 = .ok (.ireturn, 1) := by decide +kernel
theorem dX11_inferredNow_0 : decode cX11_inferredNow 0 = .ok (.aload_n 0, 1) := by decide +kernel
theorem dX11_inferredNow_1 : decode cX11_inferredNow 1 = .ok (.invokevirtual 248, 3) := by decide +kernel
theorem dX11_inferredNow_4 : decode cX11_inferredNow 4 = .ok (.iconst 0, 1) := by decide +kernel
theorem dX11_inferredNow_5 : decode cX11_inferredNow 5 = .ok (.istore_n 1, 1) := by decide +kernel
theorem dX11_inferredNow_6 : decode cX11_inferredNow 6 = .ok (.iconst 0, 1) := by decide +kernel
theorem dX11_inferredNow_7 : decode cX11_inferredNow 7 = .ok (.istore_n 2, 1) := by decide +kernel
theorem dX11_inferredNow_8 : decode cX11_inferredNow 8 = .ok (.iload_n 2, 1) := by decide +kernel
theorem dX11_inferredNow_9 : decode cX11_inferredNow 9 = .ok (.bipush 96, 2) := by decide +kernel
theorem dX11_inferredNow_11 : decode cX11_inferredNow 11 = .ok (.if_icmp .ge 30, 3) := by decide +kernel
theorem dX11_inferredNow_14 : decode cX11_inferredNow 14 = .ok (.iload_n 1, 1) := by decide +kernel
theorem dX11_inferredNow_15 : decode cX11_inferredNow 15 = .ok (.aload_n 0, 1) := by decide +kernel
theorem dX11_inferredNow_16 : decode cX11_inferredNow 16 = .ok (.getfield 132, 3) := by decide +kernel
theorem dX11_inferredNow_19 : decode cX11_inferredNow 19 = .ok (.iload_n 2, 1) := by decide +kernel
theorem dX11_inferredNow_20 : decode cX11_inferredNow 20 = .ok (.iaload, 1) := by decide +kernel
theorem dX11_inferredNow_21 : decode cX11_inferredNow 21 = .ok (.aload_n 0, 1) := by decide +kernel
theorem dX11_inferredNow_22 : decode cX11_inferredNow 22 = .ok (.getfield 129, 3) := by decide +kernel
theorem dX11_inferredNow_25 : decode cX11_inferredNow 25 = .ok (.iload_n 2, 1) := by decide +kernel
theorem dX11_inferredNow_26 : decode cX11_inferredNow 26 = .ok (.iaload, 1) := by decide +kernel
theorem dX11_inferredNow_27 : decode cX11_inferredNow 27 = .ok (.iconst (-1), 1) := by decide +kernel
theorem dX11_inferredNow_28 : decode cX11_inferredNow 28 = .ok (.ixor, 1) := by decide +kernel
theorem dX11_inferredNow_29 : decode cX11_inferredNow 29 = .ok (.iand, 1) := by decide +kernel
theorem dX11_inferredNow_30 : decode cX11_inferredNow 30 = .ok (.invokestatic 214, 3) := by decide +kernel
theorem dX11_inferredNow_33 : decode cX11_inferredNow 33 = .ok (.iadd, 1) := by decide +kernel
theorem dX11_inferredNow_34 : decode cX11_inferredNow 34 = .ok (.istore_n 1, 1) := by decide +kernel
theorem dX11_inferredNow_35 : decode cX11_inferredNow 35 = .ok (.iinc 2 1, 3) := by decide +kernel
theorem dX11_inferredNow_38 : decode cX11_inferredNow 38 = .ok (.goto (-30), 3) := by decide +kernel
theorem dX11_inferredNow_41 : decode cX11_inferredNow 41 = .ok (.iload_n 1, 1) := by decide +kernel
theorem dX11_inferredNow_42 : decode cX11_inferredNow 42 = .ok (.ireturn, 1) := by decide +kernel
theorem dX11_rule_0 : decode cX11_rule 0 = .ok (.iload_n 1, 1) := by decide +kernel
theorem dX11_rule_1 : decode cX11_rule 1 = .ok (.invokestatic 171, 3) := by decide +kernel
theorem dX11_rule_4 : decode cX11_rule 4 = .ok (.ifCond .eq 21, 3) := by decide +kernel
theorem dX11_rule_7 : decode cX11_rule 7 = .ok (.iload_n 2, 1) := by decide +kernel
theorem dX11_rule_8 : decode cX11_rule 8 = .ok (.invokestatic 171, 3) := by decide +kernel
theorem dX11_rule_11 : decode cX11_rule 11 = .ok (.ifCond .eq 14, 3) := by decide +kernel
theorem dX11_rule_14 : decode cX11_rule 14 = .ok (.iload_n 3, 1) := by decide +kernel
theorem dX11_rule_15 : decode cX11_rule 15 = .ok (.invokestatic 171, 3) := by decide +kernel
theorem dX11_rule_18 : decode cX11_rule 18 = .ok (.ifCond .eq 7, 3) := by decide +kernel
theorem dX11_rule_21 : decode cX11_rule 21 = .ok (.iconst 1, 1) := by decide +kernel
theorem dX11_rule_22 : decode cX11_rule 22 = .ok (.goto 4, 3) := by decide +kernel
theorem dX11_rule_25 : decode cX11_rule 25 = .ok (.iconst 0, 1) := by decide +kernel
theorem dX11_rule_26 : decode cX11_rule 26 = .ok (.istore 4, 2) := by decide +kernel
theorem dX11_rule_28 : decode cX11_rule 28 = .ok (.aload_n 0, 1) := by decide +kernel
theorem dX11_rule_29 : decode cX11_rule 29 = .ok (.iload 4, 2) := by decide +kernel
theorem dX11_rule_31 : decode cX11_rule 31 = .ok (.ifCond .ne 7, 3) := by decide +kernel
theorem dX11_rule_34 : decode cX11_rule 34 = .ok (.iconst 1, 1) := by decide +kernel
theorem dX11_rule_35 : decode cX11_rule 35 = .ok (.goto 17, 3) := by decide +kernel
theorem dX11_rule_38 : decode cX11_rule 38 = .ok (.aload_n 0, 1) := by decide +kernel
theorem dX11_rule_39 : decode cX11_rule 39 = .ok (.getfield 242, 3) := by decide +kernel
theorem dX11_rule_42 : decode cX11_rule 42 = .ok (.bipush 6, 2) := by decide +kernel
theorem dX11_rule_44 : decode cX11_rule 44 = .ok (.if_icmp .ne 7, 3) := by decide +kernel
theorem dX11_rule_47 : decode cX11_rule 47 = .ok (.iconst 2, 1) := by decide +kernel
theorem dX11_rule_48 : decode cX11_rule 48 = .ok (.goto 4, 3) := by decide +kernel
theorem dX11_rule_51 : decode cX11_rule 51 = .ok (.iconst 0, 1) := by decide +kernel
theorem dX11_rule_52 : decode cX11_rule 52 = .ok (.invokevirtual 181, 3) := by decide +kernel
theorem dX11_rule_55 : decode cX11_rule 55 = .ok (.ifCond .eq 5, 3) := by decide +kernel
theorem dX11_rule_58 : decode cX11_rule 58 = .ok (.iconst 0, 1) := by decide +kernel
theorem dX11_rule_59 : decode cX11_rule 59 = .ok (.ireturn, 1) := by decide +kernel
theorem dX11_rule_60 : decode cX11_rule 60 = .ok (.aload_n 0, 1) := by decide +kernel
theorem dX11_rule_61 : decode cX11_rule 61 = .ok (.getfield 117, 3) := by decide +kernel
theorem dX11_rule_64 : decode cX11_rule 64 = .ok (.aload_n 0, 1) := by decide +kernel
theorem dX11_rule_65 : decode cX11_rule 65 = .ok (.getfield 242, 3) := by decide +kernel
theorem dX11_rule_68 : decode cX11_rule 68 = .ok (.iload_n 1, 1) := by decide +kernel
theorem dX11_rule_69 : decode cX11_rule 69 = .ok (.iastore, 1) := by decide +kernel
theorem dX11_rule_70 : decode cX11_rule 70 = .ok (.aload_n 0, 1) := by decide +kernel
theorem dX11_rule_71 : decode cX11_rule 71 = .ok (.getfield 120, 3) := by decide +kernel
theorem dX11_rule_74 : decode cX11_rule 74 = .ok (.aload_n 0, 1) := by decide +kernel
theorem dX11_rule_75 : decode cX11_rule 75 = .ok (.getfield 242, 3) := by decide +kernel
theorem dX11_rule_78 : decode cX11_rule 78 = .ok (.iload_n 2, 1) := by decide +kernel
theorem dX11_rule_79 : decode cX11_rule 79 = .ok (.iastore, 1) := by decide +kernel
theorem dX11_rule_80 : decode cX11_rule 80 = .ok (.aload_n 0, 1) := by decide +kernel
theorem dX11_rule_81 : decode cX11_rule 81 = .ok (.getfield 123, 3) := by decide +kernel
theorem dX11_rule_84 : decode cX11_rule 84 = .ok (.aload_n 0, 1) := by decide +kernel
theorem dX11_rule_85 : decode cX11_rule 85 = .ok (.getfield 242, 3) := by decide +kernel
theorem dX11_rule_88 : decode cX11_rule 88 = .ok (.iload_n 3, 1) := by decide +kernel
theorem dX11_rule_89 : decode cX11_rule 89 = .ok (.iastore, 1) := by decide +kernel
theorem dX11_rule_90 : decode cX11_rule 90 = .ok (.aload_n 0, 1) := by decide +kernel
theorem dX11_rule_91 : decode cX11_rule 91 = .ok (.dup, 1) := by decide +kernel
theorem dX11_rule_92 : decode cX11_rule 92 = .ok (.getfield 242, 3) := by decide +kernel
theorem dX11_rule_95 : decode cX11_rule 95 = .ok (.iconst 1, 1) := by decide +kernel
theorem dX11_rule_96 : decode cX11_rule 96 = .ok (.iadd, 1) := by decide +kernel
theorem dX11_rule_97 : decode cX11_rule 97 = .ok (.putfield 242, 3) := by decide +kernel
theorem dX11_rule_100 : decode cX11_rule 100 = .ok (.aload_n 0, 1) := by decide +kernel
theorem dX11_rule_101 : decode cX11_rule 101 = .ok (.getfield 242, 3) := by decide +kernel
theorem dX11_rule_104 : decode cX11_rule 104 = .ok (.iconst 1, 1) := by decide +kernel
theorem dX11_rule_105 : decode cX11_rule 105 = .ok (.isub, 1) := by decide +kernel
theorem dX11_rule_106 : decode cX11_rule 106 = .ok (.ireturn, 1) := by decide +kernel
theorem dX11_dropRule_0 : decode cX11_dropRule 0 = .ok (.aload_n 0, 1) := by decide +kernel
theorem dX11_dropRule_1 : decode cX11_dropRule 1 = .ok (.iload_n 1, 1) := by decide +kernel
theorem dX11_dropRule_2 : decode cX11_dropRule 2 = .ok (.iconst 0, 1) := by decide +kernel
theorem dX11_dropRule_3 : decode cX11_dropRule 3 = .ok (.aload_n 0, 1) := by decide +kernel
theorem dX11_dropRule_4 : decode cX11_dropRule 4 = .ok (.getfield 242, 3) := by decide +kernel
theorem dX11_dropRule_7 : decode cX11_dropRule 7 = .ok (.iconst 1, 1) := by decide +kernel
theorem dX11_dropRule_8 : decode cX11_dropRule 8 = .ok (.isub, 1) := by decide +kernel
theorem dX11_dropRule_9 : decode cX11_dropRule 9 = .ok (.invokestatic 146, 3) := by decide +kernel
theorem dX11_dropRule_12 : decode cX11_dropRule 12 = .ok (.ifCond .eq 16, 3) := by decide +kernel
theorem dX11_dropRule_15 : decode cX11_dropRule 15 = .ok (.aload_n 0, 1) := by decide +kernel
theorem dX11_dropRule_16 : decode cX11_dropRule 16 = .ok (.getfield 126, 3) := by decide +kernel
theorem dX11_dropRule_19 : decode cX11_dropRule 19 = .ok (.iload_n 1, 1) := by decide +kernel
theorem dX11_dropRule_20 : decode cX11_dropRule 20 = .ok (.baload, 1) := by decide +kernel
theorem dX11_dropRule_21 : decode cX11_dropRule 21 = .ok (.ifCond .ne 7, 3) := by decide +kernel
theorem dX11_dropRule_24 : decode cX11_dropRule 24 = .ok (.iconst 0, 1) := by decide +kernel
theorem dX11_dropRule_25 : decode cX11_dropRule 25 = .ok (.goto 4, 3) := by decide +kernel
theorem dX11_dropRule_28 : decode cX11_dropRule 28 = .ok (.iconst 1, 1) := by decide +kernel
theorem dX11_dropRule_29 : decode cX11_dropRule 29 = .ok (.invokevirtual 181, 3) := by decide +kernel
theorem dX11_dropRule_32 : decode cX11_dropRule 32 = .ok (.ifCond .eq 5, 3) := by decide +kernel
theorem dX11_dropRule_35 : decode cX11_dropRule 35 = .ok (.iconst 0, 1) := by decide +kernel
theorem dX11_dropRule_36 : decode cX11_dropRule 36 = .ok (.ireturn, 1) := by decide +kernel
theorem dX11_dropRule_37 : decode cX11_dropRule 37 = .ok (.aload_n 0, 1) := by decide +kernel
theorem dX11_dropRule_38 : decode cX11_dropRule 38 = .ok (.invokevirtual 251, 3) := by decide +kernel
theorem dX11_dropRule_41 : decode cX11_dropRule 41 = .ok (.istore_n 2, 1) := by decide +kernel
theorem dX11_dropRule_42 : decode cX11_dropRule 42 = .ok (.aload_n 0, 1) := by decide +kernel
theorem dX11_dropRule_43 : decode cX11_dropRule 43 = .ok (.getfield 126, 3) := by decide +kernel
theorem dX11_dropRule_46 : decode cX11_dropRule 46 = .ok (.iload_n 1, 1) := by decide +kernel
theorem dX11_dropRule_47 : decode cX11_dropRule 47 = .ok (.iconst 1, 1) := by decide +kernel
theorem dX11_dropRule_48 : decode cX11_dropRule 48 = .ok (.bastore, 1) := by decide +kernel
theorem dX11_dropRule_49 : decode cX11_dropRule 49 = .ok (.iload_n 2, 1) := by decide +kernel
theorem dX11_dropRule_50 : decode cX11_dropRule 50 = .ok (.aload_n 0, 1) := by decide +kernel
theorem dX11_dropRule_51 : decode cX11_dropRule 51 = .ok (.invokevirtual 251, 3) := by decide +kernel
theorem dX11_dropRule_54 : decode cX11_dropRule 54 = .ok (.isub, 1) := by decide +kernel
theorem dX11_dropRule_55 : decode cX11_dropRule 55 = .ok (.ireturn, 1) := by decide +kernel
theorem dX11_inferred_0 : decode cX11_inferred 0 = .ok (.aload_n 0, 1) := by decide +kernel
theorem dX11_inferred_1 : decode cX11_inferred 1 = .ok (.iconst 0, 1) := by decide +kernel
theorem dX11_inferred_2 : decode cX11_inferred 2 = .ok (.putfield 138, 3) := by decide +kernel
theorem dX11_inferred_5 : decode cX11_inferred 5 = .ok (.aload_n 0, 1) := by decide +kernel
theorem dX11_inferred_6 : decode cX11_inferred 6 = .ok (.invokevirtual 251, 3) := by decide +kernel
theorem dX11_inferred_9 : decode cX11_inferred 9 = .ok (.ireturn, 1) := by decide +kernel
theorem dX11_reasons_0 : decode cX11_reasons 0 = .ok (.aload_n 0, 1) := by decide +kernel
theorem dX11_reasons_1 : decode cX11_reasons 1 = .ok (.iload_n 1, 1) := by decide +kernel
theorem dX11_reasons_2 : decode cX11_reasons 2 = .ok (.invokevirtual 163, 3) := by decide +kernel
theorem dX11_reasons_5 : decode cX11_reasons 5 = .ok (.ifCond .eq 22, 3) := by decide +kernel
theorem dX11_reasons_8 : decode cX11_reasons 8 = .ok (.aload_n 0, 1) := by decide +kernel
theorem dX11_reasons_9 : decode cX11_reasons 9 = .ok (.iload_n 3, 1) := by decide +kernel
theorem dX11_reasons_10 : decode cX11_reasons 10 = .ok (.invokevirtual 163, 3) := by decide +kernel
theorem dX11_reasons_13 : decode cX11_reasons 13 = .ok (.ifCond .eq 14, 3) := by decide +kernel
theorem dX11_reasons_16 : decode cX11_reasons 16 = .ok (.iload_n 2, 1) := by decide +kernel
theorem dX11_reasons_17 : decode cX11_reasons 17 = .ok (.invokestatic 171, 3) := by decide +kernel
theorem dX11_reasons_20 : decode cX11_reasons 20 = .ok (.ifCond .eq 7, 3) := by decide +kernel
theorem dX11_reasons_23 : decode cX11_reasons 23 = .ok (.iconst 1, 1) := by decide +kernel
theorem dX11_reasons_24 : decode cX11_reasons 24 = .ok (.goto 4, 3) := by decide +kernel
theorem dX11_reasons_27 : decode cX11_reasons 27 = .ok (.iconst 0, 1) := by decide +kernel
theorem dX11_reasons_28 : decode cX11_reasons 28 = .ok (.istore 4, 2) := by decide +kernel
theorem dX11_reasons_30 : decode cX11_reasons 30 = .ok (.aload_n 0, 1) := by decide +kernel
theorem dX11_reasons_31 : decode cX11_reasons 31 = .ok (.iload 4, 2) := by decide +kernel
theorem dX11_reasons_33 : decode cX11_reasons 33 = .ok (.ifCond .eq 7, 3) := by decide +kernel
theorem dX11_reasons_36 : decode cX11_reasons 36 = .ok (.iconst 0, 1) := by decide +kernel
theorem dX11_reasons_37 : decode cX11_reasons 37 = .ok (.goto 4, 3) := by decide +kernel
theorem dX11_reasons_40 : decode cX11_reasons 40 = .ok (.iconst 1, 1) := by decide +kernel
theorem dX11_reasons_41 : decode cX11_reasons 41 = .ok (.invokevirtual 181, 3) := by decide +kernel
theorem dX11_reasons_44 : decode cX11_reasons 44 = .ok (.ifCond .eq 5, 3) := by decide +kernel
theorem dX11_reasons_47 : decode cX11_reasons 47 = .ok (.iconst 0, 1) := by decide +kernel
theorem dX11_reasons_48 : decode cX11_reasons 48 = .ok (.ireturn, 1) := by decide +kernel
theorem dX11_reasons_49 : decode cX11_reasons 49 = .ok (.aload_n 0, 1) := by decide +kernel
theorem dX11_reasons_50 : decode cX11_reasons 50 = .ok (.invokevirtual 248, 3) := by decide +kernel
theorem dX11_reasons_53 : decode cX11_reasons 53 = .ok (.iconst 0, 1) := by decide +kernel
theorem dX11_reasons_54 : decode cX11_reasons 54 = .ok (.istore 5, 2) := by decide +kernel
theorem dX11_reasons_56 : decode cX11_reasons 56 = .ok (.iconst 0, 1) := by decide +kernel
theorem dX11_reasons_57 : decode cX11_reasons 57 = .ok (.istore 6, 2) := by decide +kernel
theorem dX11_reasons_59 : decode cX11_reasons 59 = .ok (.iload 6, 2) := by decide +kernel
theorem dX11_reasons_61 : decode cX11_reasons 61 = .ok (.aload_n 0, 1) := by decide +kernel
theorem dX11_reasons_62 : decode cX11_reasons 62 = .ok (.getfield 154, 3) := by decide +kernel
theorem dX11_reasons_65 : decode cX11_reasons 65 = .ok (.if_icmp .ge 61, 3) := by decide +kernel
theorem dX11_reasons_68 : decode cX11_reasons 68 = .ok (.iload 5, 2) := by decide +kernel
theorem dX11_reasons_70 : decode cX11_reasons 70 = .ok (.aload_n 0, 1) := by decide +kernel
theorem dX11_reasons_71 : decode cX11_reasons 71 = .ok (.iload 6, 2) := by decide +kernel
theorem dX11_reasons_73 : decode cX11_reasons 73 = .ok (.invokevirtual 195, 3) := by decide +kernel
theorem dX11_reasons_76 : decode cX11_reasons 76 = .ok (.ifCond .eq 40, 3) := by decide +kernel
theorem dX11_reasons_79 : decode cX11_reasons 79 = .ok (.aload_n 0, 1) := by decide +kernel
theorem dX11_reasons_80 : decode cX11_reasons 80 = .ok (.getfield 48, 3) := by decide +kernel
theorem dX11_reasons_83 : decode cX11_reasons 83 = .ok (.iload 6, 2) := by decide +kernel
theorem dX11_reasons_85 : decode cX11_reasons 85 = .ok (.iaload, 1) := by decide +kernel
theorem dX11_reasons_86 : decode cX11_reasons 86 = .ok (.iload_n 1, 1) := by decide +kernel
theorem dX11_reasons_87 : decode cX11_reasons 87 = .ok (.if_icmp .ne 29, 3) := by decide +kernel
theorem dX11_reasons_90 : decode cX11_reasons 90 = .ok (.aload_n 0, 1) := by decide +kernel
theorem dX11_reasons_91 : decode cX11_reasons 91 = .ok (.getfield 51, 3) := by decide +kernel
theorem dX11_reasons_94 : decode cX11_reasons 94 = .ok (.iload 6, 2) := by decide +kernel
theorem dX11_reasons_96 : decode cX11_reasons 96 = .ok (.iaload, 1) := by decide +kernel
theorem dX11_reasons_97 : decode cX11_reasons 97 = .ok (.iload_n 3, 1) := by decide +kernel
theorem dX11_reasons_98 : decode cX11_reasons 98 = .ok (.if_icmp .ne 18, 3) := by decide +kernel
theorem dX11_reasons_101 : decode cX11_reasons 101 = .ok (.aload_n 0, 1) := by decide +kernel
theorem dX11_reasons_102 : decode cX11_reasons 102 = .ok (.getfield 54, 3) := by decide +kernel
theorem dX11_reasons_105 : decode cX11_reasons 105 = .ok (.iload 6, 2) := by decide +kernel
theorem dX11_reasons_107 : decode cX11_reasons 107 = .ok (.iaload, 1) := by decide +kernel
theorem dX11_reasons_108 : decode cX11_reasons 108 = .ok (.iload_n 2, 1) := by decide +kernel
theorem dX11_reasons_109 : decode cX11_reasons 109 = .ok (.if_icmp .ne 7, 3) := by decide +kernel
theorem dX11_reasons_112 : decode cX11_reasons 112 = .ok (.iconst 1, 1) := by decide +kernel
theorem dX11_reasons_113 : decode cX11_reasons 113 = .ok (.goto 4, 3) := by decide +kernel
theorem dX11_reasons_116 : decode cX11_reasons 116 = .ok (.iconst 0, 1) := by decide +kernel
theorem dX11_reasons_117 : decode cX11_reasons 117 = .ok (.iadd, 1) := by decide +kernel
theorem dX11_reasons_118 : decode cX11_reasons 118 = .ok (.istore 5, 2) := by decide +kernel
theorem dX11_reasons_120 : decode cX11_reasons 120 = .ok (.iinc 6 1, 3) := by decide +kernel
theorem dX11_reasons_123 : decode cX11_reasons 123 = .ok (.goto (-64), 3) := by decide +kernel
theorem dX11_reasons_126 : decode cX11_reasons 126 = .ok (.iconst 0, 1) := by decide +kernel
theorem dX11_reasons_127 : decode cX11_reasons 127 = .ok (.istore 6, 2) := by decide +kernel
theorem dX11_reasons_129 : decode cX11_reasons 129 = .ok (.iload 6, 2) := by decide +kernel
theorem dX11_reasons_131 : decode cX11_reasons 131 = .ok (.aload_n 0, 1) := by decide +kernel
theorem dX11_reasons_132 : decode cX11_reasons 132 = .ok (.getfield 242, 3) := by decide +kernel
theorem dX11_reasons_135 : decode cX11_reasons 135 = .ok (.if_icmp .ge 106, 3) := by decide +kernel
theorem dX11_reasons_138 : decode cX11_reasons 138 = .ok (.iconst 0, 1) := by decide +kernel
theorem dX11_reasons_139 : decode cX11_reasons 139 = .ok (.istore 7, 2) := by decide +kernel
theorem dX11_reasons_141 : decode cX11_reasons 141 = .ok (.iload 7, 2) := by decide +kernel
theorem dX11_reasons_143 : decode cX11_reasons 143 = .ok (.bipush 24, 2) := by decide +kernel
theorem dX11_reasons_145 : decode cX11_reasons 145 = .ok (.if_icmp .ge 90, 3) := by decide +kernel
theorem dX11_reasons_148 : decode cX11_reasons 148 = .ok (.aload_n 0, 1) := by decide +kernel
theorem dX11_reasons_149 : decode cX11_reasons 149 = .ok (.getfield 126, 3) := by decide +kernel
theorem dX11_reasons_152 : decode cX11_reasons 152 = .ok (.iload 6, 2) := by decide +kernel
theorem dX11_reasons_154 : decode cX11_reasons 154 = .ok (.baload, 1) := by decide +kernel
theorem dX11_reasons_155 : decode cX11_reasons 155 = .ok (.ifCond .ne 80, 3) := by decide +kernel
theorem dX11_reasons_158 : decode cX11_reasons 158 = .ok (.aload_n 0, 1) := by decide +kernel
theorem dX11_reasons_159 : decode cX11_reasons 159 = .ok (.getfield 123, 3) := by decide +kernel
theorem dX11_reasons_162 : decode cX11_reasons 162 = .ok (.iload 6, 2) := by decide +kernel
theorem dX11_reasons_164 : decode cX11_reasons 164 = .ok (.iaload, 1) := by decide +kernel
theorem dX11_reasons_165 : decode cX11_reasons 165 = .ok (.iload_n 2, 1) := by decide +kernel
theorem dX11_reasons_166 : decode cX11_reasons 166 = .ok (.if_icmp .ne 69, 3) := by decide +kernel
theorem dX11_reasons_169 : decode cX11_reasons 169 = .ok (.iload 5, 2) := by decide +kernel
theorem dX11_reasons_171 : decode cX11_reasons 171 = .ok (.aload_n 0, 1) := by decide +kernel
theorem dX11_reasons_172 : decode cX11_reasons 172 = .ok (.getfield 132, 3) := by decide +kernel
theorem dX11_reasons_175 : decode cX11_reasons 175 = .ok (.bipush 24, 2) := by decide +kernel
theorem dX11_reasons_177 : decode cX11_reasons 177 = .ok (.aload_n 0, 1) := by decide +kernel
theorem dX11_reasons_178 : decode cX11_reasons 178 = .ok (.getfield 117, 3) := by decide +kernel
theorem dX11_reasons_181 : decode cX11_reasons 181 = .ok (.iload 6, 2) := by decide +kernel
theorem dX11_reasons_183 : decode cX11_reasons 183 = .ok (.iaload, 1) := by decide +kernel
theorem dX11_reasons_184 : decode cX11_reasons 184 = .ok (.imul, 1) := by decide +kernel
theorem dX11_reasons_185 : decode cX11_reasons 185 = .ok (.iload_n 1, 1) := by decide +kernel
theorem dX11_reasons_186 : decode cX11_reasons 186 = .ok (.iadd, 1) := by decide +kernel
theorem dX11_reasons_187 : decode cX11_reasons 187 = .ok (.iaload, 1) := by decide +kernel
theorem dX11_reasons_188 : decode cX11_reasons 188 = .ok (.iload 7, 2) := by decide +kernel
theorem dX11_reasons_190 : decode cX11_reasons 190 = .ok (.invokestatic 142, 3) := by decide +kernel
theorem dX11_reasons_193 : decode cX11_reasons 193 = .ok (.ifCond .eq 32, 3) := by decide +kernel
theorem dX11_reasons_196 : decode cX11_reasons 196 = .ok (.aload_n 0, 1) := by decide +kernel
theorem dX11_reasons_197 : decode cX11_reasons 197 = .ok (.getfield 132, 3) := by decide +kernel
theorem dX11_reasons_200 : decode cX11_reasons 200 = .ok (.bipush 24, 2) := by decide +kernel
theorem dX11_reasons_202 : decode cX11_reasons 202 = .ok (.aload_n 0, 1) := by decide +kernel
theorem dX11_reasons_203 : decode cX11_reasons 203 = .ok (.getfield 120, 3) := by decide +kernel
theorem dX11_reasons_206 : decode cX11_reasons 206 = .ok (.iload 6, 2) := by decide +kernel
theorem dX11_reasons_208 : decode cX11_reasons 208 = .ok (.iaload, 1) := by decide +kernel
theorem dX11_reasons_209 : decode cX11_reasons 209 = .ok (.imul, 1) := by decide +kernel
theorem dX11_reasons_210 : decode cX11_reasons 210 = .ok (.iload 7, 2) := by decide +kernel
theorem dX11_reasons_212 : decode cX11_reasons 212 = .ok (.iadd, 1) := by decide +kernel
theorem dX11_reasons_213 : decode cX11_reasons 213 = .ok (.iaload, 1) := by decide +kernel
theorem dX11_reasons_214 : decode cX11_reasons 214 = .ok (.iload_n 3, 1) := by decide +kernel
theorem dX11_reasons_215 : decode cX11_reasons 215 = .ok (.invokestatic 142, 3) := by decide +kernel
theorem dX11_reasons_218 : decode cX11_reasons 218 = .ok (.ifCond .eq 7, 3) := by decide +kernel
theorem dX11_reasons_221 : decode cX11_reasons 221 = .ok (.iconst 1, 1) := by decide +kernel
theorem dX11_reasons_222 : decode cX11_reasons 222 = .ok (.goto 4, 3) := by decide +kernel
theorem dX11_reasons_225 : decode cX11_reasons 225 = .ok (.iconst 0, 1) := by decide +kernel
theorem dX11_reasons_226 : decode cX11_reasons 226 = .ok (.iadd, 1) := by decide +kernel
theorem dX11_reasons_227 : decode cX11_reasons 227 = .ok (.istore 5, 2) := by decide +kernel
theorem dX11_reasons_229 : decode cX11_reasons 229 = .ok (.iinc 7 1, 3) := by decide +kernel
theorem dX11_reasons_232 : decode cX11_reasons 232 = .ok (.goto (-91), 3) := by decide +kernel
theorem dX11_reasons_235 : decode cX11_reasons 235 = .ok (.iinc 6 1, 3) := by decide +kernel
theorem dX11_reasons_238 : decode cX11_reasons 238 = .ok (.goto (-109), 3) := by decide +kernel
theorem dX11_reasons_241 : decode cX11_reasons 241 = .ok (.iload 5, 2) := by decide +kernel
theorem dX11_reasons_243 : decode cX11_reasons 243 = .ok (.ireturn, 1) := by decide +kernel
theorem dX11_needed_0 : decode cX11_needed 0 = .ok (.iload_n 0, 1) := by decide +kernel
theorem dX11_needed_1 : decode cX11_needed 1 = .ok (.iconst 3, 1) := by decide +kernel
theorem dX11_needed_2 : decode cX11_needed 2 = .ok (.if_icmp .ge 7, 3) := by decide +kernel
theorem dX11_needed_5 : decode cX11_needed 5 = .ok (.iconst 0, 1) := by decide +kernel
theorem dX11_needed_6 : decode cX11_needed 6 = .ok (.goto 13, 3) := by decide +kernel
theorem dX11_needed_9 : decode cX11_needed 9 = .ok (.iload_n 0, 1) := by decide +kernel
theorem dX11_needed_10 : decode cX11_needed 10 = .ok (.iconst 5, 1) := by decide +kernel
theorem dX11_needed_11 : decode cX11_needed 11 = .ok (.if_icmp .ne 7, 3) := by decide +kernel
theorem dX11_needed_14 : decode cX11_needed 14 = .ok (.iconst 1, 1) := by decide +kernel
theorem dX11_needed_15 : decode cX11_needed 15 = .ok (.goto 4, 3) := by decide +kernel
theorem dX11_needed_18 : decode cX11_needed 18 = .ok (.iconst 2, 1) := by decide +kernel
theorem dX11_needed_19 : decode cX11_needed 19 = .ok (.ireturn, 1) := by decide +kernel
theorem dX11_step_0 : decode cX11_step 0 = .ok (.iload_n 1, 1) := by decide +kernel
theorem dX11_step_1 : decode cX11_step 1 = .ok (.iconst 0, 1) := by decide +kernel
theorem dX11_step_2 : decode cX11_step 2 = .ok (.iconst 5, 1) := by decide +kernel
theorem dX11_step_3 : decode cX11_step 3 = .ok (.invokestatic 146, 3) := by decide +kernel
theorem dX11_step_6 : decode cX11_step 6 = .ok (.istore_n 3, 1) := by decide +kernel
theorem dX11_step_7 : decode cX11_step 7 = .ok (.iload_n 1, 1) := by decide +kernel
theorem dX11_step_8 : decode cX11_step 8 = .ok (.iconst 3, 1) := by decide +kernel
theorem dX11_step_9 : decode cX11_step 9 = .ok (.if_icmp .ge 10, 3) := by decide +kernel
theorem dX11_step_12 : decode cX11_step 12 = .ok (.iload_n 2, 1) := by decide +kernel
theorem dX11_step_13 : decode cX11_step 13 = .ok (.invokestatic 171, 3) := by decide +kernel
theorem dX11_step_16 : decode cX11_step 16 = .ok (.ifCond .eq 7, 3) := by decide +kernel
theorem dX11_step_19 : decode cX11_step 19 = .ok (.iconst 1, 1) := by decide +kernel
theorem dX11_step_20 : decode cX11_step 20 = .ok (.goto 4, 3) := by decide +kernel
theorem dX11_step_23 : decode cX11_step 23 = .ok (.iconst 0, 1) := by decide +kernel
theorem dX11_step_24 : decode cX11_step 24 = .ok (.istore 4, 2) := by decide +kernel
theorem dX11_step_26 : decode cX11_step 26 = .ok (.iload_n 1, 1) := by decide +kernel
theorem dX11_step_27 : decode cX11_step 27 = .ok (.iconst 3, 1) := by decide +kernel
theorem dX11_step_28 : decode cX11_step 28 = .ok (.if_icmp .lt 7, 3) := by decide +kernel
theorem dX11_step_31 : decode cX11_step 31 = .ok (.iload_n 2, 1) := by decide +kernel
theorem dX11_step_32 : decode cX11_step 32 = .ok (.ifCond .ne 7, 3) := by decide +kernel
theorem dX11_step_35 : decode cX11_step 35 = .ok (.iconst 1, 1) := by decide +kernel
theorem dX11_step_36 : decode cX11_step 36 = .ok (.goto 4, 3) := by decide +kernel
theorem dX11_step_39 : decode cX11_step 39 = .ok (.iconst 0, 1) := by decide +kernel
theorem dX11_step_40 : decode cX11_step 40 = .ok (.istore 5, 2) := by decide +kernel
theorem dX11_step_42 : decode cX11_step 42 = .ok (.aload_n 0, 1) := by decide +kernel
theorem dX11_step_43 : decode cX11_step 43 = .ok (.iload_n 3, 1) := by decide +kernel
theorem dX11_step_44 : decode cX11_step 44 = .ok (.ifCond .ne 7, 3) := by decide +kernel
theorem dX11_step_47 : decode cX11_step 47 = .ok (.iconst 2, 1) := by decide +kernel
theorem dX11_step_48 : decode cX11_step 48 = .ok (.goto 46, 3) := by decide +kernel
theorem dX11_step_51 : decode cX11_step 51 = .ok (.iload 4, 2) := by decide +kernel
theorem dX11_step_53 : decode cX11_step 53 = .ok (.ifCond .ne 7, 3) := by decide +kernel
theorem dX11_step_56 : decode cX11_step 56 = .ok (.iconst 1, 1) := by decide +kernel
theorem dX11_step_57 : decode cX11_step 57 = .ok (.goto 37, 3) := by decide +kernel
theorem dX11_step_60 : decode cX11_step 60 = .ok (.iload 5, 2) := by decide +kernel
theorem dX11_step_62 : decode cX11_step 62 = .ok (.ifCond .ne 7, 3) := by decide +kernel
theorem dX11_step_65 : decode cX11_step 65 = .ok (.iconst 2, 1) := by decide +kernel
theorem dX11_step_66 : decode cX11_step 66 = .ok (.goto 28, 3) := by decide +kernel
theorem dX11_step_69 : decode cX11_step 69 = .ok (.aload_n 0, 1) := by decide +kernel
theorem dX11_step_70 : decode cX11_step 70 = .ok (.getfield 254, 3) := by decide +kernel
theorem dX11_step_73 : decode cX11_step 73 = .ok (.bipush 12, 2) := by decide +kernel
theorem dX11_step_75 : decode cX11_step 75 = .ok (.if_icmp .eq 14, 3) := by decide +kernel
theorem dX11_step_78 : decode cX11_step 78 = .ok (.aload_n 0, 1) := by decide +kernel
theorem dX11_step_79 : decode cX11_step 79 = .ok (.getfield 257, 3) := by decide +kernel
theorem dX11_step_82 : decode cX11_step 82 = .ok (.iload_n 1, 1) := by decide +kernel
theorem dX11_step_83 : decode cX11_step 83 = .ok (.invokestatic 260, 3) := by decide +kernel
theorem dX11_step_86 : decode cX11_step 86 = .ok (.if_icmp .ge 7, 3) := by decide +kernel
theorem dX11_step_89 : decode cX11_step 89 = .ok (.iconst 3, 1) := by decide +kernel
theorem dX11_step_90 : decode cX11_step 90 = .ok (.goto 4, 3) := by decide +kernel
theorem dX11_step_93 : decode cX11_step 93 = .ok (.iconst 0, 1) := by decide +kernel
theorem dX11_step_94 : decode cX11_step 94 = .ok (.invokevirtual 181, 3) := by decide +kernel
theorem dX11_step_97 : decode cX11_step 97 = .ok (.ifCond .eq 5, 3) := by decide +kernel
theorem dX11_step_100 : decode cX11_step 100 = .ok (.iconst 0, 1) := by decide +kernel
theorem dX11_step_101 : decode cX11_step 101 = .ok (.ireturn, 1) := by decide +kernel
theorem dX11_step_102 : decode cX11_step 102 = .ok (.aload_n 0, 1) := by decide +kernel
theorem dX11_step_103 : decode cX11_step 103 = .ok (.getfield 102, 3) := by decide +kernel
theorem dX11_step_106 : decode cX11_step 106 = .ok (.aload_n 0, 1) := by decide +kernel
theorem dX11_step_107 : decode cX11_step 107 = .ok (.getfield 254, 3) := by decide +kernel
theorem dX11_step_110 : decode cX11_step 110 = .ok (.iload_n 1, 1) := by decide +kernel
theorem dX11_step_111 : decode cX11_step 111 = .ok (.iastore, 1) := by decide +kernel
theorem dX11_step_112 : decode cX11_step 112 = .ok (.aload_n 0, 1) := by decide +kernel
theorem dX11_step_113 : decode cX11_step 113 = .ok (.getfield 105, 3) := by decide +kernel
theorem dX11_step_116 : decode cX11_step 116 = .ok (.aload_n 0, 1) := by decide +kernel
theorem dX11_step_117 : decode cX11_step 117 = .ok (.getfield 254, 3) := by decide +kernel
theorem dX11_step_120 : decode cX11_step 120 = .ok (.iload_n 2, 1) := by decide +kernel
theorem dX11_step_121 : decode cX11_step 121 = .ok (.iastore, 1) := by decide +kernel
theorem dX11_step_122 : decode cX11_step 122 = .ok (.aload_n 0, 1) := by decide +kernel
theorem dX11_step_123 : decode cX11_step 123 = .ok (.dup, 1) := by decide +kernel
theorem dX11_step_124 : decode cX11_step 124 = .ok (.getfield 254, 3) := by decide +kernel
theorem dX11_step_127 : decode cX11_step 127 = .ok (.iconst 1, 1) := by decide +kernel
theorem dX11_step_128 : decode cX11_step 128 = .ok (.iadd, 1) := by decide +kernel
theorem dX11_step_129 : decode cX11_step 129 = .ok (.putfield 254, 3) := by decide +kernel
theorem dX11_step_132 : decode cX11_step 132 = .ok (.aload_n 0, 1) := by decide +kernel
theorem dX11_step_133 : decode cX11_step 133 = .ok (.dup, 1) := by decide +kernel
theorem dX11_step_134 : decode cX11_step 134 = .ok (.getfield 257, 3) := by decide +kernel
theorem dX11_step_137 : decode cX11_step 137 = .ok (.iload_n 1, 1) := by decide +kernel
theorem dX11_step_138 : decode cX11_step 138 = .ok (.iconst 3, 1) := by decide +kernel
theorem dX11_step_139 : decode cX11_step 139 = .ok (.if_icmp .ge 7, 3) := by decide +kernel
theorem dX11_step_142 : decode cX11_step 142 = .ok (.iconst 1, 1) := by decide +kernel
theorem dX11_step_143 : decode cX11_step 143 = .ok (.goto 13, 3) := by decide +kernel
theorem dX11_step_146 : decode cX11_step 146 = .ok (.iload_n 1, 1) := by decide +kernel
theorem dX11_step_147 : decode cX11_step 147 = .ok (.iconst 5, 1) := by decide +kernel
theorem dX11_step_148 : decode cX11_step 148 = .ok (.if_icmp .ne 7, 3) := by decide +kernel
theorem dX11_step_151 : decode cX11_step 151 = .ok (.iconst 0, 1) := by decide +kernel
theorem dX11_step_152 : decode cX11_step 152 = .ok (.goto 4, 3) := by decide +kernel
theorem dX11_step_155 : decode cX11_step 155 = .ok (.iconst (-1), 1) := by decide +kernel
theorem dX11_step_156 : decode cX11_step 156 = .ok (.iadd, 1) := by decide +kernel
theorem dX11_step_157 : decode cX11_step 157 = .ok (.putfield 257, 3) := by decide +kernel
theorem dX11_step_160 : decode cX11_step 160 = .ok (.aload_n 0, 1) := by decide +kernel
theorem dX11_step_161 : decode cX11_step 161 = .ok (.getfield 257, 3) := by decide +kernel
theorem dX11_step_164 : decode cX11_step 164 = .ok (.ireturn, 1) := by decide +kernel
theorem dX11_pattern_0 : decode cX11_pattern 0 = .ok (.aload_n 0, 1) := by decide +kernel
theorem dX11_pattern_1 : decode cX11_pattern 1 = .ok (.aload_n 0, 1) := by decide +kernel
theorem dX11_pattern_2 : decode cX11_pattern 2 = .ok (.getfield 257, 3) := by decide +kernel
theorem dX11_pattern_5 : decode cX11_pattern 5 = .ok (.iconst 1, 1) := by decide +kernel
theorem dX11_pattern_6 : decode cX11_pattern 6 = .ok (.if_icmp .ne 12, 3) := by decide +kernel
theorem dX11_pattern_9 : decode cX11_pattern 9 = .ok (.aload_n 0, 1) := by decide +kernel
theorem dX11_pattern_10 : decode cX11_pattern 10 = .ok (.getfield 263, 3) := by decide +kernel
theorem dX11_pattern_13 : decode cX11_pattern 13 = .ok (.bipush 6, 2) := by decide +kernel
theorem dX11_pattern_15 : decode cX11_pattern 15 = .ok (.if_icmp .ne 7, 3) := by decide +kernel
theorem dX11_pattern_18 : decode cX11_pattern 18 = .ok (.iconst 1, 1) := by decide +kernel
theorem dX11_pattern_19 : decode cX11_pattern 19 = .ok (.goto 4, 3) := by decide +kernel
theorem dX11_pattern_22 : decode cX11_pattern 22 = .ok (.iconst 0, 1) := by decide +kernel
theorem dX11_pattern_23 : decode cX11_pattern 23 = .ok (.invokevirtual 181, 3) := by decide +kernel
theorem dX11_pattern_26 : decode cX11_pattern 26 = .ok (.ifCond .eq 5, 3) := by decide +kernel
theorem dX11_pattern_29 : decode cX11_pattern 29 = .ok (.iconst 0, 1) := by decide +kernel
theorem dX11_pattern_30 : decode cX11_pattern 30 = .ok (.ireturn, 1) := by decide +kernel
theorem dX11_pattern_31 : decode cX11_pattern 31 = .ok (.iconst 0, 1) := by decide +kernel
theorem dX11_pattern_32 : decode cX11_pattern 32 = .ok (.istore_n 1, 1) := by decide +kernel
theorem dX11_pattern_33 : decode cX11_pattern 33 = .ok (.iload_n 1, 1) := by decide +kernel
theorem dX11_pattern_34 : decode cX11_pattern 34 = .ok (.aload_n 0, 1) := by decide +kernel
theorem dX11_pattern_35 : decode cX11_pattern 35 = .ok (.getfield 254, 3) := by decide +kernel
theorem dX11_pattern_38 : decode cX11_pattern 38 = .ok (.if_icmp .ge 49, 3) := by decide +kernel
theorem dX11_pattern_41 : decode cX11_pattern 41 = .ok (.aload_n 0, 1) := by decide +kernel
theorem dX11_pattern_42 : decode cX11_pattern 42 = .ok (.getfield 111, 3) := by decide +kernel
theorem dX11_pattern_45 : decode cX11_pattern 45 = .ok (.bipush 12, 2) := by decide +kernel
theorem dX11_pattern_47 : decode cX11_pattern 47 = .ok (.aload_n 0, 1) := by decide +kernel
theorem dX11_pattern_48 : decode cX11_pattern 48 = .ok (.getfield 263, 3) := by decide +kernel
theorem dX11_pattern_51 : decode cX11_pattern 51 = .ok (.imul, 1) := by decide +kernel
