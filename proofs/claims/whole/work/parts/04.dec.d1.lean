theorem dX11_key_46 : decode cX11_key 46 = .ok (.iload_n 1, 1) := by decide +kernel
theorem dX11_key_47 : decode cX11_key 47 = .ok (.aload_n 0, 1) := by decide +kernel
theorem dX11_key_48 : decode cX11_key 48 = .ok (.getfield 63, 3) := by decide +kernel
theorem dX11_key_51 : decode cX11_key 51 = .ok (.iload_n 1, 1) := by decide +kernel
theorem dX11_key_52 : decode cX11_key 52 = .ok (.baload, 1) := by decide +kernel
theorem dX11_key_53 : decode cX11_key 53 = .ok (.ifCond .ne 7, 3) := by decide +kernel
theorem dX11_key_56 : decode cX11_key 56 = .ok (.iconst 1, 1) := by decide +kernel
theorem dX11_key_57 : decode cX11_key 57 = .ok (.goto 4, 3) := by decide +kernel
theorem dX11_key_60 : decode cX11_key 60 = .ok (.iconst 0, 1) := by decide +kernel
theorem dX11_key_61 : decode cX11_key 61 = .ok (.bastore, 1) := by decide +kernel
theorem dX11_key_62 : decode cX11_key 62 = .ok (.aload_n 0, 1) := by decide +kernel
theorem dX11_key_63 : decode cX11_key 63 = .ok (.getfield 63, 3) := by decide +kernel
theorem dX11_key_66 : decode cX11_key 66 = .ok (.iload_n 1, 1) := by decide +kernel
theorem dX11_key_67 : decode cX11_key 67 = .ok (.baload, 1) := by decide +kernel
theorem dX11_key_68 : decode cX11_key 68 = .ok (.ireturn, 1) := by decide +kernel
theorem dX11_shape_0 : decode cX11_shape 0 = .ok (.iload_n 1, 1) := by decide +kernel
theorem dX11_shape_1 : decode cX11_shape 1 = .ok (.invokestatic 171, 3) := by decide +kernel
theorem dX11_shape_4 : decode cX11_shape 4 = .ok (.ifCond .eq 28, 3) := by decide +kernel
theorem dX11_shape_7 : decode cX11_shape 7 = .ok (.iload_n 2, 1) := by decide +kernel
theorem dX11_shape_8 : decode cX11_shape 8 = .ok (.iconst (-1), 1) := by decide +kernel
theorem dX11_shape_9 : decode cX11_shape 9 = .ok (.iconst 3, 1) := by decide +kernel
theorem dX11_shape_10 : decode cX11_shape 10 = .ok (.invokestatic 146, 3) := by decide +kernel
theorem dX11_shape_13 : decode cX11_shape 13 = .ok (.ifCond .eq 19, 3) := by decide +kernel
theorem dX11_shape_16 : decode cX11_shape 16 = .ok (.iload_n 2, 1) := by decide +kernel
theorem dX11_shape_17 : decode cX11_shape 17 = .ok (.iconst (-1), 1) := by decide +kernel
theorem dX11_shape_18 : decode cX11_shape 18 = .ok (.if_icmp .eq 10, 3) := by decide +kernel
theorem dX11_shape_21 : decode cX11_shape 21 = .ok (.iload_n 3, 1) := by decide +kernel
theorem dX11_shape_22 : decode cX11_shape 22 = .ok (.invokestatic 171, 3) := by decide +kernel
theorem dX11_shape_25 : decode cX11_shape 25 = .ok (.ifCond .eq 7, 3) := by decide +kernel
theorem dX11_shape_28 : decode cX11_shape 28 = .ok (.iconst 1, 1) := by decide +kernel
theorem dX11_shape_29 : decode cX11_shape 29 = .ok (.goto 4, 3) := by decide +kernel
theorem dX11_shape_32 : decode cX11_shape 32 = .ok (.iconst 0, 1) := by decide +kernel
theorem dX11_shape_33 : decode cX11_shape 33 = .ok (.istore 4, 2) := by decide +kernel
theorem dX11_shape_35 : decode cX11_shape 35 = .ok (.iconst 1, 1) := by decide +kernel
theorem dX11_shape_36 : decode cX11_shape 36 = .ok (.istore 5, 2) := by decide +kernel
theorem dX11_shape_38 : decode cX11_shape 38 = .ok (.iconst 0, 1) := by decide +kernel
theorem dX11_shape_39 : decode cX11_shape 39 = .ok (.istore 6, 2) := by decide +kernel
theorem dX11_shape_41 : decode cX11_shape 41 = .ok (.iload 6, 2) := by decide +kernel
theorem dX11_shape_43 : decode cX11_shape 43 = .ok (.aload_n 0, 1) := by decide +kernel
theorem dX11_shape_44 : decode cX11_shape 44 = .ok (.getfield 154, 3) := by decide +kernel
theorem dX11_shape_47 : decode cX11_shape 47 = .ok (.if_icmp .ge 83, 3) := by decide +kernel
theorem dX11_shape_50 : decode cX11_shape 50 = .ok (.iload 4, 2) := by decide +kernel
theorem dX11_shape_52 : decode cX11_shape 52 = .ok (.ifCond .eq 78, 3) := by decide +kernel
theorem dX11_shape_55 : decode cX11_shape 55 = .ok (.iload_n 2, 1) := by decide +kernel
theorem dX11_shape_56 : decode cX11_shape 56 = .ok (.iconst (-1), 1) := by decide +kernel
theorem dX11_shape_57 : decode cX11_shape 57 = .ok (.if_icmp .eq 73, 3) := by decide +kernel
theorem dX11_shape_60 : decode cX11_shape 60 = .ok (.iload 5, 2) := by decide +kernel
theorem dX11_shape_62 : decode cX11_shape 62 = .ok (.ifCond .eq 59, 3) := by decide +kernel
theorem dX11_shape_65 : decode cX11_shape 65 = .ok (.aload_n 0, 1) := by decide +kernel
theorem dX11_shape_66 : decode cX11_shape 66 = .ok (.iload 6, 2) := by decide +kernel
theorem dX11_shape_68 : decode cX11_shape 68 = .ok (.invokevirtual 195, 3) := by decide +kernel
theorem dX11_shape_71 : decode cX11_shape 71 = .ok (.ifCond .eq 46, 3) := by decide +kernel
theorem dX11_shape_74 : decode cX11_shape 74 = .ok (.aload_n 0, 1) := by decide +kernel
theorem dX11_shape_75 : decode cX11_shape 75 = .ok (.getfield 54, 3) := by decide +kernel
theorem dX11_shape_78 : decode cX11_shape 78 = .ok (.iload 6, 2) := by decide +kernel
theorem dX11_shape_80 : decode cX11_shape 80 = .ok (.iaload, 1) := by decide +kernel
theorem dX11_shape_81 : decode cX11_shape 81 = .ok (.iload_n 1, 1) := by decide +kernel
theorem dX11_shape_82 : decode cX11_shape 82 = .ok (.if_icmp .ne 35, 3) := by decide +kernel
theorem dX11_shape_85 : decode cX11_shape 85 = .ok (.aload_n 0, 1) := by decide +kernel
theorem dX11_shape_86 : decode cX11_shape 86 = .ok (.getfield 7, 3) := by decide +kernel
theorem dX11_shape_89 : decode cX11_shape 89 = .ok (.aload_n 0, 1) := by decide +kernel
theorem dX11_shape_90 : decode cX11_shape 90 = .ok (.getfield 48, 3) := by decide +kernel
theorem dX11_shape_93 : decode cX11_shape 93 = .ok (.iload 6, 2) := by decide +kernel
theorem dX11_shape_95 : decode cX11_shape 95 = .ok (.iaload, 1) := by decide +kernel
theorem dX11_shape_96 : decode cX11_shape 96 = .ok (.iaload, 1) := by decide +kernel
theorem dX11_shape_97 : decode cX11_shape 97 = .ok (.iload_n 2, 1) := by decide +kernel
theorem dX11_shape_98 : decode cX11_shape 98 = .ok (.if_icmp .ne 23, 3) := by decide +kernel
theorem dX11_shape_101 : decode cX11_shape 101 = .ok (.aload_n 0, 1) := by decide +kernel
theorem dX11_shape_102 : decode cX11_shape 102 = .ok (.getfield 7, 3) := by decide +kernel
theorem dX11_shape_105 : decode cX11_shape 105 = .ok (.aload_n 0, 1) := by decide +kernel
theorem dX11_shape_106 : decode cX11_shape 106 = .ok (.getfield 51, 3) := by decide +kernel
theorem dX11_shape_109 : decode cX11_shape 109 = .ok (.iload 6, 2) := by decide +kernel
theorem dX11_shape_111 : decode cX11_shape 111 = .ok (.iaload, 1) := by decide +kernel
theorem dX11_shape_112 : decode cX11_shape 112 = .ok (.iaload, 1) := by decide +kernel
theorem dX11_shape_113 : decode cX11_shape 113 = .ok (.iload_n 3, 1) := by decide +kernel
theorem dX11_shape_114 : decode cX11_shape 114 = .ok (.if_icmp .ne 7, 3) := by decide +kernel
theorem dX11_shape_117 : decode cX11_shape 117 = .ok (.iconst 1, 1) := by decide +kernel
theorem dX11_shape_118 : decode cX11_shape 118 = .ok (.goto 4, 3) := by decide +kernel
theorem dX11_shape_121 : decode cX11_shape 121 = .ok (.iconst 0, 1) := by decide +kernel
theorem dX11_shape_122 : decode cX11_shape 122 = .ok (.istore 5, 2) := by decide +kernel
theorem dX11_shape_124 : decode cX11_shape 124 = .ok (.iinc 6 1, 3) := by decide +kernel
theorem dX11_shape_127 : decode cX11_shape 127 = .ok (.goto (-86), 3) := by decide +kernel
theorem dX11_shape_130 : decode cX11_shape 130 = .ok (.aload_n 0, 1) := by decide +kernel
theorem dX11_shape_131 : decode cX11_shape 131 = .ok (.iload 4, 2) := by decide +kernel
theorem dX11_shape_133 : decode cX11_shape 133 = .ok (.ifCond .ne 7, 3) := by decide +kernel
theorem dX11_shape_136 : decode cX11_shape 136 = .ok (.iconst 1, 1) := by decide +kernel
theorem dX11_shape_137 : decode cX11_shape 137 = .ok (.goto 13, 3) := by decide +kernel
theorem dX11_shape_140 : decode cX11_shape 140 = .ok (.iload 5, 2) := by decide +kernel
theorem dX11_shape_142 : decode cX11_shape 142 = .ok (.ifCond .eq 7, 3) := by decide +kernel
theorem dX11_shape_145 : decode cX11_shape 145 = .ok (.iconst 0, 1) := by decide +kernel
theorem dX11_shape_146 : decode cX11_shape 146 = .ok (.goto 4, 3) := by decide +kernel
theorem dX11_shape_149 : decode cX11_shape 149 = .ok (.iconst 2, 1) := by decide +kernel
theorem dX11_shape_150 : decode cX11_shape 150 = .ok (.invokevirtual 181, 3) := by decide +kernel
theorem dX11_shape_153 : decode cX11_shape 153 = .ok (.ifCond .ne 17, 3) := by decide +kernel
theorem dX11_shape_156 : decode cX11_shape 156 = .ok (.aload_n 0, 1) := by decide +kernel
theorem dX11_shape_157 : decode cX11_shape 157 = .ok (.getfield 66, 3) := by decide +kernel
theorem dX11_shape_160 : decode cX11_shape 160 = .ok (.iload_n 1, 1) := by decide +kernel
theorem dX11_shape_161 : decode cX11_shape 161 = .ok (.iload_n 2, 1) := by decide +kernel
theorem dX11_shape_162 : decode cX11_shape 162 = .ok (.iastore, 1) := by decide +kernel
theorem dX11_shape_163 : decode cX11_shape 163 = .ok (.aload_n 0, 1) := by decide +kernel
theorem dX11_shape_164 : decode cX11_shape 164 = .ok (.getfield 69, 3) := by decide +kernel
theorem dX11_shape_167 : decode cX11_shape 167 = .ok (.iload_n 1, 1) := by decide +kernel
theorem dX11_shape_168 : decode cX11_shape 168 = .ok (.iload_n 3, 1) := by decide +kernel
theorem dX11_shape_169 : decode cX11_shape 169 = .ok (.iastore, 1) := by decide +kernel
theorem dX11_shape_170 : decode cX11_shape 170 = .ok (.return_, 1) := by decide +kernel
theorem dX11_move_0 : decode cX11_move 0 = .ok (.aload_n 0, 1) := by decide +kernel
theorem dX11_move_1 : decode cX11_move 1 = .ok (.iload_n 1, 1) := by decide +kernel
theorem dX11_move_2 : decode cX11_move 2 = .ok (.invokevirtual 163, 3) := by decide +kernel
theorem dX11_move_5 : decode cX11_move 5 = .ok (.ifCond .eq 14, 3) := by decide +kernel
theorem dX11_move_8 : decode cX11_move 8 = .ok (.iload_n 2, 1) := by decide +kernel
theorem dX11_move_9 : decode cX11_move 9 = .ok (.invokestatic 208, 3) := by decide +kernel
theorem dX11_move_12 : decode cX11_move 12 = .ok (.ifCond .eq 7, 3) := by decide +kernel
theorem dX11_move_15 : decode cX11_move 15 = .ok (.iconst 1, 1) := by decide +kernel
theorem dX11_move_16 : decode cX11_move 16 = .ok (.goto 4, 3) := by decide +kernel
theorem dX11_move_19 : decode cX11_move 19 = .ok (.iconst 0, 1) := by decide +kernel
theorem dX11_move_20 : decode cX11_move 20 = .ok (.istore_n 3, 1) := by decide +kernel
theorem dX11_move_21 : decode cX11_move 21 = .ok (.aload_n 0, 1) := by decide +kernel
theorem dX11_move_22 : decode cX11_move 22 = .ok (.iload_n 3, 1) := by decide +kernel
theorem dX11_move_23 : decode cX11_move 23 = .ok (.ifCond .ne 7, 3) := by decide +kernel
theorem dX11_move_26 : decode cX11_move 26 = .ok (.iconst 1, 1) := by decide +kernel
theorem dX11_move_27 : decode cX11_move 27 = .ok (.goto 31, 3) := by decide +kernel
theorem dX11_move_30 : decode cX11_move 30 = .ok (.aload_n 0, 1) := by decide +kernel
theorem dX11_move_31 : decode cX11_move 31 = .ok (.getfield 72, 3) := by decide +kernel
theorem dX11_move_34 : decode cX11_move 34 = .ok (.aload_n 0, 1) := by decide +kernel
theorem dX11_move_35 : decode cX11_move 35 = .ok (.getfield 16, 3) := by decide +kernel
theorem dX11_move_38 : decode cX11_move 38 = .ok (.iload_n 1, 1) := by decide +kernel
theorem dX11_move_39 : decode cX11_move 39 = .ok (.iaload, 1) := by decide +kernel
theorem dX11_move_40 : decode cX11_move 40 = .ok (.baload, 1) := by decide +kernel
theorem dX11_move_41 : decode cX11_move 41 = .ok (.ifCond .ne 12, 3) := by decide +kernel
theorem dX11_move_44 : decode cX11_move 44 = .ok (.aload_n 0, 1) := by decide +kernel
theorem dX11_move_45 : decode cX11_move 45 = .ok (.getfield 72, 3) := by decide +kernel
theorem dX11_move_48 : decode cX11_move 48 = .ok (.iload_n 2, 1) := by decide +kernel
theorem dX11_move_49 : decode cX11_move 49 = .ok (.baload, 1) := by decide +kernel
theorem dX11_move_50 : decode cX11_move 50 = .ok (.ifCond .eq 7, 3) := by decide +kernel
theorem dX11_move_53 : decode cX11_move 53 = .ok (.iconst 2, 1) := by decide +kernel
theorem dX11_move_54 : decode cX11_move 54 = .ok (.goto 4, 3) := by decide +kernel
theorem dX11_move_57 : decode cX11_move 57 = .ok (.iconst 0, 1) := by decide +kernel
theorem dX11_move_58 : decode cX11_move 58 = .ok (.invokevirtual 181, 3) := by decide +kernel
theorem dX11_move_61 : decode cX11_move 61 = .ok (.ifCond .eq 5, 3) := by decide +kernel
theorem dX11_move_64 : decode cX11_move 64 = .ok (.iconst 0, 1) := by decide +kernel
theorem dX11_move_65 : decode cX11_move 65 = .ok (.ireturn, 1) := by decide +kernel
theorem dX11_move_66 : decode cX11_move 66 = .ok (.aload_n 0, 1) := by decide +kernel
theorem dX11_move_67 : decode cX11_move 67 = .ok (.getfield 16, 3) := by decide +kernel
theorem dX11_move_70 : decode cX11_move 70 = .ok (.iload_n 1, 1) := by decide +kernel
theorem dX11_move_71 : decode cX11_move 71 = .ok (.iaload, 1) := by decide +kernel
theorem dX11_move_72 : decode cX11_move 72 = .ok (.istore 4, 2) := by decide +kernel
theorem dX11_move_74 : decode cX11_move 74 = .ok (.aload_n 0, 1) := by decide +kernel
theorem dX11_move_75 : decode cX11_move 75 = .ok (.getfield 16, 3) := by decide +kernel
theorem dX11_move_78 : decode cX11_move 78 = .ok (.iload_n 1, 1) := by decide +kernel
theorem dX11_move_79 : decode cX11_move 79 = .ok (.iload_n 2, 1) := by decide +kernel
theorem dX11_move_80 : decode cX11_move 80 = .ok (.iastore, 1) := by decide +kernel
theorem dX11_move_81 : decode cX11_move 81 = .ok (.iload 4, 2) := by decide +kernel
theorem dX11_move_83 : decode cX11_move 83 = .ok (.ireturn, 1) := by decide +kernel
theorem dX11_cuts_0 : decode cX11_cuts 0 = .ok (.iconst 0, 1) := by decide +kernel
theorem dX11_cuts_1 : decode cX11_cuts 1 = .ok (.istore_n 1, 1) := by decide +kernel
theorem dX11_cuts_2 : decode cX11_cuts 2 = .ok (.iconst 0, 1) := by decide +kernel
theorem dX11_cuts_3 : decode cX11_cuts 3 = .ok (.istore_n 2, 1) := by decide +kernel
theorem dX11_cuts_4 : decode cX11_cuts 4 = .ok (.iload_n 2, 1) := by decide +kernel
theorem dX11_cuts_5 : decode cX11_cuts 5 = .ok (.aload_n 0, 1) := by decide +kernel
theorem dX11_cuts_6 : decode cX11_cuts 6 = .ok (.getfield 154, 3) := by decide +kernel
theorem dX11_cuts_9 : decode cX11_cuts 9 = .ok (.if_icmp .ge 50, 3) := by decide +kernel
theorem dX11_cuts_12 : decode cX11_cuts 12 = .ok (.iload_n 1, 1) := by decide +kernel
theorem dX11_cuts_13 : decode cX11_cuts 13 = .ok (.aload_n 0, 1) := by decide +kernel
theorem dX11_cuts_14 : decode cX11_cuts 14 = .ok (.iload_n 2, 1) := by decide +kernel
theorem dX11_cuts_15 : decode cX11_cuts 15 = .ok (.invokevirtual 195, 3) := by decide +kernel
theorem dX11_cuts_18 : decode cX11_cuts 18 = .ok (.ifCond .eq 32, 3) := by decide +kernel
theorem dX11_cuts_21 : decode cX11_cuts 21 = .ok (.aload_n 0, 1) := by decide +kernel
theorem dX11_cuts_22 : decode cX11_cuts 22 = .ok (.getfield 16, 3) := by decide +kernel
theorem dX11_cuts_25 : decode cX11_cuts 25 = .ok (.aload_n 0, 1) := by decide +kernel
theorem dX11_cuts_26 : decode cX11_cuts 26 = .ok (.getfield 48, 3) := by decide +kernel
theorem dX11_cuts_29 : decode cX11_cuts 29 = .ok (.iload_n 2, 1) := by decide +kernel
theorem dX11_cuts_30 : decode cX11_cuts 30 = .ok (.iaload, 1) := by decide +kernel
theorem dX11_cuts_31 : decode cX11_cuts 31 = .ok (.iaload, 1) := by decide +kernel
theorem dX11_cuts_32 : decode cX11_cuts 32 = .ok (.aload_n 0, 1) := by decide +kernel
theorem dX11_cuts_33 : decode cX11_cuts 33 = .ok (.getfield 16, 3) := by decide +kernel
theorem dX11_cuts_36 : decode cX11_cuts 36 = .ok (.aload_n 0, 1) := by decide +kernel
theorem dX11_cuts_37 : decode cX11_cuts 37 = .ok (.getfield 51, 3) := by decide +kernel
theorem dX11_cuts_40 : decode cX11_cuts 40 = .ok (.iload_n 2, 1) := by decide +kernel
theorem dX11_cuts_41 : decode cX11_cuts 41 = .ok (.iaload, 1) := by decide +kernel
theorem dX11_cuts_42 : decode cX11_cuts 42 = .ok (.iaload, 1) := by decide +kernel
theorem dX11_cuts_43 : decode cX11_cuts 43 = .ok (.if_icmp .eq 7, 3) := by decide +kernel
theorem dX11_cuts_46 : decode cX11_cuts 46 = .ok (.iconst 1, 1) := by decide +kernel
theorem dX11_cuts_47 : decode cX11_cuts 47 = .ok (.goto 4, 3) := by decide +kernel
theorem dX11_cuts_50 : decode cX11_cuts 50 = .ok (.iconst 0, 1) := by decide +kernel
theorem dX11_cuts_51 : decode cX11_cuts 51 = .ok (.iadd, 1) := by decide +kernel
theorem dX11_cuts_52 : decode cX11_cuts 52 = .ok (.istore_n 1, 1) := by decide +kernel
theorem dX11_cuts_53 : decode cX11_cuts 53 = .ok (.iinc 2 1, 3) := by decide +kernel
theorem dX11_cuts_56 : decode cX11_cuts 56 = .ok (.goto (-52), 3) := by decide +kernel
theorem dX11_cuts_59 : decode cX11_cuts 59 = .ok (.iload_n 1, 1) := by decide +kernel
theorem dX11_cuts_60 : decode cX11_cuts 60 = .ok (.ireturn, 1) := by decide +kernel
theorem dX11_shift_0 : decode cX11_shift 0 = .ok (.aload_n 0, 1) := by decide +kernel
theorem dX11_shift_1 : decode cX11_shift 1 = .ok (.iconst 0, 1) := by decide +kernel
theorem dX11_shift_2 : decode cX11_shift 2 = .ok (.putfield 138, 3) := by decide +kernel
theorem dX11_shift_5 : decode cX11_shift 5 = .ok (.aload_n 0, 1) := by decide +kernel
theorem dX11_shift_6 : decode cX11_shift 6 = .ok (.invokevirtual 211, 3) := by decide +kernel
theorem dX11_shift_9 : decode cX11_shift 9 = .ok (.istore_n 1, 1) := by decide +kernel
theorem dX11_shift_10 : decode cX11_shift 10 = .ok (.iconst (-1), 1) := by decide +kernel
theorem dX11_shift_11 : decode cX11_shift 11 = .ok (.istore_n 2, 1) := by decide +kernel
theorem dX11_shift_12 : decode cX11_shift 12 = .ok (.iconst (-1), 1) := by decide +kernel
theorem dX11_shift_13 : decode cX11_shift 13 = .ok (.istore_n 3, 1) := by decide +kernel
theorem dX11_shift_14 : decode cX11_shift 14 = .ok (.iconst 0, 1) := by decide +kernel
theorem dX11_shift_15 : decode cX11_shift 15 = .ok (.istore 4, 2) := by decide +kernel
theorem dX11_shift_17 : decode cX11_shift 17 = .ok (.aload_n 0, 1) := by decide +kernel
theorem dX11_shift_18 : decode cX11_shift 18 = .ok (.invokevirtual 174, 3) := by decide +kernel
theorem dX11_shift_21 : decode cX11_shift 21 = .ok (.iconst (-1), 1) := by decide +kernel
theorem dX11_shift_22 : decode cX11_shift 22 = .ok (.if_icmp .ne 7, 3) := by decide +kernel
theorem dX11_shift_25 : decode cX11_shift 25 = .ok (.iconst 0, 1) := by decide +kernel
theorem dX11_shift_26 : decode cX11_shift 26 = .ok (.goto 11, 3) := by decide +kernel
theorem dX11_shift_29 : decode cX11_shift 29 = .ok (.aload_n 0, 1) := by decide +kernel
theorem dX11_shift_30 : decode cX11_shift 30 = .ok (.aload_n 0, 1) := by decide +kernel
theorem dX11_shift_31 : decode cX11_shift 31 = .ok (.invokevirtual 174, 3) := by decide +kernel
theorem dX11_shift_34 : decode cX11_shift 34 = .ok (.invokevirtual 167, 3) := by decide +kernel
theorem dX11_shift_37 : decode cX11_shift 37 = .ok (.istore 5, 2) := by decide +kernel
theorem dX11_shift_39 : decode cX11_shift 39 = .ok (.iconst 0, 1) := by decide +kernel
theorem dX11_shift_40 : decode cX11_shift 40 = .ok (.istore 6, 2) := by decide +kernel
theorem dX11_shift_42 : decode cX11_shift 42 = .ok (.iload 6, 2) := by decide +kernel
theorem dX11_shift_44 : decode cX11_shift 44 = .ok (.aload_n 0, 1) := by decide +kernel
theorem dX11_shift_45 : decode cX11_shift 45 = .ok (.getfield 150, 3) := by decide +kernel
theorem dX11_shift_48 : decode cX11_shift 48 = .ok (.if_icmp .ge 137, 3) := by decide +kernel
theorem dX11_shift_51 : decode cX11_shift 51 = .ok (.iconst 0, 1) := by decide +kernel
theorem dX11_shift_52 : decode cX11_shift 52 = .ok (.istore 7, 2) := by decide +kernel
theorem dX11_shift_54 : decode cX11_shift 54 = .ok (.iload 7, 2) := by decide +kernel
theorem dX11_shift_56 : decode cX11_shift 56 = .ok (.iconst 3, 1) := by decide +kernel
theorem dX11_shift_57 : decode cX11_shift 57 = .ok (.if_icmp .ge 122, 3) := by decide +kernel
theorem dX11_shift_60 : decode cX11_shift 60 = .ok (.aload_n 0, 1) := by decide +kernel
theorem dX11_shift_61 : decode cX11_shift 61 = .ok (.iload 6, 2) := by decide +kernel
theorem dX11_shift_63 : decode cX11_shift 63 = .ok (.invokevirtual 163, 3) := by decide +kernel
theorem dX11_shift_66 : decode cX11_shift 66 = .ok (.ifCond .eq 107, 3) := by decide +kernel
theorem dX11_shift_69 : decode cX11_shift 69 = .ok (.aload_n 0, 1) := by decide +kernel
theorem dX11_shift_70 : decode cX11_shift 70 = .ok (.getfield 72, 3) := by decide +kernel
theorem dX11_shift_73 : decode cX11_shift 73 = .ok (.aload_n 0, 1) := by decide +kernel
theorem dX11_shift_74 : decode cX11_shift 74 = .ok (.getfield 16, 3) := by decide +kernel
theorem dX11_shift_77 : decode cX11_shift 77 = .ok (.iload 6, 2) := by decide +kernel
theorem dX11_shift_79 : decode cX11_shift 79 = .ok (.iaload, 1) := by decide +kernel
theorem dX11_shift_80 : decode cX11_shift 80 = .ok (.baload, 1) := by decide +kernel
theorem dX11_shift_81 : decode cX11_shift 81 = .ok (.ifCond .ne 92, 3) := by decide +kernel
theorem dX11_shift_84 : decode cX11_shift 84 = .ok (.aload_n 0, 1) := by decide +kernel
theorem dX11_shift_85 : decode cX11_shift 85 = .ok (.getfield 72, 3) := by decide +kernel
theorem dX11_shift_88 : decode cX11_shift 88 = .ok (.iload 7, 2) := by decide +kernel
theorem dX11_shift_90 : decode cX11_shift 90 = .ok (.baload, 1) := by decide +kernel
theorem dX11_shift_91 : decode cX11_shift 91 = .ok (.ifCond .ne 82, 3) := by decide +kernel
theorem dX11_shift_94 : decode cX11_shift 94 = .ok (.aload_n 0, 1) := by decide +kernel
theorem dX11_shift_95 : decode cX11_shift 95 = .ok (.getfield 16, 3) := by decide +kernel
theorem dX11_shift_98 : decode cX11_shift 98 = .ok (.iload 6, 2) := by decide +kernel
theorem dX11_shift_100 : decode cX11_shift 100 = .ok (.iaload, 1) := by decide +kernel
theorem dX11_shift_101 : decode cX11_shift 101 = .ok (.iload 7, 2) := by decide +kernel
theorem dX11_shift_103 : decode cX11_shift 103 = .ok (.if_icmp .eq 70, 3) := by decide +kernel
theorem dX11_shift_106 : decode cX11_shift 106 = .ok (.aload_n 0, 1) := by decide +kernel
theorem dX11_shift_107 : decode cX11_shift 107 = .ok (.iload 7, 2) := by decide +kernel
theorem dX11_shift_109 : decode cX11_shift 109 = .ok (.invokevirtual 167, 3) := by decide +kernel
theorem dX11_shift_112 : decode cX11_shift 112 = .ok (.iconst 1, 1) := by decide +kernel
theorem dX11_shift_113 : decode cX11_shift 113 = .ok (.iadd, 1) := by decide +kernel
theorem dX11_shift_114 : decode cX11_shift 114 = .ok (.iload 5, 2) := by decide +kernel
theorem dX11_shift_116 : decode cX11_shift 116 = .ok (.iconst 2, 1) := by decide +kernel
theorem dX11_shift_117 : decode cX11_shift 117 = .ok (.iadd, 1) := by decide +kernel
theorem dX11_shift_118 : decode cX11_shift 118 = .ok (.if_icmp .gt 55, 3) := by decide +kernel
theorem dX11_shift_121 : decode cX11_shift 121 = .ok (.aload_n 0, 1) := by decide +kernel
theorem dX11_shift_122 : decode cX11_shift 122 = .ok (.getfield 16, 3) := by decide +kernel
theorem dX11_shift_125 : decode cX11_shift 125 = .ok (.iload 6, 2) := by decide +kernel
theorem dX11_shift_127 : decode cX11_shift 127 = .ok (.iaload, 1) := by decide +kernel
theorem dX11_shift_128 : decode cX11_shift 128 = .ok (.istore 8, 2) := by decide +kernel
theorem dX11_shift_130 : decode cX11_shift 130 = .ok (.aload_n 0, 1) := by decide +kernel
theorem dX11_shift_131 : decode cX11_shift 131 = .ok (.getfield 16, 3) := by decide +kernel
theorem dX11_shift_134 : decode cX11_shift 134 = .ok (.iload 6, 2) := by decide +kernel
theorem dX11_shift_136 : decode cX11_shift 136 = .ok (.iload 7, 2) := by decide +kernel
theorem dX11_shift_138 : decode cX11_shift 138 = .ok (.iastore, 1) := by decide +kernel
theorem dX11_shift_139 : decode cX11_shift 139 = .ok (.iload_n 1, 1) := by decide +kernel
theorem dX11_shift_140 : decode cX11_shift 140 = .ok (.aload_n 0, 1) := by decide +kernel
theorem dX11_shift_141 : decode cX11_shift 141 = .ok (.invokevirtual 211, 3) := by decide +kernel
theorem dX11_shift_144 : decode cX11_shift 144 = .ok (.isub, 1) := by decide +kernel
theorem dX11_shift_145 : decode cX11_shift 145 = .ok (.istore 9, 2) := by decide +kernel
theorem dX11_shift_147 : decode cX11_shift 147 = .ok (.aload_n 0, 1) := by decide +kernel
theorem dX11_shift_148 : decode cX11_shift 148 = .ok (.getfield 16, 3) := by decide +kernel
theorem dX11_shift_151 : decode cX11_shift 151 = .ok (.iload 6, 2) := by decide +kernel
theorem dX11_shift_153 : decode cX11_shift 153 = .ok (.iload 8, 2) := by decide +kernel
theorem dX11_shift_155 : decode cX11_shift 155 = .ok (.iastore, 1) := by decide +kernel
theorem dX11_shift_156 : decode cX11_shift 156 = .ok (.iload 9, 2) := by decide +kernel
theorem dX11_shift_158 : decode cX11_shift 158 = .ok (.iload 4, 2) := by decide +kernel
theorem dX11_shift_160 : decode cX11_shift 160 = .ok (.if_icmp .le 13, 3) := by decide +kernel
theorem dX11_shift_163 : decode cX11_shift 163 = .ok (.iload 9, 2) := by decide +kernel
theorem dX11_shift_165 : decode cX11_shift 165 = .ok (.istore 4, 2) := by decide +kernel
theorem dX11_shift_167 : decode cX11_shift 167 = .ok (.iload 6, 2) := by decide +kernel
theorem dX11_shift_169 : decode cX11_shift 169 = .ok (.istore_n 2, 1) := by decide +kernel
theorem dX11_shift_170 : decode cX11_shift 170 = .ok (.iload 7, 2) := by decide +kernel
theorem dX11_shift_172 : decode cX11_shift 172 = .ok (.istore_n 3, 1) := by decide +kernel
theorem dX11_shift_173 : decode cX11_shift 173 = .ok (.iinc 7 1, 3) := by decide +kernel
theorem dX11_shift_176 : decode cX11_shift 176 = .ok (.goto (-122), 3) := by decide +kernel
theorem dX11_shift_179 : decode cX11_shift 179 = .ok (.iinc 6 1, 3) := by decide +kernel
theorem dX11_shift_182 : decode cX11_shift 182 = .ok (.goto (-140), 3) := by decide +kernel
theorem dX11_shift_185 : decode cX11_shift 185 = .ok (.iload_n 2, 1) := by decide +kernel
theorem dX11_shift_186 : decode cX11_shift 186 = .ok (.iconst (-1), 1) := by decide +kernel
theorem dX11_shift_187 : decode cX11_shift 187 = .ok (.if_icmp .eq 10, 3) := by decide +kernel
theorem dX11_shift_190 : decode cX11_shift 190 = .ok (.aload_n 0, 1) := by decide +kernel
theorem dX11_shift_191 : decode cX11_shift 191 = .ok (.getfield 16, 3) := by decide +kernel
theorem dX11_shift_194 : decode cX11_shift 194 = .ok (.iload_n 2, 1) := by decide +kernel
theorem dX11_shift_195 : decode cX11_shift 195 = .ok (.iload_n 3, 1) := by decide +kernel
theorem dX11_shift_196 : decode cX11_shift 196 = .ok (.iastore, 1) := by decide +kernel
theorem dX11_shift_197 : decode cX11_shift 197 = .ok (.iload_n 2, 1) := by decide +kernel
theorem dX11_shift_198 : decode cX11_shift 198 = .ok (.ireturn, 1) := by decide +kernel
theorem dX11_toggle_0 : decode cX11_toggle 0 = .ok (.aload_n 0, 1) := by decide +kernel
theorem dX11_toggle_1 : decode cX11_toggle 1 = .ok (.iload_n 1, 1) := by decide +kernel
theorem dX11_toggle_2 : decode cX11_toggle 2 = .ok (.invokestatic 208, 3) := by decide +kernel
theorem dX11_toggle_5 : decode cX11_toggle 5 = .ok (.ifCond .eq 7, 3) := by decide +kernel
theorem dX11_toggle_8 : decode cX11_toggle 8 = .ok (.iconst 0, 1) := by decide +kernel
theorem dX11_toggle_9 : decode cX11_toggle 9 = .ok (.goto 4, 3) := by decide +kernel
theorem dX11_toggle_12 : decode cX11_toggle 12 = .ok (.iconst 1, 1) := by decide +kernel
theorem dX11_toggle_13 : decode cX11_toggle 13 = .ok (.invokevirtual 181, 3) := by decide +kernel
theorem dX11_toggle_16 : decode cX11_toggle 16 = .ok (.ifCond .eq 5, 3) := by decide +kernel
theorem dX11_toggle_19 : decode cX11_toggle 19 = .ok (.iconst 0, 1) := by decide +kernel
theorem dX11_toggle_20 : decode cX11_toggle 20 = .ok (.ireturn, 1) := by decide +kernel
theorem dX11_toggle_21 : decode cX11_toggle 21 = .ok (.aload_n 0, 1) := by decide +kernel
theorem dX11_toggle_22 : decode cX11_toggle 22 = .ok (.getfield 72, 3) := by decide +kernel
theorem dX11_toggle_25 : decode cX11_toggle 25 = .ok (.iload_n 1, 1) := by decide +kernel
theorem dX11_toggle_26 : decode cX11_toggle 26 = .ok (.aload_n 0, 1) := by decide +kernel
theorem dX11_toggle_27 : decode cX11_toggle 27 = .ok (.getfield 72, 3) := by decide +kernel
theorem dX11_toggle_30 : decode cX11_toggle 30 = .ok (.iload_n 1, 1) := by decide +kernel
theorem dX11_toggle_31 : decode cX11_toggle 31 = .ok (.baload, 1) := by decide +kernel
theorem dX11_toggle_32 : decode cX11_toggle 32 = .ok (.ifCond .ne 7, 3) := by decide +kernel
theorem dX11_toggle_35 : decode cX11_toggle 35 = .ok (.iconst 1, 1) := by decide +kernel
theorem dX11_toggle_36 : decode cX11_toggle 36 = .ok (.goto 4, 3) := by decide +kernel
theorem dX11_toggle_39 : decode cX11_toggle 39 = .ok (.iconst 0, 1) := by decide +kernel
theorem dX11_toggle_40 : decode cX11_toggle 40 = .ok (.bastore, 1) := by decide +kernel
theorem dX11_toggle_41 : decode cX11_toggle 41 = .ok (.aload_n 0, 1) := by decide +kernel
theorem dX11_toggle_42 : decode cX11_toggle 42 = .ok (.getfield 72, 3) := by decide +kernel
theorem dX11_toggle_45 : decode cX11_toggle 45 = .ok (.iload_n 1, 1) := by decide +kernel
theorem dX11_toggle_46 : decode cX11_toggle 46 = .ok (.baload, 1) := by decide +kernel
theorem dX11_toggle_47 : decode cX11_toggle 47 = .ok (.ifCond .ne 7, 3) := by decide +kernel
theorem dX11_toggle_50 : decode cX11_toggle 50 = .ok (.iconst 1, 1) := by decide +kernel
theorem dX11_toggle_51 : decode cX11_toggle 51 = .ok (.goto 4, 3) := by decide +kernel
theorem dX11_toggle_54 : decode cX11_toggle 54 = .ok (.iconst 0, 1) := by decide +kernel
theorem dX11_toggle_55 : decode cX11_toggle 55 = .ok (.ireturn, 1) := by decide +kernel
theorem dX11_machine_0 : decode cX11_machine 0 = .ok (.aload_n 0, 1) := by decide +kernel
theorem dX11_machine_1 : decode cX11_machine 1 = .ok (.aload_n 0, 1) := by decide +kernel
theorem dX11_machine_2 : decode cX11_machine 2 = .ok (.iload_n 1, 1) := by decide +kernel
theorem dX11_machine_3 : decode cX11_machine 3 = .ok (.invokevirtual 163, 3) := by decide +kernel
theorem dX11_machine_6 : decode cX11_machine 6 = .ok (.ifCond .eq 7, 3) := by decide +kernel
theorem dX11_machine_9 : decode cX11_machine 9 = .ok (.iconst 0, 1) := by decide +kernel
theorem dX11_machine_10 : decode cX11_machine 10 = .ok (.goto 4, 3) := by decide +kernel
theorem dX11_machine_13 : decode cX11_machine 13 = .ok (.iconst 1, 1) := by decide +kernel
theorem dX11_machine_14 : decode cX11_machine 14 = .ok (.invokevirtual 181, 3) := by decide +kernel
theorem dX11_machine_17 : decode cX11_machine 17 = .ok (.ifCond .eq 7, 3) := by decide +kernel
theorem dX11_machine_20 : decode cX11_machine 20 = .ok (.iconst 0, 1) := by decide +kernel
theorem dX11_machine_21 : decode cX11_machine 21 = .ok (.goto 9, 3) := by decide +kernel
theorem dX11_machine_24 : decode cX11_machine 24 = .ok (.aload_n 0, 1) := by decide +kernel
theorem dX11_machine_25 : decode cX11_machine 25 = .ok (.getfield 16, 3) := by decide +kernel
theorem dX11_machine_28 : decode cX11_machine 28 = .ok (.iload_n 1, 1) := by decide +kernel
theorem dX11_machine_29 : decode cX11_machine 29 = .ok (.iaload, 1) := by decide +kernel
theorem dX11_machine_30 : decode cX11_machine 30 = .ok (.ireturn, 1) := by decide +kernel
theorem dX11_cut_0 : decode cX11_cut 0 = .ok (.aload_n 0, 1) := by decide +kernel
theorem dX11_cut_1 : decode cX11_cut 1 = .ok (.iconst 0, 1) := by decide +kernel
theorem dX11_cut_2 : decode cX11_cut 2 = .ok (.putfield 138, 3) := by decide +kernel
theorem dX11_cut_5 : decode cX11_cut 5 = .ok (.aload_n 0, 1) := by decide +kernel
theorem dX11_cut_6 : decode cX11_cut 6 = .ok (.invokevirtual 211, 3) := by decide +kernel
theorem dX11_cut_9 : decode cX11_cut 9 = .ok (.ireturn, 1) := by decide +kernel
theorem dX11_copies_0 : decode cX11_copies 0 = .ok (.aload_n 0, 1) := by decide +kernel
theorem dX11_copies_1 : decode cX11_copies 1 = .ok (.iload_n 1, 1) := by decide +kernel
theorem dX11_copies_2 : decode cX11_copies 2 = .ok (.invokestatic 208, 3) := by decide +kernel
theorem dX11_copies_5 : decode cX11_copies 5 = .ok (.ifCond .eq 7, 3) := by decide +kernel
theorem dX11_copies_8 : decode cX11_copies 8 = .ok (.iconst 0, 1) := by decide +kernel
theorem dX11_copies_9 : decode cX11_copies 9 = .ok (.goto 4, 3) := by decide +kernel
theorem dX11_copies_12 : decode cX11_copies 12 = .ok (.iconst 1, 1) := by decide +kernel
theorem dX11_copies_13 : decode cX11_copies 13 = .ok (.invokevirtual 181, 3) := by decide +kernel
theorem dX11_copies_16 : decode cX11_copies 16 = .ok (.ifCond .eq 5, 3) := by decide +kernel
theorem dX11_copies_19 : decode cX11_copies 19 = .ok (.iconst 0, 1) := by decide +kernel
theorem dX11_copies_20 : decode cX11_copies 20 = .ok (.ireturn, 1) := by decide +kernel
theorem dX11_copies_21 : decode cX11_copies 21 = .ok (.iconst 0, 1) := by decide +kernel
theorem dX11_copies_22 : decode cX11_copies 22 = .ok (.istore_n 2, 1) := by decide +kernel
theorem dX11_copies_23 : decode cX11_copies 23 = .ok (.iconst 0, 1) := by decide +kernel
theorem dX11_copies_24 : decode cX11_copies 24 = .ok (.istore_n 3, 1) := by decide +kernel
theorem dX11_copies_25 : decode cX11_copies 25 = .ok (.iload_n 3, 1) := by decide +kernel
theorem dX11_copies_26 : decode cX11_copies 26 = .ok (.aload_n 0, 1) := by decide +kernel
theorem dX11_copies_27 : decode cX11_copies 27 = .ok (.getfield 154, 3) := by decide +kernel
theorem dX11_copies_30 : decode cX11_copies 30 = .ok (.if_icmp .ge 107, 3) := by decide +kernel
theorem dX11_copies_33 : decode cX11_copies 33 = .ok (.aload_n 0, 1) := by decide +kernel
theorem dX11_copies_34 : decode cX11_copies 34 = .ok (.iload_n 3, 1) := by decide +kernel
theorem dX11_copies_35 : decode cX11_copies 35 = .ok (.invokevirtual 195, 3) := by decide +kernel
theorem dX11_copies_38 : decode cX11_copies 38 = .ok (.ifCond .eq 93, 3) := by decide +kernel
theorem dX11_copies_41 : decode cX11_copies 41 = .ok (.iload_n 2, 1) := by decide +kernel
theorem dX11_copies_42 : decode cX11_copies 42 = .ok (.aload_n 0, 1) := by decide +kernel
theorem dX11_copies_43 : decode cX11_copies 43 = .ok (.getfield 16, 3) := by decide +kernel
theorem dX11_copies_46 : decode cX11_copies 46 = .ok (.aload_n 0, 1) := by decide +kernel
theorem dX11_copies_47 : decode cX11_copies 47 = .ok (.getfield 48, 3) := by decide +kernel
theorem dX11_copies_50 : decode cX11_copies 50 = .ok (.iload_n 3, 1) := by decide +kernel
theorem dX11_copies_51 : decode cX11_copies 51 = .ok (.iaload, 1) := by decide +kernel
theorem dX11_copies_52 : decode cX11_copies 52 = .ok (.iaload, 1) := by decide +kernel
theorem dX11_copies_53 : decode cX11_copies 53 = .ok (.iload_n 1, 1) := by decide +kernel
theorem dX11_copies_54 : decode cX11_copies 54 = .ok (.if_icmp .ne 29, 3) := by decide +kernel
theorem dX11_copies_57 : decode cX11_copies 57 = .ok (.aload_n 0, 1) := by decide +kernel
theorem dX11_copies_58 : decode cX11_copies 58 = .ok (.getfield 16, 3) := by decide +kernel
theorem dX11_copies_61 : decode cX11_copies 61 = .ok (.aload_n 0, 1) := by decide +kernel
theorem dX11_copies_62 : decode cX11_copies 62 = .ok (.getfield 51, 3) := by decide +kernel
theorem dX11_copies_65 : decode cX11_copies 65 = .ok (.iload_n 3, 1) := by decide +kernel
theorem dX11_copies_66 : decode cX11_copies 66 = .ok (.iaload, 1) := by decide +kernel
theorem dX11_copies_67 : decode cX11_copies 67 = .ok (.iaload, 1) := by decide +kernel
theorem dX11_copies_68 : decode cX11_copies 68 = .ok (.iload_n 1, 1) := by decide +kernel
theorem dX11_copies_69 : decode cX11_copies 69 = .ok (.if_icmp .eq 14, 3) := by decide +kernel
theorem dX11_copies_72 : decode cX11_copies 72 = .ok (.iconst 1, 1) := by decide +kernel
theorem dX11_copies_73 : decode cX11_copies 73 = .ok (.aload_n 0, 1) := by decide +kernel
theorem dX11_copies_74 : decode cX11_copies 74 = .ok (.getfield 51, 3) := by decide +kernel
theorem dX11_copies_77 : decode cX11_copies 77 = .ok (.iload_n 3, 1) := by decide +kernel
theorem dX11_copies_78 : decode cX11_copies 78 = .ok (.iaload, 1) := by decide +kernel
theorem dX11_copies_79 : decode cX11_copies 79 = .ok (.ishl, 1) := by decide +kernel
theorem dX11_copies_80 : decode cX11_copies 80 = .ok (.goto 4, 3) := by decide +kernel
theorem dX11_copies_83 : decode cX11_copies 83 = .ok (.iconst 0, 1) := by decide +kernel
theorem dX11_copies_84 : decode cX11_copies 84 = .ok (.ior, 1) := by decide +kernel
theorem dX11_copies_85 : decode cX11_copies 85 = .ok (.istore_n 2, 1) := by decide +kernel
theorem dX11_copies_86 : decode cX11_copies 86 = .ok (.iload_n 2, 1) := by decide +kernel
theorem dX11_copies_87 : decode cX11_copies 87 = .ok (.aload_n 0, 1) := by decide +kernel
theorem dX11_copies_88 : decode cX11_copies 88 = .ok (.getfield 16, 3) := by decide +kernel
theorem dX11_copies_91 : decode cX11_copies 91 = .ok (.aload_n 0, 1) := by decide +kernel
theorem dX11_copies_92 : decode cX11_copies 92 = .ok (.getfield 51, 3) := by decide +kernel
theorem dX11_copies_95 : decode cX11_copies 95 = .ok (.iload_n 3, 1) := by decide +kernel
theorem dX11_copies_96 : decode cX11_copies 96 = .ok (.iaload, 1) := by decide +kernel
theorem dX11_copies_97 : decode cX11_copies 97 = .ok (.iaload, 1) := by decide +kernel
theorem dX11_copies_98 : decode cX11_copies 98 = .ok (.iload_n 1, 1) := by decide +kernel
theorem dX11_copies_99 : decode cX11_copies 99 = .ok (.if_icmp .ne 29, 3) := by decide +kernel
theorem dX11_copies_102 : decode cX11_copies 102 = .ok (.aload_n 0, 1) := by decide +kernel
theorem dX11_copies_103 : decode cX11_copies 103 = .ok (.getfield 16, 3) := by decide +kernel
theorem dX11_copies_106 : decode cX11_copies 106 = .ok (.aload_n 0, 1) := by decide +kernel
theorem dX11_copies_107 : decode cX11_copies 107 = .ok (.getfield 48, 3) := by decide +kernel
theorem dX11_copies_110 : decode cX11_copies 110 = .ok (.iload_n 3, 1) := by decide +kernel
theorem dX11_copies_111 : decode cX11_copies 111 = .ok (.iaload, 1) := by decide +kernel
theorem dX11_copies_112 : decode cX11_copies 112 = .ok (.iaload, 1) := by decide +kernel
theorem dX11_copies_113 : decode cX11_copies 113 = .ok (.iload_n 1, 1) := by decide +kernel
theorem dX11_copies_114 : decode cX11_copies 114 = .ok (.if_icmp .eq 14, 3) := by decide +kernel
theorem dX11_copies_117 : decode cX11_copies 117 = .ok (.iconst 1, 1) := by decide +kernel
theorem dX11_copies_118 : decode cX11_copies 118 = .ok (.aload_n 0, 1) := by decide +kernel
theorem dX11_copies_119 : decode cX11_copies 119 = .ok (.getfield 48, 3) := by decide +kernel
theorem dX11_copies_122 : decode cX11_copies 122 = .ok (.iload_n 3, 1) := by decide +kernel
theorem dX11_copies_123 : decode cX11_copies 123 = .ok (.iaload, 1) := by decide +kernel
theorem dX11_copies_124 : decode cX11_copies 124 = .ok (.ishl, 1) := by decide +kernel
theorem dX11_copies_125 : decode cX11_copies 125 = .ok (.goto 4, 3) := by decide +kernel
theorem dX11_copies_128 : decode cX11_copies 128 = .ok (.iconst 0, 1) := by decide +kernel
theorem dX11_copies_129 : decode cX11_copies 129 = .ok (.ior, 1) := by decide +kernel
theorem dX11_copies_130 : decode cX11_copies 130 = .ok (.istore_n 2, 1) := by decide +kernel
theorem dX11_copies_131 : decode cX11_copies 131 = .ok (.iinc 3 1, 3) := by decide +kernel
theorem dX11_copies_134 : decode cX11_copies 134 = .ok (.goto (-109), 3) := by decide +kernel
theorem dX11_copies_137 : decode cX11_copies 137 = .ok (.iload_n 2, 1) := by decide +kernel
theorem dX11_copies_138 : decode cX11_copies 138 = .ok (.invokestatic 214, 3) := by decide +kernel
theorem dX11_copies_141 : decode cX11_copies 141 = .ok (.ireturn, 1) := by decide +kernel
theorem dX11_begin_0 : decode cX11_begin 0 = .ok (.iconst (-1), 1) := by decide +kernel
theorem dX11_begin_1 : decode cX11_begin 1 = .ok (.istore_n 1, 1) := by decide +kernel
theorem dX11_begin_2 : decode cX11_begin 2 = .ok (.iconst 3, 1) := by decide +kernel
theorem dX11_begin_3 : decode cX11_begin 3 = .ok (.istore_n 2, 1) := by decide +kernel
theorem dX11_begin_4 : decode cX11_begin 4 = .ok (.iload_n 2, 1) := by decide +kernel
theorem dX11_begin_5 : decode cX11_begin 5 = .ok (.ifCond .lt 24, 3) := by decide +kernel
theorem dX11_begin_8 : decode cX11_begin 8 = .ok (.aload_n 0, 1) := by decide +kernel
theorem dX11_begin_9 : decode cX11_begin 9 = .ok (.getfield 75, 3) := by decide +kernel
theorem dX11_begin_12 : decode cX11_begin 12 = .ok (.iload_n 2, 1) := by decide +kernel
theorem dX11_begin_13 : decode cX11_begin 13 = .ok (.baload, 1) := by decide +kernel
theorem dX11_begin_14 : decode cX11_begin 14 = .ok (.ifCond .eq 7, 3) := by decide +kernel
theorem dX11_begin_17 : decode cX11_begin 17 = .ok (.iload_n 1, 1) := by decide +kernel
theorem dX11_begin_18 : decode cX11_begin 18 = .ok (.goto 4, 3) := by decide +kernel
theorem dX11_begin_21 : decode cX11_begin 21 = .ok (.iload_n 2, 1) := by decide +kernel
theorem dX11_begin_22 : decode cX11_begin 22 = .ok (.istore_n 1, 1) := by decide +kernel
theorem dX11_begin_23 : decode cX11_begin 23 = .ok (.iinc 2 (-1), 3) := by decide +kernel
theorem dX11_begin_26 : decode cX11_begin 26 = .ok (.goto (-22), 3) := by decide +kernel
theorem dX11_begin_29 : decode cX11_begin 29 = .ok (.aload_n 0, 1) := by decide +kernel
theorem dX11_begin_30 : decode cX11_begin 30 = .ok (.iload_n 1, 1) := by decide +kernel
theorem dX11_begin_31 : decode cX11_begin 31 = .ok (.iconst (-1), 1) := by decide +kernel
theorem dX11_begin_32 : decode cX11_begin 32 = .ok (.if_icmp .ne 7, 3) := by decide +kernel
theorem dX11_begin_35 : decode cX11_begin 35 = .ok (.iconst 1, 1) := by decide +kernel
theorem dX11_begin_36 : decode cX11_begin 36 = .ok (.goto 4, 3) := by decide +kernel
theorem dX11_begin_39 : decode cX11_begin 39 = .ok (.iconst 0, 1) := by decide +kernel
theorem dX11_begin_40 : decode cX11_begin 40 = .ok (.invokevirtual 181, 3) := by decide +kernel
theorem dX11_begin_43 : decode cX11_begin 43 = .ok (.ifCond .eq 5, 3) := by decide +kernel
theorem dX11_begin_46 : decode cX11_begin 46 = .ok (.iconst 0, 1) := by decide +kernel
theorem dX11_begin_47 : decode cX11_begin 47 = .ok (.ireturn, 1) := by decide +kernel
theorem dX11_begin_48 : decode cX11_begin 48 = .ok (.aload_n 0, 1) := by decide +kernel
theorem dX11_begin_49 : decode cX11_begin 49 = .ok (.getfield 75, 3) := by decide +kernel
theorem dX11_begin_52 : decode cX11_begin 52 = .ok (.iload_n 1, 1) := by decide +kernel
theorem dX11_begin_53 : decode cX11_begin 53 = .ok (.iconst 1, 1) := by decide +kernel
theorem dX11_begin_54 : decode cX11_begin 54 = .ok (.bastore, 1) := by decide +kernel
theorem dX11_begin_55 : decode cX11_begin 55 = .ok (.aload_n 0, 1) := by decide +kernel
theorem dX11_begin_56 : decode cX11_begin 56 = .ok (.getfield 78, 3) := by decide +kernel
theorem dX11_begin_59 : decode cX11_begin 59 = .ok (.iload_n 1, 1) := by decide +kernel
theorem dX11_begin_60 : decode cX11_begin 60 = .ok (.aload_n 0, 1) := by decide +kernel
theorem dX11_begin_61 : decode cX11_begin 61 = .ok (.getfield 160, 3) := by decide +kernel
theorem dX11_begin_64 : decode cX11_begin 64 = .ok (.iastore, 1) := by decide +kernel
theorem dX11_begin_65 : decode cX11_begin 65 = .ok (.aload_n 0, 1) := by decide +kernel
theorem dX11_begin_66 : decode cX11_begin 66 = .ok (.getfield 87, 3) := by decide +kernel
theorem dX11_begin_69 : decode cX11_begin 69 = .ok (.iload_n 1, 1) := by decide +kernel
theorem dX11_begin_70 : decode cX11_begin 70 = .ok (.iconst 0, 1) := by decide +kernel
theorem dX11_begin_71 : decode cX11_begin 71 = .ok (.iastore, 1) := by decide +kernel
theorem dX11_begin_72 : decode cX11_begin 72 = .ok (.iconst 0, 1) := by decide +kernel
theorem dX11_begin_73 : decode cX11_begin 73 = .ok (.istore_n 2, 1) := by decide +kernel
theorem dX11_begin_74 : decode cX11_begin 74 = .ok (.iload_n 2, 1) := by decide +kernel
theorem dX11_begin_75 : decode cX11_begin 75 = .ok (.bipush 24, 2) := by decide +kernel
theorem dX11_begin_77 : decode cX11_begin 77 = .ok (.if_icmp .ge 21, 3) := by decide +kernel
theorem dX11_begin_80 : decode cX11_begin 80 = .ok (.aload_n 0, 1) := by decide +kernel
theorem dX11_begin_81 : decode cX11_begin 81 = .ok (.getfield 81, 3) := by decide +kernel
theorem dX11_begin_84 : decode cX11_begin 84 = .ok (.bipush 24, 2) := by decide +kernel
theorem dX11_begin_86 : decode cX11_begin 86 = .ok (.iload_n 1, 1) := by decide +kernel
theorem dX11_begin_87 : decode cX11_begin 87 = .ok (.imul, 1) := by decide +kernel
theorem dX11_begin_88 : decode cX11_begin 88 = .ok (.iload_n 2, 1) := by decide +kernel
theorem dX11_begin_89 : decode cX11_begin 89 = .ok (.iadd, 1) := by decide +kernel
theorem dX11_begin_90 : decode cX11_begin 90 = .ok (.iconst 0, 1) := by decide +kernel
theorem dX11_begin_91 : decode cX11_begin 91 = .ok (.bastore, 1) := by decide +kernel
theorem dX11_begin_92 : decode cX11_begin 92 = .ok (.iinc 2 1, 3) := by decide +kernel
theorem dX11_begin_95 : decode cX11_begin 95 = .ok (.goto (-21), 3) := by decide +kernel
theorem dX11_begin_98 : decode cX11_begin 98 = .ok (.iconst 0, 1) := by decide +kernel
theorem dX11_begin_99 : decode cX11_begin 99 = .ok (.istore_n 2, 1) := by decide +kernel
theorem dX11_begin_100 : decode cX11_begin 100 = .ok (.iload_n 2, 1) := by decide +kernel
theorem dX11_begin_101 : decode cX11_begin 101 = .ok (.bipush 60, 2) := by decide +kernel
theorem dX11_begin_103 : decode cX11_begin 103 = .ok (.if_icmp .ge 21, 3) := by decide +kernel
theorem dX11_begin_106 : decode cX11_begin 106 = .ok (.aload_n 0, 1) := by decide +kernel
theorem dX11_begin_107 : decode cX11_begin 107 = .ok (.getfield 99, 3) := by decide +kernel
theorem dX11_begin_110 : decode cX11_begin 110 = .ok (.bipush 60, 2) := by decide +kernel
theorem dX11_begin_112 : decode cX11_begin 112 = .ok (.iload_n 1, 1) := by decide +kernel
theorem dX11_begin_113 : decode cX11_begin 113 = .ok (.imul, 1) := by decide +kernel
theorem dX11_begin_114 : decode cX11_begin 114 = .ok (.iload_n 2, 1) := by decide +kernel
theorem dX11_begin_115 : decode cX11_begin 115 = .ok (.iadd, 1) := by decide +kernel
theorem dX11_begin_116 : decode cX11_begin 116 = .ok (.iconst 0, 1) := by decide +kernel
theorem dX11_begin_117 : decode cX11_begin 117 = .ok (.bastore, 1) := by decide +kernel
theorem dX11_begin_118 : decode cX11_begin 118 = .ok (.iinc 2 1, 3) := by decide +kernel
theorem dX11_begin_121 : decode cX11_begin 121 = .ok (.goto (-21), 3) := by decide +kernel
theorem dX11_begin_124 : decode cX11_begin 124 = .ok (.iload_n 1, 1) := by decide +kernel
theorem dX11_begin_125 : decode cX11_begin 125 = .ok (.ireturn, 1) := by decide +kernel
theorem dX11_isTransaction_0 : decode cX11_isTransaction 0 = .ok (.iload_n 1, 1) := by decide +kernel
theorem dX11_isTransaction_1 : decode cX11_isTransaction 1 = .ok (.iconst 0, 1) := by decide +kernel
theorem dX11_isTransaction_2 : decode cX11_isTransaction 2 = .ok (.iconst 3, 1) := by decide +kernel
theorem dX11_isTransaction_3 : decode cX11_isTransaction 3 = .ok (.invokestatic 146, 3) := by decide +kernel
theorem dX11_isTransaction_6 : decode cX11_isTransaction 6 = .ok (.ifCond .eq 16, 3) := by decide +kernel
theorem dX11_isTransaction_9 : decode cX11_isTransaction 9 = .ok (.aload_n 0, 1) := by decide +kernel
theorem dX11_isTransaction_10 : decode cX11_isTransaction 10 = .ok (.getfield 75, 3) := by decide +kernel
theorem dX11_isTransaction_13 : decode cX11_isTransaction 13 = .ok (.iload_n 1, 1) := by decide +kernel
theorem dX11_isTransaction_14 : decode cX11_isTransaction 14 = .ok (.baload, 1) := by decide +kernel
theorem dX11_isTransaction_15 : decode cX11_isTransaction 15 = .ok (.ifCond .eq 7, 3) := by decide +kernel
theorem dX11_isTransaction_18 : decode cX11_isTransaction 18 = .ok (.iconst 1, 1) := by decide +kernel
theorem dX11_isTransaction_19 : decode cX11_isTransaction 19 = .ok (.goto 4, 3) := by decide +kernel
theorem dX11_isTransaction_22 : decode cX11_isTransaction 22 = .ok (.iconst 0, 1) := by decide +kernel
theorem dX11_isTransaction_23 : decode cX11_isTransaction 23 = .ok (.ireturn, 1) := by decide +kernel
theorem dX11_seesNode_0 : decode cX11_seesNode 0 = .ok (.aload_n 0, 1) := by decide +kernel
theorem dX11_seesNode_1 : decode cX11_seesNode 1 = .ok (.iload_n 1, 1) := by decide +kernel
theorem dX11_seesNode_2 : decode cX11_seesNode 2 = .ok (.invokevirtual 217, 3) := by decide +kernel
theorem dX11_seesNode_5 : decode cX11_seesNode 5 = .ok (.ifCond .eq 45, 3) := by decide +kernel
theorem dX11_seesNode_8 : decode cX11_seesNode 8 = .ok (.iload_n 2, 1) := by decide +kernel
theorem dX11_seesNode_9 : decode cX11_seesNode 9 = .ok (.iconst 0, 1) := by decide +kernel
theorem dX11_seesNode_10 : decode cX11_seesNode 10 = .ok (.aload_n 0, 1) := by decide +kernel
theorem dX11_seesNode_11 : decode cX11_seesNode 11 = .ok (.getfield 150, 3) := by decide +kernel
theorem dX11_seesNode_14 : decode cX11_seesNode 14 = .ok (.iconst 1, 1) := by decide +kernel
theorem dX11_seesNode_15 : decode cX11_seesNode 15 = .ok (.isub, 1) := by decide +kernel
theorem dX11_seesNode_16 : decode cX11_seesNode 16 = .ok (.invokestatic 146, 3) := by decide +kernel
theorem dX11_seesNode_19 : decode cX11_seesNode 19 = .ok (.ifCond .eq 31, 3) := by decide +kernel
theorem dX11_seesNode_22 : decode cX11_seesNode 22 = .ok (.aload_n 0, 1) := by decide +kernel
theorem dX11_seesNode_23 : decode cX11_seesNode 23 = .ok (.getfield 19, 3) := by decide +kernel
theorem dX11_seesNode_26 : decode cX11_seesNode 26 = .ok (.iload_n 2, 1) := by decide +kernel
theorem dX11_seesNode_27 : decode cX11_seesNode 27 = .ok (.iaload, 1) := by decide +kernel
theorem dX11_seesNode_28 : decode cX11_seesNode 28 = .ok (.aload_n 0, 1) := by decide +kernel
theorem dX11_seesNode_29 : decode cX11_seesNode 29 = .ok (.getfield 22, 3) := by decide +kernel
theorem dX11_seesNode_32 : decode cX11_seesNode 32 = .ok (.iload_n 2, 1) := by decide +kernel
theorem dX11_seesNode_33 : decode cX11_seesNode 33 = .ok (.iaload, 1) := by decide +kernel
theorem dX11_seesNode_34 : decode cX11_seesNode 34 = .ok (.aload_n 0, 1) := by decide +kernel
theorem dX11_seesNode_35 : decode cX11_seesNode 35 = .ok (.getfield 78, 3) := by decide +kernel
theorem dX11_seesNode_38 : decode cX11_seesNode 38 = .ok (.iload_n 1, 1) := by decide +kernel
theorem dX11_seesNode_39 : decode cX11_seesNode 39 = .ok (.iaload, 1) := by decide +kernel
theorem dX11_seesNode_40 : decode cX11_seesNode 40 = .ok (.invokestatic 220, 3) := by decide +kernel
theorem dX11_seesNode_43 : decode cX11_seesNode 43 = .ok (.ifCond .eq 7, 3) := by decide +kernel
theorem dX11_seesNode_46 : decode cX11_seesNode 46 = .ok (.iconst 1, 1) := by decide +kernel
theorem dX11_seesNode_47 : decode cX11_seesNode 47 = .ok (.goto 4, 3) := by decide +kernel
theorem dX11_seesNode_50 : decode cX11_seesNode 50 = .ok (.iconst 0, 1) := by decide +kernel
theorem dX11_seesNode_51 : decode cX11_seesNode 51 = .ok (.ireturn, 1) := by decide +kernel
theorem dX11_seesEdge_0 : decode cX11_seesEdge 0 = .ok (.aload_n 0, 1) := by decide +kernel
theorem dX11_seesEdge_1 : decode cX11_seesEdge 1 = .ok (.iload_n 1, 1) := by decide +kernel
theorem dX11_seesEdge_2 : decode cX11_seesEdge 2 = .ok (.invokevirtual 217, 3) := by decide +kernel
theorem dX11_seesEdge_5 : decode cX11_seesEdge 5 = .ok (.ifCond .eq 59, 3) := by decide +kernel
theorem dX11_seesEdge_8 : decode cX11_seesEdge 8 = .ok (.iload_n 2, 1) := by decide +kernel
theorem dX11_seesEdge_9 : decode cX11_seesEdge 9 = .ok (.iconst 0, 1) := by decide +kernel
theorem dX11_seesEdge_10 : decode cX11_seesEdge 10 = .ok (.aload_n 0, 1) := by decide +kernel
theorem dX11_seesEdge_11 : decode cX11_seesEdge 11 = .ok (.getfield 154, 3) := by decide +kernel
theorem dX11_seesEdge_14 : decode cX11_seesEdge 14 = .ok (.iconst 1, 1) := by decide +kernel
theorem dX11_seesEdge_15 : decode cX11_seesEdge 15 = .ok (.isub, 1) := by decide +kernel
theorem dX11_seesEdge_16 : decode cX11_seesEdge 16 = .ok (.invokestatic 146, 3) := by decide +kernel
theorem dX11_seesEdge_19 : decode cX11_seesEdge 19 = .ok (.ifCond .eq 45, 3) := by decide +kernel
theorem dX11_seesEdge_22 : decode cX11_seesEdge 22 = .ok (.aload_n 0, 1) := by decide +kernel
theorem dX11_seesEdge_23 : decode cX11_seesEdge 23 = .ok (.getfield 57, 3) := by decide +kernel
theorem dX11_seesEdge_26 : decode cX11_seesEdge 26 = .ok (.iload_n 2, 1) := by decide +kernel
theorem dX11_seesEdge_27 : decode cX11_seesEdge 27 = .ok (.iaload, 1) := by decide +kernel
theorem dX11_seesEdge_28 : decode cX11_seesEdge 28 = .ok (.aload_n 0, 1) := by decide +kernel
theorem dX11_seesEdge_29 : decode cX11_seesEdge 29 = .ok (.getfield 60, 3) := by decide +kernel
theorem dX11_seesEdge_32 : decode cX11_seesEdge 32 = .ok (.iload_n 2, 1) := by decide +kernel
theorem dX11_seesEdge_33 : decode cX11_seesEdge 33 = .ok (.iaload, 1) := by decide +kernel
theorem dX11_seesEdge_34 : decode cX11_seesEdge 34 = .ok (.aload_n 0, 1) := by decide +kernel
theorem dX11_seesEdge_35 : decode cX11_seesEdge 35 = .ok (.getfield 78, 3) := by decide +kernel
theorem dX11_seesEdge_38 : decode cX11_seesEdge 38 = .ok (.iload_n 1, 1) := by decide +kernel
theorem dX11_seesEdge_39 : decode cX11_seesEdge 39 = .ok (.iaload, 1) := by decide +kernel
theorem dX11_seesEdge_40 : decode cX11_seesEdge 40 = .ok (.invokestatic 220, 3) := by decide +kernel
theorem dX11_seesEdge_43 : decode cX11_seesEdge 43 = .ok (.ifCond .eq 21, 3) := by decide +kernel
theorem dX11_seesEdge_46 : decode cX11_seesEdge 46 = .ok (.aload_n 0, 1) := by decide +kernel
theorem dX11_seesEdge_47 : decode cX11_seesEdge 47 = .ok (.getfield 99, 3) := by decide +kernel
theorem dX11_seesEdge_50 : decode cX11_seesEdge 50 = .ok (.bipush 60, 2) := by decide +kernel
theorem dX11_seesEdge_52 : decode cX11_seesEdge 52 = .ok (.iload_n 1, 1) := by decide +kernel
theorem dX11_seesEdge_53 : decode cX11_seesEdge 53 = .ok (.imul, 1) := by decide +kernel
theorem dX11_seesEdge_54 : decode cX11_seesEdge 54 = .ok (.iload_n 2, 1) := by decide +kernel
theorem dX11_seesEdge_55 : decode cX11_seesEdge 55 = .ok (.iadd, 1) := by decide +kernel
theorem dX11_seesEdge_56 : decode cX11_seesEdge 56 = .ok (.baload, 1) := by decide +kernel
theorem dX11_seesEdge_57 : decode cX11_seesEdge 57 = .ok (.ifCond .ne 7, 3) := by decide +kernel
theorem dX11_seesEdge_60 : decode cX11_seesEdge 60 = .ok (.iconst 1, 1) := by decide +kernel
theorem dX11_seesEdge_61 : decode cX11_seesEdge 61 = .ok (.goto 4, 3) := by decide +kernel
theorem dX11_seesEdge_64 : decode cX11_seesEdge 64 = .ok (.iconst 0, 1) := by decide +kernel
theorem dX11_seesEdge_65 : decode cX11_seesEdge 65 = .ok (.ireturn, 1) := by decide +kernel
theorem dX11_write_0 : decode cX11_write 0 = .ok (.aload_n 0, 1) := by decide +kernel
theorem dX11_write_1 : decode cX11_write 1 = .ok (.aload_n 0, 1) := by decide +kernel
theorem dX11_write_2 : decode cX11_write 2 = .ok (.iload_n 1, 1) := by decide +kernel
theorem dX11_write_3 : decode cX11_write 3 = .ok (.iload_n 2, 1) := by decide +kernel
theorem dX11_write_4 : decode cX11_write 4 = .ok (.invokevirtual 223, 3) := by decide +kernel
theorem dX11_write_7 : decode cX11_write 7 = .ok (.ifCond .eq 7, 3) := by decide +kernel
theorem dX11_write_10 : decode cX11_write 10 = .ok (.iconst 0, 1) := by decide +kernel
theorem dX11_write_11 : decode cX11_write 11 = .ok (.goto 4, 3) := by decide +kernel
theorem dX11_write_14 : decode cX11_write 14 = .ok (.iconst 1, 1) := by decide +kernel
theorem dX11_write_15 : decode cX11_write 15 = .ok (.invokevirtual 181, 3) := by decide +kernel
theorem dX11_write_18 : decode cX11_write 18 = .ok (.ifCond .ne 27, 3) := by decide +kernel
theorem dX11_write_21 : decode cX11_write 21 = .ok (.aload_n 0, 1) := by decide +kernel
theorem dX11_write_22 : decode cX11_write 22 = .ok (.getfield 81, 3) := by decide +kernel
theorem dX11_write_25 : decode cX11_write 25 = .ok (.bipush 24, 2) := by decide +kernel
theorem dX11_write_27 : decode cX11_write 27 = .ok (.iload_n 1, 1) := by decide +kernel
theorem dX11_write_28 : decode cX11_write 28 = .ok (.imul, 1) := by decide +kernel
theorem dX11_write_29 : decode cX11_write 29 = .ok (.iload_n 2, 1) := by decide +kernel
theorem dX11_write_30 : decode cX11_write 30 = .ok (.iadd, 1) := by decide +kernel
theorem dX11_write_31 : decode cX11_write 31 = .ok (.iconst 1, 1) := by decide +kernel
theorem dX11_write_32 : decode cX11_write 32 = .ok (.bastore, 1) := by decide +kernel
theorem dX11_write_33 : decode cX11_write 33 = .ok (.aload_n 0, 1) := by decide +kernel
theorem dX11_write_34 : decode cX11_write 34 = .ok (.getfield 84, 3) := by decide +kernel
theorem dX11_write_37 : decode cX11_write 37 = .ok (.bipush 24, 2) := by decide +kernel
theorem dX11_write_39 : decode cX11_write 39 = .ok (.iload_n 1, 1) := by decide +kernel
theorem dX11_write_40 : decode cX11_write 40 = .ok (.imul, 1) := by decide +kernel
theorem dX11_write_41 : decode cX11_write 41 = .ok (.iload_n 2, 1) := by decide +kernel
theorem dX11_write_42 : decode cX11_write 42 = .ok (.iadd, 1) := by decide +kernel
theorem dX11_write_43 : decode cX11_write 43 = .ok (.iload_n 3, 1) := by decide +kernel
theorem dX11_write_44 : decode cX11_write 44 = .ok (.iastore, 1) := by decide +kernel
theorem dX11_write_45 : decode cX11_write 45 = .ok (.return_, 1) := by decide +kernel
theorem dX11_link_0 : decode cX11_link 0 = .ok (.aload_n 0, 1) := by decide +kernel
theorem dX11_link_1 : decode cX11_link 1 = .ok (.iload_n 1, 1) := by decide +kernel
theorem dX11_link_2 : decode cX11_link 2 = .ok (.iload_n 2, 1) := by decide +kernel
theorem dX11_link_3 : decode cX11_link 3 = .ok (.invokevirtual 223, 3) := by decide +kernel
theorem dX11_link_6 : decode cX11_link 6 = .ok (.ifCond .eq 24, 3) := by decide +kernel
theorem dX11_link_9 : decode cX11_link 9 = .ok (.aload_n 0, 1) := by decide +kernel
theorem dX11_link_10 : decode cX11_link 10 = .ok (.iload_n 1, 1) := by decide +kernel
theorem dX11_link_11 : decode cX11_link 11 = .ok (.iload 4, 2) := by decide +kernel
theorem dX11_link_13 : decode cX11_link 13 = .ok (.invokevirtual 223, 3) := by decide +kernel
theorem dX11_link_16 : decode cX11_link 16 = .ok (.ifCond .eq 14, 3) := by decide +kernel
theorem dX11_link_19 : decode cX11_link 19 = .ok (.iload_n 3, 1) := by decide +kernel
theorem dX11_link_20 : decode cX11_link 20 = .ok (.invokestatic 171, 3) := by decide +kernel
theorem dX11_link_23 : decode cX11_link 23 = .ok (.ifCond .eq 7, 3) := by decide +kernel
theorem dX11_link_26 : decode cX11_link 26 = .ok (.iconst 1, 1) := by decide +kernel
theorem dX11_link_27 : decode cX11_link 27 = .ok (.goto 4, 3) := by decide +kernel
theorem dX11_link_30 : decode cX11_link 30 = .ok (.iconst 0, 1) := by decide +kernel
theorem dX11_link_31 : decode cX11_link 31 = .ok (.istore 5, 2) := by decide +kernel
theorem dX11_link_33 : decode cX11_link 33 = .ok (.aload_n 0, 1) := by decide +kernel
theorem dX11_link_34 : decode cX11_link 34 = .ok (.iload 5, 2) := by decide +kernel
theorem dX11_link_36 : decode cX11_link 36 = .ok (.ifCond .ne 7, 3) := by decide +kernel
theorem dX11_link_39 : decode cX11_link 39 = .ok (.iconst 1, 1) := by decide +kernel
theorem dX11_link_40 : decode cX11_link 40 = .ok (.goto 19, 3) := by decide +kernel
theorem dX11_link_43 : decode cX11_link 43 = .ok (.aload_n 0, 1) := by decide +kernel
theorem dX11_link_44 : decode cX11_link 44 = .ok (.getfield 87, 3) := by decide +kernel
theorem dX11_link_47 : decode cX11_link 47 = .ok (.iload_n 1, 1) := by decide +kernel
theorem dX11_link_48 : decode cX11_link 48 = .ok (.iaload, 1) := by decide +kernel
theorem dX11_link_49 : decode cX11_link 49 = .ok (.bipush 8, 2) := by decide +kernel
theorem dX11_link_51 : decode cX11_link 51 = .ok (.if_icmp .ne 7, 3) := by decide +kernel
theorem dX11_link_54 : decode cX11_link 54 = .ok (.iconst 2, 1) := by decide +kernel
theorem dX11_link_55 : decode cX11_link 55 = .ok (.goto 4, 3) := by decide +kernel
theorem dX11_link_58 : decode cX11_link 58 = .ok (.iconst 0, 1) := by decide +kernel
theorem dX11_link_59 : decode cX11_link 59 = .ok (.invokevirtual 181, 3) := by decide +kernel
theorem dX11_link_62 : decode cX11_link 62 = .ok (.ifCond .eq 5, 3) := by decide +kernel
theorem dX11_link_65 : decode cX11_link 65 = .ok (.iconst 0, 1) := by decide +kernel
theorem dX11_link_66 : decode cX11_link 66 = .ok (.ireturn, 1) := by decide +kernel
theorem dX11_link_67 : decode cX11_link 67 = .ok (.bipush 8, 2) := by decide +kernel
theorem dX11_link_69 : decode cX11_link 69 = .ok (.iload_n 1, 1) := by decide +kernel
theorem dX11_link_70 : decode cX11_link 70 = .ok (.imul, 1) := by decide +kernel
theorem dX11_link_71 : decode cX11_link 71 = .ok (.aload_n 0, 1) := by decide +kernel
theorem dX11_link_72 : decode cX11_link 72 = .ok (.getfield 87, 3) := by decide +kernel
theorem dX11_link_75 : decode cX11_link 75 = .ok (.iload_n 1, 1) := by decide +kernel
theorem dX11_link_76 : decode cX11_link 76 = .ok (.iaload, 1) := by decide +kernel
theorem dX11_link_77 : decode cX11_link 77 = .ok (.iadd, 1) := by decide +kernel
theorem dX11_link_78 : decode cX11_link 78 = .ok (.istore 6, 2) := by decide +kernel
theorem dX11_link_80 : decode cX11_link 80 = .ok (.aload_n 0, 1) := by decide +kernel
theorem dX11_link_81 : decode cX11_link 81 = .ok (.getfield 90, 3) := by decide +kernel
theorem dX11_link_84 : decode cX11_link 84 = .ok (.iload 6, 2) := by decide +kernel
theorem dX11_link_86 : decode cX11_link 86 = .ok (.iload_n 2, 1) := by decide +kernel
theorem dX11_link_87 : decode cX11_link 87 = .ok (.iastore, 1) := by decide +kernel
theorem dX11_link_88 : decode cX11_link 88 = .ok (.aload_n 0, 1) := by decide +kernel
theorem dX11_link_89 : decode cX11_link 89 = .ok (.getfield 93, 3) := by decide +kernel
theorem dX11_link_92 : decode cX11_link 92 = .ok (.iload 6, 2) := by decide +kernel
theorem dX11_link_94 : decode cX11_link 94 = .ok (.iload 4, 2) := by decide +kernel
theorem dX11_link_96 : decode cX11_link 96 = .ok (.iastore, 1) := by decide +kernel
theorem dX11_link_97 : decode cX11_link 97 = .ok (.aload_n 0, 1) := by decide +kernel
theorem dX11_link_98 : decode cX11_link 98 = .ok (.getfield 96, 3) := by decide +kernel
theorem dX11_link_101 : decode cX11_link 101 = .ok (.iload 6, 2) := by decide +kernel
theorem dX11_link_103 : decode cX11_link 103 = .ok (.iload_n 3, 1) := by decide +kernel
theorem dX11_link_104 : decode cX11_link 104 = .ok (.iastore, 1) := by decide +kernel
theorem dX11_link_105 : decode cX11_link 105 = .ok (.aload_n 0, 1) := by decide +kernel
theorem dX11_link_106 : decode cX11_link 106 = .ok (.getfield 87, 3) := by decide +kernel
theorem dX11_link_109 : decode cX11_link 109 = .ok (.iload_n 1, 1) := by decide +kernel
theorem dX11_link_110 : decode cX11_link 110 = .ok (.dup2, 1) := by decide +kernel
theorem dX11_link_111 : decode cX11_link 111 = .ok (.iaload, 1) := by decide +kernel
theorem dX11_link_112 : decode cX11_link 112 = .ok (.iconst 1, 1) := by decide +kernel
theorem dX11_link_113 : decode cX11_link 113 = .ok (.iadd, 1) := by decide +kernel
theorem dX11_link_114 : decode cX11_link 114 = .ok (.iastore, 1) := by decide +kernel
theorem dX11_link_115 : decode cX11_link 115 = .ok (.aload_n 0, 1) := by decide +kernel
theorem dX11_link_116 : decode cX11_link 116 = .ok (.getfield 87, 3) := by decide +kernel
theorem dX11_link_119 : decode cX11_link 119 = .ok (.iload_n 1, 1) := by decide +kernel
theorem dX11_link_120 : decode cX11_link 120 = .ok (.iaload, 1) := by decide +kernel
theorem dX11_link_121 : decode cX11_link 121 = .ok (.ireturn, 1) := by decide +kernel
theorem dX11_unlink_0 : decode cX11_unlink 0 = .ok (.aload_n 0, 1) := by decide +kernel
theorem dX11_unlink_1 : decode cX11_unlink 1 = .ok (.aload_n 0, 1) := by decide +kernel
theorem dX11_unlink_2 : decode cX11_unlink 2 = .ok (.iload_n 1, 1) := by decide +kernel
theorem dX11_unlink_3 : decode cX11_unlink 3 = .ok (.iload_n 2, 1) := by decide +kernel
theorem dX11_unlink_4 : decode cX11_unlink 4 = .ok (.invokevirtual 226, 3) := by decide +kernel
theorem dX11_unlink_7 : decode cX11_unlink 7 = .ok (.ifCond .eq 7, 3) := by decide +kernel
theorem dX11_unlink_10 : decode cX11_unlink 10 = .ok (.iconst 0, 1) := by decide +kernel
theorem dX11_unlink_11 : decode cX11_unlink 11 = .ok (.goto 4, 3) := by decide +kernel
theorem dX11_unlink_14 : decode cX11_unlink 14 = .ok (.iconst 1, 1) := by decide +kernel
theorem dX11_unlink_15 : decode cX11_unlink 15 = .ok (.invokevirtual 181, 3) := by decide +kernel
theorem dX11_unlink_18 : decode cX11_unlink 18 = .ok (.ifCond .ne 15, 3) := by decide +kernel
theorem dX11_unlink_21 : decode cX11_unlink 21 = .ok (.aload_n 0, 1) := by decide +kernel
theorem dX11_unlink_22 : decode cX11_unlink 22 = .ok (.getfield 99, 3) := by decide +kernel
theorem dX11_unlink_25 : decode cX11_unlink 25 = .ok (.bipush 60, 2) := by decide +kernel
theorem dX11_unlink_27 : decode cX11_unlink 27 = .ok (.iload_n 1, 1) := by decide +kernel
theorem dX11_unlink_28 : decode cX11_unlink 28 = .ok (.imul, 1) := by decide +kernel
theorem dX11_unlink_29 : decode cX11_unlink 29 = .ok (.iload_n 2, 1) := by decide +kernel
theorem dX11_unlink_30 : decode cX11_unlink 30 = .ok (.iadd, 1) := by decide +kernel
theorem dX11_unlink_31 : decode cX11_unlink 31 = .ok (.iconst 1, 1) := by decide +kernel
theorem dX11_unlink_32 : decode cX11_unlink 32 = .ok (.bastore, 1) := by decide +kernel
theorem dX11_unlink_33 : decode cX11_unlink 33 = .ok (.return_, 1) := by decide +kernel
theorem dX11_read_0 : decode cX11_read 0 = .ok (.aload_n 0, 1) := by decide +kernel
theorem dX11_read_1 : decode cX11_read 1 = .ok (.aload_n 0, 1) := by decide +kernel
theorem dX11_read_2 : decode cX11_read 2 = .ok (.iload_n 1, 1) := by decide +kernel
theorem dX11_read_3 : decode cX11_read 3 = .ok (.iload_n 2, 1) := by decide +kernel
theorem dX11_read_4 : decode cX11_read 4 = .ok (.invokevirtual 223, 3) := by decide +kernel
theorem dX11_read_7 : decode cX11_read 7 = .ok (.ifCond .eq 7, 3) := by decide +kernel
theorem dX11_read_10 : decode cX11_read 10 = .ok (.iconst 0, 1) := by decide +kernel
theorem dX11_read_11 : decode cX11_read 11 = .ok (.goto 4, 3) := by decide +kernel
theorem dX11_read_14 : decode cX11_read 14 = .ok (.iconst 1, 1) := by decide +kernel
theorem dX11_read_15 : decode cX11_read 15 = .ok (.invokevirtual 181, 3) := by decide +kernel
theorem dX11_read_18 : decode cX11_read 18 = .ok (.ifCond .eq 5, 3) := by decide +kernel
theorem dX11_read_21 : decode cX11_read 21 = .ok (.iconst 0, 1) := by decide +kernel
theorem dX11_read_22 : decode cX11_read 22 = .ok (.ireturn, 1) := by decide +kernel
theorem dX11_read_23 : decode cX11_read 23 = .ok (.aload_n 0, 1) := by decide +kernel
theorem dX11_read_24 : decode cX11_read 24 = .ok (.getfield 81, 3) := by decide +kernel
theorem dX11_read_27 : decode cX11_read 27 = .ok (.bipush 24, 2) := by decide +kernel
theorem dX11_read_29 : decode cX11_read 29 = .ok (.iload_n 1, 1) := by decide +kernel
theorem dX11_read_30 : decode cX11_read 30 = .ok (.imul, 1) := by decide +kernel
theorem dX11_read_31 : decode cX11_read 31 = .ok (.iload_n 2, 1) := by decide +kernel
theorem dX11_read_32 : decode cX11_read 32 = .ok (.iadd, 1) := by decide +kernel
theorem dX11_read_33 : decode cX11_read 33 = .ok (.baload, 1) := by decide +kernel
theorem dX11_read_34 : decode cX11_read 34 = .ok (.ifCond .eq 17, 3) := by decide +kernel
theorem dX11_read_37 : decode cX11_read 37 = .ok (.aload_n 0, 1) := by decide +kernel
theorem dX11_read_38 : decode cX11_read 38 = .ok (.getfield 84, 3) := by decide +kernel
theorem dX11_read_41 : decode cX11_read 41 = .ok (.bipush 24, 2) := by decide +kernel
theorem dX11_read_43 : decode cX11_read 43 = .ok (.iload_n 1, 1) := by decide +kernel
theorem dX11_read_44 : decode cX11_read 44 = .ok (.imul, 1) := by decide +kernel
theorem dX11_read_45 : decode cX11_read 45 = .ok (.iload_n 2, 1) := by decide +kernel
theorem dX11_read_46 : decode cX11_read 46 = .ok (.iadd, 1) := by decide +kernel
theorem dX11_read_47 : decode cX11_read 47 = .ok (.iaload, 1) := by decide +kernel
theorem dX11_read_48 : decode cX11_read 48 = .ok (.goto 14, 3) := by decide +kernel
theorem dX11_read_51 : decode cX11_read 51 = .ok (.aload_n 0, 1) := by decide +kernel
theorem dX11_read_52 : decode cX11_read 52 = .ok (.iload_n 2, 1) := by decide +kernel
theorem dX11_read_53 : decode cX11_read 53 = .ok (.aload_n 0, 1) := by decide +kernel
theorem dX11_read_54 : decode cX11_read 54 = .ok (.getfield 78, 3) := by decide +kernel
theorem dX11_read_57 : decode cX11_read 57 = .ok (.iload_n 1, 1) := by decide +kernel
theorem dX11_read_58 : decode cX11_read 58 = .ok (.iaload, 1) := by decide +kernel
theorem dX11_read_59 : decode cX11_read 59 = .ok (.invokevirtual 229, 3) := by decide +kernel
theorem dX11_read_62 : decode cX11_read 62 = .ok (.ireturn, 1) := by decide +kernel
theorem dX11_sees_0 : decode cX11_sees 0 = .ok (.aload_n 0, 1) := by decide +kernel
theorem dX11_sees_1 : decode cX11_sees 1 = .ok (.aload_n 0, 1) := by decide +kernel
theorem dX11_sees_2 : decode cX11_sees 2 = .ok (.iload_n 1, 1) := by decide +kernel
theorem dX11_sees_3 : decode cX11_sees 3 = .ok (.iload_n 2, 1) := by decide +kernel
theorem dX11_sees_4 : decode cX11_sees 4 = .ok (.invokevirtual 223, 3) := by decide +kernel
theorem dX11_sees_7 : decode cX11_sees 7 = .ok (.ifCond .eq 7, 3) := by decide +kernel
theorem dX11_sees_10 : decode cX11_sees 10 = .ok (.iconst 0, 1) := by decide +kernel
theorem dX11_sees_11 : decode cX11_sees 11 = .ok (.goto 4, 3) := by decide +kernel
theorem dX11_sees_14 : decode cX11_sees 14 = .ok (.iconst 1, 1) := by decide +kernel
theorem dX11_sees_15 : decode cX11_sees 15 = .ok (.invokevirtual 181, 3) := by decide +kernel
theorem dX11_sees_18 : decode cX11_sees 18 = .ok (.ifCond .eq 5, 3) := by decide +kernel
theorem dX11_sees_21 : decode cX11_sees 21 = .ok (.iconst 0, 1) := by decide +kernel
theorem dX11_sees_22 : decode cX11_sees 22 = .ok (.ireturn, 1) := by decide +kernel
theorem dX11_sees_23 : decode cX11_sees 23 = .ok (.iconst 0, 1) := by decide +kernel
theorem dX11_sees_24 : decode cX11_sees 24 = .ok (.istore_n 3, 1) := by decide +kernel
theorem dX11_sees_25 : decode cX11_sees 25 = .ok (.iconst 0, 1) := by decide +kernel
theorem dX11_sees_26 : decode cX11_sees 26 = .ok (.istore 4, 2) := by decide +kernel
theorem dX11_sees_28 : decode cX11_sees 28 = .ok (.iload 4, 2) := by decide +kernel
theorem dX11_sees_30 : decode cX11_sees 30 = .ok (.aload_n 0, 1) := by decide +kernel
theorem dX11_sees_31 : decode cX11_sees 31 = .ok (.getfield 154, 3) := by decide +kernel
theorem dX11_sees_34 : decode cX11_sees 34 = .ok (.if_icmp .ge 38, 3) := by decide +kernel
theorem dX11_sees_37 : decode cX11_sees 37 = .ok (.iload_n 3, 1) := by decide +kernel
theorem dX11_sees_38 : decode cX11_sees 38 = .ok (.aload_n 0, 1) := by decide +kernel
theorem dX11_sees_39 : decode cX11_sees 39 = .ok (.getfield 48, 3) := by decide +kernel
theorem dX11_sees_42 : decode cX11_sees 42 = .ok (.iload 4, 2) := by decide +kernel
theorem dX11_sees_44 : decode cX11_sees 44 = .ok (.iaload, 1) := by decide +kernel
theorem dX11_sees_45 : decode cX11_sees 45 = .ok (.iload_n 2, 1) := by decide +kernel
theorem dX11_sees_46 : decode cX11_sees 46 = .ok (.if_icmp .ne 17, 3) := by decide +kernel
theorem dX11_sees_49 : decode cX11_sees 49 = .ok (.aload_n 0, 1) := by decide +kernel
theorem dX11_sees_50 : decode cX11_sees 50 = .ok (.iload_n 1, 1) := by decide +kernel
theorem dX11_sees_51 : decode cX11_sees 51 = .ok (.iload 4, 2) := by decide +kernel
theorem dX11_sees_53 : decode cX11_sees 53 = .ok (.invokevirtual 226, 3) := by decide +kernel
theorem dX11_sees_56 : decode cX11_sees 56 = .ok (.ifCond .eq 7, 3) := by decide +kernel
theorem dX11_sees_59 : decode cX11_sees 59 = .ok (.iconst 1, 1) := by decide +kernel
theorem dX11_sees_60 : decode cX11_sees 60 = .ok (.goto 4, 3) := by decide +kernel
theorem dX11_sees_63 : decode cX11_sees 63 = .ok (.iconst 0, 1) := by decide +kernel
theorem dX11_sees_64 : decode cX11_sees 64 = .ok (.iadd, 1) := by decide +kernel
theorem dX11_sees_65 : decode cX11_sees 65 = .ok (.istore_n 3, 1) := by decide +kernel
theorem dX11_sees_66 : decode cX11_sees 66 = .ok (.iinc 4 1, 3) := by decide +kernel
theorem dX11_sees_69 : decode cX11_sees 69 = .ok (.goto (-41), 3) := by decide +kernel
theorem dX11_sees_72 : decode cX11_sees 72 = .ok (.bipush 8, 2) := by decide +kernel
theorem dX11_sees_74 : decode cX11_sees 74 = .ok (.iload_n 1, 1) := by decide +kernel
theorem dX11_sees_75 : decode cX11_sees 75 = .ok (.imul, 1) := by decide +kernel
theorem dX11_sees_76 : decode cX11_sees 76 = .ok (.istore 4, 2) := by decide +kernel
theorem dX11_sees_78 : decode cX11_sees 78 = .ok (.iload 4, 2) := by decide +kernel
theorem dX11_sees_80 : decode cX11_sees 80 = .ok (.bipush 8, 2) := by decide +kernel
theorem dX11_sees_82 : decode cX11_sees 82 = .ok (.iload_n 1, 1) := by decide +kernel
theorem dX11_sees_83 : decode cX11_sees 83 = .ok (.imul, 1) := by decide +kernel
theorem dX11_sees_84 : decode cX11_sees 84 = .ok (.aload_n 0, 1) := by decide +kernel
theorem dX11_sees_85 : decode cX11_sees 85 = .ok (.getfield 87, 3) := by decide +kernel
theorem dX11_sees_88 : decode cX11_sees 88 = .ok (.iload_n 1, 1) := by decide +kernel
theorem dX11_sees_89 : decode cX11_sees 89 = .ok (.iaload, 1) := by decide +kernel
theorem dX11_sees_90 : decode cX11_sees 90 = .ok (.iadd, 1) := by decide +kernel
theorem dX11_sees_91 : decode cX11_sees 91 = .ok (.if_icmp .ge 28, 3) := by decide +kernel
theorem dX11_sees_94 : decode cX11_sees 94 = .ok (.iload_n 3, 1) := by decide +kernel
theorem dX11_sees_95 : decode cX11_sees 95 = .ok (.aload_n 0, 1) := by decide +kernel
theorem dX11_sees_96 : decode cX11_sees 96 = .ok (.getfield 90, 3) := by decide +kernel
theorem dX11_sees_99 : decode cX11_sees 99 = .ok (.iload 4, 2) := by decide +kernel
theorem dX11_sees_101 : decode cX11_sees 101 = .ok (.iaload, 1) := by decide +kernel
theorem dX11_sees_102 : decode cX11_sees 102 = .ok (.iload_n 2, 1) := by decide +kernel
theorem dX11_sees_103 : decode cX11_sees 103 = .ok (.if_icmp .ne 7, 3) := by decide +kernel
theorem dX11_sees_106 : decode cX11_sees 106 = .ok (.iconst 1, 1) := by decide +kernel
theorem dX11_sees_107 : decode cX11_sees 107 = .ok (.goto 4, 3) := by decide +kernel
theorem dX11_sees_110 : decode cX11_sees 110 = .ok (.iconst 0, 1) := by decide +kernel
theorem dX11_sees_111 : decode cX11_sees 111 = .ok (.iadd, 1) := by decide +kernel
theorem dX11_sees_112 : decode cX11_sees 112 = .ok (.istore_n 3, 1) := by decide +kernel
theorem dX11_sees_113 : decode cX11_sees 113 = .ok (.iinc 4 1, 3) := by decide +kernel
theorem dX11_sees_116 : decode cX11_sees 116 = .ok (.goto (-38), 3) := by decide +kernel
theorem dX11_sees_119 : decode cX11_sees 119 = .ok (.iload_n 3, 1) := by decide +kernel
theorem dX11_sees_120 : decode cX11_sees 120 = .ok (.ireturn, 1) := by decide +kernel
theorem dX11_touches_0 : decode cX11_touches 0 = .ok (.iconst 0, 1) := by decide +kernel
theorem dX11_touches_1 : decode cX11_touches 1 = .ok (.istore_n 2, 1) := by decide +kernel
theorem dX11_touches_2 : decode cX11_touches 2 = .ok (.iconst 0, 1) := by decide +kernel
theorem dX11_touches_3 : decode cX11_touches 3 = .ok (.istore_n 3, 1) := by decide +kernel
theorem dX11_touches_4 : decode cX11_touches 4 = .ok (.iload_n 3, 1) := by decide +kernel
theorem dX11_touches_5 : decode cX11_touches 5 = .ok (.bipush 24, 2) := by decide +kernel
theorem dX11_touches_7 : decode cX11_touches 7 = .ok (.if_icmp .ge 33, 3) := by decide +kernel
theorem dX11_touches_10 : decode cX11_touches 10 = .ok (.iload_n 2, 1) := by decide +kernel
theorem dX11_touches_11 : decode cX11_touches 11 = .ok (.aload_n 0, 1) := by decide +kernel
theorem dX11_touches_12 : decode cX11_touches 12 = .ok (.getfield 81, 3) := by decide +kernel
theorem dX11_touches_15 : decode cX11_touches 15 = .ok (.bipush 24, 2) := by decide +kernel
theorem dX11_touches_17 : decode cX11_touches 17 = .ok (.iload_n 1, 1) := by decide +kernel
theorem dX11_touches_18 : decode cX11_touches 18 = .ok (.imul, 1) := by decide +kernel
theorem dX11_touches_19 : decode cX11_touches 19 = .ok (.iload_n 3, 1) := by decide +kernel
theorem dX11_touches_20 : decode cX11_touches 20 = .ok (.iadd, 1) := by decide +kernel
theorem dX11_touches_21 : decode cX11_touches 21 = .ok (.baload, 1) := by decide +kernel
theorem dX11_touches_22 : decode cX11_touches 22 = .ok (.ifCond .eq 9, 3) := by decide +kernel
theorem dX11_touches_25 : decode cX11_touches 25 = .ok (.iconst 1, 1) := by decide +kernel
theorem dX11_touches_26 : decode cX11_touches 26 = .ok (.iload_n 3, 1) := by decide +kernel
theorem dX11_touches_27 : decode cX11_touches 27 = .ok (.ishl, 1) := by decide +kernel
theorem dX11_touches_28 : decode cX11_touches 28 = .ok (.goto 4, 3) := by decide +kernel
theorem dX11_touches_31 : decode cX11_touches 31 = .ok (.iconst 0, 1) := by decide +kernel
theorem dX11_touches_32 : decode cX11_touches 32 = .ok (.ior, 1) := by decide +kernel
theorem dX11_touches_33 : decode cX11_touches 33 = .ok (.istore_n 2, 1) := by decide +kernel
theorem dX11_touches_34 : decode cX11_touches 34 = .ok (.iinc 3 1, 3) := by decide +kernel
theorem dX11_touches_37 : decode cX11_touches 37 = .ok (.goto (-33), 3) := by decide +kernel
theorem dX11_touches_40 : decode cX11_touches 40 = .ok (.bipush 8, 2) := by decide +kernel
theorem dX11_touches_42 : decode cX11_touches 42 = .ok (.iload_n 1, 1) := by decide +kernel
theorem dX11_touches_43 : decode cX11_touches 43 = .ok (.imul, 1) := by decide +kernel
theorem dX11_touches_44 : decode cX11_touches 44 = .ok (.istore_n 3, 1) := by decide +kernel
theorem dX11_touches_45 : decode cX11_touches 45 = .ok (.iload_n 3, 1) := by decide +kernel
theorem dX11_touches_46 : decode cX11_touches 46 = .ok (.bipush 8, 2) := by decide +kernel
theorem dX11_touches_48 : decode cX11_touches 48 = .ok (.iload_n 1, 1) := by decide +kernel
theorem dX11_touches_49 : decode cX11_touches 49 = .ok (.imul, 1) := by decide +kernel
theorem dX11_touches_50 : decode cX11_touches 50 = .ok (.aload_n 0, 1) := by decide +kernel
theorem dX11_touches_51 : decode cX11_touches 51 = .ok (.getfield 87, 3) := by decide +kernel
theorem dX11_touches_54 : decode cX11_touches 54 = .ok (.iload_n 1, 1) := by decide +kernel
theorem dX11_touches_55 : decode cX11_touches 55 = .ok (.iaload, 1) := by decide +kernel
theorem dX11_touches_56 : decode cX11_touches 56 = .ok (.iadd, 1) := by decide +kernel
theorem dX11_touches_57 : decode cX11_touches 57 = .ok (.if_icmp .ge 29, 3) := by decide +kernel
theorem dX11_touches_60 : decode cX11_touches 60 = .ok (.iload_n 2, 1) := by decide +kernel
theorem dX11_touches_61 : decode cX11_touches 61 = .ok (.iconst 1, 1) := by decide +kernel
theorem dX11_touches_62 : decode cX11_touches 62 = .ok (.aload_n 0, 1) := by decide +kernel
theorem dX11_touches_63 : decode cX11_touches 63 = .ok (.getfield 90, 3) := by decide +kernel
theorem dX11_touches_66 : decode cX11_touches 66 = .ok (.iload_n 3, 1) := by decide +kernel
theorem dX11_touches_67 : decode cX11_touches 67 = .ok (.iaload, 1) := by decide +kernel
theorem dX11_touches_68 : decode cX11_touches 68 = .ok (.ishl, 1) := by decide +kernel
theorem dX11_touches_69 : decode cX11_touches 69 = .ok (.iconst 1, 1) := by decide +kernel
theorem dX11_touches_70 : decode cX11_touches 70 = .ok (.aload_n 0, 1) := by decide +kernel
theorem dX11_touches_71 : decode cX11_touches 71 = .ok (.getfield 93, 3) := by decide +kernel
theorem dX11_touches_74 : decode cX11_touches 74 = .ok (.iload_n 3, 1) := by decide +kernel
theorem dX11_touches_75 : decode cX11_touches 75 = .ok (.iaload, 1) := by decide +kernel
theorem dX11_touches_76 : decode cX11_touches 76 = .ok (.ishl, 1) := by decide +kernel
theorem dX11_touches_77 : decode cX11_touches 77 = .ok (.ior, 1) := by decide +kernel
theorem dX11_touches_78 : decode cX11_touches 78 = .ok (.ior, 1) := by decide +kernel
theorem dX11_touches_79 : decode cX11_touches 79 = .ok (.istore_n 2, 1) := by decide +kernel
theorem dX11_touches_80 : decode cX11_touches 80 = .ok (.iinc 3 1, 3) := by decide +kernel
theorem dX11_touches_83 : decode cX11_touches 83 = .ok (.goto (-38), 3) := by decide +kernel
theorem dX11_touches_86 : decode cX11_touches 86 = .ok (.iconst 0, 1) := by decide +kernel
theorem dX11_touches_87 : decode cX11_touches 87 = .ok (.istore_n 3, 1) := by decide +kernel
theorem dX11_touches_88 : decode cX11_touches 88 = .ok (.iload_n 3, 1) := by decide +kernel
theorem dX11_touches_89 : decode cX11_touches 89 = .ok (.bipush 60, 2) := by decide +kernel
theorem dX11_touches_91 : decode cX11_touches 91 = .ok (.if_icmp .ge 47, 3) := by decide +kernel
theorem dX11_touches_94 : decode cX11_touches 94 = .ok (.iload_n 2, 1) := by decide +kernel
theorem dX11_touches_95 : decode cX11_touches 95 = .ok (.aload_n 0, 1) := by decide +kernel
theorem dX11_touches_96 : decode cX11_touches 96 = .ok (.getfield 99, 3) := by decide +kernel
theorem dX11_touches_99 : decode cX11_touches 99 = .ok (.bipush 60, 2) := by decide +kernel
theorem dX11_touches_101 : decode cX11_touches 101 = .ok (.iload_n 1, 1) := by decide +kernel
theorem dX11_touches_102 : decode cX11_touches 102 = .ok (.imul, 1) := by decide +kernel
theorem dX11_touches_103 : decode cX11_touches 103 = .ok (.iload_n 3, 1) := by decide +kernel
theorem dX11_touches_104 : decode cX11_touches 104 = .ok (.iadd, 1) := by decide +kernel
theorem dX11_touches_105 : decode cX11_touches 105 = .ok (.baload, 1) := by decide +kernel
theorem dX11_touches_106 : decode cX11_touches 106 = .ok (.ifCond .eq 23, 3) := by decide +kernel
theorem dX11_touches_109 : decode cX11_touches 109 = .ok (.iconst 1, 1) := by decide +kernel
theorem dX11_touches_110 : decode cX11_touches 110 = .ok (.aload_n 0, 1) := by decide +kernel
theorem dX11_touches_111 : decode cX11_touches 111 = .ok (.getfield 48, 3) := by decide +kernel
theorem dX11_touches_114 : decode cX11_touches 114 = .ok (.iload_n 3, 1) := by decide +kernel
theorem dX11_touches_115 : decode cX11_touches 115 = .ok (.iaload, 1) := by decide +kernel
theorem dX11_touches_116 : decode cX11_touches 116 = .ok (.ishl, 1) := by decide +kernel
theorem dX11_touches_117 : decode cX11_touches 117 = .ok (.iconst 1, 1) := by decide +kernel
theorem dX11_touches_118 : decode cX11_touches 118 = .ok (.aload_n 0, 1) := by decide +kernel
theorem dX11_touches_119 : decode cX11_touches 119 = .ok (.getfield 51, 3) := by decide +kernel
theorem dX11_touches_122 : decode cX11_touches 122 = .ok (.iload_n 3, 1) := by decide +kernel
theorem dX11_touches_123 : decode cX11_touches 123 = .ok (.iaload, 1) := by decide +kernel
theorem dX11_touches_124 : decode cX11_touches 124 = .ok (.ishl, 1) := by decide +kernel
theorem dX11_touches_125 : decode cX11_touches 125 = .ok (.ior, 1) := by decide +kernel
theorem dX11_touches_126 : decode cX11_touches 126 = .ok (.goto 4, 3) := by decide +kernel
theorem dX11_touches_129 : decode cX11_touches 129 = .ok (.iconst 0, 1) := by decide +kernel
theorem dX11_touches_130 : decode cX11_touches 130 = .ok (.ior, 1) := by decide +kernel
theorem dX11_touches_131 : decode cX11_touches 131 = .ok (.istore_n 2, 1) := by decide +kernel
theorem dX11_touches_132 : decode cX11_touches 132 = .ok (.iinc 3 1, 3) := by decide +kernel
theorem dX11_touches_135 : decode cX11_touches 135 = .ok (.goto (-47), 3) := by decide +kernel
theorem dX11_touches_138 : decode cX11_touches 138 = .ok (.iload_n 2, 1) := by decide +kernel
theorem dX11_touches_139 : decode cX11_touches 139 = .ok (.ireturn, 1) := by decide +kernel
theorem dX11_laterValue_0 : decode cX11_laterValue 0 = .ok (.aload_n 0, 1) := by decide +kernel
theorem dX11_laterValue_1 : decode cX11_laterValue 1 = .ok (.getfield 81, 3) := by decide +kernel
theorem dX11_laterValue_4 : decode cX11_laterValue 4 = .ok (.bipush 24, 2) := by decide +kernel
theorem dX11_laterValue_6 : decode cX11_laterValue 6 = .ok (.iload_n 1, 1) := by decide +kernel
theorem dX11_laterValue_7 : decode cX11_laterValue 7 = .ok (.imul, 1) := by decide +kernel
theorem dX11_laterValue_8 : decode cX11_laterValue 8 = .ok (.iload_n 2, 1) := by decide +kernel
theorem dX11_laterValue_9 : decode cX11_laterValue 9 = .ok (.iadd, 1) := by decide +kernel
theorem dX11_laterValue_10 : decode cX11_laterValue 10 = .ok (.baload, 1) := by decide +kernel
theorem dX11_laterValue_11 : decode cX11_laterValue 11 = .ok (.ifCond .eq 17, 3) := by decide +kernel
theorem dX11_laterValue_14 : decode cX11_laterValue 14 = .ok (.aload_n 0, 1) := by decide +kernel
theorem dX11_laterValue_15 : decode cX11_laterValue 15 = .ok (.getfield 84, 3) := by decide +kernel
theorem dX11_laterValue_18 : decode cX11_laterValue 18 = .ok (.bipush 24, 2) := by decide +kernel
theorem dX11_laterValue_20 : decode cX11_laterValue 20 = .ok (.iload_n 1, 1) := by decide +kernel
theorem dX11_laterValue_21 : decode cX11_laterValue 21 = .ok (.imul, 1) := by decide +kernel
theorem dX11_laterValue_22 : decode cX11_laterValue 22 = .ok (.iload_n 2, 1) := by decide +kernel
theorem dX11_laterValue_23 : decode cX11_laterValue 23 = .ok (.iadd, 1) := by decide +kernel
theorem dX11_laterValue_24 : decode cX11_laterValue 24 = .ok (.iaload, 1) := by decide +kernel
theorem dX11_laterValue_25 : decode cX11_laterValue 25 = .ok (.goto 9, 3) := by decide +kernel
theorem dX11_laterValue_28 : decode cX11_laterValue 28 = .ok (.aload_n 0, 1) := by decide +kernel
theorem dX11_laterValue_29 : decode cX11_laterValue 29 = .ok (.getfield 13, 3) := by decide +kernel
theorem dX11_laterValue_32 : decode cX11_laterValue 32 = .ok (.iload_n 2, 1) := by decide +kernel
theorem dX11_laterValue_33 : decode cX11_laterValue 33 = .ok (.iaload, 1) := by decide +kernel
theorem dX11_laterValue_34 : decode cX11_laterValue 34 = .ok (.ireturn, 1) := by decide +kernel
theorem dX11_breaks_0 : decode cX11_breaks 0 = .ok (.aload_n 0, 1) := by decide +kernel
theorem dX11_breaks_1 : decode cX11_breaks 1 = .ok (.getfield 154, 3) := by decide +kernel
theorem dX11_breaks_4 : decode cX11_breaks 4 = .ok (.aload_n 0, 1) := by decide +kernel
