theorem dX11_pattern_52 : decode cX11_pattern 52 = .ok (.iload_n 1, 1) := by decide +kernel
theorem dX11_pattern_53 : decode cX11_pattern 53 = .ok (.iadd, 1) := by decide +kernel
theorem dX11_pattern_54 : decode cX11_pattern 54 = .ok (.aload_n 0, 1) := by decide +kernel
theorem dX11_pattern_55 : decode cX11_pattern 55 = .ok (.getfield 102, 3) := by decide +kernel
theorem dX11_pattern_58 : decode cX11_pattern 58 = .ok (.iload_n 1, 1) := by decide +kernel
theorem dX11_pattern_59 : decode cX11_pattern 59 = .ok (.iaload, 1) := by decide +kernel
theorem dX11_pattern_60 : decode cX11_pattern 60 = .ok (.iastore, 1) := by decide +kernel
theorem dX11_pattern_61 : decode cX11_pattern 61 = .ok (.aload_n 0, 1) := by decide +kernel
theorem dX11_pattern_62 : decode cX11_pattern 62 = .ok (.getfield 114, 3) := by decide +kernel
theorem dX11_pattern_65 : decode cX11_pattern 65 = .ok (.bipush 12, 2) := by decide +kernel
theorem dX11_pattern_67 : decode cX11_pattern 67 = .ok (.aload_n 0, 1) := by decide +kernel
theorem dX11_pattern_68 : decode cX11_pattern 68 = .ok (.getfield 263, 3) := by decide +kernel
theorem dX11_pattern_71 : decode cX11_pattern 71 = .ok (.imul, 1) := by decide +kernel
theorem dX11_pattern_72 : decode cX11_pattern 72 = .ok (.iload_n 1, 1) := by decide +kernel
theorem dX11_pattern_73 : decode cX11_pattern 73 = .ok (.iadd, 1) := by decide +kernel
theorem dX11_pattern_74 : decode cX11_pattern 74 = .ok (.aload_n 0, 1) := by decide +kernel
theorem dX11_pattern_75 : decode cX11_pattern 75 = .ok (.getfield 105, 3) := by decide +kernel
theorem dX11_pattern_78 : decode cX11_pattern 78 = .ok (.iload_n 1, 1) := by decide +kernel
theorem dX11_pattern_79 : decode cX11_pattern 79 = .ok (.iaload, 1) := by decide +kernel
theorem dX11_pattern_80 : decode cX11_pattern 80 = .ok (.iastore, 1) := by decide +kernel
theorem dX11_pattern_81 : decode cX11_pattern 81 = .ok (.iinc 1 1, 3) := by decide +kernel
theorem dX11_pattern_84 : decode cX11_pattern 84 = .ok (.goto (-51), 3) := by decide +kernel
theorem dX11_pattern_87 : decode cX11_pattern 87 = .ok (.aload_n 0, 1) := by decide +kernel
theorem dX11_pattern_88 : decode cX11_pattern 88 = .ok (.getfield 108, 3) := by decide +kernel
theorem dX11_pattern_91 : decode cX11_pattern 91 = .ok (.aload_n 0, 1) := by decide +kernel
theorem dX11_pattern_92 : decode cX11_pattern 92 = .ok (.getfield 263, 3) := by decide +kernel
theorem dX11_pattern_95 : decode cX11_pattern 95 = .ok (.aload_n 0, 1) := by decide +kernel
theorem dX11_pattern_96 : decode cX11_pattern 96 = .ok (.getfield 254, 3) := by decide +kernel
theorem dX11_pattern_99 : decode cX11_pattern 99 = .ok (.iastore, 1) := by decide +kernel
theorem dX11_pattern_100 : decode cX11_pattern 100 = .ok (.aload_n 0, 1) := by decide +kernel
theorem dX11_pattern_101 : decode cX11_pattern 101 = .ok (.iconst 0, 1) := by decide +kernel
theorem dX11_pattern_102 : decode cX11_pattern 102 = .ok (.putfield 254, 3) := by decide +kernel
theorem dX11_pattern_105 : decode cX11_pattern 105 = .ok (.aload_n 0, 1) := by decide +kernel
theorem dX11_pattern_106 : decode cX11_pattern 106 = .ok (.iconst 0, 1) := by decide +kernel
theorem dX11_pattern_107 : decode cX11_pattern 107 = .ok (.putfield 257, 3) := by decide +kernel
theorem dX11_pattern_110 : decode cX11_pattern 110 = .ok (.aload_n 0, 1) := by decide +kernel
theorem dX11_pattern_111 : decode cX11_pattern 111 = .ok (.dup, 1) := by decide +kernel
theorem dX11_pattern_112 : decode cX11_pattern 112 = .ok (.getfield 263, 3) := by decide +kernel
theorem dX11_pattern_115 : decode cX11_pattern 115 = .ok (.iconst 1, 1) := by decide +kernel
theorem dX11_pattern_116 : decode cX11_pattern 116 = .ok (.iadd, 1) := by decide +kernel
theorem dX11_pattern_117 : decode cX11_pattern 117 = .ok (.putfield 263, 3) := by decide +kernel
theorem dX11_pattern_120 : decode cX11_pattern 120 = .ok (.aload_n 0, 1) := by decide +kernel
theorem dX11_pattern_121 : decode cX11_pattern 121 = .ok (.getfield 263, 3) := by decide +kernel
theorem dX11_pattern_124 : decode cX11_pattern 124 = .ok (.iconst 1, 1) := by decide +kernel
theorem dX11_pattern_125 : decode cX11_pattern 125 = .ok (.isub, 1) := by decide +kernel
theorem dX11_pattern_126 : decode cX11_pattern 126 = .ok (.ireturn, 1) := by decide +kernel
theorem dX11_reached_0 : decode cX11_reached 0 = .ok (.iconst 0, 1) := by decide +kernel
theorem dX11_reached_1 : decode cX11_reached 1 = .ok (.istore_n 2, 1) := by decide +kernel
theorem dX11_reached_2 : decode cX11_reached 2 = .ok (.iconst 0, 1) := by decide +kernel
theorem dX11_reached_3 : decode cX11_reached 3 = .ok (.istore_n 3, 1) := by decide +kernel
theorem dX11_reached_4 : decode cX11_reached 4 = .ok (.iload_n 3, 1) := by decide +kernel
theorem dX11_reached_5 : decode cX11_reached 5 = .ok (.aload_n 0, 1) := by decide +kernel
theorem dX11_reached_6 : decode cX11_reached 6 = .ok (.getfield 150, 3) := by decide +kernel
theorem dX11_reached_9 : decode cX11_reached 9 = .ok (.if_icmp .ge 45, 3) := by decide +kernel
theorem dX11_reached_12 : decode cX11_reached 12 = .ok (.iload_n 2, 1) := by decide +kernel
theorem dX11_reached_13 : decode cX11_reached 13 = .ok (.aload_n 0, 1) := by decide +kernel
theorem dX11_reached_14 : decode cX11_reached 14 = .ok (.iload_n 3, 1) := by decide +kernel
theorem dX11_reached_15 : decode cX11_reached 15 = .ok (.invokevirtual 163, 3) := by decide +kernel
theorem dX11_reached_18 : decode cX11_reached 18 = .ok (.ifCond .eq 27, 3) := by decide +kernel
theorem dX11_reached_21 : decode cX11_reached 21 = .ok (.iload_n 1, 1) := by decide +kernel
theorem dX11_reached_22 : decode cX11_reached 22 = .ok (.ifCond .ne 17, 3) := by decide +kernel
theorem dX11_reached_25 : decode cX11_reached 25 = .ok (.aload_n 0, 1) := by decide +kernel
theorem dX11_reached_26 : decode cX11_reached 26 = .ok (.getfield 72, 3) := by decide +kernel
theorem dX11_reached_29 : decode cX11_reached 29 = .ok (.aload_n 0, 1) := by decide +kernel
theorem dX11_reached_30 : decode cX11_reached 30 = .ok (.getfield 16, 3) := by decide +kernel
theorem dX11_reached_33 : decode cX11_reached 33 = .ok (.iload_n 3, 1) := by decide +kernel
theorem dX11_reached_34 : decode cX11_reached 34 = .ok (.iaload, 1) := by decide +kernel
theorem dX11_reached_35 : decode cX11_reached 35 = .ok (.baload, 1) := by decide +kernel
theorem dX11_reached_36 : decode cX11_reached 36 = .ok (.ifCond .ne 9, 3) := by decide +kernel
theorem dX11_reached_39 : decode cX11_reached 39 = .ok (.iconst 1, 1) := by decide +kernel
theorem dX11_reached_40 : decode cX11_reached 40 = .ok (.iload_n 3, 1) := by decide +kernel
theorem dX11_reached_41 : decode cX11_reached 41 = .ok (.ishl, 1) := by decide +kernel
theorem dX11_reached_42 : decode cX11_reached 42 = .ok (.goto 4, 3) := by decide +kernel
theorem dX11_reached_45 : decode cX11_reached 45 = .ok (.iconst 0, 1) := by decide +kernel
theorem dX11_reached_46 : decode cX11_reached 46 = .ok (.ior, 1) := by decide +kernel
theorem dX11_reached_47 : decode cX11_reached 47 = .ok (.istore_n 2, 1) := by decide +kernel
theorem dX11_reached_48 : decode cX11_reached 48 = .ok (.iinc 3 1, 3) := by decide +kernel
theorem dX11_reached_51 : decode cX11_reached 51 = .ok (.goto (-47), 3) := by decide +kernel
theorem dX11_reached_54 : decode cX11_reached 54 = .ok (.iload_n 2, 1) := by decide +kernel
theorem dX11_reached_55 : decode cX11_reached 55 = .ok (.ireturn, 1) := by decide +kernel
theorem dX11_lays_0 : decode cX11_lays 0 = .ok (.aload_n 0, 1) := by decide +kernel
theorem dX11_lays_1 : decode cX11_lays 1 = .ok (.invokevirtual 248, 3) := by decide +kernel
theorem dX11_lays_4 : decode cX11_lays 4 = .ok (.aload_n 0, 1) := by decide +kernel
theorem dX11_lays_5 : decode cX11_lays 5 = .ok (.iload_n 2, 1) := by decide +kernel
theorem dX11_lays_6 : decode cX11_lays 6 = .ok (.invokevirtual 266, 3) := by decide +kernel
theorem dX11_lays_9 : decode cX11_lays 9 = .ok (.istore_n 3, 1) := by decide +kernel
theorem dX11_lays_10 : decode cX11_lays 10 = .ok (.iconst 0, 1) := by decide +kernel
theorem dX11_lays_11 : decode cX11_lays 11 = .ok (.istore 4, 2) := by decide +kernel
theorem dX11_lays_13 : decode cX11_lays 13 = .ok (.bipush 12, 2) := by decide +kernel
theorem dX11_lays_15 : decode cX11_lays 15 = .ok (.iload_n 1, 1) := by decide +kernel
theorem dX11_lays_16 : decode cX11_lays 16 = .ok (.imul, 1) := by decide +kernel
theorem dX11_lays_17 : decode cX11_lays 17 = .ok (.istore 5, 2) := by decide +kernel
theorem dX11_lays_19 : decode cX11_lays 19 = .ok (.iload 5, 2) := by decide +kernel
theorem dX11_lays_21 : decode cX11_lays 21 = .ok (.bipush 12, 2) := by decide +kernel
theorem dX11_lays_23 : decode cX11_lays 23 = .ok (.iload_n 1, 1) := by decide +kernel
theorem dX11_lays_24 : decode cX11_lays 24 = .ok (.imul, 1) := by decide +kernel
theorem dX11_lays_25 : decode cX11_lays 25 = .ok (.aload_n 0, 1) := by decide +kernel
theorem dX11_lays_26 : decode cX11_lays 26 = .ok (.getfield 108, 3) := by decide +kernel
theorem dX11_lays_29 : decode cX11_lays 29 = .ok (.iload_n 1, 1) := by decide +kernel
theorem dX11_lays_30 : decode cX11_lays 30 = .ok (.iaload, 1) := by decide +kernel
theorem dX11_lays_31 : decode cX11_lays 31 = .ok (.iadd, 1) := by decide +kernel
theorem dX11_lays_32 : decode cX11_lays 32 = .ok (.if_icmp .ge 85, 3) := by decide +kernel
theorem dX11_lays_35 : decode cX11_lays 35 = .ok (.bipush 24, 2) := by decide +kernel
theorem dX11_lays_37 : decode cX11_lays 37 = .ok (.iload 4, 2) := by decide +kernel
theorem dX11_lays_39 : decode cX11_lays 39 = .ok (.imul, 1) := by decide +kernel
theorem dX11_lays_40 : decode cX11_lays 40 = .ok (.istore 6, 2) := by decide +kernel
theorem dX11_lays_42 : decode cX11_lays 42 = .ok (.aload_n 0, 1) := by decide +kernel
theorem dX11_lays_43 : decode cX11_lays 43 = .ok (.getfield 111, 3) := by decide +kernel
theorem dX11_lays_46 : decode cX11_lays 46 = .ok (.iload 5, 2) := by decide +kernel
theorem dX11_lays_48 : decode cX11_lays 48 = .ok (.iaload, 1) := by decide +kernel
theorem dX11_lays_49 : decode cX11_lays 49 = .ok (.iconst 3, 1) := by decide +kernel
theorem dX11_lays_50 : decode cX11_lays 50 = .ok (.if_icmp .ge 18, 3) := by decide +kernel
theorem dX11_lays_53 : decode cX11_lays 53 = .ok (.aload_n 0, 1) := by decide +kernel
theorem dX11_lays_54 : decode cX11_lays 54 = .ok (.iload 5, 2) := by decide +kernel
theorem dX11_lays_56 : decode cX11_lays 56 = .ok (.iload 6, 2) := by decide +kernel
theorem dX11_lays_58 : decode cX11_lays 58 = .ok (.iload_n 3, 1) := by decide +kernel
theorem dX11_lays_59 : decode cX11_lays 59 = .ok (.invokevirtual 270, 3) := by decide +kernel
theorem dX11_lays_62 : decode cX11_lays 62 = .ok (.iinc 4 1, 3) := by decide +kernel
theorem dX11_lays_65 : decode cX11_lays 65 = .ok (.goto 46, 3) := by decide +kernel
theorem dX11_lays_68 : decode cX11_lays 68 = .ok (.aload_n 0, 1) := by decide +kernel
theorem dX11_lays_69 : decode cX11_lays 69 = .ok (.getfield 111, 3) := by decide +kernel
theorem dX11_lays_72 : decode cX11_lays 72 = .ok (.iload 5, 2) := by decide +kernel
theorem dX11_lays_74 : decode cX11_lays 74 = .ok (.iaload, 1) := by decide +kernel
theorem dX11_lays_75 : decode cX11_lays 75 = .ok (.iconst 5, 1) := by decide +kernel
theorem dX11_lays_76 : decode cX11_lays 76 = .ok (.if_icmp .ne 16, 3) := by decide +kernel
theorem dX11_lays_79 : decode cX11_lays 79 = .ok (.aload_n 0, 1) := by decide +kernel
theorem dX11_lays_80 : decode cX11_lays 80 = .ok (.iload 6, 2) := by decide +kernel
theorem dX11_lays_82 : decode cX11_lays 82 = .ok (.bipush 24, 2) := by decide +kernel
theorem dX11_lays_84 : decode cX11_lays 84 = .ok (.isub, 1) := by decide +kernel
theorem dX11_lays_85 : decode cX11_lays 85 = .ok (.iload_n 3, 1) := by decide +kernel
theorem dX11_lays_86 : decode cX11_lays 86 = .ok (.invokevirtual 274, 3) := by decide +kernel
theorem dX11_lays_89 : decode cX11_lays 89 = .ok (.goto 22, 3) := by decide +kernel
theorem dX11_lays_92 : decode cX11_lays 92 = .ok (.iinc 4 (-1), 3) := by decide +kernel
theorem dX11_lays_95 : decode cX11_lays 95 = .ok (.aload_n 0, 1) := by decide +kernel
theorem dX11_lays_96 : decode cX11_lays 96 = .ok (.aload_n 0, 1) := by decide +kernel
theorem dX11_lays_97 : decode cX11_lays 97 = .ok (.getfield 111, 3) := by decide +kernel
theorem dX11_lays_100 : decode cX11_lays 100 = .ok (.iload 5, 2) := by decide +kernel
theorem dX11_lays_102 : decode cX11_lays 102 = .ok (.iaload, 1) := by decide +kernel
theorem dX11_lays_103 : decode cX11_lays 103 = .ok (.iload 6, 2) := by decide +kernel
theorem dX11_lays_105 : decode cX11_lays 105 = .ok (.bipush 48, 2) := by decide +kernel
theorem dX11_lays_107 : decode cX11_lays 107 = .ok (.isub, 1) := by decide +kernel
theorem dX11_lays_108 : decode cX11_lays 108 = .ok (.invokevirtual 277, 3) := by decide +kernel
theorem dX11_lays_111 : decode cX11_lays 111 = .ok (.iinc 5 1, 3) := by decide +kernel
theorem dX11_lays_114 : decode cX11_lays 114 = .ok (.goto (-95), 3) := by decide +kernel
theorem dX11_lays_117 : decode cX11_lays 117 = .ok (.return_, 1) := by decide +kernel
theorem dX11_begins_0 : decode cX11_begins 0 = .ok (.aload_n 0, 1) := by decide +kernel
theorem dX11_begins_1 : decode cX11_begins 1 = .ok (.getfield 114, 3) := by decide +kernel
theorem dX11_begins_4 : decode cX11_begins 4 = .ok (.iload_n 1, 1) := by decide +kernel
theorem dX11_begins_5 : decode cX11_begins 5 = .ok (.iaload, 1) := by decide +kernel
theorem dX11_begins_6 : decode cX11_begins 6 = .ok (.istore 4, 2) := by decide +kernel
theorem dX11_begins_8 : decode cX11_begins 8 = .ok (.iconst 0, 1) := by decide +kernel
theorem dX11_begins_9 : decode cX11_begins 9 = .ok (.istore 5, 2) := by decide +kernel
theorem dX11_begins_11 : decode cX11_begins 11 = .ok (.iload 5, 2) := by decide +kernel
theorem dX11_begins_13 : decode cX11_begins 13 = .ok (.bipush 24, 2) := by decide +kernel
theorem dX11_begins_15 : decode cX11_begins 15 = .ok (.if_icmp .ge 19, 3) := by decide +kernel
theorem dX11_begins_18 : decode cX11_begins 18 = .ok (.aload_n 0, 1) := by decide +kernel
theorem dX11_begins_19 : decode cX11_begins 19 = .ok (.getfield 135, 3) := by decide +kernel
theorem dX11_begins_22 : decode cX11_begins 22 = .ok (.iload_n 2, 1) := by decide +kernel
theorem dX11_begins_23 : decode cX11_begins 23 = .ok (.iload 5, 2) := by decide +kernel
theorem dX11_begins_25 : decode cX11_begins 25 = .ok (.iadd, 1) := by decide +kernel
theorem dX11_begins_26 : decode cX11_begins 26 = .ok (.iconst 0, 1) := by decide +kernel
theorem dX11_begins_27 : decode cX11_begins 27 = .ok (.iastore, 1) := by decide +kernel
theorem dX11_begins_28 : decode cX11_begins 28 = .ok (.iinc 5 1, 3) := by decide +kernel
theorem dX11_begins_31 : decode cX11_begins 31 = .ok (.goto (-20), 3) := by decide +kernel
theorem dX11_begins_34 : decode cX11_begins 34 = .ok (.iconst 0, 1) := by decide +kernel
theorem dX11_begins_35 : decode cX11_begins 35 = .ok (.istore 5, 2) := by decide +kernel
theorem dX11_begins_37 : decode cX11_begins 37 = .ok (.iload 5, 2) := by decide +kernel
theorem dX11_begins_39 : decode cX11_begins 39 = .ok (.bipush 24, 2) := by decide +kernel
theorem dX11_begins_41 : decode cX11_begins 41 = .ok (.if_icmp .ge 180, 3) := by decide +kernel
theorem dX11_begins_44 : decode cX11_begins 44 = .ok (.iload_n 3, 1) := by decide +kernel
theorem dX11_begins_45 : decode cX11_begins 45 = .ok (.iload 5, 2) := by decide +kernel
theorem dX11_begins_47 : decode cX11_begins 47 = .ok (.invokestatic 142, 3) := by decide +kernel
theorem dX11_begins_50 : decode cX11_begins 50 = .ok (.ifCond .eq 39, 3) := by decide +kernel
theorem dX11_begins_53 : decode cX11_begins 53 = .ok (.aload_n 0, 1) := by decide +kernel
theorem dX11_begins_54 : decode cX11_begins 54 = .ok (.getfield 111, 3) := by decide +kernel
theorem dX11_begins_57 : decode cX11_begins 57 = .ok (.iload_n 1, 1) := by decide +kernel
theorem dX11_begins_58 : decode cX11_begins 58 = .ok (.iaload, 1) := by decide +kernel
theorem dX11_begins_59 : decode cX11_begins 59 = .ok (.ifCond .ne 30, 3) := by decide +kernel
theorem dX11_begins_62 : decode cX11_begins 62 = .ok (.aload_n 0, 1) := by decide +kernel
theorem dX11_begins_63 : decode cX11_begins 63 = .ok (.getfield 135, 3) := by decide +kernel
theorem dX11_begins_66 : decode cX11_begins 66 = .ok (.iload_n 2, 1) := by decide +kernel
theorem dX11_begins_67 : decode cX11_begins 67 = .ok (.iload 5, 2) := by decide +kernel
theorem dX11_begins_69 : decode cX11_begins 69 = .ok (.iadd, 1) := by decide +kernel
theorem dX11_begins_70 : decode cX11_begins 70 = .ok (.aload_n 0, 1) := by decide +kernel
theorem dX11_begins_71 : decode cX11_begins 71 = .ok (.getfield 132, 3) := by decide +kernel
theorem dX11_begins_74 : decode cX11_begins 74 = .ok (.bipush 24, 2) := by decide +kernel
theorem dX11_begins_76 : decode cX11_begins 76 = .ok (.iload 4, 2) := by decide +kernel
theorem dX11_begins_78 : decode cX11_begins 78 = .ok (.imul, 1) := by decide +kernel
theorem dX11_begins_79 : decode cX11_begins 79 = .ok (.iload 5, 2) := by decide +kernel
theorem dX11_begins_81 : decode cX11_begins 81 = .ok (.iadd, 1) := by decide +kernel
theorem dX11_begins_82 : decode cX11_begins 82 = .ok (.iaload, 1) := by decide +kernel
theorem dX11_begins_83 : decode cX11_begins 83 = .ok (.iload_n 3, 1) := by decide +kernel
theorem dX11_begins_84 : decode cX11_begins 84 = .ok (.iand, 1) := by decide +kernel
theorem dX11_begins_85 : decode cX11_begins 85 = .ok (.iastore, 1) := by decide +kernel
theorem dX11_begins_86 : decode cX11_begins 86 = .ok (.goto 129, 3) := by decide +kernel
theorem dX11_begins_89 : decode cX11_begins 89 = .ok (.iload_n 3, 1) := by decide +kernel
theorem dX11_begins_90 : decode cX11_begins 90 = .ok (.iload 5, 2) := by decide +kernel
theorem dX11_begins_92 : decode cX11_begins 92 = .ok (.invokestatic 142, 3) := by decide +kernel
theorem dX11_begins_95 : decode cX11_begins 95 = .ok (.ifCond .eq 45, 3) := by decide +kernel
theorem dX11_begins_98 : decode cX11_begins 98 = .ok (.aload_n 0, 1) := by decide +kernel
theorem dX11_begins_99 : decode cX11_begins 99 = .ok (.getfield 111, 3) := by decide +kernel
theorem dX11_begins_102 : decode cX11_begins 102 = .ok (.iload_n 1, 1) := by decide +kernel
theorem dX11_begins_103 : decode cX11_begins 103 = .ok (.iaload, 1) := by decide +kernel
theorem dX11_begins_104 : decode cX11_begins 104 = .ok (.iconst 2, 1) := by decide +kernel
theorem dX11_begins_105 : decode cX11_begins 105 = .ok (.if_icmp .ne 35, 3) := by decide +kernel
theorem dX11_begins_108 : decode cX11_begins 108 = .ok (.aload_n 0, 1) := by decide +kernel
theorem dX11_begins_109 : decode cX11_begins 109 = .ok (.getfield 135, 3) := by decide +kernel
theorem dX11_begins_112 : decode cX11_begins 112 = .ok (.iload_n 2, 1) := by decide +kernel
theorem dX11_begins_113 : decode cX11_begins 113 = .ok (.iload 5, 2) := by decide +kernel
theorem dX11_begins_115 : decode cX11_begins 115 = .ok (.iadd, 1) := by decide +kernel
theorem dX11_begins_116 : decode cX11_begins 116 = .ok (.aload_n 0, 1) := by decide +kernel
theorem dX11_begins_117 : decode cX11_begins 117 = .ok (.getfield 7, 3) := by decide +kernel
theorem dX11_begins_120 : decode cX11_begins 120 = .ok (.iload 5, 2) := by decide +kernel
theorem dX11_begins_122 : decode cX11_begins 122 = .ok (.iaload, 1) := by decide +kernel
theorem dX11_begins_123 : decode cX11_begins 123 = .ok (.iload 4, 2) := by decide +kernel
theorem dX11_begins_125 : decode cX11_begins 125 = .ok (.if_icmp .ne 10, 3) := by decide +kernel
theorem dX11_begins_128 : decode cX11_begins 128 = .ok (.iconst 1, 1) := by decide +kernel
theorem dX11_begins_129 : decode cX11_begins 129 = .ok (.iload 5, 2) := by decide +kernel
theorem dX11_begins_131 : decode cX11_begins 131 = .ok (.ishl, 1) := by decide +kernel
theorem dX11_begins_132 : decode cX11_begins 132 = .ok (.goto 4, 3) := by decide +kernel
theorem dX11_begins_135 : decode cX11_begins 135 = .ok (.iconst 0, 1) := by decide +kernel
theorem dX11_begins_136 : decode cX11_begins 136 = .ok (.iastore, 1) := by decide +kernel
theorem dX11_begins_137 : decode cX11_begins 137 = .ok (.goto 78, 3) := by decide +kernel
theorem dX11_begins_140 : decode cX11_begins 140 = .ok (.iload_n 3, 1) := by decide +kernel
theorem dX11_begins_141 : decode cX11_begins 141 = .ok (.iload 5, 2) := by decide +kernel
theorem dX11_begins_143 : decode cX11_begins 143 = .ok (.invokestatic 142, 3) := by decide +kernel
theorem dX11_begins_146 : decode cX11_begins 146 = .ok (.ifCond .eq 69, 3) := by decide +kernel
theorem dX11_begins_149 : decode cX11_begins 149 = .ok (.iconst 0, 1) := by decide +kernel
theorem dX11_begins_150 : decode cX11_begins 150 = .ok (.istore 6, 2) := by decide +kernel
theorem dX11_begins_152 : decode cX11_begins 152 = .ok (.iload 6, 2) := by decide +kernel
theorem dX11_begins_154 : decode cX11_begins 154 = .ok (.bipush 24, 2) := by decide +kernel
theorem dX11_begins_156 : decode cX11_begins 156 = .ok (.if_icmp .ge 59, 3) := by decide +kernel
theorem dX11_begins_159 : decode cX11_begins 159 = .ok (.aload_n 0, 1) := by decide +kernel
theorem dX11_begins_160 : decode cX11_begins 160 = .ok (.getfield 135, 3) := by decide +kernel
theorem dX11_begins_163 : decode cX11_begins 163 = .ok (.iload_n 2, 1) := by decide +kernel
theorem dX11_begins_164 : decode cX11_begins 164 = .ok (.iload 6, 2) := by decide +kernel
theorem dX11_begins_166 : decode cX11_begins 166 = .ok (.iadd, 1) := by decide +kernel
theorem dX11_begins_167 : decode cX11_begins 167 = .ok (.dup2, 1) := by decide +kernel
theorem dX11_begins_168 : decode cX11_begins 168 = .ok (.iaload, 1) := by decide +kernel
theorem dX11_begins_169 : decode cX11_begins 169 = .ok (.iload_n 3, 1) := by decide +kernel
theorem dX11_begins_170 : decode cX11_begins 170 = .ok (.iload 6, 2) := by decide +kernel
theorem dX11_begins_172 : decode cX11_begins 172 = .ok (.invokestatic 142, 3) := by decide +kernel
theorem dX11_begins_175 : decode cX11_begins 175 = .ok (.ifCond .eq 31, 3) := by decide +kernel
theorem dX11_begins_178 : decode cX11_begins 178 = .ok (.aload_n 0, 1) := by decide +kernel
theorem dX11_begins_179 : decode cX11_begins 179 = .ok (.getfield 132, 3) := by decide +kernel
theorem dX11_begins_182 : decode cX11_begins 182 = .ok (.bipush 24, 2) := by decide +kernel
theorem dX11_begins_184 : decode cX11_begins 184 = .ok (.iload 4, 2) := by decide +kernel
theorem dX11_begins_186 : decode cX11_begins 186 = .ok (.imul, 1) := by decide +kernel
theorem dX11_begins_187 : decode cX11_begins 187 = .ok (.iload 5, 2) := by decide +kernel
theorem dX11_begins_189 : decode cX11_begins 189 = .ok (.iadd, 1) := by decide +kernel
theorem dX11_begins_190 : decode cX11_begins 190 = .ok (.iaload, 1) := by decide +kernel
theorem dX11_begins_191 : decode cX11_begins 191 = .ok (.iload 6, 2) := by decide +kernel
theorem dX11_begins_193 : decode cX11_begins 193 = .ok (.invokestatic 142, 3) := by decide +kernel
theorem dX11_begins_196 : decode cX11_begins 196 = .ok (.ifCond .eq 10, 3) := by decide +kernel
theorem dX11_begins_199 : decode cX11_begins 199 = .ok (.iconst 1, 1) := by decide +kernel
theorem dX11_begins_200 : decode cX11_begins 200 = .ok (.iload 5, 2) := by decide +kernel
theorem dX11_begins_202 : decode cX11_begins 202 = .ok (.ishl, 1) := by decide +kernel
theorem dX11_begins_203 : decode cX11_begins 203 = .ok (.goto 4, 3) := by decide +kernel
theorem dX11_begins_206 : decode cX11_begins 206 = .ok (.iconst 0, 1) := by decide +kernel
theorem dX11_begins_207 : decode cX11_begins 207 = .ok (.ior, 1) := by decide +kernel
theorem dX11_begins_208 : decode cX11_begins 208 = .ok (.iastore, 1) := by decide +kernel
theorem dX11_begins_209 : decode cX11_begins 209 = .ok (.iinc 6 1, 3) := by decide +kernel
theorem dX11_begins_212 : decode cX11_begins 212 = .ok (.goto (-60), 3) := by decide +kernel
theorem dX11_begins_215 : decode cX11_begins 215 = .ok (.iinc 5 1, 3) := by decide +kernel
theorem dX11_begins_218 : decode cX11_begins 218 = .ok (.goto (-181), 3) := by decide +kernel
theorem dX11_begins_221 : decode cX11_begins 221 = .ok (.return_, 1) := by decide +kernel
theorem dX11_closes_0 : decode cX11_closes 0 = .ok (.iconst 0, 1) := by decide +kernel
theorem dX11_closes_1 : decode cX11_closes 1 = .ok (.istore_n 3, 1) := by decide +kernel
theorem dX11_closes_2 : decode cX11_closes 2 = .ok (.iload_n 3, 1) := by decide +kernel
theorem dX11_closes_3 : decode cX11_closes 3 = .ok (.bipush 24, 2) := by decide +kernel
theorem dX11_closes_5 : decode cX11_closes 5 = .ok (.if_icmp .ge 35, 3) := by decide +kernel
theorem dX11_closes_8 : decode cX11_closes 8 = .ok (.aload_n 0, 1) := by decide +kernel
theorem dX11_closes_9 : decode cX11_closes 9 = .ok (.getfield 135, 3) := by decide +kernel
theorem dX11_closes_12 : decode cX11_closes 12 = .ok (.iload_n 1, 1) := by decide +kernel
theorem dX11_closes_13 : decode cX11_closes 13 = .ok (.iload_n 3, 1) := by decide +kernel
theorem dX11_closes_14 : decode cX11_closes 14 = .ok (.iadd, 1) := by decide +kernel
theorem dX11_closes_15 : decode cX11_closes 15 = .ok (.dup2, 1) := by decide +kernel
theorem dX11_closes_16 : decode cX11_closes 16 = .ok (.iaload, 1) := by decide +kernel
theorem dX11_closes_17 : decode cX11_closes 17 = .ok (.iload_n 2, 1) := by decide +kernel
theorem dX11_closes_18 : decode cX11_closes 18 = .ok (.iload_n 3, 1) := by decide +kernel
theorem dX11_closes_19 : decode cX11_closes 19 = .ok (.invokestatic 142, 3) := by decide +kernel
theorem dX11_closes_22 : decode cX11_closes 22 = .ok (.ifCond .eq 9, 3) := by decide +kernel
theorem dX11_closes_25 : decode cX11_closes 25 = .ok (.iconst 1, 1) := by decide +kernel
theorem dX11_closes_26 : decode cX11_closes 26 = .ok (.iload_n 3, 1) := by decide +kernel
theorem dX11_closes_27 : decode cX11_closes 27 = .ok (.ishl, 1) := by decide +kernel
theorem dX11_closes_28 : decode cX11_closes 28 = .ok (.goto 4, 3) := by decide +kernel
theorem dX11_closes_31 : decode cX11_closes 31 = .ok (.iconst 0, 1) := by decide +kernel
theorem dX11_closes_32 : decode cX11_closes 32 = .ok (.ior, 1) := by decide +kernel
theorem dX11_closes_33 : decode cX11_closes 33 = .ok (.iastore, 1) := by decide +kernel
theorem dX11_closes_34 : decode cX11_closes 34 = .ok (.iinc 3 1, 3) := by decide +kernel
theorem dX11_closes_37 : decode cX11_closes 37 = .ok (.goto (-35), 3) := by decide +kernel
theorem dX11_closes_40 : decode cX11_closes 40 = .ok (.iconst 0, 1) := by decide +kernel
theorem dX11_closes_41 : decode cX11_closes 41 = .ok (.istore_n 3, 1) := by decide +kernel
theorem dX11_closes_42 : decode cX11_closes 42 = .ok (.iload_n 3, 1) := by decide +kernel
theorem dX11_closes_43 : decode cX11_closes 43 = .ok (.bipush 24, 2) := by decide +kernel
theorem dX11_closes_45 : decode cX11_closes 45 = .ok (.if_icmp .ge 65, 3) := by decide +kernel
theorem dX11_closes_48 : decode cX11_closes 48 = .ok (.iconst 0, 1) := by decide +kernel
theorem dX11_closes_49 : decode cX11_closes 49 = .ok (.istore 4, 2) := by decide +kernel
theorem dX11_closes_51 : decode cX11_closes 51 = .ok (.iload 4, 2) := by decide +kernel
theorem dX11_closes_53 : decode cX11_closes 53 = .ok (.bipush 24, 2) := by decide +kernel
theorem dX11_closes_55 : decode cX11_closes 55 = .ok (.if_icmp .ge 49, 3) := by decide +kernel
theorem dX11_closes_58 : decode cX11_closes 58 = .ok (.aload_n 0, 1) := by decide +kernel
theorem dX11_closes_59 : decode cX11_closes 59 = .ok (.getfield 135, 3) := by decide +kernel
theorem dX11_closes_62 : decode cX11_closes 62 = .ok (.iload_n 1, 1) := by decide +kernel
theorem dX11_closes_63 : decode cX11_closes 63 = .ok (.iload 4, 2) := by decide +kernel
theorem dX11_closes_65 : decode cX11_closes 65 = .ok (.iadd, 1) := by decide +kernel
theorem dX11_closes_66 : decode cX11_closes 66 = .ok (.dup2, 1) := by decide +kernel
theorem dX11_closes_67 : decode cX11_closes 67 = .ok (.iaload, 1) := by decide +kernel
theorem dX11_closes_68 : decode cX11_closes 68 = .ok (.aload_n 0, 1) := by decide +kernel
theorem dX11_closes_69 : decode cX11_closes 69 = .ok (.getfield 135, 3) := by decide +kernel
theorem dX11_closes_72 : decode cX11_closes 72 = .ok (.iload_n 1, 1) := by decide +kernel
theorem dX11_closes_73 : decode cX11_closes 73 = .ok (.iload 4, 2) := by decide +kernel
theorem dX11_closes_75 : decode cX11_closes 75 = .ok (.iadd, 1) := by decide +kernel
theorem dX11_closes_76 : decode cX11_closes 76 = .ok (.iaload, 1) := by decide +kernel
theorem dX11_closes_77 : decode cX11_closes 77 = .ok (.iload_n 3, 1) := by decide +kernel
theorem dX11_closes_78 : decode cX11_closes 78 = .ok (.invokestatic 142, 3) := by decide +kernel
theorem dX11_closes_81 : decode cX11_closes 81 = .ok (.ifCond .eq 14, 3) := by decide +kernel
theorem dX11_closes_84 : decode cX11_closes 84 = .ok (.aload_n 0, 1) := by decide +kernel
theorem dX11_closes_85 : decode cX11_closes 85 = .ok (.getfield 135, 3) := by decide +kernel
theorem dX11_closes_88 : decode cX11_closes 88 = .ok (.iload_n 1, 1) := by decide +kernel
theorem dX11_closes_89 : decode cX11_closes 89 = .ok (.iload_n 3, 1) := by decide +kernel
theorem dX11_closes_90 : decode cX11_closes 90 = .ok (.iadd, 1) := by decide +kernel
theorem dX11_closes_91 : decode cX11_closes 91 = .ok (.iaload, 1) := by decide +kernel
theorem dX11_closes_92 : decode cX11_closes 92 = .ok (.goto 4, 3) := by decide +kernel
theorem dX11_closes_95 : decode cX11_closes 95 = .ok (.iconst 0, 1) := by decide +kernel
theorem dX11_closes_96 : decode cX11_closes 96 = .ok (.ior, 1) := by decide +kernel
theorem dX11_closes_97 : decode cX11_closes 97 = .ok (.iastore, 1) := by decide +kernel
theorem dX11_closes_98 : decode cX11_closes 98 = .ok (.iinc 4 1, 3) := by decide +kernel
theorem dX11_closes_101 : decode cX11_closes 101 = .ok (.goto (-50), 3) := by decide +kernel
theorem dX11_closes_104 : decode cX11_closes 104 = .ok (.iinc 3 1, 3) := by decide +kernel
theorem dX11_closes_107 : decode cX11_closes 107 = .ok (.goto (-65), 3) := by decide +kernel
theorem dX11_closes_110 : decode cX11_closes 110 = .ok (.return_, 1) := by decide +kernel
theorem dX11_joins_0 : decode cX11_joins 0 = .ok (.iconst 0, 1) := by decide +kernel
theorem dX11_joins_1 : decode cX11_joins 1 = .ok (.istore_n 3, 1) := by decide +kernel
theorem dX11_joins_2 : decode cX11_joins 2 = .ok (.iload_n 3, 1) := by decide +kernel
theorem dX11_joins_3 : decode cX11_joins 3 = .ok (.bipush 24, 2) := by decide +kernel
theorem dX11_joins_5 : decode cX11_joins 5 = .ok (.if_icmp .ge 102, 3) := by decide +kernel
theorem dX11_joins_8 : decode cX11_joins 8 = .ok (.aload_n 0, 1) := by decide +kernel
theorem dX11_joins_9 : decode cX11_joins 9 = .ok (.getfield 135, 3) := by decide +kernel
theorem dX11_joins_12 : decode cX11_joins 12 = .ok (.iload_n 2, 1) := by decide +kernel
theorem dX11_joins_13 : decode cX11_joins 13 = .ok (.bipush 24, 2) := by decide +kernel
theorem dX11_joins_15 : decode cX11_joins 15 = .ok (.iadd, 1) := by decide +kernel
theorem dX11_joins_16 : decode cX11_joins 16 = .ok (.iload_n 3, 1) := by decide +kernel
theorem dX11_joins_17 : decode cX11_joins 17 = .ok (.iadd, 1) := by decide +kernel
theorem dX11_joins_18 : decode cX11_joins 18 = .ok (.iaload, 1) := by decide +kernel
theorem dX11_joins_19 : decode cX11_joins 19 = .ok (.aload_n 0, 1) := by decide +kernel
theorem dX11_joins_20 : decode cX11_joins 20 = .ok (.getfield 135, 3) := by decide +kernel
theorem dX11_joins_23 : decode cX11_joins 23 = .ok (.iload_n 2, 1) := by decide +kernel
theorem dX11_joins_24 : decode cX11_joins 24 = .ok (.iload_n 3, 1) := by decide +kernel
theorem dX11_joins_25 : decode cX11_joins 25 = .ok (.iadd, 1) := by decide +kernel
theorem dX11_joins_26 : decode cX11_joins 26 = .ok (.iaload, 1) := by decide +kernel
theorem dX11_joins_27 : decode cX11_joins 27 = .ok (.ior, 1) := by decide +kernel
theorem dX11_joins_28 : decode cX11_joins 28 = .ok (.istore 4, 2) := by decide +kernel
theorem dX11_joins_30 : decode cX11_joins 30 = .ok (.iload_n 1, 1) := by decide +kernel
theorem dX11_joins_31 : decode cX11_joins 31 = .ok (.iconst 3, 1) := by decide +kernel
theorem dX11_joins_32 : decode cX11_joins 32 = .ok (.if_icmp .ne 59, 3) := by decide +kernel
theorem dX11_joins_35 : decode cX11_joins 35 = .ok (.iconst 0, 1) := by decide +kernel
theorem dX11_joins_36 : decode cX11_joins 36 = .ok (.istore 4, 2) := by decide +kernel
theorem dX11_joins_38 : decode cX11_joins 38 = .ok (.iconst 0, 1) := by decide +kernel
theorem dX11_joins_39 : decode cX11_joins 39 = .ok (.istore 5, 2) := by decide +kernel
theorem dX11_joins_41 : decode cX11_joins 41 = .ok (.iload 5, 2) := by decide +kernel
theorem dX11_joins_43 : decode cX11_joins 43 = .ok (.bipush 24, 2) := by decide +kernel
theorem dX11_joins_45 : decode cX11_joins 45 = .ok (.if_icmp .ge 46, 3) := by decide +kernel
theorem dX11_joins_48 : decode cX11_joins 48 = .ok (.iload 4, 2) := by decide +kernel
theorem dX11_joins_50 : decode cX11_joins 50 = .ok (.aload_n 0, 1) := by decide +kernel
theorem dX11_joins_51 : decode cX11_joins 51 = .ok (.getfield 135, 3) := by decide +kernel
theorem dX11_joins_54 : decode cX11_joins 54 = .ok (.iload_n 2, 1) := by decide +kernel
theorem dX11_joins_55 : decode cX11_joins 55 = .ok (.iload_n 3, 1) := by decide +kernel
theorem dX11_joins_56 : decode cX11_joins 56 = .ok (.iadd, 1) := by decide +kernel
theorem dX11_joins_57 : decode cX11_joins 57 = .ok (.iaload, 1) := by decide +kernel
theorem dX11_joins_58 : decode cX11_joins 58 = .ok (.iload 5, 2) := by decide +kernel
theorem dX11_joins_60 : decode cX11_joins 60 = .ok (.invokestatic 142, 3) := by decide +kernel
theorem dX11_joins_63 : decode cX11_joins 63 = .ok (.ifCond .eq 18, 3) := by decide +kernel
theorem dX11_joins_66 : decode cX11_joins 66 = .ok (.aload_n 0, 1) := by decide +kernel
theorem dX11_joins_67 : decode cX11_joins 67 = .ok (.getfield 135, 3) := by decide +kernel
theorem dX11_joins_70 : decode cX11_joins 70 = .ok (.iload_n 2, 1) := by decide +kernel
theorem dX11_joins_71 : decode cX11_joins 71 = .ok (.bipush 24, 2) := by decide +kernel
theorem dX11_joins_73 : decode cX11_joins 73 = .ok (.iadd, 1) := by decide +kernel
theorem dX11_joins_74 : decode cX11_joins 74 = .ok (.iload 5, 2) := by decide +kernel
theorem dX11_joins_76 : decode cX11_joins 76 = .ok (.iadd, 1) := by decide +kernel
theorem dX11_joins_77 : decode cX11_joins 77 = .ok (.iaload, 1) := by decide +kernel
theorem dX11_joins_78 : decode cX11_joins 78 = .ok (.goto 4, 3) := by decide +kernel
theorem dX11_joins_81 : decode cX11_joins 81 = .ok (.iconst 0, 1) := by decide +kernel
theorem dX11_joins_82 : decode cX11_joins 82 = .ok (.ior, 1) := by decide +kernel
theorem dX11_joins_83 : decode cX11_joins 83 = .ok (.istore 4, 2) := by decide +kernel
theorem dX11_joins_85 : decode cX11_joins 85 = .ok (.iinc 5 1, 3) := by decide +kernel
theorem dX11_joins_88 : decode cX11_joins 88 = .ok (.goto (-47), 3) := by decide +kernel
theorem dX11_joins_91 : decode cX11_joins 91 = .ok (.aload_n 0, 1) := by decide +kernel
theorem dX11_joins_92 : decode cX11_joins 92 = .ok (.getfield 135, 3) := by decide +kernel
theorem dX11_joins_95 : decode cX11_joins 95 = .ok (.iload_n 2, 1) := by decide +kernel
theorem dX11_joins_96 : decode cX11_joins 96 = .ok (.iload_n 3, 1) := by decide +kernel
theorem dX11_joins_97 : decode cX11_joins 97 = .ok (.iadd, 1) := by decide +kernel
theorem dX11_joins_98 : decode cX11_joins 98 = .ok (.iload 4, 2) := by decide +kernel
theorem dX11_joins_100 : decode cX11_joins 100 = .ok (.iastore, 1) := by decide +kernel
theorem dX11_joins_101 : decode cX11_joins 101 = .ok (.iinc 3 1, 3) := by decide +kernel
theorem dX11_joins_104 : decode cX11_joins 104 = .ok (.goto (-102), 3) := by decide +kernel
theorem dX11_joins_107 : decode cX11_joins 107 = .ok (.return_, 1) := by decide +kernel
theorem dX11_isAsked_0 : decode cX11_isAsked 0 = .ok (.iload_n 1, 1) := by decide +kernel
theorem dX11_isAsked_1 : decode cX11_isAsked 1 = .ok (.iconst 0, 1) := by decide +kernel
theorem dX11_isAsked_2 : decode cX11_isAsked 2 = .ok (.aload_n 0, 1) := by decide +kernel
theorem dX11_isAsked_3 : decode cX11_isAsked 3 = .ok (.getfield 263, 3) := by decide +kernel
theorem dX11_isAsked_6 : decode cX11_isAsked 6 = .ok (.iconst 1, 1) := by decide +kernel
theorem dX11_isAsked_7 : decode cX11_isAsked 7 = .ok (.isub, 1) := by decide +kernel
theorem dX11_isAsked_8 : decode cX11_isAsked 8 = .ok (.invokestatic 146, 3) := by decide +kernel
theorem dX11_isAsked_11 : decode cX11_isAsked 11 = .ok (.ifCond .eq 15, 3) := by decide +kernel
theorem dX11_isAsked_14 : decode cX11_isAsked 14 = .ok (.aload_n 0, 1) := by decide +kernel
theorem dX11_isAsked_15 : decode cX11_isAsked 15 = .ok (.iload_n 2, 1) := by decide +kernel
theorem dX11_isAsked_16 : decode cX11_isAsked 16 = .ok (.invokevirtual 163, 3) := by decide +kernel
theorem dX11_isAsked_19 : decode cX11_isAsked 19 = .ok (.ifCond .eq 7, 3) := by decide +kernel
theorem dX11_isAsked_22 : decode cX11_isAsked 22 = .ok (.iconst 1, 1) := by decide +kernel
theorem dX11_isAsked_23 : decode cX11_isAsked 23 = .ok (.goto 4, 3) := by decide +kernel
theorem dX11_isAsked_26 : decode cX11_isAsked 26 = .ok (.iconst 0, 1) := by decide +kernel
theorem dX11_isAsked_27 : decode cX11_isAsked 27 = .ok (.ireturn, 1) := by decide +kernel
theorem dX11_answer_0 : decode cX11_answer 0 = .ok (.aload_n 0, 1) := by decide +kernel
theorem dX11_answer_1 : decode cX11_answer 1 = .ok (.aload_n 0, 1) := by decide +kernel
theorem dX11_answer_2 : decode cX11_answer 2 = .ok (.iload_n 1, 1) := by decide +kernel
theorem dX11_answer_3 : decode cX11_answer 3 = .ok (.iload_n 2, 1) := by decide +kernel
theorem dX11_answer_4 : decode cX11_answer 4 = .ok (.invokevirtual 280, 3) := by decide +kernel
theorem dX11_answer_7 : decode cX11_answer 7 = .ok (.ifCond .eq 7, 3) := by decide +kernel
theorem dX11_answer_10 : decode cX11_answer 10 = .ok (.iconst 0, 1) := by decide +kernel
theorem dX11_answer_11 : decode cX11_answer 11 = .ok (.goto 4, 3) := by decide +kernel
theorem dX11_answer_14 : decode cX11_answer 14 = .ok (.iconst 1, 1) := by decide +kernel
theorem dX11_answer_15 : decode cX11_answer 15 = .ok (.invokevirtual 181, 3) := by decide +kernel
theorem dX11_answer_18 : decode cX11_answer 18 = .ok (.ifCond .eq 5, 3) := by decide +kernel
theorem dX11_answer_21 : decode cX11_answer 21 = .ok (.iconst 0, 1) := by decide +kernel
theorem dX11_answer_22 : decode cX11_answer 22 = .ok (.ireturn, 1) := by decide +kernel
theorem dX11_answer_23 : decode cX11_answer 23 = .ok (.aload_n 0, 1) := by decide +kernel
theorem dX11_answer_24 : decode cX11_answer 24 = .ok (.iload_n 1, 1) := by decide +kernel
theorem dX11_answer_25 : decode cX11_answer 25 = .ok (.iconst 0, 1) := by decide +kernel
theorem dX11_answer_26 : decode cX11_answer 26 = .ok (.invokevirtual 283, 3) := by decide +kernel
theorem dX11_answer_29 : decode cX11_answer 29 = .ok (.aload_n 0, 1) := by decide +kernel
theorem dX11_answer_30 : decode cX11_answer 30 = .ok (.getfield 135, 3) := by decide +kernel
theorem dX11_answer_33 : decode cX11_answer 33 = .ok (.iload_n 2, 1) := by decide +kernel
theorem dX11_answer_34 : decode cX11_answer 34 = .ok (.iaload, 1) := by decide +kernel
theorem dX11_answer_35 : decode cX11_answer 35 = .ok (.ireturn, 1) := by decide +kernel
theorem dX11_answerAnew_0 : decode cX11_answerAnew 0 = .ok (.aload_n 0, 1) := by decide +kernel
theorem dX11_answerAnew_1 : decode cX11_answerAnew 1 = .ok (.aload_n 0, 1) := by decide +kernel
theorem dX11_answerAnew_2 : decode cX11_answerAnew 2 = .ok (.iload_n 1, 1) := by decide +kernel
theorem dX11_answerAnew_3 : decode cX11_answerAnew 3 = .ok (.iload_n 2, 1) := by decide +kernel
theorem dX11_answerAnew_4 : decode cX11_answerAnew 4 = .ok (.invokevirtual 280, 3) := by decide +kernel
theorem dX11_answerAnew_7 : decode cX11_answerAnew 7 = .ok (.ifCond .eq 7, 3) := by decide +kernel
theorem dX11_answerAnew_10 : decode cX11_answerAnew 10 = .ok (.iconst 0, 1) := by decide +kernel
theorem dX11_answerAnew_11 : decode cX11_answerAnew 11 = .ok (.goto 4, 3) := by decide +kernel
theorem dX11_answerAnew_14 : decode cX11_answerAnew 14 = .ok (.iconst 1, 1) := by decide +kernel
theorem dX11_answerAnew_15 : decode cX11_answerAnew 15 = .ok (.invokevirtual 181, 3) := by decide +kernel
theorem dX11_answerAnew_18 : decode cX11_answerAnew 18 = .ok (.ifCond .eq 5, 3) := by decide +kernel
theorem dX11_answerAnew_21 : decode cX11_answerAnew 21 = .ok (.iconst 0, 1) := by decide +kernel
theorem dX11_answerAnew_22 : decode cX11_answerAnew 22 = .ok (.ireturn, 1) := by decide +kernel
theorem dX11_answerAnew_23 : decode cX11_answerAnew 23 = .ok (.aload_n 0, 1) := by decide +kernel
theorem dX11_answerAnew_24 : decode cX11_answerAnew 24 = .ok (.iload_n 1, 1) := by decide +kernel
theorem dX11_answerAnew_25 : decode cX11_answerAnew 25 = .ok (.iconst 0, 1) := by decide +kernel
theorem dX11_answerAnew_26 : decode cX11_answerAnew 26 = .ok (.invokevirtual 283, 3) := by decide +kernel
theorem dX11_answerAnew_29 : decode cX11_answerAnew 29 = .ok (.aload_n 0, 1) := by decide +kernel
theorem dX11_answerAnew_30 : decode cX11_answerAnew 30 = .ok (.getfield 135, 3) := by decide +kernel
theorem dX11_answerAnew_33 : decode cX11_answerAnew 33 = .ok (.iload_n 2, 1) := by decide +kernel
theorem dX11_answerAnew_34 : decode cX11_answerAnew 34 = .ok (.iaload, 1) := by decide +kernel
theorem dX11_answerAnew_35 : decode cX11_answerAnew 35 = .ok (.ireturn, 1) := by decide +kernel
theorem dX11_pairs_0 : decode cX11_pairs 0 = .ok (.aload_n 0, 1) := by decide +kernel
theorem dX11_pairs_1 : decode cX11_pairs 1 = .ok (.iload_n 1, 1) := by decide +kernel
theorem dX11_pairs_2 : decode cX11_pairs 2 = .ok (.iconst 0, 1) := by decide +kernel
theorem dX11_pairs_3 : decode cX11_pairs 3 = .ok (.aload_n 0, 1) := by decide +kernel
theorem dX11_pairs_4 : decode cX11_pairs 4 = .ok (.getfield 263, 3) := by decide +kernel
theorem dX11_pairs_7 : decode cX11_pairs 7 = .ok (.iconst 1, 1) := by decide +kernel
theorem dX11_pairs_8 : decode cX11_pairs 8 = .ok (.isub, 1) := by decide +kernel
theorem dX11_pairs_9 : decode cX11_pairs 9 = .ok (.invokestatic 146, 3) := by decide +kernel
theorem dX11_pairs_12 : decode cX11_pairs 12 = .ok (.ifCond .eq 7, 3) := by decide +kernel
theorem dX11_pairs_15 : decode cX11_pairs 15 = .ok (.iconst 0, 1) := by decide +kernel
theorem dX11_pairs_16 : decode cX11_pairs 16 = .ok (.goto 4, 3) := by decide +kernel
theorem dX11_pairs_19 : decode cX11_pairs 19 = .ok (.iconst 1, 1) := by decide +kernel
theorem dX11_pairs_20 : decode cX11_pairs 20 = .ok (.invokevirtual 181, 3) := by decide +kernel
theorem dX11_pairs_23 : decode cX11_pairs 23 = .ok (.ifCond .eq 5, 3) := by decide +kernel
theorem dX11_pairs_26 : decode cX11_pairs 26 = .ok (.iconst 0, 1) := by decide +kernel
theorem dX11_pairs_27 : decode cX11_pairs 27 = .ok (.ireturn, 1) := by decide +kernel
theorem dX11_pairs_28 : decode cX11_pairs 28 = .ok (.aload_n 0, 1) := by decide +kernel
theorem dX11_pairs_29 : decode cX11_pairs 29 = .ok (.iload_n 1, 1) := by decide +kernel
theorem dX11_pairs_30 : decode cX11_pairs 30 = .ok (.iconst 0, 1) := by decide +kernel
theorem dX11_pairs_31 : decode cX11_pairs 31 = .ok (.invokevirtual 283, 3) := by decide +kernel
theorem dX11_pairs_34 : decode cX11_pairs 34 = .ok (.iconst 0, 1) := by decide +kernel
theorem dX11_pairs_35 : decode cX11_pairs 35 = .ok (.istore_n 2, 1) := by decide +kernel
theorem dX11_pairs_36 : decode cX11_pairs 36 = .ok (.iconst 0, 1) := by decide +kernel
theorem dX11_pairs_37 : decode cX11_pairs 37 = .ok (.istore_n 3, 1) := by decide +kernel
theorem dX11_pairs_38 : decode cX11_pairs 38 = .ok (.iload_n 3, 1) := by decide +kernel
theorem dX11_pairs_39 : decode cX11_pairs 39 = .ok (.bipush 24, 2) := by decide +kernel
theorem dX11_pairs_41 : decode cX11_pairs 41 = .ok (.if_icmp .ge 21, 3) := by decide +kernel
theorem dX11_pairs_44 : decode cX11_pairs 44 = .ok (.iload_n 2, 1) := by decide +kernel
theorem dX11_pairs_45 : decode cX11_pairs 45 = .ok (.aload_n 0, 1) := by decide +kernel
theorem dX11_pairs_46 : decode cX11_pairs 46 = .ok (.getfield 135, 3) := by decide +kernel
theorem dX11_pairs_49 : decode cX11_pairs 49 = .ok (.iload_n 3, 1) := by decide +kernel
theorem dX11_pairs_50 : decode cX11_pairs 50 = .ok (.iaload, 1) := by decide +kernel
theorem dX11_pairs_51 : decode cX11_pairs 51 = .ok (.invokestatic 214, 3) := by decide +kernel
theorem dX11_pairs_54 : decode cX11_pairs 54 = .ok (.iadd, 1) := by decide +kernel
theorem dX11_pairs_55 : decode cX11_pairs 55 = .ok (.istore_n 2, 1) := by decide +kernel
theorem dX11_pairs_56 : decode cX11_pairs 56 = .ok (.iinc 3 1, 3) := by decide +kernel
theorem dX11_pairs_59 : decode cX11_pairs 59 = .ok (.goto (-21), 3) := by decide +kernel
theorem dX11_pairs_62 : decode cX11_pairs 62 = .ok (.iload_n 2, 1) := by decide +kernel
theorem dX11_pairs_63 : decode cX11_pairs 63 = .ok (.ireturn, 1) := by decide +kernel
theorem dX11_isWhole_0 : decode cX11_isWhole 0 = .ok (.aload_n 0, 1) := by decide +kernel
theorem dX11_isWhole_1 : decode cX11_isWhole 1 = .ok (.aload_n 0, 1) := by decide +kernel
theorem dX11_isWhole_2 : decode cX11_isWhole 2 = .ok (.iload_n 1, 1) := by decide +kernel
theorem dX11_isWhole_3 : decode cX11_isWhole 3 = .ok (.iload_n 2, 1) := by decide +kernel
theorem dX11_isWhole_4 : decode cX11_isWhole 4 = .ok (.invokevirtual 280, 3) := by decide +kernel
theorem dX11_isWhole_7 : decode cX11_isWhole 7 = .ok (.ifCond .eq 7, 3) := by decide +kernel
theorem dX11_isWhole_10 : decode cX11_isWhole 10 = .ok (.iconst 0, 1) := by decide +kernel
theorem dX11_isWhole_11 : decode cX11_isWhole 11 = .ok (.goto 4, 3) := by decide +kernel
theorem dX11_isWhole_14 : decode cX11_isWhole 14 = .ok (.iconst 1, 1) := by decide +kernel
theorem dX11_isWhole_15 : decode cX11_isWhole 15 = .ok (.invokevirtual 181, 3) := by decide +kernel
theorem dX11_isWhole_18 : decode cX11_isWhole 18 = .ok (.ifCond .eq 5, 3) := by decide +kernel
theorem dX11_isWhole_21 : decode cX11_isWhole 21 = .ok (.iconst 0, 1) := by decide +kernel
theorem dX11_isWhole_22 : decode cX11_isWhole 22 = .ok (.ireturn, 1) := by decide +kernel
theorem dX11_isWhole_23 : decode cX11_isWhole 23 = .ok (.aload_n 0, 1) := by decide +kernel
theorem dX11_isWhole_24 : decode cX11_isWhole 24 = .ok (.iload_n 1, 1) := by decide +kernel
theorem dX11_isWhole_25 : decode cX11_isWhole 25 = .ok (.iconst 0, 1) := by decide +kernel
theorem dX11_isWhole_26 : decode cX11_isWhole 26 = .ok (.invokevirtual 283, 3) := by decide +kernel
theorem dX11_isWhole_29 : decode cX11_isWhole 29 = .ok (.aload_n 0, 1) := by decide +kernel
theorem dX11_isWhole_30 : decode cX11_isWhole 30 = .ok (.getfield 135, 3) := by decide +kernel
theorem dX11_isWhole_33 : decode cX11_isWhole 33 = .ok (.iload_n 2, 1) := by decide +kernel
theorem dX11_isWhole_34 : decode cX11_isWhole 34 = .ok (.iaload, 1) := by decide +kernel
theorem dX11_isWhole_35 : decode cX11_isWhole 35 = .ok (.istore_n 3, 1) := by decide +kernel
theorem dX11_isWhole_36 : decode cX11_isWhole 36 = .ok (.aload_n 0, 1) := by decide +kernel
theorem dX11_isWhole_37 : decode cX11_isWhole 37 = .ok (.iload_n 1, 1) := by decide +kernel
theorem dX11_isWhole_38 : decode cX11_isWhole 38 = .ok (.iconst 1, 1) := by decide +kernel
theorem dX11_isWhole_39 : decode cX11_isWhole 39 = .ok (.invokevirtual 283, 3) := by decide +kernel
theorem dX11_isWhole_42 : decode cX11_isWhole 42 = .ok (.iload_n 3, 1) := by decide +kernel
theorem dX11_isWhole_43 : decode cX11_isWhole 43 = .ok (.aload_n 0, 1) := by decide +kernel
theorem dX11_isWhole_44 : decode cX11_isWhole 44 = .ok (.getfield 135, 3) := by decide +kernel
theorem dX11_isWhole_47 : decode cX11_isWhole 47 = .ok (.iload_n 2, 1) := by decide +kernel
theorem dX11_isWhole_48 : decode cX11_isWhole 48 = .ok (.iaload, 1) := by decide +kernel
theorem dX11_isWhole_49 : decode cX11_isWhole 49 = .ok (.if_icmp .ne 7, 3) := by decide +kernel
theorem dX11_isWhole_52 : decode cX11_isWhole 52 = .ok (.iconst 1, 1) := by decide +kernel
theorem dX11_isWhole_53 : decode cX11_isWhole 53 = .ok (.goto 4, 3) := by decide +kernel
theorem dX11_isWhole_56 : decode cX11_isWhole 56 = .ok (.iconst 0, 1) := by decide +kernel
theorem dX11_isWhole_57 : decode cX11_isWhole 57 = .ok (.ireturn, 1) := by decide +kernel
theorem dX11_comes_0 : decode cX11_comes 0 = .ok (.aload_n 0, 1) := by decide +kernel
theorem dX11_comes_1 : decode cX11_comes 1 = .ok (.iconst 0, 1) := by decide +kernel
theorem dX11_comes_2 : decode cX11_comes 2 = .ok (.invokevirtual 266, 3) := by decide +kernel
theorem dX11_comes_5 : decode cX11_comes 5 = .ok (.istore_n 3, 1) := by decide +kernel
theorem dX11_comes_6 : decode cX11_comes 6 = .ok (.iload_n 3, 1) := by decide +kernel
theorem dX11_comes_7 : decode cX11_comes 7 = .ok (.iload_n 1, 1) := by decide +kernel
theorem dX11_comes_8 : decode cX11_comes 8 = .ok (.invokestatic 142, 3) := by decide +kernel
theorem dX11_comes_11 : decode cX11_comes 11 = .ok (.ifCond .eq 9, 3) := by decide +kernel
theorem dX11_comes_14 : decode cX11_comes 14 = .ok (.iconst 1, 1) := by decide +kernel
theorem dX11_comes_15 : decode cX11_comes 15 = .ok (.iload_n 1, 1) := by decide +kernel
theorem dX11_comes_16 : decode cX11_comes 16 = .ok (.ishl, 1) := by decide +kernel
theorem dX11_comes_17 : decode cX11_comes 17 = .ok (.goto 4, 3) := by decide +kernel
theorem dX11_comes_20 : decode cX11_comes 20 = .ok (.iconst 0, 1) := by decide +kernel
theorem dX11_comes_21 : decode cX11_comes 21 = .ok (.istore 4, 2) := by decide +kernel
theorem dX11_comes_23 : decode cX11_comes 23 = .ok (.iconst 0, 1) := by decide +kernel
theorem dX11_comes_24 : decode cX11_comes 24 = .ok (.istore 5, 2) := by decide +kernel
theorem dX11_comes_26 : decode cX11_comes 26 = .ok (.iload 5, 2) := by decide +kernel
theorem dX11_comes_28 : decode cX11_comes 28 = .ok (.iload_n 2, 1) := by decide +kernel
theorem dX11_comes_29 : decode cX11_comes 29 = .ok (.if_icmp .ge 91, 3) := by decide +kernel
theorem dX11_comes_32 : decode cX11_comes 32 = .ok (.iload 4, 2) := by decide +kernel
theorem dX11_comes_34 : decode cX11_comes 34 = .ok (.istore 6, 2) := by decide +kernel
theorem dX11_comes_36 : decode cX11_comes 36 = .ok (.iconst 0, 1) := by decide +kernel
theorem dX11_comes_37 : decode cX11_comes 37 = .ok (.istore 7, 2) := by decide +kernel
theorem dX11_comes_39 : decode cX11_comes 39 = .ok (.iload 7, 2) := by decide +kernel
theorem dX11_comes_41 : decode cX11_comes 41 = .ok (.aload_n 0, 1) := by decide +kernel
theorem dX11_comes_42 : decode cX11_comes 42 = .ok (.getfield 154, 3) := by decide +kernel
theorem dX11_comes_45 : decode cX11_comes 45 = .ok (.if_icmp .ge 65, 3) := by decide +kernel
theorem dX11_comes_48 : decode cX11_comes 48 = .ok (.iload 6, 2) := by decide +kernel
theorem dX11_comes_50 : decode cX11_comes 50 = .ok (.aload_n 0, 1) := by decide +kernel
theorem dX11_comes_51 : decode cX11_comes 51 = .ok (.iload 7, 2) := by decide +kernel
theorem dX11_comes_53 : decode cX11_comes 53 = .ok (.invokevirtual 195, 3) := by decide +kernel
theorem dX11_comes_56 : decode cX11_comes 56 = .ok (.ifCond .eq 44, 3) := by decide +kernel
theorem dX11_comes_59 : decode cX11_comes 59 = .ok (.iload 4, 2) := by decide +kernel
theorem dX11_comes_61 : decode cX11_comes 61 = .ok (.aload_n 0, 1) := by decide +kernel
theorem dX11_comes_62 : decode cX11_comes 62 = .ok (.getfield 48, 3) := by decide +kernel
theorem dX11_comes_65 : decode cX11_comes 65 = .ok (.iload 7, 2) := by decide +kernel
theorem dX11_comes_67 : decode cX11_comes 67 = .ok (.iaload, 1) := by decide +kernel
theorem dX11_comes_68 : decode cX11_comes 68 = .ok (.invokestatic 142, 3) := by decide +kernel
theorem dX11_comes_71 : decode cX11_comes 71 = .ok (.ifCond .eq 29, 3) := by decide +kernel
theorem dX11_comes_74 : decode cX11_comes 74 = .ok (.iload_n 3, 1) := by decide +kernel
theorem dX11_comes_75 : decode cX11_comes 75 = .ok (.aload_n 0, 1) := by decide +kernel
theorem dX11_comes_76 : decode cX11_comes 76 = .ok (.getfield 51, 3) := by decide +kernel
theorem dX11_comes_79 : decode cX11_comes 79 = .ok (.iload 7, 2) := by decide +kernel
theorem dX11_comes_81 : decode cX11_comes 81 = .ok (.iaload, 1) := by decide +kernel
theorem dX11_comes_82 : decode cX11_comes 82 = .ok (.invokestatic 142, 3) := by decide +kernel
theorem dX11_comes_85 : decode cX11_comes 85 = .ok (.ifCond .eq 15, 3) := by decide +kernel
theorem dX11_comes_88 : decode cX11_comes 88 = .ok (.iconst 1, 1) := by decide +kernel
theorem dX11_comes_89 : decode cX11_comes 89 = .ok (.aload_n 0, 1) := by decide +kernel
theorem dX11_comes_90 : decode cX11_comes 90 = .ok (.getfield 51, 3) := by decide +kernel
theorem dX11_comes_93 : decode cX11_comes 93 = .ok (.iload 7, 2) := by decide +kernel
theorem dX11_comes_95 : decode cX11_comes 95 = .ok (.iaload, 1) := by decide +kernel
theorem dX11_comes_96 : decode cX11_comes 96 = .ok (.ishl, 1) := by decide +kernel
theorem dX11_comes_97 : decode cX11_comes 97 = .ok (.goto 4, 3) := by decide +kernel
theorem dX11_comes_100 : decode cX11_comes 100 = .ok (.iconst 0, 1) := by decide +kernel
theorem dX11_comes_101 : decode cX11_comes 101 = .ok (.ior, 1) := by decide +kernel
theorem dX11_comes_102 : decode cX11_comes 102 = .ok (.istore 6, 2) := by decide +kernel
theorem dX11_comes_104 : decode cX11_comes 104 = .ok (.iinc 7 1, 3) := by decide +kernel
theorem dX11_comes_107 : decode cX11_comes 107 = .ok (.goto (-68), 3) := by decide +kernel
theorem dX11_comes_110 : decode cX11_comes 110 = .ok (.iload 6, 2) := by decide +kernel
theorem dX11_comes_112 : decode cX11_comes 112 = .ok (.istore 4, 2) := by decide +kernel
theorem dX11_comes_114 : decode cX11_comes 114 = .ok (.iinc 5 1, 3) := by decide +kernel
theorem dX11_comes_117 : decode cX11_comes 117 = .ok (.goto (-91), 3) := by decide +kernel
theorem dX11_comes_120 : decode cX11_comes 120 = .ok (.iload 4, 2) := by decide +kernel
theorem dX11_comes_122 : decode cX11_comes 122 = .ok (.ireturn, 1) := by decide +kernel
theorem dX11_walk_0 : decode cX11_walk 0 = .ok (.aload_n 0, 1) := by decide +kernel
theorem dX11_walk_1 : decode cX11_walk 1 = .ok (.aload_n 0, 1) := by decide +kernel
theorem dX11_walk_2 : decode cX11_walk 2 = .ok (.iload_n 1, 1) := by decide +kernel
theorem dX11_walk_3 : decode cX11_walk 3 = .ok (.invokevirtual 163, 3) := by decide +kernel
theorem dX11_walk_6 : decode cX11_walk 6 = .ok (.ifCond .ne 7, 3) := by decide +kernel
theorem dX11_walk_9 : decode cX11_walk 9 = .ok (.iconst 1, 1) := by decide +kernel
theorem dX11_walk_10 : decode cX11_walk 10 = .ok (.goto 18, 3) := by decide +kernel
theorem dX11_walk_13 : decode cX11_walk 13 = .ok (.iload_n 2, 1) := by decide +kernel
theorem dX11_walk_14 : decode cX11_walk 14 = .ok (.iconst 0, 1) := by decide +kernel
theorem dX11_walk_15 : decode cX11_walk 15 = .ok (.bipush 30, 2) := by decide +kernel
theorem dX11_walk_17 : decode cX11_walk 17 = .ok (.invokestatic 146, 3) := by decide +kernel
theorem dX11_walk_20 : decode cX11_walk 20 = .ok (.ifCond .eq 7, 3) := by decide +kernel
theorem dX11_walk_23 : decode cX11_walk 23 = .ok (.iconst 0, 1) := by decide +kernel
theorem dX11_walk_24 : decode cX11_walk 24 = .ok (.goto 4, 3) := by decide +kernel
theorem dX11_walk_27 : decode cX11_walk 27 = .ok (.iconst 2, 1) := by decide +kernel
theorem dX11_walk_28 : decode cX11_walk 28 = .ok (.invokevirtual 181, 3) := by decide +kernel
theorem dX11_walk_31 : decode cX11_walk 31 = .ok (.ifCond .eq 7, 3) := by decide +kernel
theorem dX11_walk_34 : decode cX11_walk 34 = .ok (.iconst 0, 1) := by decide +kernel
theorem dX11_walk_35 : decode cX11_walk 35 = .ok (.goto 9, 3) := by decide +kernel
theorem dX11_walk_38 : decode cX11_walk 38 = .ok (.aload_n 0, 1) := by decide +kernel
theorem dX11_walk_39 : decode cX11_walk 39 = .ok (.iload_n 1, 1) := by decide +kernel
theorem dX11_walk_40 : decode cX11_walk 40 = .ok (.iload_n 2, 1) := by decide +kernel
theorem dX11_walk_41 : decode cX11_walk 41 = .ok (.invokevirtual 287, 3) := by decide +kernel
theorem dX11_walk_44 : decode cX11_walk 44 = .ok (.ireturn, 1) := by decide +kernel
theorem dX11_crossings_0 : decode cX11_crossings 0 = .ok (.aload_n 0, 1) := by decide +kernel
theorem dX11_crossings_1 : decode cX11_crossings 1 = .ok (.aload_n 0, 1) := by decide +kernel
theorem dX11_crossings_2 : decode cX11_crossings 2 = .ok (.iload_n 1, 1) := by decide +kernel
theorem dX11_crossings_3 : decode cX11_crossings 3 = .ok (.invokevirtual 163, 3) := by decide +kernel
theorem dX11_crossings_6 : decode cX11_crossings 6 = .ok (.ifCond .ne 7, 3) := by decide +kernel
theorem dX11_crossings_9 : decode cX11_crossings 9 = .ok (.iconst 1, 1) := by decide +kernel
theorem dX11_crossings_10 : decode cX11_crossings 10 = .ok (.goto 18, 3) := by decide +kernel
theorem dX11_crossings_13 : decode cX11_crossings 13 = .ok (.iload_n 2, 1) := by decide +kernel
theorem dX11_crossings_14 : decode cX11_crossings 14 = .ok (.iconst 0, 1) := by decide +kernel
theorem dX11_crossings_15 : decode cX11_crossings 15 = .ok (.bipush 30, 2) := by decide +kernel
theorem dX11_crossings_17 : decode cX11_crossings 17 = .ok (.invokestatic 146, 3) := by decide +kernel
theorem dX11_crossings_20 : decode cX11_crossings 20 = .ok (.ifCond .eq 7, 3) := by decide +kernel
theorem dX11_crossings_23 : decode cX11_crossings 23 = .ok (.iconst 0, 1) := by decide +kernel
theorem dX11_crossings_24 : decode cX11_crossings 24 = .ok (.goto 4, 3) := by decide +kernel
theorem dX11_crossings_27 : decode cX11_crossings 27 = .ok (.iconst 2, 1) := by decide +kernel
theorem dX11_crossings_28 : decode cX11_crossings 28 = .ok (.invokevirtual 181, 3) := by decide +kernel
theorem dX11_crossings_31 : decode cX11_crossings 31 = .ok (.ifCond .eq 5, 3) := by decide +kernel
theorem dX11_crossings_34 : decode cX11_crossings 34 = .ok (.iconst 0, 1) := by decide +kernel
theorem dX11_crossings_35 : decode cX11_crossings 35 = .ok (.ireturn, 1) := by decide +kernel
theorem dX11_crossings_36 : decode cX11_crossings 36 = .ok (.iload_n 2, 1) := by decide +kernel
theorem dX11_crossings_37 : decode cX11_crossings 37 = .ok (.ifCond .ne 7, 3) := by decide +kernel
theorem dX11_crossings_40 : decode cX11_crossings 40 = .ok (.iconst 0, 1) := by decide +kernel
theorem dX11_crossings_41 : decode cX11_crossings 41 = .ok (.goto 11, 3) := by decide +kernel
theorem dX11_crossings_44 : decode cX11_crossings 44 = .ok (.aload_n 0, 1) := by decide +kernel
theorem dX11_crossings_45 : decode cX11_crossings 45 = .ok (.iload_n 1, 1) := by decide +kernel
theorem dX11_crossings_46 : decode cX11_crossings 46 = .ok (.iload_n 2, 1) := by decide +kernel
theorem dX11_crossings_47 : decode cX11_crossings 47 = .ok (.iconst 1, 1) := by decide +kernel
theorem dX11_crossings_48 : decode cX11_crossings 48 = .ok (.isub, 1) := by decide +kernel
theorem dX11_crossings_49 : decode cX11_crossings 49 = .ok (.invokevirtual 287, 3) := by decide +kernel
theorem dX11_crossings_52 : decode cX11_crossings 52 = .ok (.istore_n 3, 1) := by decide +kernel
theorem dX11_crossings_53 : decode cX11_crossings 53 = .ok (.iconst 0, 1) := by decide +kernel
theorem dX11_crossings_54 : decode cX11_crossings 54 = .ok (.istore 4, 2) := by decide +kernel
theorem dX11_crossings_56 : decode cX11_crossings 56 = .ok (.iconst 0, 1) := by decide +kernel
theorem dX11_crossings_57 : decode cX11_crossings 57 = .ok (.istore 5, 2) := by decide +kernel
theorem dX11_crossings_59 : decode cX11_crossings 59 = .ok (.iload 5, 2) := by decide +kernel
theorem dX11_crossings_61 : decode cX11_crossings 61 = .ok (.aload_n 0, 1) := by decide +kernel
theorem dX11_crossings_62 : decode cX11_crossings 62 = .ok (.getfield 154, 3) := by decide +kernel
theorem dX11_crossings_65 : decode cX11_crossings 65 = .ok (.if_icmp .ge 69, 3) := by decide +kernel
theorem dX11_crossings_68 : decode cX11_crossings 68 = .ok (.iload 4, 2) := by decide +kernel
theorem dX11_crossings_70 : decode cX11_crossings 70 = .ok (.aload_n 0, 1) := by decide +kernel
theorem dX11_crossings_71 : decode cX11_crossings 71 = .ok (.iload 5, 2) := by decide +kernel
theorem dX11_crossings_73 : decode cX11_crossings 73 = .ok (.invokevirtual 195, 3) := by decide +kernel
theorem dX11_crossings_76 : decode cX11_crossings 76 = .ok (.ifCond .eq 48, 3) := by decide +kernel
theorem dX11_crossings_79 : decode cX11_crossings 79 = .ok (.iload_n 3, 1) := by decide +kernel
theorem dX11_crossings_80 : decode cX11_crossings 80 = .ok (.aload_n 0, 1) := by decide +kernel
theorem dX11_crossings_81 : decode cX11_crossings 81 = .ok (.getfield 48, 3) := by decide +kernel
theorem dX11_crossings_84 : decode cX11_crossings 84 = .ok (.iload 5, 2) := by decide +kernel
theorem dX11_crossings_86 : decode cX11_crossings 86 = .ok (.iaload, 1) := by decide +kernel
theorem dX11_crossings_87 : decode cX11_crossings 87 = .ok (.invokestatic 142, 3) := by decide +kernel
theorem dX11_crossings_90 : decode cX11_crossings 90 = .ok (.ifCond .eq 34, 3) := by decide +kernel
theorem dX11_crossings_93 : decode cX11_crossings 93 = .ok (.aload_n 0, 1) := by decide +kernel
theorem dX11_crossings_94 : decode cX11_crossings 94 = .ok (.getfield 16, 3) := by decide +kernel
theorem dX11_crossings_97 : decode cX11_crossings 97 = .ok (.aload_n 0, 1) := by decide +kernel
theorem dX11_crossings_98 : decode cX11_crossings 98 = .ok (.getfield 48, 3) := by decide +kernel
theorem dX11_crossings_101 : decode cX11_crossings 101 = .ok (.iload 5, 2) := by decide +kernel
theorem dX11_crossings_103 : decode cX11_crossings 103 = .ok (.iaload, 1) := by decide +kernel
theorem dX11_crossings_104 : decode cX11_crossings 104 = .ok (.iaload, 1) := by decide +kernel
theorem dX11_crossings_105 : decode cX11_crossings 105 = .ok (.aload_n 0, 1) := by decide +kernel
theorem dX11_crossings_106 : decode cX11_crossings 106 = .ok (.getfield 16, 3) := by decide +kernel
theorem dX11_crossings_109 : decode cX11_crossings 109 = .ok (.aload_n 0, 1) := by decide +kernel
theorem dX11_crossings_110 : decode cX11_crossings 110 = .ok (.getfield 51, 3) := by decide +kernel
theorem dX11_crossings_113 : decode cX11_crossings 113 = .ok (.iload 5, 2) := by decide +kernel
theorem dX11_crossings_115 : decode cX11_crossings 115 = .ok (.iaload, 1) := by decide +kernel
theorem dX11_crossings_116 : decode cX11_crossings 116 = .ok (.iaload, 1) := by decide +kernel
theorem dX11_crossings_117 : decode cX11_crossings 117 = .ok (.if_icmp .eq 7, 3) := by decide +kernel
theorem dX11_crossings_120 : decode cX11_crossings 120 = .ok (.iconst 1, 1) := by decide +kernel
theorem dX11_crossings_121 : decode cX11_crossings 121 = .ok (.goto 4, 3) := by decide +kernel
theorem dX11_crossings_124 : decode cX11_crossings 124 = .ok (.iconst 0, 1) := by decide +kernel
theorem dX11_crossings_125 : decode cX11_crossings 125 = .ok (.iadd, 1) := by decide +kernel
theorem dX11_crossings_126 : decode cX11_crossings 126 = .ok (.istore 4, 2) := by decide +kernel
theorem dX11_crossings_128 : decode cX11_crossings 128 = .ok (.iinc 5 1, 3) := by decide +kernel
theorem dX11_crossings_131 : decode cX11_crossings 131 = .ok (.goto (-72), 3) := by decide +kernel
theorem dX11_crossings_134 : decode cX11_crossings 134 = .ok (.iload 4, 2) := by decide +kernel
theorem dX11_crossings_136 : decode cX11_crossings 136 = .ok (.ireturn, 1) := by decide +kernel
theorem dX11_rounds_0 : decode cX11_rounds 0 = .ok (.iconst 0, 1) := by decide +kernel
theorem dX11_rounds_1 : decode cX11_rounds 1 = .ok (.istore_n 1, 1) := by decide +kernel
theorem dX11_rounds_2 : decode cX11_rounds 2 = .ok (.iload_n 1, 1) := by decide +kernel
theorem dX11_rounds_3 : decode cX11_rounds 3 = .ok (.aload_n 0, 1) := by decide +kernel
theorem dX11_rounds_4 : decode cX11_rounds 4 = .ok (.getfield 150, 3) := by decide +kernel
theorem dX11_rounds_7 : decode cX11_rounds 7 = .ok (.if_icmp .ge 16, 3) := by decide +kernel
theorem dX11_rounds_10 : decode cX11_rounds 10 = .ok (.aload_n 0, 1) := by decide +kernel
theorem dX11_rounds_11 : decode cX11_rounds 11 = .ok (.getfield 35, 3) := by decide +kernel
theorem dX11_rounds_14 : decode cX11_rounds 14 = .ok (.iload_n 1, 1) := by decide +kernel
theorem dX11_rounds_15 : decode cX11_rounds 15 = .ok (.iconst 0, 1) := by decide +kernel
theorem dX11_rounds_16 : decode cX11_rounds 16 = .ok (.bastore, 1) := by decide +kernel
theorem dX11_rounds_17 : decode cX11_rounds 17 = .ok (.iinc 1 1, 3) := by decide +kernel
theorem dX11_rounds_20 : decode cX11_rounds 20 = .ok (.goto (-18), 3) := by decide +kernel
theorem dX11_rounds_23 : decode cX11_rounds 23 = .ok (.iconst 0, 1) := by decide +kernel
theorem dX11_rounds_24 : decode cX11_rounds 24 = .ok (.istore_n 1, 1) := by decide +kernel
theorem dX11_rounds_25 : decode cX11_rounds 25 = .ok (.iload_n 1, 1) := by decide +kernel
theorem dX11_rounds_26 : decode cX11_rounds 26 = .ok (.aload_n 0, 1) := by decide +kernel
theorem dX11_rounds_27 : decode cX11_rounds 27 = .ok (.getfield 150, 3) := by decide +kernel
theorem dX11_rounds_30 : decode cX11_rounds 30 = .ok (.if_icmp .ge 21, 3) := by decide +kernel
theorem dX11_rounds_33 : decode cX11_rounds 33 = .ok (.aload_n 0, 1) := by decide +kernel
theorem dX11_rounds_34 : decode cX11_rounds 34 = .ok (.getfield 135, 3) := by decide +kernel
theorem dX11_rounds_37 : decode cX11_rounds 37 = .ok (.iload_n 1, 1) := by decide +kernel
theorem dX11_rounds_38 : decode cX11_rounds 38 = .ok (.aload_n 0, 1) := by decide +kernel
theorem dX11_rounds_39 : decode cX11_rounds 39 = .ok (.getfield 28, 3) := by decide +kernel
theorem dX11_rounds_42 : decode cX11_rounds 42 = .ok (.iload_n 1, 1) := by decide +kernel
theorem dX11_rounds_43 : decode cX11_rounds 43 = .ok (.iaload, 1) := by decide +kernel
theorem dX11_rounds_44 : decode cX11_rounds 44 = .ok (.iastore, 1) := by decide +kernel
theorem dX11_rounds_45 : decode cX11_rounds 45 = .ok (.iinc 1 1, 3) := by decide +kernel
theorem dX11_rounds_48 : decode cX11_rounds 48 = .ok (.goto (-23), 3) := by decide +kernel
theorem dX11_rounds_51 : decode cX11_rounds 51 = .ok (.iconst 0, 1) := by decide +kernel
theorem dX11_rounds_52 : decode cX11_rounds 52 = .ok (.istore_n 1, 1) := by decide +kernel
theorem dX11_rounds_53 : decode cX11_rounds 53 = .ok (.iload_n 1, 1) := by decide +kernel
theorem dX11_rounds_54 : decode cX11_rounds 54 = .ok (.aload_n 0, 1) := by decide +kernel
theorem dX11_rounds_55 : decode cX11_rounds 55 = .ok (.getfield 154, 3) := by decide +kernel
theorem dX11_rounds_58 : decode cX11_rounds 58 = .ok (.if_icmp .ge 49, 3) := by decide +kernel
theorem dX11_rounds_61 : decode cX11_rounds 61 = .ok (.aload_n 0, 1) := by decide +kernel
theorem dX11_rounds_62 : decode cX11_rounds 62 = .ok (.iload_n 1, 1) := by decide +kernel
theorem dX11_rounds_63 : decode cX11_rounds 63 = .ok (.invokevirtual 195, 3) := by decide +kernel
theorem dX11_rounds_66 : decode cX11_rounds 66 = .ok (.ifCond .eq 35, 3) := by decide +kernel
theorem dX11_rounds_69 : decode cX11_rounds 69 = .ok (.aload_n 0, 1) := by decide +kernel
theorem dX11_rounds_70 : decode cX11_rounds 70 = .ok (.aload_n 0, 1) := by decide +kernel
theorem dX11_rounds_71 : decode cX11_rounds 71 = .ok (.getfield 48, 3) := by decide +kernel
theorem dX11_rounds_74 : decode cX11_rounds 74 = .ok (.iload_n 1, 1) := by decide +kernel
theorem dX11_rounds_75 : decode cX11_rounds 75 = .ok (.iaload, 1) := by decide +kernel
theorem dX11_rounds_76 : decode cX11_rounds 76 = .ok (.aload_n 0, 1) := by decide +kernel
theorem dX11_rounds_77 : decode cX11_rounds 77 = .ok (.getfield 51, 3) := by decide +kernel
theorem dX11_rounds_80 : decode cX11_rounds 80 = .ok (.iload_n 1, 1) := by decide +kernel
theorem dX11_rounds_81 : decode cX11_rounds 81 = .ok (.iaload, 1) := by decide +kernel
theorem dX11_rounds_82 : decode cX11_rounds 82 = .ok (.invokevirtual 290, 3) := by decide +kernel
theorem dX11_rounds_85 : decode cX11_rounds 85 = .ok (.aload_n 0, 1) := by decide +kernel
theorem dX11_rounds_86 : decode cX11_rounds 86 = .ok (.aload_n 0, 1) := by decide +kernel
theorem dX11_rounds_87 : decode cX11_rounds 87 = .ok (.getfield 51, 3) := by decide +kernel
theorem dX11_rounds_90 : decode cX11_rounds 90 = .ok (.iload_n 1, 1) := by decide +kernel
theorem dX11_rounds_91 : decode cX11_rounds 91 = .ok (.iaload, 1) := by decide +kernel
theorem dX11_rounds_92 : decode cX11_rounds 92 = .ok (.aload_n 0, 1) := by decide +kernel
theorem dX11_rounds_93 : decode cX11_rounds 93 = .ok (.getfield 48, 3) := by decide +kernel
theorem dX11_rounds_96 : decode cX11_rounds 96 = .ok (.iload_n 1, 1) := by decide +kernel
theorem dX11_rounds_97 : decode cX11_rounds 97 = .ok (.iaload, 1) := by decide +kernel
theorem dX11_rounds_98 : decode cX11_rounds 98 = .ok (.invokevirtual 290, 3) := by decide +kernel
theorem dX11_rounds_101 : decode cX11_rounds 101 = .ok (.iinc 1 1, 3) := by decide +kernel
theorem dX11_rounds_104 : decode cX11_rounds 104 = .ok (.goto (-51), 3) := by decide +kernel
theorem dX11_rounds_107 : decode cX11_rounds 107 = .ok (.iconst 0, 1) := by decide +kernel
theorem dX11_rounds_108 : decode cX11_rounds 108 = .ok (.istore_n 1, 1) := by decide +kernel
theorem dX11_rounds_109 : decode cX11_rounds 109 = .ok (.iload_n 1, 1) := by decide +kernel
theorem dX11_rounds_110 : decode cX11_rounds 110 = .ok (.aload_n 0, 1) := by decide +kernel
theorem dX11_rounds_111 : decode cX11_rounds 111 = .ok (.getfield 150, 3) := by decide +kernel
theorem dX11_rounds_114 : decode cX11_rounds 114 = .ok (.if_icmp .ge 33, 3) := by decide +kernel
theorem dX11_rounds_117 : decode cX11_rounds 117 = .ok (.aload_n 0, 1) := by decide +kernel
theorem dX11_rounds_118 : decode cX11_rounds 118 = .ok (.getfield 31, 3) := by decide +kernel
theorem dX11_rounds_121 : decode cX11_rounds 121 = .ok (.iload_n 1, 1) := by decide +kernel
theorem dX11_rounds_122 : decode cX11_rounds 122 = .ok (.aload_n 0, 1) := by decide +kernel
theorem dX11_rounds_123 : decode cX11_rounds 123 = .ok (.getfield 35, 3) := by decide +kernel
theorem dX11_rounds_126 : decode cX11_rounds 126 = .ok (.iload_n 1, 1) := by decide +kernel
theorem dX11_rounds_127 : decode cX11_rounds 127 = .ok (.baload, 1) := by decide +kernel
theorem dX11_rounds_128 : decode cX11_rounds 128 = .ok (.bastore, 1) := by decide +kernel
theorem dX11_rounds_129 : decode cX11_rounds 129 = .ok (.aload_n 0, 1) := by decide +kernel
theorem dX11_rounds_130 : decode cX11_rounds 130 = .ok (.getfield 28, 3) := by decide +kernel
theorem dX11_rounds_133 : decode cX11_rounds 133 = .ok (.iload_n 1, 1) := by decide +kernel
theorem dX11_rounds_134 : decode cX11_rounds 134 = .ok (.aload_n 0, 1) := by decide +kernel
theorem dX11_rounds_135 : decode cX11_rounds 135 = .ok (.getfield 135, 3) := by decide +kernel
theorem dX11_rounds_138 : decode cX11_rounds 138 = .ok (.iload_n 1, 1) := by decide +kernel
theorem dX11_rounds_139 : decode cX11_rounds 139 = .ok (.iaload, 1) := by decide +kernel
theorem dX11_rounds_140 : decode cX11_rounds 140 = .ok (.iastore, 1) := by decide +kernel
theorem dX11_rounds_141 : decode cX11_rounds 141 = .ok (.iinc 1 1, 3) := by decide +kernel
theorem dX11_rounds_144 : decode cX11_rounds 144 = .ok (.goto (-35), 3) := by decide +kernel
theorem dX11_rounds_147 : decode cX11_rounds 147 = .ok (.return_, 1) := by decide +kernel
theorem dX11_gives_0 : decode cX11_gives 0 = .ok (.aload_n 0, 1) := by decide +kernel
theorem dX11_gives_1 : decode cX11_gives 1 = .ok (.getfield 31, 3) := by decide +kernel
theorem dX11_gives_4 : decode cX11_gives 4 = .ok (.iload_n 1, 1) := by decide +kernel
theorem dX11_gives_5 : decode cX11_gives 5 = .ok (.baload, 1) := by decide +kernel
theorem dX11_gives_6 : decode cX11_gives 6 = .ok (.ifCond .eq 37, 3) := by decide +kernel
theorem dX11_gives_9 : decode cX11_gives 9 = .ok (.aload_n 0, 1) := by decide +kernel
theorem dX11_gives_10 : decode cX11_gives 10 = .ok (.getfield 28, 3) := by decide +kernel
theorem dX11_gives_13 : decode cX11_gives 13 = .ok (.iload_n 1, 1) := by decide +kernel
theorem dX11_gives_14 : decode cX11_gives 14 = .ok (.iaload, 1) := by decide +kernel
theorem dX11_gives_15 : decode cX11_gives 15 = .ok (.aload_n 0, 1) := by decide +kernel
theorem dX11_gives_16 : decode cX11_gives 16 = .ok (.getfield 135, 3) := by decide +kernel
theorem dX11_gives_19 : decode cX11_gives 19 = .ok (.iload_n 2, 1) := by decide +kernel
theorem dX11_gives_20 : decode cX11_gives 20 = .ok (.iaload, 1) := by decide +kernel
theorem dX11_gives_21 : decode cX11_gives 21 = .ok (.if_icmp .ge 22, 3) := by decide +kernel
theorem dX11_gives_24 : decode cX11_gives 24 = .ok (.aload_n 0, 1) := by decide +kernel
theorem dX11_gives_25 : decode cX11_gives 25 = .ok (.getfield 135, 3) := by decide +kernel
theorem dX11_gives_28 : decode cX11_gives 28 = .ok (.iload_n 2, 1) := by decide +kernel
theorem dX11_gives_29 : decode cX11_gives 29 = .ok (.aload_n 0, 1) := by decide +kernel
theorem dX11_gives_30 : decode cX11_gives 30 = .ok (.getfield 28, 3) := by decide +kernel
theorem dX11_gives_33 : decode cX11_gives 33 = .ok (.iload_n 1, 1) := by decide +kernel
theorem dX11_gives_34 : decode cX11_gives 34 = .ok (.iaload, 1) := by decide +kernel
theorem dX11_gives_35 : decode cX11_gives 35 = .ok (.iastore, 1) := by decide +kernel
theorem dX11_gives_36 : decode cX11_gives 36 = .ok (.aload_n 0, 1) := by decide +kernel
theorem dX11_gives_37 : decode cX11_gives 37 = .ok (.getfield 35, 3) := by decide +kernel
theorem dX11_gives_40 : decode cX11_gives 40 = .ok (.iload_n 2, 1) := by decide +kernel
theorem dX11_gives_41 : decode cX11_gives 41 = .ok (.iconst 1, 1) := by decide +kernel
theorem dX11_gives_42 : decode cX11_gives 42 = .ok (.bastore, 1) := by decide +kernel
theorem dX11_gives_43 : decode cX11_gives 43 = .ok (.return_, 1) := by decide +kernel
theorem dX11_round_0 : decode cX11_round 0 = .ok (.aload_n 0, 1) := by decide +kernel
theorem dX11_round_1 : decode cX11_round 1 = .ok (.iload_n 1, 1) := by decide +kernel
theorem dX11_round_2 : decode cX11_round 2 = .ok (.iconst 1, 1) := by decide +kernel
theorem dX11_round_3 : decode cX11_round 3 = .ok (.bipush 30, 2) := by decide +kernel
theorem dX11_round_5 : decode cX11_round 5 = .ok (.invokestatic 146, 3) := by decide +kernel
theorem dX11_round_8 : decode cX11_round 8 = .ok (.ifCond .eq 7, 3) := by decide +kernel
theorem dX11_round_11 : decode cX11_round 11 = .ok (.iconst 0, 1) := by decide +kernel
theorem dX11_round_12 : decode cX11_round 12 = .ok (.goto 4, 3) := by decide +kernel
theorem dX11_round_15 : decode cX11_round 15 = .ok (.iconst 1, 1) := by decide +kernel
theorem dX11_round_16 : decode cX11_round 16 = .ok (.invokevirtual 181, 3) := by decide +kernel
theorem dX11_round_19 : decode cX11_round 19 = .ok (.ifCond .eq 5, 3) := by decide +kernel
theorem dX11_round_22 : decode cX11_round 22 = .ok (.iconst 0, 1) := by decide +kernel
theorem dX11_round_23 : decode cX11_round 23 = .ok (.ireturn, 1) := by decide +kernel
theorem dX11_round_24 : decode cX11_round 24 = .ok (.iconst 0, 1) := by decide +kernel
theorem dX11_round_25 : decode cX11_round 25 = .ok (.istore_n 2, 1) := by decide +kernel
theorem dX11_round_26 : decode cX11_round 26 = .ok (.iload_n 2, 1) := by decide +kernel
theorem dX11_round_27 : decode cX11_round 27 = .ok (.iload_n 1, 1) := by decide +kernel
theorem dX11_round_28 : decode cX11_round 28 = .ok (.if_icmp .ge 13, 3) := by decide +kernel
theorem dX11_round_31 : decode cX11_round 31 = .ok (.aload_n 0, 1) := by decide +kernel
theorem dX11_round_32 : decode cX11_round 32 = .ok (.invokevirtual 293, 3) := by decide +kernel
theorem dX11_round_35 : decode cX11_round 35 = .ok (.iinc 2 1, 3) := by decide +kernel
theorem dX11_round_38 : decode cX11_round 38 = .ok (.goto (-12), 3) := by decide +kernel
theorem dX11_round_41 : decode cX11_round 41 = .ok (.iconst 0, 1) := by decide +kernel
theorem dX11_round_42 : decode cX11_round 42 = .ok (.istore_n 2, 1) := by decide +kernel
theorem dX11_round_43 : decode cX11_round 43 = .ok (.iconst 0, 1) := by decide +kernel
theorem dX11_round_44 : decode cX11_round 44 = .ok (.istore_n 3, 1) := by decide +kernel
theorem dX11_round_45 : decode cX11_round 45 = .ok (.iload_n 3, 1) := by decide +kernel
theorem dX11_round_46 : decode cX11_round 46 = .ok (.aload_n 0, 1) := by decide +kernel
theorem dX11_round_47 : decode cX11_round 47 = .ok (.getfield 150, 3) := by decide +kernel
theorem dX11_round_50 : decode cX11_round 50 = .ok (.if_icmp .ge 26, 3) := by decide +kernel
theorem dX11_round_53 : decode cX11_round 53 = .ok (.iload_n 2, 1) := by decide +kernel
theorem dX11_round_54 : decode cX11_round 54 = .ok (.aload_n 0, 1) := by decide +kernel
theorem dX11_round_55 : decode cX11_round 55 = .ok (.getfield 31, 3) := by decide +kernel
theorem dX11_round_58 : decode cX11_round 58 = .ok (.iload_n 3, 1) := by decide +kernel
theorem dX11_round_59 : decode cX11_round 59 = .ok (.baload, 1) := by decide +kernel
theorem dX11_round_60 : decode cX11_round 60 = .ok (.ifCond .eq 7, 3) := by decide +kernel
theorem dX11_round_63 : decode cX11_round 63 = .ok (.iconst 1, 1) := by decide +kernel
theorem dX11_round_64 : decode cX11_round 64 = .ok (.goto 4, 3) := by decide +kernel
theorem dX11_round_67 : decode cX11_round 67 = .ok (.iconst 0, 1) := by decide +kernel
theorem dX11_round_68 : decode cX11_round 68 = .ok (.iadd, 1) := by decide +kernel
theorem dX11_round_69 : decode cX11_round 69 = .ok (.istore_n 2, 1) := by decide +kernel
theorem dX11_round_70 : decode cX11_round 70 = .ok (.iinc 3 1, 3) := by decide +kernel
theorem dX11_round_73 : decode cX11_round 73 = .ok (.goto (-28), 3) := by decide +kernel
theorem dX11_round_76 : decode cX11_round 76 = .ok (.iload_n 2, 1) := by decide +kernel
theorem dX11_round_77 : decode cX11_round 77 = .ok (.ireturn, 1) := by decide +kernel
theorem dX11_mark_0 : decode cX11_mark 0 = .ok (.aload_n 0, 1) := by decide +kernel
theorem dX11_mark_1 : decode cX11_mark 1 = .ok (.aload_n 0, 1) := by decide +kernel
theorem dX11_mark_2 : decode cX11_mark 2 = .ok (.iload_n 1, 1) := by decide +kernel
theorem dX11_mark_3 : decode cX11_mark 3 = .ok (.invokevirtual 163, 3) := by decide +kernel
theorem dX11_mark_6 : decode cX11_mark 6 = .ok (.ifCond .eq 7, 3) := by decide +kernel
theorem dX11_mark_9 : decode cX11_mark 9 = .ok (.iconst 0, 1) := by decide +kernel
theorem dX11_mark_10 : decode cX11_mark 10 = .ok (.goto 4, 3) := by decide +kernel
theorem dX11_mark_13 : decode cX11_mark 13 = .ok (.iconst 1, 1) := by decide +kernel
theorem dX11_mark_14 : decode cX11_mark 14 = .ok (.invokevirtual 181, 3) := by decide +kernel
theorem dX11_mark_17 : decode cX11_mark 17 = .ok (.ifCond .eq 7, 3) := by decide +kernel
theorem dX11_mark_20 : decode cX11_mark 20 = .ok (.iconst 0, 1) := by decide +kernel
theorem dX11_mark_21 : decode cX11_mark 21 = .ok (.goto 9, 3) := by decide +kernel
theorem dX11_mark_24 : decode cX11_mark 24 = .ok (.aload_n 0, 1) := by decide +kernel
theorem dX11_mark_25 : decode cX11_mark 25 = .ok (.getfield 28, 3) := by decide +kernel
theorem dX11_mark_28 : decode cX11_mark 28 = .ok (.iload_n 1, 1) := by decide +kernel
theorem dX11_mark_29 : decode cX11_mark 29 = .ok (.iaload, 1) := by decide +kernel
theorem dX11_mark_30 : decode cX11_mark 30 = .ok (.ireturn, 1) := by decide +kernel
theorem dX11_least_0 : decode cX11_least 0 = .ok (.aload_n 0, 1) := by decide +kernel
theorem dX11_least_1 : decode cX11_least 1 = .ok (.aload_n 0, 1) := by decide +kernel
theorem dX11_least_2 : decode cX11_least 2 = .ok (.iload_n 1, 1) := by decide +kernel
theorem dX11_least_3 : decode cX11_least 3 = .ok (.invokevirtual 163, 3) := by decide +kernel
theorem dX11_least_6 : decode cX11_least 6 = .ok (.ifCond .eq 7, 3) := by decide +kernel
theorem dX11_least_9 : decode cX11_least 9 = .ok (.iconst 0, 1) := by decide +kernel
theorem dX11_least_10 : decode cX11_least 10 = .ok (.goto 4, 3) := by decide +kernel
theorem dX11_least_13 : decode cX11_least 13 = .ok (.iconst 1, 1) := by decide +kernel
theorem dX11_least_14 : decode cX11_least 14 = .ok (.invokevirtual 181, 3) := by decide +kernel
theorem dX11_least_17 : decode cX11_least 17 = .ok (.ifCond .eq 5, 3) := by decide +kernel
theorem dX11_least_20 : decode cX11_least 20 = .ok (.iconst 0, 1) := by decide +kernel
theorem dX11_least_21 : decode cX11_least 21 = .ok (.ireturn, 1) := by decide +kernel
theorem dX11_least_22 : decode cX11_least 22 = .ok (.iconst 1, 1) := by decide +kernel
theorem dX11_least_23 : decode cX11_least 23 = .ok (.iload_n 1, 1) := by decide +kernel
theorem dX11_least_24 : decode cX11_least 24 = .ok (.ishl, 1) := by decide +kernel
theorem dX11_least_25 : decode cX11_least 25 = .ok (.istore_n 2, 1) := by decide +kernel
theorem dX11_least_26 : decode cX11_least 26 = .ok (.iconst 0, 1) := by decide +kernel
theorem dX11_least_27 : decode cX11_least 27 = .ok (.istore_n 3, 1) := by decide +kernel
theorem dX11_least_28 : decode cX11_least 28 = .ok (.iload_n 3, 1) := by decide +kernel
theorem dX11_least_29 : decode cX11_least 29 = .ok (.bipush 24, 2) := by decide +kernel
theorem dX11_least_31 : decode cX11_least 31 = .ok (.if_icmp .ge 102, 3) := by decide +kernel
theorem dX11_least_34 : decode cX11_least 34 = .ok (.iconst 0, 1) := by decide +kernel
theorem dX11_least_35 : decode cX11_least 35 = .ok (.istore 4, 2) := by decide +kernel
theorem dX11_least_37 : decode cX11_least 37 = .ok (.iload 4, 2) := by decide +kernel
theorem dX11_least_39 : decode cX11_least 39 = .ok (.aload_n 0, 1) := by decide +kernel
theorem dX11_least_40 : decode cX11_least 40 = .ok (.getfield 154, 3) := by decide +kernel
theorem dX11_least_43 : decode cX11_least 43 = .ok (.if_icmp .ge 84, 3) := by decide +kernel
theorem dX11_least_46 : decode cX11_least 46 = .ok (.aload_n 0, 1) := by decide +kernel
theorem dX11_least_47 : decode cX11_least 47 = .ok (.iload 4, 2) := by decide +kernel
theorem dX11_least_49 : decode cX11_least 49 = .ok (.invokevirtual 195, 3) := by decide +kernel
theorem dX11_least_52 : decode cX11_least 52 = .ok (.ifCond .eq 35, 3) := by decide +kernel
theorem dX11_least_55 : decode cX11_least 55 = .ok (.iload_n 2, 1) := by decide +kernel
theorem dX11_least_56 : decode cX11_least 56 = .ok (.aload_n 0, 1) := by decide +kernel
theorem dX11_least_57 : decode cX11_least 57 = .ok (.getfield 48, 3) := by decide +kernel
theorem dX11_least_60 : decode cX11_least 60 = .ok (.iload 4, 2) := by decide +kernel
theorem dX11_least_62 : decode cX11_least 62 = .ok (.iaload, 1) := by decide +kernel
theorem dX11_least_63 : decode cX11_least 63 = .ok (.invokestatic 142, 3) := by decide +kernel
theorem dX11_least_66 : decode cX11_least 66 = .ok (.ifCond .ne 17, 3) := by decide +kernel
theorem dX11_least_69 : decode cX11_least 69 = .ok (.iload_n 2, 1) := by decide +kernel
theorem dX11_least_70 : decode cX11_least 70 = .ok (.aload_n 0, 1) := by decide +kernel
theorem dX11_least_71 : decode cX11_least 71 = .ok (.getfield 51, 3) := by decide +kernel
theorem dX11_least_74 : decode cX11_least 74 = .ok (.iload 4, 2) := by decide +kernel
theorem dX11_least_76 : decode cX11_least 76 = .ok (.iaload, 1) := by decide +kernel
theorem dX11_least_77 : decode cX11_least 77 = .ok (.invokestatic 142, 3) := by decide +kernel
theorem dX11_least_80 : decode cX11_least 80 = .ok (.ifCond .eq 7, 3) := by decide +kernel
theorem dX11_least_83 : decode cX11_least 83 = .ok (.iconst 1, 1) := by decide +kernel
theorem dX11_least_84 : decode cX11_least 84 = .ok (.goto 4, 3) := by decide +kernel
theorem dX11_least_87 : decode cX11_least 87 = .ok (.iconst 0, 1) := by decide +kernel
theorem dX11_least_88 : decode cX11_least 88 = .ok (.istore 5, 2) := by decide +kernel
theorem dX11_least_90 : decode cX11_least 90 = .ok (.iload_n 2, 1) := by decide +kernel
theorem dX11_least_91 : decode cX11_least 91 = .ok (.iload 5, 2) := by decide +kernel
theorem dX11_least_93 : decode cX11_least 93 = .ok (.ifCond .eq 25, 3) := by decide +kernel
theorem dX11_least_96 : decode cX11_least 96 = .ok (.iconst 1, 1) := by decide +kernel
theorem dX11_least_97 : decode cX11_least 97 = .ok (.aload_n 0, 1) := by decide +kernel
theorem dX11_least_98 : decode cX11_least 98 = .ok (.getfield 48, 3) := by decide +kernel
theorem dX11_least_101 : decode cX11_least 101 = .ok (.iload 4, 2) := by decide +kernel
theorem dX11_least_103 : decode cX11_least 103 = .ok (.iaload, 1) := by decide +kernel
theorem dX11_least_104 : decode cX11_least 104 = .ok (.ishl, 1) := by decide +kernel
theorem dX11_least_105 : decode cX11_least 105 = .ok (.iconst 1, 1) := by decide +kernel
theorem dX11_least_106 : decode cX11_least 106 = .ok (.aload_n 0, 1) := by decide +kernel
theorem dX11_least_107 : decode cX11_least 107 = .ok (.getfield 51, 3) := by decide +kernel
theorem dX11_least_110 : decode cX11_least 110 = .ok (.iload 4, 2) := by decide +kernel
theorem dX11_least_112 : decode cX11_least 112 = .ok (.iaload, 1) := by decide +kernel
theorem dX11_least_113 : decode cX11_least 113 = .ok (.ishl, 1) := by decide +kernel
theorem dX11_least_114 : decode cX11_least 114 = .ok (.ior, 1) := by decide +kernel
theorem dX11_least_115 : decode cX11_least 115 = .ok (.goto 4, 3) := by decide +kernel
theorem dX11_least_118 : decode cX11_least 118 = .ok (.iconst 0, 1) := by decide +kernel
theorem dX11_least_119 : decode cX11_least 119 = .ok (.ior, 1) := by decide +kernel
theorem dX11_least_120 : decode cX11_least 120 = .ok (.istore_n 2, 1) := by decide +kernel
theorem dX11_least_121 : decode cX11_least 121 = .ok (.iinc 4 1, 3) := by decide +kernel
theorem dX11_least_124 : decode cX11_least 124 = .ok (.goto (-87), 3) := by decide +kernel
theorem dX11_least_127 : decode cX11_least 127 = .ok (.iinc 3 1, 3) := by decide +kernel
theorem dX11_least_130 : decode cX11_least 130 = .ok (.goto (-102), 3) := by decide +kernel
theorem dX11_least_133 : decode cX11_least 133 = .ok (.iconst 0, 1) := by decide +kernel
theorem dX11_least_134 : decode cX11_least 134 = .ok (.istore_n 3, 1) := by decide +kernel
theorem dX11_least_135 : decode cX11_least 135 = .ok (.iload_n 2, 1) := by decide +kernel
theorem dX11_least_136 : decode cX11_least 136 = .ok (.iload_n 3, 1) := by decide +kernel
theorem dX11_least_137 : decode cX11_least 137 = .ok (.invokestatic 142, 3) := by decide +kernel
theorem dX11_least_140 : decode cX11_least 140 = .ok (.ifCond .ne 9, 3) := by decide +kernel
theorem dX11_least_143 : decode cX11_least 143 = .ok (.iinc 3 1, 3) := by decide +kernel
theorem dX11_least_146 : decode cX11_least 146 = .ok (.goto (-11), 3) := by decide +kernel
theorem dX11_least_149 : decode cX11_least 149 = .ok (.iload_n 3, 1) := by decide +kernel
theorem dX11_least_150 : decode cX11_least 150 = .ok (.ireturn, 1) := by decide +kernel
