theorem dX3_init_0 : decode cX3_init 0 = .ok (.aload_n 0, 1) := by decide +kernel
theorem dX3_init_1 : decode cX3_init 1 = .ok (.invokespecial 3, 3) := by decide +kernel
theorem dX3_init_4 : decode cX3_init 4 = .ok (.aload_n 0, 1) := by decide +kernel
theorem dX3_init_5 : decode cX3_init 5 = .ok (.bipush 20, 2) := by decide +kernel
theorem dX3_init_7 : decode cX3_init 7 = .ok (.newarray .int, 2) := by decide +kernel
theorem dX3_init_9 : decode cX3_init 9 = .ok (.putfield 11, 3) := by decide +kernel
theorem dX3_init_12 : decode cX3_init 12 = .ok (.aload_n 0, 1) := by decide +kernel
theorem dX3_init_13 : decode cX3_init 13 = .ok (.iconst 0, 1) := by decide +kernel
theorem dX3_init_14 : decode cX3_init 14 = .ok (.putfield 15, 3) := by decide +kernel
theorem dX3_init_17 : decode cX3_init 17 = .ok (.aload_n 0, 1) := by decide +kernel
theorem dX3_init_18 : decode cX3_init 18 = .ok (.iconst 0, 1) := by decide +kernel
theorem dX3_init_19 : decode cX3_init 19 = .ok (.putfield 19, 3) := by decide +kernel
theorem dX3_init_22 : decode cX3_init 22 = .ok (.aload_n 0, 1) := by decide +kernel
theorem dX3_init_23 : decode cX3_init 23 = .ok (.new 22, 3) := by decide +kernel
theorem dX3_init_26 : decode cX3_init 26 = .ok (.dup, 1) := by decide +kernel
theorem dX3_init_27 : decode cX3_init 27 = .ok (.invokespecial 24, 3) := by decide +kernel
theorem dX3_init_30 : decode cX3_init 30 = .ok (.putfield 25, 3) := by decide +kernel
theorem dX3_init_33 : decode cX3_init 33 = .ok (.aload_n 0, 1) := by decide +kernel
theorem dX3_init_34 : decode cX3_init 34 = .ok (.new 22, 3) := by decide +kernel
theorem dX3_init_37 : decode cX3_init 37 = .ok (.dup, 1) := by decide +kernel
theorem dX3_init_38 : decode cX3_init 38 = .ok (.invokespecial 24, 3) := by decide +kernel
theorem dX3_init_41 : decode cX3_init 41 = .ok (.putfield 29, 3) := by decide +kernel
theorem dX3_init_44 : decode cX3_init 44 = .ok (.aload_n 0, 1) := by decide +kernel
theorem dX3_init_45 : decode cX3_init 45 = .ok (.new 22, 3) := by decide +kernel
theorem dX3_init_48 : decode cX3_init 48 = .ok (.dup, 1) := by decide +kernel
theorem dX3_init_49 : decode cX3_init 49 = .ok (.invokespecial 24, 3) := by decide +kernel
theorem dX3_init_52 : decode cX3_init 52 = .ok (.putfield 32, 3) := by decide +kernel
theorem dX3_init_55 : decode cX3_init 55 = .ok (.aload_n 0, 1) := by decide +kernel
theorem dX3_init_56 : decode cX3_init 56 = .ok (.new 22, 3) := by decide +kernel
theorem dX3_init_59 : decode cX3_init 59 = .ok (.dup, 1) := by decide +kernel
theorem dX3_init_60 : decode cX3_init 60 = .ok (.invokespecial 24, 3) := by decide +kernel
theorem dX3_init_63 : decode cX3_init 63 = .ok (.putfield 35, 3) := by decide +kernel
theorem dX3_init_66 : decode cX3_init 66 = .ok (.aload_n 0, 1) := by decide +kernel
theorem dX3_init_67 : decode cX3_init 67 = .ok (.new 22, 3) := by decide +kernel
theorem dX3_init_70 : decode cX3_init 70 = .ok (.dup, 1) := by decide +kernel
theorem dX3_init_71 : decode cX3_init 71 = .ok (.invokespecial 24, 3) := by decide +kernel
theorem dX3_init_74 : decode cX3_init 74 = .ok (.putfield 38, 3) := by decide +kernel
theorem dX3_init_77 : decode cX3_init 77 = .ok (.return_, 1) := by decide +kernel
theorem dX3_count_0 : decode cX3_count 0 = .ok (.aload_n 0, 1) := by decide +kernel
theorem dX3_count_1 : decode cX3_count 1 = .ok (.getfield 15, 3) := by decide +kernel
theorem dX3_count_4 : decode cX3_count 4 = .ok (.ireturn, 1) := by decide +kernel
theorem dX3_point_0 : decode cX3_point 0 = .ok (.aload_n 0, 1) := by decide +kernel
theorem dX3_point_1 : decode cX3_point 1 = .ok (.getfield 19, 3) := by decide +kernel
theorem dX3_point_4 : decode cX3_point 4 = .ok (.ireturn, 1) := by decide +kernel
theorem dX3_digitAt_0 : decode cX3_digitAt 0 = .ok (.iload_n 1, 1) := by decide +kernel
theorem dX3_digitAt_1 : decode cX3_digitAt 1 = .ok (.ifCond .lt 26, 3) := by decide +kernel
theorem dX3_digitAt_4 : decode cX3_digitAt 4 = .ok (.iload_n 1, 1) := by decide +kernel
theorem dX3_digitAt_5 : decode cX3_digitAt 5 = .ok (.aload_n 0, 1) := by decide +kernel
theorem dX3_digitAt_6 : decode cX3_digitAt 6 = .ok (.getfield 15, 3) := by decide +kernel
theorem dX3_digitAt_9 : decode cX3_digitAt 9 = .ok (.if_icmp .ge 18, 3) := by decide +kernel
theorem dX3_digitAt_12 : decode cX3_digitAt 12 = .ok (.iload_n 1, 1) := by decide +kernel
theorem dX3_digitAt_13 : decode cX3_digitAt 13 = .ok (.bipush 20, 2) := by decide +kernel
theorem dX3_digitAt_15 : decode cX3_digitAt 15 = .ok (.if_icmp .ge 12, 3) := by decide +kernel
theorem dX3_digitAt_18 : decode cX3_digitAt 18 = .ok (.aload_n 0, 1) := by decide +kernel
theorem dX3_digitAt_19 : decode cX3_digitAt 19 = .ok (.getfield 11, 3) := by decide +kernel
theorem dX3_digitAt_22 : decode cX3_digitAt 22 = .ok (.iload_n 1, 1) := by decide +kernel
theorem dX3_digitAt_23 : decode cX3_digitAt 23 = .ok (.iaload, 1) := by decide +kernel
theorem dX3_digitAt_24 : decode cX3_digitAt 24 = .ok (.goto 4, 3) := by decide +kernel
theorem dX3_digitAt_27 : decode cX3_digitAt 27 = .ok (.iconst 0, 1) := by decide +kernel
theorem dX3_digitAt_28 : decode cX3_digitAt 28 = .ok (.ireturn, 1) := by decide +kernel
theorem dX3_find_0 : decode cX3_find 0 = .ok (.aload_n 0, 1) := by decide +kernel
theorem dX3_find_1 : decode cX3_find 1 = .ok (.iconst 0, 1) := by decide +kernel
theorem dX3_find_2 : decode cX3_find 2 = .ok (.putfield 15, 3) := by decide +kernel
theorem dX3_find_5 : decode cX3_find 5 = .ok (.lload_n 1, 1) := by decide +kernel
theorem dX3_find_6 : decode cX3_find 6 = .ok (.lconst 0, 1) := by decide +kernel
theorem dX3_find_7 : decode cX3_find 7 = .ok (.lcmp, 1) := by decide +kernel
theorem dX3_find_8 : decode cX3_find 8 = .ok (.ifCond .gt 14, 3) := by decide +kernel
theorem dX3_find_11 : decode cX3_find 11 = .ok (.aload_n 0, 1) := by decide +kernel
theorem dX3_find_12 : decode cX3_find 12 = .ok (.iconst 0, 1) := by decide +kernel
theorem dX3_find_13 : decode cX3_find 13 = .ok (.invokevirtual 41, 3) := by decide +kernel
theorem dX3_find_16 : decode cX3_find 16 = .ok (.aload_n 0, 1) := by decide +kernel
theorem dX3_find_17 : decode cX3_find 17 = .ok (.iconst 1, 1) := by decide +kernel
theorem dX3_find_18 : decode cX3_find 18 = .ok (.putfield 19, 3) := by decide +kernel
theorem dX3_find_21 : decode cX3_find 21 = .ok (.return_, 1) := by decide +kernel
theorem dX3_find_22 : decode cX3_find 22 = .ok (.lload_n 1, 1) := by decide +kernel
theorem dX3_find_23 : decode cX3_find 23 = .ok (.lconst 1, 1) := by decide +kernel
theorem dX3_find_24 : decode cX3_find 24 = .ok (.land, 1) := by decide +kernel
theorem dX3_find_25 : decode cX3_find 25 = .ok (.lconst 0, 1) := by decide +kernel
theorem dX3_find_26 : decode cX3_find 26 = .ok (.lcmp, 1) := by decide +kernel
theorem dX3_find_27 : decode cX3_find 27 = .ok (.ifCond .ne 7, 3) := by decide +kernel
theorem dX3_find_30 : decode cX3_find 30 = .ok (.iconst 1, 1) := by decide +kernel
theorem dX3_find_31 : decode cX3_find 31 = .ok (.goto 4, 3) := by decide +kernel
theorem dX3_find_34 : decode cX3_find 34 = .ok (.iconst 0, 1) := by decide +kernel
theorem dX3_find_35 : decode cX3_find 35 = .ok (.istore 4, 2) := by decide +kernel
theorem dX3_find_37 : decode cX3_find 37 = .ok (.lload_n 1, 1) := by decide +kernel
theorem dX3_find_38 : decode cX3_find 38 = .ok (.ldc2_w 45, 3) := by decide +kernel
theorem dX3_find_41 : decode cX3_find 41 = .ok (.lcmp, 1) := by decide +kernel
theorem dX3_find_42 : decode cX3_find 42 = .ok (.ifCond .ne 14, 3) := by decide +kernel
theorem dX3_find_45 : decode cX3_find 45 = .ok (.iload_n 3, 1) := by decide +kernel
theorem dX3_find_46 : decode cX3_find 46 = .ok (.sipush (-1074), 3) := by decide +kernel
theorem dX3_find_49 : decode cX3_find 49 = .ok (.if_icmp .le 7, 3) := by decide +kernel
theorem dX3_find_52 : decode cX3_find 52 = .ok (.iconst 1, 1) := by decide +kernel
theorem dX3_find_53 : decode cX3_find 53 = .ok (.goto 4, 3) := by decide +kernel
theorem dX3_find_56 : decode cX3_find 56 = .ok (.iconst 0, 1) := by decide +kernel
theorem dX3_find_57 : decode cX3_find 57 = .ok (.istore 5, 2) := by decide +kernel
theorem dX3_find_59 : decode cX3_find 59 = .ok (.bipush 64, 2) := by decide +kernel
theorem dX3_find_61 : decode cX3_find 61 = .ok (.lload_n 1, 1) := by decide +kernel
theorem dX3_find_62 : decode cX3_find 62 = .ok (.invokestatic 47, 3) := by decide +kernel
theorem dX3_find_65 : decode cX3_find 65 = .ok (.isub, 1) := by decide +kernel
theorem dX3_find_66 : decode cX3_find 66 = .ok (.iload_n 3, 1) := by decide +kernel
theorem dX3_find_67 : decode cX3_find 67 = .ok (.iadd, 1) := by decide +kernel
theorem dX3_find_68 : decode cX3_find 68 = .ok (.istore 6, 2) := by decide +kernel
theorem dX3_find_70 : decode cX3_find 70 = .ok (.aload_n 0, 1) := by decide +kernel
theorem dX3_find_71 : decode cX3_find 71 = .ok (.iload 6, 2) := by decide +kernel
theorem dX3_find_73 : decode cX3_find 73 = .ok (.iconst 1, 1) := by decide +kernel
theorem dX3_find_74 : decode cX3_find 74 = .ok (.isub, 1) := by decide +kernel
theorem dX3_find_75 : decode cX3_find 75 = .ok (.sipush 30103, 3) := by decide +kernel
theorem dX3_find_78 : decode cX3_find 78 = .ok (.imul, 1) := by decide +kernel
theorem dX3_find_79 : decode cX3_find 79 = .ok (.ldc 53, 2) := by decide +kernel
theorem dX3_find_81 : decode cX3_find 81 = .ok (.invokestatic 54, 3) := by decide +kernel
theorem dX3_find_84 : decode cX3_find 84 = .ok (.iconst 1, 1) := by decide +kernel
theorem dX3_find_85 : decode cX3_find 85 = .ok (.iadd, 1) := by decide +kernel
theorem dX3_find_86 : decode cX3_find 86 = .ok (.putfield 19, 3) := by decide +kernel
theorem dX3_find_89 : decode cX3_find 89 = .ok (.aload_n 0, 1) := by decide +kernel
theorem dX3_find_90 : decode cX3_find 90 = .ok (.lload_n 1, 1) := by decide +kernel
theorem dX3_find_91 : decode cX3_find 91 = .ok (.iload_n 3, 1) := by decide +kernel
theorem dX3_find_92 : decode cX3_find 92 = .ok (.aload_n 0, 1) := by decide +kernel
theorem dX3_find_93 : decode cX3_find 93 = .ok (.getfield 19, 3) := by decide +kernel
theorem dX3_find_96 : decode cX3_find 96 = .ok (.isub, 1) := by decide +kernel
theorem dX3_find_97 : decode cX3_find 97 = .ok (.iload 5, 2) := by decide +kernel
theorem dX3_find_99 : decode cX3_find 99 = .ok (.invokevirtual 60, 3) := by decide +kernel
theorem dX3_find_102 : decode cX3_find 102 = .ok (.aload_n 0, 1) := by decide +kernel
theorem dX3_find_103 : decode cX3_find 103 = .ok (.invokevirtual 64, 3) := by decide +kernel
theorem dX3_find_106 : decode cX3_find 106 = .ok (.iconst 0, 1) := by decide +kernel
theorem dX3_find_107 : decode cX3_find 107 = .ok (.istore 7, 2) := by decide +kernel
theorem dX3_find_109 : decode cX3_find 109 = .ok (.iload 7, 2) := by decide +kernel
theorem dX3_find_111 : decode cX3_find 111 = .ok (.iconst 3, 1) := by decide +kernel
theorem dX3_find_112 : decode cX3_find 112 = .ok (.if_icmp .ge 38, 3) := by decide +kernel
theorem dX3_find_115 : decode cX3_find 115 = .ok (.aload_n 0, 1) := by decide +kernel
theorem dX3_find_116 : decode cX3_find 116 = .ok (.iload 4, 2) := by decide +kernel
theorem dX3_find_118 : decode cX3_find 118 = .ok (.invokevirtual 67, 3) := by decide +kernel
theorem dX3_find_121 : decode cX3_find 121 = .ok (.ifCond .eq 29, 3) := by decide +kernel
theorem dX3_find_124 : decode cX3_find 124 = .ok (.aload_n 0, 1) := by decide +kernel
theorem dX3_find_125 : decode cX3_find 125 = .ok (.getfield 29, 3) := by decide +kernel
theorem dX3_find_128 : decode cX3_find 128 = .ok (.bipush 10, 2) := by decide +kernel
theorem dX3_find_130 : decode cX3_find 130 = .ok (.iconst 0, 1) := by decide +kernel
theorem dX3_find_131 : decode cX3_find 131 = .ok (.invokevirtual 71, 3) := by decide +kernel
theorem dX3_find_134 : decode cX3_find 134 = .ok (.aload_n 0, 1) := by decide +kernel
theorem dX3_find_135 : decode cX3_find 135 = .ok (.dup, 1) := by decide +kernel
theorem dX3_find_136 : decode cX3_find 136 = .ok (.getfield 19, 3) := by decide +kernel
theorem dX3_find_139 : decode cX3_find 139 = .ok (.iconst 1, 1) := by decide +kernel
theorem dX3_find_140 : decode cX3_find 140 = .ok (.iadd, 1) := by decide +kernel
theorem dX3_find_141 : decode cX3_find 141 = .ok (.putfield 19, 3) := by decide +kernel
theorem dX3_find_144 : decode cX3_find 144 = .ok (.iinc 7 1, 3) := by decide +kernel
theorem dX3_find_147 : decode cX3_find 147 = .ok (.goto (-38), 3) := by decide +kernel
theorem dX3_find_150 : decode cX3_find 150 = .ok (.iconst 0, 1) := by decide +kernel
theorem dX3_find_151 : decode cX3_find 151 = .ok (.istore 7, 2) := by decide +kernel
theorem dX3_find_153 : decode cX3_find 153 = .ok (.iconst 0, 1) := by decide +kernel
theorem dX3_find_154 : decode cX3_find 154 = .ok (.istore 8, 2) := by decide +kernel
theorem dX3_find_156 : decode cX3_find 156 = .ok (.iload 8, 2) := by decide +kernel
theorem dX3_find_158 : decode cX3_find 158 = .ok (.bipush 20, 2) := by decide +kernel
theorem dX3_find_160 : decode cX3_find 160 = .ok (.if_icmp .ge 22, 3) := by decide +kernel
theorem dX3_find_163 : decode cX3_find 163 = .ok (.iload 7, 2) := by decide +kernel
theorem dX3_find_165 : decode cX3_find 165 = .ok (.ifCond .ne 17, 3) := by decide +kernel
theorem dX3_find_168 : decode cX3_find 168 = .ok (.aload_n 0, 1) := by decide +kernel
theorem dX3_find_169 : decode cX3_find 169 = .ok (.iload 4, 2) := by decide +kernel
theorem dX3_find_171 : decode cX3_find 171 = .ok (.invokevirtual 75, 3) := by decide +kernel
theorem dX3_find_174 : decode cX3_find 174 = .ok (.istore 7, 2) := by decide +kernel
theorem dX3_find_176 : decode cX3_find 176 = .ok (.iinc 8 1, 3) := by decide +kernel
theorem dX3_find_179 : decode cX3_find 179 = .ok (.goto (-23), 3) := by decide +kernel
theorem dX3_find_182 : decode cX3_find 182 = .ok (.return_, 1) := by decide +kernel
theorem dX3_append_0 : decode cX3_append 0 = .ok (.aload_n 0, 1) := by decide +kernel
theorem dX3_append_1 : decode cX3_append 1 = .ok (.getfield 15, 3) := by decide +kernel
theorem dX3_append_4 : decode cX3_append 4 = .ok (.bipush 20, 2) := by decide +kernel
theorem dX3_append_6 : decode cX3_append 6 = .ok (.if_icmp .ge 23, 3) := by decide +kernel
theorem dX3_append_9 : decode cX3_append 9 = .ok (.aload_n 0, 1) := by decide +kernel
theorem dX3_append_10 : decode cX3_append 10 = .ok (.getfield 11, 3) := by decide +kernel
theorem dX3_append_13 : decode cX3_append 13 = .ok (.aload_n 0, 1) := by decide +kernel
theorem dX3_append_14 : decode cX3_append 14 = .ok (.getfield 15, 3) := by decide +kernel
theorem dX3_append_17 : decode cX3_append 17 = .ok (.iload_n 1, 1) := by decide +kernel
theorem dX3_append_18 : decode cX3_append 18 = .ok (.iastore, 1) := by decide +kernel
theorem dX3_append_19 : decode cX3_append 19 = .ok (.aload_n 0, 1) := by decide +kernel
theorem dX3_append_20 : decode cX3_append 20 = .ok (.dup, 1) := by decide +kernel
theorem dX3_append_21 : decode cX3_append 21 = .ok (.getfield 15, 3) := by decide +kernel
theorem dX3_append_24 : decode cX3_append 24 = .ok (.iconst 1, 1) := by decide +kernel
theorem dX3_append_25 : decode cX3_append 25 = .ok (.iadd, 1) := by decide +kernel
theorem dX3_append_26 : decode cX3_append 26 = .ok (.putfield 15, 3) := by decide +kernel
theorem dX3_append_29 : decode cX3_append 29 = .ok (.return_, 1) := by decide +kernel
theorem dX3_setUp_0 : decode cX3_setUp 0 = .ok (.iload_n 3, 1) := by decide +kernel
theorem dX3_setUp_1 : decode cX3_setUp 1 = .ok (.iconst 0, 1) := by decide +kernel
theorem dX3_setUp_2 : decode cX3_setUp 2 = .ok (.invokestatic 78, 3) := by decide +kernel
theorem dX3_setUp_5 : decode cX3_setUp 5 = .ok (.istore 5, 2) := by decide +kernel
theorem dX3_setUp_7 : decode cX3_setUp 7 = .ok (.aload_n 0, 1) := by decide +kernel
theorem dX3_setUp_8 : decode cX3_setUp 8 = .ok (.getfield 25, 3) := by decide +kernel
theorem dX3_setUp_11 : decode cX3_setUp 11 = .ok (.lload_n 1, 1) := by decide +kernel
theorem dX3_setUp_12 : decode cX3_setUp 12 = .ok (.invokevirtual 81, 3) := by decide +kernel
theorem dX3_setUp_15 : decode cX3_setUp 15 = .ok (.aload_n 0, 1) := by decide +kernel
theorem dX3_setUp_16 : decode cX3_setUp 16 = .ok (.getfield 25, 3) := by decide +kernel
theorem dX3_setUp_19 : decode cX3_setUp 19 = .ok (.iload 5, 2) := by decide +kernel
theorem dX3_setUp_21 : decode cX3_setUp 21 = .ok (.iconst 2, 1) := by decide +kernel
theorem dX3_setUp_22 : decode cX3_setUp 22 = .ok (.iadd, 1) := by decide +kernel
theorem dX3_setUp_23 : decode cX3_setUp 23 = .ok (.invokevirtual 85, 3) := by decide +kernel
theorem dX3_setUp_26 : decode cX3_setUp 26 = .ok (.aload_n 0, 1) := by decide +kernel
theorem dX3_setUp_27 : decode cX3_setUp 27 = .ok (.getfield 29, 3) := by decide +kernel
theorem dX3_setUp_30 : decode cX3_setUp 30 = .ok (.lconst 1, 1) := by decide +kernel
theorem dX3_setUp_31 : decode cX3_setUp 31 = .ok (.invokevirtual 81, 3) := by decide +kernel
theorem dX3_setUp_34 : decode cX3_setUp 34 = .ok (.aload_n 0, 1) := by decide +kernel
theorem dX3_setUp_35 : decode cX3_setUp 35 = .ok (.getfield 29, 3) := by decide +kernel
theorem dX3_setUp_38 : decode cX3_setUp 38 = .ok (.iload_n 3, 1) := by decide +kernel
theorem dX3_setUp_39 : decode cX3_setUp 39 = .ok (.ineg, 1) := by decide +kernel
theorem dX3_setUp_40 : decode cX3_setUp 40 = .ok (.iconst 0, 1) := by decide +kernel
theorem dX3_setUp_41 : decode cX3_setUp 41 = .ok (.invokestatic 78, 3) := by decide +kernel
theorem dX3_setUp_44 : decode cX3_setUp 44 = .ok (.iconst 2, 1) := by decide +kernel
theorem dX3_setUp_45 : decode cX3_setUp 45 = .ok (.iadd, 1) := by decide +kernel
theorem dX3_setUp_46 : decode cX3_setUp 46 = .ok (.invokevirtual 85, 3) := by decide +kernel
theorem dX3_setUp_49 : decode cX3_setUp 49 = .ok (.aload_n 0, 1) := by decide +kernel
theorem dX3_setUp_50 : decode cX3_setUp 50 = .ok (.getfield 32, 3) := by decide +kernel
theorem dX3_setUp_53 : decode cX3_setUp 53 = .ok (.lconst 1, 1) := by decide +kernel
theorem dX3_setUp_54 : decode cX3_setUp 54 = .ok (.invokevirtual 81, 3) := by decide +kernel
theorem dX3_setUp_57 : decode cX3_setUp 57 = .ok (.aload_n 0, 1) := by decide +kernel
theorem dX3_setUp_58 : decode cX3_setUp 58 = .ok (.getfield 32, 3) := by decide +kernel
theorem dX3_setUp_61 : decode cX3_setUp 61 = .ok (.iload 5, 2) := by decide +kernel
theorem dX3_setUp_63 : decode cX3_setUp 63 = .ok (.iconst 1, 1) := by decide +kernel
theorem dX3_setUp_64 : decode cX3_setUp 64 = .ok (.iadd, 1) := by decide +kernel
theorem dX3_setUp_65 : decode cX3_setUp 65 = .ok (.invokevirtual 85, 3) := by decide +kernel
theorem dX3_setUp_68 : decode cX3_setUp 68 = .ok (.aload_n 0, 1) := by decide +kernel
theorem dX3_setUp_69 : decode cX3_setUp 69 = .ok (.getfield 35, 3) := by decide +kernel
theorem dX3_setUp_72 : decode cX3_setUp 72 = .ok (.lconst 1, 1) := by decide +kernel
theorem dX3_setUp_73 : decode cX3_setUp 73 = .ok (.invokevirtual 81, 3) := by decide +kernel
theorem dX3_setUp_76 : decode cX3_setUp 76 = .ok (.aload_n 0, 1) := by decide +kernel
theorem dX3_setUp_77 : decode cX3_setUp 77 = .ok (.getfield 35, 3) := by decide +kernel
theorem dX3_setUp_80 : decode cX3_setUp 80 = .ok (.iload 4, 2) := by decide +kernel
theorem dX3_setUp_82 : decode cX3_setUp 82 = .ok (.ifCond .eq 8, 3) := by decide +kernel
theorem dX3_setUp_85 : decode cX3_setUp 85 = .ok (.iload 5, 2) := by decide +kernel
theorem dX3_setUp_87 : decode cX3_setUp 87 = .ok (.goto 7, 3) := by decide +kernel
theorem dX3_setUp_90 : decode cX3_setUp 90 = .ok (.iload 5, 2) := by decide +kernel
theorem dX3_setUp_92 : decode cX3_setUp 92 = .ok (.iconst 1, 1) := by decide +kernel
theorem dX3_setUp_93 : decode cX3_setUp 93 = .ok (.iadd, 1) := by decide +kernel
theorem dX3_setUp_94 : decode cX3_setUp 94 = .ok (.invokevirtual 85, 3) := by decide +kernel
theorem dX3_setUp_97 : decode cX3_setUp 97 = .ok (.return_, 1) := by decide +kernel
theorem dX3_scaleByFives_0 : decode cX3_scaleByFives 0 = .ok (.aload_n 0, 1) := by decide +kernel
theorem dX3_scaleByFives_1 : decode cX3_scaleByFives 1 = .ok (.getfield 19, 3) := by decide +kernel
theorem dX3_scaleByFives_4 : decode cX3_scaleByFives 4 = .ok (.ifCond .lt 17, 3) := by decide +kernel
theorem dX3_scaleByFives_7 : decode cX3_scaleByFives 7 = .ok (.aload_n 0, 1) := by decide +kernel
theorem dX3_scaleByFives_8 : decode cX3_scaleByFives 8 = .ok (.getfield 29, 3) := by decide +kernel
theorem dX3_scaleByFives_11 : decode cX3_scaleByFives 11 = .ok (.aload_n 0, 1) := by decide +kernel
theorem dX3_scaleByFives_12 : decode cX3_scaleByFives 12 = .ok (.getfield 19, 3) := by decide +kernel
theorem dX3_scaleByFives_15 : decode cX3_scaleByFives 15 = .ok (.invokevirtual 88, 3) := by decide +kernel
theorem dX3_scaleByFives_18 : decode cX3_scaleByFives 18 = .ok (.goto 39, 3) := by decide +kernel
theorem dX3_scaleByFives_21 : decode cX3_scaleByFives 21 = .ok (.aload_n 0, 1) := by decide +kernel
theorem dX3_scaleByFives_22 : decode cX3_scaleByFives 22 = .ok (.getfield 25, 3) := by decide +kernel
theorem dX3_scaleByFives_25 : decode cX3_scaleByFives 25 = .ok (.aload_n 0, 1) := by decide +kernel
theorem dX3_scaleByFives_26 : decode cX3_scaleByFives 26 = .ok (.getfield 19, 3) := by decide +kernel
theorem dX3_scaleByFives_29 : decode cX3_scaleByFives 29 = .ok (.ineg, 1) := by decide +kernel
theorem dX3_scaleByFives_30 : decode cX3_scaleByFives 30 = .ok (.invokevirtual 88, 3) := by decide +kernel
theorem dX3_scaleByFives_33 : decode cX3_scaleByFives 33 = .ok (.aload_n 0, 1) := by decide +kernel
theorem dX3_scaleByFives_34 : decode cX3_scaleByFives 34 = .ok (.getfield 32, 3) := by decide +kernel
theorem dX3_scaleByFives_37 : decode cX3_scaleByFives 37 = .ok (.aload_n 0, 1) := by decide +kernel
theorem dX3_scaleByFives_38 : decode cX3_scaleByFives 38 = .ok (.getfield 19, 3) := by decide +kernel
theorem dX3_scaleByFives_41 : decode cX3_scaleByFives 41 = .ok (.ineg, 1) := by decide +kernel
theorem dX3_scaleByFives_42 : decode cX3_scaleByFives 42 = .ok (.invokevirtual 88, 3) := by decide +kernel
theorem dX3_scaleByFives_45 : decode cX3_scaleByFives 45 = .ok (.aload_n 0, 1) := by decide +kernel
theorem dX3_scaleByFives_46 : decode cX3_scaleByFives 46 = .ok (.getfield 35, 3) := by decide +kernel
theorem dX3_scaleByFives_49 : decode cX3_scaleByFives 49 = .ok (.aload_n 0, 1) := by decide +kernel
theorem dX3_scaleByFives_50 : decode cX3_scaleByFives 50 = .ok (.getfield 19, 3) := by decide +kernel
theorem dX3_scaleByFives_53 : decode cX3_scaleByFives 53 = .ok (.ineg, 1) := by decide +kernel
theorem dX3_scaleByFives_54 : decode cX3_scaleByFives 54 = .ok (.invokevirtual 88, 3) := by decide +kernel
theorem dX3_scaleByFives_57 : decode cX3_scaleByFives 57 = .ok (.return_, 1) := by decide +kernel
theorem dX3_reachesWhole_0 : decode cX3_reachesWhole 0 = .ok (.aload_n 0, 1) := by decide +kernel
theorem dX3_reachesWhole_1 : decode cX3_reachesWhole 1 = .ok (.getfield 38, 3) := by decide +kernel
theorem dX3_reachesWhole_4 : decode cX3_reachesWhole 4 = .ok (.aload_n 0, 1) := by decide +kernel
theorem dX3_reachesWhole_5 : decode cX3_reachesWhole 5 = .ok (.getfield 25, 3) := by decide +kernel
theorem dX3_reachesWhole_8 : decode cX3_reachesWhole 8 = .ok (.invokevirtual 91, 3) := by decide +kernel
theorem dX3_reachesWhole_11 : decode cX3_reachesWhole 11 = .ok (.aload_n 0, 1) := by decide +kernel
theorem dX3_reachesWhole_12 : decode cX3_reachesWhole 12 = .ok (.getfield 38, 3) := by decide +kernel
theorem dX3_reachesWhole_15 : decode cX3_reachesWhole 15 = .ok (.aload_n 0, 1) := by decide +kernel
theorem dX3_reachesWhole_16 : decode cX3_reachesWhole 16 = .ok (.getfield 32, 3) := by decide +kernel
theorem dX3_reachesWhole_19 : decode cX3_reachesWhole 19 = .ok (.invokevirtual 95, 3) := by decide +kernel
theorem dX3_reachesWhole_22 : decode cX3_reachesWhole 22 = .ok (.aload_n 0, 1) := by decide +kernel
theorem dX3_reachesWhole_23 : decode cX3_reachesWhole 23 = .ok (.getfield 38, 3) := by decide +kernel
theorem dX3_reachesWhole_26 : decode cX3_reachesWhole 26 = .ok (.aload_n 0, 1) := by decide +kernel
theorem dX3_reachesWhole_27 : decode cX3_reachesWhole 27 = .ok (.getfield 29, 3) := by decide +kernel
theorem dX3_reachesWhole_30 : decode cX3_reachesWhole 30 = .ok (.invokevirtual 98, 3) := by decide +kernel
theorem dX3_reachesWhole_33 : decode cX3_reachesWhole 33 = .ok (.istore_n 2, 1) := by decide +kernel
theorem dX3_reachesWhole_34 : decode cX3_reachesWhole 34 = .ok (.iload_n 1, 1) := by decide +kernel
theorem dX3_reachesWhole_35 : decode cX3_reachesWhole 35 = .ok (.ifCond .eq 15, 3) := by decide +kernel
theorem dX3_reachesWhole_38 : decode cX3_reachesWhole 38 = .ok (.iload_n 2, 1) := by decide +kernel
theorem dX3_reachesWhole_39 : decode cX3_reachesWhole 39 = .ok (.ifCond .lt 7, 3) := by decide +kernel
theorem dX3_reachesWhole_42 : decode cX3_reachesWhole 42 = .ok (.iconst 1, 1) := by decide +kernel
theorem dX3_reachesWhole_43 : decode cX3_reachesWhole 43 = .ok (.goto 16, 3) := by decide +kernel
theorem dX3_reachesWhole_46 : decode cX3_reachesWhole 46 = .ok (.iconst 0, 1) := by decide +kernel
theorem dX3_reachesWhole_47 : decode cX3_reachesWhole 47 = .ok (.goto 12, 3) := by decide +kernel
theorem dX3_reachesWhole_50 : decode cX3_reachesWhole 50 = .ok (.iload_n 2, 1) := by decide +kernel
theorem dX3_reachesWhole_51 : decode cX3_reachesWhole 51 = .ok (.ifCond .le 7, 3) := by decide +kernel
theorem dX3_reachesWhole_54 : decode cX3_reachesWhole 54 = .ok (.iconst 1, 1) := by decide +kernel
theorem dX3_reachesWhole_55 : decode cX3_reachesWhole 55 = .ok (.goto 4, 3) := by decide +kernel
theorem dX3_reachesWhole_58 : decode cX3_reachesWhole 58 = .ok (.iconst 0, 1) := by decide +kernel
theorem dX3_reachesWhole_59 : decode cX3_reachesWhole 59 = .ok (.ireturn, 1) := by decide +kernel
theorem dX3_takeDigit_0 : decode cX3_takeDigit 0 = .ok (.aload_n 0, 1) := by decide +kernel
theorem dX3_takeDigit_1 : decode cX3_takeDigit 1 = .ok (.getfield 25, 3) := by decide +kernel
theorem dX3_takeDigit_4 : decode cX3_takeDigit 4 = .ok (.bipush 10, 2) := by decide +kernel
theorem dX3_takeDigit_6 : decode cX3_takeDigit 6 = .ok (.iconst 0, 1) := by decide +kernel
theorem dX3_takeDigit_7 : decode cX3_takeDigit 7 = .ok (.invokevirtual 71, 3) := by decide +kernel
theorem dX3_takeDigit_10 : decode cX3_takeDigit 10 = .ok (.aload_n 0, 1) := by decide +kernel
theorem dX3_takeDigit_11 : decode cX3_takeDigit 11 = .ok (.getfield 32, 3) := by decide +kernel
theorem dX3_takeDigit_14 : decode cX3_takeDigit 14 = .ok (.bipush 10, 2) := by decide +kernel
theorem dX3_takeDigit_16 : decode cX3_takeDigit 16 = .ok (.iconst 0, 1) := by decide +kernel
theorem dX3_takeDigit_17 : decode cX3_takeDigit 17 = .ok (.invokevirtual 71, 3) := by decide +kernel
theorem dX3_takeDigit_20 : decode cX3_takeDigit 20 = .ok (.aload_n 0, 1) := by decide +kernel
theorem dX3_takeDigit_21 : decode cX3_takeDigit 21 = .ok (.getfield 35, 3) := by decide +kernel
theorem dX3_takeDigit_24 : decode cX3_takeDigit 24 = .ok (.bipush 10, 2) := by decide +kernel
theorem dX3_takeDigit_26 : decode cX3_takeDigit 26 = .ok (.iconst 0, 1) := by decide +kernel
theorem dX3_takeDigit_27 : decode cX3_takeDigit 27 = .ok (.invokevirtual 71, 3) := by decide +kernel
theorem dX3_takeDigit_30 : decode cX3_takeDigit 30 = .ok (.iconst 0, 1) := by decide +kernel
theorem dX3_takeDigit_31 : decode cX3_takeDigit 31 = .ok (.istore_n 2, 1) := by decide +kernel
theorem dX3_takeDigit_32 : decode cX3_takeDigit 32 = .ok (.iload_n 2, 1) := by decide +kernel
theorem dX3_takeDigit_33 : decode cX3_takeDigit 33 = .ok (.bipush 9, 2) := by decide +kernel
theorem dX3_takeDigit_35 : decode cX3_takeDigit 35 = .ok (.if_icmp .ge 34, 3) := by decide +kernel
theorem dX3_takeDigit_38 : decode cX3_takeDigit 38 = .ok (.aload_n 0, 1) := by decide +kernel
theorem dX3_takeDigit_39 : decode cX3_takeDigit 39 = .ok (.getfield 25, 3) := by decide +kernel
theorem dX3_takeDigit_42 : decode cX3_takeDigit 42 = .ok (.aload_n 0, 1) := by decide +kernel
theorem dX3_takeDigit_43 : decode cX3_takeDigit 43 = .ok (.getfield 29, 3) := by decide +kernel
theorem dX3_takeDigit_46 : decode cX3_takeDigit 46 = .ok (.invokevirtual 98, 3) := by decide +kernel
theorem dX3_takeDigit_49 : decode cX3_takeDigit 49 = .ok (.ifCond .lt 20, 3) := by decide +kernel
theorem dX3_takeDigit_52 : decode cX3_takeDigit 52 = .ok (.aload_n 0, 1) := by decide +kernel
theorem dX3_takeDigit_53 : decode cX3_takeDigit 53 = .ok (.getfield 25, 3) := by decide +kernel
theorem dX3_takeDigit_56 : decode cX3_takeDigit 56 = .ok (.aload_n 0, 1) := by decide +kernel
theorem dX3_takeDigit_57 : decode cX3_takeDigit 57 = .ok (.getfield 29, 3) := by decide +kernel
theorem dX3_takeDigit_60 : decode cX3_takeDigit 60 = .ok (.invokevirtual 102, 3) := by decide +kernel
theorem dX3_takeDigit_63 : decode cX3_takeDigit 63 = .ok (.iinc 2 1, 3) := by decide +kernel
theorem dX3_takeDigit_66 : decode cX3_takeDigit 66 = .ok (.goto (-34), 3) := by decide +kernel
theorem dX3_takeDigit_69 : decode cX3_takeDigit 69 = .ok (.aload_n 0, 1) := by decide +kernel
theorem dX3_takeDigit_70 : decode cX3_takeDigit 70 = .ok (.getfield 25, 3) := by decide +kernel
theorem dX3_takeDigit_73 : decode cX3_takeDigit 73 = .ok (.aload_n 0, 1) := by decide +kernel
theorem dX3_takeDigit_74 : decode cX3_takeDigit 74 = .ok (.getfield 35, 3) := by decide +kernel
theorem dX3_takeDigit_77 : decode cX3_takeDigit 77 = .ok (.invokevirtual 98, 3) := by decide +kernel
theorem dX3_takeDigit_80 : decode cX3_takeDigit 80 = .ok (.istore_n 3, 1) := by decide +kernel
theorem dX3_takeDigit_81 : decode cX3_takeDigit 81 = .ok (.iload_n 1, 1) := by decide +kernel
theorem dX3_takeDigit_82 : decode cX3_takeDigit 82 = .ok (.ifCond .eq 15, 3) := by decide +kernel
theorem dX3_takeDigit_85 : decode cX3_takeDigit 85 = .ok (.iload_n 3, 1) := by decide +kernel
theorem dX3_takeDigit_86 : decode cX3_takeDigit 86 = .ok (.ifCond .gt 7, 3) := by decide +kernel
theorem dX3_takeDigit_89 : decode cX3_takeDigit 89 = .ok (.iconst 1, 1) := by decide +kernel
theorem dX3_takeDigit_90 : decode cX3_takeDigit 90 = .ok (.goto 16, 3) := by decide +kernel
theorem dX3_takeDigit_93 : decode cX3_takeDigit 93 = .ok (.iconst 0, 1) := by decide +kernel
theorem dX3_takeDigit_94 : decode cX3_takeDigit 94 = .ok (.goto 12, 3) := by decide +kernel
theorem dX3_takeDigit_97 : decode cX3_takeDigit 97 = .ok (.iload_n 3, 1) := by decide +kernel
theorem dX3_takeDigit_98 : decode cX3_takeDigit 98 = .ok (.ifCond .ge 7, 3) := by decide +kernel
theorem dX3_takeDigit_101 : decode cX3_takeDigit 101 = .ok (.iconst 1, 1) := by decide +kernel
theorem dX3_takeDigit_102 : decode cX3_takeDigit 102 = .ok (.goto 4, 3) := by decide +kernel
theorem dX3_takeDigit_105 : decode cX3_takeDigit 105 = .ok (.iconst 0, 1) := by decide +kernel
theorem dX3_takeDigit_106 : decode cX3_takeDigit 106 = .ok (.istore 4, 2) := by decide +kernel
theorem dX3_takeDigit_108 : decode cX3_takeDigit 108 = .ok (.aload_n 0, 1) := by decide +kernel
theorem dX3_takeDigit_109 : decode cX3_takeDigit 109 = .ok (.iload_n 1, 1) := by decide +kernel
theorem dX3_takeDigit_110 : decode cX3_takeDigit 110 = .ok (.invokevirtual 67, 3) := by decide +kernel
theorem dX3_takeDigit_113 : decode cX3_takeDigit 113 = .ok (.istore 5, 2) := by decide +kernel
theorem dX3_takeDigit_115 : decode cX3_takeDigit 115 = .ok (.iload 5, 2) := by decide +kernel
theorem dX3_takeDigit_117 : decode cX3_takeDigit 117 = .ok (.ifCond .eq 20, 3) := by decide +kernel
theorem dX3_takeDigit_120 : decode cX3_takeDigit 120 = .ok (.iload 4, 2) := by decide +kernel
theorem dX3_takeDigit_122 : decode cX3_takeDigit 122 = .ok (.ifCond .eq 11, 3) := by decide +kernel
theorem dX3_takeDigit_125 : decode cX3_takeDigit 125 = .ok (.aload_n 0, 1) := by decide +kernel
theorem dX3_takeDigit_126 : decode cX3_takeDigit 126 = .ok (.iload_n 2, 1) := by decide +kernel
theorem dX3_takeDigit_127 : decode cX3_takeDigit 127 = .ok (.invokevirtual 105, 3) := by decide +kernel
theorem dX3_takeDigit_130 : decode cX3_takeDigit 130 = .ok (.ifCond .eq 7, 3) := by decide +kernel
theorem dX3_takeDigit_133 : decode cX3_takeDigit 133 = .ok (.iconst 1, 1) := by decide +kernel
theorem dX3_takeDigit_134 : decode cX3_takeDigit 134 = .ok (.goto 4, 3) := by decide +kernel
theorem dX3_takeDigit_137 : decode cX3_takeDigit 137 = .ok (.iconst 0, 1) := by decide +kernel
theorem dX3_takeDigit_138 : decode cX3_takeDigit 138 = .ok (.istore 6, 2) := by decide +kernel
theorem dX3_takeDigit_140 : decode cX3_takeDigit 140 = .ok (.aload_n 0, 1) := by decide +kernel
theorem dX3_takeDigit_141 : decode cX3_takeDigit 141 = .ok (.iload 6, 2) := by decide +kernel
theorem dX3_takeDigit_143 : decode cX3_takeDigit 143 = .ok (.ifCond .eq 9, 3) := by decide +kernel
theorem dX3_takeDigit_146 : decode cX3_takeDigit 146 = .ok (.iload_n 2, 1) := by decide +kernel
theorem dX3_takeDigit_147 : decode cX3_takeDigit 147 = .ok (.iconst 1, 1) := by decide +kernel
theorem dX3_takeDigit_148 : decode cX3_takeDigit 148 = .ok (.iadd, 1) := by decide +kernel
theorem dX3_takeDigit_149 : decode cX3_takeDigit 149 = .ok (.goto 4, 3) := by decide +kernel
theorem dX3_takeDigit_152 : decode cX3_takeDigit 152 = .ok (.iload_n 2, 1) := by decide +kernel
theorem dX3_takeDigit_153 : decode cX3_takeDigit 153 = .ok (.invokevirtual 41, 3) := by decide +kernel
theorem dX3_takeDigit_156 : decode cX3_takeDigit 156 = .ok (.iload 4, 2) := by decide +kernel
theorem dX3_takeDigit_158 : decode cX3_takeDigit 158 = .ok (.ifCond .ne 8, 3) := by decide +kernel
theorem dX3_takeDigit_161 : decode cX3_takeDigit 161 = .ok (.iload 5, 2) := by decide +kernel
theorem dX3_takeDigit_163 : decode cX3_takeDigit 163 = .ok (.ifCond .eq 7, 3) := by decide +kernel
theorem dX3_takeDigit_166 : decode cX3_takeDigit 166 = .ok (.iconst 1, 1) := by decide +kernel
theorem dX3_takeDigit_167 : decode cX3_takeDigit 167 = .ok (.goto 4, 3) := by decide +kernel
theorem dX3_takeDigit_170 : decode cX3_takeDigit 170 = .ok (.iconst 0, 1) := by decide +kernel
theorem dX3_takeDigit_171 : decode cX3_takeDigit 171 = .ok (.ireturn, 1) := by decide +kernel
theorem dX3_isNearerUp_0 : decode cX3_isNearerUp 0 = .ok (.aload_n 0, 1) := by decide +kernel
theorem dX3_isNearerUp_1 : decode cX3_isNearerUp 1 = .ok (.getfield 38, 3) := by decide +kernel
theorem dX3_isNearerUp_4 : decode cX3_isNearerUp 4 = .ok (.aload_n 0, 1) := by decide +kernel
theorem dX3_isNearerUp_5 : decode cX3_isNearerUp 5 = .ok (.getfield 25, 3) := by decide +kernel
theorem dX3_isNearerUp_8 : decode cX3_isNearerUp 8 = .ok (.invokevirtual 91, 3) := by decide +kernel
theorem dX3_isNearerUp_11 : decode cX3_isNearerUp 11 = .ok (.aload_n 0, 1) := by decide +kernel
theorem dX3_isNearerUp_12 : decode cX3_isNearerUp 12 = .ok (.getfield 38, 3) := by decide +kernel
theorem dX3_isNearerUp_15 : decode cX3_isNearerUp 15 = .ok (.iconst 1, 1) := by decide +kernel
theorem dX3_isNearerUp_16 : decode cX3_isNearerUp 16 = .ok (.invokevirtual 85, 3) := by decide +kernel
theorem dX3_isNearerUp_19 : decode cX3_isNearerUp 19 = .ok (.aload_n 0, 1) := by decide +kernel
theorem dX3_isNearerUp_20 : decode cX3_isNearerUp 20 = .ok (.getfield 38, 3) := by decide +kernel
theorem dX3_isNearerUp_23 : decode cX3_isNearerUp 23 = .ok (.aload_n 0, 1) := by decide +kernel
theorem dX3_isNearerUp_24 : decode cX3_isNearerUp 24 = .ok (.getfield 29, 3) := by decide +kernel
theorem dX3_isNearerUp_27 : decode cX3_isNearerUp 27 = .ok (.invokevirtual 98, 3) := by decide +kernel
theorem dX3_isNearerUp_30 : decode cX3_isNearerUp 30 = .ok (.istore_n 2, 1) := by decide +kernel
theorem dX3_isNearerUp_31 : decode cX3_isNearerUp 31 = .ok (.iload_n 2, 1) := by decide +kernel
theorem dX3_isNearerUp_32 : decode cX3_isNearerUp 32 = .ok (.ifCond .gt 14, 3) := by decide +kernel
theorem dX3_isNearerUp_35 : decode cX3_isNearerUp 35 = .ok (.iload_n 2, 1) := by decide +kernel
theorem dX3_isNearerUp_36 : decode cX3_isNearerUp 36 = .ok (.ifCond .ne 14, 3) := by decide +kernel
theorem dX3_isNearerUp_39 : decode cX3_isNearerUp 39 = .ok (.iload_n 1, 1) := by decide +kernel
theorem dX3_isNearerUp_40 : decode cX3_isNearerUp 40 = .ok (.iconst 1, 1) := by decide +kernel
theorem dX3_isNearerUp_41 : decode cX3_isNearerUp 41 = .ok (.iand, 1) := by decide +kernel
theorem dX3_isNearerUp_42 : decode cX3_isNearerUp 42 = .ok (.iconst 1, 1) := by decide +kernel
theorem dX3_isNearerUp_43 : decode cX3_isNearerUp 43 = .ok (.if_icmp .ne 7, 3) := by decide +kernel
theorem dX3_isNearerUp_46 : decode cX3_isNearerUp 46 = .ok (.iconst 1, 1) := by decide +kernel
theorem dX3_isNearerUp_47 : decode cX3_isNearerUp 47 = .ok (.goto 4, 3) := by decide +kernel
theorem dX3_isNearerUp_50 : decode cX3_isNearerUp 50 = .ok (.iconst 0, 1) := by decide +kernel
theorem dX3_isNearerUp_51 : decode cX3_isNearerUp 51 = .ok (.ireturn, 1) := by decide +kernel
theorem dX4_init_0 : decode cX4_init 0 = .ok (.aload_n 0, 1) := by decide +kernel
theorem dX4_init_1 : decode cX4_init 1 = .ok (.invokespecial 1, 3) := by decide +kernel
theorem dX4_init_4 : decode cX4_init 4 = .ok (.aload_n 0, 1) := by decide +kernel
theorem dX4_init_5 : decode cX4_init 5 = .ok (.new 7, 3) := by decide +kernel
theorem dX4_init_8 : decode cX4_init 8 = .ok (.dup, 1) := by decide +kernel
theorem dX4_init_9 : decode cX4_init 9 = .ok (.invokespecial 9, 3) := by decide +kernel
theorem dX4_init_12 : decode cX4_init 12 = .ok (.putfield 10, 3) := by decide +kernel
theorem dX4_init_15 : decode cX4_init 15 = .ok (.aload_n 0, 1) := by decide +kernel
theorem dX4_init_16 : decode cX4_init 16 = .ok (.aload_n 0, 1) := by decide +kernel
theorem dX4_init_17 : decode cX4_init 17 = .ok (.getfield 10, 3) := by decide +kernel
theorem dX4_init_20 : decode cX4_init 20 = .ok (.invokevirtual 16, 3) := by decide +kernel
theorem dX4_init_23 : decode cX4_init 23 = .ok (.putfield 20, 3) := by decide +kernel
theorem dX4_init_26 : decode cX4_init 26 = .ok (.aload_n 0, 1) := by decide +kernel
theorem dX4_init_27 : decode cX4_init 27 = .ok (.new 24, 3) := by decide +kernel
theorem dX4_init_30 : decode cX4_init 30 = .ok (.dup, 1) := by decide +kernel
theorem dX4_init_31 : decode cX4_init 31 = .ok (.invokespecial 26, 3) := by decide +kernel
theorem dX4_init_34 : decode cX4_init 34 = .ok (.putfield 27, 3) := by decide +kernel
theorem dX4_init_37 : decode cX4_init 37 = .ok (.aload_n 0, 1) := by decide +kernel
theorem dX4_init_38 : decode cX4_init 38 = .ok (.iconst 0, 1) := by decide +kernel
theorem dX4_init_39 : decode cX4_init 39 = .ok (.putfield 30, 3) := by decide +kernel
theorem dX4_init_42 : decode cX4_init 42 = .ok (.aload_n 0, 1) := by decide +kernel
theorem dX4_init_43 : decode cX4_init 43 = .ok (.iconst 0, 1) := by decide +kernel
theorem dX4_init_44 : decode cX4_init 44 = .ok (.putfield 34, 3) := by decide +kernel
theorem dX4_init_47 : decode cX4_init 47 = .ok (.aload_n 0, 1) := by decide +kernel
theorem dX4_init_48 : decode cX4_init 48 = .ok (.lconst 0, 1) := by decide +kernel
theorem dX4_init_49 : decode cX4_init 49 = .ok (.putfield 38, 3) := by decide +kernel
theorem dX4_init_52 : decode cX4_init 52 = .ok (.aload_n 0, 1) := by decide +kernel
theorem dX4_init_53 : decode cX4_init 53 = .ok (.iconst 0, 1) := by decide +kernel
theorem dX4_init_54 : decode cX4_init 54 = .ok (.putfield 42, 3) := by decide +kernel
theorem dX4_init_57 : decode cX4_init 57 = .ok (.aload_n 0, 1) := by decide +kernel
theorem dX4_init_58 : decode cX4_init 58 = .ok (.new 45, 3) := by decide +kernel
theorem dX4_init_61 : decode cX4_init 61 = .ok (.dup, 1) := by decide +kernel
theorem dX4_init_62 : decode cX4_init 62 = .ok (.invokespecial 47, 3) := by decide +kernel
theorem dX4_init_65 : decode cX4_init 65 = .ok (.putfield 48, 3) := by decide +kernel
theorem dX4_init_68 : decode cX4_init 68 = .ok (.aload_n 0, 1) := by decide +kernel
theorem dX4_init_69 : decode cX4_init 69 = .ok (.new 45, 3) := by decide +kernel
theorem dX4_init_72 : decode cX4_init 72 = .ok (.dup, 1) := by decide +kernel
theorem dX4_init_73 : decode cX4_init 73 = .ok (.invokespecial 47, 3) := by decide +kernel
theorem dX4_init_76 : decode cX4_init 76 = .ok (.putfield 52, 3) := by decide +kernel
theorem dX4_init_79 : decode cX4_init 79 = .ok (.aload_n 0, 1) := by decide +kernel
theorem dX4_init_80 : decode cX4_init 80 = .ok (.new 45, 3) := by decide +kernel
theorem dX4_init_83 : decode cX4_init 83 = .ok (.dup, 1) := by decide +kernel
theorem dX4_init_84 : decode cX4_init 84 = .ok (.invokespecial 47, 3) := by decide +kernel
theorem dX4_init_87 : decode cX4_init 87 = .ok (.putfield 55, 3) := by decide +kernel
theorem dX4_init_90 : decode cX4_init 90 = .ok (.aload_n 0, 1) := by decide +kernel
theorem dX4_init_91 : decode cX4_init 91 = .ok (.new 45, 3) := by decide +kernel
theorem dX4_init_94 : decode cX4_init 94 = .ok (.dup, 1) := by decide +kernel
theorem dX4_init_95 : decode cX4_init 95 = .ok (.invokespecial 47, 3) := by decide +kernel
theorem dX4_init_98 : decode cX4_init 98 = .ok (.putfield 58, 3) := by decide +kernel
theorem dX4_init_101 : decode cX4_init 101 = .ok (.aload_n 0, 1) := by decide +kernel
theorem dX4_init_102 : decode cX4_init 102 = .ok (.new 61, 3) := by decide +kernel
theorem dX4_init_105 : decode cX4_init 105 = .ok (.dup, 1) := by decide +kernel
theorem dX4_init_106 : decode cX4_init 106 = .ok (.invokespecial 63, 3) := by decide +kernel
theorem dX4_init_109 : decode cX4_init 109 = .ok (.putfield 64, 3) := by decide +kernel
theorem dX4_init_112 : decode cX4_init 112 = .ok (.return_, 1) := by decide +kernel
theorem dX4_type_0 : decode cX4_type 0 = .ok (.iload_n 1, 1) := by decide +kernel
theorem dX4_type_1 : decode cX4_type 1 = .ok (.ifCond .lt 22, 3) := by decide +kernel
theorem dX4_type_4 : decode cX4_type 4 = .ok (.iload_n 1, 1) := by decide +kernel
theorem dX4_type_5 : decode cX4_type 5 = .ok (.bipush 127, 2) := by decide +kernel
theorem dX4_type_7 : decode cX4_type 7 = .ok (.if_icmp .gt 16, 3) := by decide +kernel
theorem dX4_type_10 : decode cX4_type 10 = .ok (.aload_n 0, 1) := by decide +kernel
theorem dX4_type_11 : decode cX4_type 11 = .ok (.getfield 20, 3) := by decide +kernel
theorem dX4_type_14 : decode cX4_type 14 = .ok (.invokevirtual 68, 3) := by decide +kernel
theorem dX4_type_17 : decode cX4_type 17 = .ok (.sipush 400, 3) := by decide +kernel
theorem dX4_type_20 : decode cX4_type 20 = .ok (.if_icmp .lt 5, 3) := by decide +kernel
theorem dX4_type_23 : decode cX4_type 23 = .ok (.iconst (-1), 1) := by decide +kernel
theorem dX4_type_24 : decode cX4_type 24 = .ok (.ireturn, 1) := by decide +kernel
theorem dX4_type_25 : decode cX4_type 25 = .ok (.aload_n 0, 1) := by decide +kernel
theorem dX4_type_26 : decode cX4_type 26 = .ok (.getfield 20, 3) := by decide +kernel
theorem dX4_type_29 : decode cX4_type 29 = .ok (.iload_n 1, 1) := by decide +kernel
theorem dX4_type_30 : decode cX4_type 30 = .ok (.invokevirtual 72, 3) := by decide +kernel
theorem dX4_type_33 : decode cX4_type 33 = .ok (.aload_n 0, 1) := by decide +kernel
theorem dX4_type_34 : decode cX4_type 34 = .ok (.getfield 20, 3) := by decide +kernel
theorem dX4_type_37 : decode cX4_type 37 = .ok (.invokevirtual 68, 3) := by decide +kernel
theorem dX4_type_40 : decode cX4_type 40 = .ok (.ireturn, 1) := by decide +kernel
theorem dX4_clear_0 : decode cX4_clear 0 = .ok (.aload_n 0, 1) := by decide +kernel
theorem dX4_clear_1 : decode cX4_clear 1 = .ok (.getfield 20, 3) := by decide +kernel
theorem dX4_clear_4 : decode cX4_clear 4 = .ok (.invokevirtual 76, 3) := by decide +kernel
theorem dX4_clear_7 : decode cX4_clear 7 = .ok (.return_, 1) := by decide +kernel
theorem dX4_read_0 : decode cX4_read 0 = .ok (.aload_n 0, 1) := by decide +kernel
theorem dX4_read_1 : decode cX4_read 1 = .ok (.invokevirtual 79, 3) := by decide +kernel
theorem dX4_read_4 : decode cX4_read 4 = .ok (.aload_n 0, 1) := by decide +kernel
theorem dX4_read_5 : decode cX4_read 5 = .ok (.getfield 10, 3) := by decide +kernel
theorem dX4_read_8 : decode cX4_read 8 = .ok (.aload_n 0, 1) := by decide +kernel
theorem dX4_read_9 : decode cX4_read 9 = .ok (.getfield 48, 3) := by decide +kernel
theorem dX4_read_12 : decode cX4_read 12 = .ok (.aload_n 0, 1) := by decide +kernel
theorem dX4_read_13 : decode cX4_read 13 = .ok (.getfield 52, 3) := by decide +kernel
theorem dX4_read_16 : decode cX4_read 16 = .ok (.invokevirtual 82, 3) := by decide +kernel
theorem dX4_read_19 : decode cX4_read 19 = .ok (.istore_n 1, 1) := by decide +kernel
theorem dX4_read_20 : decode cX4_read 20 = .ok (.aload_n 0, 1) := by decide +kernel
theorem dX4_read_21 : decode cX4_read 21 = .ok (.getfield 10, 3) := by decide +kernel
theorem dX4_read_24 : decode cX4_read 24 = .ok (.invokevirtual 86, 3) := by decide +kernel
theorem dX4_read_27 : decode cX4_read 27 = .ok (.istore_n 2, 1) := by decide +kernel
theorem dX4_read_28 : decode cX4_read 28 = .ok (.iload_n 1, 1) := by decide +kernel
theorem dX4_read_29 : decode cX4_read 29 = .ok (.iconst 3, 1) := by decide +kernel
theorem dX4_read_30 : decode cX4_read 30 = .ok (.if_icmp .ne 11, 3) := by decide +kernel
theorem dX4_read_33 : decode cX4_read 33 = .ok (.aload_n 0, 1) := by decide +kernel
theorem dX4_read_34 : decode cX4_read 34 = .ok (.iload_n 2, 1) := by decide +kernel
theorem dX4_read_35 : decode cX4_read 35 = .ok (.invokevirtual 90, 3) := by decide +kernel
theorem dX4_read_38 : decode cX4_read 38 = .ok (.goto 110, 3) := by decide +kernel
theorem dX4_read_41 : decode cX4_read 41 = .ok (.iload_n 1, 1) := by decide +kernel
theorem dX4_read_42 : decode cX4_read 42 = .ok (.iconst 4, 1) := by decide +kernel
theorem dX4_read_43 : decode cX4_read 43 = .ok (.if_icmp .ne 10, 3) := by decide +kernel
theorem dX4_read_46 : decode cX4_read 46 = .ok (.aload_n 0, 1) := by decide +kernel
theorem dX4_read_47 : decode cX4_read 47 = .ok (.invokevirtual 94, 3) := by decide +kernel
theorem dX4_read_50 : decode cX4_read 50 = .ok (.goto 98, 3) := by decide +kernel
theorem dX4_read_53 : decode cX4_read 53 = .ok (.iload_n 1, 1) := by decide +kernel
theorem dX4_read_54 : decode cX4_read 54 = .ok (.iconst 1, 1) := by decide +kernel
theorem dX4_read_55 : decode cX4_read 55 = .ok (.if_icmp .ne 22, 3) := by decide +kernel
theorem dX4_read_58 : decode cX4_read 58 = .ok (.aload_n 0, 1) := by decide +kernel
theorem dX4_read_59 : decode cX4_read 59 = .ok (.getfield 10, 3) := by decide +kernel
theorem dX4_read_62 : decode cX4_read 62 = .ok (.invokevirtual 97, 3) := by decide +kernel
theorem dX4_read_65 : decode cX4_read 65 = .ok (.ifCond .eq 12, 3) := by decide +kernel
theorem dX4_read_68 : decode cX4_read 68 = .ok (.aload_n 0, 1) := by decide +kernel
theorem dX4_read_69 : decode cX4_read 69 = .ok (.iload_n 2, 1) := by decide +kernel
theorem dX4_read_70 : decode cX4_read 70 = .ok (.iconst 0, 1) := by decide +kernel
theorem dX4_read_71 : decode cX4_read 71 = .ok (.invokevirtual 100, 3) := by decide +kernel
theorem dX4_read_74 : decode cX4_read 74 = .ok (.goto 74, 3) := by decide +kernel
theorem dX4_read_77 : decode cX4_read 77 = .ok (.iload_n 1, 1) := by decide +kernel
theorem dX4_read_78 : decode cX4_read 78 = .ok (.iconst 1, 1) := by decide +kernel
theorem dX4_read_79 : decode cX4_read 79 = .ok (.if_icmp .ne 15, 3) := by decide +kernel
theorem dX4_read_82 : decode cX4_read 82 = .ok (.aload_n 0, 1) := by decide +kernel
theorem dX4_read_83 : decode cX4_read 83 = .ok (.invokevirtual 104, 3) := by decide +kernel
theorem dX4_read_86 : decode cX4_read 86 = .ok (.aload_n 0, 1) := by decide +kernel
theorem dX4_read_87 : decode cX4_read 87 = .ok (.iload_n 2, 1) := by decide +kernel
theorem dX4_read_88 : decode cX4_read 88 = .ok (.invokevirtual 107, 3) := by decide +kernel
theorem dX4_read_91 : decode cX4_read 91 = .ok (.goto 57, 3) := by decide +kernel
theorem dX4_read_94 : decode cX4_read 94 = .ok (.iload_n 1, 1) := by decide +kernel
theorem dX4_read_95 : decode cX4_read 95 = .ok (.iconst 2, 1) := by decide +kernel
theorem dX4_read_96 : decode cX4_read 96 = .ok (.if_icmp .ne 28, 3) := by decide +kernel
theorem dX4_read_99 : decode cX4_read 99 = .ok (.aload_n 0, 1) := by decide +kernel
theorem dX4_read_100 : decode cX4_read 100 = .ok (.getfield 10, 3) := by decide +kernel
theorem dX4_read_103 : decode cX4_read 103 = .ok (.invokevirtual 110, 3) := by decide +kernel
theorem dX4_read_106 : decode cX4_read 106 = .ok (.ifCond .eq 18, 3) := by decide +kernel
theorem dX4_read_109 : decode cX4_read 109 = .ok (.aload_n 0, 1) := by decide +kernel
theorem dX4_read_110 : decode cX4_read 110 = .ok (.iload_n 2, 1) := by decide +kernel
theorem dX4_read_111 : decode cX4_read 111 = .ok (.aload_n 0, 1) := by decide +kernel
theorem dX4_read_112 : decode cX4_read 112 = .ok (.getfield 10, 3) := by decide +kernel
theorem dX4_read_115 : decode cX4_read 115 = .ok (.invokevirtual 113, 3) := by decide +kernel
theorem dX4_read_118 : decode cX4_read 118 = .ok (.invokevirtual 116, 3) := by decide +kernel
theorem dX4_read_121 : decode cX4_read 121 = .ok (.goto 27, 3) := by decide +kernel
theorem dX4_read_124 : decode cX4_read 124 = .ok (.iload_n 1, 1) := by decide +kernel
theorem dX4_read_125 : decode cX4_read 125 = .ok (.iconst 2, 1) := by decide +kernel
theorem dX4_read_126 : decode cX4_read 126 = .ok (.if_icmp .ne 22, 3) := by decide +kernel
theorem dX4_read_129 : decode cX4_read 129 = .ok (.aload_n 0, 1) := by decide +kernel
theorem dX4_read_130 : decode cX4_read 130 = .ok (.iload_n 2, 1) := by decide +kernel
theorem dX4_read_131 : decode cX4_read 131 = .ok (.aload_n 0, 1) := by decide +kernel
theorem dX4_read_132 : decode cX4_read 132 = .ok (.getfield 10, 3) := by decide +kernel
theorem dX4_read_135 : decode cX4_read 135 = .ok (.invokevirtual 113, 3) := by decide +kernel
theorem dX4_read_138 : decode cX4_read 138 = .ok (.aload_n 0, 1) := by decide +kernel
theorem dX4_read_139 : decode cX4_read 139 = .ok (.getfield 10, 3) := by decide +kernel
theorem dX4_read_142 : decode cX4_read 142 = .ok (.invokevirtual 119, 3) := by decide +kernel
theorem dX4_read_145 : decode cX4_read 145 = .ok (.invokevirtual 122, 3) := by decide +kernel
theorem dX4_read_148 : decode cX4_read 148 = .ok (.aload_n 0, 1) := by decide +kernel
theorem dX4_read_149 : decode cX4_read 149 = .ok (.getfield 30, 3) := by decide +kernel
theorem dX4_read_152 : decode cX4_read 152 = .ok (.ifCond .ne 7, 3) := by decide +kernel
theorem dX4_read_155 : decode cX4_read 155 = .ok (.iconst 0, 1) := by decide +kernel
theorem dX4_read_156 : decode cX4_read 156 = .ok (.goto 16, 3) := by decide +kernel
theorem dX4_read_159 : decode cX4_read 159 = .ok (.aload_n 0, 1) := by decide +kernel
theorem dX4_read_160 : decode cX4_read 160 = .ok (.getfield 30, 3) := by decide +kernel
theorem dX4_read_163 : decode cX4_read 163 = .ok (.iconst 1, 1) := by decide +kernel
theorem dX4_read_164 : decode cX4_read 164 = .ok (.if_icmp .ne 7, 3) := by decide +kernel
theorem dX4_read_167 : decode cX4_read 167 = .ok (.iconst 1, 1) := by decide +kernel
theorem dX4_read_168 : decode cX4_read 168 = .ok (.goto 4, 3) := by decide +kernel
theorem dX4_read_171 : decode cX4_read 171 = .ok (.iconst 2, 1) := by decide +kernel
theorem dX4_read_172 : decode cX4_read 172 = .ok (.ireturn, 1) := by decide +kernel
theorem dX4_make_0 : decode cX4_make 0 = .ok (.lload_n 2, 1) := by decide +kernel
theorem dX4_make_1 : decode cX4_make 1 = .ok (.lconst 0, 1) := by decide +kernel
theorem dX4_make_2 : decode cX4_make 2 = .ok (.lcmp, 1) := by decide +kernel
theorem dX4_make_3 : decode cX4_make 3 = .ok (.ifCond .lt 19, 3) := by decide +kernel
theorem dX4_make_6 : decode cX4_make 6 = .ok (.iload 4, 2) := by decide +kernel
theorem dX4_make_8 : decode cX4_make 8 = .ok (.sipush (-2000), 3) := by decide +kernel
theorem dX4_make_11 : decode cX4_make 11 = .ok (.if_icmp .lt 11, 3) := by decide +kernel
theorem dX4_make_14 : decode cX4_make 14 = .ok (.iload 4, 2) := by decide +kernel
theorem dX4_make_16 : decode cX4_make 16 = .ok (.sipush 2000, 3) := by decide +kernel
theorem dX4_make_19 : decode cX4_make 19 = .ok (.if_icmp .le 5, 3) := by decide +kernel
theorem dX4_make_22 : decode cX4_make 22 = .ok (.iconst 0, 1) := by decide +kernel
theorem dX4_make_23 : decode cX4_make 23 = .ok (.ireturn, 1) := by decide +kernel
theorem dX4_make_24 : decode cX4_make 24 = .ok (.aload_n 0, 1) := by decide +kernel
theorem dX4_make_25 : decode cX4_make 25 = .ok (.getfield 48, 3) := by decide +kernel
theorem dX4_make_28 : decode cX4_make 28 = .ok (.lload_n 2, 1) := by decide +kernel
theorem dX4_make_29 : decode cX4_make 29 = .ok (.invokevirtual 126, 3) := by decide +kernel
theorem dX4_make_32 : decode cX4_make 32 = .ok (.aload_n 0, 1) := by decide +kernel
theorem dX4_make_33 : decode cX4_make 33 = .ok (.getfield 52, 3) := by decide +kernel
theorem dX4_make_36 : decode cX4_make 36 = .ok (.lconst 1, 1) := by decide +kernel
theorem dX4_make_37 : decode cX4_make 37 = .ok (.invokevirtual 126, 3) := by decide +kernel
theorem dX4_make_40 : decode cX4_make 40 = .ok (.aload_n 0, 1) := by decide +kernel
theorem dX4_make_41 : decode cX4_make 41 = .ok (.iload_n 1, 1) := by decide +kernel
theorem dX4_make_42 : decode cX4_make 42 = .ok (.iload 4, 2) := by decide +kernel
theorem dX4_make_44 : decode cX4_make 44 = .ok (.invokevirtual 100, 3) := by decide +kernel
theorem dX4_make_47 : decode cX4_make 47 = .ok (.iconst 1, 1) := by decide +kernel
theorem dX4_make_48 : decode cX4_make 48 = .ok (.ireturn, 1) := by decide +kernel
theorem dX4_divide_0 : decode cX4_divide 0 = .ok (.lload_n 3, 1) := by decide +kernel
theorem dX4_divide_1 : decode cX4_divide 1 = .ok (.lconst 0, 1) := by decide +kernel
theorem dX4_divide_2 : decode cX4_divide 2 = .ok (.lcmp, 1) := by decide +kernel
theorem dX4_divide_3 : decode cX4_divide 3 = .ok (.ifCond .gt 5, 3) := by decide +kernel
theorem dX4_divide_6 : decode cX4_divide 6 = .ok (.iconst 0, 1) := by decide +kernel
theorem dX4_divide_7 : decode cX4_divide 7 = .ok (.ireturn, 1) := by decide +kernel
theorem dX4_divide_8 : decode cX4_divide 8 = .ok (.aload_n 0, 1) := by decide +kernel
theorem dX4_divide_9 : decode cX4_divide 9 = .ok (.getfield 48, 3) := by decide +kernel
theorem dX4_divide_12 : decode cX4_divide 12 = .ok (.lload_n 1, 1) := by decide +kernel
theorem dX4_divide_13 : decode cX4_divide 13 = .ok (.lconst 0, 1) := by decide +kernel
theorem dX4_divide_14 : decode cX4_divide 14 = .ok (.lcmp, 1) := by decide +kernel
theorem dX4_divide_15 : decode cX4_divide 15 = .ok (.ifCond .ge 8, 3) := by decide +kernel
theorem dX4_divide_18 : decode cX4_divide 18 = .ok (.lload_n 1, 1) := by decide +kernel
theorem dX4_divide_19 : decode cX4_divide 19 = .ok (.lneg, 1) := by decide +kernel
theorem dX4_divide_20 : decode cX4_divide 20 = .ok (.goto 4, 3) := by decide +kernel
theorem dX4_divide_23 : decode cX4_divide 23 = .ok (.lload_n 1, 1) := by decide +kernel
theorem dX4_divide_24 : decode cX4_divide 24 = .ok (.invokevirtual 126, 3) := by decide +kernel
theorem dX4_divide_27 : decode cX4_divide 27 = .ok (.aload_n 0, 1) := by decide +kernel
theorem dX4_divide_28 : decode cX4_divide 28 = .ok (.getfield 52, 3) := by decide +kernel
theorem dX4_divide_31 : decode cX4_divide 31 = .ok (.lload_n 3, 1) := by decide +kernel
theorem dX4_divide_32 : decode cX4_divide 32 = .ok (.invokevirtual 126, 3) := by decide +kernel
theorem dX4_divide_35 : decode cX4_divide 35 = .ok (.aload_n 0, 1) := by decide +kernel
theorem dX4_divide_36 : decode cX4_divide 36 = .ok (.lload_n 1, 1) := by decide +kernel
theorem dX4_divide_37 : decode cX4_divide 37 = .ok (.lconst 0, 1) := by decide +kernel
theorem dX4_divide_38 : decode cX4_divide 38 = .ok (.lcmp, 1) := by decide +kernel
theorem dX4_divide_39 : decode cX4_divide 39 = .ok (.ifCond .ge 7, 3) := by decide +kernel
theorem dX4_divide_42 : decode cX4_divide 42 = .ok (.iconst 1, 1) := by decide +kernel
theorem dX4_divide_43 : decode cX4_divide 43 = .ok (.goto 4, 3) := by decide +kernel
theorem dX4_divide_46 : decode cX4_divide 46 = .ok (.iconst 0, 1) := by decide +kernel
theorem dX4_divide_47 : decode cX4_divide 47 = .ok (.iconst 0, 1) := by decide +kernel
theorem dX4_divide_48 : decode cX4_divide 48 = .ok (.invokevirtual 100, 3) := by decide +kernel
theorem dX4_divide_51 : decode cX4_divide 51 = .ok (.iconst 1, 1) := by decide +kernel
theorem dX4_divide_52 : decode cX4_divide 52 = .ok (.ireturn, 1) := by decide +kernel
theorem dX4_exact_0 : decode cX4_exact 0 = .ok (.aload_n 0, 1) := by decide +kernel
theorem dX4_exact_1 : decode cX4_exact 1 = .ok (.getfield 30, 3) := by decide +kernel
theorem dX4_exact_4 : decode cX4_exact 4 = .ok (.iconst 2, 1) := by decide +kernel
theorem dX4_exact_5 : decode cX4_exact 5 = .ok (.if_icmp .eq 5, 3) := by decide +kernel
theorem dX4_exact_8 : decode cX4_exact 8 = .ok (.iconst 0, 1) := by decide +kernel
theorem dX4_exact_9 : decode cX4_exact 9 = .ok (.ireturn, 1) := by decide +kernel
theorem dX4_exact_10 : decode cX4_exact 10 = .ok (.aload_n 0, 1) := by decide +kernel
theorem dX4_exact_11 : decode cX4_exact 11 = .ok (.getfield 48, 3) := by decide +kernel
theorem dX4_exact_14 : decode cX4_exact 14 = .ok (.aload_n 0, 1) := by decide +kernel
theorem dX4_exact_15 : decode cX4_exact 15 = .ok (.getfield 38, 3) := by decide +kernel
theorem dX4_exact_18 : decode cX4_exact 18 = .ok (.invokevirtual 126, 3) := by decide +kernel
theorem dX4_exact_21 : decode cX4_exact 21 = .ok (.aload_n 0, 1) := by decide +kernel
theorem dX4_exact_22 : decode cX4_exact 22 = .ok (.getfield 52, 3) := by decide +kernel
theorem dX4_exact_25 : decode cX4_exact 25 = .ok (.lconst 1, 1) := by decide +kernel
theorem dX4_exact_26 : decode cX4_exact 26 = .ok (.invokevirtual 126, 3) := by decide +kernel
theorem dX4_exact_29 : decode cX4_exact 29 = .ok (.aload_n 0, 1) := by decide +kernel
theorem dX4_exact_30 : decode cX4_exact 30 = .ok (.getfield 42, 3) := by decide +kernel
theorem dX4_exact_33 : decode cX4_exact 33 = .ok (.ifCond .lt 17, 3) := by decide +kernel
theorem dX4_exact_36 : decode cX4_exact 36 = .ok (.aload_n 0, 1) := by decide +kernel
theorem dX4_exact_37 : decode cX4_exact 37 = .ok (.getfield 48, 3) := by decide +kernel
theorem dX4_exact_40 : decode cX4_exact 40 = .ok (.aload_n 0, 1) := by decide +kernel
theorem dX4_exact_41 : decode cX4_exact 41 = .ok (.getfield 42, 3) := by decide +kernel
theorem dX4_exact_44 : decode cX4_exact 44 = .ok (.invokevirtual 130, 3) := by decide +kernel
theorem dX4_exact_47 : decode cX4_exact 47 = .ok (.goto 50, 3) := by decide +kernel
theorem dX4_exact_50 : decode cX4_exact 50 = .ok (.aload_n 0, 1) := by decide +kernel
theorem dX4_exact_51 : decode cX4_exact 51 = .ok (.getfield 38, 3) := by decide +kernel
theorem dX4_exact_54 : decode cX4_exact 54 = .ok (.lconst 0, 1) := by decide +kernel
theorem dX4_exact_55 : decode cX4_exact 55 = .ok (.lcmp, 1) := by decide +kernel
theorem dX4_exact_56 : decode cX4_exact 56 = .ok (.ifCond .eq 41, 3) := by decide +kernel
theorem dX4_exact_59 : decode cX4_exact 59 = .ok (.aload_n 0, 1) := by decide +kernel
theorem dX4_exact_60 : decode cX4_exact 60 = .ok (.getfield 38, 3) := by decide +kernel
theorem dX4_exact_63 : decode cX4_exact 63 = .ok (.invokestatic 133, 3) := by decide +kernel
theorem dX4_exact_66 : decode cX4_exact 66 = .ok (.aload_n 0, 1) := by decide +kernel
theorem dX4_exact_67 : decode cX4_exact 67 = .ok (.getfield 42, 3) := by decide +kernel
theorem dX4_exact_70 : decode cX4_exact 70 = .ok (.ineg, 1) := by decide +kernel
theorem dX4_exact_71 : decode cX4_exact 71 = .ok (.invokestatic 139, 3) := by decide +kernel
theorem dX4_exact_74 : decode cX4_exact 74 = .ok (.istore_n 1, 1) := by decide +kernel
theorem dX4_exact_75 : decode cX4_exact 75 = .ok (.aload_n 0, 1) := by decide +kernel
theorem dX4_exact_76 : decode cX4_exact 76 = .ok (.getfield 48, 3) := by decide +kernel
theorem dX4_exact_79 : decode cX4_exact 79 = .ok (.iload_n 1, 1) := by decide +kernel
theorem dX4_exact_80 : decode cX4_exact 80 = .ok (.invokevirtual 145, 3) := by decide +kernel
theorem dX4_exact_83 : decode cX4_exact 83 = .ok (.aload_n 0, 1) := by decide +kernel
theorem dX4_exact_84 : decode cX4_exact 84 = .ok (.getfield 52, 3) := by decide +kernel
theorem dX4_exact_87 : decode cX4_exact 87 = .ok (.aload_n 0, 1) := by decide +kernel
theorem dX4_exact_88 : decode cX4_exact 88 = .ok (.getfield 42, 3) := by decide +kernel
theorem dX4_exact_91 : decode cX4_exact 91 = .ok (.ineg, 1) := by decide +kernel
theorem dX4_exact_92 : decode cX4_exact 92 = .ok (.iload_n 1, 1) := by decide +kernel
theorem dX4_exact_93 : decode cX4_exact 93 = .ok (.isub, 1) := by decide +kernel
theorem dX4_exact_94 : decode cX4_exact 94 = .ok (.invokevirtual 130, 3) := by decide +kernel
theorem dX4_exact_97 : decode cX4_exact 97 = .ok (.aload_n 0, 1) := by decide +kernel
theorem dX4_exact_98 : decode cX4_exact 98 = .ok (.aload_n 0, 1) := by decide +kernel
theorem dX4_exact_99 : decode cX4_exact 99 = .ok (.getfield 34, 3) := by decide +kernel
theorem dX4_exact_102 : decode cX4_exact 102 = .ok (.invokevirtual 107, 3) := by decide +kernel
theorem dX4_exact_105 : decode cX4_exact 105 = .ok (.iconst 1, 1) := by decide +kernel
theorem dX4_exact_106 : decode cX4_exact 106 = .ok (.ireturn, 1) := by decide +kernel
theorem dX4_inexact_0 : decode cX4_inexact 0 = .ok (.aload_n 0, 1) := by decide +kernel
theorem dX4_inexact_1 : decode cX4_inexact 1 = .ok (.getfield 30, 3) := by decide +kernel
theorem dX4_inexact_4 : decode cX4_inexact 4 = .ok (.iconst 1, 1) := by decide +kernel
theorem dX4_inexact_5 : decode cX4_inexact 5 = .ok (.if_icmp .eq 5, 3) := by decide +kernel
theorem dX4_inexact_8 : decode cX4_inexact 8 = .ok (.iconst 0, 1) := by decide +kernel
theorem dX4_inexact_9 : decode cX4_inexact 9 = .ok (.ireturn, 1) := by decide +kernel
theorem dX4_inexact_10 : decode cX4_inexact 10 = .ok (.aload_n 0, 1) := by decide +kernel
theorem dX4_inexact_11 : decode cX4_inexact 11 = .ok (.aload_n 0, 1) := by decide +kernel
theorem dX4_inexact_12 : decode cX4_inexact 12 = .ok (.getfield 34, 3) := by decide +kernel
theorem dX4_inexact_15 : decode cX4_inexact 15 = .ok (.iconst 0, 1) := by decide +kernel
theorem dX4_inexact_16 : decode cX4_inexact 16 = .ok (.invokevirtual 100, 3) := by decide +kernel
theorem dX4_inexact_19 : decode cX4_inexact 19 = .ok (.iconst 1, 1) := by decide +kernel
theorem dX4_inexact_20 : decode cX4_inexact 20 = .ok (.ireturn, 1) := by decide +kernel
theorem dX4_kind_0 : decode cX4_kind 0 = .ok (.aload_n 0, 1) := by decide +kernel
theorem dX4_kind_1 : decode cX4_kind 1 = .ok (.getfield 30, 3) := by decide +kernel
theorem dX4_kind_4 : decode cX4_kind 4 = .ok (.ireturn, 1) := by decide +kernel
theorem dX4_negative_0 : decode cX4_negative 0 = .ok (.aload_n 0, 1) := by decide +kernel
theorem dX4_negative_1 : decode cX4_negative 1 = .ok (.getfield 34, 3) := by decide +kernel
theorem dX4_negative_4 : decode cX4_negative 4 = .ok (.ireturn, 1) := by decide +kernel
theorem dX4_units_0 : decode cX4_units 0 = .ok (.aload_n 0, 1) := by decide +kernel
theorem dX4_units_1 : decode cX4_units 1 = .ok (.getfield 30, 3) := by decide +kernel
theorem dX4_units_4 : decode cX4_units 4 = .ok (.iconst 2, 1) := by decide +kernel
theorem dX4_units_5 : decode cX4_units 5 = .ok (.if_icmp .ne 10, 3) := by decide +kernel
theorem dX4_units_8 : decode cX4_units 8 = .ok (.aload_n 0, 1) := by decide +kernel
theorem dX4_units_9 : decode cX4_units 9 = .ok (.getfield 38, 3) := by decide +kernel
theorem dX4_units_12 : decode cX4_units 12 = .ok (.goto 6, 3) := by decide +kernel
theorem dX4_units_15 : decode cX4_units 15 = .ok (.ldc2_w 148, 3) := by decide +kernel
theorem dX4_units_18 : decode cX4_units 18 = .ok (.lreturn, 1) := by decide +kernel
theorem dX4_place_0 : decode cX4_place 0 = .ok (.aload_n 0, 1) := by decide +kernel
theorem dX4_place_1 : decode cX4_place 1 = .ok (.getfield 30, 3) := by decide +kernel
theorem dX4_place_4 : decode cX4_place 4 = .ok (.iconst 2, 1) := by decide +kernel
theorem dX4_place_5 : decode cX4_place 5 = .ok (.if_icmp .ne 10, 3) := by decide +kernel
theorem dX4_place_8 : decode cX4_place 8 = .ok (.aload_n 0, 1) := by decide +kernel
theorem dX4_place_9 : decode cX4_place 9 = .ok (.getfield 42, 3) := by decide +kernel
theorem dX4_place_12 : decode cX4_place 12 = .ok (.goto 4, 3) := by decide +kernel
theorem dX4_place_15 : decode cX4_place 15 = .ok (.iconst 0, 1) := by decide +kernel
theorem dX4_place_16 : decode cX4_place 16 = .ok (.ireturn, 1) := by decide +kernel
theorem dX4_bits_0 : decode cX4_bits 0 = .ok (.aload_n 0, 1) := by decide +kernel
theorem dX4_bits_1 : decode cX4_bits 1 = .ok (.getfield 30, 3) := by decide +kernel
theorem dX4_bits_4 : decode cX4_bits 4 = .ok (.iconst 1, 1) := by decide +kernel
theorem dX4_bits_5 : decode cX4_bits 5 = .ok (.if_icmp .eq 5, 3) := by decide +kernel
theorem dX4_bits_8 : decode cX4_bits 8 = .ok (.iconst (-1), 1) := by decide +kernel
theorem dX4_bits_9 : decode cX4_bits 9 = .ok (.ireturn, 1) := by decide +kernel
theorem dX4_bits_10 : decode cX4_bits 10 = .ok (.iload_n 1, 1) := by decide +kernel
theorem dX4_bits_11 : decode cX4_bits 11 = .ok (.ifCond .eq 13, 3) := by decide +kernel
theorem dX4_bits_14 : decode cX4_bits 14 = .ok (.aload_n 0, 1) := by decide +kernel
theorem dX4_bits_15 : decode cX4_bits 15 = .ok (.getfield 52, 3) := by decide +kernel
theorem dX4_bits_18 : decode cX4_bits 18 = .ok (.invokevirtual 150, 3) := by decide +kernel
theorem dX4_bits_21 : decode cX4_bits 21 = .ok (.goto 10, 3) := by decide +kernel
theorem dX4_bits_24 : decode cX4_bits 24 = .ok (.aload_n 0, 1) := by decide +kernel
theorem dX4_bits_25 : decode cX4_bits 25 = .ok (.getfield 48, 3) := by decide +kernel
theorem dX4_bits_28 : decode cX4_bits 28 = .ok (.invokevirtual 150, 3) := by decide +kernel
theorem dX4_bits_31 : decode cX4_bits 31 = .ok (.ireturn, 1) := by decide +kernel
theorem dX4_write_0 : decode cX4_write 0 = .ok (.aload_n 0, 1) := by decide +kernel
theorem dX4_write_1 : decode cX4_write 1 = .ok (.getfield 30, 3) := by decide +kernel
theorem dX4_write_4 : decode cX4_write 4 = .ok (.iconst 1, 1) := by decide +kernel
theorem dX4_write_5 : decode cX4_write 5 = .ok (.if_icmp .ne 7, 3) := by decide +kernel
theorem dX4_write_8 : decode cX4_write 8 = .ok (.iconst 1, 1) := by decide +kernel
theorem dX4_write_9 : decode cX4_write 9 = .ok (.goto 4, 3) := by decide +kernel
theorem dX4_write_12 : decode cX4_write 12 = .ok (.iconst 0, 1) := by decide +kernel
theorem dX4_write_13 : decode cX4_write 13 = .ok (.istore_n 2, 1) := by decide +kernel
theorem dX4_write_14 : decode cX4_write 14 = .ok (.aload_n 0, 1) := by decide +kernel
theorem dX4_write_15 : decode cX4_write 15 = .ok (.getfield 30, 3) := by decide +kernel
theorem dX4_write_18 : decode cX4_write 18 = .ok (.ifCond .eq 27, 3) := by decide +kernel
theorem dX4_write_21 : decode cX4_write 21 = .ok (.iload_n 2, 1) := by decide +kernel
theorem dX4_write_22 : decode cX4_write 22 = .ok (.ifCond .eq 17, 3) := by decide +kernel
theorem dX4_write_25 : decode cX4_write 25 = .ok (.iload_n 1, 1) := by decide +kernel
theorem dX4_write_26 : decode cX4_write 26 = .ok (.iconst 2, 1) := by decide +kernel
theorem dX4_write_27 : decode cX4_write 27 = .ok (.if_icmp .lt 18, 3) := by decide +kernel
theorem dX4_write_30 : decode cX4_write 30 = .ok (.iload_n 1, 1) := by decide +kernel
theorem dX4_write_31 : decode cX4_write 31 = .ok (.bipush 16, 2) := by decide +kernel
theorem dX4_write_33 : decode cX4_write 33 = .ok (.if_icmp .le 14, 3) := by decide +kernel
theorem dX4_write_36 : decode cX4_write 36 = .ok (.goto 9, 3) := by decide +kernel
theorem dX4_write_39 : decode cX4_write 39 = .ok (.iload_n 1, 1) := by decide +kernel
theorem dX4_write_40 : decode cX4_write 40 = .ok (.bipush 10, 2) := by decide +kernel
theorem dX4_write_42 : decode cX4_write 42 = .ok (.if_icmp .eq 5, 3) := by decide +kernel
theorem dX4_write_45 : decode cX4_write 45 = .ok (.iconst (-1), 1) := by decide +kernel
theorem dX4_write_46 : decode cX4_write 46 = .ok (.ireturn, 1) := by decide +kernel
theorem dX4_write_47 : decode cX4_write 47 = .ok (.aload_n 0, 1) := by decide +kernel
theorem dX4_write_48 : decode cX4_write 48 = .ok (.getfield 27, 3) := by decide +kernel
theorem dX4_write_51 : decode cX4_write 51 = .ok (.invokevirtual 76, 3) := by decide +kernel
theorem dX4_write_54 : decode cX4_write 54 = .ok (.iload_n 2, 1) := by decide +kernel
theorem dX4_write_55 : decode cX4_write 55 = .ok (.ifCond .eq 11, 3) := by decide +kernel
theorem dX4_write_58 : decode cX4_write 58 = .ok (.aload_n 0, 1) := by decide +kernel
theorem dX4_write_59 : decode cX4_write 59 = .ok (.iload_n 1, 1) := by decide +kernel
theorem dX4_write_60 : decode cX4_write 60 = .ok (.invokevirtual 153, 3) := by decide +kernel
theorem dX4_write_63 : decode cX4_write 63 = .ok (.goto 68, 3) := by decide +kernel
theorem dX4_write_66 : decode cX4_write 66 = .ok (.aload_n 0, 1) := by decide +kernel
theorem dX4_write_67 : decode cX4_write 67 = .ok (.getfield 30, 3) := by decide +kernel
theorem dX4_write_70 : decode cX4_write 70 = .ok (.iconst 2, 1) := by decide +kernel
theorem dX4_write_71 : decode cX4_write 71 = .ok (.if_icmp .ne 10, 3) := by decide +kernel
theorem dX4_write_74 : decode cX4_write 74 = .ok (.aload_n 0, 1) := by decide +kernel
theorem dX4_write_75 : decode cX4_write 75 = .ok (.invokevirtual 156, 3) := by decide +kernel
theorem dX4_write_78 : decode cX4_write 78 = .ok (.goto 53, 3) := by decide +kernel
theorem dX4_write_81 : decode cX4_write 81 = .ok (.aload_n 0, 1) := by decide +kernel
theorem dX4_write_82 : decode cX4_write 82 = .ok (.getfield 30, 3) := by decide +kernel
theorem dX4_write_85 : decode cX4_write 85 = .ok (.iconst 3, 1) := by decide +kernel
theorem dX4_write_86 : decode cX4_write 86 = .ok (.if_icmp .ne 36, 3) := by decide +kernel
theorem dX4_write_89 : decode cX4_write 89 = .ok (.aload_n 0, 1) := by decide +kernel
theorem dX4_write_90 : decode cX4_write 90 = .ok (.getfield 27, 3) := by decide +kernel
theorem dX4_write_93 : decode cX4_write 93 = .ok (.aload_n 0, 1) := by decide +kernel
theorem dX4_write_94 : decode cX4_write 94 = .ok (.getfield 34, 3) := by decide +kernel
theorem dX4_write_97 : decode cX4_write 97 = .ok (.ifCond .eq 8, 3) := by decide +kernel
theorem dX4_write_100 : decode cX4_write 100 = .ok (.bipush 45, 2) := by decide +kernel
theorem dX4_write_102 : decode cX4_write 102 = .ok (.goto 5, 3) := by decide +kernel
theorem dX4_write_105 : decode cX4_write 105 = .ok (.bipush 43, 2) := by decide +kernel
theorem dX4_write_107 : decode cX4_write 107 = .ok (.invokevirtual 72, 3) := by decide +kernel
theorem dX4_write_110 : decode cX4_write 110 = .ok (.aload_n 0, 1) := by decide +kernel
theorem dX4_write_111 : decode cX4_write 111 = .ok (.getfield 27, 3) := by decide +kernel
theorem dX4_write_114 : decode cX4_write 114 = .ok (.ldc 159, 2) := by decide +kernel
theorem dX4_write_116 : decode cX4_write 116 = .ok (.invokevirtual 161, 3) := by decide +kernel
theorem dX4_write_119 : decode cX4_write 119 = .ok (.goto 12, 3) := by decide +kernel
theorem dX4_write_122 : decode cX4_write 122 = .ok (.aload_n 0, 1) := by decide +kernel
theorem dX4_write_123 : decode cX4_write 123 = .ok (.getfield 27, 3) := by decide +kernel
theorem dX4_write_126 : decode cX4_write 126 = .ok (.ldc 164, 2) := by decide +kernel
theorem dX4_write_128 : decode cX4_write 128 = .ok (.invokevirtual 161, 3) := by decide +kernel
theorem dX4_write_131 : decode cX4_write 131 = .ok (.aload_n 0, 1) := by decide +kernel
theorem dX4_write_132 : decode cX4_write 132 = .ok (.getfield 27, 3) := by decide +kernel
theorem dX4_write_135 : decode cX4_write 135 = .ok (.invokevirtual 68, 3) := by decide +kernel
theorem dX4_write_138 : decode cX4_write 138 = .ok (.ireturn, 1) := by decide +kernel
theorem dX4_out_0 : decode cX4_out 0 = .ok (.aload_n 0, 1) := by decide +kernel
theorem dX4_out_1 : decode cX4_out 1 = .ok (.getfield 27, 3) := by decide +kernel
theorem dX4_out_4 : decode cX4_out 4 = .ok (.iload_n 1, 1) := by decide +kernel
theorem dX4_out_5 : decode cX4_out 5 = .ok (.invokevirtual 166, 3) := by decide +kernel
theorem dX4_out_8 : decode cX4_out 8 = .ok (.ireturn, 1) := by decide +kernel
theorem dX4_back_0 : decode cX4_back 0 = .ok (.aload_n 0, 1) := by decide +kernel
theorem dX4_back_1 : decode cX4_back 1 = .ok (.getfield 27, 3) := by decide +kernel
theorem dX4_back_4 : decode cX4_back 4 = .ok (.invokevirtual 68, 3) := by decide +kernel
theorem dX4_back_7 : decode cX4_back 7 = .ok (.sipush 400, 3) := by decide +kernel
theorem dX4_back_10 : decode cX4_back 10 = .ok (.if_icmp .le 5, 3) := by decide +kernel
theorem dX4_back_13 : decode cX4_back 13 = .ok (.iconst 0, 1) := by decide +kernel
theorem dX4_back_14 : decode cX4_back 14 = .ok (.ireturn, 1) := by decide +kernel
theorem dX4_back_15 : decode cX4_back 15 = .ok (.aload_n 0, 1) := by decide +kernel
theorem dX4_back_16 : decode cX4_back 16 = .ok (.getfield 20, 3) := by decide +kernel
theorem dX4_back_19 : decode cX4_back 19 = .ok (.aload_n 0, 1) := by decide +kernel
theorem dX4_back_20 : decode cX4_back 20 = .ok (.getfield 27, 3) := by decide +kernel
theorem dX4_back_23 : decode cX4_back 23 = .ok (.invokevirtual 170, 3) := by decide +kernel
theorem dX4_back_26 : decode cX4_back 26 = .ok (.iconst 1, 1) := by decide +kernel
theorem dX4_back_27 : decode cX4_back 27 = .ok (.ireturn, 1) := by decide +kernel
theorem dX4_becomeNone_0 : decode cX4_becomeNone 0 = .ok (.aload_n 0, 1) := by decide +kernel
theorem dX4_becomeNone_1 : decode cX4_becomeNone 1 = .ok (.iconst 0, 1) := by decide +kernel
theorem dX4_becomeNone_2 : decode cX4_becomeNone 2 = .ok (.putfield 30, 3) := by decide +kernel
theorem dX4_becomeNone_5 : decode cX4_becomeNone 5 = .ok (.aload_n 0, 1) := by decide +kernel
theorem dX4_becomeNone_6 : decode cX4_becomeNone 6 = .ok (.iconst 0, 1) := by decide +kernel
theorem dX4_becomeNone_7 : decode cX4_becomeNone 7 = .ok (.putfield 34, 3) := by decide +kernel
theorem dX4_becomeNone_10 : decode cX4_becomeNone 10 = .ok (.return_, 1) := by decide +kernel
theorem dX4_becomeInfinite_0 : decode cX4_becomeInfinite 0 = .ok (.aload_n 0, 1) := by decide +kernel
theorem dX4_becomeInfinite_1 : decode cX4_becomeInfinite 1 = .ok (.iconst 3, 1) := by decide +kernel
theorem dX4_becomeInfinite_2 : decode cX4_becomeInfinite 2 = .ok (.putfield 30, 3) := by decide +kernel
theorem dX4_becomeInfinite_5 : decode cX4_becomeInfinite 5 = .ok (.aload_n 0, 1) := by decide +kernel
theorem dX4_becomeInfinite_6 : decode cX4_becomeInfinite 6 = .ok (.iload_n 1, 1) := by decide +kernel
theorem dX4_becomeInfinite_7 : decode cX4_becomeInfinite 7 = .ok (.putfield 34, 3) := by decide +kernel
theorem dX4_becomeInfinite_10 : decode cX4_becomeInfinite 10 = .ok (.return_, 1) := by decide +kernel
theorem dX4_becomeNotANumber_0 : decode cX4_becomeNotANumber 0 = .ok (.aload_n 0, 1) := by decide +kernel
theorem dX4_becomeNotANumber_1 : decode cX4_becomeNotANumber 1 = .ok (.iconst 4, 1) := by decide +kernel
theorem dX4_becomeNotANumber_2 : decode cX4_becomeNotANumber 2 = .ok (.putfield 30, 3) := by decide +kernel
theorem dX4_becomeNotANumber_5 : decode cX4_becomeNotANumber 5 = .ok (.aload_n 0, 1) := by decide +kernel
theorem dX4_becomeNotANumber_6 : decode cX4_becomeNotANumber 6 = .ok (.iconst 0, 1) := by decide +kernel
theorem dX4_becomeNotANumber_7 : decode cX4_becomeNotANumber 7 = .ok (.putfield 34, 3) := by decide +kernel
theorem dX4_becomeNotANumber_10 : decode cX4_becomeNotANumber 10 = .ok (.return_, 1) := by decide +kernel
theorem dX4_becomeFinite_0 : decode cX4_becomeFinite 0 = .ok (.aload_n 0, 1) := by decide +kernel
theorem dX4_becomeFinite_1 : decode cX4_becomeFinite 1 = .ok (.iconst 2, 1) := by decide +kernel
theorem dX4_becomeFinite_2 : decode cX4_becomeFinite 2 = .ok (.putfield 30, 3) := by decide +kernel
theorem dX4_becomeFinite_5 : decode cX4_becomeFinite 5 = .ok (.aload_n 0, 1) := by decide +kernel
theorem dX4_becomeFinite_6 : decode cX4_becomeFinite 6 = .ok (.iload_n 1, 1) := by decide +kernel
theorem dX4_becomeFinite_7 : decode cX4_becomeFinite 7 = .ok (.putfield 34, 3) := by decide +kernel
theorem dX4_becomeFinite_10 : decode cX4_becomeFinite 10 = .ok (.aload_n 0, 1) := by decide +kernel
theorem dX4_becomeFinite_11 : decode cX4_becomeFinite 11 = .ok (.lload_n 2, 1) := by decide +kernel
theorem dX4_becomeFinite_12 : decode cX4_becomeFinite 12 = .ok (.putfield 38, 3) := by decide +kernel
theorem dX4_becomeFinite_15 : decode cX4_becomeFinite 15 = .ok (.aload_n 0, 1) := by decide +kernel
theorem dX4_becomeFinite_16 : decode cX4_becomeFinite 16 = .ok (.iload 4, 2) := by decide +kernel
theorem dX4_becomeFinite_18 : decode cX4_becomeFinite 18 = .ok (.putfield 42, 3) := by decide +kernel
theorem dX4_becomeFinite_21 : decode cX4_becomeFinite 21 = .ok (.return_, 1) := by decide +kernel
theorem dX4_becomeZero_0 : decode cX4_becomeZero 0 = .ok (.aload_n 0, 1) := by decide +kernel
theorem dX4_becomeZero_1 : decode cX4_becomeZero 1 = .ok (.iload_n 1, 1) := by decide +kernel
theorem dX4_becomeZero_2 : decode cX4_becomeZero 2 = .ok (.lconst 0, 1) := by decide +kernel
theorem dX4_becomeZero_3 : decode cX4_becomeZero 3 = .ok (.sipush (-1074), 3) := by decide +kernel
theorem dX4_becomeZero_6 : decode cX4_becomeZero 6 = .ok (.invokevirtual 174, 3) := by decide +kernel
theorem dX4_becomeZero_9 : decode cX4_becomeZero 9 = .ok (.return_, 1) := by decide +kernel
theorem dX4_becomeExactNumber_0 : decode cX4_becomeExactNumber 0 = .ok (.aload_n 0, 1) := by decide +kernel
theorem dX4_becomeExactNumber_1 : decode cX4_becomeExactNumber 1 = .ok (.iconst 1, 1) := by decide +kernel
theorem dX4_becomeExactNumber_2 : decode cX4_becomeExactNumber 2 = .ok (.putfield 30, 3) := by decide +kernel
theorem dX4_becomeExactNumber_5 : decode cX4_becomeExactNumber 5 = .ok (.aload_n 0, 1) := by decide +kernel
theorem dX4_becomeExactNumber_6 : decode cX4_becomeExactNumber 6 = .ok (.iload_n 1, 1) := by decide +kernel
theorem dX4_becomeExactNumber_7 : decode cX4_becomeExactNumber 7 = .ok (.ifCond .eq 17, 3) := by decide +kernel
theorem dX4_becomeExactNumber_10 : decode cX4_becomeExactNumber 10 = .ok (.aload_n 0, 1) := by decide +kernel
theorem dX4_becomeExactNumber_11 : decode cX4_becomeExactNumber 11 = .ok (.getfield 48, 3) := by decide +kernel
theorem dX4_becomeExactNumber_14 : decode cX4_becomeExactNumber 14 = .ok (.invokevirtual 178, 3) := by decide +kernel
theorem dX4_becomeExactNumber_17 : decode cX4_becomeExactNumber 17 = .ok (.ifCond .ne 7, 3) := by decide +kernel
theorem dX4_becomeExactNumber_20 : decode cX4_becomeExactNumber 20 = .ok (.iconst 1, 1) := by decide +kernel
theorem dX4_becomeExactNumber_21 : decode cX4_becomeExactNumber 21 = .ok (.goto 4, 3) := by decide +kernel
theorem dX4_becomeExactNumber_24 : decode cX4_becomeExactNumber 24 = .ok (.iconst 0, 1) := by decide +kernel
theorem dX4_becomeExactNumber_25 : decode cX4_becomeExactNumber 25 = .ok (.putfield 34, 3) := by decide +kernel
theorem dX4_becomeExactNumber_28 : decode cX4_becomeExactNumber 28 = .ok (.return_, 1) := by decide +kernel
theorem dX4_becomeNearest_0 : decode cX4_becomeNearest 0 = .ok (.aload_n 0, 1) := by decide +kernel
theorem dX4_becomeNearest_1 : decode cX4_becomeNearest 1 = .ok (.getfield 48, 3) := by decide +kernel
theorem dX4_becomeNearest_4 : decode cX4_becomeNearest 4 = .ok (.invokevirtual 178, 3) := by decide +kernel
theorem dX4_becomeNearest_7 : decode cX4_becomeNearest 7 = .ok (.ifCond .ne 13, 3) := by decide +kernel
theorem dX4_becomeNearest_10 : decode cX4_becomeNearest 10 = .ok (.aload_n 0, 1) := by decide +kernel
theorem dX4_becomeNearest_11 : decode cX4_becomeNearest 11 = .ok (.getfield 52, 3) := by decide +kernel
theorem dX4_becomeNearest_14 : decode cX4_becomeNearest 14 = .ok (.invokevirtual 178, 3) := by decide +kernel
theorem dX4_becomeNearest_17 : decode cX4_becomeNearest 17 = .ok (.ifCond .eq 9, 3) := by decide +kernel
theorem dX4_becomeNearest_20 : decode cX4_becomeNearest 20 = .ok (.aload_n 0, 1) := by decide +kernel
theorem dX4_becomeNearest_21 : decode cX4_becomeNearest 21 = .ok (.iload_n 1, 1) := by decide +kernel
theorem dX4_becomeNearest_22 : decode cX4_becomeNearest 22 = .ok (.invokevirtual 181, 3) := by decide +kernel
theorem dX4_becomeNearest_25 : decode cX4_becomeNearest 25 = .ok (.return_, 1) := by decide +kernel
theorem dX4_becomeNearest_26 : decode cX4_becomeNearest 26 = .ok (.aload_n 0, 1) := by decide +kernel
theorem dX4_becomeNearest_27 : decode cX4_becomeNearest 27 = .ok (.getfield 48, 3) := by decide +kernel
theorem dX4_becomeNearest_30 : decode cX4_becomeNearest 30 = .ok (.invokevirtual 150, 3) := by decide +kernel
theorem dX4_becomeNearest_33 : decode cX4_becomeNearest 33 = .ok (.aload_n 0, 1) := by decide +kernel
theorem dX4_becomeNearest_34 : decode cX4_becomeNearest 34 = .ok (.getfield 52, 3) := by decide +kernel
theorem dX4_becomeNearest_37 : decode cX4_becomeNearest 37 = .ok (.invokevirtual 150, 3) := by decide +kernel
theorem dX4_becomeNearest_40 : decode cX4_becomeNearest 40 = .ok (.isub, 1) := by decide +kernel
theorem dX4_becomeNearest_41 : decode cX4_becomeNearest 41 = .ok (.iload_n 2, 1) := by decide +kernel
theorem dX4_becomeNearest_42 : decode cX4_becomeNearest 42 = .ok (.iadd, 1) := by decide +kernel
theorem dX4_becomeNearest_43 : decode cX4_becomeNearest 43 = .ok (.istore_n 3, 1) := by decide +kernel
theorem dX4_becomeNearest_44 : decode cX4_becomeNearest 44 = .ok (.iload_n 3, 1) := by decide +kernel
theorem dX4_becomeNearest_45 : decode cX4_becomeNearest 45 = .ok (.sipush (-1075), 3) := by decide +kernel
theorem dX4_becomeNearest_48 : decode cX4_becomeNearest 48 = .ok (.if_icmp .ge 11, 3) := by decide +kernel
theorem dX4_becomeNearest_51 : decode cX4_becomeNearest 51 = .ok (.aload_n 0, 1) := by decide +kernel
theorem dX4_becomeNearest_52 : decode cX4_becomeNearest 52 = .ok (.iload_n 1, 1) := by decide +kernel
theorem dX4_becomeNearest_53 : decode cX4_becomeNearest 53 = .ok (.invokevirtual 181, 3) := by decide +kernel
theorem dX4_becomeNearest_56 : decode cX4_becomeNearest 56 = .ok (.goto 57, 3) := by decide +kernel
theorem dX4_becomeNearest_59 : decode cX4_becomeNearest 59 = .ok (.iload_n 3, 1) := by decide +kernel
theorem dX4_becomeNearest_60 : decode cX4_becomeNearest 60 = .ok (.sipush 1024, 3) := by decide +kernel
theorem dX4_becomeNearest_63 : decode cX4_becomeNearest 63 = .ok (.if_icmp .le 11, 3) := by decide +kernel
theorem dX4_becomeNearest_66 : decode cX4_becomeNearest 66 = .ok (.aload_n 0, 1) := by decide +kernel
theorem dX4_becomeNearest_67 : decode cX4_becomeNearest 67 = .ok (.iload_n 1, 1) := by decide +kernel
theorem dX4_becomeNearest_68 : decode cX4_becomeNearest 68 = .ok (.invokevirtual 90, 3) := by decide +kernel
theorem dX4_becomeNearest_71 : decode cX4_becomeNearest 71 = .ok (.goto 42, 3) := by decide +kernel
theorem dX4_becomeNearest_74 : decode cX4_becomeNearest 74 = .ok (.iload_n 3, 1) := by decide +kernel
theorem dX4_becomeNearest_75 : decode cX4_becomeNearest 75 = .ok (.bipush 53, 2) := by decide +kernel
theorem dX4_becomeNearest_77 : decode cX4_becomeNearest 77 = .ok (.isub, 1) := by decide +kernel
theorem dX4_becomeNearest_78 : decode cX4_becomeNearest 78 = .ok (.sipush (-1074), 3) := by decide +kernel
theorem dX4_becomeNearest_81 : decode cX4_becomeNearest 81 = .ok (.invokestatic 184, 3) := by decide +kernel
theorem dX4_becomeNearest_84 : decode cX4_becomeNearest 84 = .ok (.istore 4, 2) := by decide +kernel
theorem dX4_becomeNearest_86 : decode cX4_becomeNearest 86 = .ok (.aload_n 0, 1) := by decide +kernel
theorem dX4_becomeNearest_87 : decode cX4_becomeNearest 87 = .ok (.invokevirtual 187, 3) := by decide +kernel
theorem dX4_becomeNearest_90 : decode cX4_becomeNearest 90 = .ok (.aload_n 0, 1) := by decide +kernel
theorem dX4_becomeNearest_91 : decode cX4_becomeNearest 91 = .ok (.iload_n 3, 1) := by decide +kernel
theorem dX4_becomeNearest_92 : decode cX4_becomeNearest 92 = .ok (.iload 4, 2) := by decide +kernel
theorem dX4_becomeNearest_94 : decode cX4_becomeNearest 94 = .ok (.isub, 1) := by decide +kernel
theorem dX4_becomeNearest_95 : decode cX4_becomeNearest 95 = .ok (.iconst 2, 1) := by decide +kernel
theorem dX4_becomeNearest_96 : decode cX4_becomeNearest 96 = .ok (.iadd, 1) := by decide +kernel
theorem dX4_becomeNearest_97 : decode cX4_becomeNearest 97 = .ok (.invokevirtual 190, 3) := by decide +kernel
theorem dX4_becomeNearest_100 : decode cX4_becomeNearest 100 = .ok (.lstore 5, 2) := by decide +kernel
theorem dX4_becomeNearest_102 : decode cX4_becomeNearest 102 = .ok (.aload_n 0, 1) := by decide +kernel
theorem dX4_becomeNearest_103 : decode cX4_becomeNearest 103 = .ok (.iload_n 1, 1) := by decide +kernel
theorem dX4_becomeNearest_104 : decode cX4_becomeNearest 104 = .ok (.lload 5, 2) := by decide +kernel
theorem dX4_becomeNearest_106 : decode cX4_becomeNearest 106 = .ok (.iload 4, 2) := by decide +kernel
theorem dX4_becomeNearest_108 : decode cX4_becomeNearest 108 = .ok (.iconst 1, 1) := by decide +kernel
theorem dX4_becomeNearest_109 : decode cX4_becomeNearest 109 = .ok (.isub, 1) := by decide +kernel
theorem dX4_becomeNearest_110 : decode cX4_becomeNearest 110 = .ok (.invokevirtual 194, 3) := by decide +kernel
theorem dX4_becomeNearest_113 : decode cX4_becomeNearest 113 = .ok (.return_, 1) := by decide +kernel
theorem dX4_alignTops_0 : decode cX4_alignTops 0 = .ok (.aload_n 0, 1) := by decide +kernel
theorem dX4_alignTops_1 : decode cX4_alignTops 1 = .ok (.getfield 48, 3) := by decide +kernel
theorem dX4_alignTops_4 : decode cX4_alignTops 4 = .ok (.invokevirtual 150, 3) := by decide +kernel
theorem dX4_alignTops_7 : decode cX4_alignTops 7 = .ok (.aload_n 0, 1) := by decide +kernel
theorem dX4_alignTops_8 : decode cX4_alignTops 8 = .ok (.getfield 52, 3) := by decide +kernel
theorem dX4_alignTops_11 : decode cX4_alignTops 11 = .ok (.invokevirtual 150, 3) := by decide +kernel
theorem dX4_alignTops_14 : decode cX4_alignTops 14 = .ok (.isub, 1) := by decide +kernel
theorem dX4_alignTops_15 : decode cX4_alignTops 15 = .ok (.istore_n 1, 1) := by decide +kernel
theorem dX4_alignTops_16 : decode cX4_alignTops 16 = .ok (.aload_n 0, 1) := by decide +kernel
theorem dX4_alignTops_17 : decode cX4_alignTops 17 = .ok (.getfield 48, 3) := by decide +kernel
theorem dX4_alignTops_20 : decode cX4_alignTops 20 = .ok (.iload_n 1, 1) := by decide +kernel
theorem dX4_alignTops_21 : decode cX4_alignTops 21 = .ok (.ineg, 1) := by decide +kernel
theorem dX4_alignTops_22 : decode cX4_alignTops 22 = .ok (.invokevirtual 130, 3) := by decide +kernel
theorem dX4_alignTops_25 : decode cX4_alignTops 25 = .ok (.aload_n 0, 1) := by decide +kernel
theorem dX4_alignTops_26 : decode cX4_alignTops 26 = .ok (.getfield 52, 3) := by decide +kernel
theorem dX4_alignTops_29 : decode cX4_alignTops 29 = .ok (.iload_n 1, 1) := by decide +kernel
theorem dX4_alignTops_30 : decode cX4_alignTops 30 = .ok (.invokevirtual 130, 3) := by decide +kernel
theorem dX4_alignTops_33 : decode cX4_alignTops 33 = .ok (.return_, 1) := by decide +kernel
theorem dX4_takeQuotient_0 : decode cX4_takeQuotient 0 = .ok (.lconst 0, 1) := by decide +kernel
theorem dX4_takeQuotient_1 : decode cX4_takeQuotient 1 = .ok (.lstore_n 2, 1) := by decide +kernel
theorem dX4_takeQuotient_2 : decode cX4_takeQuotient 2 = .ok (.iconst 0, 1) := by decide +kernel
theorem dX4_takeQuotient_3 : decode cX4_takeQuotient 3 = .ok (.istore 4, 2) := by decide +kernel
theorem dX4_takeQuotient_5 : decode cX4_takeQuotient 5 = .ok (.iload 4, 2) := by decide +kernel
theorem dX4_takeQuotient_7 : decode cX4_takeQuotient 7 = .ok (.iload_n 1, 1) := by decide +kernel
theorem dX4_takeQuotient_8 : decode cX4_takeQuotient 8 = .ok (.if_icmp .ge 51, 3) := by decide +kernel
theorem dX4_takeQuotient_11 : decode cX4_takeQuotient 11 = .ok (.lload_n 2, 1) := by decide +kernel
theorem dX4_takeQuotient_12 : decode cX4_takeQuotient 12 = .ok (.iconst 1, 1) := by decide +kernel
theorem dX4_takeQuotient_13 : decode cX4_takeQuotient 13 = .ok (.lshl, 1) := by decide +kernel
theorem dX4_takeQuotient_14 : decode cX4_takeQuotient 14 = .ok (.lstore_n 2, 1) := by decide +kernel
theorem dX4_takeQuotient_15 : decode cX4_takeQuotient 15 = .ok (.aload_n 0, 1) := by decide +kernel
theorem dX4_takeQuotient_16 : decode cX4_takeQuotient 16 = .ok (.getfield 48, 3) := by decide +kernel
theorem dX4_takeQuotient_19 : decode cX4_takeQuotient 19 = .ok (.aload_n 0, 1) := by decide +kernel
theorem dX4_takeQuotient_20 : decode cX4_takeQuotient 20 = .ok (.getfield 52, 3) := by decide +kernel
theorem dX4_takeQuotient_23 : decode cX4_takeQuotient 23 = .ok (.invokevirtual 197, 3) := by decide +kernel
theorem dX4_takeQuotient_26 : decode cX4_takeQuotient 26 = .ok (.ifCond .lt 18, 3) := by decide +kernel
theorem dX4_takeQuotient_29 : decode cX4_takeQuotient 29 = .ok (.aload_n 0, 1) := by decide +kernel
theorem dX4_takeQuotient_30 : decode cX4_takeQuotient 30 = .ok (.getfield 48, 3) := by decide +kernel
theorem dX4_takeQuotient_33 : decode cX4_takeQuotient 33 = .ok (.aload_n 0, 1) := by decide +kernel
theorem dX4_takeQuotient_34 : decode cX4_takeQuotient 34 = .ok (.getfield 52, 3) := by decide +kernel
theorem dX4_takeQuotient_37 : decode cX4_takeQuotient 37 = .ok (.invokevirtual 201, 3) := by decide +kernel
theorem dX4_takeQuotient_40 : decode cX4_takeQuotient 40 = .ok (.lload_n 2, 1) := by decide +kernel
theorem dX4_takeQuotient_41 : decode cX4_takeQuotient 41 = .ok (.lconst 1, 1) := by decide +kernel
theorem dX4_takeQuotient_42 : decode cX4_takeQuotient 42 = .ok (.lor, 1) := by decide +kernel
theorem dX4_takeQuotient_43 : decode cX4_takeQuotient 43 = .ok (.lstore_n 2, 1) := by decide +kernel
theorem dX4_takeQuotient_44 : decode cX4_takeQuotient 44 = .ok (.aload_n 0, 1) := by decide +kernel
theorem dX4_takeQuotient_45 : decode cX4_takeQuotient 45 = .ok (.getfield 48, 3) := by decide +kernel
theorem dX4_takeQuotient_48 : decode cX4_takeQuotient 48 = .ok (.iconst 2, 1) := by decide +kernel
theorem dX4_takeQuotient_49 : decode cX4_takeQuotient 49 = .ok (.iconst 0, 1) := by decide +kernel
theorem dX4_takeQuotient_50 : decode cX4_takeQuotient 50 = .ok (.invokevirtual 205, 3) := by decide +kernel
theorem dX4_takeQuotient_53 : decode cX4_takeQuotient 53 = .ok (.iinc 4 1, 3) := by decide +kernel
theorem dX4_takeQuotient_56 : decode cX4_takeQuotient 56 = .ok (.goto (-51), 3) := by decide +kernel
theorem dX4_takeQuotient_59 : decode cX4_takeQuotient 59 = .ok (.lload_n 2, 1) := by decide +kernel
theorem dX4_takeQuotient_60 : decode cX4_takeQuotient 60 = .ok (.lreturn, 1) := by decide +kernel
theorem dX4_becomeRounded_0 : decode cX4_becomeRounded 0 = .ok (.lload_n 2, 1) := by decide +kernel
theorem dX4_becomeRounded_1 : decode cX4_becomeRounded 1 = .ok (.ldc2_w 209, 3) := by decide +kernel
theorem dX4_becomeRounded_4 : decode cX4_becomeRounded 4 = .ok (.lcmp, 1) := by decide +kernel
theorem dX4_becomeRounded_5 : decode cX4_becomeRounded 5 = .ok (.ifCond .lt 7, 3) := by decide +kernel
theorem dX4_becomeRounded_8 : decode cX4_becomeRounded 8 = .ok (.iconst 2, 1) := by decide +kernel
theorem dX4_becomeRounded_9 : decode cX4_becomeRounded 9 = .ok (.goto 4, 3) := by decide +kernel
theorem dX4_becomeRounded_12 : decode cX4_becomeRounded 12 = .ok (.iconst 1, 1) := by decide +kernel
theorem dX4_becomeRounded_13 : decode cX4_becomeRounded 13 = .ok (.istore 5, 2) := by decide +kernel
theorem dX4_becomeRounded_15 : decode cX4_becomeRounded 15 = .ok (.lload_n 2, 1) := by decide +kernel
theorem dX4_becomeRounded_16 : decode cX4_becomeRounded 16 = .ok (.iload 5, 2) := by decide +kernel
theorem dX4_becomeRounded_18 : decode cX4_becomeRounded 18 = .ok (.lshr, 1) := by decide +kernel
theorem dX4_becomeRounded_19 : decode cX4_becomeRounded 19 = .ok (.lstore 6, 2) := by decide +kernel
theorem dX4_becomeRounded_21 : decode cX4_becomeRounded 21 = .ok (.iload 4, 2) := by decide +kernel
theorem dX4_becomeRounded_23 : decode cX4_becomeRounded 23 = .ok (.iload 5, 2) := by decide +kernel
theorem dX4_becomeRounded_25 : decode cX4_becomeRounded 25 = .ok (.iadd, 1) := by decide +kernel
theorem dX4_becomeRounded_26 : decode cX4_becomeRounded 26 = .ok (.istore 8, 2) := by decide +kernel
theorem dX4_becomeRounded_28 : decode cX4_becomeRounded 28 = .ok (.lload_n 2, 1) := by decide +kernel
theorem dX4_becomeRounded_29 : decode cX4_becomeRounded 29 = .ok (.lconst 1, 1) := by decide +kernel
theorem dX4_becomeRounded_30 : decode cX4_becomeRounded 30 = .ok (.iload 5, 2) := by decide +kernel
theorem dX4_becomeRounded_32 : decode cX4_becomeRounded 32 = .ok (.lshl, 1) := by decide +kernel
theorem dX4_becomeRounded_33 : decode cX4_becomeRounded 33 = .ok (.lconst 1, 1) := by decide +kernel
theorem dX4_becomeRounded_34 : decode cX4_becomeRounded 34 = .ok (.lsub, 1) := by decide +kernel
theorem dX4_becomeRounded_35 : decode cX4_becomeRounded 35 = .ok (.land, 1) := by decide +kernel
theorem dX4_becomeRounded_36 : decode cX4_becomeRounded 36 = .ok (.lstore 9, 2) := by decide +kernel
theorem dX4_becomeRounded_38 : decode cX4_becomeRounded 38 = .ok (.lconst 1, 1) := by decide +kernel
theorem dX4_becomeRounded_39 : decode cX4_becomeRounded 39 = .ok (.iload 5, 2) := by decide +kernel
theorem dX4_becomeRounded_41 : decode cX4_becomeRounded 41 = .ok (.iconst 1, 1) := by decide +kernel
theorem dX4_becomeRounded_42 : decode cX4_becomeRounded 42 = .ok (.isub, 1) := by decide +kernel
theorem dX4_becomeRounded_43 : decode cX4_becomeRounded 43 = .ok (.lshl, 1) := by decide +kernel
theorem dX4_becomeRounded_44 : decode cX4_becomeRounded 44 = .ok (.lstore 11, 2) := by decide +kernel
theorem dX4_becomeRounded_46 : decode cX4_becomeRounded 46 = .ok (.lload 6, 2) := by decide +kernel
theorem dX4_becomeRounded_48 : decode cX4_becomeRounded 48 = .ok (.lconst 1, 1) := by decide +kernel
theorem dX4_becomeRounded_49 : decode cX4_becomeRounded 49 = .ok (.land, 1) := by decide +kernel
theorem dX4_becomeRounded_50 : decode cX4_becomeRounded 50 = .ok (.lconst 1, 1) := by decide +kernel
theorem dX4_becomeRounded_51 : decode cX4_becomeRounded 51 = .ok (.lcmp, 1) := by decide +kernel
theorem dX4_becomeRounded_52 : decode cX4_becomeRounded 52 = .ok (.ifCond .ne 7, 3) := by decide +kernel
theorem dX4_becomeRounded_55 : decode cX4_becomeRounded 55 = .ok (.iconst 1, 1) := by decide +kernel
theorem dX4_becomeRounded_56 : decode cX4_becomeRounded 56 = .ok (.goto 4, 3) := by decide +kernel
theorem dX4_becomeRounded_59 : decode cX4_becomeRounded 59 = .ok (.iconst 0, 1) := by decide +kernel
theorem dX4_becomeRounded_60 : decode cX4_becomeRounded 60 = .ok (.istore 13, 2) := by decide +kernel
theorem dX4_becomeRounded_62 : decode cX4_becomeRounded 62 = .ok (.lload 9, 2) := by decide +kernel
theorem dX4_becomeRounded_64 : decode cX4_becomeRounded 64 = .ok (.lload 11, 2) := by decide +kernel
theorem dX4_becomeRounded_66 : decode cX4_becomeRounded 66 = .ok (.lcmp, 1) := by decide +kernel
theorem dX4_becomeRounded_67 : decode cX4_becomeRounded 67 = .ok (.ifCond .gt 26, 3) := by decide +kernel
theorem dX4_becomeRounded_70 : decode cX4_becomeRounded 70 = .ok (.lload 9, 2) := by decide +kernel
theorem dX4_becomeRounded_72 : decode cX4_becomeRounded 72 = .ok (.lload 11, 2) := by decide +kernel
theorem dX4_becomeRounded_74 : decode cX4_becomeRounded 74 = .ok (.lcmp, 1) := by decide +kernel
theorem dX4_becomeRounded_75 : decode cX4_becomeRounded 75 = .ok (.ifCond .ne 24, 3) := by decide +kernel
theorem dX4_becomeRounded_78 : decode cX4_becomeRounded 78 = .ok (.iload 13, 2) := by decide +kernel
theorem dX4_becomeRounded_80 : decode cX4_becomeRounded 80 = .ok (.ifCond .ne 13, 3) := by decide +kernel
theorem dX4_becomeRounded_83 : decode cX4_becomeRounded 83 = .ok (.aload_n 0, 1) := by decide +kernel
theorem dX4_becomeRounded_84 : decode cX4_becomeRounded 84 = .ok (.getfield 48, 3) := by decide +kernel
theorem dX4_becomeRounded_87 : decode cX4_becomeRounded 87 = .ok (.invokevirtual 178, 3) := by decide +kernel
theorem dX4_becomeRounded_90 : decode cX4_becomeRounded 90 = .ok (.ifCond .ne 9, 3) := by decide +kernel
theorem dX4_becomeRounded_93 : decode cX4_becomeRounded 93 = .ok (.lload 6, 2) := by decide +kernel
theorem dX4_becomeRounded_95 : decode cX4_becomeRounded 95 = .ok (.lconst 1, 1) := by decide +kernel
theorem dX4_becomeRounded_96 : decode cX4_becomeRounded 96 = .ok (.ladd, 1) := by decide +kernel
theorem dX4_becomeRounded_97 : decode cX4_becomeRounded 97 = .ok (.lstore 6, 2) := by decide +kernel
theorem dX4_becomeRounded_99 : decode cX4_becomeRounded 99 = .ok (.lload 6, 2) := by decide +kernel
theorem dX4_becomeRounded_101 : decode cX4_becomeRounded 101 = .ok (.ldc2_w 211, 3) := by decide +kernel
theorem dX4_becomeRounded_104 : decode cX4_becomeRounded 104 = .ok (.lcmp, 1) := by decide +kernel
theorem dX4_becomeRounded_105 : decode cX4_becomeRounded 105 = .ok (.ifCond .ne 11, 3) := by decide +kernel
theorem dX4_becomeRounded_108 : decode cX4_becomeRounded 108 = .ok (.ldc2_w 213, 3) := by decide +kernel
theorem dX4_becomeRounded_111 : decode cX4_becomeRounded 111 = .ok (.lstore 6, 2) := by decide +kernel
theorem dX4_becomeRounded_113 : decode cX4_becomeRounded 113 = .ok (.iinc 8 1, 3) := by decide +kernel
theorem dX4_becomeRounded_116 : decode cX4_becomeRounded 116 = .ok (.iload 8, 2) := by decide +kernel
theorem dX4_becomeRounded_118 : decode cX4_becomeRounded 118 = .ok (.sipush 971, 3) := by decide +kernel
theorem dX4_becomeRounded_121 : decode cX4_becomeRounded 121 = .ok (.if_icmp .le 11, 3) := by decide +kernel
theorem dX4_becomeRounded_124 : decode cX4_becomeRounded 124 = .ok (.aload_n 0, 1) := by decide +kernel
theorem dX4_becomeRounded_125 : decode cX4_becomeRounded 125 = .ok (.iload_n 1, 1) := by decide +kernel
theorem dX4_becomeRounded_126 : decode cX4_becomeRounded 126 = .ok (.invokevirtual 90, 3) := by decide +kernel
theorem dX4_becomeRounded_129 : decode cX4_becomeRounded 129 = .ok (.goto 12, 3) := by decide +kernel
theorem dX4_becomeRounded_132 : decode cX4_becomeRounded 132 = .ok (.aload_n 0, 1) := by decide +kernel
theorem dX4_becomeRounded_133 : decode cX4_becomeRounded 133 = .ok (.iload_n 1, 1) := by decide +kernel
theorem dX4_becomeRounded_134 : decode cX4_becomeRounded 134 = .ok (.lload 6, 2) := by decide +kernel
theorem dX4_becomeRounded_136 : decode cX4_becomeRounded 136 = .ok (.iload 8, 2) := by decide +kernel
theorem dX4_becomeRounded_138 : decode cX4_becomeRounded 138 = .ok (.invokevirtual 174, 3) := by decide +kernel
theorem dX4_becomeRounded_141 : decode cX4_becomeRounded 141 = .ok (.return_, 1) := by decide +kernel
theorem dX4_becomeNearestDecimal_0 : decode cX4_becomeNearestDecimal 0 = .ok (.iload_n 3, 1) := by decide +kernel
theorem dX4_becomeNearestDecimal_1 : decode cX4_becomeNearestDecimal 1 = .ok (.iload_n 2, 1) := by decide +kernel
theorem dX4_becomeNearestDecimal_2 : decode cX4_becomeNearestDecimal 2 = .ok (.iadd, 1) := by decide +kernel
theorem dX4_becomeNearestDecimal_3 : decode cX4_becomeNearestDecimal 3 = .ok (.istore 4, 2) := by decide +kernel
theorem dX4_becomeNearestDecimal_5 : decode cX4_becomeNearestDecimal 5 = .ok (.aload_n 0, 1) := by decide +kernel
theorem dX4_becomeNearestDecimal_6 : decode cX4_becomeNearestDecimal 6 = .ok (.getfield 48, 3) := by decide +kernel
theorem dX4_becomeNearestDecimal_9 : decode cX4_becomeNearestDecimal 9 = .ok (.invokevirtual 178, 3) := by decide +kernel
theorem dX4_becomeNearestDecimal_12 : decode cX4_becomeNearestDecimal 12 = .ok (.ifCond .ne 11, 3) := by decide +kernel
theorem dX4_becomeNearestDecimal_15 : decode cX4_becomeNearestDecimal 15 = .ok (.iload 4, 2) := by decide +kernel
theorem dX4_becomeNearestDecimal_17 : decode cX4_becomeNearestDecimal 17 = .ok (.sipush (-324), 3) := by decide +kernel
theorem dX4_becomeNearestDecimal_20 : decode cX4_becomeNearestDecimal 20 = .ok (.if_icmp .ge 11, 3) := by decide +kernel
theorem dX4_becomeNearestDecimal_23 : decode cX4_becomeNearestDecimal 23 = .ok (.aload_n 0, 1) := by decide +kernel
theorem dX4_becomeNearestDecimal_24 : decode cX4_becomeNearestDecimal 24 = .ok (.iload_n 1, 1) := by decide +kernel
theorem dX4_becomeNearestDecimal_25 : decode cX4_becomeNearestDecimal 25 = .ok (.invokevirtual 181, 3) := by decide +kernel
theorem dX4_becomeNearestDecimal_28 : decode cX4_becomeNearestDecimal 28 = .ok (.goto 57, 3) := by decide +kernel
theorem dX4_becomeNearestDecimal_31 : decode cX4_becomeNearestDecimal 31 = .ok (.iload 4, 2) := by decide +kernel
theorem dX4_becomeNearestDecimal_33 : decode cX4_becomeNearestDecimal 33 = .ok (.sipush 310, 3) := by decide +kernel
theorem dX4_becomeNearestDecimal_36 : decode cX4_becomeNearestDecimal 36 = .ok (.if_icmp .le 11, 3) := by decide +kernel
theorem dX4_becomeNearestDecimal_39 : decode cX4_becomeNearestDecimal 39 = .ok (.aload_n 0, 1) := by decide +kernel
theorem dX4_becomeNearestDecimal_40 : decode cX4_becomeNearestDecimal 40 = .ok (.iload_n 1, 1) := by decide +kernel
theorem dX4_becomeNearestDecimal_41 : decode cX4_becomeNearestDecimal 41 = .ok (.invokevirtual 90, 3) := by decide +kernel
theorem dX4_becomeNearestDecimal_44 : decode cX4_becomeNearestDecimal 44 = .ok (.goto 41, 3) := by decide +kernel
theorem dX4_becomeNearestDecimal_47 : decode cX4_becomeNearestDecimal 47 = .ok (.aload_n 0, 1) := by decide +kernel
theorem dX4_becomeNearestDecimal_48 : decode cX4_becomeNearestDecimal 48 = .ok (.getfield 52, 3) := by decide +kernel
theorem dX4_becomeNearestDecimal_51 : decode cX4_becomeNearestDecimal 51 = .ok (.lconst 1, 1) := by decide +kernel
theorem dX4_becomeNearestDecimal_52 : decode cX4_becomeNearestDecimal 52 = .ok (.invokevirtual 126, 3) := by decide +kernel
theorem dX4_becomeNearestDecimal_55 : decode cX4_becomeNearestDecimal 55 = .ok (.iload_n 2, 1) := by decide +kernel
theorem dX4_becomeNearestDecimal_56 : decode cX4_becomeNearestDecimal 56 = .ok (.ifCond .lt 14, 3) := by decide +kernel
theorem dX4_becomeNearestDecimal_59 : decode cX4_becomeNearestDecimal 59 = .ok (.aload_n 0, 1) := by decide +kernel
theorem dX4_becomeNearestDecimal_60 : decode cX4_becomeNearestDecimal 60 = .ok (.getfield 48, 3) := by decide +kernel
theorem dX4_becomeNearestDecimal_63 : decode cX4_becomeNearestDecimal 63 = .ok (.iload_n 2, 1) := by decide +kernel
theorem dX4_becomeNearestDecimal_64 : decode cX4_becomeNearestDecimal 64 = .ok (.invokevirtual 215, 3) := by decide +kernel
theorem dX4_becomeNearestDecimal_67 : decode cX4_becomeNearestDecimal 67 = .ok (.goto 12, 3) := by decide +kernel
theorem dX4_becomeNearestDecimal_70 : decode cX4_becomeNearestDecimal 70 = .ok (.aload_n 0, 1) := by decide +kernel
theorem dX4_becomeNearestDecimal_71 : decode cX4_becomeNearestDecimal 71 = .ok (.getfield 52, 3) := by decide +kernel
theorem dX4_becomeNearestDecimal_74 : decode cX4_becomeNearestDecimal 74 = .ok (.iload_n 2, 1) := by decide +kernel
theorem dX4_becomeNearestDecimal_75 : decode cX4_becomeNearestDecimal 75 = .ok (.ineg, 1) := by decide +kernel
theorem dX4_becomeNearestDecimal_76 : decode cX4_becomeNearestDecimal 76 = .ok (.invokevirtual 215, 3) := by decide +kernel
theorem dX4_becomeNearestDecimal_79 : decode cX4_becomeNearestDecimal 79 = .ok (.aload_n 0, 1) := by decide +kernel
theorem dX4_becomeNearestDecimal_80 : decode cX4_becomeNearestDecimal 80 = .ok (.iload_n 1, 1) := by decide +kernel
theorem dX4_becomeNearestDecimal_81 : decode cX4_becomeNearestDecimal 81 = .ok (.iload_n 2, 1) := by decide +kernel
theorem dX4_becomeNearestDecimal_82 : decode cX4_becomeNearestDecimal 82 = .ok (.invokevirtual 100, 3) := by decide +kernel
theorem dX4_becomeNearestDecimal_85 : decode cX4_becomeNearestDecimal 85 = .ok (.return_, 1) := by decide +kernel
theorem dX4_becomeExactDecimal_0 : decode cX4_becomeExactDecimal 0 = .ok (.aload_n 0, 1) := by decide +kernel
theorem dX4_becomeExactDecimal_1 : decode cX4_becomeExactDecimal 1 = .ok (.getfield 52, 3) := by decide +kernel
theorem dX4_becomeExactDecimal_4 : decode cX4_becomeExactDecimal 4 = .ok (.lconst 1, 1) := by decide +kernel
theorem dX4_becomeExactDecimal_5 : decode cX4_becomeExactDecimal 5 = .ok (.invokevirtual 126, 3) := by decide +kernel
theorem dX4_becomeExactDecimal_8 : decode cX4_becomeExactDecimal 8 = .ok (.aload_n 0, 1) := by decide +kernel
theorem dX4_becomeExactDecimal_9 : decode cX4_becomeExactDecimal 9 = .ok (.getfield 48, 3) := by decide +kernel
theorem dX4_becomeExactDecimal_12 : decode cX4_becomeExactDecimal 12 = .ok (.invokevirtual 178, 3) := by decide +kernel
theorem dX4_becomeExactDecimal_15 : decode cX4_becomeExactDecimal 15 = .ok (.ifCond .ne 27, 3) := by decide +kernel
theorem dX4_becomeExactDecimal_18 : decode cX4_becomeExactDecimal 18 = .ok (.iload_n 2, 1) := by decide +kernel
theorem dX4_becomeExactDecimal_19 : decode cX4_becomeExactDecimal 19 = .ok (.ifCond .lt 14, 3) := by decide +kernel
theorem dX4_becomeExactDecimal_22 : decode cX4_becomeExactDecimal 22 = .ok (.aload_n 0, 1) := by decide +kernel
theorem dX4_becomeExactDecimal_23 : decode cX4_becomeExactDecimal 23 = .ok (.iload_n 2, 1) := by decide +kernel
theorem dX4_becomeExactDecimal_24 : decode cX4_becomeExactDecimal 24 = .ok (.invokevirtual 218, 3) := by decide +kernel
theorem dX4_becomeExactDecimal_27 : decode cX4_becomeExactDecimal 27 = .ok (.ifCond .eq 20, 3) := by decide +kernel
theorem dX4_becomeExactDecimal_30 : decode cX4_becomeExactDecimal 30 = .ok (.goto 12, 3) := by decide +kernel
theorem dX4_becomeExactDecimal_33 : decode cX4_becomeExactDecimal 33 = .ok (.aload_n 0, 1) := by decide +kernel
theorem dX4_becomeExactDecimal_34 : decode cX4_becomeExactDecimal 34 = .ok (.iload_n 2, 1) := by decide +kernel
theorem dX4_becomeExactDecimal_35 : decode cX4_becomeExactDecimal 35 = .ok (.ineg, 1) := by decide +kernel
theorem dX4_becomeExactDecimal_36 : decode cX4_becomeExactDecimal 36 = .ok (.invokevirtual 222, 3) := by decide +kernel
theorem dX4_becomeExactDecimal_39 : decode cX4_becomeExactDecimal 39 = .ok (.ifCond .eq 8, 3) := by decide +kernel
theorem dX4_becomeExactDecimal_42 : decode cX4_becomeExactDecimal 42 = .ok (.aload_n 0, 1) := by decide +kernel
theorem dX4_becomeExactDecimal_43 : decode cX4_becomeExactDecimal 43 = .ok (.iload_n 1, 1) := by decide +kernel
theorem dX4_becomeExactDecimal_44 : decode cX4_becomeExactDecimal 44 = .ok (.invokevirtual 107, 3) := by decide +kernel
theorem dX4_becomeExactDecimal_47 : decode cX4_becomeExactDecimal 47 = .ok (.return_, 1) := by decide +kernel
theorem dX4_multiplyByTens_0 : decode cX4_multiplyByTens 0 = .ok (.aload_n 0, 1) := by decide +kernel
theorem dX4_multiplyByTens_1 : decode cX4_multiplyByTens 1 = .ok (.getfield 48, 3) := by decide +kernel
theorem dX4_multiplyByTens_4 : decode cX4_multiplyByTens 4 = .ok (.invokevirtual 150, 3) := by decide +kernel
theorem dX4_multiplyByTens_7 : decode cX4_multiplyByTens 7 = .ok (.iconst 1, 1) := by decide +kernel
theorem dX4_multiplyByTens_8 : decode cX4_multiplyByTens 8 = .ok (.isub, 1) := by decide +kernel
theorem dX4_multiplyByTens_9 : decode cX4_multiplyByTens 9 = .ok (.iload_n 1, 1) := by decide +kernel
theorem dX4_multiplyByTens_10 : decode cX4_multiplyByTens 10 = .ok (.sipush 3321, 3) := by decide +kernel
theorem dX4_multiplyByTens_13 : decode cX4_multiplyByTens 13 = .ok (.imul, 1) := by decide +kernel
theorem dX4_multiplyByTens_14 : decode cX4_multiplyByTens 14 = .ok (.sipush 1000, 3) := by decide +kernel
theorem dX4_multiplyByTens_17 : decode cX4_multiplyByTens 17 = .ok (.idiv, 1) := by decide +kernel
theorem dX4_multiplyByTens_18 : decode cX4_multiplyByTens 18 = .ok (.iadd, 1) := by decide +kernel
theorem dX4_multiplyByTens_19 : decode cX4_multiplyByTens 19 = .ok (.sipush 4096, 3) := by decide +kernel
theorem dX4_multiplyByTens_22 : decode cX4_multiplyByTens 22 = .ok (.if_icmp .lt 5, 3) := by decide +kernel
theorem dX4_multiplyByTens_25 : decode cX4_multiplyByTens 25 = .ok (.iconst 0, 1) := by decide +kernel
theorem dX4_multiplyByTens_26 : decode cX4_multiplyByTens 26 = .ok (.ireturn, 1) := by decide +kernel
theorem dX4_multiplyByTens_27 : decode cX4_multiplyByTens 27 = .ok (.aload_n 0, 1) := by decide +kernel
theorem dX4_multiplyByTens_28 : decode cX4_multiplyByTens 28 = .ok (.getfield 48, 3) := by decide +kernel
theorem dX4_multiplyByTens_31 : decode cX4_multiplyByTens 31 = .ok (.iload_n 1, 1) := by decide +kernel
theorem dX4_multiplyByTens_32 : decode cX4_multiplyByTens 32 = .ok (.invokevirtual 215, 3) := by decide +kernel
theorem dX4_multiplyByTens_35 : decode cX4_multiplyByTens 35 = .ok (.aload_n 0, 1) := by decide +kernel
theorem dX4_multiplyByTens_36 : decode cX4_multiplyByTens 36 = .ok (.getfield 48, 3) := by decide +kernel
theorem dX4_multiplyByTens_39 : decode cX4_multiplyByTens 39 = .ok (.iload_n 1, 1) := by decide +kernel
theorem dX4_multiplyByTens_40 : decode cX4_multiplyByTens 40 = .ok (.invokevirtual 130, 3) := by decide +kernel
theorem dX4_multiplyByTens_43 : decode cX4_multiplyByTens 43 = .ok (.aload_n 0, 1) := by decide +kernel
theorem dX4_multiplyByTens_44 : decode cX4_multiplyByTens 44 = .ok (.getfield 48, 3) := by decide +kernel
theorem dX4_multiplyByTens_47 : decode cX4_multiplyByTens 47 = .ok (.invokevirtual 150, 3) := by decide +kernel
theorem dX4_multiplyByTens_50 : decode cX4_multiplyByTens 50 = .ok (.sipush 4096, 3) := by decide +kernel
theorem dX4_multiplyByTens_53 : decode cX4_multiplyByTens 53 = .ok (.if_icmp .gt 7, 3) := by decide +kernel
theorem dX4_multiplyByTens_56 : decode cX4_multiplyByTens 56 = .ok (.iconst 1, 1) := by decide +kernel
theorem dX4_multiplyByTens_57 : decode cX4_multiplyByTens 57 = .ok (.goto 4, 3) := by decide +kernel
theorem dX4_multiplyByTens_60 : decode cX4_multiplyByTens 60 = .ok (.iconst 0, 1) := by decide +kernel
theorem dX4_multiplyByTens_61 : decode cX4_multiplyByTens 61 = .ok (.ireturn, 1) := by decide +kernel
theorem dX4_divideByTens_0 : decode cX4_divideByTens 0 = .ok (.iload_n 1, 1) := by decide +kernel
theorem dX4_divideByTens_1 : decode cX4_divideByTens 1 = .ok (.aload_n 0, 1) := by decide +kernel
theorem dX4_divideByTens_2 : decode cX4_divideByTens 2 = .ok (.getfield 48, 3) := by decide +kernel
theorem dX4_divideByTens_5 : decode cX4_divideByTens 5 = .ok (.invokevirtual 225, 3) := by decide +kernel
theorem dX4_divideByTens_8 : decode cX4_divideByTens 8 = .ok (.iload_n 1, 1) := by decide +kernel
theorem dX4_divideByTens_9 : decode cX4_divideByTens 9 = .ok (.invokestatic 139, 3) := by decide +kernel
theorem dX4_divideByTens_12 : decode cX4_divideByTens 12 = .ok (.isub, 1) := by decide +kernel
theorem dX4_divideByTens_13 : decode cX4_divideByTens 13 = .ok (.istore_n 2, 1) := by decide +kernel
theorem dX4_divideByTens_14 : decode cX4_divideByTens 14 = .ok (.aload_n 0, 1) := by decide +kernel
theorem dX4_divideByTens_15 : decode cX4_divideByTens 15 = .ok (.getfield 48, 3) := by decide +kernel
theorem dX4_divideByTens_18 : decode cX4_divideByTens 18 = .ok (.iload_n 1, 1) := by decide +kernel
theorem dX4_divideByTens_19 : decode cX4_divideByTens 19 = .ok (.iload_n 2, 1) := by decide +kernel
theorem dX4_divideByTens_20 : decode cX4_divideByTens 20 = .ok (.isub, 1) := by decide +kernel
theorem dX4_divideByTens_21 : decode cX4_divideByTens 21 = .ok (.invokevirtual 145, 3) := by decide +kernel
theorem dX4_divideByTens_24 : decode cX4_divideByTens 24 = .ok (.iload_n 1, 1) := by decide +kernel
theorem dX4_divideByTens_25 : decode cX4_divideByTens 25 = .ok (.aload_n 0, 1) := by decide +kernel
theorem dX4_divideByTens_26 : decode cX4_divideByTens 26 = .ok (.getfield 48, 3) := by decide +kernel
theorem dX4_divideByTens_29 : decode cX4_divideByTens 29 = .ok (.iload_n 1, 1) := by decide +kernel
theorem dX4_divideByTens_30 : decode cX4_divideByTens 30 = .ok (.invokevirtual 228, 3) := by decide +kernel
theorem dX4_divideByTens_33 : decode cX4_divideByTens 33 = .ok (.isub, 1) := by decide +kernel
theorem dX4_divideByTens_34 : decode cX4_divideByTens 34 = .ok (.istore_n 3, 1) := by decide +kernel
theorem dX4_divideByTens_35 : decode cX4_divideByTens 35 = .ok (.iload_n 3, 1) := by decide +kernel
theorem dX4_divideByTens_36 : decode cX4_divideByTens 36 = .ok (.sipush 1764, 3) := by decide +kernel
theorem dX4_divideByTens_39 : decode cX4_divideByTens 39 = .ok (.if_icmp .le 5, 3) := by decide +kernel
theorem dX4_divideByTens_42 : decode cX4_divideByTens 42 = .ok (.iconst 0, 1) := by decide +kernel
theorem dX4_divideByTens_43 : decode cX4_divideByTens 43 = .ok (.ireturn, 1) := by decide +kernel
theorem dX4_divideByTens_44 : decode cX4_divideByTens 44 = .ok (.aload_n 0, 1) := by decide +kernel
theorem dX4_divideByTens_45 : decode cX4_divideByTens 45 = .ok (.getfield 52, 3) := by decide +kernel
theorem dX4_divideByTens_48 : decode cX4_divideByTens 48 = .ok (.iload_n 3, 1) := by decide +kernel
theorem dX4_divideByTens_49 : decode cX4_divideByTens 49 = .ok (.invokevirtual 215, 3) := by decide +kernel
theorem dX4_divideByTens_52 : decode cX4_divideByTens 52 = .ok (.aload_n 0, 1) := by decide +kernel
theorem dX4_divideByTens_53 : decode cX4_divideByTens 53 = .ok (.getfield 52, 3) := by decide +kernel
theorem dX4_divideByTens_56 : decode cX4_divideByTens 56 = .ok (.invokevirtual 150, 3) := by decide +kernel
theorem dX4_divideByTens_59 : decode cX4_divideByTens 59 = .ok (.iload_n 2, 1) := by decide +kernel
theorem dX4_divideByTens_60 : decode cX4_divideByTens 60 = .ok (.iadd, 1) := by decide +kernel
theorem dX4_divideByTens_61 : decode cX4_divideByTens 61 = .ok (.sipush 4096, 3) := by decide +kernel
theorem dX4_divideByTens_64 : decode cX4_divideByTens 64 = .ok (.if_icmp .le 5, 3) := by decide +kernel
theorem dX4_divideByTens_67 : decode cX4_divideByTens 67 = .ok (.iconst 0, 1) := by decide +kernel
theorem dX4_divideByTens_68 : decode cX4_divideByTens 68 = .ok (.ireturn, 1) := by decide +kernel
theorem dX4_divideByTens_69 : decode cX4_divideByTens 69 = .ok (.aload_n 0, 1) := by decide +kernel
theorem dX4_divideByTens_70 : decode cX4_divideByTens 70 = .ok (.getfield 52, 3) := by decide +kernel
theorem dX4_divideByTens_73 : decode cX4_divideByTens 73 = .ok (.iload_n 2, 1) := by decide +kernel
theorem dX4_divideByTens_74 : decode cX4_divideByTens 74 = .ok (.invokevirtual 130, 3) := by decide +kernel
theorem dX4_divideByTens_77 : decode cX4_divideByTens 77 = .ok (.iconst 1, 1) := by decide +kernel
theorem dX4_divideByTens_78 : decode cX4_divideByTens 78 = .ok (.ireturn, 1) := by decide +kernel
theorem dX4_bringToLowestTerms_0 : decode cX4_bringToLowestTerms 0 = .ok (.aload_n 0, 1) := by decide +kernel
theorem dX4_bringToLowestTerms_1 : decode cX4_bringToLowestTerms 1 = .ok (.getfield 48, 3) := by decide +kernel
theorem dX4_bringToLowestTerms_4 : decode cX4_bringToLowestTerms 4 = .ok (.invokevirtual 178, 3) := by decide +kernel
theorem dX4_bringToLowestTerms_7 : decode cX4_bringToLowestTerms 7 = .ok (.ifCond .ne 13, 3) := by decide +kernel
theorem dX4_bringToLowestTerms_10 : decode cX4_bringToLowestTerms 10 = .ok (.aload_n 0, 1) := by decide +kernel
theorem dX4_bringToLowestTerms_11 : decode cX4_bringToLowestTerms 11 = .ok (.getfield 52, 3) := by decide +kernel
theorem dX4_bringToLowestTerms_14 : decode cX4_bringToLowestTerms 14 = .ok (.invokevirtual 231, 3) := by decide +kernel
theorem dX4_bringToLowestTerms_17 : decode cX4_bringToLowestTerms 17 = .ok (.ifCond .eq 12, 3) := by decide +kernel
theorem dX4_bringToLowestTerms_20 : decode cX4_bringToLowestTerms 20 = .ok (.aload_n 0, 1) := by decide +kernel
theorem dX4_bringToLowestTerms_21 : decode cX4_bringToLowestTerms 21 = .ok (.getfield 52, 3) := by decide +kernel
theorem dX4_bringToLowestTerms_24 : decode cX4_bringToLowestTerms 24 = .ok (.lconst 1, 1) := by decide +kernel
theorem dX4_bringToLowestTerms_25 : decode cX4_bringToLowestTerms 25 = .ok (.invokevirtual 126, 3) := by decide +kernel
theorem dX4_bringToLowestTerms_28 : decode cX4_bringToLowestTerms 28 = .ok (.return_, 1) := by decide +kernel
theorem dX4_bringToLowestTerms_29 : decode cX4_bringToLowestTerms 29 = .ok (.aload_n 0, 1) := by decide +kernel
theorem dX4_bringToLowestTerms_30 : decode cX4_bringToLowestTerms 30 = .ok (.getfield 48, 3) := by decide +kernel
theorem dX4_bringToLowestTerms_33 : decode cX4_bringToLowestTerms 33 = .ok (.invokevirtual 225, 3) := by decide +kernel
theorem dX4_bringToLowestTerms_36 : decode cX4_bringToLowestTerms 36 = .ok (.aload_n 0, 1) := by decide +kernel
theorem dX4_bringToLowestTerms_37 : decode cX4_bringToLowestTerms 37 = .ok (.getfield 52, 3) := by decide +kernel
theorem dX4_bringToLowestTerms_40 : decode cX4_bringToLowestTerms 40 = .ok (.invokevirtual 225, 3) := by decide +kernel
theorem dX4_bringToLowestTerms_43 : decode cX4_bringToLowestTerms 43 = .ok (.invokestatic 139, 3) := by decide +kernel
theorem dX4_bringToLowestTerms_46 : decode cX4_bringToLowestTerms 46 = .ok (.istore_n 1, 1) := by decide +kernel
theorem dX4_bringToLowestTerms_47 : decode cX4_bringToLowestTerms 47 = .ok (.aload_n 0, 1) := by decide +kernel
theorem dX4_bringToLowestTerms_48 : decode cX4_bringToLowestTerms 48 = .ok (.getfield 48, 3) := by decide +kernel
theorem dX4_bringToLowestTerms_51 : decode cX4_bringToLowestTerms 51 = .ok (.iload_n 1, 1) := by decide +kernel
theorem dX4_bringToLowestTerms_52 : decode cX4_bringToLowestTerms 52 = .ok (.invokevirtual 145, 3) := by decide +kernel
theorem dX4_bringToLowestTerms_55 : decode cX4_bringToLowestTerms 55 = .ok (.aload_n 0, 1) := by decide +kernel
theorem dX4_bringToLowestTerms_56 : decode cX4_bringToLowestTerms 56 = .ok (.getfield 52, 3) := by decide +kernel
theorem dX4_bringToLowestTerms_59 : decode cX4_bringToLowestTerms 59 = .ok (.iload_n 1, 1) := by decide +kernel
theorem dX4_bringToLowestTerms_60 : decode cX4_bringToLowestTerms 60 = .ok (.invokevirtual 145, 3) := by decide +kernel
theorem dX4_bringToLowestTerms_63 : decode cX4_bringToLowestTerms 63 = .ok (.aload_n 0, 1) := by decide +kernel
theorem dX4_bringToLowestTerms_64 : decode cX4_bringToLowestTerms 64 = .ok (.invokevirtual 234, 3) := by decide +kernel
theorem dX4_bringToLowestTerms_67 : decode cX4_bringToLowestTerms 67 = .ok (.astore_n 2, 1) := by decide +kernel
theorem dX4_bringToLowestTerms_68 : decode cX4_bringToLowestTerms 68 = .ok (.aload_n 2, 1) := by decide +kernel
theorem dX4_bringToLowestTerms_69 : decode cX4_bringToLowestTerms 69 = .ok (.invokevirtual 231, 3) := by decide +kernel
theorem dX4_bringToLowestTerms_72 : decode cX4_bringToLowestTerms 72 = .ok (.ifCond .ne 19, 3) := by decide +kernel
theorem dX4_bringToLowestTerms_75 : decode cX4_bringToLowestTerms 75 = .ok (.aload_n 0, 1) := by decide +kernel
theorem dX4_bringToLowestTerms_76 : decode cX4_bringToLowestTerms 76 = .ok (.getfield 48, 3) := by decide +kernel
theorem dX4_bringToLowestTerms_79 : decode cX4_bringToLowestTerms 79 = .ok (.aload_n 2, 1) := by decide +kernel
theorem dX4_bringToLowestTerms_80 : decode cX4_bringToLowestTerms 80 = .ok (.invokevirtual 238, 3) := by decide +kernel
theorem dX4_bringToLowestTerms_83 : decode cX4_bringToLowestTerms 83 = .ok (.aload_n 0, 1) := by decide +kernel
theorem dX4_bringToLowestTerms_84 : decode cX4_bringToLowestTerms 84 = .ok (.getfield 52, 3) := by decide +kernel
theorem dX4_bringToLowestTerms_87 : decode cX4_bringToLowestTerms 87 = .ok (.aload_n 2, 1) := by decide +kernel
theorem dX4_bringToLowestTerms_88 : decode cX4_bringToLowestTerms 88 = .ok (.invokevirtual 238, 3) := by decide +kernel
theorem dX4_bringToLowestTerms_91 : decode cX4_bringToLowestTerms 91 = .ok (.return_, 1) := by decide +kernel
theorem dX4_greatestOddDivisor_0 : decode cX4_greatestOddDivisor 0 = .ok (.aload_n 0, 1) := by decide +kernel
theorem dX4_greatestOddDivisor_1 : decode cX4_greatestOddDivisor 1 = .ok (.getfield 55, 3) := by decide +kernel
theorem dX4_greatestOddDivisor_4 : decode cX4_greatestOddDivisor 4 = .ok (.astore_n 1, 1) := by decide +kernel
theorem dX4_greatestOddDivisor_5 : decode cX4_greatestOddDivisor 5 = .ok (.aload_n 0, 1) := by decide +kernel
theorem dX4_greatestOddDivisor_6 : decode cX4_greatestOddDivisor 6 = .ok (.getfield 58, 3) := by decide +kernel
theorem dX4_greatestOddDivisor_9 : decode cX4_greatestOddDivisor 9 = .ok (.astore_n 2, 1) := by decide +kernel
theorem dX4_greatestOddDivisor_10 : decode cX4_greatestOddDivisor 10 = .ok (.aload_n 1, 1) := by decide +kernel
theorem dX4_greatestOddDivisor_11 : decode cX4_greatestOddDivisor 11 = .ok (.aload_n 0, 1) := by decide +kernel
theorem dX4_greatestOddDivisor_12 : decode cX4_greatestOddDivisor 12 = .ok (.getfield 48, 3) := by decide +kernel
theorem dX4_greatestOddDivisor_15 : decode cX4_greatestOddDivisor 15 = .ok (.invokevirtual 241, 3) := by decide +kernel
theorem dX4_greatestOddDivisor_18 : decode cX4_greatestOddDivisor 18 = .ok (.aload_n 2, 1) := by decide +kernel
theorem dX4_greatestOddDivisor_19 : decode cX4_greatestOddDivisor 19 = .ok (.aload_n 0, 1) := by decide +kernel
theorem dX4_greatestOddDivisor_20 : decode cX4_greatestOddDivisor 20 = .ok (.getfield 52, 3) := by decide +kernel
theorem dX4_greatestOddDivisor_23 : decode cX4_greatestOddDivisor 23 = .ok (.invokevirtual 241, 3) := by decide +kernel
theorem dX4_greatestOddDivisor_26 : decode cX4_greatestOddDivisor 26 = .ok (.aload_n 1, 1) := by decide +kernel
theorem dX4_greatestOddDivisor_27 : decode cX4_greatestOddDivisor 27 = .ok (.aload_n 1, 1) := by decide +kernel
theorem dX4_greatestOddDivisor_28 : decode cX4_greatestOddDivisor 28 = .ok (.invokevirtual 225, 3) := by decide +kernel
theorem dX4_greatestOddDivisor_31 : decode cX4_greatestOddDivisor 31 = .ok (.invokevirtual 145, 3) := by decide +kernel
theorem dX4_greatestOddDivisor_34 : decode cX4_greatestOddDivisor 34 = .ok (.aload_n 2, 1) := by decide +kernel
theorem dX4_greatestOddDivisor_35 : decode cX4_greatestOddDivisor 35 = .ok (.aload_n 2, 1) := by decide +kernel
theorem dX4_greatestOddDivisor_36 : decode cX4_greatestOddDivisor 36 = .ok (.invokevirtual 225, 3) := by decide +kernel
theorem dX4_greatestOddDivisor_39 : decode cX4_greatestOddDivisor 39 = .ok (.invokevirtual 145, 3) := by decide +kernel
theorem dX4_greatestOddDivisor_42 : decode cX4_greatestOddDivisor 42 = .ok (.iconst 0, 1) := by decide +kernel
theorem dX4_greatestOddDivisor_43 : decode cX4_greatestOddDivisor 43 = .ok (.istore_n 3, 1) := by decide +kernel
theorem dX4_greatestOddDivisor_44 : decode cX4_greatestOddDivisor 44 = .ok (.iload_n 3, 1) := by decide +kernel
theorem dX4_greatestOddDivisor_45 : decode cX4_greatestOddDivisor 45 = .ok (.sipush 8448, 3) := by decide +kernel
theorem dX4_greatestOddDivisor_48 : decode cX4_greatestOddDivisor 48 = .ok (.if_icmp .ge 50, 3) := by decide +kernel
theorem dX4_greatestOddDivisor_51 : decode cX4_greatestOddDivisor 51 = .ok (.aload_n 1, 1) := by decide +kernel
theorem dX4_greatestOddDivisor_52 : decode cX4_greatestOddDivisor 52 = .ok (.aload_n 2, 1) := by decide +kernel
theorem dX4_greatestOddDivisor_53 : decode cX4_greatestOddDivisor 53 = .ok (.invokevirtual 197, 3) := by decide +kernel
theorem dX4_greatestOddDivisor_56 : decode cX4_greatestOddDivisor 56 = .ok (.istore 4, 2) := by decide +kernel
theorem dX4_greatestOddDivisor_58 : decode cX4_greatestOddDivisor 58 = .ok (.iload 4, 2) := by decide +kernel
theorem dX4_greatestOddDivisor_60 : decode cX4_greatestOddDivisor 60 = .ok (.ifCond .ne 6, 3) := by decide +kernel
theorem dX4_greatestOddDivisor_63 : decode cX4_greatestOddDivisor 63 = .ok (.goto 35, 3) := by decide +kernel
theorem dX4_greatestOddDivisor_66 : decode cX4_greatestOddDivisor 66 = .ok (.iload 4, 2) := by decide +kernel
theorem dX4_greatestOddDivisor_68 : decode cX4_greatestOddDivisor 68 = .ok (.ifCond .ge 11, 3) := by decide +kernel
theorem dX4_greatestOddDivisor_71 : decode cX4_greatestOddDivisor 71 = .ok (.aload_n 1, 1) := by decide +kernel
theorem dX4_greatestOddDivisor_72 : decode cX4_greatestOddDivisor 72 = .ok (.astore 5, 2) := by decide +kernel
theorem dX4_greatestOddDivisor_74 : decode cX4_greatestOddDivisor 74 = .ok (.aload_n 2, 1) := by decide +kernel
theorem dX4_greatestOddDivisor_75 : decode cX4_greatestOddDivisor 75 = .ok (.astore_n 1, 1) := by decide +kernel
theorem dX4_greatestOddDivisor_76 : decode cX4_greatestOddDivisor 76 = .ok (.aload 5, 2) := by decide +kernel
theorem dX4_greatestOddDivisor_78 : decode cX4_greatestOddDivisor 78 = .ok (.astore_n 2, 1) := by decide +kernel
theorem dX4_greatestOddDivisor_79 : decode cX4_greatestOddDivisor 79 = .ok (.aload_n 1, 1) := by decide +kernel
theorem dX4_greatestOddDivisor_80 : decode cX4_greatestOddDivisor 80 = .ok (.aload_n 2, 1) := by decide +kernel
theorem dX4_greatestOddDivisor_81 : decode cX4_greatestOddDivisor 81 = .ok (.invokevirtual 201, 3) := by decide +kernel
theorem dX4_greatestOddDivisor_84 : decode cX4_greatestOddDivisor 84 = .ok (.aload_n 1, 1) := by decide +kernel
theorem dX4_greatestOddDivisor_85 : decode cX4_greatestOddDivisor 85 = .ok (.aload_n 1, 1) := by decide +kernel
theorem dX4_greatestOddDivisor_86 : decode cX4_greatestOddDivisor 86 = .ok (.invokevirtual 225, 3) := by decide +kernel
theorem dX4_greatestOddDivisor_89 : decode cX4_greatestOddDivisor 89 = .ok (.invokevirtual 145, 3) := by decide +kernel
theorem dX4_greatestOddDivisor_92 : decode cX4_greatestOddDivisor 92 = .ok (.iinc 3 1, 3) := by decide +kernel
theorem dX4_greatestOddDivisor_95 : decode cX4_greatestOddDivisor 95 = .ok (.goto (-51), 3) := by decide +kernel
theorem dX4_greatestOddDivisor_98 : decode cX4_greatestOddDivisor 98 = .ok (.aload_n 2, 1) := by decide +kernel
theorem dX4_greatestOddDivisor_99 : decode cX4_greatestOddDivisor 99 = .ok (.areturn, 1) := by decide +kernel
theorem dX4_appendExactNumber_0 : decode cX4_appendExactNumber 0 = .ok (.aload_n 0, 1) := by decide +kernel
theorem dX4_appendExactNumber_1 : decode cX4_appendExactNumber 1 = .ok (.getfield 27, 3) := by decide +kernel
theorem dX4_appendExactNumber_4 : decode cX4_appendExactNumber 4 = .ok (.aload_n 0, 1) := by decide +kernel
theorem dX4_appendExactNumber_5 : decode cX4_appendExactNumber 5 = .ok (.getfield 48, 3) := by decide +kernel
theorem dX4_appendExactNumber_8 : decode cX4_appendExactNumber 8 = .ok (.invokevirtual 150, 3) := by decide +kernel
theorem dX4_appendExactNumber_11 : decode cX4_appendExactNumber 11 = .ok (.aload_n 0, 1) := by decide +kernel
theorem dX4_appendExactNumber_12 : decode cX4_appendExactNumber 12 = .ok (.getfield 52, 3) := by decide +kernel
theorem dX4_appendExactNumber_15 : decode cX4_appendExactNumber 15 = .ok (.invokevirtual 150, 3) := by decide +kernel
theorem dX4_appendExactNumber_18 : decode cX4_appendExactNumber 18 = .ok (.iadd, 1) := by decide +kernel
theorem dX4_appendExactNumber_19 : decode cX4_appendExactNumber 19 = .ok (.invokevirtual 243, 3) := by decide +kernel
theorem dX4_appendExactNumber_22 : decode cX4_appendExactNumber 22 = .ok (.aload_n 0, 1) := by decide +kernel
theorem dX4_appendExactNumber_23 : decode cX4_appendExactNumber 23 = .ok (.getfield 34, 3) := by decide +kernel
theorem dX4_appendExactNumber_26 : decode cX4_appendExactNumber 26 = .ok (.ifCond .eq 12, 3) := by decide +kernel
theorem dX4_appendExactNumber_29 : decode cX4_appendExactNumber 29 = .ok (.aload_n 0, 1) := by decide +kernel
theorem dX4_appendExactNumber_30 : decode cX4_appendExactNumber 30 = .ok (.getfield 27, 3) := by decide +kernel
theorem dX4_appendExactNumber_33 : decode cX4_appendExactNumber 33 = .ok (.bipush 45, 2) := by decide +kernel
theorem dX4_appendExactNumber_35 : decode cX4_appendExactNumber 35 = .ok (.invokevirtual 72, 3) := by decide +kernel
theorem dX4_appendExactNumber_38 : decode cX4_appendExactNumber 38 = .ok (.aload_n 0, 1) := by decide +kernel
theorem dX4_appendExactNumber_39 : decode cX4_appendExactNumber 39 = .ok (.aload_n 0, 1) := by decide +kernel
theorem dX4_appendExactNumber_40 : decode cX4_appendExactNumber 40 = .ok (.getfield 48, 3) := by decide +kernel
theorem dX4_appendExactNumber_43 : decode cX4_appendExactNumber 43 = .ok (.iload_n 1, 1) := by decide +kernel
theorem dX4_appendExactNumber_44 : decode cX4_appendExactNumber 44 = .ok (.invokevirtual 246, 3) := by decide +kernel
theorem dX4_appendExactNumber_47 : decode cX4_appendExactNumber 47 = .ok (.aload_n 0, 1) := by decide +kernel
theorem dX4_appendExactNumber_48 : decode cX4_appendExactNumber 48 = .ok (.getfield 52, 3) := by decide +kernel
theorem dX4_appendExactNumber_51 : decode cX4_appendExactNumber 51 = .ok (.invokevirtual 231, 3) := by decide +kernel
theorem dX4_appendExactNumber_54 : decode cX4_appendExactNumber 54 = .ok (.ifCond .ne 21, 3) := by decide +kernel
theorem dX4_appendExactNumber_57 : decode cX4_appendExactNumber 57 = .ok (.aload_n 0, 1) := by decide +kernel
theorem dX4_appendExactNumber_58 : decode cX4_appendExactNumber 58 = .ok (.getfield 27, 3) := by decide +kernel
theorem dX4_appendExactNumber_61 : decode cX4_appendExactNumber 61 = .ok (.bipush 47, 2) := by decide +kernel
theorem dX4_appendExactNumber_63 : decode cX4_appendExactNumber 63 = .ok (.invokevirtual 72, 3) := by decide +kernel
theorem dX4_appendExactNumber_66 : decode cX4_appendExactNumber 66 = .ok (.aload_n 0, 1) := by decide +kernel
theorem dX4_appendExactNumber_67 : decode cX4_appendExactNumber 67 = .ok (.aload_n 0, 1) := by decide +kernel
theorem dX4_appendExactNumber_68 : decode cX4_appendExactNumber 68 = .ok (.getfield 52, 3) := by decide +kernel
theorem dX4_appendExactNumber_71 : decode cX4_appendExactNumber 71 = .ok (.iload_n 1, 1) := by decide +kernel
theorem dX4_appendExactNumber_72 : decode cX4_appendExactNumber 72 = .ok (.invokevirtual 246, 3) := by decide +kernel
theorem dX4_appendExactNumber_75 : decode cX4_appendExactNumber 75 = .ok (.return_, 1) := by decide +kernel
theorem dX4_appendNatural_0 : decode cX4_appendNatural 0 = .ok (.iload_n 2, 1) := by decide +kernel
theorem dX4_appendNatural_1 : decode cX4_appendNatural 1 = .ok (.iconst 2, 1) := by decide +kernel
theorem dX4_appendNatural_2 : decode cX4_appendNatural 2 = .ok (.if_icmp .lt 9, 3) := by decide +kernel
theorem dX4_appendNatural_5 : decode cX4_appendNatural 5 = .ok (.iload_n 2, 1) := by decide +kernel
theorem dX4_appendNatural_6 : decode cX4_appendNatural 6 = .ok (.bipush 16, 2) := by decide +kernel
theorem dX4_appendNatural_8 : decode cX4_appendNatural 8 = .ok (.if_icmp .le 4, 3) := by decide +kernel
theorem dX4_appendNatural_11 : decode cX4_appendNatural 11 = .ok (.return_, 1) := by decide +kernel
theorem dX4_appendNatural_12 : decode cX4_appendNatural 12 = .ok (.iload_n 2, 1) := by decide +kernel
theorem dX4_appendNatural_13 : decode cX4_appendNatural 13 = .ok (.istore_n 3, 1) := by decide +kernel
theorem dX4_appendNatural_14 : decode cX4_appendNatural 14 = .ok (.iconst 1, 1) := by decide +kernel
theorem dX4_appendNatural_15 : decode cX4_appendNatural 15 = .ok (.istore 4, 2) := by decide +kernel
theorem dX4_appendNatural_17 : decode cX4_appendNatural 17 = .ok (.iload 4, 2) := by decide +kernel
theorem dX4_appendNatural_19 : decode cX4_appendNatural 19 = .ok (.bipush 31, 2) := by decide +kernel
theorem dX4_appendNatural_21 : decode cX4_appendNatural 21 = .ok (.if_icmp .ge 25, 3) := by decide +kernel
theorem dX4_appendNatural_24 : decode cX4_appendNatural 24 = .ok (.iload_n 3, 1) := by decide +kernel
theorem dX4_appendNatural_25 : decode cX4_appendNatural 25 = .ok (.i2l, 1) := by decide +kernel
theorem dX4_appendNatural_26 : decode cX4_appendNatural 26 = .ok (.iload_n 2, 1) := by decide +kernel
theorem dX4_appendNatural_27 : decode cX4_appendNatural 27 = .ok (.i2l, 1) := by decide +kernel
theorem dX4_appendNatural_28 : decode cX4_appendNatural 28 = .ok (.lmul, 1) := by decide +kernel
theorem dX4_appendNatural_29 : decode cX4_appendNatural 29 = .ok (.ldc2_w 252, 3) := by decide +kernel
theorem dX4_appendNatural_32 : decode cX4_appendNatural 32 = .ok (.lcmp, 1) := by decide +kernel
theorem dX4_appendNatural_33 : decode cX4_appendNatural 33 = .ok (.ifCond .gt 13, 3) := by decide +kernel
theorem dX4_appendNatural_36 : decode cX4_appendNatural 36 = .ok (.iload_n 3, 1) := by decide +kernel
theorem dX4_appendNatural_37 : decode cX4_appendNatural 37 = .ok (.iload_n 2, 1) := by decide +kernel
theorem dX4_appendNatural_38 : decode cX4_appendNatural 38 = .ok (.imul, 1) := by decide +kernel
theorem dX4_appendNatural_39 : decode cX4_appendNatural 39 = .ok (.istore_n 3, 1) := by decide +kernel
theorem dX4_appendNatural_40 : decode cX4_appendNatural 40 = .ok (.iinc 4 1, 3) := by decide +kernel
theorem dX4_appendNatural_43 : decode cX4_appendNatural 43 = .ok (.goto (-26), 3) := by decide +kernel
theorem dX4_appendNatural_46 : decode cX4_appendNatural 46 = .ok (.aload_n 0, 1) := by decide +kernel
theorem dX4_appendNatural_47 : decode cX4_appendNatural 47 = .ok (.getfield 27, 3) := by decide +kernel
theorem dX4_appendNatural_50 : decode cX4_appendNatural 50 = .ok (.invokevirtual 68, 3) := by decide +kernel
theorem dX4_appendNatural_53 : decode cX4_appendNatural 53 = .ok (.istore 5, 2) := by decide +kernel
theorem dX4_appendNatural_55 : decode cX4_appendNatural 55 = .ok (.aload_n 0, 1) := by decide +kernel
theorem dX4_appendNatural_56 : decode cX4_appendNatural 56 = .ok (.getfield 55, 3) := by decide +kernel
theorem dX4_appendNatural_59 : decode cX4_appendNatural 59 = .ok (.aload_n 1, 1) := by decide +kernel
theorem dX4_appendNatural_60 : decode cX4_appendNatural 60 = .ok (.invokevirtual 241, 3) := by decide +kernel
theorem dX4_appendNatural_63 : decode cX4_appendNatural 63 = .ok (.iconst 0, 1) := by decide +kernel
theorem dX4_appendNatural_64 : decode cX4_appendNatural 64 = .ok (.istore 6, 2) := by decide +kernel
theorem dX4_appendNatural_66 : decode cX4_appendNatural 66 = .ok (.iload 6, 2) := by decide +kernel
theorem dX4_appendNatural_68 : decode cX4_appendNatural 68 = .ok (.sipush 4224, 3) := by decide +kernel
theorem dX4_appendNatural_71 : decode cX4_appendNatural 71 = .ok (.if_icmp .ge 37, 3) := by decide +kernel
theorem dX4_appendNatural_74 : decode cX4_appendNatural 74 = .ok (.aload_n 0, 1) := by decide +kernel
theorem dX4_appendNatural_75 : decode cX4_appendNatural 75 = .ok (.getfield 55, 3) := by decide +kernel
theorem dX4_appendNatural_78 : decode cX4_appendNatural 78 = .ok (.invokevirtual 178, 3) := by decide +kernel
theorem dX4_appendNatural_81 : decode cX4_appendNatural 81 = .ok (.ifCond .ne 27, 3) := by decide +kernel
theorem dX4_appendNatural_84 : decode cX4_appendNatural 84 = .ok (.aload_n 0, 1) := by decide +kernel
theorem dX4_appendNatural_85 : decode cX4_appendNatural 85 = .ok (.getfield 27, 3) := by decide +kernel
theorem dX4_appendNatural_88 : decode cX4_appendNatural 88 = .ok (.aload_n 0, 1) := by decide +kernel
theorem dX4_appendNatural_89 : decode cX4_appendNatural 89 = .ok (.getfield 55, 3) := by decide +kernel
theorem dX4_appendNatural_92 : decode cX4_appendNatural 92 = .ok (.iload_n 3, 1) := by decide +kernel
theorem dX4_appendNatural_93 : decode cX4_appendNatural 93 = .ok (.invokevirtual 254, 3) := by decide +kernel
theorem dX4_appendNatural_96 : decode cX4_appendNatural 96 = .ok (.iload_n 2, 1) := by decide +kernel
theorem dX4_appendNatural_97 : decode cX4_appendNatural 97 = .ok (.iload 4, 2) := by decide +kernel
theorem dX4_appendNatural_99 : decode cX4_appendNatural 99 = .ok (.invokevirtual 257, 3) := by decide +kernel
theorem dX4_appendNatural_102 : decode cX4_appendNatural 102 = .ok (.iinc 6 1, 3) := by decide +kernel
theorem dX4_appendNatural_105 : decode cX4_appendNatural 105 = .ok (.goto (-39), 3) := by decide +kernel
theorem dX4_appendNatural_108 : decode cX4_appendNatural 108 = .ok (.aload_n 0, 1) := by decide +kernel
theorem dX4_appendNatural_109 : decode cX4_appendNatural 109 = .ok (.getfield 27, 3) := by decide +kernel
theorem dX4_appendNatural_112 : decode cX4_appendNatural 112 = .ok (.iload 5, 2) := by decide +kernel
theorem dX4_appendNatural_114 : decode cX4_appendNatural 114 = .ok (.invokevirtual 261, 3) := by decide +kernel
theorem dX4_appendNatural_117 : decode cX4_appendNatural 117 = .ok (.aload_n 0, 1) := by decide +kernel
theorem dX4_appendNatural_118 : decode cX4_appendNatural 118 = .ok (.getfield 27, 3) := by decide +kernel
theorem dX4_appendNatural_121 : decode cX4_appendNatural 121 = .ok (.invokevirtual 68, 3) := by decide +kernel
theorem dX4_appendNatural_124 : decode cX4_appendNatural 124 = .ok (.iload 5, 2) := by decide +kernel
theorem dX4_appendNatural_126 : decode cX4_appendNatural 126 = .ok (.if_icmp .ne 12, 3) := by decide +kernel
theorem dX4_appendNatural_129 : decode cX4_appendNatural 129 = .ok (.aload_n 0, 1) := by decide +kernel
theorem dX4_appendNatural_130 : decode cX4_appendNatural 130 = .ok (.getfield 27, 3) := by decide +kernel
theorem dX4_appendNatural_133 : decode cX4_appendNatural 133 = .ok (.bipush 48, 2) := by decide +kernel
theorem dX4_appendNatural_135 : decode cX4_appendNatural 135 = .ok (.invokevirtual 72, 3) := by decide +kernel
theorem dX4_appendNatural_138 : decode cX4_appendNatural 138 = .ok (.aload_n 0, 1) := by decide +kernel
theorem dX4_appendNatural_139 : decode cX4_appendNatural 139 = .ok (.getfield 27, 3) := by decide +kernel
theorem dX4_appendNatural_142 : decode cX4_appendNatural 142 = .ok (.iload 5, 2) := by decide +kernel
theorem dX4_appendNatural_144 : decode cX4_appendNatural 144 = .ok (.invokevirtual 264, 3) := by decide +kernel
theorem dX4_appendNatural_147 : decode cX4_appendNatural 147 = .ok (.return_, 1) := by decide +kernel
theorem dX4_appendFinite_0 : decode cX4_appendFinite 0 = .ok (.aload_n 0, 1) := by decide +kernel
theorem dX4_appendFinite_1 : decode cX4_appendFinite 1 = .ok (.getfield 34, 3) := by decide +kernel
theorem dX4_appendFinite_4 : decode cX4_appendFinite 4 = .ok (.ifCond .eq 12, 3) := by decide +kernel
theorem dX4_appendFinite_7 : decode cX4_appendFinite 7 = .ok (.aload_n 0, 1) := by decide +kernel
theorem dX4_appendFinite_8 : decode cX4_appendFinite 8 = .ok (.getfield 27, 3) := by decide +kernel
theorem dX4_appendFinite_11 : decode cX4_appendFinite 11 = .ok (.bipush 45, 2) := by decide +kernel
theorem dX4_appendFinite_13 : decode cX4_appendFinite 13 = .ok (.invokevirtual 72, 3) := by decide +kernel
theorem dX4_appendFinite_16 : decode cX4_appendFinite 16 = .ok (.aload_n 0, 1) := by decide +kernel
theorem dX4_appendFinite_17 : decode cX4_appendFinite 17 = .ok (.getfield 64, 3) := by decide +kernel
theorem dX4_appendFinite_20 : decode cX4_appendFinite 20 = .ok (.aload_n 0, 1) := by decide +kernel
theorem dX4_appendFinite_21 : decode cX4_appendFinite 21 = .ok (.getfield 38, 3) := by decide +kernel
theorem dX4_appendFinite_24 : decode cX4_appendFinite 24 = .ok (.aload_n 0, 1) := by decide +kernel
theorem dX4_appendFinite_25 : decode cX4_appendFinite 25 = .ok (.getfield 42, 3) := by decide +kernel
theorem dX4_appendFinite_28 : decode cX4_appendFinite 28 = .ok (.invokevirtual 267, 3) := by decide +kernel
theorem dX4_appendFinite_31 : decode cX4_appendFinite 31 = .ok (.aload_n 0, 1) := by decide +kernel
theorem dX4_appendFinite_32 : decode cX4_appendFinite 32 = .ok (.getfield 64, 3) := by decide +kernel
theorem dX4_appendFinite_35 : decode cX4_appendFinite 35 = .ok (.invokevirtual 271, 3) := by decide +kernel
theorem dX4_appendFinite_38 : decode cX4_appendFinite 38 = .ok (.istore_n 1, 1) := by decide +kernel
theorem dX4_appendFinite_39 : decode cX4_appendFinite 39 = .ok (.iload_n 1, 1) := by decide +kernel
theorem dX4_appendFinite_40 : decode cX4_appendFinite 40 = .ok (.ifCond .le 45, 3) := by decide +kernel
theorem dX4_appendFinite_43 : decode cX4_appendFinite 43 = .ok (.iload_n 1, 1) := by decide +kernel
theorem dX4_appendFinite_44 : decode cX4_appendFinite 44 = .ok (.bipush 21, 2) := by decide +kernel
theorem dX4_appendFinite_46 : decode cX4_appendFinite 46 = .ok (.if_icmp .gt 39, 3) := by decide +kernel
theorem dX4_appendFinite_49 : decode cX4_appendFinite 49 = .ok (.aload_n 0, 1) := by decide +kernel
theorem dX4_appendFinite_50 : decode cX4_appendFinite 50 = .ok (.iconst 0, 1) := by decide +kernel
theorem dX4_appendFinite_51 : decode cX4_appendFinite 51 = .ok (.iload_n 1, 1) := by decide +kernel
theorem dX4_appendFinite_52 : decode cX4_appendFinite 52 = .ok (.invokevirtual 274, 3) := by decide +kernel
theorem dX4_appendFinite_55 : decode cX4_appendFinite 55 = .ok (.aload_n 0, 1) := by decide +kernel
theorem dX4_appendFinite_56 : decode cX4_appendFinite 56 = .ok (.getfield 27, 3) := by decide +kernel
theorem dX4_appendFinite_59 : decode cX4_appendFinite 59 = .ok (.bipush 46, 2) := by decide +kernel
theorem dX4_appendFinite_61 : decode cX4_appendFinite 61 = .ok (.invokevirtual 72, 3) := by decide +kernel
theorem dX4_appendFinite_64 : decode cX4_appendFinite 64 = .ok (.aload_n 0, 1) := by decide +kernel
theorem dX4_appendFinite_65 : decode cX4_appendFinite 65 = .ok (.iload_n 1, 1) := by decide +kernel
theorem dX4_appendFinite_66 : decode cX4_appendFinite 66 = .ok (.aload_n 0, 1) := by decide +kernel
theorem dX4_appendFinite_67 : decode cX4_appendFinite 67 = .ok (.getfield 64, 3) := by decide +kernel
theorem dX4_appendFinite_70 : decode cX4_appendFinite 70 = .ok (.invokevirtual 277, 3) := by decide +kernel
theorem dX4_appendFinite_73 : decode cX4_appendFinite 73 = .ok (.iload_n 1, 1) := by decide +kernel
theorem dX4_appendFinite_74 : decode cX4_appendFinite 74 = .ok (.iconst 1, 1) := by decide +kernel
theorem dX4_appendFinite_75 : decode cX4_appendFinite 75 = .ok (.iadd, 1) := by decide +kernel
theorem dX4_appendFinite_76 : decode cX4_appendFinite 76 = .ok (.invokestatic 184, 3) := by decide +kernel
theorem dX4_appendFinite_79 : decode cX4_appendFinite 79 = .ok (.invokevirtual 274, 3) := by decide +kernel
theorem dX4_appendFinite_82 : decode cX4_appendFinite 82 = .ok (.goto 66, 3) := by decide +kernel
theorem dX4_appendFinite_85 : decode cX4_appendFinite 85 = .ok (.iload_n 1, 1) := by decide +kernel
theorem dX4_appendFinite_86 : decode cX4_appendFinite 86 = .ok (.bipush (-7), 2) := by decide +kernel
theorem dX4_appendFinite_88 : decode cX4_appendFinite 88 = .ok (.if_icmp .le 53, 3) := by decide +kernel
theorem dX4_appendFinite_91 : decode cX4_appendFinite 91 = .ok (.iload_n 1, 1) := by decide +kernel
theorem dX4_appendFinite_92 : decode cX4_appendFinite 92 = .ok (.ifCond .gt 49, 3) := by decide +kernel
theorem dX4_appendFinite_95 : decode cX4_appendFinite 95 = .ok (.aload_n 0, 1) := by decide +kernel
theorem dX4_appendFinite_96 : decode cX4_appendFinite 96 = .ok (.getfield 27, 3) := by decide +kernel
theorem dX4_appendFinite_99 : decode cX4_appendFinite 99 = .ok (.ldc_w 280, 3) := by decide +kernel
theorem dX4_appendFinite_102 : decode cX4_appendFinite 102 = .ok (.invokevirtual 161, 3) := by decide +kernel
theorem dX4_appendFinite_105 : decode cX4_appendFinite 105 = .ok (.iload_n 1, 1) := by decide +kernel
theorem dX4_appendFinite_106 : decode cX4_appendFinite 106 = .ok (.istore_n 2, 1) := by decide +kernel
theorem dX4_appendFinite_107 : decode cX4_appendFinite 107 = .ok (.iload_n 2, 1) := by decide +kernel
theorem dX4_appendFinite_108 : decode cX4_appendFinite 108 = .ok (.ifCond .ge 18, 3) := by decide +kernel
theorem dX4_appendFinite_111 : decode cX4_appendFinite 111 = .ok (.aload_n 0, 1) := by decide +kernel
theorem dX4_appendFinite_112 : decode cX4_appendFinite 112 = .ok (.getfield 27, 3) := by decide +kernel
theorem dX4_appendFinite_115 : decode cX4_appendFinite 115 = .ok (.bipush 48, 2) := by decide +kernel
theorem dX4_appendFinite_117 : decode cX4_appendFinite 117 = .ok (.invokevirtual 72, 3) := by decide +kernel
theorem dX4_appendFinite_120 : decode cX4_appendFinite 120 = .ok (.iinc 2 1, 3) := by decide +kernel
theorem dX4_appendFinite_123 : decode cX4_appendFinite 123 = .ok (.goto (-16), 3) := by decide +kernel
theorem dX4_appendFinite_126 : decode cX4_appendFinite 126 = .ok (.aload_n 0, 1) := by decide +kernel
theorem dX4_appendFinite_127 : decode cX4_appendFinite 127 = .ok (.iconst 0, 1) := by decide +kernel
theorem dX4_appendFinite_128 : decode cX4_appendFinite 128 = .ok (.aload_n 0, 1) := by decide +kernel
theorem dX4_appendFinite_129 : decode cX4_appendFinite 129 = .ok (.getfield 64, 3) := by decide +kernel
theorem dX4_appendFinite_132 : decode cX4_appendFinite 132 = .ok (.invokevirtual 277, 3) := by decide +kernel
theorem dX4_appendFinite_135 : decode cX4_appendFinite 135 = .ok (.invokevirtual 274, 3) := by decide +kernel
theorem dX4_appendFinite_138 : decode cX4_appendFinite 138 = .ok (.goto 10, 3) := by decide +kernel
theorem dX4_appendFinite_141 : decode cX4_appendFinite 141 = .ok (.aload_n 0, 1) := by decide +kernel
theorem dX4_appendFinite_142 : decode cX4_appendFinite 142 = .ok (.iload_n 1, 1) := by decide +kernel
theorem dX4_appendFinite_143 : decode cX4_appendFinite 143 = .ok (.iconst 1, 1) := by decide +kernel
theorem dX4_appendFinite_144 : decode cX4_appendFinite 144 = .ok (.isub, 1) := by decide +kernel
theorem dX4_appendFinite_145 : decode cX4_appendFinite 145 = .ok (.invokevirtual 282, 3) := by decide +kernel
theorem dX4_appendFinite_148 : decode cX4_appendFinite 148 = .ok (.return_, 1) := by decide +kernel
theorem dX4_appendWithExponent_0 : decode cX4_appendWithExponent 0 = .ok (.aload_n 0, 1) := by decide +kernel
theorem dX4_appendWithExponent_1 : decode cX4_appendWithExponent 1 = .ok (.iconst 0, 1) := by decide +kernel
theorem dX4_appendWithExponent_2 : decode cX4_appendWithExponent 2 = .ok (.iconst 1, 1) := by decide +kernel
theorem dX4_appendWithExponent_3 : decode cX4_appendWithExponent 3 = .ok (.invokevirtual 274, 3) := by decide +kernel
theorem dX4_appendWithExponent_6 : decode cX4_appendWithExponent 6 = .ok (.aload_n 0, 1) := by decide +kernel
theorem dX4_appendWithExponent_7 : decode cX4_appendWithExponent 7 = .ok (.getfield 64, 3) := by decide +kernel
theorem dX4_appendWithExponent_10 : decode cX4_appendWithExponent 10 = .ok (.invokevirtual 277, 3) := by decide +kernel
theorem dX4_appendWithExponent_13 : decode cX4_appendWithExponent 13 = .ok (.iconst 1, 1) := by decide +kernel
theorem dX4_appendWithExponent_14 : decode cX4_appendWithExponent 14 = .ok (.if_icmp .le 24, 3) := by decide +kernel
theorem dX4_appendWithExponent_17 : decode cX4_appendWithExponent 17 = .ok (.aload_n 0, 1) := by decide +kernel
theorem dX4_appendWithExponent_18 : decode cX4_appendWithExponent 18 = .ok (.getfield 27, 3) := by decide +kernel
theorem dX4_appendWithExponent_21 : decode cX4_appendWithExponent 21 = .ok (.bipush 46, 2) := by decide +kernel
theorem dX4_appendWithExponent_23 : decode cX4_appendWithExponent 23 = .ok (.invokevirtual 72, 3) := by decide +kernel
theorem dX4_appendWithExponent_26 : decode cX4_appendWithExponent 26 = .ok (.aload_n 0, 1) := by decide +kernel
theorem dX4_appendWithExponent_27 : decode cX4_appendWithExponent 27 = .ok (.iconst 1, 1) := by decide +kernel
theorem dX4_appendWithExponent_28 : decode cX4_appendWithExponent 28 = .ok (.aload_n 0, 1) := by decide +kernel
theorem dX4_appendWithExponent_29 : decode cX4_appendWithExponent 29 = .ok (.getfield 64, 3) := by decide +kernel
theorem dX4_appendWithExponent_32 : decode cX4_appendWithExponent 32 = .ok (.invokevirtual 277, 3) := by decide +kernel
theorem dX4_appendWithExponent_35 : decode cX4_appendWithExponent 35 = .ok (.invokevirtual 274, 3) := by decide +kernel
theorem dX4_appendWithExponent_38 : decode cX4_appendWithExponent 38 = .ok (.aload_n 0, 1) := by decide +kernel
theorem dX4_appendWithExponent_39 : decode cX4_appendWithExponent 39 = .ok (.getfield 27, 3) := by decide +kernel
theorem dX4_appendWithExponent_42 : decode cX4_appendWithExponent 42 = .ok (.bipush 101, 2) := by decide +kernel
theorem dX4_appendWithExponent_44 : decode cX4_appendWithExponent 44 = .ok (.invokevirtual 72, 3) := by decide +kernel
theorem dX4_appendWithExponent_47 : decode cX4_appendWithExponent 47 = .ok (.iload_n 1, 1) := by decide +kernel
theorem dX4_appendWithExponent_48 : decode cX4_appendWithExponent 48 = .ok (.ifCond .ge 12, 3) := by decide +kernel
theorem dX4_appendWithExponent_51 : decode cX4_appendWithExponent 51 = .ok (.aload_n 0, 1) := by decide +kernel
theorem dX4_appendWithExponent_52 : decode cX4_appendWithExponent 52 = .ok (.getfield 27, 3) := by decide +kernel
theorem dX4_appendWithExponent_55 : decode cX4_appendWithExponent 55 = .ok (.bipush 45, 2) := by decide +kernel
theorem dX4_appendWithExponent_57 : decode cX4_appendWithExponent 57 = .ok (.invokevirtual 72, 3) := by decide +kernel
theorem dX4_appendWithExponent_60 : decode cX4_appendWithExponent 60 = .ok (.aload_n 0, 1) := by decide +kernel
theorem dX4_appendWithExponent_61 : decode cX4_appendWithExponent 61 = .ok (.getfield 58, 3) := by decide +kernel
theorem dX4_appendWithExponent_64 : decode cX4_appendWithExponent 64 = .ok (.iload_n 1, 1) := by decide +kernel
theorem dX4_appendWithExponent_65 : decode cX4_appendWithExponent 65 = .ok (.invokestatic 285, 3) := by decide +kernel
theorem dX4_appendWithExponent_68 : decode cX4_appendWithExponent 68 = .ok (.i2l, 1) := by decide +kernel
theorem dX4_appendWithExponent_69 : decode cX4_appendWithExponent 69 = .ok (.invokevirtual 126, 3) := by decide +kernel
theorem dX4_appendWithExponent_72 : decode cX4_appendWithExponent 72 = .ok (.aload_n 0, 1) := by decide +kernel
theorem dX4_appendWithExponent_73 : decode cX4_appendWithExponent 73 = .ok (.aload_n 0, 1) := by decide +kernel
theorem dX4_appendWithExponent_74 : decode cX4_appendWithExponent 74 = .ok (.getfield 58, 3) := by decide +kernel
theorem dX4_appendWithExponent_77 : decode cX4_appendWithExponent 77 = .ok (.bipush 10, 2) := by decide +kernel
theorem dX4_appendWithExponent_79 : decode cX4_appendWithExponent 79 = .ok (.invokevirtual 246, 3) := by decide +kernel
theorem dX4_appendWithExponent_82 : decode cX4_appendWithExponent 82 = .ok (.return_, 1) := by decide +kernel
theorem dX4_appendShortest_0 : decode cX4_appendShortest 0 = .ok (.iload_n 1, 1) := by decide +kernel
theorem dX4_appendShortest_1 : decode cX4_appendShortest 1 = .ok (.istore_n 3, 1) := by decide +kernel
theorem dX4_appendShortest_2 : decode cX4_appendShortest 2 = .ok (.iload_n 3, 1) := by decide +kernel
theorem dX4_appendShortest_3 : decode cX4_appendShortest 3 = .ok (.iload_n 2, 1) := by decide +kernel
theorem dX4_appendShortest_4 : decode cX4_appendShortest 4 = .ok (.if_icmp .ge 27, 3) := by decide +kernel
theorem dX4_appendShortest_7 : decode cX4_appendShortest 7 = .ok (.aload_n 0, 1) := by decide +kernel
theorem dX4_appendShortest_8 : decode cX4_appendShortest 8 = .ok (.getfield 27, 3) := by decide +kernel
theorem dX4_appendShortest_11 : decode cX4_appendShortest 11 = .ok (.bipush 48, 2) := by decide +kernel
theorem dX4_appendShortest_13 : decode cX4_appendShortest 13 = .ok (.aload_n 0, 1) := by decide +kernel
theorem dX4_appendShortest_14 : decode cX4_appendShortest 14 = .ok (.getfield 64, 3) := by decide +kernel
theorem dX4_appendShortest_17 : decode cX4_appendShortest 17 = .ok (.iload_n 3, 1) := by decide +kernel
theorem dX4_appendShortest_18 : decode cX4_appendShortest 18 = .ok (.invokevirtual 288, 3) := by decide +kernel
theorem dX4_appendShortest_21 : decode cX4_appendShortest 21 = .ok (.iadd, 1) := by decide +kernel
theorem dX4_appendShortest_22 : decode cX4_appendShortest 22 = .ok (.invokevirtual 72, 3) := by decide +kernel
theorem dX4_appendShortest_25 : decode cX4_appendShortest 25 = .ok (.iinc 3 1, 3) := by decide +kernel
theorem dX4_appendShortest_28 : decode cX4_appendShortest 28 = .ok (.goto (-26), 3) := by decide +kernel
theorem dX4_appendShortest_31 : decode cX4_appendShortest 31 = .ok (.return_, 1) := by decide +kernel
theorem dX5_init_0 : decode cX5_init 0 = .ok (.aload_n 0, 1) := by decide +kernel
theorem dX5_init_1 : decode cX5_init 1 = .ok (.invokespecial 1, 3) := by decide +kernel
theorem dX5_init_4 : decode cX5_init 4 = .ok (.return_, 1) := by decide +kernel
theorem dX6_init_0 : decode cX6_init 0 = .ok (.aload_n 0, 1) := by decide +kernel
theorem dX6_init_1 : decode cX6_init 1 = .ok (.invokespecial 1, 3) := by decide +kernel
theorem dX6_init_4 : decode cX6_init 4 = .ok (.aload_n 0, 1) := by decide +kernel
theorem dX6_init_5 : decode cX6_init 5 = .ok (.aload_n 1, 1) := by decide +kernel
theorem dX6_init_6 : decode cX6_init 6 = .ok (.putfield 7, 3) := by decide +kernel
theorem dX6_init_9 : decode cX6_init 9 = .ok (.aload_n 0, 1) := by decide +kernel
theorem dX6_init_10 : decode cX6_init 10 = .ok (.aload_n 2, 1) := by decide +kernel
theorem dX6_init_11 : decode cX6_init 11 = .ok (.putfield 13, 3) := by decide +kernel
theorem dX6_init_14 : decode cX6_init 14 = .ok (.return_, 1) := by decide +kernel
theorem dX7_init_0 : decode cX7_init 0 = .ok (.aload_n 0, 1) := by decide +kernel
theorem dX7_init_1 : decode cX7_init 1 = .ok (.invokespecial 1, 3) := by decide +kernel
theorem dX7_init_4 : decode cX7_init 4 = .ok (.aload_n 0, 1) := by decide +kernel
theorem dX7_init_5 : decode cX7_init 5 = .ok (.dload_n 1, 1) := by decide +kernel
theorem dX7_init_6 : decode cX7_init 6 = .ok (.putfield 7, 3) := by decide +kernel
theorem dX7_init_9 : decode cX7_init 9 = .ok (.aload_n 0, 1) := by decide +kernel
theorem dX7_init_10 : decode cX7_init 10 = .ok (.iload_n 3, 1) := by decide +kernel
theorem dX7_init_11 : decode cX7_init 11 = .ok (.putfield 13, 3) := by decide +kernel
theorem dX7_init_14 : decode cX7_init 14 = .ok (.return_, 1) := by decide +kernel
theorem dX7_of_0 : decode cX7_of 0 = .ok (.new 8, 3) := by decide +kernel
theorem dX7_of_3 : decode cX7_of 3 = .ok (.dup, 1) := by decide +kernel
theorem dX7_of_4 : decode cX7_of 4 = .ok (.dload_n 0, 1) := by decide +kernel
theorem dX7_of_5 : decode cX7_of 5 = .ok (.iconst 0, 1) := by decide +kernel
theorem dX7_of_6 : decode cX7_of 6 = .ok (.invokespecial 17, 3) := by decide +kernel
theorem dX7_of_9 : decode cX7_of 9 = .ok (.areturn, 1) := by decide +kernel
theorem dX8_init_0 : decode cX8_init 0 = .ok (.aload_n 0, 1) := by decide +kernel
theorem dX8_init_1 : decode cX8_init 1 = .ok (.invokespecial 3, 3) := by decide +kernel
theorem dX8_init_4 : decode cX8_init 4 = .ok (.aload_n 0, 1) := by decide +kernel
theorem dX8_init_5 : decode cX8_init 5 = .ok (.iload_n 1, 1) := by decide +kernel
theorem dX8_init_6 : decode cX8_init 6 = .ok (.putfield 9, 3) := by decide +kernel
theorem dX8_init_9 : decode cX8_init 9 = .ok (.aload_n 0, 1) := by decide +kernel
theorem dX8_init_10 : decode cX8_init 10 = .ok (.aload_n 2, 1) := by decide +kernel
theorem dX8_init_11 : decode cX8_init 11 = .ok (.putfield 15, 3) := by decide +kernel
theorem dX8_init_14 : decode cX8_init 14 = .ok (.return_, 1) := by decide +kernel
theorem dX8_isZero_0 : decode cX8_isZero 0 = .ok (.aload_n 0, 1) := by decide +kernel
theorem dX8_isZero_1 : decode cX8_isZero 1 = .ok (.getfield 15, 3) := by decide +kernel
theorem dX8_isZero_4 : decode cX8_isZero 4 = .ok (.arraylength, 1) := by decide +kernel
theorem dX8_isZero_5 : decode cX8_isZero 5 = .ok (.ifCond .ne 7, 3) := by decide +kernel
theorem dX8_isZero_8 : decode cX8_isZero 8 = .ok (.iconst 1, 1) := by decide +kernel
theorem dX8_isZero_9 : decode cX8_isZero 9 = .ok (.goto 4, 3) := by decide +kernel
theorem dX8_isZero_12 : decode cX8_isZero 12 = .ok (.iconst 0, 1) := by decide +kernel
theorem dX8_isZero_13 : decode cX8_isZero 13 = .ok (.ireturn, 1) := by decide +kernel
theorem dX8_isOne_0 : decode cX8_isOne 0 = .ok (.aload_n 0, 1) := by decide +kernel
theorem dX8_isOne_1 : decode cX8_isOne 1 = .ok (.getfield 9, 3) := by decide +kernel
theorem dX8_isOne_4 : decode cX8_isOne 4 = .ok (.ifCond .le 26, 3) := by decide +kernel
theorem dX8_isOne_7 : decode cX8_isOne 7 = .ok (.aload_n 0, 1) := by decide +kernel
theorem dX8_isOne_8 : decode cX8_isOne 8 = .ok (.getfield 15, 3) := by decide +kernel
theorem dX8_isOne_11 : decode cX8_isOne 11 = .ok (.arraylength, 1) := by decide +kernel
theorem dX8_isOne_12 : decode cX8_isOne 12 = .ok (.iconst 1, 1) := by decide +kernel
theorem dX8_isOne_13 : decode cX8_isOne 13 = .ok (.if_icmp .ne 17, 3) := by decide +kernel
theorem dX8_isOne_16 : decode cX8_isOne 16 = .ok (.aload_n 0, 1) := by decide +kernel
theorem dX8_isOne_17 : decode cX8_isOne 17 = .ok (.getfield 15, 3) := by decide +kernel
theorem dX8_isOne_20 : decode cX8_isOne 20 = .ok (.iconst 0, 1) := by decide +kernel
theorem dX8_isOne_21 : decode cX8_isOne 21 = .ok (.iaload, 1) := by decide +kernel
theorem dX8_isOne_22 : decode cX8_isOne 22 = .ok (.iconst 1, 1) := by decide +kernel
theorem dX8_isOne_23 : decode cX8_isOne 23 = .ok (.if_icmp .ne 7, 3) := by decide +kernel
theorem dX8_isOne_26 : decode cX8_isOne 26 = .ok (.iconst 1, 1) := by decide +kernel
theorem dX8_isOne_27 : decode cX8_isOne 27 = .ok (.goto 4, 3) := by decide +kernel
theorem dX8_isOne_30 : decode cX8_isOne 30 = .ok (.iconst 0, 1) := by decide +kernel
theorem dX8_isOne_31 : decode cX8_isOne 31 = .ok (.ireturn, 1) := by decide +kernel
theorem dX8_negative_0 : decode cX8_negative 0 = .ok (.aload_n 0, 1) := by decide +kernel
theorem dX8_negative_1 : decode cX8_negative 1 = .ok (.invokevirtual 19, 3) := by decide +kernel
theorem dX8_negative_4 : decode cX8_negative 4 = .ok (.ifCond .eq 7, 3) := by decide +kernel
theorem dX8_negative_7 : decode cX8_negative 7 = .ok (.aload_n 0, 1) := by decide +kernel
theorem dX8_negative_8 : decode cX8_negative 8 = .ok (.goto 19, 3) := by decide +kernel
theorem dX8_negative_11 : decode cX8_negative 11 = .ok (.new 10, 3) := by decide +kernel
theorem dX8_negative_14 : decode cX8_negative 14 = .ok (.dup, 1) := by decide +kernel
theorem dX8_negative_15 : decode cX8_negative 15 = .ok (.aload_n 0, 1) := by decide +kernel
theorem dX8_negative_16 : decode cX8_negative 16 = .ok (.getfield 9, 3) := by decide +kernel
theorem dX8_negative_19 : decode cX8_negative 19 = .ok (.ineg, 1) := by decide +kernel
theorem dX8_negative_20 : decode cX8_negative 20 = .ok (.aload_n 0, 1) := by decide +kernel
theorem dX8_negative_21 : decode cX8_negative 21 = .ok (.getfield 15, 3) := by decide +kernel
theorem dX8_negative_24 : decode cX8_negative 24 = .ok (.invokespecial 23, 3) := by decide +kernel
theorem dX8_negative_27 : decode cX8_negative 27 = .ok (.areturn, 1) := by decide +kernel
theorem dX8_asLong_0 : decode cX8_asLong 0 = .ok (.lconst 0, 1) := by decide +kernel
theorem dX8_asLong_1 : decode cX8_asLong 1 = .ok (.lstore_n 1, 1) := by decide +kernel
theorem dX8_asLong_2 : decode cX8_asLong 2 = .ok (.aload_n 0, 1) := by decide +kernel
theorem dX8_asLong_3 : decode cX8_asLong 3 = .ok (.getfield 15, 3) := by decide +kernel
theorem dX8_asLong_6 : decode cX8_asLong 6 = .ok (.arraylength, 1) := by decide +kernel
theorem dX8_asLong_7 : decode cX8_asLong 7 = .ok (.iconst 1, 1) := by decide +kernel
theorem dX8_asLong_8 : decode cX8_asLong 8 = .ok (.isub, 1) := by decide +kernel
theorem dX8_asLong_9 : decode cX8_asLong 9 = .ok (.istore_n 3, 1) := by decide +kernel
theorem dX8_asLong_10 : decode cX8_asLong 10 = .ok (.iload_n 3, 1) := by decide +kernel
theorem dX8_asLong_11 : decode cX8_asLong 11 = .ok (.ifCond .lt 28, 3) := by decide +kernel
theorem dX8_asLong_14 : decode cX8_asLong 14 = .ok (.lload_n 1, 1) := by decide +kernel
theorem dX8_asLong_15 : decode cX8_asLong 15 = .ok (.ldc2_w 30, 3) := by decide +kernel
theorem dX8_asLong_18 : decode cX8_asLong 18 = .ok (.lmul, 1) := by decide +kernel
theorem dX8_asLong_19 : decode cX8_asLong 19 = .ok (.aload_n 0, 1) := by decide +kernel
theorem dX8_asLong_20 : decode cX8_asLong 20 = .ok (.getfield 9, 3) := by decide +kernel
theorem dX8_asLong_23 : decode cX8_asLong 23 = .ok (.aload_n 0, 1) := by decide +kernel
theorem dX8_asLong_24 : decode cX8_asLong 24 = .ok (.getfield 15, 3) := by decide +kernel
theorem dX8_asLong_27 : decode cX8_asLong 27 = .ok (.iload_n 3, 1) := by decide +kernel
theorem dX8_asLong_28 : decode cX8_asLong 28 = .ok (.iaload, 1) := by decide +kernel
theorem dX8_asLong_29 : decode cX8_asLong 29 = .ok (.imul, 1) := by decide +kernel
theorem dX8_asLong_30 : decode cX8_asLong 30 = .ok (.i2l, 1) := by decide +kernel
theorem dX8_asLong_31 : decode cX8_asLong 31 = .ok (.ladd, 1) := by decide +kernel
theorem dX8_asLong_32 : decode cX8_asLong 32 = .ok (.lstore_n 1, 1) := by decide +kernel
theorem dX8_asLong_33 : decode cX8_asLong 33 = .ok (.iinc 3 (-1), 3) := by decide +kernel
theorem dX8_asLong_36 : decode cX8_asLong 36 = .ok (.goto (-26), 3) := by decide +kernel
theorem dX8_asLong_39 : decode cX8_asLong 39 = .ok (.lload_n 1, 1) := by decide +kernel
theorem dX8_asLong_40 : decode cX8_asLong 40 = .ok (.lreturn, 1) := by decide +kernel
