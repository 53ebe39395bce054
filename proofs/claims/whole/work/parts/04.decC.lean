theorem dX9_zero_0 : decode cX9_zero 0 = .ok (.new 1, 3) := by decide +kernel
theorem dX9_zero_3 : decode cX9_zero 3 = .ok (.dup, 1) := by decide +kernel
theorem dX9_zero_4 : decode cX9_zero 4 = .ok (.iconst 0, 1) := by decide +kernel
theorem dX9_zero_5 : decode cX9_zero 5 = .ok (.iconst 0, 1) := by decide +kernel
theorem dX9_zero_6 : decode cX9_zero 6 = .ok (.newarray .int, 2) := by decide +kernel
theorem dX9_zero_8 : decode cX9_zero 8 = .ok (.invokespecial 3, 3) := by decide +kernel
theorem dX9_zero_11 : decode cX9_zero 11 = .ok (.areturn, 1) := by decide +kernel
theorem dX9_whole_0 : decode cX9_whole 0 = .ok (.lload_n 0, 1) := by decide +kernel
theorem dX9_whole_1 : decode cX9_whole 1 = .ok (.lconst 0, 1) := by decide +kernel
theorem dX9_whole_2 : decode cX9_whole 2 = .ok (.lcmp, 1) := by decide +kernel
theorem dX9_whole_3 : decode cX9_whole 3 = .ok (.ifCond .ne 7, 3) := by decide +kernel
theorem dX9_whole_6 : decode cX9_whole 6 = .ok (.invokestatic 7, 3) := by decide +kernel
theorem dX9_whole_9 : decode cX9_whole 9 = .ok (.areturn, 1) := by decide +kernel
theorem dX9_whole_10 : decode cX9_whole 10 = .ok (.iconst 0, 1) := by decide +kernel
theorem dX9_whole_11 : decode cX9_whole 11 = .ok (.istore_n 2, 1) := by decide +kernel
theorem dX9_whole_12 : decode cX9_whole 12 = .ok (.lload_n 0, 1) := by decide +kernel
theorem dX9_whole_13 : decode cX9_whole 13 = .ok (.lstore_n 3, 1) := by decide +kernel
theorem dX9_whole_14 : decode cX9_whole 14 = .ok (.lload_n 3, 1) := by decide +kernel
theorem dX9_whole_15 : decode cX9_whole 15 = .ok (.lconst 0, 1) := by decide +kernel
theorem dX9_whole_16 : decode cX9_whole 16 = .ok (.lcmp, 1) := by decide +kernel
theorem dX9_whole_17 : decode cX9_whole 17 = .ok (.ifCond .eq 15, 3) := by decide +kernel
theorem dX9_whole_20 : decode cX9_whole 20 = .ok (.iinc 2 1, 3) := by decide +kernel
theorem dX9_whole_23 : decode cX9_whole 23 = .ok (.lload_n 3, 1) := by decide +kernel
theorem dX9_whole_24 : decode cX9_whole 24 = .ok (.ldc2_w 13, 3) := by decide +kernel
theorem dX9_whole_27 : decode cX9_whole 27 = .ok (.ldiv, 1) := by decide +kernel
theorem dX9_whole_28 : decode cX9_whole 28 = .ok (.lstore_n 3, 1) := by decide +kernel
theorem dX9_whole_29 : decode cX9_whole 29 = .ok (.goto (-15), 3) := by decide +kernel
theorem dX9_whole_32 : decode cX9_whole 32 = .ok (.iload_n 2, 1) := by decide +kernel
theorem dX9_whole_33 : decode cX9_whole 33 = .ok (.newarray .int, 2) := by decide +kernel
theorem dX9_whole_35 : decode cX9_whole 35 = .ok (.astore_n 3, 1) := by decide +kernel
theorem dX9_whole_36 : decode cX9_whole 36 = .ok (.lload_n 0, 1) := by decide +kernel
theorem dX9_whole_37 : decode cX9_whole 37 = .ok (.lstore 4, 2) := by decide +kernel
theorem dX9_whole_39 : decode cX9_whole 39 = .ok (.iconst 0, 1) := by decide +kernel
theorem dX9_whole_40 : decode cX9_whole 40 = .ok (.istore 6, 2) := by decide +kernel
theorem dX9_whole_42 : decode cX9_whole 42 = .ok (.iload 6, 2) := by decide +kernel
theorem dX9_whole_44 : decode cX9_whole 44 = .ok (.iload_n 2, 1) := by decide +kernel
theorem dX9_whole_45 : decode cX9_whole 45 = .ok (.if_icmp .ge 45, 3) := by decide +kernel
theorem dX9_whole_48 : decode cX9_whole 48 = .ok (.lload 4, 2) := by decide +kernel
theorem dX9_whole_50 : decode cX9_whole 50 = .ok (.ldc2_w 13, 3) := by decide +kernel
theorem dX9_whole_53 : decode cX9_whole 53 = .ok (.lrem, 1) := by decide +kernel
theorem dX9_whole_54 : decode cX9_whole 54 = .ok (.lstore 7, 2) := by decide +kernel
theorem dX9_whole_56 : decode cX9_whole 56 = .ok (.aload_n 3, 1) := by decide +kernel
theorem dX9_whole_57 : decode cX9_whole 57 = .ok (.iload 6, 2) := by decide +kernel
theorem dX9_whole_59 : decode cX9_whole 59 = .ok (.lload 7, 2) := by decide +kernel
theorem dX9_whole_61 : decode cX9_whole 61 = .ok (.lconst 0, 1) := by decide +kernel
theorem dX9_whole_62 : decode cX9_whole 62 = .ok (.lcmp, 1) := by decide +kernel
theorem dX9_whole_63 : decode cX9_whole 63 = .ok (.ifCond .ge 9, 3) := by decide +kernel
theorem dX9_whole_66 : decode cX9_whole 66 = .ok (.lload 7, 2) := by decide +kernel
theorem dX9_whole_68 : decode cX9_whole 68 = .ok (.lneg, 1) := by decide +kernel
theorem dX9_whole_69 : decode cX9_whole 69 = .ok (.goto 5, 3) := by decide +kernel
theorem dX9_whole_72 : decode cX9_whole 72 = .ok (.lload 7, 2) := by decide +kernel
theorem dX9_whole_74 : decode cX9_whole 74 = .ok (.l2i, 1) := by decide +kernel
theorem dX9_whole_75 : decode cX9_whole 75 = .ok (.iastore, 1) := by decide +kernel
theorem dX9_whole_76 : decode cX9_whole 76 = .ok (.lload 4, 2) := by decide +kernel
theorem dX9_whole_78 : decode cX9_whole 78 = .ok (.ldc2_w 13, 3) := by decide +kernel
theorem dX9_whole_81 : decode cX9_whole 81 = .ok (.ldiv, 1) := by decide +kernel
theorem dX9_whole_82 : decode cX9_whole 82 = .ok (.lstore 4, 2) := by decide +kernel
theorem dX9_whole_84 : decode cX9_whole 84 = .ok (.iinc 6 1, 3) := by decide +kernel
theorem dX9_whole_87 : decode cX9_whole 87 = .ok (.goto (-45), 3) := by decide +kernel
theorem dX9_whole_90 : decode cX9_whole 90 = .ok (.new 1, 3) := by decide +kernel
theorem dX9_whole_93 : decode cX9_whole 93 = .ok (.dup, 1) := by decide +kernel
theorem dX9_whole_94 : decode cX9_whole 94 = .ok (.lload_n 0, 1) := by decide +kernel
theorem dX9_whole_95 : decode cX9_whole 95 = .ok (.lconst 0, 1) := by decide +kernel
theorem dX9_whole_96 : decode cX9_whole 96 = .ok (.lcmp, 1) := by decide +kernel
theorem dX9_whole_97 : decode cX9_whole 97 = .ok (.ifCond .ge 7, 3) := by decide +kernel
theorem dX9_whole_100 : decode cX9_whole 100 = .ok (.iconst (-1), 1) := by decide +kernel
theorem dX9_whole_101 : decode cX9_whole 101 = .ok (.goto 4, 3) := by decide +kernel
theorem dX9_whole_104 : decode cX9_whole 104 = .ok (.iconst 1, 1) := by decide +kernel
theorem dX9_whole_105 : decode cX9_whole 105 = .ok (.aload_n 3, 1) := by decide +kernel
theorem dX9_whole_106 : decode cX9_whole 106 = .ok (.invokespecial 3, 3) := by decide +kernel
theorem dX9_whole_109 : decode cX9_whole 109 = .ok (.areturn, 1) := by decide +kernel
theorem dX9_used_0 : decode cX9_used 0 = .ok (.iload_n 1, 1) := by decide +kernel
theorem dX9_used_1 : decode cX9_used 1 = .ok (.istore_n 2, 1) := by decide +kernel
theorem dX9_used_2 : decode cX9_used 2 = .ok (.iload_n 2, 1) := by decide +kernel
theorem dX9_used_3 : decode cX9_used 3 = .ok (.ifCond .le 17, 3) := by decide +kernel
theorem dX9_used_6 : decode cX9_used 6 = .ok (.aload_n 0, 1) := by decide +kernel
theorem dX9_used_7 : decode cX9_used 7 = .ok (.iload_n 2, 1) := by decide +kernel
theorem dX9_used_8 : decode cX9_used 8 = .ok (.iconst 1, 1) := by decide +kernel
theorem dX9_used_9 : decode cX9_used 9 = .ok (.isub, 1) := by decide +kernel
theorem dX9_used_10 : decode cX9_used 10 = .ok (.iaload, 1) := by decide +kernel
theorem dX9_used_11 : decode cX9_used 11 = .ok (.ifCond .ne 9, 3) := by decide +kernel
theorem dX9_used_14 : decode cX9_used 14 = .ok (.iinc 2 (-1), 3) := by decide +kernel
theorem dX9_used_17 : decode cX9_used 17 = .ok (.goto (-15), 3) := by decide +kernel
theorem dX9_used_20 : decode cX9_used 20 = .ok (.iload_n 2, 1) := by decide +kernel
theorem dX9_used_21 : decode cX9_used 21 = .ok (.ireturn, 1) := by decide +kernel
theorem dX9_wholeOf_0 : decode cX9_wholeOf 0 = .ok (.aload_n 1, 1) := by decide +kernel
theorem dX9_wholeOf_1 : decode cX9_wholeOf 1 = .ok (.iload_n 2, 1) := by decide +kernel
theorem dX9_wholeOf_2 : decode cX9_wholeOf 2 = .ok (.invokestatic 15, 3) := by decide +kernel
theorem dX9_wholeOf_5 : decode cX9_wholeOf 5 = .ok (.istore_n 3, 1) := by decide +kernel
theorem dX9_wholeOf_6 : decode cX9_wholeOf 6 = .ok (.iload_n 3, 1) := by decide +kernel
theorem dX9_wholeOf_7 : decode cX9_wholeOf 7 = .ok (.ifCond .ne 9, 3) := by decide +kernel
theorem dX9_wholeOf_10 : decode cX9_wholeOf 10 = .ok (.invokestatic 7, 3) := by decide +kernel
theorem dX9_wholeOf_13 : decode cX9_wholeOf 13 = .ok (.goto 16, 3) := by decide +kernel
theorem dX9_wholeOf_16 : decode cX9_wholeOf 16 = .ok (.new 1, 3) := by decide +kernel
theorem dX9_wholeOf_19 : decode cX9_wholeOf 19 = .ok (.dup, 1) := by decide +kernel
theorem dX9_wholeOf_20 : decode cX9_wholeOf 20 = .ok (.iload_n 0, 1) := by decide +kernel
theorem dX9_wholeOf_21 : decode cX9_wholeOf 21 = .ok (.aload_n 1, 1) := by decide +kernel
theorem dX9_wholeOf_22 : decode cX9_wholeOf 22 = .ok (.iload_n 3, 1) := by decide +kernel
theorem dX9_wholeOf_23 : decode cX9_wholeOf 23 = .ok (.invokestatic 19, 3) := by decide +kernel
theorem dX9_wholeOf_26 : decode cX9_wholeOf 26 = .ok (.invokespecial 3, 3) := by decide +kernel
theorem dX9_wholeOf_29 : decode cX9_wholeOf 29 = .ok (.areturn, 1) := by decide +kernel
theorem dX9_compareRows_0 : decode cX9_compareRows 0 = .ok (.iload_n 1, 1) := by decide +kernel
theorem dX9_compareRows_1 : decode cX9_compareRows 1 = .ok (.iload_n 3, 1) := by decide +kernel
theorem dX9_compareRows_2 : decode cX9_compareRows 2 = .ok (.if_icmp .eq 14, 3) := by decide +kernel
theorem dX9_compareRows_5 : decode cX9_compareRows 5 = .ok (.iload_n 1, 1) := by decide +kernel
theorem dX9_compareRows_6 : decode cX9_compareRows 6 = .ok (.iload_n 3, 1) := by decide +kernel
theorem dX9_compareRows_7 : decode cX9_compareRows 7 = .ok (.if_icmp .ge 7, 3) := by decide +kernel
theorem dX9_compareRows_10 : decode cX9_compareRows 10 = .ok (.iconst (-1), 1) := by decide +kernel
theorem dX9_compareRows_11 : decode cX9_compareRows 11 = .ok (.goto 4, 3) := by decide +kernel
theorem dX9_compareRows_14 : decode cX9_compareRows 14 = .ok (.iconst 1, 1) := by decide +kernel
theorem dX9_compareRows_15 : decode cX9_compareRows 15 = .ok (.ireturn, 1) := by decide +kernel
theorem dX9_compareRows_16 : decode cX9_compareRows 16 = .ok (.iload_n 1, 1) := by decide +kernel
theorem dX9_compareRows_17 : decode cX9_compareRows 17 = .ok (.iconst 1, 1) := by decide +kernel
theorem dX9_compareRows_18 : decode cX9_compareRows 18 = .ok (.isub, 1) := by decide +kernel
theorem dX9_compareRows_19 : decode cX9_compareRows 19 = .ok (.istore 4, 2) := by decide +kernel
theorem dX9_compareRows_21 : decode cX9_compareRows 21 = .ok (.iload 4, 2) := by decide +kernel
theorem dX9_compareRows_23 : decode cX9_compareRows 23 = .ok (.ifCond .lt 37, 3) := by decide +kernel
theorem dX9_compareRows_26 : decode cX9_compareRows 26 = .ok (.aload_n 0, 1) := by decide +kernel
theorem dX9_compareRows_27 : decode cX9_compareRows 27 = .ok (.iload 4, 2) := by decide +kernel
theorem dX9_compareRows_29 : decode cX9_compareRows 29 = .ok (.iaload, 1) := by decide +kernel
theorem dX9_compareRows_30 : decode cX9_compareRows 30 = .ok (.aload_n 2, 1) := by decide +kernel
theorem dX9_compareRows_31 : decode cX9_compareRows 31 = .ok (.iload 4, 2) := by decide +kernel
theorem dX9_compareRows_33 : decode cX9_compareRows 33 = .ok (.iaload, 1) := by decide +kernel
theorem dX9_compareRows_34 : decode cX9_compareRows 34 = .ok (.if_icmp .eq 20, 3) := by decide +kernel
theorem dX9_compareRows_37 : decode cX9_compareRows 37 = .ok (.aload_n 0, 1) := by decide +kernel
theorem dX9_compareRows_38 : decode cX9_compareRows 38 = .ok (.iload 4, 2) := by decide +kernel
theorem dX9_compareRows_40 : decode cX9_compareRows 40 = .ok (.iaload, 1) := by decide +kernel
theorem dX9_compareRows_41 : decode cX9_compareRows 41 = .ok (.aload_n 2, 1) := by decide +kernel
theorem dX9_compareRows_42 : decode cX9_compareRows 42 = .ok (.iload 4, 2) := by decide +kernel
theorem dX9_compareRows_44 : decode cX9_compareRows 44 = .ok (.iaload, 1) := by decide +kernel
theorem dX9_compareRows_45 : decode cX9_compareRows 45 = .ok (.if_icmp .ge 7, 3) := by decide +kernel
theorem dX9_compareRows_48 : decode cX9_compareRows 48 = .ok (.iconst (-1), 1) := by decide +kernel
theorem dX9_compareRows_49 : decode cX9_compareRows 49 = .ok (.goto 4, 3) := by decide +kernel
theorem dX9_compareRows_52 : decode cX9_compareRows 52 = .ok (.iconst 1, 1) := by decide +kernel
theorem dX9_compareRows_53 : decode cX9_compareRows 53 = .ok (.ireturn, 1) := by decide +kernel
theorem dX9_compareRows_54 : decode cX9_compareRows 54 = .ok (.iinc 4 (-1), 3) := by decide +kernel
theorem dX9_compareRows_57 : decode cX9_compareRows 57 = .ok (.goto (-36), 3) := by decide +kernel
theorem dX9_compareRows_60 : decode cX9_compareRows 60 = .ok (.iconst 0, 1) := by decide +kernel
theorem dX9_compareRows_61 : decode cX9_compareRows 61 = .ok (.ireturn, 1) := by decide +kernel
theorem dX9_decimals_0 : decode cX9_decimals 0 = .ok (.aload_n 0, 1) := by decide +kernel
theorem dX9_decimals_1 : decode cX9_decimals 1 = .ok (.iload_n 1, 1) := by decide +kernel
theorem dX9_decimals_2 : decode cX9_decimals 2 = .ok (.iconst 1, 1) := by decide +kernel
theorem dX9_decimals_3 : decode cX9_decimals 3 = .ok (.isub, 1) := by decide +kernel
theorem dX9_decimals_4 : decode cX9_decimals 4 = .ok (.iaload, 1) := by decide +kernel
theorem dX9_decimals_5 : decode cX9_decimals 5 = .ok (.istore_n 2, 1) := by decide +kernel
theorem dX9_decimals_6 : decode cX9_decimals 6 = .ok (.iconst 4, 1) := by decide +kernel
theorem dX9_decimals_7 : decode cX9_decimals 7 = .ok (.iload_n 1, 1) := by decide +kernel
theorem dX9_decimals_8 : decode cX9_decimals 8 = .ok (.iconst 1, 1) := by decide +kernel
theorem dX9_decimals_9 : decode cX9_decimals 9 = .ok (.isub, 1) := by decide +kernel
theorem dX9_decimals_10 : decode cX9_decimals 10 = .ok (.imul, 1) := by decide +kernel
theorem dX9_decimals_11 : decode cX9_decimals 11 = .ok (.iload_n 2, 1) := by decide +kernel
theorem dX9_decimals_12 : decode cX9_decimals 12 = .ok (.sipush 999, 3) := by decide +kernel
theorem dX9_decimals_15 : decode cX9_decimals 15 = .ok (.if_icmp .le 7, 3) := by decide +kernel
theorem dX9_decimals_18 : decode cX9_decimals 18 = .ok (.iconst 4, 1) := by decide +kernel
theorem dX9_decimals_19 : decode cX9_decimals 19 = .ok (.goto 24, 3) := by decide +kernel
theorem dX9_decimals_22 : decode cX9_decimals 22 = .ok (.iload_n 2, 1) := by decide +kernel
theorem dX9_decimals_23 : decode cX9_decimals 23 = .ok (.bipush 99, 2) := by decide +kernel
theorem dX9_decimals_25 : decode cX9_decimals 25 = .ok (.if_icmp .le 7, 3) := by decide +kernel
theorem dX9_decimals_28 : decode cX9_decimals 28 = .ok (.iconst 3, 1) := by decide +kernel
theorem dX9_decimals_29 : decode cX9_decimals 29 = .ok (.goto 14, 3) := by decide +kernel
theorem dX9_decimals_32 : decode cX9_decimals 32 = .ok (.iload_n 2, 1) := by decide +kernel
theorem dX9_decimals_33 : decode cX9_decimals 33 = .ok (.bipush 9, 2) := by decide +kernel
theorem dX9_decimals_35 : decode cX9_decimals 35 = .ok (.if_icmp .le 7, 3) := by decide +kernel
theorem dX9_decimals_38 : decode cX9_decimals 38 = .ok (.iconst 2, 1) := by decide +kernel
theorem dX9_decimals_39 : decode cX9_decimals 39 = .ok (.goto 4, 3) := by decide +kernel
theorem dX9_decimals_42 : decode cX9_decimals 42 = .ok (.iconst 1, 1) := by decide +kernel
theorem dX9_decimals_43 : decode cX9_decimals 43 = .ok (.iadd, 1) := by decide +kernel
theorem dX9_decimals_44 : decode cX9_decimals 44 = .ok (.ireturn, 1) := by decide +kernel
theorem dX9_scale_0 : decode cX9_scale 0 = .ok (.iload_n 3, 1) := by decide +kernel
theorem dX9_scale_1 : decode cX9_scale 1 = .ok (.istore 4, 2) := by decide +kernel
theorem dX9_scale_3 : decode cX9_scale 3 = .ok (.iload_n 1, 1) := by decide +kernel
theorem dX9_scale_4 : decode cX9_scale 4 = .ok (.istore 5, 2) := by decide +kernel
theorem dX9_scale_6 : decode cX9_scale 6 = .ok (.iconst 0, 1) := by decide +kernel
theorem dX9_scale_7 : decode cX9_scale 7 = .ok (.istore 6, 2) := by decide +kernel
theorem dX9_scale_9 : decode cX9_scale 9 = .ok (.iload 6, 2) := by decide +kernel
theorem dX9_scale_11 : decode cX9_scale 11 = .ok (.iload_n 1, 1) := by decide +kernel
theorem dX9_scale_12 : decode cX9_scale 12 = .ok (.if_icmp .ge 38, 3) := by decide +kernel
theorem dX9_scale_15 : decode cX9_scale 15 = .ok (.aload_n 0, 1) := by decide +kernel
theorem dX9_scale_16 : decode cX9_scale 16 = .ok (.iload 6, 2) := by decide +kernel
theorem dX9_scale_18 : decode cX9_scale 18 = .ok (.iaload, 1) := by decide +kernel
theorem dX9_scale_19 : decode cX9_scale 19 = .ok (.iload_n 2, 1) := by decide +kernel
theorem dX9_scale_20 : decode cX9_scale 20 = .ok (.imul, 1) := by decide +kernel
theorem dX9_scale_21 : decode cX9_scale 21 = .ok (.iload 4, 2) := by decide +kernel
theorem dX9_scale_23 : decode cX9_scale 23 = .ok (.iadd, 1) := by decide +kernel
theorem dX9_scale_24 : decode cX9_scale 24 = .ok (.istore 7, 2) := by decide +kernel
theorem dX9_scale_26 : decode cX9_scale 26 = .ok (.aload_n 0, 1) := by decide +kernel
theorem dX9_scale_27 : decode cX9_scale 27 = .ok (.iload 6, 2) := by decide +kernel
theorem dX9_scale_29 : decode cX9_scale 29 = .ok (.iload 7, 2) := by decide +kernel
theorem dX9_scale_31 : decode cX9_scale 31 = .ok (.sipush 10000, 3) := by decide +kernel
theorem dX9_scale_34 : decode cX9_scale 34 = .ok (.irem, 1) := by decide +kernel
theorem dX9_scale_35 : decode cX9_scale 35 = .ok (.iastore, 1) := by decide +kernel
theorem dX9_scale_36 : decode cX9_scale 36 = .ok (.iload 7, 2) := by decide +kernel
theorem dX9_scale_38 : decode cX9_scale 38 = .ok (.sipush 10000, 3) := by decide +kernel
theorem dX9_scale_41 : decode cX9_scale 41 = .ok (.idiv, 1) := by decide +kernel
theorem dX9_scale_42 : decode cX9_scale 42 = .ok (.istore 4, 2) := by decide +kernel
theorem dX9_scale_44 : decode cX9_scale 44 = .ok (.iinc 6 1, 3) := by decide +kernel
theorem dX9_scale_47 : decode cX9_scale 47 = .ok (.goto (-38), 3) := by decide +kernel
theorem dX9_scale_50 : decode cX9_scale 50 = .ok (.iload 4, 2) := by decide +kernel
theorem dX9_scale_52 : decode cX9_scale 52 = .ok (.ifCond .le 27, 3) := by decide +kernel
theorem dX9_scale_55 : decode cX9_scale 55 = .ok (.aload_n 0, 1) := by decide +kernel
theorem dX9_scale_56 : decode cX9_scale 56 = .ok (.iload 5, 2) := by decide +kernel
theorem dX9_scale_58 : decode cX9_scale 58 = .ok (.iload 4, 2) := by decide +kernel
theorem dX9_scale_60 : decode cX9_scale 60 = .ok (.sipush 10000, 3) := by decide +kernel
theorem dX9_scale_63 : decode cX9_scale 63 = .ok (.irem, 1) := by decide +kernel
theorem dX9_scale_64 : decode cX9_scale 64 = .ok (.iastore, 1) := by decide +kernel
theorem dX9_scale_65 : decode cX9_scale 65 = .ok (.iload 4, 2) := by decide +kernel
theorem dX9_scale_67 : decode cX9_scale 67 = .ok (.sipush 10000, 3) := by decide +kernel
theorem dX9_scale_70 : decode cX9_scale 70 = .ok (.idiv, 1) := by decide +kernel
theorem dX9_scale_71 : decode cX9_scale 71 = .ok (.istore 4, 2) := by decide +kernel
theorem dX9_scale_73 : decode cX9_scale 73 = .ok (.iinc 5 1, 3) := by decide +kernel
theorem dX9_scale_76 : decode cX9_scale 76 = .ok (.goto (-26), 3) := by decide +kernel
theorem dX9_scale_79 : decode cX9_scale 79 = .ok (.iload 5, 2) := by decide +kernel
theorem dX9_scale_81 : decode cX9_scale 81 = .ok (.ireturn, 1) := by decide +kernel
theorem dX9_doubled_0 : decode cX9_doubled 0 = .ok (.iload_n 1, 1) := by decide +kernel
theorem dX9_doubled_1 : decode cX9_doubled 1 = .ok (.istore_n 3, 1) := by decide +kernel
theorem dX9_doubled_2 : decode cX9_doubled 2 = .ok (.iload_n 2, 1) := by decide +kernel
theorem dX9_doubled_3 : decode cX9_doubled 3 = .ok (.istore 4, 2) := by decide +kernel
theorem dX9_doubled_5 : decode cX9_doubled 5 = .ok (.iload 4, 2) := by decide +kernel
theorem dX9_doubled_7 : decode cX9_doubled 7 = .ok (.ifCond .le 33, 3) := by decide +kernel
theorem dX9_doubled_10 : decode cX9_doubled 10 = .ok (.iload 4, 2) := by decide +kernel
theorem dX9_doubled_12 : decode cX9_doubled 12 = .ok (.bipush 13, 2) := by decide +kernel
theorem dX9_doubled_14 : decode cX9_doubled 14 = .ok (.invokestatic 25, 3) := by decide +kernel
theorem dX9_doubled_17 : decode cX9_doubled 17 = .ok (.istore 5, 2) := by decide +kernel
theorem dX9_doubled_19 : decode cX9_doubled 19 = .ok (.aload_n 0, 1) := by decide +kernel
theorem dX9_doubled_20 : decode cX9_doubled 20 = .ok (.iload_n 3, 1) := by decide +kernel
theorem dX9_doubled_21 : decode cX9_doubled 21 = .ok (.iconst 1, 1) := by decide +kernel
theorem dX9_doubled_22 : decode cX9_doubled 22 = .ok (.iload 5, 2) := by decide +kernel
theorem dX9_doubled_24 : decode cX9_doubled 24 = .ok (.ishl, 1) := by decide +kernel
theorem dX9_doubled_25 : decode cX9_doubled 25 = .ok (.iconst 0, 1) := by decide +kernel
theorem dX9_doubled_26 : decode cX9_doubled 26 = .ok (.invokestatic 31, 3) := by decide +kernel
theorem dX9_doubled_29 : decode cX9_doubled 29 = .ok (.istore_n 3, 1) := by decide +kernel
theorem dX9_doubled_30 : decode cX9_doubled 30 = .ok (.iload 4, 2) := by decide +kernel
theorem dX9_doubled_32 : decode cX9_doubled 32 = .ok (.iload 5, 2) := by decide +kernel
theorem dX9_doubled_34 : decode cX9_doubled 34 = .ok (.isub, 1) := by decide +kernel
theorem dX9_doubled_35 : decode cX9_doubled 35 = .ok (.istore 4, 2) := by decide +kernel
theorem dX9_doubled_37 : decode cX9_doubled 37 = .ok (.goto (-32), 3) := by decide +kernel
theorem dX9_doubled_40 : decode cX9_doubled 40 = .ok (.iload_n 3, 1) := by decide +kernel
theorem dX9_doubled_41 : decode cX9_doubled 41 = .ok (.ireturn, 1) := by decide +kernel
theorem dX9_tenfold_0 : decode cX9_tenfold 0 = .ok (.iload_n 1, 1) := by decide +kernel
theorem dX9_tenfold_1 : decode cX9_tenfold 1 = .ok (.istore_n 3, 1) := by decide +kernel
theorem dX9_tenfold_2 : decode cX9_tenfold 2 = .ok (.iload_n 2, 1) := by decide +kernel
theorem dX9_tenfold_3 : decode cX9_tenfold 3 = .ok (.istore 4, 2) := by decide +kernel
theorem dX9_tenfold_5 : decode cX9_tenfold 5 = .ok (.iload 4, 2) := by decide +kernel
theorem dX9_tenfold_7 : decode cX9_tenfold 7 = .ok (.ifCond .le 53, 3) := by decide +kernel
theorem dX9_tenfold_10 : decode cX9_tenfold 10 = .ok (.aload_n 0, 1) := by decide +kernel
theorem dX9_tenfold_11 : decode cX9_tenfold 11 = .ok (.iload_n 3, 1) := by decide +kernel
theorem dX9_tenfold_12 : decode cX9_tenfold 12 = .ok (.iload 4, 2) := by decide +kernel
theorem dX9_tenfold_14 : decode cX9_tenfold 14 = .ok (.iconst 4, 1) := by decide +kernel
theorem dX9_tenfold_15 : decode cX9_tenfold 15 = .ok (.if_icmp .lt 9, 3) := by decide +kernel
theorem dX9_tenfold_18 : decode cX9_tenfold 18 = .ok (.sipush 10000, 3) := by decide +kernel
theorem dX9_tenfold_21 : decode cX9_tenfold 21 = .ok (.goto 28, 3) := by decide +kernel
theorem dX9_tenfold_24 : decode cX9_tenfold 24 = .ok (.iload 4, 2) := by decide +kernel
theorem dX9_tenfold_26 : decode cX9_tenfold 26 = .ok (.iconst 3, 1) := by decide +kernel
theorem dX9_tenfold_27 : decode cX9_tenfold 27 = .ok (.if_icmp .ne 9, 3) := by decide +kernel
theorem dX9_tenfold_30 : decode cX9_tenfold 30 = .ok (.sipush 1000, 3) := by decide +kernel
theorem dX9_tenfold_33 : decode cX9_tenfold 33 = .ok (.goto 16, 3) := by decide +kernel
theorem dX9_tenfold_36 : decode cX9_tenfold 36 = .ok (.iload 4, 2) := by decide +kernel
theorem dX9_tenfold_38 : decode cX9_tenfold 38 = .ok (.iconst 2, 1) := by decide +kernel
theorem dX9_tenfold_39 : decode cX9_tenfold 39 = .ok (.if_icmp .ne 8, 3) := by decide +kernel
theorem dX9_tenfold_42 : decode cX9_tenfold 42 = .ok (.bipush 100, 2) := by decide +kernel
theorem dX9_tenfold_44 : decode cX9_tenfold 44 = .ok (.goto 5, 3) := by decide +kernel
theorem dX9_tenfold_47 : decode cX9_tenfold 47 = .ok (.bipush 10, 2) := by decide +kernel
theorem dX9_tenfold_49 : decode cX9_tenfold 49 = .ok (.iconst 0, 1) := by decide +kernel
theorem dX9_tenfold_50 : decode cX9_tenfold 50 = .ok (.invokestatic 31, 3) := by decide +kernel
theorem dX9_tenfold_53 : decode cX9_tenfold 53 = .ok (.istore_n 3, 1) := by decide +kernel
theorem dX9_tenfold_54 : decode cX9_tenfold 54 = .ok (.iinc 4 (-4), 3) := by decide +kernel
theorem dX9_tenfold_57 : decode cX9_tenfold 57 = .ok (.goto (-52), 3) := by decide +kernel
theorem dX9_tenfold_60 : decode cX9_tenfold 60 = .ok (.iload_n 3, 1) := by decide +kernel
theorem dX9_tenfold_61 : decode cX9_tenfold 61 = .ok (.ireturn, 1) := by decide +kernel
theorem dX9_cutBy_0 : decode cX9_cutBy 0 = .ok (.iconst 0, 1) := by decide +kernel
theorem dX9_cutBy_1 : decode cX9_cutBy 1 = .ok (.istore_n 3, 1) := by decide +kernel
theorem dX9_cutBy_2 : decode cX9_cutBy 2 = .ok (.iload_n 1, 1) := by decide +kernel
theorem dX9_cutBy_3 : decode cX9_cutBy 3 = .ok (.iconst 1, 1) := by decide +kernel
theorem dX9_cutBy_4 : decode cX9_cutBy 4 = .ok (.isub, 1) := by decide +kernel
theorem dX9_cutBy_5 : decode cX9_cutBy 5 = .ok (.istore 4, 2) := by decide +kernel
theorem dX9_cutBy_7 : decode cX9_cutBy 7 = .ok (.iload 4, 2) := by decide +kernel
theorem dX9_cutBy_9 : decode cX9_cutBy 9 = .ok (.ifCond .lt 34, 3) := by decide +kernel
theorem dX9_cutBy_12 : decode cX9_cutBy 12 = .ok (.iload_n 3, 1) := by decide +kernel
theorem dX9_cutBy_13 : decode cX9_cutBy 13 = .ok (.sipush 10000, 3) := by decide +kernel
theorem dX9_cutBy_16 : decode cX9_cutBy 16 = .ok (.imul, 1) := by decide +kernel
theorem dX9_cutBy_17 : decode cX9_cutBy 17 = .ok (.aload_n 0, 1) := by decide +kernel
theorem dX9_cutBy_18 : decode cX9_cutBy 18 = .ok (.iload 4, 2) := by decide +kernel
theorem dX9_cutBy_20 : decode cX9_cutBy 20 = .ok (.iaload, 1) := by decide +kernel
theorem dX9_cutBy_21 : decode cX9_cutBy 21 = .ok (.iadd, 1) := by decide +kernel
theorem dX9_cutBy_22 : decode cX9_cutBy 22 = .ok (.istore 5, 2) := by decide +kernel
theorem dX9_cutBy_24 : decode cX9_cutBy 24 = .ok (.aload_n 0, 1) := by decide +kernel
theorem dX9_cutBy_25 : decode cX9_cutBy 25 = .ok (.iload 4, 2) := by decide +kernel
theorem dX9_cutBy_27 : decode cX9_cutBy 27 = .ok (.iload 5, 2) := by decide +kernel
theorem dX9_cutBy_29 : decode cX9_cutBy 29 = .ok (.iload_n 2, 1) := by decide +kernel
theorem dX9_cutBy_30 : decode cX9_cutBy 30 = .ok (.idiv, 1) := by decide +kernel
theorem dX9_cutBy_31 : decode cX9_cutBy 31 = .ok (.iastore, 1) := by decide +kernel
theorem dX9_cutBy_32 : decode cX9_cutBy 32 = .ok (.iload 5, 2) := by decide +kernel
theorem dX9_cutBy_34 : decode cX9_cutBy 34 = .ok (.iload_n 2, 1) := by decide +kernel
theorem dX9_cutBy_35 : decode cX9_cutBy 35 = .ok (.irem, 1) := by decide +kernel
theorem dX9_cutBy_36 : decode cX9_cutBy 36 = .ok (.istore_n 3, 1) := by decide +kernel
theorem dX9_cutBy_37 : decode cX9_cutBy 37 = .ok (.iinc 4 (-1), 3) := by decide +kernel
theorem dX9_cutBy_40 : decode cX9_cutBy 40 = .ok (.goto (-33), 3) := by decide +kernel
theorem dX9_cutBy_43 : decode cX9_cutBy 43 = .ok (.iload_n 3, 1) := by decide +kernel
theorem dX9_cutBy_44 : decode cX9_cutBy 44 = .ok (.ireturn, 1) := by decide +kernel
theorem dX9_takeAway_0 : decode cX9_takeAway 0 = .ok (.iconst 0, 1) := by decide +kernel
theorem dX9_takeAway_1 : decode cX9_takeAway 1 = .ok (.istore 5, 2) := by decide +kernel
theorem dX9_takeAway_3 : decode cX9_takeAway 3 = .ok (.iconst 0, 1) := by decide +kernel
theorem dX9_takeAway_4 : decode cX9_takeAway 4 = .ok (.istore 6, 2) := by decide +kernel
theorem dX9_takeAway_6 : decode cX9_takeAway 6 = .ok (.iload 6, 2) := by decide +kernel
theorem dX9_takeAway_8 : decode cX9_takeAway 8 = .ok (.iload_n 3, 1) := by decide +kernel
theorem dX9_takeAway_9 : decode cX9_takeAway 9 = .ok (.if_icmp .ge 70, 3) := by decide +kernel
theorem dX9_takeAway_12 : decode cX9_takeAway 12 = .ok (.aload_n 0, 1) := by decide +kernel
theorem dX9_takeAway_13 : decode cX9_takeAway 13 = .ok (.iload_n 1, 1) := by decide +kernel
theorem dX9_takeAway_14 : decode cX9_takeAway 14 = .ok (.iload 6, 2) := by decide +kernel
theorem dX9_takeAway_16 : decode cX9_takeAway 16 = .ok (.iadd, 1) := by decide +kernel
theorem dX9_takeAway_17 : decode cX9_takeAway 17 = .ok (.iaload, 1) := by decide +kernel
theorem dX9_takeAway_18 : decode cX9_takeAway 18 = .ok (.aload_n 2, 1) := by decide +kernel
theorem dX9_takeAway_19 : decode cX9_takeAway 19 = .ok (.iload 6, 2) := by decide +kernel
theorem dX9_takeAway_21 : decode cX9_takeAway 21 = .ok (.iaload, 1) := by decide +kernel
theorem dX9_takeAway_22 : decode cX9_takeAway 22 = .ok (.iload 4, 2) := by decide +kernel
theorem dX9_takeAway_24 : decode cX9_takeAway 24 = .ok (.imul, 1) := by decide +kernel
theorem dX9_takeAway_25 : decode cX9_takeAway 25 = .ok (.isub, 1) := by decide +kernel
theorem dX9_takeAway_26 : decode cX9_takeAway 26 = .ok (.iload 5, 2) := by decide +kernel
theorem dX9_takeAway_28 : decode cX9_takeAway 28 = .ok (.isub, 1) := by decide +kernel
theorem dX9_takeAway_29 : decode cX9_takeAway 29 = .ok (.istore 7, 2) := by decide +kernel
theorem dX9_takeAway_31 : decode cX9_takeAway 31 = .ok (.iconst 0, 1) := by decide +kernel
theorem dX9_takeAway_32 : decode cX9_takeAway 32 = .ok (.istore 5, 2) := by decide +kernel
theorem dX9_takeAway_34 : decode cX9_takeAway 34 = .ok (.iload 7, 2) := by decide +kernel
theorem dX9_takeAway_36 : decode cX9_takeAway 36 = .ok (.ifCond .ge 29, 3) := by decide +kernel
theorem dX9_takeAway_39 : decode cX9_takeAway 39 = .ok (.iload 7, 2) := by decide +kernel
theorem dX9_takeAway_41 : decode cX9_takeAway 41 = .ok (.ineg, 1) := by decide +kernel
theorem dX9_takeAway_42 : decode cX9_takeAway 42 = .ok (.sipush 10000, 3) := by decide +kernel
theorem dX9_takeAway_45 : decode cX9_takeAway 45 = .ok (.iadd, 1) := by decide +kernel
theorem dX9_takeAway_46 : decode cX9_takeAway 46 = .ok (.iconst 1, 1) := by decide +kernel
theorem dX9_takeAway_47 : decode cX9_takeAway 47 = .ok (.isub, 1) := by decide +kernel
theorem dX9_takeAway_48 : decode cX9_takeAway 48 = .ok (.sipush 10000, 3) := by decide +kernel
theorem dX9_takeAway_51 : decode cX9_takeAway 51 = .ok (.idiv, 1) := by decide +kernel
theorem dX9_takeAway_52 : decode cX9_takeAway 52 = .ok (.istore 5, 2) := by decide +kernel
theorem dX9_takeAway_54 : decode cX9_takeAway 54 = .ok (.iload 7, 2) := by decide +kernel
theorem dX9_takeAway_56 : decode cX9_takeAway 56 = .ok (.iload 5, 2) := by decide +kernel
theorem dX9_takeAway_58 : decode cX9_takeAway 58 = .ok (.sipush 10000, 3) := by decide +kernel
theorem dX9_takeAway_61 : decode cX9_takeAway 61 = .ok (.imul, 1) := by decide +kernel
theorem dX9_takeAway_62 : decode cX9_takeAway 62 = .ok (.iadd, 1) := by decide +kernel
theorem dX9_takeAway_63 : decode cX9_takeAway 63 = .ok (.istore 7, 2) := by decide +kernel
theorem dX9_takeAway_65 : decode cX9_takeAway 65 = .ok (.aload_n 0, 1) := by decide +kernel
theorem dX9_takeAway_66 : decode cX9_takeAway 66 = .ok (.iload_n 1, 1) := by decide +kernel
theorem dX9_takeAway_67 : decode cX9_takeAway 67 = .ok (.iload 6, 2) := by decide +kernel
theorem dX9_takeAway_69 : decode cX9_takeAway 69 = .ok (.iadd, 1) := by decide +kernel
theorem dX9_takeAway_70 : decode cX9_takeAway 70 = .ok (.iload 7, 2) := by decide +kernel
theorem dX9_takeAway_72 : decode cX9_takeAway 72 = .ok (.iastore, 1) := by decide +kernel
theorem dX9_takeAway_73 : decode cX9_takeAway 73 = .ok (.iinc 6 1, 3) := by decide +kernel
theorem dX9_takeAway_76 : decode cX9_takeAway 76 = .ok (.goto (-70), 3) := by decide +kernel
theorem dX9_takeAway_79 : decode cX9_takeAway 79 = .ok (.aload_n 0, 1) := by decide +kernel
theorem dX9_takeAway_80 : decode cX9_takeAway 80 = .ok (.iload_n 1, 1) := by decide +kernel
theorem dX9_takeAway_81 : decode cX9_takeAway 81 = .ok (.iload_n 3, 1) := by decide +kernel
theorem dX9_takeAway_82 : decode cX9_takeAway 82 = .ok (.iadd, 1) := by decide +kernel
theorem dX9_takeAway_83 : decode cX9_takeAway 83 = .ok (.iaload, 1) := by decide +kernel
theorem dX9_takeAway_84 : decode cX9_takeAway 84 = .ok (.iload 5, 2) := by decide +kernel
theorem dX9_takeAway_86 : decode cX9_takeAway 86 = .ok (.isub, 1) := by decide +kernel
theorem dX9_takeAway_87 : decode cX9_takeAway 87 = .ok (.istore 6, 2) := by decide +kernel
theorem dX9_takeAway_89 : decode cX9_takeAway 89 = .ok (.aload_n 0, 1) := by decide +kernel
theorem dX9_takeAway_90 : decode cX9_takeAway 90 = .ok (.iload_n 1, 1) := by decide +kernel
theorem dX9_takeAway_91 : decode cX9_takeAway 91 = .ok (.iload_n 3, 1) := by decide +kernel
theorem dX9_takeAway_92 : decode cX9_takeAway 92 = .ok (.iadd, 1) := by decide +kernel
theorem dX9_takeAway_93 : decode cX9_takeAway 93 = .ok (.iload 6, 2) := by decide +kernel
theorem dX9_takeAway_95 : decode cX9_takeAway 95 = .ok (.ifCond .ge 12, 3) := by decide +kernel
theorem dX9_takeAway_98 : decode cX9_takeAway 98 = .ok (.iload 6, 2) := by decide +kernel
theorem dX9_takeAway_100 : decode cX9_takeAway 100 = .ok (.sipush 10000, 3) := by decide +kernel
theorem dX9_takeAway_103 : decode cX9_takeAway 103 = .ok (.iadd, 1) := by decide +kernel
theorem dX9_takeAway_104 : decode cX9_takeAway 104 = .ok (.goto 5, 3) := by decide +kernel
theorem dX9_takeAway_107 : decode cX9_takeAway 107 = .ok (.iload 6, 2) := by decide +kernel
theorem dX9_takeAway_109 : decode cX9_takeAway 109 = .ok (.iastore, 1) := by decide +kernel
theorem dX9_takeAway_110 : decode cX9_takeAway 110 = .ok (.iload 6, 2) := by decide +kernel
theorem dX9_takeAway_112 : decode cX9_takeAway 112 = .ok (.ifCond .lt 7, 3) := by decide +kernel
theorem dX9_takeAway_115 : decode cX9_takeAway 115 = .ok (.iconst 1, 1) := by decide +kernel
theorem dX9_takeAway_116 : decode cX9_takeAway 116 = .ok (.goto 4, 3) := by decide +kernel
theorem dX9_takeAway_119 : decode cX9_takeAway 119 = .ok (.iconst 0, 1) := by decide +kernel
theorem dX9_takeAway_120 : decode cX9_takeAway 120 = .ok (.ireturn, 1) := by decide +kernel
theorem dX9_putBack_0 : decode cX9_putBack 0 = .ok (.iconst 0, 1) := by decide +kernel
theorem dX9_putBack_1 : decode cX9_putBack 1 = .ok (.istore 4, 2) := by decide +kernel
theorem dX9_putBack_3 : decode cX9_putBack 3 = .ok (.iconst 0, 1) := by decide +kernel
theorem dX9_putBack_4 : decode cX9_putBack 4 = .ok (.istore 5, 2) := by decide +kernel
theorem dX9_putBack_6 : decode cX9_putBack 6 = .ok (.iload 5, 2) := by decide +kernel
theorem dX9_putBack_8 : decode cX9_putBack 8 = .ok (.iload_n 3, 1) := by decide +kernel
theorem dX9_putBack_9 : decode cX9_putBack 9 = .ok (.if_icmp .ge 45, 3) := by decide +kernel
theorem dX9_putBack_12 : decode cX9_putBack 12 = .ok (.aload_n 0, 1) := by decide +kernel
theorem dX9_putBack_13 : decode cX9_putBack 13 = .ok (.iload_n 1, 1) := by decide +kernel
theorem dX9_putBack_14 : decode cX9_putBack 14 = .ok (.iload 5, 2) := by decide +kernel
theorem dX9_putBack_16 : decode cX9_putBack 16 = .ok (.iadd, 1) := by decide +kernel
theorem dX9_putBack_17 : decode cX9_putBack 17 = .ok (.iaload, 1) := by decide +kernel
theorem dX9_putBack_18 : decode cX9_putBack 18 = .ok (.aload_n 2, 1) := by decide +kernel
theorem dX9_putBack_19 : decode cX9_putBack 19 = .ok (.iload 5, 2) := by decide +kernel
theorem dX9_putBack_21 : decode cX9_putBack 21 = .ok (.iaload, 1) := by decide +kernel
theorem dX9_putBack_22 : decode cX9_putBack 22 = .ok (.iadd, 1) := by decide +kernel
theorem dX9_putBack_23 : decode cX9_putBack 23 = .ok (.iload 4, 2) := by decide +kernel
theorem dX9_putBack_25 : decode cX9_putBack 25 = .ok (.iadd, 1) := by decide +kernel
theorem dX9_putBack_26 : decode cX9_putBack 26 = .ok (.istore 6, 2) := by decide +kernel
theorem dX9_putBack_28 : decode cX9_putBack 28 = .ok (.aload_n 0, 1) := by decide +kernel
theorem dX9_putBack_29 : decode cX9_putBack 29 = .ok (.iload_n 1, 1) := by decide +kernel
theorem dX9_putBack_30 : decode cX9_putBack 30 = .ok (.iload 5, 2) := by decide +kernel
theorem dX9_putBack_32 : decode cX9_putBack 32 = .ok (.iadd, 1) := by decide +kernel
theorem dX9_putBack_33 : decode cX9_putBack 33 = .ok (.iload 6, 2) := by decide +kernel
theorem dX9_putBack_35 : decode cX9_putBack 35 = .ok (.sipush 10000, 3) := by decide +kernel
theorem dX9_putBack_38 : decode cX9_putBack 38 = .ok (.irem, 1) := by decide +kernel
theorem dX9_putBack_39 : decode cX9_putBack 39 = .ok (.iastore, 1) := by decide +kernel
theorem dX9_putBack_40 : decode cX9_putBack 40 = .ok (.iload 6, 2) := by decide +kernel
theorem dX9_putBack_42 : decode cX9_putBack 42 = .ok (.sipush 10000, 3) := by decide +kernel
theorem dX9_putBack_45 : decode cX9_putBack 45 = .ok (.idiv, 1) := by decide +kernel
theorem dX9_putBack_46 : decode cX9_putBack 46 = .ok (.istore 4, 2) := by decide +kernel
theorem dX9_putBack_48 : decode cX9_putBack 48 = .ok (.iinc 5 1, 3) := by decide +kernel
theorem dX9_putBack_51 : decode cX9_putBack 51 = .ok (.goto (-45), 3) := by decide +kernel
theorem dX9_putBack_54 : decode cX9_putBack 54 = .ok (.aload_n 0, 1) := by decide +kernel
theorem dX9_putBack_55 : decode cX9_putBack 55 = .ok (.iload_n 1, 1) := by decide +kernel
theorem dX9_putBack_56 : decode cX9_putBack 56 = .ok (.iload_n 3, 1) := by decide +kernel
theorem dX9_putBack_57 : decode cX9_putBack 57 = .ok (.iadd, 1) := by decide +kernel
theorem dX9_putBack_58 : decode cX9_putBack 58 = .ok (.aload_n 0, 1) := by decide +kernel
theorem dX9_putBack_59 : decode cX9_putBack 59 = .ok (.iload_n 1, 1) := by decide +kernel
theorem dX9_putBack_60 : decode cX9_putBack 60 = .ok (.iload_n 3, 1) := by decide +kernel
theorem dX9_putBack_61 : decode cX9_putBack 61 = .ok (.iadd, 1) := by decide +kernel
theorem dX9_putBack_62 : decode cX9_putBack 62 = .ok (.iaload, 1) := by decide +kernel
theorem dX9_putBack_63 : decode cX9_putBack 63 = .ok (.iload 4, 2) := by decide +kernel
theorem dX9_putBack_65 : decode cX9_putBack 65 = .ok (.iadd, 1) := by decide +kernel
theorem dX9_putBack_66 : decode cX9_putBack 66 = .ok (.sipush 10000, 3) := by decide +kernel
theorem dX9_putBack_69 : decode cX9_putBack 69 = .ok (.irem, 1) := by decide +kernel
theorem dX9_putBack_70 : decode cX9_putBack 70 = .ok (.iastore, 1) := by decide +kernel
theorem dX9_putBack_71 : decode cX9_putBack 71 = .ok (.return_, 1) := by decide +kernel
theorem dX9_divideRows_0 : decode cX9_divideRows 0 = .ok (.aload_n 2, 1) := by decide +kernel
theorem dX9_divideRows_1 : decode cX9_divideRows 1 = .ok (.iload_n 3, 1) := by decide +kernel
theorem dX9_divideRows_2 : decode cX9_divideRows 2 = .ok (.iconst 1, 1) := by decide +kernel
theorem dX9_divideRows_3 : decode cX9_divideRows 3 = .ok (.isub, 1) := by decide +kernel
theorem dX9_divideRows_4 : decode cX9_divideRows 4 = .ok (.iaload, 1) := by decide +kernel
theorem dX9_divideRows_5 : decode cX9_divideRows 5 = .ok (.i2d, 1) := by decide +kernel
theorem dX9_divideRows_6 : decode cX9_divideRows 6 = .ok (.ldc2_w 35, 3) := by decide +kernel
theorem dX9_divideRows_9 : decode cX9_divideRows 9 = .ok (.dmul, 1) := by decide +kernel
theorem dX9_divideRows_10 : decode cX9_divideRows 10 = .ok (.iload_n 3, 1) := by decide +kernel
theorem dX9_divideRows_11 : decode cX9_divideRows 11 = .ok (.iconst 1, 1) := by decide +kernel
theorem dX9_divideRows_12 : decode cX9_divideRows 12 = .ok (.if_icmp .le 11, 3) := by decide +kernel
theorem dX9_divideRows_15 : decode cX9_divideRows 15 = .ok (.aload_n 2, 1) := by decide +kernel
theorem dX9_divideRows_16 : decode cX9_divideRows 16 = .ok (.iload_n 3, 1) := by decide +kernel
theorem dX9_divideRows_17 : decode cX9_divideRows 17 = .ok (.iconst 2, 1) := by decide +kernel
theorem dX9_divideRows_18 : decode cX9_divideRows 18 = .ok (.isub, 1) := by decide +kernel
theorem dX9_divideRows_19 : decode cX9_divideRows 19 = .ok (.iaload, 1) := by decide +kernel
theorem dX9_divideRows_20 : decode cX9_divideRows 20 = .ok (.goto 4, 3) := by decide +kernel
theorem dX9_divideRows_23 : decode cX9_divideRows 23 = .ok (.iconst 0, 1) := by decide +kernel
theorem dX9_divideRows_24 : decode cX9_divideRows 24 = .ok (.i2d, 1) := by decide +kernel
theorem dX9_divideRows_25 : decode cX9_divideRows 25 = .ok (.dadd, 1) := by decide +kernel
theorem dX9_divideRows_26 : decode cX9_divideRows 26 = .ok (.dstore 5, 2) := by decide +kernel
theorem dX9_divideRows_28 : decode cX9_divideRows 28 = .ok (.iload_n 1, 1) := by decide +kernel
theorem dX9_divideRows_29 : decode cX9_divideRows 29 = .ok (.iload_n 3, 1) := by decide +kernel
theorem dX9_divideRows_30 : decode cX9_divideRows 30 = .ok (.isub, 1) := by decide +kernel
theorem dX9_divideRows_31 : decode cX9_divideRows 31 = .ok (.istore 7, 2) := by decide +kernel
theorem dX9_divideRows_33 : decode cX9_divideRows 33 = .ok (.iload 7, 2) := by decide +kernel
theorem dX9_divideRows_35 : decode cX9_divideRows 35 = .ok (.ifCond .lt 169, 3) := by decide +kernel
theorem dX9_divideRows_38 : decode cX9_divideRows 38 = .ok (.aload_n 0, 1) := by decide +kernel
theorem dX9_divideRows_39 : decode cX9_divideRows 39 = .ok (.iload 7, 2) := by decide +kernel
theorem dX9_divideRows_41 : decode cX9_divideRows 41 = .ok (.iload_n 3, 1) := by decide +kernel
theorem dX9_divideRows_42 : decode cX9_divideRows 42 = .ok (.iadd, 1) := by decide +kernel
theorem dX9_divideRows_43 : decode cX9_divideRows 43 = .ok (.iaload, 1) := by decide +kernel
theorem dX9_divideRows_44 : decode cX9_divideRows 44 = .ok (.i2d, 1) := by decide +kernel
theorem dX9_divideRows_45 : decode cX9_divideRows 45 = .ok (.ldc2_w 35, 3) := by decide +kernel
theorem dX9_divideRows_48 : decode cX9_divideRows 48 = .ok (.dmul, 1) := by decide +kernel
theorem dX9_divideRows_49 : decode cX9_divideRows 49 = .ok (.aload_n 0, 1) := by decide +kernel
theorem dX9_divideRows_50 : decode cX9_divideRows 50 = .ok (.iload 7, 2) := by decide +kernel
theorem dX9_divideRows_52 : decode cX9_divideRows 52 = .ok (.iload_n 3, 1) := by decide +kernel
theorem dX9_divideRows_53 : decode cX9_divideRows 53 = .ok (.iadd, 1) := by decide +kernel
theorem dX9_divideRows_54 : decode cX9_divideRows 54 = .ok (.iconst 1, 1) := by decide +kernel
theorem dX9_divideRows_55 : decode cX9_divideRows 55 = .ok (.isub, 1) := by decide +kernel
theorem dX9_divideRows_56 : decode cX9_divideRows 56 = .ok (.iaload, 1) := by decide +kernel
theorem dX9_divideRows_57 : decode cX9_divideRows 57 = .ok (.i2d, 1) := by decide +kernel
theorem dX9_divideRows_58 : decode cX9_divideRows 58 = .ok (.dadd, 1) := by decide +kernel
theorem dX9_divideRows_59 : decode cX9_divideRows 59 = .ok (.ldc2_w 35, 3) := by decide +kernel
theorem dX9_divideRows_62 : decode cX9_divideRows 62 = .ok (.dmul, 1) := by decide +kernel
theorem dX9_divideRows_63 : decode cX9_divideRows 63 = .ok (.iload 7, 2) := by decide +kernel
theorem dX9_divideRows_65 : decode cX9_divideRows 65 = .ok (.iload_n 3, 1) := by decide +kernel
theorem dX9_divideRows_66 : decode cX9_divideRows 66 = .ok (.iadd, 1) := by decide +kernel
theorem dX9_divideRows_67 : decode cX9_divideRows 67 = .ok (.iconst 1, 1) := by decide +kernel
theorem dX9_divideRows_68 : decode cX9_divideRows 68 = .ok (.if_icmp .le 14, 3) := by decide +kernel
theorem dX9_divideRows_71 : decode cX9_divideRows 71 = .ok (.aload_n 0, 1) := by decide +kernel
theorem dX9_divideRows_72 : decode cX9_divideRows 72 = .ok (.iload 7, 2) := by decide +kernel
theorem dX9_divideRows_74 : decode cX9_divideRows 74 = .ok (.iload_n 3, 1) := by decide +kernel
theorem dX9_divideRows_75 : decode cX9_divideRows 75 = .ok (.iadd, 1) := by decide +kernel
theorem dX9_divideRows_76 : decode cX9_divideRows 76 = .ok (.iconst 2, 1) := by decide +kernel
theorem dX9_divideRows_77 : decode cX9_divideRows 77 = .ok (.isub, 1) := by decide +kernel
theorem dX9_divideRows_78 : decode cX9_divideRows 78 = .ok (.iaload, 1) := by decide +kernel
theorem dX9_divideRows_79 : decode cX9_divideRows 79 = .ok (.goto 4, 3) := by decide +kernel
theorem dX9_divideRows_82 : decode cX9_divideRows 82 = .ok (.iconst 0, 1) := by decide +kernel
theorem dX9_divideRows_83 : decode cX9_divideRows 83 = .ok (.i2d, 1) := by decide +kernel
theorem dX9_divideRows_84 : decode cX9_divideRows 84 = .ok (.dadd, 1) := by decide +kernel
theorem dX9_divideRows_85 : decode cX9_divideRows 85 = .ok (.dstore 8, 2) := by decide +kernel
theorem dX9_divideRows_87 : decode cX9_divideRows 87 = .ok (.ldc2_w 37, 3) := by decide +kernel
theorem dX9_divideRows_90 : decode cX9_divideRows 90 = .ok (.dload 8, 2) := by decide +kernel
theorem dX9_divideRows_92 : decode cX9_divideRows 92 = .ok (.dload 5, 2) := by decide +kernel
theorem dX9_divideRows_94 : decode cX9_divideRows 94 = .ok (.ddiv, 1) := by decide +kernel
theorem dX9_divideRows_95 : decode cX9_divideRows 95 = .ok (.invokestatic 39, 3) := by decide +kernel
theorem dX9_divideRows_98 : decode cX9_divideRows 98 = .ok (.d2i, 1) := by decide +kernel
theorem dX9_divideRows_99 : decode cX9_divideRows 99 = .ok (.istore 10, 2) := by decide +kernel
theorem dX9_divideRows_101 : decode cX9_divideRows 101 = .ok (.aload_n 0, 1) := by decide +kernel
theorem dX9_divideRows_102 : decode cX9_divideRows 102 = .ok (.iload 7, 2) := by decide +kernel
theorem dX9_divideRows_104 : decode cX9_divideRows 104 = .ok (.aload_n 2, 1) := by decide +kernel
theorem dX9_divideRows_105 : decode cX9_divideRows 105 = .ok (.iload_n 3, 1) := by decide +kernel
theorem dX9_divideRows_106 : decode cX9_divideRows 106 = .ok (.iload 10, 2) := by decide +kernel
theorem dX9_divideRows_108 : decode cX9_divideRows 108 = .ok (.invokestatic 42, 3) := by decide +kernel
theorem dX9_divideRows_111 : decode cX9_divideRows 111 = .ok (.istore 11, 2) := by decide +kernel
theorem dX9_divideRows_113 : decode cX9_divideRows 113 = .ok (.iload 11, 2) := by decide +kernel
theorem dX9_divideRows_115 : decode cX9_divideRows 115 = .ok (.ifCond .ne 43, 3) := by decide +kernel
theorem dX9_divideRows_118 : decode cX9_divideRows 118 = .ok (.iinc 10 (-1), 3) := by decide +kernel
theorem dX9_divideRows_121 : decode cX9_divideRows 121 = .ok (.aload_n 0, 1) := by decide +kernel
theorem dX9_divideRows_122 : decode cX9_divideRows 122 = .ok (.iload 7, 2) := by decide +kernel
theorem dX9_divideRows_124 : decode cX9_divideRows 124 = .ok (.iload_n 3, 1) := by decide +kernel
theorem dX9_divideRows_125 : decode cX9_divideRows 125 = .ok (.iadd, 1) := by decide +kernel
theorem dX9_divideRows_126 : decode cX9_divideRows 126 = .ok (.iaload, 1) := by decide +kernel
theorem dX9_divideRows_127 : decode cX9_divideRows 127 = .ok (.istore 12, 2) := by decide +kernel
theorem dX9_divideRows_129 : decode cX9_divideRows 129 = .ok (.aload_n 0, 1) := by decide +kernel
theorem dX9_divideRows_130 : decode cX9_divideRows 130 = .ok (.iload 7, 2) := by decide +kernel
theorem dX9_divideRows_132 : decode cX9_divideRows 132 = .ok (.aload_n 2, 1) := by decide +kernel
theorem dX9_divideRows_133 : decode cX9_divideRows 133 = .ok (.iload_n 3, 1) := by decide +kernel
theorem dX9_divideRows_134 : decode cX9_divideRows 134 = .ok (.invokestatic 46, 3) := by decide +kernel
theorem dX9_divideRows_137 : decode cX9_divideRows 137 = .ok (.iload 12, 2) := by decide +kernel
theorem dX9_divideRows_139 : decode cX9_divideRows 139 = .ok (.aload_n 0, 1) := by decide +kernel
theorem dX9_divideRows_140 : decode cX9_divideRows 140 = .ok (.iload 7, 2) := by decide +kernel
theorem dX9_divideRows_142 : decode cX9_divideRows 142 = .ok (.iload_n 3, 1) := by decide +kernel
theorem dX9_divideRows_143 : decode cX9_divideRows 143 = .ok (.iadd, 1) := by decide +kernel
theorem dX9_divideRows_144 : decode cX9_divideRows 144 = .ok (.iaload, 1) := by decide +kernel
theorem dX9_divideRows_145 : decode cX9_divideRows 145 = .ok (.if_icmp .le 7, 3) := by decide +kernel
theorem dX9_divideRows_148 : decode cX9_divideRows 148 = .ok (.iconst 1, 1) := by decide +kernel
theorem dX9_divideRows_149 : decode cX9_divideRows 149 = .ok (.goto 4, 3) := by decide +kernel
theorem dX9_divideRows_152 : decode cX9_divideRows 152 = .ok (.iconst 0, 1) := by decide +kernel
theorem dX9_divideRows_153 : decode cX9_divideRows 153 = .ok (.istore 11, 2) := by decide +kernel
theorem dX9_divideRows_155 : decode cX9_divideRows 155 = .ok (.goto (-42), 3) := by decide +kernel
theorem dX9_divideRows_158 : decode cX9_divideRows 158 = .ok (.aload_n 0, 1) := by decide +kernel
theorem dX9_divideRows_159 : decode cX9_divideRows 159 = .ok (.iload 7, 2) := by decide +kernel
theorem dX9_divideRows_161 : decode cX9_divideRows 161 = .ok (.aload_n 2, 1) := by decide +kernel
theorem dX9_divideRows_162 : decode cX9_divideRows 162 = .ok (.iload_n 3, 1) := by decide +kernel
theorem dX9_divideRows_163 : decode cX9_divideRows 163 = .ok (.invokestatic 50, 3) := by decide +kernel
theorem dX9_divideRows_166 : decode cX9_divideRows 166 = .ok (.ifCond .eq 20, 3) := by decide +kernel
theorem dX9_divideRows_169 : decode cX9_divideRows 169 = .ok (.iinc 10 1, 3) := by decide +kernel
theorem dX9_divideRows_172 : decode cX9_divideRows 172 = .ok (.aload_n 0, 1) := by decide +kernel
theorem dX9_divideRows_173 : decode cX9_divideRows 173 = .ok (.iload 7, 2) := by decide +kernel
theorem dX9_divideRows_175 : decode cX9_divideRows 175 = .ok (.aload_n 2, 1) := by decide +kernel
theorem dX9_divideRows_176 : decode cX9_divideRows 176 = .ok (.iload_n 3, 1) := by decide +kernel
theorem dX9_divideRows_177 : decode cX9_divideRows 177 = .ok (.iconst 1, 1) := by decide +kernel
theorem dX9_divideRows_178 : decode cX9_divideRows 178 = .ok (.invokestatic 42, 3) := by decide +kernel
theorem dX9_divideRows_181 : decode cX9_divideRows 181 = .ok (.istore 11, 2) := by decide +kernel
theorem dX9_divideRows_183 : decode cX9_divideRows 183 = .ok (.goto (-25), 3) := by decide +kernel
theorem dX9_divideRows_186 : decode cX9_divideRows 186 = .ok (.aload 4, 2) := by decide +kernel
theorem dX9_divideRows_188 : decode cX9_divideRows 188 = .ok (.ifnull 10, 3) := by decide +kernel
theorem dX9_divideRows_191 : decode cX9_divideRows 191 = .ok (.aload 4, 2) := by decide +kernel
theorem dX9_divideRows_193 : decode cX9_divideRows 193 = .ok (.iload 7, 2) := by decide +kernel
theorem dX9_divideRows_195 : decode cX9_divideRows 195 = .ok (.iload 10, 2) := by decide +kernel
theorem dX9_divideRows_197 : decode cX9_divideRows 197 = .ok (.iastore, 1) := by decide +kernel
theorem dX9_divideRows_198 : decode cX9_divideRows 198 = .ok (.iinc 7 (-1), 3) := by decide +kernel
theorem dX9_divideRows_201 : decode cX9_divideRows 201 = .ok (.goto (-168), 3) := by decide +kernel
theorem dX9_divideRows_204 : decode cX9_divideRows 204 = .ok (.aload_n 0, 1) := by decide +kernel
theorem dX9_divideRows_205 : decode cX9_divideRows 205 = .ok (.iload_n 1, 1) := by decide +kernel
theorem dX9_divideRows_206 : decode cX9_divideRows 206 = .ok (.iload_n 3, 1) := by decide +kernel
theorem dX9_divideRows_207 : decode cX9_divideRows 207 = .ok (.invokestatic 25, 3) := by decide +kernel
theorem dX9_divideRows_210 : decode cX9_divideRows 210 = .ok (.invokestatic 15, 3) := by decide +kernel
theorem dX9_divideRows_213 : decode cX9_divideRows 213 = .ok (.ireturn, 1) := by decide +kernel
theorem dX9_isAtLeast_0 : decode cX9_isAtLeast 0 = .ok (.aload_n 0, 1) := by decide +kernel
theorem dX9_isAtLeast_1 : decode cX9_isAtLeast 1 = .ok (.iload_n 1, 1) := by decide +kernel
theorem dX9_isAtLeast_2 : decode cX9_isAtLeast 2 = .ok (.iload_n 3, 1) := by decide +kernel
theorem dX9_isAtLeast_3 : decode cX9_isAtLeast 3 = .ok (.iadd, 1) := by decide +kernel
theorem dX9_isAtLeast_4 : decode cX9_isAtLeast 4 = .ok (.iaload, 1) := by decide +kernel
theorem dX9_isAtLeast_5 : decode cX9_isAtLeast 5 = .ok (.ifCond .le 5, 3) := by decide +kernel
theorem dX9_isAtLeast_8 : decode cX9_isAtLeast 8 = .ok (.iconst 1, 1) := by decide +kernel
theorem dX9_isAtLeast_9 : decode cX9_isAtLeast 9 = .ok (.ireturn, 1) := by decide +kernel
theorem dX9_isAtLeast_10 : decode cX9_isAtLeast 10 = .ok (.iload_n 3, 1) := by decide +kernel
theorem dX9_isAtLeast_11 : decode cX9_isAtLeast 11 = .ok (.iconst 1, 1) := by decide +kernel
theorem dX9_isAtLeast_12 : decode cX9_isAtLeast 12 = .ok (.isub, 1) := by decide +kernel
theorem dX9_isAtLeast_13 : decode cX9_isAtLeast 13 = .ok (.istore 4, 2) := by decide +kernel
theorem dX9_isAtLeast_15 : decode cX9_isAtLeast 15 = .ok (.iload 4, 2) := by decide +kernel
theorem dX9_isAtLeast_17 : decode cX9_isAtLeast 17 = .ok (.ifCond .lt 41, 3) := by decide +kernel
theorem dX9_isAtLeast_20 : decode cX9_isAtLeast 20 = .ok (.aload_n 0, 1) := by decide +kernel
theorem dX9_isAtLeast_21 : decode cX9_isAtLeast 21 = .ok (.iload_n 1, 1) := by decide +kernel
theorem dX9_isAtLeast_22 : decode cX9_isAtLeast 22 = .ok (.iload 4, 2) := by decide +kernel
theorem dX9_isAtLeast_24 : decode cX9_isAtLeast 24 = .ok (.iadd, 1) := by decide +kernel
theorem dX9_isAtLeast_25 : decode cX9_isAtLeast 25 = .ok (.iaload, 1) := by decide +kernel
theorem dX9_isAtLeast_26 : decode cX9_isAtLeast 26 = .ok (.aload_n 2, 1) := by decide +kernel
theorem dX9_isAtLeast_27 : decode cX9_isAtLeast 27 = .ok (.iload 4, 2) := by decide +kernel
theorem dX9_isAtLeast_29 : decode cX9_isAtLeast 29 = .ok (.iaload, 1) := by decide +kernel
theorem dX9_isAtLeast_30 : decode cX9_isAtLeast 30 = .ok (.if_icmp .eq 22, 3) := by decide +kernel
theorem dX9_isAtLeast_33 : decode cX9_isAtLeast 33 = .ok (.aload_n 0, 1) := by decide +kernel
theorem dX9_isAtLeast_34 : decode cX9_isAtLeast 34 = .ok (.iload_n 1, 1) := by decide +kernel
theorem dX9_isAtLeast_35 : decode cX9_isAtLeast 35 = .ok (.iload 4, 2) := by decide +kernel
theorem dX9_isAtLeast_37 : decode cX9_isAtLeast 37 = .ok (.iadd, 1) := by decide +kernel
theorem dX9_isAtLeast_38 : decode cX9_isAtLeast 38 = .ok (.iaload, 1) := by decide +kernel
theorem dX9_isAtLeast_39 : decode cX9_isAtLeast 39 = .ok (.aload_n 2, 1) := by decide +kernel
theorem dX9_isAtLeast_40 : decode cX9_isAtLeast 40 = .ok (.iload 4, 2) := by decide +kernel
theorem dX9_isAtLeast_42 : decode cX9_isAtLeast 42 = .ok (.iaload, 1) := by decide +kernel
theorem dX9_isAtLeast_43 : decode cX9_isAtLeast 43 = .ok (.if_icmp .le 7, 3) := by decide +kernel
theorem dX9_isAtLeast_46 : decode cX9_isAtLeast 46 = .ok (.iconst 1, 1) := by decide +kernel
theorem dX9_isAtLeast_47 : decode cX9_isAtLeast 47 = .ok (.goto 4, 3) := by decide +kernel
theorem dX9_isAtLeast_50 : decode cX9_isAtLeast 50 = .ok (.iconst 0, 1) := by decide +kernel
theorem dX9_isAtLeast_51 : decode cX9_isAtLeast 51 = .ok (.ireturn, 1) := by decide +kernel
theorem dX9_isAtLeast_52 : decode cX9_isAtLeast 52 = .ok (.iinc 4 (-1), 3) := by decide +kernel
theorem dX9_isAtLeast_55 : decode cX9_isAtLeast 55 = .ok (.goto (-40), 3) := by decide +kernel
theorem dX9_isAtLeast_58 : decode cX9_isAtLeast 58 = .ok (.iconst 1, 1) := by decide +kernel
theorem dX9_isAtLeast_59 : decode cX9_isAtLeast 59 = .ok (.ireturn, 1) := by decide +kernel
theorem dX9_copyRow_0 : decode cX9_copyRow 0 = .ok (.iconst 0, 1) := by decide +kernel
theorem dX9_copyRow_1 : decode cX9_copyRow 1 = .ok (.istore_n 3, 1) := by decide +kernel
theorem dX9_copyRow_2 : decode cX9_copyRow 2 = .ok (.iload_n 3, 1) := by decide +kernel
theorem dX9_copyRow_3 : decode cX9_copyRow 3 = .ok (.aload_n 1, 1) := by decide +kernel
theorem dX9_copyRow_4 : decode cX9_copyRow 4 = .ok (.arraylength, 1) := by decide +kernel
theorem dX9_copyRow_5 : decode cX9_copyRow 5 = .ok (.if_icmp .ge 24, 3) := by decide +kernel
theorem dX9_copyRow_8 : decode cX9_copyRow 8 = .ok (.aload_n 1, 1) := by decide +kernel
theorem dX9_copyRow_9 : decode cX9_copyRow 9 = .ok (.iload_n 3, 1) := by decide +kernel
theorem dX9_copyRow_10 : decode cX9_copyRow 10 = .ok (.iload_n 3, 1) := by decide +kernel
theorem dX9_copyRow_11 : decode cX9_copyRow 11 = .ok (.iload_n 2, 1) := by decide +kernel
theorem dX9_copyRow_12 : decode cX9_copyRow 12 = .ok (.if_icmp .ge 9, 3) := by decide +kernel
theorem dX9_copyRow_15 : decode cX9_copyRow 15 = .ok (.aload_n 0, 1) := by decide +kernel
theorem dX9_copyRow_16 : decode cX9_copyRow 16 = .ok (.iload_n 3, 1) := by decide +kernel
theorem dX9_copyRow_17 : decode cX9_copyRow 17 = .ok (.iaload, 1) := by decide +kernel
theorem dX9_copyRow_18 : decode cX9_copyRow 18 = .ok (.goto 4, 3) := by decide +kernel
theorem dX9_copyRow_21 : decode cX9_copyRow 21 = .ok (.iconst 0, 1) := by decide +kernel
theorem dX9_copyRow_22 : decode cX9_copyRow 22 = .ok (.iastore, 1) := by decide +kernel
theorem dX9_copyRow_23 : decode cX9_copyRow 23 = .ok (.iinc 3 1, 3) := by decide +kernel
theorem dX9_copyRow_26 : decode cX9_copyRow 26 = .ok (.goto (-24), 3) := by decide +kernel
theorem dX9_copyRow_29 : decode cX9_copyRow 29 = .ok (.return_, 1) := by decide +kernel
theorem dX9_gcd_0 : decode cX9_gcd 0 = .ok (.aload_n 0, 1) := by decide +kernel
theorem dX9_gcd_1 : decode cX9_gcd 1 = .ok (.getfield 54, 3) := by decide +kernel
theorem dX9_gcd_4 : decode cX9_gcd 4 = .ok (.astore 5, 2) := by decide +kernel
theorem dX9_gcd_6 : decode cX9_gcd 6 = .ok (.aload_n 0, 1) := by decide +kernel
theorem dX9_gcd_7 : decode cX9_gcd 7 = .ok (.getfield 58, 3) := by decide +kernel
theorem dX9_gcd_10 : decode cX9_gcd 10 = .ok (.astore 6, 2) := by decide +kernel
theorem dX9_gcd_12 : decode cX9_gcd 12 = .ok (.aload_n 1, 1) := by decide +kernel
theorem dX9_gcd_13 : decode cX9_gcd 13 = .ok (.aload 5, 2) := by decide +kernel
theorem dX9_gcd_15 : decode cX9_gcd 15 = .ok (.iload_n 2, 1) := by decide +kernel
theorem dX9_gcd_16 : decode cX9_gcd 16 = .ok (.invokestatic 61, 3) := by decide +kernel
theorem dX9_gcd_19 : decode cX9_gcd 19 = .ok (.aload_n 3, 1) := by decide +kernel
theorem dX9_gcd_20 : decode cX9_gcd 20 = .ok (.aload 6, 2) := by decide +kernel
theorem dX9_gcd_22 : decode cX9_gcd 22 = .ok (.iload 4, 2) := by decide +kernel
theorem dX9_gcd_24 : decode cX9_gcd 24 = .ok (.invokestatic 61, 3) := by decide +kernel
theorem dX9_gcd_27 : decode cX9_gcd 27 = .ok (.iload_n 2, 1) := by decide +kernel
theorem dX9_gcd_28 : decode cX9_gcd 28 = .ok (.istore 7, 2) := by decide +kernel
theorem dX9_gcd_30 : decode cX9_gcd 30 = .ok (.iload 4, 2) := by decide +kernel
theorem dX9_gcd_32 : decode cX9_gcd 32 = .ok (.istore 8, 2) := by decide +kernel
theorem dX9_gcd_34 : decode cX9_gcd 34 = .ok (.iload 8, 2) := by decide +kernel
theorem dX9_gcd_36 : decode cX9_gcd 36 = .ok (.ifCond .le 57, 3) := by decide +kernel
theorem dX9_gcd_39 : decode cX9_gcd 39 = .ok (.iload 7, 2) := by decide +kernel
theorem dX9_gcd_41 : decode cX9_gcd 41 = .ok (.iload 8, 2) := by decide +kernel
theorem dX9_gcd_43 : decode cX9_gcd 43 = .ok (.if_icmp .lt 23, 3) := by decide +kernel
theorem dX9_gcd_46 : decode cX9_gcd 46 = .ok (.aload 5, 2) := by decide +kernel
theorem dX9_gcd_48 : decode cX9_gcd 48 = .ok (.iload 7, 2) := by decide +kernel
theorem dX9_gcd_50 : decode cX9_gcd 50 = .ok (.iconst 0, 1) := by decide +kernel
theorem dX9_gcd_51 : decode cX9_gcd 51 = .ok (.iastore, 1) := by decide +kernel
theorem dX9_gcd_52 : decode cX9_gcd 52 = .ok (.aload 5, 2) := by decide +kernel
theorem dX9_gcd_54 : decode cX9_gcd 54 = .ok (.iload 7, 2) := by decide +kernel
theorem dX9_gcd_56 : decode cX9_gcd 56 = .ok (.aload 6, 2) := by decide +kernel
theorem dX9_gcd_58 : decode cX9_gcd 58 = .ok (.iload 8, 2) := by decide +kernel
theorem dX9_gcd_60 : decode cX9_gcd 60 = .ok (.aconst_null, 1) := by decide +kernel
theorem dX9_gcd_61 : decode cX9_gcd 61 = .ok (.invokestatic 65, 3) := by decide +kernel
theorem dX9_gcd_64 : decode cX9_gcd 64 = .ok (.istore 7, 2) := by decide +kernel
theorem dX9_gcd_66 : decode cX9_gcd 66 = .ok (.aload 5, 2) := by decide +kernel
theorem dX9_gcd_68 : decode cX9_gcd 68 = .ok (.astore 9, 2) := by decide +kernel
theorem dX9_gcd_70 : decode cX9_gcd 70 = .ok (.aload 6, 2) := by decide +kernel
theorem dX9_gcd_72 : decode cX9_gcd 72 = .ok (.astore 5, 2) := by decide +kernel
theorem dX9_gcd_74 : decode cX9_gcd 74 = .ok (.aload 9, 2) := by decide +kernel
theorem dX9_gcd_76 : decode cX9_gcd 76 = .ok (.astore 6, 2) := by decide +kernel
theorem dX9_gcd_78 : decode cX9_gcd 78 = .ok (.iload 7, 2) := by decide +kernel
theorem dX9_gcd_80 : decode cX9_gcd 80 = .ok (.istore 10, 2) := by decide +kernel
theorem dX9_gcd_82 : decode cX9_gcd 82 = .ok (.iload 8, 2) := by decide +kernel
theorem dX9_gcd_84 : decode cX9_gcd 84 = .ok (.istore 7, 2) := by decide +kernel
theorem dX9_gcd_86 : decode cX9_gcd 86 = .ok (.iload 10, 2) := by decide +kernel
theorem dX9_gcd_88 : decode cX9_gcd 88 = .ok (.istore 8, 2) := by decide +kernel
theorem dX9_gcd_90 : decode cX9_gcd 90 = .ok (.goto (-56), 3) := by decide +kernel
theorem dX9_gcd_93 : decode cX9_gcd 93 = .ok (.aload_n 0, 1) := by decide +kernel
theorem dX9_gcd_94 : decode cX9_gcd 94 = .ok (.aload 5, 2) := by decide +kernel
theorem dX9_gcd_96 : decode cX9_gcd 96 = .ok (.putfield 69, 3) := by decide +kernel
theorem dX9_gcd_99 : decode cX9_gcd 99 = .ok (.iload 7, 2) := by decide +kernel
theorem dX9_gcd_101 : decode cX9_gcd 101 = .ok (.ireturn, 1) := by decide +kernel
theorem dX9_reduced_0 : decode cX9_reduced 0 = .ok (.aload_n 1, 1) := by decide +kernel
theorem dX9_reduced_1 : decode cX9_reduced 1 = .ok (.aload_n 0, 1) := by decide +kernel
theorem dX9_reduced_2 : decode cX9_reduced 2 = .ok (.getfield 72, 3) := by decide +kernel
theorem dX9_reduced_5 : decode cX9_reduced 5 = .ok (.iload_n 2, 1) := by decide +kernel
theorem dX9_reduced_6 : decode cX9_reduced 6 = .ok (.invokestatic 61, 3) := by decide +kernel
theorem dX9_reduced_9 : decode cX9_reduced 9 = .ok (.iload_n 3, 1) := by decide +kernel
theorem dX9_reduced_10 : decode cX9_reduced 10 = .ok (.iconst 1, 1) := by decide +kernel
theorem dX9_reduced_11 : decode cX9_reduced 11 = .ok (.if_icmp .ne 25, 3) := by decide +kernel
theorem dX9_reduced_14 : decode cX9_reduced 14 = .ok (.aload_n 0, 1) := by decide +kernel
theorem dX9_reduced_15 : decode cX9_reduced 15 = .ok (.getfield 69, 3) := by decide +kernel
theorem dX9_reduced_18 : decode cX9_reduced 18 = .ok (.iconst 0, 1) := by decide +kernel
theorem dX9_reduced_19 : decode cX9_reduced 19 = .ok (.iaload, 1) := by decide +kernel
theorem dX9_reduced_20 : decode cX9_reduced 20 = .ok (.iconst 1, 1) := by decide +kernel
theorem dX9_reduced_21 : decode cX9_reduced 21 = .ok (.if_icmp .ne 15, 3) := by decide +kernel
theorem dX9_reduced_24 : decode cX9_reduced 24 = .ok (.aload_n 0, 1) := by decide +kernel
theorem dX9_reduced_25 : decode cX9_reduced 25 = .ok (.getfield 72, 3) := by decide +kernel
theorem dX9_reduced_28 : decode cX9_reduced 28 = .ok (.aload 4, 2) := by decide +kernel
theorem dX9_reduced_30 : decode cX9_reduced 30 = .ok (.iload_n 2, 1) := by decide +kernel
theorem dX9_reduced_31 : decode cX9_reduced 31 = .ok (.invokestatic 61, 3) := by decide +kernel
theorem dX9_reduced_34 : decode cX9_reduced 34 = .ok (.iload_n 2, 1) := by decide +kernel
theorem dX9_reduced_35 : decode cX9_reduced 35 = .ok (.ireturn, 1) := by decide +kernel
theorem dX9_reduced_36 : decode cX9_reduced 36 = .ok (.aload_n 0, 1) := by decide +kernel
theorem dX9_reduced_37 : decode cX9_reduced 37 = .ok (.getfield 72, 3) := by decide +kernel
theorem dX9_reduced_40 : decode cX9_reduced 40 = .ok (.aload 4, 2) := by decide +kernel
theorem dX9_reduced_42 : decode cX9_reduced 42 = .ok (.iconst 0, 1) := by decide +kernel
theorem dX9_reduced_43 : decode cX9_reduced 43 = .ok (.invokestatic 61, 3) := by decide +kernel
theorem dX9_reduced_46 : decode cX9_reduced 46 = .ok (.aload_n 0, 1) := by decide +kernel
theorem dX9_reduced_47 : decode cX9_reduced 47 = .ok (.getfield 72, 3) := by decide +kernel
theorem dX9_reduced_50 : decode cX9_reduced 50 = .ok (.iload_n 2, 1) := by decide +kernel
theorem dX9_reduced_51 : decode cX9_reduced 51 = .ok (.aload_n 0, 1) := by decide +kernel
theorem dX9_reduced_52 : decode cX9_reduced 52 = .ok (.getfield 69, 3) := by decide +kernel
theorem dX9_reduced_55 : decode cX9_reduced 55 = .ok (.iload_n 3, 1) := by decide +kernel
theorem dX9_reduced_56 : decode cX9_reduced 56 = .ok (.aload 4, 2) := by decide +kernel
theorem dX9_reduced_58 : decode cX9_reduced 58 = .ok (.invokestatic 65, 3) := by decide +kernel
theorem dX9_reduced_61 : decode cX9_reduced 61 = .ok (.istore 5, 2) := by decide +kernel
theorem dX9_reduced_63 : decode cX9_reduced 63 = .ok (.aload 4, 2) := by decide +kernel
theorem dX9_reduced_65 : decode cX9_reduced 65 = .ok (.iload_n 2, 1) := by decide +kernel
theorem dX9_reduced_66 : decode cX9_reduced 66 = .ok (.iload_n 3, 1) := by decide +kernel
theorem dX9_reduced_67 : decode cX9_reduced 67 = .ok (.isub, 1) := by decide +kernel
theorem dX9_reduced_68 : decode cX9_reduced 68 = .ok (.iconst 1, 1) := by decide +kernel
theorem dX9_reduced_69 : decode cX9_reduced 69 = .ok (.iadd, 1) := by decide +kernel
theorem dX9_reduced_70 : decode cX9_reduced 70 = .ok (.invokestatic 15, 3) := by decide +kernel
theorem dX9_reduced_73 : decode cX9_reduced 73 = .ok (.ireturn, 1) := by decide +kernel
theorem dX9_bitsOf_0 : decode cX9_bitsOf 0 = .ok (.iload_n 2, 1) := by decide +kernel
theorem dX9_bitsOf_1 : decode cX9_bitsOf 1 = .ok (.istore_n 3, 1) := by decide +kernel
theorem dX9_bitsOf_2 : decode cX9_bitsOf 2 = .ok (.iconst 0, 1) := by decide +kernel
theorem dX9_bitsOf_3 : decode cX9_bitsOf 3 = .ok (.istore 4, 2) := by decide +kernel
theorem dX9_bitsOf_5 : decode cX9_bitsOf 5 = .ok (.aload_n 1, 1) := by decide +kernel
theorem dX9_bitsOf_6 : decode cX9_bitsOf 6 = .ok (.aload_n 0, 1) := by decide +kernel
theorem dX9_bitsOf_7 : decode cX9_bitsOf 7 = .ok (.getfield 72, 3) := by decide +kernel
theorem dX9_bitsOf_10 : decode cX9_bitsOf 10 = .ok (.iload_n 3, 1) := by decide +kernel
theorem dX9_bitsOf_11 : decode cX9_bitsOf 11 = .ok (.invokestatic 61, 3) := by decide +kernel
theorem dX9_bitsOf_14 : decode cX9_bitsOf 14 = .ok (.iload_n 3, 1) := by decide +kernel
theorem dX9_bitsOf_15 : decode cX9_bitsOf 15 = .ok (.iconst 1, 1) := by decide +kernel
theorem dX9_bitsOf_16 : decode cX9_bitsOf 16 = .ok (.if_icmp .gt 20, 3) := by decide +kernel
theorem dX9_bitsOf_19 : decode cX9_bitsOf 19 = .ok (.iload_n 3, 1) := by decide +kernel
theorem dX9_bitsOf_20 : decode cX9_bitsOf 20 = .ok (.iconst 1, 1) := by decide +kernel
theorem dX9_bitsOf_21 : decode cX9_bitsOf 21 = .ok (.if_icmp .ne 43, 3) := by decide +kernel
theorem dX9_bitsOf_24 : decode cX9_bitsOf 24 = .ok (.aload_n 0, 1) := by decide +kernel
theorem dX9_bitsOf_25 : decode cX9_bitsOf 25 = .ok (.getfield 72, 3) := by decide +kernel
theorem dX9_bitsOf_28 : decode cX9_bitsOf 28 = .ok (.iconst 0, 1) := by decide +kernel
theorem dX9_bitsOf_29 : decode cX9_bitsOf 29 = .ok (.iaload, 1) := by decide +kernel
theorem dX9_bitsOf_30 : decode cX9_bitsOf 30 = .ok (.sipush 8192, 3) := by decide +kernel
theorem dX9_bitsOf_33 : decode cX9_bitsOf 33 = .ok (.if_icmp .lt 31, 3) := by decide +kernel
theorem dX9_bitsOf_36 : decode cX9_bitsOf 36 = .ok (.aload_n 0, 1) := by decide +kernel
theorem dX9_bitsOf_37 : decode cX9_bitsOf 37 = .ok (.getfield 72, 3) := by decide +kernel
theorem dX9_bitsOf_40 : decode cX9_bitsOf 40 = .ok (.iload_n 3, 1) := by decide +kernel
theorem dX9_bitsOf_41 : decode cX9_bitsOf 41 = .ok (.sipush 8192, 3) := by decide +kernel
theorem dX9_bitsOf_44 : decode cX9_bitsOf 44 = .ok (.invokestatic 75, 3) := by decide +kernel
theorem dX9_bitsOf_47 : decode cX9_bitsOf 47 = .ok (.istore 5, 2) := by decide +kernel
theorem dX9_bitsOf_49 : decode cX9_bitsOf 49 = .ok (.aload_n 0, 1) := by decide +kernel
theorem dX9_bitsOf_50 : decode cX9_bitsOf 50 = .ok (.getfield 72, 3) := by decide +kernel
theorem dX9_bitsOf_53 : decode cX9_bitsOf 53 = .ok (.iload_n 3, 1) := by decide +kernel
theorem dX9_bitsOf_54 : decode cX9_bitsOf 54 = .ok (.invokestatic 15, 3) := by decide +kernel
theorem dX9_bitsOf_57 : decode cX9_bitsOf 57 = .ok (.istore_n 3, 1) := by decide +kernel
theorem dX9_bitsOf_58 : decode cX9_bitsOf 58 = .ok (.iinc 4 13, 3) := by decide +kernel
theorem dX9_bitsOf_61 : decode cX9_bitsOf 61 = .ok (.goto (-47), 3) := by decide +kernel
theorem dX9_bitsOf_64 : decode cX9_bitsOf 64 = .ok (.iload_n 3, 1) := by decide +kernel
theorem dX9_bitsOf_65 : decode cX9_bitsOf 65 = .ok (.ifCond .ne 7, 3) := by decide +kernel
theorem dX9_bitsOf_68 : decode cX9_bitsOf 68 = .ok (.iconst 0, 1) := by decide +kernel
theorem dX9_bitsOf_69 : decode cX9_bitsOf 69 = .ok (.goto 9, 3) := by decide +kernel
theorem dX9_bitsOf_72 : decode cX9_bitsOf 72 = .ok (.aload_n 0, 1) := by decide +kernel
theorem dX9_bitsOf_73 : decode cX9_bitsOf 73 = .ok (.getfield 72, 3) := by decide +kernel
theorem dX9_bitsOf_76 : decode cX9_bitsOf 76 = .ok (.iconst 0, 1) := by decide +kernel
theorem dX9_bitsOf_77 : decode cX9_bitsOf 77 = .ok (.iaload, 1) := by decide +kernel
theorem dX9_bitsOf_78 : decode cX9_bitsOf 78 = .ok (.istore 5, 2) := by decide +kernel
theorem dX9_bitsOf_80 : decode cX9_bitsOf 80 = .ok (.iload 5, 2) := by decide +kernel
theorem dX9_bitsOf_82 : decode cX9_bitsOf 82 = .ok (.ifCond .le 15, 3) := by decide +kernel
theorem dX9_bitsOf_85 : decode cX9_bitsOf 85 = .ok (.iinc 4 1, 3) := by decide +kernel
theorem dX9_bitsOf_88 : decode cX9_bitsOf 88 = .ok (.iload 5, 2) := by decide +kernel
theorem dX9_bitsOf_90 : decode cX9_bitsOf 90 = .ok (.iconst 2, 1) := by decide +kernel
theorem dX9_bitsOf_91 : decode cX9_bitsOf 91 = .ok (.idiv, 1) := by decide +kernel
theorem dX9_bitsOf_92 : decode cX9_bitsOf 92 = .ok (.istore 5, 2) := by decide +kernel
theorem dX9_bitsOf_94 : decode cX9_bitsOf 94 = .ok (.goto (-14), 3) := by decide +kernel
theorem dX9_bitsOf_97 : decode cX9_bitsOf 97 = .ok (.iload 4, 2) := by decide +kernel
theorem dX9_bitsOf_99 : decode cX9_bitsOf 99 = .ok (.ireturn, 1) := by decide +kernel
theorem dX9_say_0 : decode cX9_say 0 = .ok (.aload_n 0, 1) := by decide +kernel
theorem dX9_say_1 : decode cX9_say 1 = .ok (.getfield 79, 3) := by decide +kernel
theorem dX9_say_4 : decode cX9_say 4 = .ok (.aload_n 0, 1) := by decide +kernel
theorem dX9_say_5 : decode cX9_say 5 = .ok (.getfield 82, 3) := by decide +kernel
theorem dX9_say_8 : decode cX9_say 8 = .ok (.iload_n 1, 1) := by decide +kernel
theorem dX9_say_9 : decode cX9_say 9 = .ok (.iastore, 1) := by decide +kernel
theorem dX9_say_10 : decode cX9_say 10 = .ok (.aload_n 0, 1) := by decide +kernel
theorem dX9_say_11 : decode cX9_say 11 = .ok (.dup, 1) := by decide +kernel
theorem dX9_say_12 : decode cX9_say 12 = .ok (.getfield 82, 3) := by decide +kernel
theorem dX9_say_15 : decode cX9_say 15 = .ok (.iconst 1, 1) := by decide +kernel
theorem dX9_say_16 : decode cX9_say 16 = .ok (.iadd, 1) := by decide +kernel
theorem dX9_say_17 : decode cX9_say 17 = .ok (.putfield 82, 3) := by decide +kernel
theorem dX9_say_20 : decode cX9_say 20 = .ok (.return_, 1) := by decide +kernel
theorem dX9_sayWord_0 : decode cX9_sayWord 0 = .ok (.iconst 0, 1) := by decide +kernel
theorem dX9_sayWord_1 : decode cX9_sayWord 1 = .ok (.istore_n 2, 1) := by decide +kernel
theorem dX9_sayWord_2 : decode cX9_sayWord 2 = .ok (.iload_n 2, 1) := by decide +kernel
theorem dX9_sayWord_3 : decode cX9_sayWord 3 = .ok (.aload_n 1, 1) := by decide +kernel
theorem dX9_sayWord_4 : decode cX9_sayWord 4 = .ok (.invokevirtual 86, 3) := by decide +kernel
theorem dX9_sayWord_7 : decode cX9_sayWord 7 = .ok (.if_icmp .ge 18, 3) := by decide +kernel
theorem dX9_sayWord_10 : decode cX9_sayWord 10 = .ok (.aload_n 0, 1) := by decide +kernel
theorem dX9_sayWord_11 : decode cX9_sayWord 11 = .ok (.aload_n 1, 1) := by decide +kernel
theorem dX9_sayWord_12 : decode cX9_sayWord 12 = .ok (.iload_n 2, 1) := by decide +kernel
theorem dX9_sayWord_13 : decode cX9_sayWord 13 = .ok (.invokevirtual 92, 3) := by decide +kernel
theorem dX9_sayWord_16 : decode cX9_sayWord 16 = .ok (.invokevirtual 96, 3) := by decide +kernel
theorem dX9_sayWord_19 : decode cX9_sayWord 19 = .ok (.iinc 2 1, 3) := by decide +kernel
theorem dX9_sayWord_22 : decode cX9_sayWord 22 = .ok (.goto (-20), 3) := by decide +kernel
theorem dX9_sayWord_25 : decode cX9_sayWord 25 = .ok (.return_, 1) := by decide +kernel
theorem dX9_saySmall_0 : decode cX9_saySmall 0 = .ok (.iload_n 1, 1) := by decide +kernel
theorem dX9_saySmall_1 : decode cX9_saySmall 1 = .ok (.ifCond .ge 8, 3) := by decide +kernel
theorem dX9_saySmall_4 : decode cX9_saySmall 4 = .ok (.iload_n 1, 1) := by decide +kernel
theorem dX9_saySmall_5 : decode cX9_saySmall 5 = .ok (.ineg, 1) := by decide +kernel
theorem dX9_saySmall_6 : decode cX9_saySmall 6 = .ok (.goto 4, 3) := by decide +kernel
theorem dX9_saySmall_9 : decode cX9_saySmall 9 = .ok (.iload_n 1, 1) := by decide +kernel
theorem dX9_saySmall_10 : decode cX9_saySmall 10 = .ok (.istore_n 2, 1) := by decide +kernel
theorem dX9_saySmall_11 : decode cX9_saySmall 11 = .ok (.iload_n 1, 1) := by decide +kernel
theorem dX9_saySmall_12 : decode cX9_saySmall 12 = .ok (.ifCond .ge 9, 3) := by decide +kernel
theorem dX9_saySmall_15 : decode cX9_saySmall 15 = .ok (.aload_n 0, 1) := by decide +kernel
theorem dX9_saySmall_16 : decode cX9_saySmall 16 = .ok (.bipush 45, 2) := by decide +kernel
theorem dX9_saySmall_18 : decode cX9_saySmall 18 = .ok (.invokevirtual 96, 3) := by decide +kernel
theorem dX9_saySmall_21 : decode cX9_saySmall 21 = .ok (.iload_n 2, 1) := by decide +kernel
theorem dX9_saySmall_22 : decode cX9_saySmall 22 = .ok (.bipush 99, 2) := by decide +kernel
theorem dX9_saySmall_24 : decode cX9_saySmall 24 = .ok (.if_icmp .le 14, 3) := by decide +kernel
theorem dX9_saySmall_27 : decode cX9_saySmall 27 = .ok (.aload_n 0, 1) := by decide +kernel
theorem dX9_saySmall_28 : decode cX9_saySmall 28 = .ok (.bipush 48, 2) := by decide +kernel
theorem dX9_saySmall_30 : decode cX9_saySmall 30 = .ok (.iload_n 2, 1) := by decide +kernel
theorem dX9_saySmall_31 : decode cX9_saySmall 31 = .ok (.bipush 100, 2) := by decide +kernel
theorem dX9_saySmall_33 : decode cX9_saySmall 33 = .ok (.idiv, 1) := by decide +kernel
theorem dX9_saySmall_34 : decode cX9_saySmall 34 = .ok (.iadd, 1) := by decide +kernel
theorem dX9_saySmall_35 : decode cX9_saySmall 35 = .ok (.invokevirtual 96, 3) := by decide +kernel
theorem dX9_saySmall_38 : decode cX9_saySmall 38 = .ok (.iload_n 2, 1) := by decide +kernel
theorem dX9_saySmall_39 : decode cX9_saySmall 39 = .ok (.bipush 9, 2) := by decide +kernel
theorem dX9_saySmall_41 : decode cX9_saySmall 41 = .ok (.if_icmp .le 17, 3) := by decide +kernel
theorem dX9_saySmall_44 : decode cX9_saySmall 44 = .ok (.aload_n 0, 1) := by decide +kernel
theorem dX9_saySmall_45 : decode cX9_saySmall 45 = .ok (.bipush 48, 2) := by decide +kernel
theorem dX9_saySmall_47 : decode cX9_saySmall 47 = .ok (.iload_n 2, 1) := by decide +kernel
theorem dX9_saySmall_48 : decode cX9_saySmall 48 = .ok (.bipush 10, 2) := by decide +kernel
theorem dX9_saySmall_50 : decode cX9_saySmall 50 = .ok (.idiv, 1) := by decide +kernel
theorem dX9_saySmall_51 : decode cX9_saySmall 51 = .ok (.bipush 10, 2) := by decide +kernel
theorem dX9_saySmall_53 : decode cX9_saySmall 53 = .ok (.irem, 1) := by decide +kernel
theorem dX9_saySmall_54 : decode cX9_saySmall 54 = .ok (.iadd, 1) := by decide +kernel
theorem dX9_saySmall_55 : decode cX9_saySmall 55 = .ok (.invokevirtual 96, 3) := by decide +kernel
theorem dX9_saySmall_58 : decode cX9_saySmall 58 = .ok (.aload_n 0, 1) := by decide +kernel
theorem dX9_saySmall_59 : decode cX9_saySmall 59 = .ok (.bipush 48, 2) := by decide +kernel
theorem dX9_saySmall_61 : decode cX9_saySmall 61 = .ok (.iload_n 2, 1) := by decide +kernel
theorem dX9_saySmall_62 : decode cX9_saySmall 62 = .ok (.bipush 10, 2) := by decide +kernel
theorem dX9_saySmall_64 : decode cX9_saySmall 64 = .ok (.irem, 1) := by decide +kernel
theorem dX9_saySmall_65 : decode cX9_saySmall 65 = .ok (.iadd, 1) := by decide +kernel
theorem dX9_saySmall_66 : decode cX9_saySmall 66 = .ok (.invokevirtual 96, 3) := by decide +kernel
theorem dX9_saySmall_69 : decode cX9_saySmall 69 = .ok (.return_, 1) := by decide +kernel
theorem dX9_sayWhole_0 : decode cX9_sayWhole 0 = .ok (.aload_n 1, 1) := by decide +kernel
theorem dX9_sayWhole_1 : decode cX9_sayWhole 1 = .ok (.invokevirtual 100, 3) := by decide +kernel
theorem dX9_sayWhole_4 : decode cX9_sayWhole 4 = .ok (.ifCond .eq 10, 3) := by decide +kernel
theorem dX9_sayWhole_7 : decode cX9_sayWhole 7 = .ok (.aload_n 0, 1) := by decide +kernel
theorem dX9_sayWhole_8 : decode cX9_sayWhole 8 = .ok (.bipush 48, 2) := by decide +kernel
theorem dX9_sayWhole_10 : decode cX9_sayWhole 10 = .ok (.invokevirtual 96, 3) := by decide +kernel
theorem dX9_sayWhole_13 : decode cX9_sayWhole 13 = .ok (.return_, 1) := by decide +kernel
theorem dX9_sayWhole_14 : decode cX9_sayWhole 14 = .ok (.aload_n 0, 1) := by decide +kernel
theorem dX9_sayWhole_15 : decode cX9_sayWhole 15 = .ok (.getfield 82, 3) := by decide +kernel
theorem dX9_sayWhole_18 : decode cX9_sayWhole 18 = .ok (.istore_n 3, 1) := by decide +kernel
theorem dX9_sayWhole_19 : decode cX9_sayWhole 19 = .ok (.aload_n 1, 1) := by decide +kernel
theorem dX9_sayWhole_20 : decode cX9_sayWhole 20 = .ok (.getfield 104, 3) := by decide +kernel
theorem dX9_sayWhole_23 : decode cX9_sayWhole 23 = .ok (.arraylength, 1) := by decide +kernel
theorem dX9_sayWhole_24 : decode cX9_sayWhole 24 = .ok (.istore 4, 2) := by decide +kernel
theorem dX9_sayWhole_26 : decode cX9_sayWhole 26 = .ok (.aload_n 1, 1) := by decide +kernel
theorem dX9_sayWhole_27 : decode cX9_sayWhole 27 = .ok (.getfield 104, 3) := by decide +kernel
theorem dX9_sayWhole_30 : decode cX9_sayWhole 30 = .ok (.aload_n 0, 1) := by decide +kernel
theorem dX9_sayWhole_31 : decode cX9_sayWhole 31 = .ok (.getfield 72, 3) := by decide +kernel
theorem dX9_sayWhole_34 : decode cX9_sayWhole 34 = .ok (.iload 4, 2) := by decide +kernel
theorem dX9_sayWhole_36 : decode cX9_sayWhole 36 = .ok (.invokestatic 61, 3) := by decide +kernel
theorem dX9_sayWhole_39 : decode cX9_sayWhole 39 = .ok (.iload 4, 2) := by decide +kernel
theorem dX9_sayWhole_41 : decode cX9_sayWhole 41 = .ok (.ifCond .le 36, 3) := by decide +kernel
theorem dX9_sayWhole_44 : decode cX9_sayWhole 44 = .ok (.aload_n 0, 1) := by decide +kernel
theorem dX9_sayWhole_45 : decode cX9_sayWhole 45 = .ok (.ldc 107, 2) := by decide +kernel
theorem dX9_sayWhole_47 : decode cX9_sayWhole 47 = .ok (.aload_n 0, 1) := by decide +kernel
theorem dX9_sayWhole_48 : decode cX9_sayWhole 48 = .ok (.getfield 72, 3) := by decide +kernel
theorem dX9_sayWhole_51 : decode cX9_sayWhole 51 = .ok (.iload 4, 2) := by decide +kernel
theorem dX9_sayWhole_53 : decode cX9_sayWhole 53 = .ok (.iload_n 2, 1) := by decide +kernel
theorem dX9_sayWhole_54 : decode cX9_sayWhole 54 = .ok (.invokestatic 75, 3) := by decide +kernel
theorem dX9_sayWhole_57 : decode cX9_sayWhole 57 = .ok (.invokevirtual 92, 3) := by decide +kernel
theorem dX9_sayWhole_60 : decode cX9_sayWhole 60 = .ok (.invokevirtual 96, 3) := by decide +kernel
theorem dX9_sayWhole_63 : decode cX9_sayWhole 63 = .ok (.aload_n 0, 1) := by decide +kernel
theorem dX9_sayWhole_64 : decode cX9_sayWhole 64 = .ok (.getfield 72, 3) := by decide +kernel
theorem dX9_sayWhole_67 : decode cX9_sayWhole 67 = .ok (.iload 4, 2) := by decide +kernel
theorem dX9_sayWhole_69 : decode cX9_sayWhole 69 = .ok (.invokestatic 15, 3) := by decide +kernel
theorem dX9_sayWhole_72 : decode cX9_sayWhole 72 = .ok (.istore 4, 2) := by decide +kernel
theorem dX9_sayWhole_74 : decode cX9_sayWhole 74 = .ok (.goto (-35), 3) := by decide +kernel
theorem dX9_sayWhole_77 : decode cX9_sayWhole 77 = .ok (.aload_n 1, 1) := by decide +kernel
theorem dX9_sayWhole_78 : decode cX9_sayWhole 78 = .ok (.getfield 109, 3) := by decide +kernel
theorem dX9_sayWhole_81 : decode cX9_sayWhole 81 = .ok (.ifCond .ge 9, 3) := by decide +kernel
theorem dX9_sayWhole_84 : decode cX9_sayWhole 84 = .ok (.aload_n 0, 1) := by decide +kernel
theorem dX9_sayWhole_85 : decode cX9_sayWhole 85 = .ok (.bipush 45, 2) := by decide +kernel
theorem dX9_sayWhole_87 : decode cX9_sayWhole 87 = .ok (.invokevirtual 96, 3) := by decide +kernel
theorem dX9_sayWhole_90 : decode cX9_sayWhole 90 = .ok (.iload_n 3, 1) := by decide +kernel
theorem dX9_sayWhole_91 : decode cX9_sayWhole 91 = .ok (.istore 5, 2) := by decide +kernel
theorem dX9_sayWhole_93 : decode cX9_sayWhole 93 = .ok (.aload_n 0, 1) := by decide +kernel
theorem dX9_sayWhole_94 : decode cX9_sayWhole 94 = .ok (.getfield 82, 3) := by decide +kernel
theorem dX9_sayWhole_97 : decode cX9_sayWhole 97 = .ok (.iconst 1, 1) := by decide +kernel
theorem dX9_sayWhole_98 : decode cX9_sayWhole 98 = .ok (.isub, 1) := by decide +kernel
theorem dX9_sayWhole_99 : decode cX9_sayWhole 99 = .ok (.istore 6, 2) := by decide +kernel
theorem dX9_sayWhole_101 : decode cX9_sayWhole 101 = .ok (.iload 5, 2) := by decide +kernel
theorem dX9_sayWhole_103 : decode cX9_sayWhole 103 = .ok (.iload 6, 2) := by decide +kernel
theorem dX9_sayWhole_105 : decode cX9_sayWhole 105 = .ok (.if_icmp .ge 44, 3) := by decide +kernel
theorem dX9_sayWhole_108 : decode cX9_sayWhole 108 = .ok (.aload_n 0, 1) := by decide +kernel
theorem dX9_sayWhole_109 : decode cX9_sayWhole 109 = .ok (.getfield 79, 3) := by decide +kernel
theorem dX9_sayWhole_112 : decode cX9_sayWhole 112 = .ok (.iload 5, 2) := by decide +kernel
theorem dX9_sayWhole_114 : decode cX9_sayWhole 114 = .ok (.iaload, 1) := by decide +kernel
theorem dX9_sayWhole_115 : decode cX9_sayWhole 115 = .ok (.istore 7, 2) := by decide +kernel
theorem dX9_sayWhole_117 : decode cX9_sayWhole 117 = .ok (.aload_n 0, 1) := by decide +kernel
theorem dX9_sayWhole_118 : decode cX9_sayWhole 118 = .ok (.getfield 79, 3) := by decide +kernel
theorem dX9_sayWhole_121 : decode cX9_sayWhole 121 = .ok (.iload 5, 2) := by decide +kernel
theorem dX9_sayWhole_123 : decode cX9_sayWhole 123 = .ok (.aload_n 0, 1) := by decide +kernel
theorem dX9_sayWhole_124 : decode cX9_sayWhole 124 = .ok (.getfield 79, 3) := by decide +kernel
theorem dX9_sayWhole_127 : decode cX9_sayWhole 127 = .ok (.iload 6, 2) := by decide +kernel
theorem dX9_sayWhole_129 : decode cX9_sayWhole 129 = .ok (.iaload, 1) := by decide +kernel
theorem dX9_sayWhole_130 : decode cX9_sayWhole 130 = .ok (.iastore, 1) := by decide +kernel
theorem dX9_sayWhole_131 : decode cX9_sayWhole 131 = .ok (.aload_n 0, 1) := by decide +kernel
theorem dX9_sayWhole_132 : decode cX9_sayWhole 132 = .ok (.getfield 79, 3) := by decide +kernel
theorem dX9_sayWhole_135 : decode cX9_sayWhole 135 = .ok (.iload 6, 2) := by decide +kernel
theorem dX9_sayWhole_137 : decode cX9_sayWhole 137 = .ok (.iload 7, 2) := by decide +kernel
theorem dX9_sayWhole_139 : decode cX9_sayWhole 139 = .ok (.iastore, 1) := by decide +kernel
theorem dX9_sayWhole_140 : decode cX9_sayWhole 140 = .ok (.iinc 5 1, 3) := by decide +kernel
theorem dX9_sayWhole_143 : decode cX9_sayWhole 143 = .ok (.iinc 6 (-1), 3) := by decide +kernel
theorem dX9_sayWhole_146 : decode cX9_sayWhole 146 = .ok (.goto (-45), 3) := by decide +kernel
theorem dX9_sayWhole_149 : decode cX9_sayWhole 149 = .ok (.return_, 1) := by decide +kernel
theorem dX9_nearest_0 : decode cX9_nearest 0 = .ok (.aload_n 1, 1) := by decide +kernel
theorem dX9_nearest_1 : decode cX9_nearest 1 = .ok (.iload_n 2, 1) := by decide +kernel
theorem dX9_nearest_2 : decode cX9_nearest 2 = .ok (.invokestatic 112, 3) := by decide +kernel
theorem dX9_nearest_5 : decode cX9_nearest 5 = .ok (.aload_n 3, 1) := by decide +kernel
theorem dX9_nearest_6 : decode cX9_nearest 6 = .ok (.iload 4, 2) := by decide +kernel
theorem dX9_nearest_8 : decode cX9_nearest 8 = .ok (.invokestatic 112, 3) := by decide +kernel
theorem dX9_nearest_11 : decode cX9_nearest 11 = .ok (.isub, 1) := by decide +kernel
theorem dX9_nearest_12 : decode cX9_nearest 12 = .ok (.i2d, 1) := by decide +kernel
theorem dX9_nearest_13 : decode cX9_nearest 13 = .ok (.ldc2_w 115, 3) := by decide +kernel
theorem dX9_nearest_16 : decode cX9_nearest 16 = .ok (.dmul, 1) := by decide +kernel
theorem dX9_nearest_17 : decode cX9_nearest 17 = .ok (.d2i, 1) := by decide +kernel
theorem dX9_nearest_18 : decode cX9_nearest 18 = .ok (.bipush 53, 2) := by decide +kernel
theorem dX9_nearest_20 : decode cX9_nearest 20 = .ok (.isub, 1) := by decide +kernel
theorem dX9_nearest_21 : decode cX9_nearest 21 = .ok (.istore 5, 2) := by decide +kernel
theorem dX9_nearest_23 : decode cX9_nearest 23 = .ok (.iload 5, 2) := by decide +kernel
theorem dX9_nearest_25 : decode cX9_nearest 25 = .ok (.sipush 1100, 3) := by decide +kernel
theorem dX9_nearest_28 : decode cX9_nearest 28 = .ok (.if_icmp .le 7, 3) := by decide +kernel
theorem dX9_nearest_31 : decode cX9_nearest 31 = .ok (.ldc2_w 117, 3) := by decide +kernel
theorem dX9_nearest_34 : decode cX9_nearest 34 = .ok (.dreturn, 1) := by decide +kernel
theorem dX9_nearest_35 : decode cX9_nearest 35 = .ok (.iload 5, 2) := by decide +kernel
theorem dX9_nearest_37 : decode cX9_nearest 37 = .ok (.sipush (-1200), 3) := by decide +kernel
theorem dX9_nearest_40 : decode cX9_nearest 40 = .ok (.if_icmp .ge 5, 3) := by decide +kernel
theorem dX9_nearest_43 : decode cX9_nearest 43 = .ok (.dconst 0, 1) := by decide +kernel
theorem dX9_nearest_44 : decode cX9_nearest 44 = .ok (.dreturn, 1) := by decide +kernel
theorem dX9_nearest_45 : decode cX9_nearest 45 = .ok (.iload 5, 2) := by decide +kernel
theorem dX9_nearest_47 : decode cX9_nearest 47 = .ok (.sipush (-1074), 3) := by decide +kernel
theorem dX9_nearest_50 : decode cX9_nearest 50 = .ok (.if_icmp .ge 8, 3) := by decide +kernel
theorem dX9_nearest_53 : decode cX9_nearest 53 = .ok (.sipush (-1074), 3) := by decide +kernel
theorem dX9_nearest_56 : decode cX9_nearest 56 = .ok (.istore 5, 2) := by decide +kernel
theorem dX9_nearest_58 : decode cX9_nearest 58 = .ok (.aload_n 1, 1) := by decide +kernel
theorem dX9_nearest_59 : decode cX9_nearest 59 = .ok (.aload_n 0, 1) := by decide +kernel
theorem dX9_nearest_60 : decode cX9_nearest 60 = .ok (.getfield 119, 3) := by decide +kernel
theorem dX9_nearest_63 : decode cX9_nearest 63 = .ok (.iload_n 2, 1) := by decide +kernel
theorem dX9_nearest_64 : decode cX9_nearest 64 = .ok (.invokestatic 61, 3) := by decide +kernel
theorem dX9_nearest_67 : decode cX9_nearest 67 = .ok (.aload_n 3, 1) := by decide +kernel
theorem dX9_nearest_68 : decode cX9_nearest 68 = .ok (.aload_n 0, 1) := by decide +kernel
theorem dX9_nearest_69 : decode cX9_nearest 69 = .ok (.getfield 122, 3) := by decide +kernel
theorem dX9_nearest_72 : decode cX9_nearest 72 = .ok (.iload 4, 2) := by decide +kernel
theorem dX9_nearest_74 : decode cX9_nearest 74 = .ok (.invokestatic 61, 3) := by decide +kernel
theorem dX9_nearest_77 : decode cX9_nearest 77 = .ok (.aload_n 0, 1) := by decide +kernel
theorem dX9_nearest_78 : decode cX9_nearest 78 = .ok (.getfield 125, 3) := by decide +kernel
theorem dX9_nearest_81 : decode cX9_nearest 81 = .ok (.aload_n 0, 1) := by decide +kernel
theorem dX9_nearest_82 : decode cX9_nearest 82 = .ok (.getfield 128, 3) := by decide +kernel
theorem dX9_nearest_85 : decode cX9_nearest 85 = .ok (.iconst 0, 1) := by decide +kernel
theorem dX9_nearest_86 : decode cX9_nearest 86 = .ok (.invokestatic 61, 3) := by decide +kernel
theorem dX9_nearest_89 : decode cX9_nearest 89 = .ok (.iload 5, 2) := by decide +kernel
theorem dX9_nearest_91 : decode cX9_nearest 91 = .ok (.ifCond .ge 17, 3) := by decide +kernel
theorem dX9_nearest_94 : decode cX9_nearest 94 = .ok (.aload_n 0, 1) := by decide +kernel
theorem dX9_nearest_95 : decode cX9_nearest 95 = .ok (.getfield 119, 3) := by decide +kernel
theorem dX9_nearest_98 : decode cX9_nearest 98 = .ok (.iload_n 2, 1) := by decide +kernel
theorem dX9_nearest_99 : decode cX9_nearest 99 = .ok (.iload 5, 2) := by decide +kernel
theorem dX9_nearest_101 : decode cX9_nearest 101 = .ok (.ineg, 1) := by decide +kernel
theorem dX9_nearest_102 : decode cX9_nearest 102 = .ok (.invokestatic 131, 3) := by decide +kernel
theorem dX9_nearest_105 : decode cX9_nearest 105 = .ok (.goto 4, 3) := by decide +kernel
theorem dX9_nearest_108 : decode cX9_nearest 108 = .ok (.iload_n 2, 1) := by decide +kernel
theorem dX9_nearest_109 : decode cX9_nearest 109 = .ok (.istore 6, 2) := by decide +kernel
theorem dX9_nearest_111 : decode cX9_nearest 111 = .ok (.iload 5, 2) := by decide +kernel
theorem dX9_nearest_113 : decode cX9_nearest 113 = .ok (.ifCond .le 17, 3) := by decide +kernel
theorem dX9_nearest_116 : decode cX9_nearest 116 = .ok (.aload_n 0, 1) := by decide +kernel
theorem dX9_nearest_117 : decode cX9_nearest 117 = .ok (.getfield 122, 3) := by decide +kernel
theorem dX9_nearest_120 : decode cX9_nearest 120 = .ok (.iload 4, 2) := by decide +kernel
theorem dX9_nearest_122 : decode cX9_nearest 122 = .ok (.iload 5, 2) := by decide +kernel
theorem dX9_nearest_124 : decode cX9_nearest 124 = .ok (.invokestatic 131, 3) := by decide +kernel
theorem dX9_nearest_127 : decode cX9_nearest 127 = .ok (.goto 5, 3) := by decide +kernel
theorem dX9_nearest_130 : decode cX9_nearest 130 = .ok (.iload 4, 2) := by decide +kernel
theorem dX9_nearest_132 : decode cX9_nearest 132 = .ok (.istore 7, 2) := by decide +kernel
theorem dX9_nearest_134 : decode cX9_nearest 134 = .ok (.iload 6, 2) := by decide +kernel
theorem dX9_nearest_136 : decode cX9_nearest 136 = .ok (.iload 7, 2) := by decide +kernel
theorem dX9_nearest_138 : decode cX9_nearest 138 = .ok (.if_icmp .ge 8, 3) := by decide +kernel
theorem dX9_nearest_141 : decode cX9_nearest 141 = .ok (.iload 6, 2) := by decide +kernel
theorem dX9_nearest_143 : decode cX9_nearest 143 = .ok (.goto 22, 3) := by decide +kernel
theorem dX9_nearest_146 : decode cX9_nearest 146 = .ok (.aload_n 0, 1) := by decide +kernel
theorem dX9_nearest_147 : decode cX9_nearest 147 = .ok (.getfield 119, 3) := by decide +kernel
theorem dX9_nearest_150 : decode cX9_nearest 150 = .ok (.iload 6, 2) := by decide +kernel
theorem dX9_nearest_152 : decode cX9_nearest 152 = .ok (.aload_n 0, 1) := by decide +kernel
theorem dX9_nearest_153 : decode cX9_nearest 153 = .ok (.getfield 122, 3) := by decide +kernel
theorem dX9_nearest_156 : decode cX9_nearest 156 = .ok (.iload 7, 2) := by decide +kernel
theorem dX9_nearest_158 : decode cX9_nearest 158 = .ok (.aload_n 0, 1) := by decide +kernel
theorem dX9_nearest_159 : decode cX9_nearest 159 = .ok (.getfield 128, 3) := by decide +kernel
theorem dX9_nearest_162 : decode cX9_nearest 162 = .ok (.invokestatic 65, 3) := by decide +kernel
theorem dX9_nearest_165 : decode cX9_nearest 165 = .ok (.istore 8, 2) := by decide +kernel
theorem dX9_nearest_167 : decode cX9_nearest 167 = .ok (.aload_n 0, 1) := by decide +kernel
theorem dX9_nearest_168 : decode cX9_nearest 168 = .ok (.getfield 128, 3) := by decide +kernel
theorem dX9_nearest_171 : decode cX9_nearest 171 = .ok (.iconst 1, 1) := by decide +kernel
theorem dX9_nearest_172 : decode cX9_nearest 172 = .ok (.iload 6, 2) := by decide +kernel
theorem dX9_nearest_174 : decode cX9_nearest 174 = .ok (.iload 7, 2) := by decide +kernel
theorem dX9_nearest_176 : decode cX9_nearest 176 = .ok (.isub, 1) := by decide +kernel
theorem dX9_nearest_177 : decode cX9_nearest 177 = .ok (.iconst 1, 1) := by decide +kernel
theorem dX9_nearest_178 : decode cX9_nearest 178 = .ok (.iadd, 1) := by decide +kernel
theorem dX9_nearest_179 : decode cX9_nearest 179 = .ok (.invokestatic 134, 3) := by decide +kernel
theorem dX9_nearest_182 : decode cX9_nearest 182 = .ok (.invokestatic 15, 3) := by decide +kernel
theorem dX9_nearest_185 : decode cX9_nearest 185 = .ok (.istore 9, 2) := by decide +kernel
theorem dX9_nearest_187 : decode cX9_nearest 187 = .ok (.lconst 0, 1) := by decide +kernel
theorem dX9_nearest_188 : decode cX9_nearest 188 = .ok (.lstore 10, 2) := by decide +kernel
theorem dX9_nearest_190 : decode cX9_nearest 190 = .ok (.iload 9, 2) := by decide +kernel
theorem dX9_nearest_192 : decode cX9_nearest 192 = .ok (.iconst 4, 1) := by decide +kernel
theorem dX9_nearest_193 : decode cX9_nearest 193 = .ok (.invokestatic 25, 3) := by decide +kernel
theorem dX9_nearest_196 : decode cX9_nearest 196 = .ok (.iconst 1, 1) := by decide +kernel
theorem dX9_nearest_197 : decode cX9_nearest 197 = .ok (.isub, 1) := by decide +kernel
theorem dX9_nearest_198 : decode cX9_nearest 198 = .ok (.istore 12, 2) := by decide +kernel
theorem dX9_nearest_200 : decode cX9_nearest 200 = .ok (.iload 12, 2) := by decide +kernel
theorem dX9_nearest_202 : decode cX9_nearest 202 = .ok (.ifCond .lt 26, 3) := by decide +kernel
theorem dX9_nearest_205 : decode cX9_nearest 205 = .ok (.lload 10, 2) := by decide +kernel
theorem dX9_nearest_207 : decode cX9_nearest 207 = .ok (.ldc2_w 13, 3) := by decide +kernel
theorem dX9_nearest_210 : decode cX9_nearest 210 = .ok (.lmul, 1) := by decide +kernel
theorem dX9_nearest_211 : decode cX9_nearest 211 = .ok (.aload_n 0, 1) := by decide +kernel
theorem dX9_nearest_212 : decode cX9_nearest 212 = .ok (.getfield 128, 3) := by decide +kernel
theorem dX9_nearest_215 : decode cX9_nearest 215 = .ok (.iload 12, 2) := by decide +kernel
theorem dX9_nearest_217 : decode cX9_nearest 217 = .ok (.iaload, 1) := by decide +kernel
theorem dX9_nearest_218 : decode cX9_nearest 218 = .ok (.i2l, 1) := by decide +kernel
theorem dX9_nearest_219 : decode cX9_nearest 219 = .ok (.ladd, 1) := by decide +kernel
theorem dX9_nearest_220 : decode cX9_nearest 220 = .ok (.lstore 10, 2) := by decide +kernel
theorem dX9_nearest_222 : decode cX9_nearest 222 = .ok (.iinc 12 (-1), 3) := by decide +kernel
theorem dX9_nearest_225 : decode cX9_nearest 225 = .ok (.goto (-25), 3) := by decide +kernel
theorem dX9_nearest_228 : decode cX9_nearest 228 = .ok (.iload 9, 2) := by decide +kernel
theorem dX9_nearest_230 : decode cX9_nearest 230 = .ok (.iconst 4, 1) := by decide +kernel
theorem dX9_nearest_231 : decode cX9_nearest 231 = .ok (.if_icmp .gt 12, 3) := by decide +kernel
theorem dX9_nearest_234 : decode cX9_nearest 234 = .ok (.lload 10, 2) := by decide +kernel
theorem dX9_nearest_236 : decode cX9_nearest 236 = .ok (.ldc2_w 137, 3) := by decide +kernel
theorem dX9_nearest_239 : decode cX9_nearest 239 = .ok (.lcmp, 1) := by decide +kernel
theorem dX9_nearest_240 : decode cX9_nearest 240 = .ok (.ifCond .lt 9, 3) := by decide +kernel
theorem dX9_nearest_243 : decode cX9_nearest 243 = .ok (.iinc 5 1, 3) := by decide +kernel
theorem dX9_nearest_246 : decode cX9_nearest 246 = .ok (.goto 92, 3) := by decide +kernel
theorem dX9_nearest_249 : decode cX9_nearest 249 = .ok (.lload 10, 2) := by decide +kernel
theorem dX9_nearest_251 : decode cX9_nearest 251 = .ok (.ldc2_w 139, 3) := by decide +kernel
theorem dX9_nearest_254 : decode cX9_nearest 254 = .ok (.lcmp, 1) := by decide +kernel
theorem dX9_nearest_255 : decode cX9_nearest 255 = .ok (.ifCond .ge 17, 3) := by decide +kernel
theorem dX9_nearest_258 : decode cX9_nearest 258 = .ok (.iload 5, 2) := by decide +kernel
theorem dX9_nearest_260 : decode cX9_nearest 260 = .ok (.sipush (-1074), 3) := by decide +kernel
theorem dX9_nearest_263 : decode cX9_nearest 263 = .ok (.if_icmp .le 9, 3) := by decide +kernel
theorem dX9_nearest_266 : decode cX9_nearest 266 = .ok (.iinc 5 (-1), 3) := by decide +kernel
theorem dX9_nearest_269 : decode cX9_nearest 269 = .ok (.goto 69, 3) := by decide +kernel
theorem dX9_nearest_272 : decode cX9_nearest 272 = .ok (.aload_n 0, 1) := by decide +kernel
theorem dX9_nearest_273 : decode cX9_nearest 273 = .ok (.getfield 119, 3) := by decide +kernel
theorem dX9_nearest_276 : decode cX9_nearest 276 = .ok (.iload 8, 2) := by decide +kernel
theorem dX9_nearest_278 : decode cX9_nearest 278 = .ok (.iconst 2, 1) := by decide +kernel
theorem dX9_nearest_279 : decode cX9_nearest 279 = .ok (.iconst 0, 1) := by decide +kernel
theorem dX9_nearest_280 : decode cX9_nearest 280 = .ok (.invokestatic 31, 3) := by decide +kernel
theorem dX9_nearest_283 : decode cX9_nearest 283 = .ok (.istore 8, 2) := by decide +kernel
theorem dX9_nearest_285 : decode cX9_nearest 285 = .ok (.aload_n 0, 1) := by decide +kernel
theorem dX9_nearest_286 : decode cX9_nearest 286 = .ok (.getfield 119, 3) := by decide +kernel
theorem dX9_nearest_289 : decode cX9_nearest 289 = .ok (.iload 8, 2) := by decide +kernel
theorem dX9_nearest_291 : decode cX9_nearest 291 = .ok (.aload_n 0, 1) := by decide +kernel
theorem dX9_nearest_292 : decode cX9_nearest 292 = .ok (.getfield 122, 3) := by decide +kernel
theorem dX9_nearest_295 : decode cX9_nearest 295 = .ok (.iload 7, 2) := by decide +kernel
theorem dX9_nearest_297 : decode cX9_nearest 297 = .ok (.invokestatic 141, 3) := by decide +kernel
theorem dX9_nearest_300 : decode cX9_nearest 300 = .ok (.istore 12, 2) := by decide +kernel
theorem dX9_nearest_302 : decode cX9_nearest 302 = .ok (.lload 10, 2) := by decide +kernel
theorem dX9_nearest_304 : decode cX9_nearest 304 = .ok (.iload 12, 2) := by decide +kernel
theorem dX9_nearest_306 : decode cX9_nearest 306 = .ok (.ifCond .gt 19, 3) := by decide +kernel
theorem dX9_nearest_309 : decode cX9_nearest 309 = .ok (.iload 12, 2) := by decide +kernel
theorem dX9_nearest_311 : decode cX9_nearest 311 = .ok (.ifCond .ne 18, 3) := by decide +kernel
theorem dX9_nearest_314 : decode cX9_nearest 314 = .ok (.lload 10, 2) := by decide +kernel
theorem dX9_nearest_316 : decode cX9_nearest 316 = .ok (.ldc2_w 145, 3) := by decide +kernel
theorem dX9_nearest_319 : decode cX9_nearest 319 = .ok (.lrem, 1) := by decide +kernel
theorem dX9_nearest_320 : decode cX9_nearest 320 = .ok (.lconst 1, 1) := by decide +kernel
theorem dX9_nearest_321 : decode cX9_nearest 321 = .ok (.lcmp, 1) := by decide +kernel
theorem dX9_nearest_322 : decode cX9_nearest 322 = .ok (.ifCond .ne 7, 3) := by decide +kernel
theorem dX9_nearest_325 : decode cX9_nearest 325 = .ok (.iconst 1, 1) := by decide +kernel
theorem dX9_nearest_326 : decode cX9_nearest 326 = .ok (.goto 4, 3) := by decide +kernel
theorem dX9_nearest_329 : decode cX9_nearest 329 = .ok (.iconst 0, 1) := by decide +kernel
theorem dX9_nearest_330 : decode cX9_nearest 330 = .ok (.i2l, 1) := by decide +kernel
theorem dX9_nearest_331 : decode cX9_nearest 331 = .ok (.ladd, 1) := by decide +kernel
theorem dX9_nearest_332 : decode cX9_nearest 332 = .ok (.iload 5, 2) := by decide +kernel
theorem dX9_nearest_334 : decode cX9_nearest 334 = .ok (.invokestatic 147, 3) := by decide +kernel
theorem dX9_nearest_337 : decode cX9_nearest 337 = .ok (.dreturn, 1) := by decide +kernel
theorem dX9_nearest_338 : decode cX9_nearest 338 = .ok (.goto (-280), 3) := by decide +kernel
theorem dX9_scaled_0 : decode cX9_scaled 0 = .ok (.lload_n 0, 1) := by decide +kernel
theorem dX9_scaled_1 : decode cX9_scaled 1 = .ok (.l2d, 1) := by decide +kernel
theorem dX9_scaled_2 : decode cX9_scaled 2 = .ok (.dstore_n 3, 1) := by decide +kernel
theorem dX9_scaled_3 : decode cX9_scaled 3 = .ok (.iload_n 2, 1) := by decide +kernel
theorem dX9_scaled_4 : decode cX9_scaled 4 = .ok (.istore 5, 2) := by decide +kernel
theorem dX9_scaled_6 : decode cX9_scaled 6 = .ok (.iload 5, 2) := by decide +kernel
theorem dX9_scaled_8 : decode cX9_scaled 8 = .ok (.ifCond .le 15, 3) := by decide +kernel
theorem dX9_scaled_11 : decode cX9_scaled 11 = .ok (.dload_n 3, 1) := by decide +kernel
theorem dX9_scaled_12 : decode cX9_scaled 12 = .ok (.ldc2_w 151, 3) := by decide +kernel
theorem dX9_scaled_15 : decode cX9_scaled 15 = .ok (.dmul, 1) := by decide +kernel
theorem dX9_scaled_16 : decode cX9_scaled 16 = .ok (.dstore_n 3, 1) := by decide +kernel
theorem dX9_scaled_17 : decode cX9_scaled 17 = .ok (.iinc 5 (-1), 3) := by decide +kernel
theorem dX9_scaled_20 : decode cX9_scaled 20 = .ok (.goto (-14), 3) := by decide +kernel
theorem dX9_scaled_23 : decode cX9_scaled 23 = .ok (.iload_n 2, 1) := by decide +kernel
theorem dX9_scaled_24 : decode cX9_scaled 24 = .ok (.istore 5, 2) := by decide +kernel
theorem dX9_scaled_26 : decode cX9_scaled 26 = .ok (.iload 5, 2) := by decide +kernel
theorem dX9_scaled_28 : decode cX9_scaled 28 = .ok (.ifCond .ge 15, 3) := by decide +kernel
theorem dX9_scaled_31 : decode cX9_scaled 31 = .ok (.dload_n 3, 1) := by decide +kernel
theorem dX9_scaled_32 : decode cX9_scaled 32 = .ok (.ldc2_w 153, 3) := by decide +kernel
theorem dX9_scaled_35 : decode cX9_scaled 35 = .ok (.dmul, 1) := by decide +kernel
theorem dX9_scaled_36 : decode cX9_scaled 36 = .ok (.dstore_n 3, 1) := by decide +kernel
theorem dX9_scaled_37 : decode cX9_scaled 37 = .ok (.iinc 5 1, 3) := by decide +kernel
theorem dX9_scaled_40 : decode cX9_scaled 40 = .ok (.goto (-14), 3) := by decide +kernel
theorem dX9_scaled_43 : decode cX9_scaled 43 = .ok (.dload_n 3, 1) := by decide +kernel
theorem dX9_scaled_44 : decode cX9_scaled 44 = .ok (.dreturn, 1) := by decide +kernel
theorem dX9_significand_0 : decode cX9_significand 0 = .ok (.dload_n 0, 1) := by decide +kernel
theorem dX9_significand_1 : decode cX9_significand 1 = .ok (.dconst 0, 1) := by decide +kernel
theorem dX9_significand_2 : decode cX9_significand 2 = .ok (.dcmp .g, 1) := by decide +kernel
theorem dX9_significand_3 : decode cX9_significand 3 = .ok (.ifCond .ge 8, 3) := by decide +kernel
theorem dX9_significand_6 : decode cX9_significand 6 = .ok (.dload_n 0, 1) := by decide +kernel
theorem dX9_significand_7 : decode cX9_significand 7 = .ok (.dneg, 1) := by decide +kernel
theorem dX9_significand_8 : decode cX9_significand 8 = .ok (.goto 4, 3) := by decide +kernel
theorem dX9_significand_11 : decode cX9_significand 11 = .ok (.dload_n 0, 1) := by decide +kernel
theorem dX9_significand_12 : decode cX9_significand 12 = .ok (.dstore_n 2, 1) := by decide +kernel
theorem dX9_significand_13 : decode cX9_significand 13 = .ok (.dload_n 2, 1) := by decide +kernel
theorem dX9_significand_14 : decode cX9_significand 14 = .ok (.ldc2_w 155, 3) := by decide +kernel
theorem dX9_significand_17 : decode cX9_significand 17 = .ok (.dcmp .l, 1) := by decide +kernel
theorem dX9_significand_18 : decode cX9_significand 18 = .ok (.ifCond .lt 12, 3) := by decide +kernel
theorem dX9_significand_21 : decode cX9_significand 21 = .ok (.dload_n 2, 1) := by decide +kernel
theorem dX9_significand_22 : decode cX9_significand 22 = .ok (.ldc2_w 153, 3) := by decide +kernel
theorem dX9_significand_25 : decode cX9_significand 25 = .ok (.dmul, 1) := by decide +kernel
theorem dX9_significand_26 : decode cX9_significand 26 = .ok (.dstore_n 2, 1) := by decide +kernel
theorem dX9_significand_27 : decode cX9_significand 27 = .ok (.goto (-14), 3) := by decide +kernel
theorem dX9_significand_30 : decode cX9_significand 30 = .ok (.dload_n 2, 1) := by decide +kernel
theorem dX9_significand_31 : decode cX9_significand 31 = .ok (.dload_n 2, 1) := by decide +kernel
theorem dX9_significand_32 : decode cX9_significand 32 = .ok (.d2l, 1) := by decide +kernel
theorem dX9_significand_33 : decode cX9_significand 33 = .ok (.l2d, 1) := by decide +kernel
theorem dX9_significand_34 : decode cX9_significand 34 = .ok (.dcmp .l, 1) := by decide +kernel
theorem dX9_significand_35 : decode cX9_significand 35 = .ok (.ifCond .eq 12, 3) := by decide +kernel
theorem dX9_significand_38 : decode cX9_significand 38 = .ok (.dload_n 2, 1) := by decide +kernel
theorem dX9_significand_39 : decode cX9_significand 39 = .ok (.ldc2_w 151, 3) := by decide +kernel
theorem dX9_significand_42 : decode cX9_significand 42 = .ok (.dmul, 1) := by decide +kernel
theorem dX9_significand_43 : decode cX9_significand 43 = .ok (.dstore_n 2, 1) := by decide +kernel
theorem dX9_significand_44 : decode cX9_significand 44 = .ok (.goto (-14), 3) := by decide +kernel
theorem dX9_significand_47 : decode cX9_significand 47 = .ok (.dload_n 2, 1) := by decide +kernel
theorem dX9_significand_48 : decode cX9_significand 48 = .ok (.d2l, 1) := by decide +kernel
theorem dX9_significand_49 : decode cX9_significand 49 = .ok (.lreturn, 1) := by decide +kernel
theorem dX9_exponent_0 : decode cX9_exponent 0 = .ok (.dload_n 0, 1) := by decide +kernel
theorem dX9_exponent_1 : decode cX9_exponent 1 = .ok (.dconst 0, 1) := by decide +kernel
theorem dX9_exponent_2 : decode cX9_exponent 2 = .ok (.dcmp .g, 1) := by decide +kernel
theorem dX9_exponent_3 : decode cX9_exponent 3 = .ok (.ifCond .ge 8, 3) := by decide +kernel
theorem dX9_exponent_6 : decode cX9_exponent 6 = .ok (.dload_n 0, 1) := by decide +kernel
theorem dX9_exponent_7 : decode cX9_exponent 7 = .ok (.dneg, 1) := by decide +kernel
theorem dX9_exponent_8 : decode cX9_exponent 8 = .ok (.goto 4, 3) := by decide +kernel
theorem dX9_exponent_11 : decode cX9_exponent 11 = .ok (.dload_n 0, 1) := by decide +kernel
theorem dX9_exponent_12 : decode cX9_exponent 12 = .ok (.dstore_n 2, 1) := by decide +kernel
theorem dX9_exponent_13 : decode cX9_exponent 13 = .ok (.iconst 0, 1) := by decide +kernel
theorem dX9_exponent_14 : decode cX9_exponent 14 = .ok (.istore 4, 2) := by decide +kernel
theorem dX9_exponent_16 : decode cX9_exponent 16 = .ok (.dload_n 2, 1) := by decide +kernel
theorem dX9_exponent_17 : decode cX9_exponent 17 = .ok (.ldc2_w 155, 3) := by decide +kernel
theorem dX9_exponent_20 : decode cX9_exponent 20 = .ok (.dcmp .l, 1) := by decide +kernel
theorem dX9_exponent_21 : decode cX9_exponent 21 = .ok (.ifCond .lt 15, 3) := by decide +kernel
theorem dX9_exponent_24 : decode cX9_exponent 24 = .ok (.dload_n 2, 1) := by decide +kernel
theorem dX9_exponent_25 : decode cX9_exponent 25 = .ok (.ldc2_w 153, 3) := by decide +kernel
theorem dX9_exponent_28 : decode cX9_exponent 28 = .ok (.dmul, 1) := by decide +kernel
theorem dX9_exponent_29 : decode cX9_exponent 29 = .ok (.dstore_n 2, 1) := by decide +kernel
theorem dX9_exponent_30 : decode cX9_exponent 30 = .ok (.iinc 4 1, 3) := by decide +kernel
theorem dX9_exponent_33 : decode cX9_exponent 33 = .ok (.goto (-17), 3) := by decide +kernel
theorem dX9_exponent_36 : decode cX9_exponent 36 = .ok (.dload_n 2, 1) := by decide +kernel
theorem dX9_exponent_37 : decode cX9_exponent 37 = .ok (.dload_n 2, 1) := by decide +kernel
theorem dX9_exponent_38 : decode cX9_exponent 38 = .ok (.d2l, 1) := by decide +kernel
theorem dX9_exponent_39 : decode cX9_exponent 39 = .ok (.l2d, 1) := by decide +kernel
theorem dX9_exponent_40 : decode cX9_exponent 40 = .ok (.dcmp .l, 1) := by decide +kernel
theorem dX9_exponent_41 : decode cX9_exponent 41 = .ok (.ifCond .eq 15, 3) := by decide +kernel
theorem dX9_exponent_44 : decode cX9_exponent 44 = .ok (.dload_n 2, 1) := by decide +kernel
theorem dX9_exponent_45 : decode cX9_exponent 45 = .ok (.ldc2_w 151, 3) := by decide +kernel
theorem dX9_exponent_48 : decode cX9_exponent 48 = .ok (.dmul, 1) := by decide +kernel
theorem dX9_exponent_49 : decode cX9_exponent 49 = .ok (.dstore_n 2, 1) := by decide +kernel
theorem dX9_exponent_50 : decode cX9_exponent 50 = .ok (.iinc 4 (-1), 3) := by decide +kernel
theorem dX9_exponent_53 : decode cX9_exponent 53 = .ok (.goto (-17), 3) := by decide +kernel
theorem dX9_exponent_56 : decode cX9_exponent 56 = .ok (.iload 4, 2) := by decide +kernel
theorem dX9_exponent_58 : decode cX9_exponent 58 = .ok (.ireturn, 1) := by decide +kernel
theorem dX9_isExact_0 : decode cX9_isExact 0 = .ok (.aload_n 0, 1) := by decide +kernel
theorem dX9_isExact_1 : decode cX9_isExact 1 = .ok (.instanceof 1, 3) := by decide +kernel
theorem dX9_isExact_4 : decode cX9_isExact 4 = .ok (.ifCond .ne 10, 3) := by decide +kernel
theorem dX9_isExact_7 : decode cX9_isExact 7 = .ok (.aload_n 0, 1) := by decide +kernel
theorem dX9_isExact_8 : decode cX9_isExact 8 = .ok (.instanceof 157, 3) := by decide +kernel
theorem dX9_isExact_11 : decode cX9_isExact 11 = .ok (.ifCond .eq 7, 3) := by decide +kernel
theorem dX9_isExact_14 : decode cX9_isExact 14 = .ok (.iconst 1, 1) := by decide +kernel
theorem dX9_isExact_15 : decode cX9_isExact 15 = .ok (.goto 4, 3) := by decide +kernel
theorem dX9_isExact_18 : decode cX9_isExact 18 = .ok (.iconst 0, 1) := by decide +kernel
theorem dX9_isExact_19 : decode cX9_isExact 19 = .ok (.ireturn, 1) := by decide +kernel
theorem dX9_above_0 : decode cX9_above 0 = .ok (.aload_n 0, 1) := by decide +kernel
theorem dX9_above_1 : decode cX9_above 1 = .ok (.instanceof 1, 3) := by decide +kernel
theorem dX9_above_4 : decode cX9_above 4 = .ok (.ifCond .eq 10, 3) := by decide +kernel
theorem dX9_above_7 : decode cX9_above 7 = .ok (.aload_n 0, 1) := by decide +kernel
theorem dX9_above_8 : decode cX9_above 8 = .ok (.checkcast 1, 3) := by decide +kernel
theorem dX9_above_11 : decode cX9_above 11 = .ok (.goto 10, 3) := by decide +kernel
theorem dX9_above_14 : decode cX9_above 14 = .ok (.aload_n 0, 1) := by decide +kernel
theorem dX9_above_15 : decode cX9_above 15 = .ok (.checkcast 157, 3) := by decide +kernel
theorem dX9_above_18 : decode cX9_above 18 = .ok (.getfield 159, 3) := by decide +kernel
theorem dX9_above_21 : decode cX9_above 21 = .ok (.areturn, 1) := by decide +kernel
theorem dX9_below_0 : decode cX9_below 0 = .ok (.aload_n 0, 1) := by decide +kernel
theorem dX9_below_1 : decode cX9_below 1 = .ok (.instanceof 1, 3) := by decide +kernel
theorem dX9_below_4 : decode cX9_below 4 = .ok (.ifCond .eq 10, 3) := by decide +kernel
theorem dX9_below_7 : decode cX9_below 7 = .ok (.lconst 1, 1) := by decide +kernel
theorem dX9_below_8 : decode cX9_below 8 = .ok (.invokestatic 163, 3) := by decide +kernel
theorem dX9_below_11 : decode cX9_below 11 = .ok (.goto 10, 3) := by decide +kernel
theorem dX9_below_14 : decode cX9_below 14 = .ok (.aload_n 0, 1) := by decide +kernel
theorem dX9_below_15 : decode cX9_below 15 = .ok (.checkcast 157, 3) := by decide +kernel
theorem dX9_below_18 : decode cX9_below 18 = .ok (.getfield 167, 3) := by decide +kernel
theorem dX9_below_21 : decode cX9_below 21 = .ok (.areturn, 1) := by decide +kernel
theorem dX9_kept_0 : decode cX9_kept 0 = .ok (.aload_n 0, 1) := by decide +kernel
theorem dX9_kept_1 : decode cX9_kept 1 = .ok (.aload_n 1, 1) := by decide +kernel
theorem dX9_kept_2 : decode cX9_kept 2 = .ok (.iload_n 2, 1) := by decide +kernel
theorem dX9_kept_3 : decode cX9_kept 3 = .ok (.invokevirtual 170, 3) := by decide +kernel
theorem dX9_kept_6 : decode cX9_kept 6 = .ok (.sipush 4096, 3) := by decide +kernel
theorem dX9_kept_9 : decode cX9_kept 9 = .ok (.if_icmp .le 7, 3) := by decide +kernel
theorem dX9_kept_12 : decode cX9_kept 12 = .ok (.aconst_null, 1) := by decide +kernel
theorem dX9_kept_13 : decode cX9_kept 13 = .ok (.goto 9, 3) := by decide +kernel
theorem dX9_kept_16 : decode cX9_kept 16 = .ok (.iconst 1, 1) := by decide +kernel
theorem dX9_kept_17 : decode cX9_kept 17 = .ok (.aload_n 1, 1) := by decide +kernel
theorem dX9_kept_18 : decode cX9_kept 18 = .ok (.iload_n 2, 1) := by decide +kernel
theorem dX9_kept_19 : decode cX9_kept 19 = .ok (.invokestatic 173, 3) := by decide +kernel
theorem dX9_kept_22 : decode cX9_kept 22 = .ok (.areturn, 1) := by decide +kernel
theorem dX9_fraction_0 : decode cX9_fraction 0 = .ok (.iload_n 2, 1) := by decide +kernel
theorem dX9_fraction_1 : decode cX9_fraction 1 = .ok (.ifCond .ne 7, 3) := by decide +kernel
theorem dX9_fraction_4 : decode cX9_fraction 4 = .ok (.invokestatic 7, 3) := by decide +kernel
theorem dX9_fraction_7 : decode cX9_fraction 7 = .ok (.areturn, 1) := by decide +kernel
theorem dX9_fraction_8 : decode cX9_fraction 8 = .ok (.iload 4, 2) := by decide +kernel
theorem dX9_fraction_10 : decode cX9_fraction 10 = .ok (.iconst 1, 1) := by decide +kernel
theorem dX9_fraction_11 : decode cX9_fraction 11 = .ok (.if_icmp .ne 17, 3) := by decide +kernel
theorem dX9_fraction_14 : decode cX9_fraction 14 = .ok (.aload_n 3, 1) := by decide +kernel
theorem dX9_fraction_15 : decode cX9_fraction 15 = .ok (.iconst 0, 1) := by decide +kernel
theorem dX9_fraction_16 : decode cX9_fraction 16 = .ok (.iaload, 1) := by decide +kernel
theorem dX9_fraction_17 : decode cX9_fraction 17 = .ok (.iconst 1, 1) := by decide +kernel
theorem dX9_fraction_18 : decode cX9_fraction 18 = .ok (.if_icmp .ne 10, 3) := by decide +kernel
theorem dX9_fraction_21 : decode cX9_fraction 21 = .ok (.aload_n 0, 1) := by decide +kernel
theorem dX9_fraction_22 : decode cX9_fraction 22 = .ok (.aload_n 1, 1) := by decide +kernel
theorem dX9_fraction_23 : decode cX9_fraction 23 = .ok (.iload_n 2, 1) := by decide +kernel
theorem dX9_fraction_24 : decode cX9_fraction 24 = .ok (.invokevirtual 177, 3) := by decide +kernel
theorem dX9_fraction_27 : decode cX9_fraction 27 = .ok (.areturn, 1) := by decide +kernel
theorem dX9_fraction_28 : decode cX9_fraction 28 = .ok (.aload_n 0, 1) := by decide +kernel
theorem dX9_fraction_29 : decode cX9_fraction 29 = .ok (.aload_n 1, 1) := by decide +kernel
theorem dX9_fraction_30 : decode cX9_fraction 30 = .ok (.iload_n 2, 1) := by decide +kernel
theorem dX9_fraction_31 : decode cX9_fraction 31 = .ok (.aload_n 3, 1) := by decide +kernel
theorem dX9_fraction_32 : decode cX9_fraction 32 = .ok (.iload 4, 2) := by decide +kernel
theorem dX9_fraction_34 : decode cX9_fraction 34 = .ok (.invokevirtual 181, 3) := by decide +kernel
theorem dX9_fraction_37 : decode cX9_fraction 37 = .ok (.istore 5, 2) := by decide +kernel
theorem dX9_fraction_39 : decode cX9_fraction 39 = .ok (.aload_n 0, 1) := by decide +kernel
theorem dX9_fraction_40 : decode cX9_fraction 40 = .ok (.aload_n 1, 1) := by decide +kernel
theorem dX9_fraction_41 : decode cX9_fraction 41 = .ok (.iload_n 2, 1) := by decide +kernel
theorem dX9_fraction_42 : decode cX9_fraction 42 = .ok (.iload 5, 2) := by decide +kernel
theorem dX9_fraction_44 : decode cX9_fraction 44 = .ok (.aload_n 0, 1) := by decide +kernel
theorem dX9_fraction_45 : decode cX9_fraction 45 = .ok (.getfield 184, 3) := by decide +kernel
theorem dX9_fraction_48 : decode cX9_fraction 48 = .ok (.invokevirtual 187, 3) := by decide +kernel
theorem dX9_fraction_51 : decode cX9_fraction 51 = .ok (.istore 6, 2) := by decide +kernel
theorem dX9_fraction_53 : decode cX9_fraction 53 = .ok (.aload_n 0, 1) := by decide +kernel
theorem dX9_fraction_54 : decode cX9_fraction 54 = .ok (.aload_n 3, 1) := by decide +kernel
theorem dX9_fraction_55 : decode cX9_fraction 55 = .ok (.iload 4, 2) := by decide +kernel
theorem dX9_fraction_57 : decode cX9_fraction 57 = .ok (.iload 5, 2) := by decide +kernel
theorem dX9_fraction_59 : decode cX9_fraction 59 = .ok (.aload_n 0, 1) := by decide +kernel
theorem dX9_fraction_60 : decode cX9_fraction 60 = .ok (.getfield 191, 3) := by decide +kernel
theorem dX9_fraction_63 : decode cX9_fraction 63 = .ok (.invokevirtual 187, 3) := by decide +kernel
theorem dX9_fraction_66 : decode cX9_fraction 66 = .ok (.istore 7, 2) := by decide +kernel
theorem dX9_fraction_68 : decode cX9_fraction 68 = .ok (.iload 7, 2) := by decide +kernel
theorem dX9_fraction_70 : decode cX9_fraction 70 = .ok (.iconst 1, 1) := by decide +kernel
theorem dX9_fraction_71 : decode cX9_fraction 71 = .ok (.if_icmp .ne 24, 3) := by decide +kernel
theorem dX9_fraction_74 : decode cX9_fraction 74 = .ok (.aload_n 0, 1) := by decide +kernel
theorem dX9_fraction_75 : decode cX9_fraction 75 = .ok (.getfield 191, 3) := by decide +kernel
theorem dX9_fraction_78 : decode cX9_fraction 78 = .ok (.iconst 0, 1) := by decide +kernel
theorem dX9_fraction_79 : decode cX9_fraction 79 = .ok (.iaload, 1) := by decide +kernel
theorem dX9_fraction_80 : decode cX9_fraction 80 = .ok (.iconst 1, 1) := by decide +kernel
theorem dX9_fraction_81 : decode cX9_fraction 81 = .ok (.if_icmp .ne 14, 3) := by decide +kernel
theorem dX9_fraction_84 : decode cX9_fraction 84 = .ok (.aload_n 0, 1) := by decide +kernel
theorem dX9_fraction_85 : decode cX9_fraction 85 = .ok (.aload_n 0, 1) := by decide +kernel
theorem dX9_fraction_86 : decode cX9_fraction 86 = .ok (.getfield 184, 3) := by decide +kernel
theorem dX9_fraction_89 : decode cX9_fraction 89 = .ok (.iload 6, 2) := by decide +kernel
theorem dX9_fraction_91 : decode cX9_fraction 91 = .ok (.invokevirtual 177, 3) := by decide +kernel
theorem dX9_fraction_94 : decode cX9_fraction 94 = .ok (.areturn, 1) := by decide +kernel
theorem dX9_fraction_95 : decode cX9_fraction 95 = .ok (.aload_n 0, 1) := by decide +kernel
theorem dX9_fraction_96 : decode cX9_fraction 96 = .ok (.aload_n 0, 1) := by decide +kernel
theorem dX9_fraction_97 : decode cX9_fraction 97 = .ok (.getfield 184, 3) := by decide +kernel
theorem dX9_fraction_100 : decode cX9_fraction 100 = .ok (.iload 6, 2) := by decide +kernel
theorem dX9_fraction_102 : decode cX9_fraction 102 = .ok (.invokevirtual 170, 3) := by decide +kernel
theorem dX9_fraction_105 : decode cX9_fraction 105 = .ok (.sipush 4096, 3) := by decide +kernel
theorem dX9_fraction_108 : decode cX9_fraction 108 = .ok (.if_icmp .gt 19, 3) := by decide +kernel
theorem dX9_fraction_111 : decode cX9_fraction 111 = .ok (.aload_n 0, 1) := by decide +kernel
theorem dX9_fraction_112 : decode cX9_fraction 112 = .ok (.aload_n 0, 1) := by decide +kernel
theorem dX9_fraction_113 : decode cX9_fraction 113 = .ok (.getfield 191, 3) := by decide +kernel
theorem dX9_fraction_116 : decode cX9_fraction 116 = .ok (.iload 7, 2) := by decide +kernel
theorem dX9_fraction_118 : decode cX9_fraction 118 = .ok (.invokevirtual 170, 3) := by decide +kernel
theorem dX9_fraction_121 : decode cX9_fraction 121 = .ok (.sipush 4096, 3) := by decide +kernel
theorem dX9_fraction_124 : decode cX9_fraction 124 = .ok (.if_icmp .le 5, 3) := by decide +kernel
theorem dX9_fraction_127 : decode cX9_fraction 127 = .ok (.aconst_null, 1) := by decide +kernel
theorem dX9_fraction_128 : decode cX9_fraction 128 = .ok (.areturn, 1) := by decide +kernel
theorem dX9_fraction_129 : decode cX9_fraction 129 = .ok (.new 157, 3) := by decide +kernel
theorem dX9_fraction_132 : decode cX9_fraction 132 = .ok (.dup, 1) := by decide +kernel
theorem dX9_fraction_133 : decode cX9_fraction 133 = .ok (.iconst 1, 1) := by decide +kernel
theorem dX9_fraction_134 : decode cX9_fraction 134 = .ok (.aload_n 0, 1) := by decide +kernel
theorem dX9_fraction_135 : decode cX9_fraction 135 = .ok (.getfield 184, 3) := by decide +kernel
theorem dX9_fraction_138 : decode cX9_fraction 138 = .ok (.iload 6, 2) := by decide +kernel
theorem dX9_fraction_140 : decode cX9_fraction 140 = .ok (.invokestatic 173, 3) := by decide +kernel
theorem dX9_fraction_143 : decode cX9_fraction 143 = .ok (.iconst 1, 1) := by decide +kernel
theorem dX9_fraction_144 : decode cX9_fraction 144 = .ok (.aload_n 0, 1) := by decide +kernel
theorem dX9_fraction_145 : decode cX9_fraction 145 = .ok (.getfield 191, 3) := by decide +kernel
theorem dX9_fraction_148 : decode cX9_fraction 148 = .ok (.iload 7, 2) := by decide +kernel
theorem dX9_fraction_150 : decode cX9_fraction 150 = .ok (.invokestatic 173, 3) := by decide +kernel
theorem dX9_fraction_153 : decode cX9_fraction 153 = .ok (.invokespecial 194, 3) := by decide +kernel
theorem dX9_fraction_156 : decode cX9_fraction 156 = .ok (.areturn, 1) := by decide +kernel
theorem dX9_isFinite_0 : decode cX9_isFinite 0 = .ok (.dload_n 0, 1) := by decide +kernel
theorem dX9_isFinite_1 : decode cX9_isFinite 1 = .ok (.ldc2_w 197, 3) := by decide +kernel
theorem dX9_isFinite_4 : decode cX9_isFinite 4 = .ok (.dcmp .g, 1) := by decide +kernel
theorem dX9_isFinite_5 : decode cX9_isFinite 5 = .ok (.ifCond .gt 15, 3) := by decide +kernel
theorem dX9_isFinite_8 : decode cX9_isFinite 8 = .ok (.dload_n 0, 1) := by decide +kernel
theorem dX9_isFinite_9 : decode cX9_isFinite 9 = .ok (.ldc2_w 199, 3) := by decide +kernel
theorem dX9_isFinite_12 : decode cX9_isFinite 12 = .ok (.dcmp .l, 1) := by decide +kernel
theorem dX9_isFinite_13 : decode cX9_isFinite 13 = .ok (.ifCond .lt 7, 3) := by decide +kernel
theorem dX9_isFinite_16 : decode cX9_isFinite 16 = .ok (.iconst 1, 1) := by decide +kernel
theorem dX9_isFinite_17 : decode cX9_isFinite 17 = .ok (.goto 4, 3) := by decide +kernel
theorem dX9_isFinite_20 : decode cX9_isFinite 20 = .ok (.iconst 0, 1) := by decide +kernel
theorem dX9_isFinite_21 : decode cX9_isFinite 21 = .ok (.ireturn, 1) := by decide +kernel
theorem dX9_real_0 : decode cX9_real 0 = .ok (.aload_n 1, 1) := by decide +kernel
theorem dX9_real_1 : decode cX9_real 1 = .ok (.instanceof 201, 3) := by decide +kernel
theorem dX9_real_4 : decode cX9_real 4 = .ok (.ifCond .eq 13, 3) := by decide +kernel
theorem dX9_real_7 : decode cX9_real 7 = .ok (.aload_n 1, 1) := by decide +kernel
theorem dX9_real_8 : decode cX9_real 8 = .ok (.checkcast 201, 3) := by decide +kernel
theorem dX9_real_11 : decode cX9_real 11 = .ok (.getfield 203, 3) := by decide +kernel
theorem dX9_real_14 : decode cX9_real 14 = .ok (.goto 15, 3) := by decide +kernel
theorem dX9_real_17 : decode cX9_real 17 = .ok (.aload_n 0, 1) := by decide +kernel
theorem dX9_real_18 : decode cX9_real 18 = .ok (.aload_n 1, 1) := by decide +kernel
theorem dX9_real_19 : decode cX9_real 19 = .ok (.invokestatic 207, 3) := by decide +kernel
theorem dX9_real_22 : decode cX9_real 22 = .ok (.aload_n 1, 1) := by decide +kernel
theorem dX9_real_23 : decode cX9_real 23 = .ok (.invokestatic 210, 3) := by decide +kernel
theorem dX9_real_26 : decode cX9_real 26 = .ok (.invokevirtual 212, 3) := by decide +kernel
theorem dX9_real_29 : decode cX9_real 29 = .ok (.dreturn, 1) := by decide +kernel
theorem dX9_ratio_0 : decode cX9_ratio 0 = .ok (.aload_n 1, 1) := by decide +kernel
theorem dX9_ratio_1 : decode cX9_ratio 1 = .ok (.invokevirtual 100, 3) := by decide +kernel
theorem dX9_ratio_4 : decode cX9_ratio 4 = .ok (.ifCond .eq 5, 3) := by decide +kernel
theorem dX9_ratio_7 : decode cX9_ratio 7 = .ok (.dconst 0, 1) := by decide +kernel
theorem dX9_ratio_8 : decode cX9_ratio 8 = .ok (.dreturn, 1) := by decide +kernel
theorem dX9_ratio_9 : decode cX9_ratio 9 = .ok (.aload_n 2, 1) := by decide +kernel
theorem dX9_ratio_10 : decode cX9_ratio 10 = .ok (.invokevirtual 216, 3) := by decide +kernel
theorem dX9_ratio_13 : decode cX9_ratio 13 = .ok (.ifCond .eq 18, 3) := by decide +kernel
theorem dX9_ratio_16 : decode cX9_ratio 16 = .ok (.aload_n 1, 1) := by decide +kernel
theorem dX9_ratio_17 : decode cX9_ratio 17 = .ok (.getfield 104, 3) := by decide +kernel
theorem dX9_ratio_20 : decode cX9_ratio 20 = .ok (.arraylength, 1) := by decide +kernel
theorem dX9_ratio_21 : decode cX9_ratio 21 = .ok (.iconst 4, 1) := by decide +kernel
theorem dX9_ratio_22 : decode cX9_ratio 22 = .ok (.if_icmp .ge 9, 3) := by decide +kernel
theorem dX9_ratio_25 : decode cX9_ratio 25 = .ok (.aload_n 1, 1) := by decide +kernel
theorem dX9_ratio_26 : decode cX9_ratio 26 = .ok (.invokevirtual 219, 3) := by decide +kernel
theorem dX9_ratio_29 : decode cX9_ratio 29 = .ok (.l2d, 1) := by decide +kernel
theorem dX9_ratio_30 : decode cX9_ratio 30 = .ok (.dreturn, 1) := by decide +kernel
theorem dX9_ratio_31 : decode cX9_ratio 31 = .ok (.aload_n 0, 1) := by decide +kernel
theorem dX9_ratio_32 : decode cX9_ratio 32 = .ok (.aload_n 1, 1) := by decide +kernel
theorem dX9_ratio_33 : decode cX9_ratio 33 = .ok (.getfield 104, 3) := by decide +kernel
theorem dX9_ratio_36 : decode cX9_ratio 36 = .ok (.aload_n 1, 1) := by decide +kernel
theorem dX9_ratio_37 : decode cX9_ratio 37 = .ok (.getfield 104, 3) := by decide +kernel
theorem dX9_ratio_40 : decode cX9_ratio 40 = .ok (.arraylength, 1) := by decide +kernel
theorem dX9_ratio_41 : decode cX9_ratio 41 = .ok (.aload_n 2, 1) := by decide +kernel
theorem dX9_ratio_42 : decode cX9_ratio 42 = .ok (.getfield 104, 3) := by decide +kernel
theorem dX9_ratio_45 : decode cX9_ratio 45 = .ok (.aload_n 2, 1) := by decide +kernel
theorem dX9_ratio_46 : decode cX9_ratio 46 = .ok (.getfield 104, 3) := by decide +kernel
theorem dX9_ratio_49 : decode cX9_ratio 49 = .ok (.arraylength, 1) := by decide +kernel
theorem dX9_ratio_50 : decode cX9_ratio 50 = .ok (.invokevirtual 223, 3) := by decide +kernel
theorem dX9_ratio_53 : decode cX9_ratio 53 = .ok (.dstore_n 3, 1) := by decide +kernel
theorem dX9_ratio_54 : decode cX9_ratio 54 = .ok (.aload_n 1, 1) := by decide +kernel
theorem dX9_ratio_55 : decode cX9_ratio 55 = .ok (.getfield 109, 3) := by decide +kernel
theorem dX9_ratio_58 : decode cX9_ratio 58 = .ok (.ifCond .ge 8, 3) := by decide +kernel
theorem dX9_ratio_61 : decode cX9_ratio 61 = .ok (.dload_n 3, 1) := by decide +kernel
theorem dX9_ratio_62 : decode cX9_ratio 62 = .ok (.dneg, 1) := by decide +kernel
theorem dX9_ratio_63 : decode cX9_ratio 63 = .ok (.goto 4, 3) := by decide +kernel
theorem dX9_ratio_66 : decode cX9_ratio 66 = .ok (.dload_n 3, 1) := by decide +kernel
theorem dX9_ratio_67 : decode cX9_ratio 67 = .ok (.dreturn, 1) := by decide +kernel
theorem dX9_exactOf_0 : decode cX9_exactOf 0 = .ok (.dload_n 1, 1) := by decide +kernel
theorem dX9_exactOf_1 : decode cX9_exactOf 1 = .ok (.dconst 0, 1) := by decide +kernel
theorem dX9_exactOf_2 : decode cX9_exactOf 2 = .ok (.dcmp .l, 1) := by decide +kernel
theorem dX9_exactOf_3 : decode cX9_exactOf 3 = .ok (.ifCond .ne 7, 3) := by decide +kernel
theorem dX9_exactOf_6 : decode cX9_exactOf 6 = .ok (.invokestatic 7, 3) := by decide +kernel
theorem dX9_exactOf_9 : decode cX9_exactOf 9 = .ok (.areturn, 1) := by decide +kernel
theorem dX9_exactOf_10 : decode cX9_exactOf 10 = .ok (.dload_n 1, 1) := by decide +kernel
theorem dX9_exactOf_11 : decode cX9_exactOf 11 = .ok (.dconst 0, 1) := by decide +kernel
theorem dX9_exactOf_12 : decode cX9_exactOf 12 = .ok (.dcmp .g, 1) := by decide +kernel
theorem dX9_exactOf_13 : decode cX9_exactOf 13 = .ok (.ifCond .ge 11, 3) := by decide +kernel
theorem dX9_exactOf_16 : decode cX9_exactOf 16 = .ok (.dload_n 1, 1) := by decide +kernel
theorem dX9_exactOf_17 : decode cX9_exactOf 17 = .ok (.invokestatic 227, 3) := by decide +kernel
theorem dX9_exactOf_20 : decode cX9_exactOf 20 = .ok (.lneg, 1) := by decide +kernel
theorem dX9_exactOf_21 : decode cX9_exactOf 21 = .ok (.goto 7, 3) := by decide +kernel
theorem dX9_exactOf_24 : decode cX9_exactOf 24 = .ok (.dload_n 1, 1) := by decide +kernel
theorem dX9_exactOf_25 : decode cX9_exactOf 25 = .ok (.invokestatic 227, 3) := by decide +kernel
theorem dX9_exactOf_28 : decode cX9_exactOf 28 = .ok (.invokestatic 163, 3) := by decide +kernel
theorem dX9_exactOf_31 : decode cX9_exactOf 31 = .ok (.astore_n 3, 1) := by decide +kernel
theorem dX9_exactOf_32 : decode cX9_exactOf 32 = .ok (.dload_n 1, 1) := by decide +kernel
theorem dX9_exactOf_33 : decode cX9_exactOf 33 = .ok (.invokestatic 231, 3) := by decide +kernel
theorem dX9_exactOf_36 : decode cX9_exactOf 36 = .ok (.istore 4, 2) := by decide +kernel
theorem dX9_exactOf_38 : decode cX9_exactOf 38 = .ok (.iload 4, 2) := by decide +kernel
theorem dX9_exactOf_40 : decode cX9_exactOf 40 = .ok (.ifCond .ne 5, 3) := by decide +kernel
theorem dX9_exactOf_43 : decode cX9_exactOf 43 = .ok (.aload_n 3, 1) := by decide +kernel
theorem dX9_exactOf_44 : decode cX9_exactOf 44 = .ok (.areturn, 1) := by decide +kernel
theorem dX9_exactOf_45 : decode cX9_exactOf 45 = .ok (.iload 4, 2) := by decide +kernel
theorem dX9_exactOf_47 : decode cX9_exactOf 47 = .ok (.ifCond .le 10, 3) := by decide +kernel
theorem dX9_exactOf_50 : decode cX9_exactOf 50 = .ok (.aload_n 3, 1) := by decide +kernel
theorem dX9_exactOf_51 : decode cX9_exactOf 51 = .ok (.getfield 104, 3) := by decide +kernel
theorem dX9_exactOf_54 : decode cX9_exactOf 54 = .ok (.goto 7, 3) := by decide +kernel
theorem dX9_exactOf_57 : decode cX9_exactOf 57 = .ok (.aload_n 0, 1) := by decide +kernel
theorem dX9_exactOf_58 : decode cX9_exactOf 58 = .ok (.getfield 125, 3) := by decide +kernel
theorem dX9_exactOf_61 : decode cX9_exactOf 61 = .ok (.aload_n 0, 1) := by decide +kernel
theorem dX9_exactOf_62 : decode cX9_exactOf 62 = .ok (.getfield 235, 3) := by decide +kernel
theorem dX9_exactOf_65 : decode cX9_exactOf 65 = .ok (.iload 4, 2) := by decide +kernel
theorem dX9_exactOf_67 : decode cX9_exactOf 67 = .ok (.ifCond .le 11, 3) := by decide +kernel
theorem dX9_exactOf_70 : decode cX9_exactOf 70 = .ok (.aload_n 3, 1) := by decide +kernel
theorem dX9_exactOf_71 : decode cX9_exactOf 71 = .ok (.getfield 104, 3) := by decide +kernel
theorem dX9_exactOf_74 : decode cX9_exactOf 74 = .ok (.arraylength, 1) := by decide +kernel
theorem dX9_exactOf_75 : decode cX9_exactOf 75 = .ok (.goto 4, 3) := by decide +kernel
theorem dX9_exactOf_78 : decode cX9_exactOf 78 = .ok (.iconst 1, 1) := by decide +kernel
theorem dX9_exactOf_79 : decode cX9_exactOf 79 = .ok (.invokestatic 61, 3) := by decide +kernel
theorem dX9_exactOf_82 : decode cX9_exactOf 82 = .ok (.aload_n 0, 1) := by decide +kernel
theorem dX9_exactOf_83 : decode cX9_exactOf 83 = .ok (.getfield 235, 3) := by decide +kernel
theorem dX9_exactOf_86 : decode cX9_exactOf 86 = .ok (.iload 4, 2) := by decide +kernel
theorem dX9_exactOf_88 : decode cX9_exactOf 88 = .ok (.ifCond .le 11, 3) := by decide +kernel
theorem dX9_exactOf_91 : decode cX9_exactOf 91 = .ok (.aload_n 3, 1) := by decide +kernel
theorem dX9_exactOf_92 : decode cX9_exactOf 92 = .ok (.getfield 104, 3) := by decide +kernel
theorem dX9_exactOf_95 : decode cX9_exactOf 95 = .ok (.arraylength, 1) := by decide +kernel
theorem dX9_exactOf_96 : decode cX9_exactOf 96 = .ok (.goto 4, 3) := by decide +kernel
theorem dX9_exactOf_99 : decode cX9_exactOf 99 = .ok (.iconst 1, 1) := by decide +kernel
theorem dX9_exactOf_100 : decode cX9_exactOf 100 = .ok (.iload 4, 2) := by decide +kernel
theorem dX9_exactOf_102 : decode cX9_exactOf 102 = .ok (.ifCond .le 8, 3) := by decide +kernel
theorem dX9_exactOf_105 : decode cX9_exactOf 105 = .ok (.iload 4, 2) := by decide +kernel
theorem dX9_exactOf_107 : decode cX9_exactOf 107 = .ok (.goto 6, 3) := by decide +kernel
theorem dX9_exactOf_110 : decode cX9_exactOf 110 = .ok (.iload 4, 2) := by decide +kernel
theorem dX9_exactOf_112 : decode cX9_exactOf 112 = .ok (.ineg, 1) := by decide +kernel
theorem dX9_exactOf_113 : decode cX9_exactOf 113 = .ok (.invokestatic 131, 3) := by decide +kernel
theorem dX9_exactOf_116 : decode cX9_exactOf 116 = .ok (.istore 5, 2) := by decide +kernel
theorem dX9_exactOf_118 : decode cX9_exactOf 118 = .ok (.iload 4, 2) := by decide +kernel
theorem dX9_exactOf_120 : decode cX9_exactOf 120 = .ok (.ifCond .le 10, 3) := by decide +kernel
theorem dX9_exactOf_123 : decode cX9_exactOf 123 = .ok (.aload_n 3, 1) := by decide +kernel
theorem dX9_exactOf_124 : decode cX9_exactOf 124 = .ok (.getfield 109, 3) := by decide +kernel
theorem dX9_exactOf_127 : decode cX9_exactOf 127 = .ok (.goto 4, 3) := by decide +kernel
theorem dX9_exactOf_130 : decode cX9_exactOf 130 = .ok (.iconst 1, 1) := by decide +kernel
theorem dX9_exactOf_131 : decode cX9_exactOf 131 = .ok (.aload_n 0, 1) := by decide +kernel
theorem dX9_exactOf_132 : decode cX9_exactOf 132 = .ok (.getfield 235, 3) := by decide +kernel
theorem dX9_exactOf_135 : decode cX9_exactOf 135 = .ok (.iload 5, 2) := by decide +kernel
theorem dX9_exactOf_137 : decode cX9_exactOf 137 = .ok (.invokestatic 173, 3) := by decide +kernel
theorem dX9_exactOf_140 : decode cX9_exactOf 140 = .ok (.astore 6, 2) := by decide +kernel
theorem dX9_exactOf_142 : decode cX9_exactOf 142 = .ok (.iload 4, 2) := by decide +kernel
theorem dX9_exactOf_144 : decode cX9_exactOf 144 = .ok (.ifCond .le 8, 3) := by decide +kernel
theorem dX9_exactOf_147 : decode cX9_exactOf 147 = .ok (.aload 6, 2) := by decide +kernel
theorem dX9_exactOf_149 : decode cX9_exactOf 149 = .ok (.goto 13, 3) := by decide +kernel
theorem dX9_exactOf_152 : decode cX9_exactOf 152 = .ok (.new 157, 3) := by decide +kernel
theorem dX9_exactOf_155 : decode cX9_exactOf 155 = .ok (.dup, 1) := by decide +kernel
theorem dX9_exactOf_156 : decode cX9_exactOf 156 = .ok (.aload_n 3, 1) := by decide +kernel
theorem dX9_exactOf_157 : decode cX9_exactOf 157 = .ok (.aload 6, 2) := by decide +kernel
theorem dX9_exactOf_159 : decode cX9_exactOf 159 = .ok (.invokespecial 194, 3) := by decide +kernel
theorem dX9_exactOf_162 : decode cX9_exactOf 162 = .ok (.areturn, 1) := by decide +kernel
theorem dX9_negated_0 : decode cX9_negated 0 = .ok (.aload_n 0, 1) := by decide +kernel
theorem dX9_negated_1 : decode cX9_negated 1 = .ok (.instanceof 201, 3) := by decide +kernel
theorem dX9_negated_4 : decode cX9_negated 4 = .ok (.ifCond .eq 17, 3) := by decide +kernel
theorem dX9_negated_7 : decode cX9_negated 7 = .ok (.aload_n 0, 1) := by decide +kernel
theorem dX9_negated_8 : decode cX9_negated 8 = .ok (.checkcast 201, 3) := by decide +kernel
theorem dX9_negated_11 : decode cX9_negated 11 = .ok (.getfield 203, 3) := by decide +kernel
theorem dX9_negated_14 : decode cX9_negated 14 = .ok (.dneg, 1) := by decide +kernel
theorem dX9_negated_15 : decode cX9_negated 15 = .ok (.invokestatic 238, 3) := by decide +kernel
theorem dX9_negated_18 : decode cX9_negated 18 = .ok (.goto 38, 3) := by decide +kernel
theorem dX9_negated_21 : decode cX9_negated 21 = .ok (.aload_n 0, 1) := by decide +kernel
theorem dX9_negated_22 : decode cX9_negated 22 = .ok (.instanceof 1, 3) := by decide +kernel
theorem dX9_negated_25 : decode cX9_negated 25 = .ok (.ifCond .eq 13, 3) := by decide +kernel
theorem dX9_negated_28 : decode cX9_negated 28 = .ok (.aload_n 0, 1) := by decide +kernel
theorem dX9_negated_29 : decode cX9_negated 29 = .ok (.checkcast 1, 3) := by decide +kernel
theorem dX9_negated_32 : decode cX9_negated 32 = .ok (.invokevirtual 242, 3) := by decide +kernel
theorem dX9_negated_35 : decode cX9_negated 35 = .ok (.goto 21, 3) := by decide +kernel
theorem dX9_negated_38 : decode cX9_negated 38 = .ok (.new 157, 3) := by decide +kernel
theorem dX9_negated_41 : decode cX9_negated 41 = .ok (.dup, 1) := by decide +kernel
theorem dX9_negated_42 : decode cX9_negated 42 = .ok (.aload_n 0, 1) := by decide +kernel
theorem dX9_negated_43 : decode cX9_negated 43 = .ok (.invokestatic 207, 3) := by decide +kernel
theorem dX9_negated_46 : decode cX9_negated 46 = .ok (.invokevirtual 242, 3) := by decide +kernel
theorem dX9_negated_49 : decode cX9_negated 49 = .ok (.aload_n 0, 1) := by decide +kernel
theorem dX9_negated_50 : decode cX9_negated 50 = .ok (.invokestatic 210, 3) := by decide +kernel
theorem dX9_negated_53 : decode cX9_negated 53 = .ok (.invokespecial 194, 3) := by decide +kernel
theorem dX9_negated_56 : decode cX9_negated 56 = .ok (.areturn, 1) := by decide +kernel
theorem dX9_isNegativeZero_0 : decode cX9_isNegativeZero 0 = .ok (.dload_n 0, 1) := by decide +kernel
theorem dX9_isNegativeZero_1 : decode cX9_isNegativeZero 1 = .ok (.dconst 0, 1) := by decide +kernel
theorem dX9_isNegativeZero_2 : decode cX9_isNegativeZero 2 = .ok (.dcmp .l, 1) := by decide +kernel
theorem dX9_isNegativeZero_3 : decode cX9_isNegativeZero 3 = .ok (.ifCond .ne 15, 3) := by decide +kernel
theorem dX9_isNegativeZero_6 : decode cX9_isNegativeZero 6 = .ok (.dconst 1, 1) := by decide +kernel
theorem dX9_isNegativeZero_7 : decode cX9_isNegativeZero 7 = .ok (.dload_n 0, 1) := by decide +kernel
theorem dX9_isNegativeZero_8 : decode cX9_isNegativeZero 8 = .ok (.ddiv, 1) := by decide +kernel
theorem dX9_isNegativeZero_9 : decode cX9_isNegativeZero 9 = .ok (.dconst 0, 1) := by decide +kernel
theorem dX9_isNegativeZero_10 : decode cX9_isNegativeZero 10 = .ok (.dcmp .g, 1) := by decide +kernel
theorem dX9_isNegativeZero_11 : decode cX9_isNegativeZero 11 = .ok (.ifCond .ge 7, 3) := by decide +kernel
theorem dX9_isNegativeZero_14 : decode cX9_isNegativeZero 14 = .ok (.iconst 1, 1) := by decide +kernel
theorem dX9_isNegativeZero_15 : decode cX9_isNegativeZero 15 = .ok (.goto 4, 3) := by decide +kernel
theorem dX9_isNegativeZero_18 : decode cX9_isNegativeZero 18 = .ok (.iconst 0, 1) := by decide +kernel
theorem dX9_isNegativeZero_19 : decode cX9_isNegativeZero 19 = .ok (.ireturn, 1) := by decide +kernel
