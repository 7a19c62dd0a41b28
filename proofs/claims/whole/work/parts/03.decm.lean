theorem dX9_init_0 : decode cX9_init 0 = .ok (.aload_n 0, 1) := by decide +kernel
theorem dX9_init_1 : decode cX9_init 1 = .ok (.invokespecial 1, 3) := by decide +kernel
theorem dX9_init_4 : decode cX9_init 4 = .ok (.aload_n 0, 1) := by decide +kernel
theorem dX9_init_5 : decode cX9_init 5 = .ok (.bipush 7, 2) := by decide +kernel
theorem dX9_init_7 : decode cX9_init 7 = .ok (.newarray .int, 2) := by decide +kernel
theorem dX9_init_9 : decode cX9_init 9 = .ok (.putfield 7, 3) := by decide +kernel
theorem dX9_init_12 : decode cX9_init 12 = .ok (.aload_n 0, 1) := by decide +kernel
theorem dX9_init_13 : decode cX9_init 13 = .ok (.iconst 4, 1) := by decide +kernel
theorem dX9_init_14 : decode cX9_init 14 = .ok (.putfield 13, 3) := by decide +kernel
theorem dX9_init_17 : decode cX9_init 17 = .ok (.aload_n 0, 1) := by decide +kernel
theorem dX9_init_18 : decode cX9_init 18 = .ok (.bipush 12, 2) := by decide +kernel
theorem dX9_init_20 : decode cX9_init 20 = .ok (.newarray .int, 2) := by decide +kernel
theorem dX9_init_22 : decode cX9_init 22 = .ok (.putfield 17, 3) := by decide +kernel
theorem dX9_init_25 : decode cX9_init 25 = .ok (.aload_n 0, 1) := by decide +kernel
theorem dX9_init_26 : decode cX9_init 26 = .ok (.bipush 12, 2) := by decide +kernel
theorem dX9_init_28 : decode cX9_init 28 = .ok (.newarray .int, 2) := by decide +kernel
theorem dX9_init_30 : decode cX9_init 30 = .ok (.putfield 20, 3) := by decide +kernel
theorem dX9_init_33 : decode cX9_init 33 = .ok (.aload_n 0, 1) := by decide +kernel
theorem dX9_init_34 : decode cX9_init 34 = .ok (.bipush 12, 2) := by decide +kernel
theorem dX9_init_36 : decode cX9_init 36 = .ok (.newarray .int, 2) := by decide +kernel
theorem dX9_init_38 : decode cX9_init 38 = .ok (.putfield 23, 3) := by decide +kernel
theorem dX9_init_41 : decode cX9_init 41 = .ok (.aload_n 0, 1) := by decide +kernel
theorem dX9_init_42 : decode cX9_init 42 = .ok (.bipush 10, 2) := by decide +kernel
theorem dX9_init_44 : decode cX9_init 44 = .ok (.newarray .int, 2) := by decide +kernel
theorem dX9_init_46 : decode cX9_init 46 = .ok (.putfield 26, 3) := by decide +kernel
theorem dX9_init_49 : decode cX9_init 49 = .ok (.aload_n 0, 1) := by decide +kernel
theorem dX9_init_50 : decode cX9_init 50 = .ok (.bipush 60, 2) := by decide +kernel
theorem dX9_init_52 : decode cX9_init 52 = .ok (.newarray .int, 2) := by decide +kernel
theorem dX9_init_54 : decode cX9_init 54 = .ok (.putfield 29, 3) := by decide +kernel
theorem dX9_init_57 : decode cX9_init 57 = .ok (.aload_n 0, 1) := by decide +kernel
theorem dX9_init_58 : decode cX9_init 58 = .ok (.iconst 1, 1) := by decide +kernel
theorem dX9_init_59 : decode cX9_init 59 = .ok (.putfield 32, 3) := by decide +kernel
theorem dX9_init_62 : decode cX9_init 62 = .ok (.aload_n 0, 1) := by decide +kernel
theorem dX9_init_63 : decode cX9_init 63 = .ok (.bipush 12, 2) := by decide +kernel
theorem dX9_init_65 : decode cX9_init 65 = .ok (.newarray .int, 2) := by decide +kernel
theorem dX9_init_67 : decode cX9_init 67 = .ok (.putfield 35, 3) := by decide +kernel
theorem dX9_init_70 : decode cX9_init 70 = .ok (.aload_n 0, 1) := by decide +kernel
theorem dX9_init_71 : decode cX9_init 71 = .ok (.ldc 38, 2) := by decide +kernel
theorem dX9_init_73 : decode cX9_init 73 = .ok (.newarray .int, 2) := by decide +kernel
theorem dX9_init_75 : decode cX9_init 75 = .ok (.putfield 39, 3) := by decide +kernel
theorem dX9_init_78 : decode cX9_init 78 = .ok (.aload_n 0, 1) := by decide +kernel
theorem dX9_init_79 : decode cX9_init 79 = .ok (.ldc 38, 2) := by decide +kernel
theorem dX9_init_81 : decode cX9_init 81 = .ok (.newarray .int, 2) := by decide +kernel
theorem dX9_init_83 : decode cX9_init 83 = .ok (.putfield 42, 3) := by decide +kernel
theorem dX9_init_86 : decode cX9_init 86 = .ok (.aload_n 0, 1) := by decide +kernel
theorem dX9_init_87 : decode cX9_init 87 = .ok (.iconst (-1), 1) := by decide +kernel
theorem dX9_init_88 : decode cX9_init 88 = .ok (.putfield 45, 3) := by decide +kernel
theorem dX9_init_91 : decode cX9_init 91 = .ok (.aload_n 0, 1) := by decide +kernel
theorem dX9_init_92 : decode cX9_init 92 = .ok (.ldc 38, 2) := by decide +kernel
theorem dX9_init_94 : decode cX9_init 94 = .ok (.newarray .boolean, 2) := by decide +kernel
theorem dX9_init_96 : decode cX9_init 96 = .ok (.putfield 48, 3) := by decide +kernel
theorem dX9_init_99 : decode cX9_init 99 = .ok (.aload_n 0, 1) := by decide +kernel
theorem dX9_init_100 : decode cX9_init 100 = .ok (.sipush 301, 3) := by decide +kernel
theorem dX9_init_103 : decode cX9_init 103 = .ok (.newarray .int, 2) := by decide +kernel
theorem dX9_init_105 : decode cX9_init 105 = .ok (.putfield 52, 3) := by decide +kernel
theorem dX9_init_108 : decode cX9_init 108 = .ok (.aload_n 0, 1) := by decide +kernel
theorem dX9_init_109 : decode cX9_init 109 = .ok (.iconst 4, 1) := by decide +kernel
theorem dX9_init_110 : decode cX9_init 110 = .ok (.newarray .int, 2) := by decide +kernel
theorem dX9_init_112 : decode cX9_init 112 = .ok (.putfield 55, 3) := by decide +kernel
theorem dX9_init_115 : decode cX9_init 115 = .ok (.aload_n 0, 1) := by decide +kernel
theorem dX9_init_116 : decode cX9_init 116 = .ok (.iconst 4, 1) := by decide +kernel
theorem dX9_init_117 : decode cX9_init 117 = .ok (.newarray .int, 2) := by decide +kernel
theorem dX9_init_119 : decode cX9_init 119 = .ok (.putfield 58, 3) := by decide +kernel
theorem dX9_init_122 : decode cX9_init 122 = .ok (.aload_n 0, 1) := by decide +kernel
theorem dX9_init_123 : decode cX9_init 123 = .ok (.bipush 96, 2) := by decide +kernel
theorem dX9_init_125 : decode cX9_init 125 = .ok (.newarray .int, 2) := by decide +kernel
theorem dX9_init_127 : decode cX9_init 127 = .ok (.putfield 61, 3) := by decide +kernel
theorem dX9_init_130 : decode cX9_init 130 = .ok (.aload_n 0, 1) := by decide +kernel
theorem dX9_init_131 : decode cX9_init 131 = .ok (.bipush 39, 2) := by decide +kernel
theorem dX9_init_133 : decode cX9_init 133 = .ok (.newarray .int, 2) := by decide +kernel
theorem dX9_init_135 : decode cX9_init 135 = .ok (.putfield 64, 3) := by decide +kernel
theorem dX9_init_138 : decode cX9_init 138 = .ok (.return_, 1) := by decide +kernel
theorem dX9_no_0 : decode cX9_no 0 = .ok (.aload_n 0, 1) := by decide +kernel
theorem dX9_no_1 : decode cX9_no 1 = .ok (.getfield 7, 3) := by decide +kernel
theorem dX9_no_4 : decode cX9_no 4 = .ok (.iload_n 1, 1) := by decide +kernel
theorem dX9_no_5 : decode cX9_no 5 = .ok (.dup2, 1) := by decide +kernel
theorem dX9_no_6 : decode cX9_no 6 = .ok (.iaload, 1) := by decide +kernel
theorem dX9_no_7 : decode cX9_no 7 = .ok (.iconst 1, 1) := by decide +kernel
theorem dX9_no_8 : decode cX9_no 8 = .ok (.iadd, 1) := by decide +kernel
theorem dX9_no_9 : decode cX9_no 9 = .ok (.iastore, 1) := by decide +kernel
theorem dX9_no_10 : decode cX9_no 10 = .ok (.ldc 67, 2) := by decide +kernel
theorem dX9_no_12 : decode cX9_no 12 = .ok (.iload_n 1, 1) := by decide +kernel
theorem dX9_no_13 : decode cX9_no 13 = .ok (.isub, 1) := by decide +kernel
theorem dX9_no_14 : decode cX9_no 14 = .ok (.ireturn, 1) := by decide +kernel
theorem dX9_in_0 : decode cX9_in 0 = .ok (.iload_n 0, 1) := by decide +kernel
theorem dX9_in_1 : decode cX9_in 1 = .ok (.iload_n 1, 1) := by decide +kernel
theorem dX9_in_2 : decode cX9_in 2 = .ok (.if_icmp .lt 12, 3) := by decide +kernel
theorem dX9_in_5 : decode cX9_in 5 = .ok (.iload_n 0, 1) := by decide +kernel
theorem dX9_in_6 : decode cX9_in 6 = .ok (.iload_n 2, 1) := by decide +kernel
theorem dX9_in_7 : decode cX9_in 7 = .ok (.if_icmp .gt 7, 3) := by decide +kernel
theorem dX9_in_10 : decode cX9_in 10 = .ok (.iconst 1, 1) := by decide +kernel
theorem dX9_in_11 : decode cX9_in 11 = .ok (.goto 4, 3) := by decide +kernel
theorem dX9_in_14 : decode cX9_in 14 = .ok (.iconst 0, 1) := by decide +kernel
theorem dX9_in_15 : decode cX9_in 15 = .ok (.ireturn, 1) := by decide +kernel
theorem dX9_has_0 : decode cX9_has 0 = .ok (.iload_n 0, 1) := by decide +kernel
theorem dX9_has_1 : decode cX9_has 1 = .ok (.iload_n 1, 1) := by decide +kernel
theorem dX9_has_2 : decode cX9_has 2 = .ok (.ishr, 1) := by decide +kernel
theorem dX9_has_3 : decode cX9_has 3 = .ok (.iconst 1, 1) := by decide +kernel
theorem dX9_has_4 : decode cX9_has 4 = .ok (.iand, 1) := by decide +kernel
theorem dX9_has_5 : decode cX9_has 5 = .ok (.iconst 1, 1) := by decide +kernel
theorem dX9_has_6 : decode cX9_has 6 = .ok (.if_icmp .ne 7, 3) := by decide +kernel
theorem dX9_has_9 : decode cX9_has 9 = .ok (.iconst 1, 1) := by decide +kernel
theorem dX9_has_10 : decode cX9_has 10 = .ok (.goto 4, 3) := by decide +kernel
theorem dX9_has_13 : decode cX9_has 13 = .ok (.iconst 0, 1) := by decide +kernel
theorem dX9_has_14 : decode cX9_has 14 = .ok (.ireturn, 1) := by decide +kernel
theorem dX9_ones_0 : decode cX9_ones 0 = .ok (.iconst 0, 1) := by decide +kernel
theorem dX9_ones_1 : decode cX9_ones 1 = .ok (.istore_n 1, 1) := by decide +kernel
theorem dX9_ones_2 : decode cX9_ones 2 = .ok (.iload_n 0, 1) := by decide +kernel
theorem dX9_ones_3 : decode cX9_ones 3 = .ok (.istore_n 2, 1) := by decide +kernel
theorem dX9_ones_4 : decode cX9_ones 4 = .ok (.iload_n 2, 1) := by decide +kernel
theorem dX9_ones_5 : decode cX9_ones 5 = .ok (.ifCond .eq 15, 3) := by decide +kernel
theorem dX9_ones_8 : decode cX9_ones 8 = .ok (.iinc 1 1, 3) := by decide +kernel
theorem dX9_ones_11 : decode cX9_ones 11 = .ok (.iload_n 2, 1) := by decide +kernel
theorem dX9_ones_12 : decode cX9_ones 12 = .ok (.iload_n 2, 1) := by decide +kernel
theorem dX9_ones_13 : decode cX9_ones 13 = .ok (.iconst 1, 1) := by decide +kernel
theorem dX9_ones_14 : decode cX9_ones 14 = .ok (.isub, 1) := by decide +kernel
theorem dX9_ones_15 : decode cX9_ones 15 = .ok (.iand, 1) := by decide +kernel
theorem dX9_ones_16 : decode cX9_ones 16 = .ok (.istore_n 2, 1) := by decide +kernel
theorem dX9_ones_17 : decode cX9_ones 17 = .ok (.goto (-13), 3) := by decide +kernel
theorem dX9_ones_20 : decode cX9_ones 20 = .ok (.iload_n 1, 1) := by decide +kernel
theorem dX9_ones_21 : decode cX9_ones 21 = .ok (.ireturn, 1) := by decide +kernel
theorem dX9_isPoint_0 : decode cX9_isPoint 0 = .ok (.iload_n 1, 1) := by decide +kernel
theorem dX9_isPoint_1 : decode cX9_isPoint 1 = .ok (.iconst 0, 1) := by decide +kernel
theorem dX9_isPoint_2 : decode cX9_isPoint 2 = .ok (.aload_n 0, 1) := by decide +kernel
theorem dX9_isPoint_3 : decode cX9_isPoint 3 = .ok (.getfield 13, 3) := by decide +kernel
theorem dX9_isPoint_6 : decode cX9_isPoint 6 = .ok (.iconst 1, 1) := by decide +kernel
theorem dX9_isPoint_7 : decode cX9_isPoint 7 = .ok (.isub, 1) := by decide +kernel
theorem dX9_isPoint_8 : decode cX9_isPoint 8 = .ok (.invokestatic 68, 3) := by decide +kernel
theorem dX9_isPoint_11 : decode cX9_isPoint 11 = .ok (.ireturn, 1) := by decide +kernel
theorem dX9_isLine_0 : decode cX9_isLine 0 = .ok (.iload_n 1, 1) := by decide +kernel
theorem dX9_isLine_1 : decode cX9_isLine 1 = .ok (.iconst 0, 1) := by decide +kernel
theorem dX9_isLine_2 : decode cX9_isLine 2 = .ok (.aload_n 0, 1) := by decide +kernel
theorem dX9_isLine_3 : decode cX9_isLine 3 = .ok (.getfield 72, 3) := by decide +kernel
theorem dX9_isLine_6 : decode cX9_isLine 6 = .ok (.iconst 1, 1) := by decide +kernel
theorem dX9_isLine_7 : decode cX9_isLine 7 = .ok (.isub, 1) := by decide +kernel
theorem dX9_isLine_8 : decode cX9_isLine 8 = .ok (.invokestatic 68, 3) := by decide +kernel
theorem dX9_isLine_11 : decode cX9_isLine 11 = .ok (.ireturn, 1) := by decide +kernel
theorem dX9_all_0 : decode cX9_all 0 = .ok (.iconst 1, 1) := by decide +kernel
theorem dX9_all_1 : decode cX9_all 1 = .ok (.aload_n 0, 1) := by decide +kernel
theorem dX9_all_2 : decode cX9_all 2 = .ok (.getfield 13, 3) := by decide +kernel
theorem dX9_all_5 : decode cX9_all 5 = .ok (.ishl, 1) := by decide +kernel
theorem dX9_all_6 : decode cX9_all 6 = .ok (.iconst 1, 1) := by decide +kernel
theorem dX9_all_7 : decode cX9_all 7 = .ok (.isub, 1) := by decide +kernel
theorem dX9_all_8 : decode cX9_all 8 = .ok (.ireturn, 1) := by decide +kernel
theorem dX9_isNew_0 : decode cX9_isNew 0 = .ok (.aload_n 0, 1) := by decide +kernel
theorem dX9_isNew_1 : decode cX9_isNew 1 = .ok (.iconst 0, 1) := by decide +kernel
theorem dX9_isNew_2 : decode cX9_isNew 2 = .ok (.putfield 75, 3) := by decide +kernel
theorem dX9_isNew_5 : decode cX9_isNew 5 = .ok (.aload_n 0, 1) := by decide +kernel
theorem dX9_isNew_6 : decode cX9_isNew 6 = .ok (.iconst (-1), 1) := by decide +kernel
theorem dX9_isNew_7 : decode cX9_isNew 7 = .ok (.putfield 45, 3) := by decide +kernel
theorem dX9_isNew_10 : decode cX9_isNew 10 = .ok (.return_, 1) := by decide +kernel
theorem dX9_points_0 : decode cX9_points 0 = .ok (.iload_n 1, 1) := by decide +kernel
theorem dX9_points_1 : decode cX9_points 1 = .ok (.iconst 1, 1) := by decide +kernel
theorem dX9_points_2 : decode cX9_points 2 = .ok (.bipush 10, 2) := by decide +kernel
theorem dX9_points_4 : decode cX9_points 4 = .ok (.invokestatic 68, 3) := by decide +kernel
theorem dX9_points_7 : decode cX9_points 7 = .ok (.ifCond .ne 9, 3) := by decide +kernel
theorem dX9_points_10 : decode cX9_points 10 = .ok (.aload_n 0, 1) := by decide +kernel
theorem dX9_points_11 : decode cX9_points 11 = .ok (.iconst 1, 1) := by decide +kernel
theorem dX9_points_12 : decode cX9_points 12 = .ok (.invokevirtual 79, 3) := by decide +kernel
theorem dX9_points_15 : decode cX9_points 15 = .ok (.ireturn, 1) := by decide +kernel
theorem dX9_points_16 : decode cX9_points 16 = .ok (.aload_n 0, 1) := by decide +kernel
theorem dX9_points_17 : decode cX9_points 17 = .ok (.getfield 13, 3) := by decide +kernel
theorem dX9_points_20 : decode cX9_points 20 = .ok (.istore_n 2, 1) := by decide +kernel
theorem dX9_points_21 : decode cX9_points 21 = .ok (.aload_n 0, 1) := by decide +kernel
theorem dX9_points_22 : decode cX9_points 22 = .ok (.iload_n 1, 1) := by decide +kernel
theorem dX9_points_23 : decode cX9_points 23 = .ok (.putfield 13, 3) := by decide +kernel
theorem dX9_points_26 : decode cX9_points 26 = .ok (.aload_n 0, 1) := by decide +kernel
theorem dX9_points_27 : decode cX9_points 27 = .ok (.iconst 0, 1) := by decide +kernel
theorem dX9_points_28 : decode cX9_points 28 = .ok (.putfield 72, 3) := by decide +kernel
theorem dX9_points_31 : decode cX9_points 31 = .ok (.aload_n 0, 1) := by decide +kernel
theorem dX9_points_32 : decode cX9_points 32 = .ok (.invokevirtual 83, 3) := by decide +kernel
theorem dX9_points_35 : decode cX9_points 35 = .ok (.iload_n 2, 1) := by decide +kernel
theorem dX9_points_36 : decode cX9_points 36 = .ok (.ireturn, 1) := by decide +kernel
theorem dX9_comes_0 : decode cX9_comes 0 = .ok (.aload_n 0, 1) := by decide +kernel
theorem dX9_comes_1 : decode cX9_comes 1 = .ok (.getfield 17, 3) := by decide +kernel
theorem dX9_comes_4 : decode cX9_comes 4 = .ok (.aload_n 0, 1) := by decide +kernel
theorem dX9_comes_5 : decode cX9_comes 5 = .ok (.getfield 72, 3) := by decide +kernel
theorem dX9_comes_8 : decode cX9_comes 8 = .ok (.iload_n 1, 1) := by decide +kernel
theorem dX9_comes_9 : decode cX9_comes 9 = .ok (.iastore, 1) := by decide +kernel
theorem dX9_comes_10 : decode cX9_comes 10 = .ok (.aload_n 0, 1) := by decide +kernel
theorem dX9_comes_11 : decode cX9_comes 11 = .ok (.getfield 20, 3) := by decide +kernel
theorem dX9_comes_14 : decode cX9_comes 14 = .ok (.aload_n 0, 1) := by decide +kernel
theorem dX9_comes_15 : decode cX9_comes 15 = .ok (.getfield 72, 3) := by decide +kernel
theorem dX9_comes_18 : decode cX9_comes 18 = .ok (.iload_n 2, 1) := by decide +kernel
theorem dX9_comes_19 : decode cX9_comes 19 = .ok (.iastore, 1) := by decide +kernel
theorem dX9_comes_20 : decode cX9_comes 20 = .ok (.aload_n 0, 1) := by decide +kernel
theorem dX9_comes_21 : decode cX9_comes 21 = .ok (.getfield 23, 3) := by decide +kernel
theorem dX9_comes_24 : decode cX9_comes 24 = .ok (.aload_n 0, 1) := by decide +kernel
theorem dX9_comes_25 : decode cX9_comes 25 = .ok (.getfield 72, 3) := by decide +kernel
theorem dX9_comes_28 : decode cX9_comes 28 = .ok (.iload_n 3, 1) := by decide +kernel
theorem dX9_comes_29 : decode cX9_comes 29 = .ok (.iastore, 1) := by decide +kernel
theorem dX9_comes_30 : decode cX9_comes 30 = .ok (.aload_n 0, 1) := by decide +kernel
theorem dX9_comes_31 : decode cX9_comes 31 = .ok (.dup, 1) := by decide +kernel
theorem dX9_comes_32 : decode cX9_comes 32 = .ok (.getfield 72, 3) := by decide +kernel
theorem dX9_comes_35 : decode cX9_comes 35 = .ok (.iconst 1, 1) := by decide +kernel
theorem dX9_comes_36 : decode cX9_comes 36 = .ok (.iadd, 1) := by decide +kernel
theorem dX9_comes_37 : decode cX9_comes 37 = .ok (.putfield 72, 3) := by decide +kernel
theorem dX9_comes_40 : decode cX9_comes 40 = .ok (.return_, 1) := by decide +kernel
theorem dX9_line_0 : decode cX9_line 0 = .ok (.aload_n 0, 1) := by decide +kernel
theorem dX9_line_1 : decode cX9_line 1 = .ok (.iload_n 1, 1) := by decide +kernel
theorem dX9_line_2 : decode cX9_line 2 = .ok (.invokevirtual 86, 3) := by decide +kernel
theorem dX9_line_5 : decode cX9_line 5 = .ok (.ifCond .eq 20, 3) := by decide +kernel
theorem dX9_line_8 : decode cX9_line 8 = .ok (.aload_n 0, 1) := by decide +kernel
theorem dX9_line_9 : decode cX9_line 9 = .ok (.iload_n 2, 1) := by decide +kernel
theorem dX9_line_10 : decode cX9_line 10 = .ok (.invokevirtual 86, 3) := by decide +kernel
theorem dX9_line_13 : decode cX9_line 13 = .ok (.ifCond .eq 12, 3) := by decide +kernel
theorem dX9_line_16 : decode cX9_line 16 = .ok (.iload_n 3, 1) := by decide +kernel
theorem dX9_line_17 : decode cX9_line 17 = .ok (.iconst 0, 1) := by decide +kernel
theorem dX9_line_18 : decode cX9_line 18 = .ok (.iconst 2, 1) := by decide +kernel
theorem dX9_line_19 : decode cX9_line 19 = .ok (.invokestatic 68, 3) := by decide +kernel
theorem dX9_line_22 : decode cX9_line 22 = .ok (.ifCond .ne 9, 3) := by decide +kernel
theorem dX9_line_25 : decode cX9_line 25 = .ok (.aload_n 0, 1) := by decide +kernel
theorem dX9_line_26 : decode cX9_line 26 = .ok (.iconst 1, 1) := by decide +kernel
theorem dX9_line_27 : decode cX9_line 27 = .ok (.invokevirtual 79, 3) := by decide +kernel
theorem dX9_line_30 : decode cX9_line 30 = .ok (.ireturn, 1) := by decide +kernel
theorem dX9_line_31 : decode cX9_line 31 = .ok (.iload_n 1, 1) := by decide +kernel
theorem dX9_line_32 : decode cX9_line 32 = .ok (.iload_n 2, 1) := by decide +kernel
theorem dX9_line_33 : decode cX9_line 33 = .ok (.if_icmp .ne 9, 3) := by decide +kernel
theorem dX9_line_36 : decode cX9_line 36 = .ok (.aload_n 0, 1) := by decide +kernel
theorem dX9_line_37 : decode cX9_line 37 = .ok (.iconst 5, 1) := by decide +kernel
theorem dX9_line_38 : decode cX9_line 38 = .ok (.invokevirtual 79, 3) := by decide +kernel
theorem dX9_line_41 : decode cX9_line 41 = .ok (.ireturn, 1) := by decide +kernel
theorem dX9_line_42 : decode cX9_line 42 = .ok (.aload_n 0, 1) := by decide +kernel
theorem dX9_line_43 : decode cX9_line 43 = .ok (.getfield 72, 3) := by decide +kernel
theorem dX9_line_46 : decode cX9_line 46 = .ok (.bipush 12, 2) := by decide +kernel
theorem dX9_line_48 : decode cX9_line 48 = .ok (.if_icmp .ne 9, 3) := by decide +kernel
theorem dX9_line_51 : decode cX9_line 51 = .ok (.aload_n 0, 1) := by decide +kernel
theorem dX9_line_52 : decode cX9_line 52 = .ok (.iconst 4, 1) := by decide +kernel
theorem dX9_line_53 : decode cX9_line 53 = .ok (.invokevirtual 79, 3) := by decide +kernel
theorem dX9_line_56 : decode cX9_line 56 = .ok (.ireturn, 1) := by decide +kernel
theorem dX9_line_57 : decode cX9_line 57 = .ok (.aload_n 0, 1) := by decide +kernel
theorem dX9_line_58 : decode cX9_line 58 = .ok (.iload_n 1, 1) := by decide +kernel
theorem dX9_line_59 : decode cX9_line 59 = .ok (.iload_n 2, 1) := by decide +kernel
theorem dX9_line_60 : decode cX9_line 60 = .ok (.iload_n 3, 1) := by decide +kernel
theorem dX9_line_61 : decode cX9_line 61 = .ok (.invokevirtual 90, 3) := by decide +kernel
theorem dX9_line_64 : decode cX9_line 64 = .ok (.aload_n 0, 1) := by decide +kernel
theorem dX9_line_65 : decode cX9_line 65 = .ok (.invokevirtual 83, 3) := by decide +kernel
theorem dX9_line_68 : decode cX9_line 68 = .ok (.aload_n 0, 1) := by decide +kernel
theorem dX9_line_69 : decode cX9_line 69 = .ok (.getfield 72, 3) := by decide +kernel
theorem dX9_line_72 : decode cX9_line 72 = .ok (.iconst 1, 1) := by decide +kernel
theorem dX9_line_73 : decode cX9_line 73 = .ok (.isub, 1) := by decide +kernel
theorem dX9_line_74 : decode cX9_line 74 = .ok (.ireturn, 1) := by decide +kernel
theorem dX9_way_0 : decode cX9_way 0 = .ok (.aload_n 0, 1) := by decide +kernel
theorem dX9_way_1 : decode cX9_way 1 = .ok (.iload_n 1, 1) := by decide +kernel
theorem dX9_way_2 : decode cX9_way 2 = .ok (.invokevirtual 94, 3) := by decide +kernel
theorem dX9_way_5 : decode cX9_way 5 = .ok (.ifCond .eq 12, 3) := by decide +kernel
theorem dX9_way_8 : decode cX9_way 8 = .ok (.iload_n 2, 1) := by decide +kernel
theorem dX9_way_9 : decode cX9_way 9 = .ok (.iconst 0, 1) := by decide +kernel
theorem dX9_way_10 : decode cX9_way 10 = .ok (.iconst 2, 1) := by decide +kernel
theorem dX9_way_11 : decode cX9_way 11 = .ok (.invokestatic 68, 3) := by decide +kernel
theorem dX9_way_14 : decode cX9_way 14 = .ok (.ifCond .ne 9, 3) := by decide +kernel
theorem dX9_way_17 : decode cX9_way 17 = .ok (.aload_n 0, 1) := by decide +kernel
theorem dX9_way_18 : decode cX9_way 18 = .ok (.iconst 1, 1) := by decide +kernel
theorem dX9_way_19 : decode cX9_way 19 = .ok (.invokevirtual 79, 3) := by decide +kernel
theorem dX9_way_22 : decode cX9_way 22 = .ok (.ireturn, 1) := by decide +kernel
theorem dX9_way_23 : decode cX9_way 23 = .ok (.aload_n 0, 1) := by decide +kernel
theorem dX9_way_24 : decode cX9_way 24 = .ok (.getfield 23, 3) := by decide +kernel
theorem dX9_way_27 : decode cX9_way 27 = .ok (.iload_n 1, 1) := by decide +kernel
theorem dX9_way_28 : decode cX9_way 28 = .ok (.iaload, 1) := by decide +kernel
theorem dX9_way_29 : decode cX9_way 29 = .ok (.istore_n 3, 1) := by decide +kernel
theorem dX9_way_30 : decode cX9_way 30 = .ok (.aload_n 0, 1) := by decide +kernel
theorem dX9_way_31 : decode cX9_way 31 = .ok (.getfield 23, 3) := by decide +kernel
theorem dX9_way_34 : decode cX9_way 34 = .ok (.iload_n 1, 1) := by decide +kernel
theorem dX9_way_35 : decode cX9_way 35 = .ok (.iload_n 2, 1) := by decide +kernel
theorem dX9_way_36 : decode cX9_way 36 = .ok (.iastore, 1) := by decide +kernel
theorem dX9_way_37 : decode cX9_way 37 = .ok (.aload_n 0, 1) := by decide +kernel
theorem dX9_way_38 : decode cX9_way 38 = .ok (.invokevirtual 83, 3) := by decide +kernel
theorem dX9_way_41 : decode cX9_way 41 = .ok (.iload_n 3, 1) := by decide +kernel
theorem dX9_way_42 : decode cX9_way 42 = .ok (.ireturn, 1) := by decide +kernel
theorem dX9_cut_0 : decode cX9_cut 0 = .ok (.aload_n 0, 1) := by decide +kernel
theorem dX9_cut_1 : decode cX9_cut 1 = .ok (.iload_n 1, 1) := by decide +kernel
theorem dX9_cut_2 : decode cX9_cut 2 = .ok (.invokevirtual 94, 3) := by decide +kernel
theorem dX9_cut_5 : decode cX9_cut 5 = .ok (.ifCond .ne 9, 3) := by decide +kernel
theorem dX9_cut_8 : decode cX9_cut 8 = .ok (.aload_n 0, 1) := by decide +kernel
theorem dX9_cut_9 : decode cX9_cut 9 = .ok (.iconst 1, 1) := by decide +kernel
theorem dX9_cut_10 : decode cX9_cut 10 = .ok (.invokevirtual 79, 3) := by decide +kernel
theorem dX9_cut_13 : decode cX9_cut 13 = .ok (.ireturn, 1) := by decide +kernel
theorem dX9_cut_14 : decode cX9_cut 14 = .ok (.aload_n 0, 1) := by decide +kernel
theorem dX9_cut_15 : decode cX9_cut 15 = .ok (.dup, 1) := by decide +kernel
theorem dX9_cut_16 : decode cX9_cut 16 = .ok (.getfield 72, 3) := by decide +kernel
theorem dX9_cut_19 : decode cX9_cut 19 = .ok (.iconst 1, 1) := by decide +kernel
theorem dX9_cut_20 : decode cX9_cut 20 = .ok (.isub, 1) := by decide +kernel
theorem dX9_cut_21 : decode cX9_cut 21 = .ok (.putfield 72, 3) := by decide +kernel
theorem dX9_cut_24 : decode cX9_cut 24 = .ok (.iload_n 1, 1) := by decide +kernel
theorem dX9_cut_25 : decode cX9_cut 25 = .ok (.istore_n 2, 1) := by decide +kernel
theorem dX9_cut_26 : decode cX9_cut 26 = .ok (.iload_n 2, 1) := by decide +kernel
theorem dX9_cut_27 : decode cX9_cut 27 = .ok (.aload_n 0, 1) := by decide +kernel
theorem dX9_cut_28 : decode cX9_cut 28 = .ok (.getfield 72, 3) := by decide +kernel
theorem dX9_cut_31 : decode cX9_cut 31 = .ok (.if_icmp .ge 51, 3) := by decide +kernel
theorem dX9_cut_34 : decode cX9_cut 34 = .ok (.aload_n 0, 1) := by decide +kernel
theorem dX9_cut_35 : decode cX9_cut 35 = .ok (.getfield 17, 3) := by decide +kernel
theorem dX9_cut_38 : decode cX9_cut 38 = .ok (.iload_n 2, 1) := by decide +kernel
theorem dX9_cut_39 : decode cX9_cut 39 = .ok (.aload_n 0, 1) := by decide +kernel
theorem dX9_cut_40 : decode cX9_cut 40 = .ok (.getfield 17, 3) := by decide +kernel
theorem dX9_cut_43 : decode cX9_cut 43 = .ok (.iload_n 2, 1) := by decide +kernel
theorem dX9_cut_44 : decode cX9_cut 44 = .ok (.iconst 1, 1) := by decide +kernel
theorem dX9_cut_45 : decode cX9_cut 45 = .ok (.iadd, 1) := by decide +kernel
theorem dX9_cut_46 : decode cX9_cut 46 = .ok (.iaload, 1) := by decide +kernel
theorem dX9_cut_47 : decode cX9_cut 47 = .ok (.iastore, 1) := by decide +kernel
theorem dX9_cut_48 : decode cX9_cut 48 = .ok (.aload_n 0, 1) := by decide +kernel
theorem dX9_cut_49 : decode cX9_cut 49 = .ok (.getfield 20, 3) := by decide +kernel
theorem dX9_cut_52 : decode cX9_cut 52 = .ok (.iload_n 2, 1) := by decide +kernel
theorem dX9_cut_53 : decode cX9_cut 53 = .ok (.aload_n 0, 1) := by decide +kernel
theorem dX9_cut_54 : decode cX9_cut 54 = .ok (.getfield 20, 3) := by decide +kernel
theorem dX9_cut_57 : decode cX9_cut 57 = .ok (.iload_n 2, 1) := by decide +kernel
theorem dX9_cut_58 : decode cX9_cut 58 = .ok (.iconst 1, 1) := by decide +kernel
theorem dX9_cut_59 : decode cX9_cut 59 = .ok (.iadd, 1) := by decide +kernel
theorem dX9_cut_60 : decode cX9_cut 60 = .ok (.iaload, 1) := by decide +kernel
theorem dX9_cut_61 : decode cX9_cut 61 = .ok (.iastore, 1) := by decide +kernel
theorem dX9_cut_62 : decode cX9_cut 62 = .ok (.aload_n 0, 1) := by decide +kernel
theorem dX9_cut_63 : decode cX9_cut 63 = .ok (.getfield 23, 3) := by decide +kernel
theorem dX9_cut_66 : decode cX9_cut 66 = .ok (.iload_n 2, 1) := by decide +kernel
theorem dX9_cut_67 : decode cX9_cut 67 = .ok (.aload_n 0, 1) := by decide +kernel
theorem dX9_cut_68 : decode cX9_cut 68 = .ok (.getfield 23, 3) := by decide +kernel
theorem dX9_cut_71 : decode cX9_cut 71 = .ok (.iload_n 2, 1) := by decide +kernel
theorem dX9_cut_72 : decode cX9_cut 72 = .ok (.iconst 1, 1) := by decide +kernel
theorem dX9_cut_73 : decode cX9_cut 73 = .ok (.iadd, 1) := by decide +kernel
theorem dX9_cut_74 : decode cX9_cut 74 = .ok (.iaload, 1) := by decide +kernel
theorem dX9_cut_75 : decode cX9_cut 75 = .ok (.iastore, 1) := by decide +kernel
theorem dX9_cut_76 : decode cX9_cut 76 = .ok (.iinc 2 1, 3) := by decide +kernel
theorem dX9_cut_79 : decode cX9_cut 79 = .ok (.goto (-53), 3) := by decide +kernel
theorem dX9_cut_82 : decode cX9_cut 82 = .ok (.aload_n 0, 1) := by decide +kernel
theorem dX9_cut_83 : decode cX9_cut 83 = .ok (.invokevirtual 83, 3) := by decide +kernel
theorem dX9_cut_86 : decode cX9_cut 86 = .ok (.aload_n 0, 1) := by decide +kernel
theorem dX9_cut_87 : decode cX9_cut 87 = .ok (.getfield 72, 3) := by decide +kernel
theorem dX9_cut_90 : decode cX9_cut 90 = .ok (.ireturn, 1) := by decide +kernel
theorem dX9_ends_0 : decode cX9_ends 0 = .ok (.aload_n 0, 1) := by decide +kernel
theorem dX9_ends_1 : decode cX9_ends 1 = .ok (.iload_n 1, 1) := by decide +kernel
theorem dX9_ends_2 : decode cX9_ends 2 = .ok (.invokevirtual 94, 3) := by decide +kernel
theorem dX9_ends_5 : decode cX9_ends 5 = .ok (.ifCond .eq 12, 3) := by decide +kernel
theorem dX9_ends_8 : decode cX9_ends 8 = .ok (.iload_n 2, 1) := by decide +kernel
theorem dX9_ends_9 : decode cX9_ends 9 = .ok (.iconst 0, 1) := by decide +kernel
theorem dX9_ends_10 : decode cX9_ends 10 = .ok (.iconst 2, 1) := by decide +kernel
theorem dX9_ends_11 : decode cX9_ends 11 = .ok (.invokestatic 68, 3) := by decide +kernel
theorem dX9_ends_14 : decode cX9_ends 14 = .ok (.ifCond .ne 9, 3) := by decide +kernel
theorem dX9_ends_17 : decode cX9_ends 17 = .ok (.aload_n 0, 1) := by decide +kernel
theorem dX9_ends_18 : decode cX9_ends 18 = .ok (.iconst 1, 1) := by decide +kernel
theorem dX9_ends_19 : decode cX9_ends 19 = .ok (.invokevirtual 79, 3) := by decide +kernel
theorem dX9_ends_22 : decode cX9_ends 22 = .ok (.ireturn, 1) := by decide +kernel
theorem dX9_ends_23 : decode cX9_ends 23 = .ok (.iload_n 2, 1) := by decide +kernel
theorem dX9_ends_24 : decode cX9_ends 24 = .ok (.ifCond .ne 12, 3) := by decide +kernel
theorem dX9_ends_27 : decode cX9_ends 27 = .ok (.aload_n 0, 1) := by decide +kernel
theorem dX9_ends_28 : decode cX9_ends 28 = .ok (.getfield 17, 3) := by decide +kernel
theorem dX9_ends_31 : decode cX9_ends 31 = .ok (.iload_n 1, 1) := by decide +kernel
theorem dX9_ends_32 : decode cX9_ends 32 = .ok (.iaload, 1) := by decide +kernel
theorem dX9_ends_33 : decode cX9_ends 33 = .ok (.goto 23, 3) := by decide +kernel
theorem dX9_ends_36 : decode cX9_ends 36 = .ok (.iload_n 2, 1) := by decide +kernel
theorem dX9_ends_37 : decode cX9_ends 37 = .ok (.iconst 1, 1) := by decide +kernel
theorem dX9_ends_38 : decode cX9_ends 38 = .ok (.if_icmp .ne 12, 3) := by decide +kernel
theorem dX9_ends_41 : decode cX9_ends 41 = .ok (.aload_n 0, 1) := by decide +kernel
theorem dX9_ends_42 : decode cX9_ends 42 = .ok (.getfield 20, 3) := by decide +kernel
theorem dX9_ends_45 : decode cX9_ends 45 = .ok (.iload_n 1, 1) := by decide +kernel
theorem dX9_ends_46 : decode cX9_ends 46 = .ok (.iaload, 1) := by decide +kernel
theorem dX9_ends_47 : decode cX9_ends 47 = .ok (.goto 9, 3) := by decide +kernel
theorem dX9_ends_50 : decode cX9_ends 50 = .ok (.aload_n 0, 1) := by decide +kernel
theorem dX9_ends_51 : decode cX9_ends 51 = .ok (.getfield 23, 3) := by decide +kernel
theorem dX9_ends_54 : decode cX9_ends 54 = .ok (.iload_n 1, 1) := by decide +kernel
theorem dX9_ends_55 : decode cX9_ends 55 = .ok (.iaload, 1) := by decide +kernel
theorem dX9_ends_56 : decode cX9_ends 56 = .ok (.ireturn, 1) := by decide +kernel
theorem dX9_isAt_0 : decode cX9_isAt 0 = .ok (.aload_n 0, 1) := by decide +kernel
theorem dX9_isAt_1 : decode cX9_isAt 1 = .ok (.getfield 17, 3) := by decide +kernel
theorem dX9_isAt_4 : decode cX9_isAt 4 = .ok (.iload_n 1, 1) := by decide +kernel
theorem dX9_isAt_5 : decode cX9_isAt 5 = .ok (.iaload, 1) := by decide +kernel
theorem dX9_isAt_6 : decode cX9_isAt 6 = .ok (.iload_n 2, 1) := by decide +kernel
theorem dX9_isAt_7 : decode cX9_isAt 7 = .ok (.if_icmp .eq 13, 3) := by decide +kernel
theorem dX9_isAt_10 : decode cX9_isAt 10 = .ok (.aload_n 0, 1) := by decide +kernel
theorem dX9_isAt_11 : decode cX9_isAt 11 = .ok (.getfield 20, 3) := by decide +kernel
theorem dX9_isAt_14 : decode cX9_isAt 14 = .ok (.iload_n 1, 1) := by decide +kernel
theorem dX9_isAt_15 : decode cX9_isAt 15 = .ok (.iaload, 1) := by decide +kernel
theorem dX9_isAt_16 : decode cX9_isAt 16 = .ok (.iload_n 2, 1) := by decide +kernel
theorem dX9_isAt_17 : decode cX9_isAt 17 = .ok (.if_icmp .ne 7, 3) := by decide +kernel
theorem dX9_isAt_20 : decode cX9_isAt 20 = .ok (.iconst 1, 1) := by decide +kernel
theorem dX9_isAt_21 : decode cX9_isAt 21 = .ok (.goto 4, 3) := by decide +kernel
theorem dX9_isAt_24 : decode cX9_isAt 24 = .ok (.iconst 0, 1) := by decide +kernel
theorem dX9_isAt_25 : decode cX9_isAt 25 = .ok (.ireturn, 1) := by decide +kernel
theorem dX9_otherOf_0 : decode cX9_otherOf 0 = .ok (.aload_n 0, 1) := by decide +kernel
theorem dX9_otherOf_1 : decode cX9_otherOf 1 = .ok (.getfield 17, 3) := by decide +kernel
theorem dX9_otherOf_4 : decode cX9_otherOf 4 = .ok (.iload_n 1, 1) := by decide +kernel
theorem dX9_otherOf_5 : decode cX9_otherOf 5 = .ok (.iaload, 1) := by decide +kernel
theorem dX9_otherOf_6 : decode cX9_otherOf 6 = .ok (.aload_n 0, 1) := by decide +kernel
theorem dX9_otherOf_7 : decode cX9_otherOf 7 = .ok (.getfield 20, 3) := by decide +kernel
theorem dX9_otherOf_10 : decode cX9_otherOf 10 = .ok (.iload_n 1, 1) := by decide +kernel
theorem dX9_otherOf_11 : decode cX9_otherOf 11 = .ok (.iaload, 1) := by decide +kernel
theorem dX9_otherOf_12 : decode cX9_otherOf 12 = .ok (.iadd, 1) := by decide +kernel
theorem dX9_otherOf_13 : decode cX9_otherOf 13 = .ok (.iload_n 2, 1) := by decide +kernel
theorem dX9_otherOf_14 : decode cX9_otherOf 14 = .ok (.isub, 1) := by decide +kernel
theorem dX9_otherOf_15 : decode cX9_otherOf 15 = .ok (.ireturn, 1) := by decide +kernel
theorem dX9_leads_0 : decode cX9_leads 0 = .ok (.aload_n 0, 1) := by decide +kernel
theorem dX9_leads_1 : decode cX9_leads 1 = .ok (.getfield 23, 3) := by decide +kernel
theorem dX9_leads_4 : decode cX9_leads 4 = .ok (.iload_n 1, 1) := by decide +kernel
theorem dX9_leads_5 : decode cX9_leads 5 = .ok (.iaload, 1) := by decide +kernel
theorem dX9_leads_6 : decode cX9_leads 6 = .ok (.ifCond .eq 43, 3) := by decide +kernel
theorem dX9_leads_9 : decode cX9_leads 9 = .ok (.aload_n 0, 1) := by decide +kernel
theorem dX9_leads_10 : decode cX9_leads 10 = .ok (.getfield 23, 3) := by decide +kernel
theorem dX9_leads_13 : decode cX9_leads 13 = .ok (.iload_n 1, 1) := by decide +kernel
theorem dX9_leads_14 : decode cX9_leads 14 = .ok (.iaload, 1) := by decide +kernel
theorem dX9_leads_15 : decode cX9_leads 15 = .ok (.iconst 1, 1) := by decide +kernel
theorem dX9_leads_16 : decode cX9_leads 16 = .ok (.if_icmp .ne 13, 3) := by decide +kernel
theorem dX9_leads_19 : decode cX9_leads 19 = .ok (.aload_n 0, 1) := by decide +kernel
theorem dX9_leads_20 : decode cX9_leads 20 = .ok (.getfield 17, 3) := by decide +kernel
theorem dX9_leads_23 : decode cX9_leads 23 = .ok (.iload_n 1, 1) := by decide +kernel
theorem dX9_leads_24 : decode cX9_leads 24 = .ok (.iaload, 1) := by decide +kernel
theorem dX9_leads_25 : decode cX9_leads 25 = .ok (.iload_n 2, 1) := by decide +kernel
theorem dX9_leads_26 : decode cX9_leads 26 = .ok (.if_icmp .eq 23, 3) := by decide +kernel
theorem dX9_leads_29 : decode cX9_leads 29 = .ok (.aload_n 0, 1) := by decide +kernel
theorem dX9_leads_30 : decode cX9_leads 30 = .ok (.getfield 23, 3) := by decide +kernel
theorem dX9_leads_33 : decode cX9_leads 33 = .ok (.iload_n 1, 1) := by decide +kernel
theorem dX9_leads_34 : decode cX9_leads 34 = .ok (.iaload, 1) := by decide +kernel
theorem dX9_leads_35 : decode cX9_leads 35 = .ok (.iconst 2, 1) := by decide +kernel
theorem dX9_leads_36 : decode cX9_leads 36 = .ok (.if_icmp .ne 17, 3) := by decide +kernel
theorem dX9_leads_39 : decode cX9_leads 39 = .ok (.aload_n 0, 1) := by decide +kernel
theorem dX9_leads_40 : decode cX9_leads 40 = .ok (.getfield 20, 3) := by decide +kernel
theorem dX9_leads_43 : decode cX9_leads 43 = .ok (.iload_n 1, 1) := by decide +kernel
theorem dX9_leads_44 : decode cX9_leads 44 = .ok (.iaload, 1) := by decide +kernel
theorem dX9_leads_45 : decode cX9_leads 45 = .ok (.iload_n 2, 1) := by decide +kernel
theorem dX9_leads_46 : decode cX9_leads 46 = .ok (.if_icmp .ne 7, 3) := by decide +kernel
theorem dX9_leads_49 : decode cX9_leads 49 = .ok (.iconst 1, 1) := by decide +kernel
theorem dX9_leads_50 : decode cX9_leads 50 = .ok (.goto 4, 3) := by decide +kernel
theorem dX9_leads_53 : decode cX9_leads 53 = .ok (.iconst 0, 1) := by decide +kernel
theorem dX9_leads_54 : decode cX9_leads 54 = .ok (.ireturn, 1) := by decide +kernel
theorem dX9_degree_0 : decode cX9_degree 0 = .ok (.iconst 0, 1) := by decide +kernel
theorem dX9_degree_1 : decode cX9_degree 1 = .ok (.istore_n 3, 1) := by decide +kernel
theorem dX9_degree_2 : decode cX9_degree 2 = .ok (.iconst 0, 1) := by decide +kernel
theorem dX9_degree_3 : decode cX9_degree 3 = .ok (.istore 4, 2) := by decide +kernel
theorem dX9_degree_5 : decode cX9_degree 5 = .ok (.iload 4, 2) := by decide +kernel
theorem dX9_degree_7 : decode cX9_degree 7 = .ok (.aload_n 0, 1) := by decide +kernel
theorem dX9_degree_8 : decode cX9_degree 8 = .ok (.getfield 72, 3) := by decide +kernel
theorem dX9_degree_11 : decode cX9_degree 11 = .ok (.if_icmp .ge 68, 3) := by decide +kernel
theorem dX9_degree_14 : decode cX9_degree 14 = .ok (.aload_n 0, 1) := by decide +kernel
theorem dX9_degree_15 : decode cX9_degree 15 = .ok (.iload 4, 2) := by decide +kernel
theorem dX9_degree_17 : decode cX9_degree 17 = .ok (.iload_n 1, 1) := by decide +kernel
theorem dX9_degree_18 : decode cX9_degree 18 = .ok (.invokevirtual 97, 3) := by decide +kernel
theorem dX9_degree_21 : decode cX9_degree 21 = .ok (.ifCond .eq 36, 3) := by decide +kernel
theorem dX9_degree_24 : decode cX9_degree 24 = .ok (.iload_n 2, 1) := by decide +kernel
theorem dX9_degree_25 : decode cX9_degree 25 = .ok (.ifCond .eq 28, 3) := by decide +kernel
theorem dX9_degree_28 : decode cX9_degree 28 = .ok (.aload_n 0, 1) := by decide +kernel
theorem dX9_degree_29 : decode cX9_degree 29 = .ok (.iload 4, 2) := by decide +kernel
theorem dX9_degree_31 : decode cX9_degree 31 = .ok (.iload_n 2, 1) := by decide +kernel
theorem dX9_degree_32 : decode cX9_degree 32 = .ok (.iconst 1, 1) := by decide +kernel
theorem dX9_degree_33 : decode cX9_degree 33 = .ok (.if_icmp .ne 7, 3) := by decide +kernel
theorem dX9_degree_36 : decode cX9_degree 36 = .ok (.iload_n 1, 1) := by decide +kernel
theorem dX9_degree_37 : decode cX9_degree 37 = .ok (.goto 10, 3) := by decide +kernel
theorem dX9_degree_40 : decode cX9_degree 40 = .ok (.aload_n 0, 1) := by decide +kernel
theorem dX9_degree_41 : decode cX9_degree 41 = .ok (.iload 4, 2) := by decide +kernel
theorem dX9_degree_43 : decode cX9_degree 43 = .ok (.iload_n 1, 1) := by decide +kernel
theorem dX9_degree_44 : decode cX9_degree 44 = .ok (.invokevirtual 101, 3) := by decide +kernel
theorem dX9_degree_47 : decode cX9_degree 47 = .ok (.invokevirtual 105, 3) := by decide +kernel
theorem dX9_degree_50 : decode cX9_degree 50 = .ok (.ifCond .eq 7, 3) := by decide +kernel
theorem dX9_degree_53 : decode cX9_degree 53 = .ok (.iconst 1, 1) := by decide +kernel
theorem dX9_degree_54 : decode cX9_degree 54 = .ok (.goto 4, 3) := by decide +kernel
theorem dX9_degree_57 : decode cX9_degree 57 = .ok (.iconst 0, 1) := by decide +kernel
theorem dX9_degree_58 : decode cX9_degree 58 = .ok (.istore 5, 2) := by decide +kernel
theorem dX9_degree_60 : decode cX9_degree 60 = .ok (.iload_n 3, 1) := by decide +kernel
theorem dX9_degree_61 : decode cX9_degree 61 = .ok (.iload 5, 2) := by decide +kernel
theorem dX9_degree_63 : decode cX9_degree 63 = .ok (.ifCond .eq 7, 3) := by decide +kernel
theorem dX9_degree_66 : decode cX9_degree 66 = .ok (.iconst 1, 1) := by decide +kernel
theorem dX9_degree_67 : decode cX9_degree 67 = .ok (.goto 4, 3) := by decide +kernel
theorem dX9_degree_70 : decode cX9_degree 70 = .ok (.iconst 0, 1) := by decide +kernel
theorem dX9_degree_71 : decode cX9_degree 71 = .ok (.iadd, 1) := by decide +kernel
theorem dX9_degree_72 : decode cX9_degree 72 = .ok (.istore_n 3, 1) := by decide +kernel
theorem dX9_degree_73 : decode cX9_degree 73 = .ok (.iinc 4 1, 3) := by decide +kernel
theorem dX9_degree_76 : decode cX9_degree 76 = .ok (.goto (-71), 3) := by decide +kernel
theorem dX9_degree_79 : decode cX9_degree 79 = .ok (.iload_n 3, 1) := by decide +kernel
theorem dX9_degree_80 : decode cX9_degree 80 = .ok (.ireturn, 1) := by decide +kernel
theorem dX9_at_0 : decode cX9_at 0 = .ok (.aload_n 0, 1) := by decide +kernel
theorem dX9_at_1 : decode cX9_at 1 = .ok (.iload_n 1, 1) := by decide +kernel
theorem dX9_at_2 : decode cX9_at 2 = .ok (.invokevirtual 86, 3) := by decide +kernel
theorem dX9_at_5 : decode cX9_at 5 = .ok (.ifCond .eq 21, 3) := by decide +kernel
theorem dX9_at_8 : decode cX9_at 8 = .ok (.iload_n 2, 1) := by decide +kernel
theorem dX9_at_9 : decode cX9_at 9 = .ok (.iconst 0, 1) := by decide +kernel
theorem dX9_at_10 : decode cX9_at 10 = .ok (.iconst 2, 1) := by decide +kernel
theorem dX9_at_11 : decode cX9_at 11 = .ok (.invokestatic 68, 3) := by decide +kernel
theorem dX9_at_14 : decode cX9_at 14 = .ok (.ifCond .eq 12, 3) := by decide +kernel
theorem dX9_at_17 : decode cX9_at 17 = .ok (.aload_n 0, 1) := by decide +kernel
theorem dX9_at_18 : decode cX9_at 18 = .ok (.iload_n 1, 1) := by decide +kernel
theorem dX9_at_19 : decode cX9_at 19 = .ok (.iload_n 2, 1) := by decide +kernel
theorem dX9_at_20 : decode cX9_at 20 = .ok (.invokevirtual 108, 3) := by decide +kernel
theorem dX9_at_23 : decode cX9_at 23 = .ok (.goto 8, 3) := by decide +kernel
theorem dX9_at_26 : decode cX9_at 26 = .ok (.aload_n 0, 1) := by decide +kernel
theorem dX9_at_27 : decode cX9_at 27 = .ok (.iconst 1, 1) := by decide +kernel
theorem dX9_at_28 : decode cX9_at 28 = .ok (.invokevirtual 79, 3) := by decide +kernel
theorem dX9_at_31 : decode cX9_at 31 = .ok (.ireturn, 1) := by decide +kernel
theorem dX9_sidesFrom_0 : decode cX9_sidesFrom 0 = .ok (.aload_n 0, 1) := by decide +kernel
theorem dX9_sidesFrom_1 : decode cX9_sidesFrom 1 = .ok (.getfield 26, 3) := by decide +kernel
theorem dX9_sidesFrom_4 : decode cX9_sidesFrom 4 = .ok (.iload_n 1, 1) := by decide +kernel
theorem dX9_sidesFrom_5 : decode cX9_sidesFrom 5 = .ok (.iaload, 1) := by decide +kernel
theorem dX9_sidesFrom_6 : decode cX9_sidesFrom 6 = .ok (.iconst (-1), 1) := by decide +kernel
theorem dX9_sidesFrom_7 : decode cX9_sidesFrom 7 = .ok (.if_icmp .eq 19, 3) := by decide +kernel
theorem dX9_sidesFrom_10 : decode cX9_sidesFrom 10 = .ok (.aload_n 0, 1) := by decide +kernel
theorem dX9_sidesFrom_11 : decode cX9_sidesFrom 11 = .ok (.getfield 26, 3) := by decide +kernel
theorem dX9_sidesFrom_14 : decode cX9_sidesFrom 14 = .ok (.iload_n 1, 1) := by decide +kernel
theorem dX9_sidesFrom_15 : decode cX9_sidesFrom 15 = .ok (.iaload, 1) := by decide +kernel
theorem dX9_sidesFrom_16 : decode cX9_sidesFrom 16 = .ok (.iload_n 2, 1) := by decide +kernel
theorem dX9_sidesFrom_17 : decode cX9_sidesFrom 17 = .ok (.if_icmp .ne 7, 3) := by decide +kernel
theorem dX9_sidesFrom_20 : decode cX9_sidesFrom 20 = .ok (.iconst 1, 1) := by decide +kernel
theorem dX9_sidesFrom_21 : decode cX9_sidesFrom 21 = .ok (.goto 4, 3) := by decide +kernel
theorem dX9_sidesFrom_24 : decode cX9_sidesFrom 24 = .ok (.iconst 0, 1) := by decide +kernel
theorem dX9_sidesFrom_25 : decode cX9_sidesFrom 25 = .ok (.ireturn, 1) := by decide +kernel
theorem dX9_sidesFrom_26 : decode cX9_sidesFrom 26 = .ok (.aload_n 0, 1) := by decide +kernel
theorem dX9_sidesFrom_27 : decode cX9_sidesFrom 27 = .ok (.getfield 26, 3) := by decide +kernel
theorem dX9_sidesFrom_30 : decode cX9_sidesFrom 30 = .ok (.iload_n 1, 1) := by decide +kernel
theorem dX9_sidesFrom_31 : decode cX9_sidesFrom 31 = .ok (.iload_n 2, 1) := by decide +kernel
theorem dX9_sidesFrom_32 : decode cX9_sidesFrom 32 = .ok (.iastore, 1) := by decide +kernel
theorem dX9_sidesFrom_33 : decode cX9_sidesFrom 33 = .ok (.iconst 1, 1) := by decide +kernel
theorem dX9_sidesFrom_34 : decode cX9_sidesFrom 34 = .ok (.istore_n 3, 1) := by decide +kernel
theorem dX9_sidesFrom_35 : decode cX9_sidesFrom 35 = .ok (.iconst 0, 1) := by decide +kernel
theorem dX9_sidesFrom_36 : decode cX9_sidesFrom 36 = .ok (.istore 4, 2) := by decide +kernel
theorem dX9_sidesFrom_38 : decode cX9_sidesFrom 38 = .ok (.iload 4, 2) := by decide +kernel
theorem dX9_sidesFrom_40 : decode cX9_sidesFrom 40 = .ok (.aload_n 0, 1) := by decide +kernel
theorem dX9_sidesFrom_41 : decode cX9_sidesFrom 41 = .ok (.getfield 72, 3) := by decide +kernel
theorem dX9_sidesFrom_44 : decode cX9_sidesFrom 44 = .ok (.if_icmp .ge 46, 3) := by decide +kernel
theorem dX9_sidesFrom_47 : decode cX9_sidesFrom 47 = .ok (.iload_n 3, 1) := by decide +kernel
theorem dX9_sidesFrom_48 : decode cX9_sidesFrom 48 = .ok (.ifCond .eq 42, 3) := by decide +kernel
theorem dX9_sidesFrom_51 : decode cX9_sidesFrom 51 = .ok (.aload_n 0, 1) := by decide +kernel
theorem dX9_sidesFrom_52 : decode cX9_sidesFrom 52 = .ok (.iload 4, 2) := by decide +kernel
theorem dX9_sidesFrom_54 : decode cX9_sidesFrom 54 = .ok (.iload_n 1, 1) := by decide +kernel
theorem dX9_sidesFrom_55 : decode cX9_sidesFrom 55 = .ok (.invokevirtual 97, 3) := by decide +kernel
theorem dX9_sidesFrom_58 : decode cX9_sidesFrom 58 = .ok (.ifCond .eq 20, 3) := by decide +kernel
theorem dX9_sidesFrom_61 : decode cX9_sidesFrom 61 = .ok (.aload_n 0, 1) := by decide +kernel
theorem dX9_sidesFrom_62 : decode cX9_sidesFrom 62 = .ok (.aload_n 0, 1) := by decide +kernel
theorem dX9_sidesFrom_63 : decode cX9_sidesFrom 63 = .ok (.iload 4, 2) := by decide +kernel
theorem dX9_sidesFrom_65 : decode cX9_sidesFrom 65 = .ok (.iload_n 1, 1) := by decide +kernel
theorem dX9_sidesFrom_66 : decode cX9_sidesFrom 66 = .ok (.invokevirtual 101, 3) := by decide +kernel
theorem dX9_sidesFrom_69 : decode cX9_sidesFrom 69 = .ok (.iconst 1, 1) := by decide +kernel
theorem dX9_sidesFrom_70 : decode cX9_sidesFrom 70 = .ok (.iload_n 2, 1) := by decide +kernel
theorem dX9_sidesFrom_71 : decode cX9_sidesFrom 71 = .ok (.isub, 1) := by decide +kernel
theorem dX9_sidesFrom_72 : decode cX9_sidesFrom 72 = .ok (.invokevirtual 111, 3) := by decide +kernel
theorem dX9_sidesFrom_75 : decode cX9_sidesFrom 75 = .ok (.ifCond .eq 7, 3) := by decide +kernel
theorem dX9_sidesFrom_78 : decode cX9_sidesFrom 78 = .ok (.iconst 1, 1) := by decide +kernel
theorem dX9_sidesFrom_79 : decode cX9_sidesFrom 79 = .ok (.goto 4, 3) := by decide +kernel
theorem dX9_sidesFrom_82 : decode cX9_sidesFrom 82 = .ok (.iconst 0, 1) := by decide +kernel
theorem dX9_sidesFrom_83 : decode cX9_sidesFrom 83 = .ok (.istore_n 3, 1) := by decide +kernel
theorem dX9_sidesFrom_84 : decode cX9_sidesFrom 84 = .ok (.iinc 4 1, 3) := by decide +kernel
theorem dX9_sidesFrom_87 : decode cX9_sidesFrom 87 = .ok (.goto (-49), 3) := by decide +kernel
theorem dX9_sidesFrom_90 : decode cX9_sidesFrom 90 = .ok (.iload_n 3, 1) := by decide +kernel
theorem dX9_sidesFrom_91 : decode cX9_sidesFrom 91 = .ok (.ireturn, 1) := by decide +kernel
theorem dX9_sides_0 : decode cX9_sides 0 = .ok (.iconst 0, 1) := by decide +kernel
theorem dX9_sides_1 : decode cX9_sides 1 = .ok (.istore_n 1, 1) := by decide +kernel
theorem dX9_sides_2 : decode cX9_sides 2 = .ok (.iload_n 1, 1) := by decide +kernel
theorem dX9_sides_3 : decode cX9_sides 3 = .ok (.aload_n 0, 1) := by decide +kernel
theorem dX9_sides_4 : decode cX9_sides 4 = .ok (.getfield 13, 3) := by decide +kernel
theorem dX9_sides_7 : decode cX9_sides 7 = .ok (.if_icmp .ge 16, 3) := by decide +kernel
theorem dX9_sides_10 : decode cX9_sides 10 = .ok (.aload_n 0, 1) := by decide +kernel
theorem dX9_sides_11 : decode cX9_sides 11 = .ok (.getfield 26, 3) := by decide +kernel
theorem dX9_sides_14 : decode cX9_sides 14 = .ok (.iload_n 1, 1) := by decide +kernel
theorem dX9_sides_15 : decode cX9_sides 15 = .ok (.iconst (-1), 1) := by decide +kernel
theorem dX9_sides_16 : decode cX9_sides 16 = .ok (.iastore, 1) := by decide +kernel
theorem dX9_sides_17 : decode cX9_sides 17 = .ok (.iinc 1 1, 3) := by decide +kernel
theorem dX9_sides_20 : decode cX9_sides 20 = .ok (.goto (-18), 3) := by decide +kernel
theorem dX9_sides_23 : decode cX9_sides 23 = .ok (.iconst 0, 1) := by decide +kernel
theorem dX9_sides_24 : decode cX9_sides 24 = .ok (.istore_n 1, 1) := by decide +kernel
theorem dX9_sides_25 : decode cX9_sides 25 = .ok (.iconst 0, 1) := by decide +kernel
theorem dX9_sides_26 : decode cX9_sides 26 = .ok (.istore_n 2, 1) := by decide +kernel
theorem dX9_sides_27 : decode cX9_sides 27 = .ok (.iload_n 2, 1) := by decide +kernel
theorem dX9_sides_28 : decode cX9_sides 28 = .ok (.aload_n 0, 1) := by decide +kernel
theorem dX9_sides_29 : decode cX9_sides 29 = .ok (.getfield 13, 3) := by decide +kernel
theorem dX9_sides_32 : decode cX9_sides 32 = .ok (.if_icmp .ge 34, 3) := by decide +kernel
theorem dX9_sides_35 : decode cX9_sides 35 = .ok (.aload_n 0, 1) := by decide +kernel
theorem dX9_sides_36 : decode cX9_sides 36 = .ok (.getfield 26, 3) := by decide +kernel
theorem dX9_sides_39 : decode cX9_sides 39 = .ok (.iload_n 2, 1) := by decide +kernel
theorem dX9_sides_40 : decode cX9_sides 40 = .ok (.iaload, 1) := by decide +kernel
theorem dX9_sides_41 : decode cX9_sides 41 = .ok (.iconst (-1), 1) := by decide +kernel
theorem dX9_sides_42 : decode cX9_sides 42 = .ok (.if_icmp .ne 18, 3) := by decide +kernel
theorem dX9_sides_45 : decode cX9_sides 45 = .ok (.aload_n 0, 1) := by decide +kernel
theorem dX9_sides_46 : decode cX9_sides 46 = .ok (.iload_n 2, 1) := by decide +kernel
theorem dX9_sides_47 : decode cX9_sides 47 = .ok (.iconst 0, 1) := by decide +kernel
theorem dX9_sides_48 : decode cX9_sides 48 = .ok (.invokevirtual 111, 3) := by decide +kernel
theorem dX9_sides_51 : decode cX9_sides 51 = .ok (.ifCond .ne 9, 3) := by decide +kernel
theorem dX9_sides_54 : decode cX9_sides 54 = .ok (.aload_n 0, 1) := by decide +kernel
theorem dX9_sides_55 : decode cX9_sides 55 = .ok (.iconst 2, 1) := by decide +kernel
theorem dX9_sides_56 : decode cX9_sides 56 = .ok (.invokevirtual 79, 3) := by decide +kernel
theorem dX9_sides_59 : decode cX9_sides 59 = .ok (.ireturn, 1) := by decide +kernel
theorem dX9_sides_60 : decode cX9_sides 60 = .ok (.iinc 2 1, 3) := by decide +kernel
theorem dX9_sides_63 : decode cX9_sides 63 = .ok (.goto (-36), 3) := by decide +kernel
theorem dX9_sides_66 : decode cX9_sides 66 = .ok (.iconst 0, 1) := by decide +kernel
theorem dX9_sides_67 : decode cX9_sides 67 = .ok (.istore_n 2, 1) := by decide +kernel
theorem dX9_sides_68 : decode cX9_sides 68 = .ok (.iload_n 2, 1) := by decide +kernel
theorem dX9_sides_69 : decode cX9_sides 69 = .ok (.aload_n 0, 1) := by decide +kernel
theorem dX9_sides_70 : decode cX9_sides 70 = .ok (.getfield 13, 3) := by decide +kernel
theorem dX9_sides_73 : decode cX9_sides 73 = .ok (.if_icmp .ge 28, 3) := by decide +kernel
theorem dX9_sides_76 : decode cX9_sides 76 = .ok (.iload_n 1, 1) := by decide +kernel
theorem dX9_sides_77 : decode cX9_sides 77 = .ok (.aload_n 0, 1) := by decide +kernel
theorem dX9_sides_78 : decode cX9_sides 78 = .ok (.getfield 26, 3) := by decide +kernel
theorem dX9_sides_81 : decode cX9_sides 81 = .ok (.iload_n 2, 1) := by decide +kernel
theorem dX9_sides_82 : decode cX9_sides 82 = .ok (.iaload, 1) := by decide +kernel
theorem dX9_sides_83 : decode cX9_sides 83 = .ok (.ifCond .ne 9, 3) := by decide +kernel
theorem dX9_sides_86 : decode cX9_sides 86 = .ok (.iconst 1, 1) := by decide +kernel
theorem dX9_sides_87 : decode cX9_sides 87 = .ok (.iload_n 2, 1) := by decide +kernel
theorem dX9_sides_88 : decode cX9_sides 88 = .ok (.ishl, 1) := by decide +kernel
theorem dX9_sides_89 : decode cX9_sides 89 = .ok (.goto 4, 3) := by decide +kernel
theorem dX9_sides_92 : decode cX9_sides 92 = .ok (.iconst 0, 1) := by decide +kernel
theorem dX9_sides_93 : decode cX9_sides 93 = .ok (.ior, 1) := by decide +kernel
theorem dX9_sides_94 : decode cX9_sides 94 = .ok (.istore_n 1, 1) := by decide +kernel
theorem dX9_sides_95 : decode cX9_sides 95 = .ok (.iinc 2 1, 3) := by decide +kernel
theorem dX9_sides_98 : decode cX9_sides 98 = .ok (.goto (-30), 3) := by decide +kernel
theorem dX9_sides_101 : decode cX9_sides 101 = .ok (.iload_n 1, 1) := by decide +kernel
theorem dX9_sides_102 : decode cX9_sides 102 = .ok (.ireturn, 1) := by decide +kernel
theorem dX9_metBy_0 : decode cX9_metBy 0 = .ok (.iconst 0, 1) := by decide +kernel
theorem dX9_metBy_1 : decode cX9_metBy 1 = .ok (.istore_n 3, 1) := by decide +kernel
theorem dX9_metBy_2 : decode cX9_metBy 2 = .ok (.iconst 0, 1) := by decide +kernel
theorem dX9_metBy_3 : decode cX9_metBy 3 = .ok (.istore 4, 2) := by decide +kernel
theorem dX9_metBy_5 : decode cX9_metBy 5 = .ok (.iload 4, 2) := by decide +kernel
theorem dX9_metBy_7 : decode cX9_metBy 7 = .ok (.aload_n 0, 1) := by decide +kernel
theorem dX9_metBy_8 : decode cX9_metBy 8 = .ok (.getfield 72, 3) := by decide +kernel
theorem dX9_metBy_11 : decode cX9_metBy 11 = .ok (.if_icmp .ge 62, 3) := by decide +kernel
theorem dX9_metBy_14 : decode cX9_metBy 14 = .ok (.iload_n 1, 1) := by decide +kernel
theorem dX9_metBy_15 : decode cX9_metBy 15 = .ok (.iload 4, 2) := by decide +kernel
theorem dX9_metBy_17 : decode cX9_metBy 17 = .ok (.invokestatic 114, 3) := by decide +kernel
theorem dX9_metBy_20 : decode cX9_metBy 20 = .ok (.ifCond .eq 47, 3) := by decide +kernel
theorem dX9_metBy_23 : decode cX9_metBy 23 = .ok (.iconst 1, 1) := by decide +kernel
theorem dX9_metBy_24 : decode cX9_metBy 24 = .ok (.aload_n 0, 1) := by decide +kernel
theorem dX9_metBy_25 : decode cX9_metBy 25 = .ok (.getfield 17, 3) := by decide +kernel
theorem dX9_metBy_28 : decode cX9_metBy 28 = .ok (.iload 4, 2) := by decide +kernel
theorem dX9_metBy_30 : decode cX9_metBy 30 = .ok (.iaload, 1) := by decide +kernel
theorem dX9_metBy_31 : decode cX9_metBy 31 = .ok (.ishl, 1) := by decide +kernel
theorem dX9_metBy_32 : decode cX9_metBy 32 = .ok (.iconst 1, 1) := by decide +kernel
theorem dX9_metBy_33 : decode cX9_metBy 33 = .ok (.aload_n 0, 1) := by decide +kernel
theorem dX9_metBy_34 : decode cX9_metBy 34 = .ok (.getfield 20, 3) := by decide +kernel
theorem dX9_metBy_37 : decode cX9_metBy 37 = .ok (.iload 4, 2) := by decide +kernel
theorem dX9_metBy_39 : decode cX9_metBy 39 = .ok (.iaload, 1) := by decide +kernel
theorem dX9_metBy_40 : decode cX9_metBy 40 = .ok (.ishl, 1) := by decide +kernel
theorem dX9_metBy_41 : decode cX9_metBy 41 = .ok (.ior, 1) := by decide +kernel
theorem dX9_metBy_42 : decode cX9_metBy 42 = .ok (.istore 5, 2) := by decide +kernel
theorem dX9_metBy_44 : decode cX9_metBy 44 = .ok (.iload_n 3, 1) := by decide +kernel
theorem dX9_metBy_45 : decode cX9_metBy 45 = .ok (.iload 5, 2) := by decide +kernel
theorem dX9_metBy_47 : decode cX9_metBy 47 = .ok (.iand, 1) := by decide +kernel
theorem dX9_metBy_48 : decode cX9_metBy 48 = .ok (.ifCond .ne 12, 3) := by decide +kernel
theorem dX9_metBy_51 : decode cX9_metBy 51 = .ok (.iload 5, 2) := by decide +kernel
theorem dX9_metBy_53 : decode cX9_metBy 53 = .ok (.iload_n 2, 1) := by decide +kernel
theorem dX9_metBy_54 : decode cX9_metBy 54 = .ok (.iconst (-1), 1) := by decide +kernel
theorem dX9_metBy_55 : decode cX9_metBy 55 = .ok (.ixor, 1) := by decide +kernel
theorem dX9_metBy_56 : decode cX9_metBy 56 = .ok (.iand, 1) := by decide +kernel
theorem dX9_metBy_57 : decode cX9_metBy 57 = .ok (.ifCond .eq 5, 3) := by decide +kernel
theorem dX9_metBy_60 : decode cX9_metBy 60 = .ok (.iconst (-1), 1) := by decide +kernel
theorem dX9_metBy_61 : decode cX9_metBy 61 = .ok (.ireturn, 1) := by decide +kernel
theorem dX9_metBy_62 : decode cX9_metBy 62 = .ok (.iload_n 3, 1) := by decide +kernel
theorem dX9_metBy_63 : decode cX9_metBy 63 = .ok (.iload 5, 2) := by decide +kernel
theorem dX9_metBy_65 : decode cX9_metBy 65 = .ok (.ior, 1) := by decide +kernel
theorem dX9_metBy_66 : decode cX9_metBy 66 = .ok (.istore_n 3, 1) := by decide +kernel
theorem dX9_metBy_67 : decode cX9_metBy 67 = .ok (.iinc 4 1, 3) := by decide +kernel
theorem dX9_metBy_70 : decode cX9_metBy 70 = .ok (.goto (-65), 3) := by decide +kernel
theorem dX9_metBy_73 : decode cX9_metBy 73 = .ok (.iload_n 3, 1) := by decide +kernel
theorem dX9_metBy_74 : decode cX9_metBy 74 = .ok (.ireturn, 1) := by decide +kernel
theorem dX9_pairingOf_0 : decode cX9_pairingOf 0 = .ok (.iconst 0, 1) := by decide +kernel
theorem dX9_pairingOf_1 : decode cX9_pairingOf 1 = .ok (.istore_n 2, 1) := by decide +kernel
theorem dX9_pairingOf_2 : decode cX9_pairingOf 2 = .ok (.aload_n 0, 1) := by decide +kernel
theorem dX9_pairingOf_3 : decode cX9_pairingOf 3 = .ok (.iconst 0, 1) := by decide +kernel
theorem dX9_pairingOf_4 : decode cX9_pairingOf 4 = .ok (.putfield 117, 3) := by decide +kernel
theorem dX9_pairingOf_7 : decode cX9_pairingOf 7 = .ok (.aload_n 0, 1) := by decide +kernel
theorem dX9_pairingOf_8 : decode cX9_pairingOf 8 = .ok (.iconst 0, 1) := by decide +kernel
theorem dX9_pairingOf_9 : decode cX9_pairingOf 9 = .ok (.putfield 120, 3) := by decide +kernel
theorem dX9_pairingOf_12 : decode cX9_pairingOf 12 = .ok (.iconst 0, 1) := by decide +kernel
theorem dX9_pairingOf_13 : decode cX9_pairingOf 13 = .ok (.istore_n 3, 1) := by decide +kernel
theorem dX9_pairingOf_14 : decode cX9_pairingOf 14 = .ok (.iload_n 3, 1) := by decide +kernel
theorem dX9_pairingOf_15 : decode cX9_pairingOf 15 = .ok (.iconst 1, 1) := by decide +kernel
theorem dX9_pairingOf_16 : decode cX9_pairingOf 16 = .ok (.aload_n 0, 1) := by decide +kernel
theorem dX9_pairingOf_17 : decode cX9_pairingOf 17 = .ok (.getfield 72, 3) := by decide +kernel
theorem dX9_pairingOf_20 : decode cX9_pairingOf 20 = .ok (.ishl, 1) := by decide +kernel
theorem dX9_pairingOf_21 : decode cX9_pairingOf 21 = .ok (.if_icmp .ge 79, 3) := by decide +kernel
theorem dX9_pairingOf_24 : decode cX9_pairingOf 24 = .ok (.iload_n 3, 1) := by decide +kernel
theorem dX9_pairingOf_25 : decode cX9_pairingOf 25 = .ok (.invokestatic 123, 3) := by decide +kernel
theorem dX9_pairingOf_28 : decode cX9_pairingOf 28 = .ok (.aload_n 0, 1) := by decide +kernel
theorem dX9_pairingOf_29 : decode cX9_pairingOf 29 = .ok (.getfield 117, 3) := by decide +kernel
theorem dX9_pairingOf_32 : decode cX9_pairingOf 32 = .ok (.if_icmp .ge 7, 3) := by decide +kernel
theorem dX9_pairingOf_35 : decode cX9_pairingOf 35 = .ok (.iconst (-1), 1) := by decide +kernel
theorem dX9_pairingOf_36 : decode cX9_pairingOf 36 = .ok (.goto 9, 3) := by decide +kernel
theorem dX9_pairingOf_39 : decode cX9_pairingOf 39 = .ok (.aload_n 0, 1) := by decide +kernel
theorem dX9_pairingOf_40 : decode cX9_pairingOf 40 = .ok (.iload_n 3, 1) := by decide +kernel
theorem dX9_pairingOf_41 : decode cX9_pairingOf 41 = .ok (.iload_n 1, 1) := by decide +kernel
theorem dX9_pairingOf_42 : decode cX9_pairingOf 42 = .ok (.invokevirtual 126, 3) := by decide +kernel
theorem dX9_pairingOf_45 : decode cX9_pairingOf 45 = .ok (.istore 4, 2) := by decide +kernel
theorem dX9_pairingOf_47 : decode cX9_pairingOf 47 = .ok (.iload 4, 2) := by decide +kernel
theorem dX9_pairingOf_49 : decode cX9_pairingOf 49 = .ok (.iconst (-1), 1) := by decide +kernel
theorem dX9_pairingOf_50 : decode cX9_pairingOf 50 = .ok (.if_icmp .ne 6, 3) := by decide +kernel
theorem dX9_pairingOf_53 : decode cX9_pairingOf 53 = .ok (.goto 41, 3) := by decide +kernel
theorem dX9_pairingOf_56 : decode cX9_pairingOf 56 = .ok (.iload_n 3, 1) := by decide +kernel
theorem dX9_pairingOf_57 : decode cX9_pairingOf 57 = .ok (.invokestatic 123, 3) := by decide +kernel
theorem dX9_pairingOf_60 : decode cX9_pairingOf 60 = .ok (.aload_n 0, 1) := by decide +kernel
theorem dX9_pairingOf_61 : decode cX9_pairingOf 61 = .ok (.getfield 117, 3) := by decide +kernel
theorem dX9_pairingOf_64 : decode cX9_pairingOf 64 = .ok (.if_icmp .le 19, 3) := by decide +kernel
theorem dX9_pairingOf_67 : decode cX9_pairingOf 67 = .ok (.aload_n 0, 1) := by decide +kernel
theorem dX9_pairingOf_68 : decode cX9_pairingOf 68 = .ok (.iload_n 3, 1) := by decide +kernel
theorem dX9_pairingOf_69 : decode cX9_pairingOf 69 = .ok (.invokestatic 123, 3) := by decide +kernel
theorem dX9_pairingOf_72 : decode cX9_pairingOf 72 = .ok (.putfield 117, 3) := by decide +kernel
theorem dX9_pairingOf_75 : decode cX9_pairingOf 75 = .ok (.iload_n 3, 1) := by decide +kernel
theorem dX9_pairingOf_76 : decode cX9_pairingOf 76 = .ok (.istore_n 2, 1) := by decide +kernel
theorem dX9_pairingOf_77 : decode cX9_pairingOf 77 = .ok (.aload_n 0, 1) := by decide +kernel
theorem dX9_pairingOf_78 : decode cX9_pairingOf 78 = .ok (.iload 4, 2) := by decide +kernel
theorem dX9_pairingOf_80 : decode cX9_pairingOf 80 = .ok (.putfield 120, 3) := by decide +kernel
theorem dX9_pairingOf_83 : decode cX9_pairingOf 83 = .ok (.aload_n 0, 1) := by decide +kernel
theorem dX9_pairingOf_84 : decode cX9_pairingOf 84 = .ok (.dup, 1) := by decide +kernel
theorem dX9_pairingOf_85 : decode cX9_pairingOf 85 = .ok (.getfield 120, 3) := by decide +kernel
theorem dX9_pairingOf_88 : decode cX9_pairingOf 88 = .ok (.iload 4, 2) := by decide +kernel
theorem dX9_pairingOf_90 : decode cX9_pairingOf 90 = .ok (.iand, 1) := by decide +kernel
theorem dX9_pairingOf_91 : decode cX9_pairingOf 91 = .ok (.putfield 120, 3) := by decide +kernel
theorem dX9_pairingOf_94 : decode cX9_pairingOf 94 = .ok (.iinc 3 1, 3) := by decide +kernel
theorem dX9_pairingOf_97 : decode cX9_pairingOf 97 = .ok (.goto (-83), 3) := by decide +kernel
theorem dX9_pairingOf_100 : decode cX9_pairingOf 100 = .ok (.iload_n 2, 1) := by decide +kernel
theorem dX9_pairingOf_101 : decode cX9_pairingOf 101 = .ok (.ireturn, 1) := by decide +kernel
theorem dX9_pairing_0 : decode cX9_pairing 0 = .ok (.iload_n 1, 1) := by decide +kernel
theorem dX9_pairing_1 : decode cX9_pairing 1 = .ok (.aload_n 0, 1) := by decide +kernel
theorem dX9_pairing_2 : decode cX9_pairing 2 = .ok (.invokevirtual 129, 3) := by decide +kernel
theorem dX9_pairing_5 : decode cX9_pairing 5 = .ok (.iconst (-1), 1) := by decide +kernel
theorem dX9_pairing_6 : decode cX9_pairing 6 = .ok (.ixor, 1) := by decide +kernel
theorem dX9_pairing_7 : decode cX9_pairing 7 = .ok (.iand, 1) := by decide +kernel
theorem dX9_pairing_8 : decode cX9_pairing 8 = .ok (.ifCond .ne 12, 3) := by decide +kernel
theorem dX9_pairing_11 : decode cX9_pairing 11 = .ok (.iload_n 2, 1) := by decide +kernel
theorem dX9_pairing_12 : decode cX9_pairing 12 = .ok (.iconst 0, 1) := by decide +kernel
theorem dX9_pairing_13 : decode cX9_pairing 13 = .ok (.iconst 1, 1) := by decide +kernel
theorem dX9_pairing_14 : decode cX9_pairing 14 = .ok (.invokestatic 68, 3) := by decide +kernel
theorem dX9_pairing_17 : decode cX9_pairing 17 = .ok (.ifCond .ne 9, 3) := by decide +kernel
theorem dX9_pairing_20 : decode cX9_pairing 20 = .ok (.aload_n 0, 1) := by decide +kernel
theorem dX9_pairing_21 : decode cX9_pairing 21 = .ok (.iconst 1, 1) := by decide +kernel
theorem dX9_pairing_22 : decode cX9_pairing 22 = .ok (.invokevirtual 79, 3) := by decide +kernel
theorem dX9_pairing_25 : decode cX9_pairing 25 = .ok (.ireturn, 1) := by decide +kernel
theorem dX9_pairing_26 : decode cX9_pairing 26 = .ok (.aload_n 0, 1) := by decide +kernel
theorem dX9_pairing_27 : decode cX9_pairing 27 = .ok (.iload_n 1, 1) := by decide +kernel
theorem dX9_pairing_28 : decode cX9_pairing 28 = .ok (.invokevirtual 133, 3) := by decide +kernel
theorem dX9_pairing_31 : decode cX9_pairing 31 = .ok (.istore_n 3, 1) := by decide +kernel
theorem dX9_pairing_32 : decode cX9_pairing 32 = .ok (.iload_n 2, 1) := by decide +kernel
theorem dX9_pairing_33 : decode cX9_pairing 33 = .ok (.ifCond .ne 10, 3) := by decide +kernel
theorem dX9_pairing_36 : decode cX9_pairing 36 = .ok (.aload_n 0, 1) := by decide +kernel
theorem dX9_pairing_37 : decode cX9_pairing 37 = .ok (.getfield 117, 3) := by decide +kernel
theorem dX9_pairing_40 : decode cX9_pairing 40 = .ok (.goto 4, 3) := by decide +kernel
theorem dX9_pairing_43 : decode cX9_pairing 43 = .ok (.iload_n 3, 1) := by decide +kernel
theorem dX9_pairing_44 : decode cX9_pairing 44 = .ok (.ireturn, 1) := by decide +kernel
theorem dX9_needed_0 : decode cX9_needed 0 = .ok (.aload_n 0, 1) := by decide +kernel
theorem dX9_needed_1 : decode cX9_needed 1 = .ok (.aload_n 0, 1) := by decide +kernel
theorem dX9_needed_2 : decode cX9_needed 2 = .ok (.invokevirtual 129, 3) := by decide +kernel
theorem dX9_needed_5 : decode cX9_needed 5 = .ok (.invokevirtual 133, 3) := by decide +kernel
theorem dX9_needed_8 : decode cX9_needed 8 = .ok (.istore_n 1, 1) := by decide +kernel
theorem dX9_needed_9 : decode cX9_needed 9 = .ok (.aload_n 0, 1) := by decide +kernel
theorem dX9_needed_10 : decode cX9_needed 10 = .ok (.getfield 120, 3) := by decide +kernel
theorem dX9_needed_13 : decode cX9_needed 13 = .ok (.ireturn, 1) := by decide +kernel
theorem dX9_isKernel_0 : decode cX9_isKernel 0 = .ok (.iconst 0, 1) := by decide +kernel
theorem dX9_isKernel_1 : decode cX9_isKernel 1 = .ok (.istore_n 2, 1) := by decide +kernel
theorem dX9_isKernel_2 : decode cX9_isKernel 2 = .ok (.iconst 0, 1) := by decide +kernel
theorem dX9_isKernel_3 : decode cX9_isKernel 3 = .ok (.istore_n 3, 1) := by decide +kernel
theorem dX9_isKernel_4 : decode cX9_isKernel 4 = .ok (.iload_n 3, 1) := by decide +kernel
theorem dX9_isKernel_5 : decode cX9_isKernel 5 = .ok (.aload_n 0, 1) := by decide +kernel
theorem dX9_isKernel_6 : decode cX9_isKernel 6 = .ok (.getfield 72, 3) := by decide +kernel
theorem dX9_isKernel_9 : decode cX9_isKernel 9 = .ok (.if_icmp .ge 123, 3) := by decide +kernel
theorem dX9_isKernel_12 : decode cX9_isKernel 12 = .ok (.aload_n 0, 1) := by decide +kernel
theorem dX9_isKernel_13 : decode cX9_isKernel 13 = .ok (.getfield 17, 3) := by decide +kernel
theorem dX9_isKernel_16 : decode cX9_isKernel 16 = .ok (.iload_n 3, 1) := by decide +kernel
theorem dX9_isKernel_17 : decode cX9_isKernel 17 = .ok (.iaload, 1) := by decide +kernel
theorem dX9_isKernel_18 : decode cX9_isKernel 18 = .ok (.istore 4, 2) := by decide +kernel
theorem dX9_isKernel_20 : decode cX9_isKernel 20 = .ok (.aload_n 0, 1) := by decide +kernel
theorem dX9_isKernel_21 : decode cX9_isKernel 21 = .ok (.getfield 20, 3) := by decide +kernel
theorem dX9_isKernel_24 : decode cX9_isKernel 24 = .ok (.iload_n 3, 1) := by decide +kernel
theorem dX9_isKernel_25 : decode cX9_isKernel 25 = .ok (.iaload, 1) := by decide +kernel
theorem dX9_isKernel_26 : decode cX9_isKernel 26 = .ok (.istore 5, 2) := by decide +kernel
theorem dX9_isKernel_28 : decode cX9_isKernel 28 = .ok (.aload_n 0, 1) := by decide +kernel
theorem dX9_isKernel_29 : decode cX9_isKernel 29 = .ok (.iload_n 3, 1) := by decide +kernel
theorem dX9_isKernel_30 : decode cX9_isKernel 30 = .ok (.iload 4, 2) := by decide +kernel
theorem dX9_isKernel_32 : decode cX9_isKernel 32 = .ok (.invokevirtual 105, 3) := by decide +kernel
theorem dX9_isKernel_35 : decode cX9_isKernel 35 = .ok (.istore 6, 2) := by decide +kernel
theorem dX9_isKernel_37 : decode cX9_isKernel 37 = .ok (.aload_n 0, 1) := by decide +kernel
theorem dX9_isKernel_38 : decode cX9_isKernel 38 = .ok (.iload_n 3, 1) := by decide +kernel
theorem dX9_isKernel_39 : decode cX9_isKernel 39 = .ok (.iload 5, 2) := by decide +kernel
theorem dX9_isKernel_41 : decode cX9_isKernel 41 = .ok (.invokevirtual 105, 3) := by decide +kernel
theorem dX9_isKernel_44 : decode cX9_isKernel 44 = .ok (.istore 7, 2) := by decide +kernel
theorem dX9_isKernel_46 : decode cX9_isKernel 46 = .ok (.iload_n 1, 1) := by decide +kernel
theorem dX9_isKernel_47 : decode cX9_isKernel 47 = .ok (.iload 4, 2) := by decide +kernel
theorem dX9_isKernel_49 : decode cX9_isKernel 49 = .ok (.invokestatic 114, 3) := by decide +kernel
theorem dX9_isKernel_52 : decode cX9_isKernel 52 = .ok (.ifCond .eq 24, 3) := by decide +kernel
theorem dX9_isKernel_55 : decode cX9_isKernel 55 = .ok (.iload_n 1, 1) := by decide +kernel
theorem dX9_isKernel_56 : decode cX9_isKernel 56 = .ok (.iload 5, 2) := by decide +kernel
theorem dX9_isKernel_58 : decode cX9_isKernel 58 = .ok (.invokestatic 114, 3) := by decide +kernel
theorem dX9_isKernel_61 : decode cX9_isKernel 61 = .ok (.ifCond .eq 15, 3) := by decide +kernel
theorem dX9_isKernel_64 : decode cX9_isKernel 64 = .ok (.iload 6, 2) := by decide +kernel
theorem dX9_isKernel_66 : decode cX9_isKernel 66 = .ok (.ifCond .ne 8, 3) := by decide +kernel
theorem dX9_isKernel_69 : decode cX9_isKernel 69 = .ok (.iload 7, 2) := by decide +kernel
theorem dX9_isKernel_71 : decode cX9_isKernel 71 = .ok (.ifCond .eq 5, 3) := by decide +kernel
theorem dX9_isKernel_74 : decode cX9_isKernel 74 = .ok (.iconst 0, 1) := by decide +kernel
theorem dX9_isKernel_75 : decode cX9_isKernel 75 = .ok (.ireturn, 1) := by decide +kernel
theorem dX9_isKernel_76 : decode cX9_isKernel 76 = .ok (.iload_n 2, 1) := by decide +kernel
theorem dX9_isKernel_77 : decode cX9_isKernel 77 = .ok (.iload 6, 2) := by decide +kernel
theorem dX9_isKernel_79 : decode cX9_isKernel 79 = .ok (.ifCond .eq 19, 3) := by decide +kernel
theorem dX9_isKernel_82 : decode cX9_isKernel 82 = .ok (.iload_n 1, 1) := by decide +kernel
theorem dX9_isKernel_83 : decode cX9_isKernel 83 = .ok (.iload 5, 2) := by decide +kernel
theorem dX9_isKernel_85 : decode cX9_isKernel 85 = .ok (.invokestatic 114, 3) := by decide +kernel
theorem dX9_isKernel_88 : decode cX9_isKernel 88 = .ok (.ifCond .eq 10, 3) := by decide +kernel
theorem dX9_isKernel_91 : decode cX9_isKernel 91 = .ok (.iconst 1, 1) := by decide +kernel
theorem dX9_isKernel_92 : decode cX9_isKernel 92 = .ok (.iload 4, 2) := by decide +kernel
theorem dX9_isKernel_94 : decode cX9_isKernel 94 = .ok (.ishl, 1) := by decide +kernel
theorem dX9_isKernel_95 : decode cX9_isKernel 95 = .ok (.goto 4, 3) := by decide +kernel
theorem dX9_isKernel_98 : decode cX9_isKernel 98 = .ok (.iconst 0, 1) := by decide +kernel
theorem dX9_isKernel_99 : decode cX9_isKernel 99 = .ok (.ior, 1) := by decide +kernel
theorem dX9_isKernel_100 : decode cX9_isKernel 100 = .ok (.istore_n 2, 1) := by decide +kernel
theorem dX9_isKernel_101 : decode cX9_isKernel 101 = .ok (.iload_n 2, 1) := by decide +kernel
theorem dX9_isKernel_102 : decode cX9_isKernel 102 = .ok (.iload 7, 2) := by decide +kernel
theorem dX9_isKernel_104 : decode cX9_isKernel 104 = .ok (.ifCond .eq 19, 3) := by decide +kernel
theorem dX9_isKernel_107 : decode cX9_isKernel 107 = .ok (.iload_n 1, 1) := by decide +kernel
theorem dX9_isKernel_108 : decode cX9_isKernel 108 = .ok (.iload 4, 2) := by decide +kernel
theorem dX9_isKernel_110 : decode cX9_isKernel 110 = .ok (.invokestatic 114, 3) := by decide +kernel
theorem dX9_isKernel_113 : decode cX9_isKernel 113 = .ok (.ifCond .eq 10, 3) := by decide +kernel
theorem dX9_isKernel_116 : decode cX9_isKernel 116 = .ok (.iconst 1, 1) := by decide +kernel
theorem dX9_isKernel_117 : decode cX9_isKernel 117 = .ok (.iload 5, 2) := by decide +kernel
theorem dX9_isKernel_119 : decode cX9_isKernel 119 = .ok (.ishl, 1) := by decide +kernel
theorem dX9_isKernel_120 : decode cX9_isKernel 120 = .ok (.goto 4, 3) := by decide +kernel
theorem dX9_isKernel_123 : decode cX9_isKernel 123 = .ok (.iconst 0, 1) := by decide +kernel
theorem dX9_isKernel_124 : decode cX9_isKernel 124 = .ok (.ior, 1) := by decide +kernel
theorem dX9_isKernel_125 : decode cX9_isKernel 125 = .ok (.istore_n 2, 1) := by decide +kernel
theorem dX9_isKernel_126 : decode cX9_isKernel 126 = .ok (.iinc 3 1, 3) := by decide +kernel
theorem dX9_isKernel_129 : decode cX9_isKernel 129 = .ok (.goto (-125), 3) := by decide +kernel
theorem dX9_isKernel_132 : decode cX9_isKernel 132 = .ok (.iload_n 2, 1) := by decide +kernel
theorem dX9_isKernel_133 : decode cX9_isKernel 133 = .ok (.iload_n 1, 1) := by decide +kernel
theorem dX9_isKernel_134 : decode cX9_isKernel 134 = .ok (.ior, 1) := by decide +kernel
theorem dX9_isKernel_135 : decode cX9_isKernel 135 = .ok (.aload_n 0, 1) := by decide +kernel
theorem dX9_isKernel_136 : decode cX9_isKernel 136 = .ok (.invokevirtual 129, 3) := by decide +kernel
theorem dX9_isKernel_139 : decode cX9_isKernel 139 = .ok (.if_icmp .ne 7, 3) := by decide +kernel
theorem dX9_isKernel_142 : decode cX9_isKernel 142 = .ok (.iconst 1, 1) := by decide +kernel
theorem dX9_isKernel_143 : decode cX9_isKernel 143 = .ok (.goto 4, 3) := by decide +kernel
theorem dX9_isKernel_146 : decode cX9_isKernel 146 = .ok (.iconst 0, 1) := by decide +kernel
theorem dX9_isKernel_147 : decode cX9_isKernel 147 = .ok (.ireturn, 1) := by decide +kernel
theorem dX9_kernel_0 : decode cX9_kernel 0 = .ok (.iload_n 1, 1) := by decide +kernel
theorem dX9_kernel_1 : decode cX9_kernel 1 = .ok (.iconst (-1), 1) := by decide +kernel
theorem dX9_kernel_2 : decode cX9_kernel 2 = .ok (.if_icmp .ge 9, 3) := by decide +kernel
theorem dX9_kernel_5 : decode cX9_kernel 5 = .ok (.aload_n 0, 1) := by decide +kernel
theorem dX9_kernel_6 : decode cX9_kernel 6 = .ok (.iconst 1, 1) := by decide +kernel
theorem dX9_kernel_7 : decode cX9_kernel 7 = .ok (.invokevirtual 79, 3) := by decide +kernel
theorem dX9_kernel_10 : decode cX9_kernel 10 = .ok (.ireturn, 1) := by decide +kernel
theorem dX9_kernel_11 : decode cX9_kernel 11 = .ok (.iconst 0, 1) := by decide +kernel
theorem dX9_kernel_12 : decode cX9_kernel 12 = .ok (.istore_n 2, 1) := by decide +kernel
theorem dX9_kernel_13 : decode cX9_kernel 13 = .ok (.iconst 0, 1) := by decide +kernel
theorem dX9_kernel_14 : decode cX9_kernel 14 = .ok (.istore_n 3, 1) := by decide +kernel
theorem dX9_kernel_15 : decode cX9_kernel 15 = .ok (.iload_n 3, 1) := by decide +kernel
theorem dX9_kernel_16 : decode cX9_kernel 16 = .ok (.aload_n 0, 1) := by decide +kernel
theorem dX9_kernel_17 : decode cX9_kernel 17 = .ok (.invokevirtual 129, 3) := by decide +kernel
theorem dX9_kernel_20 : decode cX9_kernel 20 = .ok (.if_icmp .gt 27, 3) := by decide +kernel
theorem dX9_kernel_23 : decode cX9_kernel 23 = .ok (.aload_n 0, 1) := by decide +kernel
theorem dX9_kernel_24 : decode cX9_kernel 24 = .ok (.iload_n 3, 1) := by decide +kernel
theorem dX9_kernel_25 : decode cX9_kernel 25 = .ok (.invokevirtual 136, 3) := by decide +kernel
theorem dX9_kernel_28 : decode cX9_kernel 28 = .ok (.ifCond .eq 13, 3) := by decide +kernel
theorem dX9_kernel_31 : decode cX9_kernel 31 = .ok (.iload_n 2, 1) := by decide +kernel
theorem dX9_kernel_32 : decode cX9_kernel 32 = .ok (.iload_n 1, 1) := by decide +kernel
theorem dX9_kernel_33 : decode cX9_kernel 33 = .ok (.if_icmp .ne 5, 3) := by decide +kernel
theorem dX9_kernel_36 : decode cX9_kernel 36 = .ok (.iload_n 3, 1) := by decide +kernel
theorem dX9_kernel_37 : decode cX9_kernel 37 = .ok (.ireturn, 1) := by decide +kernel
theorem dX9_kernel_38 : decode cX9_kernel 38 = .ok (.iinc 2 1, 3) := by decide +kernel
theorem dX9_kernel_41 : decode cX9_kernel 41 = .ok (.iinc 3 1, 3) := by decide +kernel
theorem dX9_kernel_44 : decode cX9_kernel 44 = .ok (.goto (-29), 3) := by decide +kernel
theorem dX9_kernel_47 : decode cX9_kernel 47 = .ok (.iload_n 1, 1) := by decide +kernel
theorem dX9_kernel_48 : decode cX9_kernel 48 = .ok (.iconst (-1), 1) := by decide +kernel
theorem dX9_kernel_49 : decode cX9_kernel 49 = .ok (.if_icmp .ne 7, 3) := by decide +kernel
theorem dX9_kernel_52 : decode cX9_kernel 52 = .ok (.iload_n 2, 1) := by decide +kernel
theorem dX9_kernel_53 : decode cX9_kernel 53 = .ok (.goto 8, 3) := by decide +kernel
theorem dX9_kernel_56 : decode cX9_kernel 56 = .ok (.aload_n 0, 1) := by decide +kernel
theorem dX9_kernel_57 : decode cX9_kernel 57 = .ok (.iconst 2, 1) := by decide +kernel
theorem dX9_kernel_58 : decode cX9_kernel 58 = .ok (.invokevirtual 79, 3) := by decide +kernel
theorem dX9_kernel_61 : decode cX9_kernel 61 = .ok (.ireturn, 1) := by decide +kernel
theorem dX9_feed_0 : decode cX9_feed 0 = .ok (.iload_n 3, 1) := by decide +kernel
theorem dX9_feed_1 : decode cX9_feed 1 = .ok (.iconst 1, 1) := by decide +kernel
theorem dX9_feed_2 : decode cX9_feed 2 = .ok (.bipush 8, 2) := by decide +kernel
theorem dX9_feed_4 : decode cX9_feed 4 = .ok (.invokestatic 68, 3) := by decide +kernel
theorem dX9_feed_7 : decode cX9_feed 7 = .ok (.ifCond .ne 9, 3) := by decide +kernel
theorem dX9_feed_10 : decode cX9_feed 10 = .ok (.aload_n 0, 1) := by decide +kernel
theorem dX9_feed_11 : decode cX9_feed 11 = .ok (.iconst 1, 1) := by decide +kernel
theorem dX9_feed_12 : decode cX9_feed 12 = .ok (.invokevirtual 79, 3) := by decide +kernel
theorem dX9_feed_15 : decode cX9_feed 15 = .ok (.ireturn, 1) := by decide +kernel
theorem dX9_feed_16 : decode cX9_feed 16 = .ok (.aload_n 0, 1) := by decide +kernel
theorem dX9_feed_17 : decode cX9_feed 17 = .ok (.getfield 139, 3) := by decide +kernel
theorem dX9_feed_20 : decode cX9_feed 20 = .ok (.iload_n 3, 1) := by decide +kernel
theorem dX9_feed_21 : decode cX9_feed 21 = .ok (.iadd, 1) := by decide +kernel
theorem dX9_feed_22 : decode cX9_feed 22 = .ok (.bipush 60, 2) := by decide +kernel
theorem dX9_feed_24 : decode cX9_feed 24 = .ok (.if_icmp .le 9, 3) := by decide +kernel
theorem dX9_feed_27 : decode cX9_feed 27 = .ok (.aload_n 0, 1) := by decide +kernel
theorem dX9_feed_28 : decode cX9_feed 28 = .ok (.iconst 4, 1) := by decide +kernel
theorem dX9_feed_29 : decode cX9_feed 29 = .ok (.invokevirtual 79, 3) := by decide +kernel
theorem dX9_feed_32 : decode cX9_feed 32 = .ok (.ireturn, 1) := by decide +kernel
theorem dX9_feed_33 : decode cX9_feed 33 = .ok (.iconst 0, 1) := by decide +kernel
theorem dX9_feed_34 : decode cX9_feed 34 = .ok (.istore 4, 2) := by decide +kernel
theorem dX9_feed_36 : decode cX9_feed 36 = .ok (.iload 4, 2) := by decide +kernel
theorem dX9_feed_38 : decode cX9_feed 38 = .ok (.iload_n 3, 1) := by decide +kernel
theorem dX9_feed_39 : decode cX9_feed 39 = .ok (.if_icmp .ge 40, 3) := by decide +kernel
theorem dX9_feed_42 : decode cX9_feed 42 = .ok (.aload_n 0, 1) := by decide +kernel
theorem dX9_feed_43 : decode cX9_feed 43 = .ok (.getfield 29, 3) := by decide +kernel
theorem dX9_feed_46 : decode cX9_feed 46 = .ok (.aload_n 0, 1) := by decide +kernel
theorem dX9_feed_47 : decode cX9_feed 47 = .ok (.getfield 139, 3) := by decide +kernel
theorem dX9_feed_50 : decode cX9_feed 50 = .ok (.lload_n 1, 1) := by decide +kernel
theorem dX9_feed_51 : decode cX9_feed 51 = .ok (.bipush 8, 2) := by decide +kernel
theorem dX9_feed_53 : decode cX9_feed 53 = .ok (.iload 4, 2) := by decide +kernel
theorem dX9_feed_55 : decode cX9_feed 55 = .ok (.imul, 1) := by decide +kernel
theorem dX9_feed_56 : decode cX9_feed 56 = .ok (.lshr, 1) := by decide +kernel
theorem dX9_feed_57 : decode cX9_feed 57 = .ok (.ldc2_w 142, 3) := by decide +kernel
theorem dX9_feed_60 : decode cX9_feed 60 = .ok (.land, 1) := by decide +kernel
theorem dX9_feed_61 : decode cX9_feed 61 = .ok (.l2i, 1) := by decide +kernel
theorem dX9_feed_62 : decode cX9_feed 62 = .ok (.iastore, 1) := by decide +kernel
theorem dX9_feed_63 : decode cX9_feed 63 = .ok (.aload_n 0, 1) := by decide +kernel
theorem dX9_feed_64 : decode cX9_feed 64 = .ok (.dup, 1) := by decide +kernel
theorem dX9_feed_65 : decode cX9_feed 65 = .ok (.getfield 139, 3) := by decide +kernel
theorem dX9_feed_68 : decode cX9_feed 68 = .ok (.iconst 1, 1) := by decide +kernel
theorem dX9_feed_69 : decode cX9_feed 69 = .ok (.iadd, 1) := by decide +kernel
theorem dX9_feed_70 : decode cX9_feed 70 = .ok (.putfield 139, 3) := by decide +kernel
theorem dX9_feed_73 : decode cX9_feed 73 = .ok (.iinc 4 1, 3) := by decide +kernel
theorem dX9_feed_76 : decode cX9_feed 76 = .ok (.goto (-40), 3) := by decide +kernel
theorem dX9_feed_79 : decode cX9_feed 79 = .ok (.aload_n 0, 1) := by decide +kernel
theorem dX9_feed_80 : decode cX9_feed 80 = .ok (.getfield 139, 3) := by decide +kernel
theorem dX9_feed_83 : decode cX9_feed 83 = .ok (.ireturn, 1) := by decide +kernel
theorem dX9_here_0 : decode cX9_here 0 = .ok (.iload_n 1, 1) := by decide +kernel
theorem dX9_here_1 : decode cX9_here 1 = .ok (.aload_n 0, 1) := by decide +kernel
theorem dX9_here_2 : decode cX9_here 2 = .ok (.getfield 139, 3) := by decide +kernel
theorem dX9_here_5 : decode cX9_here 5 = .ok (.if_icmp .ge 12, 3) := by decide +kernel
theorem dX9_here_8 : decode cX9_here 8 = .ok (.aload_n 0, 1) := by decide +kernel
theorem dX9_here_9 : decode cX9_here 9 = .ok (.getfield 29, 3) := by decide +kernel
theorem dX9_here_12 : decode cX9_here 12 = .ok (.iload_n 1, 1) := by decide +kernel
theorem dX9_here_13 : decode cX9_here 13 = .ok (.iaload, 1) := by decide +kernel
theorem dX9_here_14 : decode cX9_here 14 = .ok (.goto 4, 3) := by decide +kernel
theorem dX9_here_17 : decode cX9_here 17 = .ok (.iconst (-1), 1) := by decide +kernel
theorem dX9_here_18 : decode cX9_here 18 = .ok (.ireturn, 1) := by decide +kernel
theorem dX9_faultOf_0 : decode cX9_faultOf 0 = .ok (.iconst 0, 1) := by decide +kernel
theorem dX9_faultOf_1 : decode cX9_faultOf 1 = .ok (.istore_n 1, 1) := by decide +kernel
theorem dX9_faultOf_2 : decode cX9_faultOf 2 = .ok (.iconst 0, 1) := by decide +kernel
theorem dX9_faultOf_3 : decode cX9_faultOf 3 = .ok (.istore_n 2, 1) := by decide +kernel
theorem dX9_faultOf_4 : decode cX9_faultOf 4 = .ok (.aload_n 0, 1) := by decide +kernel
theorem dX9_faultOf_5 : decode cX9_faultOf 5 = .ok (.iload_n 1, 1) := by decide +kernel
theorem dX9_faultOf_6 : decode cX9_faultOf 6 = .ok (.invokevirtual 144, 3) := by decide +kernel
theorem dX9_faultOf_9 : decode cX9_faultOf 9 = .ok (.bipush 97, 2) := by decide +kernel
theorem dX9_faultOf_11 : decode cX9_faultOf 11 = .ok (.bipush 106, 2) := by decide +kernel
theorem dX9_faultOf_13 : decode cX9_faultOf 13 = .ok (.invokestatic 68, 3) := by decide +kernel
theorem dX9_faultOf_16 : decode cX9_faultOf 16 = .ok (.ifCond .eq 9, 3) := by decide +kernel
theorem dX9_faultOf_19 : decode cX9_faultOf 19 = .ok (.iload_n 2, 1) := by decide +kernel
theorem dX9_faultOf_20 : decode cX9_faultOf 20 = .ok (.bipush 12, 2) := by decide +kernel
theorem dX9_faultOf_22 : decode cX9_faultOf 22 = .ok (.if_icmp .ne 5, 3) := by decide +kernel
theorem dX9_faultOf_25 : decode cX9_faultOf 25 = .ok (.iload_n 1, 1) := by decide +kernel
theorem dX9_faultOf_26 : decode cX9_faultOf 26 = .ok (.ireturn, 1) := by decide +kernel
theorem dX9_faultOf_27 : decode cX9_faultOf 27 = .ok (.aload_n 0, 1) := by decide +kernel
theorem dX9_faultOf_28 : decode cX9_faultOf 28 = .ok (.iload_n 1, 1) := by decide +kernel
theorem dX9_faultOf_29 : decode cX9_faultOf 29 = .ok (.iconst 1, 1) := by decide +kernel
theorem dX9_faultOf_30 : decode cX9_faultOf 30 = .ok (.iadd, 1) := by decide +kernel
theorem dX9_faultOf_31 : decode cX9_faultOf 31 = .ok (.invokevirtual 144, 3) := by decide +kernel
theorem dX9_faultOf_34 : decode cX9_faultOf 34 = .ok (.istore_n 3, 1) := by decide +kernel
theorem dX9_faultOf_35 : decode cX9_faultOf 35 = .ok (.iload_n 3, 1) := by decide +kernel
theorem dX9_faultOf_36 : decode cX9_faultOf 36 = .ok (.bipush 45, 2) := by decide +kernel
theorem dX9_faultOf_38 : decode cX9_faultOf 38 = .ok (.if_icmp .eq 19, 3) := by decide +kernel
theorem dX9_faultOf_41 : decode cX9_faultOf 41 = .ok (.iload_n 3, 1) := by decide +kernel
theorem dX9_faultOf_42 : decode cX9_faultOf 42 = .ok (.bipush 62, 2) := by decide +kernel
theorem dX9_faultOf_44 : decode cX9_faultOf 44 = .ok (.if_icmp .eq 13, 3) := by decide +kernel
theorem dX9_faultOf_47 : decode cX9_faultOf 47 = .ok (.iload_n 3, 1) := by decide +kernel
theorem dX9_faultOf_48 : decode cX9_faultOf 48 = .ok (.bipush 60, 2) := by decide +kernel
theorem dX9_faultOf_50 : decode cX9_faultOf 50 = .ok (.if_icmp .eq 7, 3) := by decide +kernel
theorem dX9_faultOf_53 : decode cX9_faultOf 53 = .ok (.iload_n 1, 1) := by decide +kernel
theorem dX9_faultOf_54 : decode cX9_faultOf 54 = .ok (.iconst 1, 1) := by decide +kernel
theorem dX9_faultOf_55 : decode cX9_faultOf 55 = .ok (.iadd, 1) := by decide +kernel
theorem dX9_faultOf_56 : decode cX9_faultOf 56 = .ok (.ireturn, 1) := by decide +kernel
theorem dX9_faultOf_57 : decode cX9_faultOf 57 = .ok (.aload_n 0, 1) := by decide +kernel
theorem dX9_faultOf_58 : decode cX9_faultOf 58 = .ok (.iload_n 1, 1) := by decide +kernel
theorem dX9_faultOf_59 : decode cX9_faultOf 59 = .ok (.iconst 2, 1) := by decide +kernel
theorem dX9_faultOf_60 : decode cX9_faultOf 60 = .ok (.iadd, 1) := by decide +kernel
theorem dX9_faultOf_61 : decode cX9_faultOf 61 = .ok (.invokevirtual 144, 3) := by decide +kernel
theorem dX9_faultOf_64 : decode cX9_faultOf 64 = .ok (.bipush 97, 2) := by decide +kernel
theorem dX9_faultOf_66 : decode cX9_faultOf 66 = .ok (.bipush 106, 2) := by decide +kernel
theorem dX9_faultOf_68 : decode cX9_faultOf 68 = .ok (.invokestatic 68, 3) := by decide +kernel
theorem dX9_faultOf_71 : decode cX9_faultOf 71 = .ok (.ifCond .eq 18, 3) := by decide +kernel
theorem dX9_faultOf_74 : decode cX9_faultOf 74 = .ok (.aload_n 0, 1) := by decide +kernel
theorem dX9_faultOf_75 : decode cX9_faultOf 75 = .ok (.iload_n 1, 1) := by decide +kernel
theorem dX9_faultOf_76 : decode cX9_faultOf 76 = .ok (.iconst 2, 1) := by decide +kernel
theorem dX9_faultOf_77 : decode cX9_faultOf 77 = .ok (.iadd, 1) := by decide +kernel
theorem dX9_faultOf_78 : decode cX9_faultOf 78 = .ok (.invokevirtual 144, 3) := by decide +kernel
theorem dX9_faultOf_81 : decode cX9_faultOf 81 = .ok (.aload_n 0, 1) := by decide +kernel
theorem dX9_faultOf_82 : decode cX9_faultOf 82 = .ok (.iload_n 1, 1) := by decide +kernel
theorem dX9_faultOf_83 : decode cX9_faultOf 83 = .ok (.invokevirtual 144, 3) := by decide +kernel
theorem dX9_faultOf_86 : decode cX9_faultOf 86 = .ok (.if_icmp .ne 7, 3) := by decide +kernel
theorem dX9_faultOf_89 : decode cX9_faultOf 89 = .ok (.iload_n 1, 1) := by decide +kernel
theorem dX9_faultOf_90 : decode cX9_faultOf 90 = .ok (.iconst 2, 1) := by decide +kernel
theorem dX9_faultOf_91 : decode cX9_faultOf 91 = .ok (.iadd, 1) := by decide +kernel
theorem dX9_faultOf_92 : decode cX9_faultOf 92 = .ok (.ireturn, 1) := by decide +kernel
theorem dX9_faultOf_93 : decode cX9_faultOf 93 = .ok (.iinc 1 3, 3) := by decide +kernel
theorem dX9_faultOf_96 : decode cX9_faultOf 96 = .ok (.iload_n 1, 1) := by decide +kernel
theorem dX9_faultOf_97 : decode cX9_faultOf 97 = .ok (.aload_n 0, 1) := by decide +kernel
theorem dX9_faultOf_98 : decode cX9_faultOf 98 = .ok (.getfield 139, 3) := by decide +kernel
theorem dX9_faultOf_101 : decode cX9_faultOf 101 = .ok (.if_icmp .ne 5, 3) := by decide +kernel
theorem dX9_faultOf_104 : decode cX9_faultOf 104 = .ok (.iconst (-1), 1) := by decide +kernel
theorem dX9_faultOf_105 : decode cX9_faultOf 105 = .ok (.ireturn, 1) := by decide +kernel
theorem dX9_faultOf_106 : decode cX9_faultOf 106 = .ok (.aload_n 0, 1) := by decide +kernel
theorem dX9_faultOf_107 : decode cX9_faultOf 107 = .ok (.iload_n 1, 1) := by decide +kernel
theorem dX9_faultOf_108 : decode cX9_faultOf 108 = .ok (.invokevirtual 144, 3) := by decide +kernel
theorem dX9_faultOf_111 : decode cX9_faultOf 111 = .ok (.bipush 44, 2) := by decide +kernel
theorem dX9_faultOf_113 : decode cX9_faultOf 113 = .ok (.if_icmp .eq 5, 3) := by decide +kernel
theorem dX9_faultOf_116 : decode cX9_faultOf 116 = .ok (.iload_n 1, 1) := by decide +kernel
theorem dX9_faultOf_117 : decode cX9_faultOf 117 = .ok (.ireturn, 1) := by decide +kernel
theorem dX9_faultOf_118 : decode cX9_faultOf 118 = .ok (.iinc 1 1, 3) := by decide +kernel
theorem dX9_faultOf_121 : decode cX9_faultOf 121 = .ok (.iinc 2 1, 3) := by decide +kernel
theorem dX9_faultOf_124 : decode cX9_faultOf 124 = .ok (.goto (-120), 3) := by decide +kernel
theorem dX9_network_0 : decode cX9_network 0 = .ok (.aload_n 0, 1) := by decide +kernel
theorem dX9_network_1 : decode cX9_network 1 = .ok (.invokevirtual 147, 3) := by decide +kernel
theorem dX9_network_4 : decode cX9_network 4 = .ok (.istore_n 1, 1) := by decide +kernel
theorem dX9_network_5 : decode cX9_network 5 = .ok (.aload_n 0, 1) := by decide +kernel
theorem dX9_network_6 : decode cX9_network 6 = .ok (.getfield 139, 3) := by decide +kernel
theorem dX9_network_9 : decode cX9_network 9 = .ok (.istore_n 2, 1) := by decide +kernel
theorem dX9_network_10 : decode cX9_network 10 = .ok (.aload_n 0, 1) := by decide +kernel
theorem dX9_network_11 : decode cX9_network 11 = .ok (.iconst 0, 1) := by decide +kernel
theorem dX9_network_12 : decode cX9_network 12 = .ok (.putfield 139, 3) := by decide +kernel
theorem dX9_network_15 : decode cX9_network 15 = .ok (.iload_n 1, 1) := by decide +kernel
theorem dX9_network_16 : decode cX9_network 16 = .ok (.iconst (-1), 1) := by decide +kernel
theorem dX9_network_17 : decode cX9_network 17 = .ok (.if_icmp .eq 8, 3) := by decide +kernel
theorem dX9_network_20 : decode cX9_network 20 = .ok (.bipush (-10), 2) := by decide +kernel
theorem dX9_network_22 : decode cX9_network 22 = .ok (.iload_n 1, 1) := by decide +kernel
theorem dX9_network_23 : decode cX9_network 23 = .ok (.isub, 1) := by decide +kernel
theorem dX9_network_24 : decode cX9_network 24 = .ok (.ireturn, 1) := by decide +kernel
theorem dX9_network_25 : decode cX9_network 25 = .ok (.iconst 0, 1) := by decide +kernel
theorem dX9_network_26 : decode cX9_network 26 = .ok (.istore_n 3, 1) := by decide +kernel
theorem dX9_network_27 : decode cX9_network 27 = .ok (.aload_n 0, 1) := by decide +kernel
theorem dX9_network_28 : decode cX9_network 28 = .ok (.iconst 0, 1) := by decide +kernel
theorem dX9_network_29 : decode cX9_network 29 = .ok (.putfield 72, 3) := by decide +kernel
theorem dX9_network_32 : decode cX9_network 32 = .ok (.iconst 0, 1) := by decide +kernel
theorem dX9_network_33 : decode cX9_network 33 = .ok (.istore 4, 2) := by decide +kernel
theorem dX9_network_35 : decode cX9_network 35 = .ok (.iload 4, 2) := by decide +kernel
theorem dX9_network_37 : decode cX9_network 37 = .ok (.iload_n 2, 1) := by decide +kernel
theorem dX9_network_38 : decode cX9_network 38 = .ok (.if_icmp .ge 106, 3) := by decide +kernel
theorem dX9_network_41 : decode cX9_network 41 = .ok (.aload_n 0, 1) := by decide +kernel
theorem dX9_network_42 : decode cX9_network 42 = .ok (.getfield 29, 3) := by decide +kernel
theorem dX9_network_45 : decode cX9_network 45 = .ok (.iload 4, 2) := by decide +kernel
theorem dX9_network_47 : decode cX9_network 47 = .ok (.iaload, 1) := by decide +kernel
theorem dX9_network_48 : decode cX9_network 48 = .ok (.bipush 97, 2) := by decide +kernel
theorem dX9_network_50 : decode cX9_network 50 = .ok (.isub, 1) := by decide +kernel
theorem dX9_network_51 : decode cX9_network 51 = .ok (.istore 5, 2) := by decide +kernel
theorem dX9_network_53 : decode cX9_network 53 = .ok (.aload_n 0, 1) := by decide +kernel
theorem dX9_network_54 : decode cX9_network 54 = .ok (.getfield 29, 3) := by decide +kernel
theorem dX9_network_57 : decode cX9_network 57 = .ok (.iload 4, 2) := by decide +kernel
theorem dX9_network_59 : decode cX9_network 59 = .ok (.iconst 2, 1) := by decide +kernel
theorem dX9_network_60 : decode cX9_network 60 = .ok (.iadd, 1) := by decide +kernel
theorem dX9_network_61 : decode cX9_network 61 = .ok (.iaload, 1) := by decide +kernel
theorem dX9_network_62 : decode cX9_network 62 = .ok (.bipush 97, 2) := by decide +kernel
theorem dX9_network_64 : decode cX9_network 64 = .ok (.isub, 1) := by decide +kernel
theorem dX9_network_65 : decode cX9_network 65 = .ok (.istore 6, 2) := by decide +kernel
theorem dX9_network_67 : decode cX9_network 67 = .ok (.iload 5, 2) := by decide +kernel
theorem dX9_network_69 : decode cX9_network 69 = .ok (.iload_n 3, 1) := by decide +kernel
theorem dX9_network_70 : decode cX9_network 70 = .ok (.if_icmp .le 8, 3) := by decide +kernel
theorem dX9_network_73 : decode cX9_network 73 = .ok (.iload 5, 2) := by decide +kernel
theorem dX9_network_75 : decode cX9_network 75 = .ok (.goto 4, 3) := by decide +kernel
theorem dX9_network_78 : decode cX9_network 78 = .ok (.iload_n 3, 1) := by decide +kernel
theorem dX9_network_79 : decode cX9_network 79 = .ok (.istore_n 3, 1) := by decide +kernel
theorem dX9_network_80 : decode cX9_network 80 = .ok (.iload 6, 2) := by decide +kernel
theorem dX9_network_82 : decode cX9_network 82 = .ok (.iload_n 3, 1) := by decide +kernel
theorem dX9_network_83 : decode cX9_network 83 = .ok (.if_icmp .le 8, 3) := by decide +kernel
theorem dX9_network_86 : decode cX9_network 86 = .ok (.iload 6, 2) := by decide +kernel
theorem dX9_network_88 : decode cX9_network 88 = .ok (.goto 4, 3) := by decide +kernel
theorem dX9_network_91 : decode cX9_network 91 = .ok (.iload_n 3, 1) := by decide +kernel
theorem dX9_network_92 : decode cX9_network 92 = .ok (.istore_n 3, 1) := by decide +kernel
theorem dX9_network_93 : decode cX9_network 93 = .ok (.aload_n 0, 1) := by decide +kernel
theorem dX9_network_94 : decode cX9_network 94 = .ok (.iload 5, 2) := by decide +kernel
theorem dX9_network_96 : decode cX9_network 96 = .ok (.iload 6, 2) := by decide +kernel
theorem dX9_network_98 : decode cX9_network 98 = .ok (.aload_n 0, 1) := by decide +kernel
theorem dX9_network_99 : decode cX9_network 99 = .ok (.getfield 29, 3) := by decide +kernel
theorem dX9_network_102 : decode cX9_network 102 = .ok (.iload 4, 2) := by decide +kernel
theorem dX9_network_104 : decode cX9_network 104 = .ok (.iconst 1, 1) := by decide +kernel
theorem dX9_network_105 : decode cX9_network 105 = .ok (.iadd, 1) := by decide +kernel
theorem dX9_network_106 : decode cX9_network 106 = .ok (.iaload, 1) := by decide +kernel
theorem dX9_network_107 : decode cX9_network 107 = .ok (.bipush 45, 2) := by decide +kernel
theorem dX9_network_109 : decode cX9_network 109 = .ok (.if_icmp .ne 7, 3) := by decide +kernel
theorem dX9_network_112 : decode cX9_network 112 = .ok (.iconst 0, 1) := by decide +kernel
theorem dX9_network_113 : decode cX9_network 113 = .ok (.goto 22, 3) := by decide +kernel
theorem dX9_network_116 : decode cX9_network 116 = .ok (.aload_n 0, 1) := by decide +kernel
theorem dX9_network_117 : decode cX9_network 117 = .ok (.getfield 29, 3) := by decide +kernel
theorem dX9_network_120 : decode cX9_network 120 = .ok (.iload 4, 2) := by decide +kernel
theorem dX9_network_122 : decode cX9_network 122 = .ok (.iconst 1, 1) := by decide +kernel
theorem dX9_network_123 : decode cX9_network 123 = .ok (.iadd, 1) := by decide +kernel
theorem dX9_network_124 : decode cX9_network 124 = .ok (.iaload, 1) := by decide +kernel
theorem dX9_network_125 : decode cX9_network 125 = .ok (.bipush 62, 2) := by decide +kernel
theorem dX9_network_127 : decode cX9_network 127 = .ok (.if_icmp .ne 7, 3) := by decide +kernel
theorem dX9_network_130 : decode cX9_network 130 = .ok (.iconst 1, 1) := by decide +kernel
theorem dX9_network_131 : decode cX9_network 131 = .ok (.goto 4, 3) := by decide +kernel
theorem dX9_network_134 : decode cX9_network 134 = .ok (.iconst 2, 1) := by decide +kernel
theorem dX9_network_135 : decode cX9_network 135 = .ok (.invokevirtual 90, 3) := by decide +kernel
theorem dX9_network_138 : decode cX9_network 138 = .ok (.iinc 4 4, 3) := by decide +kernel
theorem dX9_network_141 : decode cX9_network 141 = .ok (.goto (-106), 3) := by decide +kernel
theorem dX9_network_144 : decode cX9_network 144 = .ok (.aload_n 0, 1) := by decide +kernel
theorem dX9_network_145 : decode cX9_network 145 = .ok (.iload_n 3, 1) := by decide +kernel
theorem dX9_network_146 : decode cX9_network 146 = .ok (.iconst 1, 1) := by decide +kernel
theorem dX9_network_147 : decode cX9_network 147 = .ok (.iadd, 1) := by decide +kernel
theorem dX9_network_148 : decode cX9_network 148 = .ok (.putfield 13, 3) := by decide +kernel
theorem dX9_network_151 : decode cX9_network 151 = .ok (.aload_n 0, 1) := by decide +kernel
theorem dX9_network_152 : decode cX9_network 152 = .ok (.invokevirtual 83, 3) := by decide +kernel
theorem dX9_network_155 : decode cX9_network 155 = .ok (.aload_n 0, 1) := by decide +kernel
theorem dX9_network_156 : decode cX9_network 156 = .ok (.getfield 72, 3) := by decide +kernel
theorem dX9_network_159 : decode cX9_network 159 = .ok (.ireturn, 1) := by decide +kernel
theorem dX9_isByLines_0 : decode cX9_isByLines 0 = .ok (.aload_n 0, 1) := by decide +kernel
theorem dX9_isByLines_1 : decode cX9_isByLines 1 = .ok (.getfield 150, 3) := by decide +kernel
theorem dX9_isByLines_4 : decode cX9_isByLines 4 = .ok (.iconst 1, 1) := by decide +kernel
theorem dX9_isByLines_5 : decode cX9_isByLines 5 = .ok (.if_icmp .eq 11, 3) := by decide +kernel
theorem dX9_isByLines_8 : decode cX9_isByLines 8 = .ok (.aload_n 0, 1) := by decide +kernel
theorem dX9_isByLines_9 : decode cX9_isByLines 9 = .ok (.getfield 150, 3) := by decide +kernel
theorem dX9_isByLines_12 : decode cX9_isByLines 12 = .ok (.iconst 3, 1) := by decide +kernel
theorem dX9_isByLines_13 : decode cX9_isByLines 13 = .ok (.if_icmp .ne 7, 3) := by decide +kernel
theorem dX9_isByLines_16 : decode cX9_isByLines 16 = .ok (.iconst 1, 1) := by decide +kernel
theorem dX9_isByLines_17 : decode cX9_isByLines 17 = .ok (.goto 4, 3) := by decide +kernel
theorem dX9_isByLines_20 : decode cX9_isByLines 20 = .ok (.iconst 0, 1) := by decide +kernel
theorem dX9_isByLines_21 : decode cX9_isByLines 21 = .ok (.ireturn, 1) := by decide +kernel
theorem dX9_isByWays_0 : decode cX9_isByWays 0 = .ok (.aload_n 0, 1) := by decide +kernel
theorem dX9_isByWays_1 : decode cX9_isByWays 1 = .ok (.getfield 150, 3) := by decide +kernel
theorem dX9_isByWays_4 : decode cX9_isByWays 4 = .ok (.iconst 2, 1) := by decide +kernel
theorem dX9_isByWays_5 : decode cX9_isByWays 5 = .ok (.if_icmp .eq 11, 3) := by decide +kernel
theorem dX9_isByWays_8 : decode cX9_isByWays 8 = .ok (.aload_n 0, 1) := by decide +kernel
theorem dX9_isByWays_9 : decode cX9_isByWays 9 = .ok (.getfield 150, 3) := by decide +kernel
theorem dX9_isByWays_12 : decode cX9_isByWays 12 = .ok (.iconst 3, 1) := by decide +kernel
theorem dX9_isByWays_13 : decode cX9_isByWays 13 = .ok (.if_icmp .ne 7, 3) := by decide +kernel
theorem dX9_isByWays_16 : decode cX9_isByWays 16 = .ok (.iconst 1, 1) := by decide +kernel
theorem dX9_isByWays_17 : decode cX9_isByWays 17 = .ok (.goto 4, 3) := by decide +kernel
theorem dX9_isByWays_20 : decode cX9_isByWays 20 = .ok (.iconst 0, 1) := by decide +kernel
theorem dX9_isByWays_21 : decode cX9_isByWays 21 = .ok (.ireturn, 1) := by decide +kernel
theorem dX9_isMove_0 : decode cX9_isMove 0 = .ok (.aload_n 0, 1) := by decide +kernel
theorem dX9_isMove_1 : decode cX9_isMove 1 = .ok (.iload_n 1, 1) := by decide +kernel
theorem dX9_isMove_2 : decode cX9_isMove 2 = .ok (.iload_n 2, 1) := by decide +kernel
theorem dX9_isMove_3 : decode cX9_isMove 3 = .ok (.invokevirtual 97, 3) := by decide +kernel
theorem dX9_isMove_6 : decode cX9_isMove 6 = .ok (.ifCond .eq 19, 3) := by decide +kernel
theorem dX9_isMove_9 : decode cX9_isMove 9 = .ok (.aload_n 0, 1) := by decide +kernel
theorem dX9_isMove_10 : decode cX9_isMove 10 = .ok (.invokevirtual 153, 3) := by decide +kernel
theorem dX9_isMove_13 : decode cX9_isMove 13 = .ok (.ifCond .eq 14, 3) := by decide +kernel
theorem dX9_isMove_16 : decode cX9_isMove 16 = .ok (.aload_n 0, 1) := by decide +kernel
theorem dX9_isMove_17 : decode cX9_isMove 17 = .ok (.iload_n 1, 1) := by decide +kernel
theorem dX9_isMove_18 : decode cX9_isMove 18 = .ok (.iload_n 2, 1) := by decide +kernel
theorem dX9_isMove_19 : decode cX9_isMove 19 = .ok (.invokevirtual 105, 3) := by decide +kernel
theorem dX9_isMove_22 : decode cX9_isMove 22 = .ok (.ifCond .ne 5, 3) := by decide +kernel
theorem dX9_isMove_25 : decode cX9_isMove 25 = .ok (.iconst 0, 1) := by decide +kernel
theorem dX9_isMove_26 : decode cX9_isMove 26 = .ok (.ireturn, 1) := by decide +kernel
theorem dX9_isMove_27 : decode cX9_isMove 27 = .ok (.iload_n 3, 1) := by decide +kernel
theorem dX9_isMove_28 : decode cX9_isMove 28 = .ok (.aload_n 0, 1) := by decide +kernel
theorem dX9_isMove_29 : decode cX9_isMove 29 = .ok (.invokevirtual 157, 3) := by decide +kernel
theorem dX9_isMove_32 : decode cX9_isMove 32 = .ok (.ifCond .eq 7, 3) := by decide +kernel
theorem dX9_isMove_35 : decode cX9_isMove 35 = .ok (.iload_n 1, 1) := by decide +kernel
theorem dX9_isMove_36 : decode cX9_isMove 36 = .ok (.goto 9, 3) := by decide +kernel
theorem dX9_isMove_39 : decode cX9_isMove 39 = .ok (.aload_n 0, 1) := by decide +kernel
theorem dX9_isMove_40 : decode cX9_isMove 40 = .ok (.iload_n 1, 1) := by decide +kernel
theorem dX9_isMove_41 : decode cX9_isMove 41 = .ok (.iload_n 2, 1) := by decide +kernel
theorem dX9_isMove_42 : decode cX9_isMove 42 = .ok (.invokevirtual 101, 3) := by decide +kernel
theorem dX9_isMove_45 : decode cX9_isMove 45 = .ok (.invokestatic 114, 3) := by decide +kernel
theorem dX9_isMove_48 : decode cX9_isMove 48 = .ok (.ifCond .ne 7, 3) := by decide +kernel
theorem dX9_isMove_51 : decode cX9_isMove 51 = .ok (.iconst 1, 1) := by decide +kernel
theorem dX9_isMove_52 : decode cX9_isMove 52 = .ok (.goto 4, 3) := by decide +kernel
theorem dX9_isMove_55 : decode cX9_isMove 55 = .ok (.iconst 0, 1) := by decide +kernel
theorem dX9_isMove_56 : decode cX9_isMove 56 = .ok (.ireturn, 1) := by decide +kernel
theorem dX9_setBehind_0 : decode cX9_setBehind 0 = .ok (.iload_n 3, 1) := by decide +kernel
theorem dX9_setBehind_1 : decode cX9_setBehind 1 = .ok (.iconst 1, 1) := by decide +kernel
theorem dX9_setBehind_2 : decode cX9_setBehind 2 = .ok (.aload_n 0, 1) := by decide +kernel
theorem dX9_setBehind_3 : decode cX9_setBehind 3 = .ok (.invokevirtual 157, 3) := by decide +kernel
theorem dX9_setBehind_6 : decode cX9_setBehind 6 = .ok (.ifCond .eq 7, 3) := by decide +kernel
theorem dX9_setBehind_9 : decode cX9_setBehind 9 = .ok (.iload_n 1, 1) := by decide +kernel
theorem dX9_setBehind_10 : decode cX9_setBehind 10 = .ok (.goto 9, 3) := by decide +kernel
theorem dX9_setBehind_13 : decode cX9_setBehind 13 = .ok (.aload_n 0, 1) := by decide +kernel
theorem dX9_setBehind_14 : decode cX9_setBehind 14 = .ok (.iload_n 1, 1) := by decide +kernel
theorem dX9_setBehind_15 : decode cX9_setBehind 15 = .ok (.iload_n 2, 1) := by decide +kernel
theorem dX9_setBehind_16 : decode cX9_setBehind 16 = .ok (.invokevirtual 101, 3) := by decide +kernel
theorem dX9_setBehind_19 : decode cX9_setBehind 19 = .ok (.ishl, 1) := by decide +kernel
theorem dX9_setBehind_20 : decode cX9_setBehind 20 = .ok (.ior, 1) := by decide +kernel
theorem dX9_setBehind_21 : decode cX9_setBehind 21 = .ok (.ireturn, 1) := by decide +kernel
theorem dX9_movesAt_0 : decode cX9_movesAt 0 = .ok (.iconst 0, 1) := by decide +kernel
theorem dX9_movesAt_1 : decode cX9_movesAt 1 = .ok (.istore_n 3, 1) := by decide +kernel
theorem dX9_movesAt_2 : decode cX9_movesAt 2 = .ok (.iconst 0, 1) := by decide +kernel
theorem dX9_movesAt_3 : decode cX9_movesAt 3 = .ok (.istore 4, 2) := by decide +kernel
theorem dX9_movesAt_5 : decode cX9_movesAt 5 = .ok (.iload 4, 2) := by decide +kernel
theorem dX9_movesAt_7 : decode cX9_movesAt 7 = .ok (.aload_n 0, 1) := by decide +kernel
theorem dX9_movesAt_8 : decode cX9_movesAt 8 = .ok (.getfield 72, 3) := by decide +kernel
theorem dX9_movesAt_11 : decode cX9_movesAt 11 = .ok (.if_icmp .ge 31, 3) := by decide +kernel
theorem dX9_movesAt_14 : decode cX9_movesAt 14 = .ok (.iload_n 3, 1) := by decide +kernel
theorem dX9_movesAt_15 : decode cX9_movesAt 15 = .ok (.aload_n 0, 1) := by decide +kernel
theorem dX9_movesAt_16 : decode cX9_movesAt 16 = .ok (.iload 4, 2) := by decide +kernel
theorem dX9_movesAt_18 : decode cX9_movesAt 18 = .ok (.iload_n 1, 1) := by decide +kernel
theorem dX9_movesAt_19 : decode cX9_movesAt 19 = .ok (.iload_n 2, 1) := by decide +kernel
theorem dX9_movesAt_20 : decode cX9_movesAt 20 = .ok (.invokevirtual 160, 3) := by decide +kernel
theorem dX9_movesAt_23 : decode cX9_movesAt 23 = .ok (.ifCond .eq 10, 3) := by decide +kernel
theorem dX9_movesAt_26 : decode cX9_movesAt 26 = .ok (.iconst 1, 1) := by decide +kernel
theorem dX9_movesAt_27 : decode cX9_movesAt 27 = .ok (.iload 4, 2) := by decide +kernel
theorem dX9_movesAt_29 : decode cX9_movesAt 29 = .ok (.ishl, 1) := by decide +kernel
theorem dX9_movesAt_30 : decode cX9_movesAt 30 = .ok (.goto 4, 3) := by decide +kernel
theorem dX9_movesAt_33 : decode cX9_movesAt 33 = .ok (.iconst 0, 1) := by decide +kernel
theorem dX9_movesAt_34 : decode cX9_movesAt 34 = .ok (.ior, 1) := by decide +kernel
theorem dX9_movesAt_35 : decode cX9_movesAt 35 = .ok (.istore_n 3, 1) := by decide +kernel
theorem dX9_movesAt_36 : decode cX9_movesAt 36 = .ok (.iinc 4 1, 3) := by decide +kernel
theorem dX9_movesAt_39 : decode cX9_movesAt 39 = .ok (.goto (-34), 3) := by decide +kernel
theorem dX9_movesAt_42 : decode cX9_movesAt 42 = .ok (.iload_n 3, 1) := by decide +kernel
theorem dX9_movesAt_43 : decode cX9_movesAt 43 = .ok (.ireturn, 1) := by decide +kernel
theorem dX9_tables_0 : decode cX9_tables 0 = .ok (.aload_n 0, 1) := by decide +kernel
theorem dX9_tables_1 : decode cX9_tables 1 = .ok (.getfield 45, 3) := by decide +kernel
theorem dX9_tables_4 : decode cX9_tables 4 = .ok (.aload_n 0, 1) := by decide +kernel
theorem dX9_tables_5 : decode cX9_tables 5 = .ok (.getfield 150, 3) := by decide +kernel
theorem dX9_tables_8 : decode cX9_tables 8 = .ok (.if_icmp .ne 4, 3) := by decide +kernel
theorem dX9_tables_11 : decode cX9_tables 11 = .ok (.return_, 1) := by decide +kernel
theorem dX9_tables_12 : decode cX9_tables 12 = .ok (.aload_n 0, 1) := by decide +kernel
theorem dX9_tables_13 : decode cX9_tables 13 = .ok (.aload_n 0, 1) := by decide +kernel
theorem dX9_tables_14 : decode cX9_tables 14 = .ok (.getfield 150, 3) := by decide +kernel
theorem dX9_tables_17 : decode cX9_tables 17 = .ok (.putfield 45, 3) := by decide +kernel
theorem dX9_tables_20 : decode cX9_tables 20 = .ok (.iconst 0, 1) := by decide +kernel
theorem dX9_tables_21 : decode cX9_tables 21 = .ok (.istore_n 1, 1) := by decide +kernel
theorem dX9_tables_22 : decode cX9_tables 22 = .ok (.iload_n 1, 1) := by decide +kernel
theorem dX9_tables_23 : decode cX9_tables 23 = .ok (.ldc 38, 2) := by decide +kernel
theorem dX9_tables_25 : decode cX9_tables 25 = .ok (.if_icmp .ge 23, 3) := by decide +kernel
theorem dX9_tables_28 : decode cX9_tables 28 = .ok (.aload_n 0, 1) := by decide +kernel
theorem dX9_tables_29 : decode cX9_tables 29 = .ok (.getfield 39, 3) := by decide +kernel
theorem dX9_tables_32 : decode cX9_tables 32 = .ok (.iload_n 1, 1) := by decide +kernel
theorem dX9_tables_33 : decode cX9_tables 33 = .ok (.iconst 0, 1) := by decide +kernel
theorem dX9_tables_34 : decode cX9_tables 34 = .ok (.iastore, 1) := by decide +kernel
theorem dX9_tables_35 : decode cX9_tables 35 = .ok (.aload_n 0, 1) := by decide +kernel
theorem dX9_tables_36 : decode cX9_tables 36 = .ok (.getfield 42, 3) := by decide +kernel
theorem dX9_tables_39 : decode cX9_tables 39 = .ok (.iload_n 1, 1) := by decide +kernel
theorem dX9_tables_40 : decode cX9_tables 40 = .ok (.iconst 0, 1) := by decide +kernel
theorem dX9_tables_41 : decode cX9_tables 41 = .ok (.iastore, 1) := by decide +kernel
theorem dX9_tables_42 : decode cX9_tables 42 = .ok (.iinc 1 1, 3) := by decide +kernel
theorem dX9_tables_45 : decode cX9_tables 45 = .ok (.goto (-23), 3) := by decide +kernel
theorem dX9_tables_48 : decode cX9_tables 48 = .ok (.return_, 1) := by decide +kernel
theorem dX9_worthAt_0 : decode cX9_worthAt 0 = .ok (.sipush 4096, 3) := by decide +kernel
theorem dX9_worthAt_3 : decode cX9_worthAt 3 = .ok (.iload_n 1, 1) := by decide +kernel
theorem dX9_worthAt_4 : decode cX9_worthAt 4 = .ok (.imul, 1) := by decide +kernel
theorem dX9_worthAt_5 : decode cX9_worthAt 5 = .ok (.iload_n 2, 1) := by decide +kernel
theorem dX9_worthAt_6 : decode cX9_worthAt 6 = .ok (.iadd, 1) := by decide +kernel
theorem dX9_worthAt_7 : decode cX9_worthAt 7 = .ok (.istore_n 3, 1) := by decide +kernel
theorem dX9_worthAt_8 : decode cX9_worthAt 8 = .ok (.aload_n 0, 1) := by decide +kernel
theorem dX9_worthAt_9 : decode cX9_worthAt 9 = .ok (.getfield 39, 3) := by decide +kernel
theorem dX9_worthAt_12 : decode cX9_worthAt 12 = .ok (.iload_n 3, 1) := by decide +kernel
theorem dX9_worthAt_13 : decode cX9_worthAt 13 = .ok (.iaload, 1) := by decide +kernel
theorem dX9_worthAt_14 : decode cX9_worthAt 14 = .ok (.ifCond .eq 10, 3) := by decide +kernel
theorem dX9_worthAt_17 : decode cX9_worthAt 17 = .ok (.aload_n 0, 1) := by decide +kernel
theorem dX9_worthAt_18 : decode cX9_worthAt 18 = .ok (.getfield 39, 3) := by decide +kernel
theorem dX9_worthAt_21 : decode cX9_worthAt 21 = .ok (.iload_n 3, 1) := by decide +kernel
theorem dX9_worthAt_22 : decode cX9_worthAt 22 = .ok (.iaload, 1) := by decide +kernel
theorem dX9_worthAt_23 : decode cX9_worthAt 23 = .ok (.ireturn, 1) := by decide +kernel
theorem dX9_worthAt_24 : decode cX9_worthAt 24 = .ok (.iconst (-1), 1) := by decide +kernel
theorem dX9_worthAt_25 : decode cX9_worthAt 25 = .ok (.istore 4, 2) := by decide +kernel
theorem dX9_worthAt_27 : decode cX9_worthAt 27 = .ok (.iconst (-1), 1) := by decide +kernel
theorem dX9_worthAt_28 : decode cX9_worthAt 28 = .ok (.istore 5, 2) := by decide +kernel
theorem dX9_worthAt_30 : decode cX9_worthAt 30 = .ok (.iconst 0, 1) := by decide +kernel
theorem dX9_worthAt_31 : decode cX9_worthAt 31 = .ok (.istore 6, 2) := by decide +kernel
theorem dX9_worthAt_33 : decode cX9_worthAt 33 = .ok (.iload 6, 2) := by decide +kernel
theorem dX9_worthAt_35 : decode cX9_worthAt 35 = .ok (.aload_n 0, 1) := by decide +kernel
theorem dX9_worthAt_36 : decode cX9_worthAt 36 = .ok (.getfield 72, 3) := by decide +kernel
theorem dX9_worthAt_39 : decode cX9_worthAt 39 = .ok (.if_icmp .ge 97, 3) := by decide +kernel
theorem dX9_worthAt_42 : decode cX9_worthAt 42 = .ok (.aload_n 0, 1) := by decide +kernel
theorem dX9_worthAt_43 : decode cX9_worthAt 43 = .ok (.iload 6, 2) := by decide +kernel
theorem dX9_worthAt_45 : decode cX9_worthAt 45 = .ok (.iload_n 1, 1) := by decide +kernel
theorem dX9_worthAt_46 : decode cX9_worthAt 46 = .ok (.iload_n 2, 1) := by decide +kernel
theorem dX9_worthAt_47 : decode cX9_worthAt 47 = .ok (.invokevirtual 160, 3) := by decide +kernel
theorem dX9_worthAt_50 : decode cX9_worthAt 50 = .ok (.ifCond .ne 6, 3) := by decide +kernel
theorem dX9_worthAt_53 : decode cX9_worthAt 53 = .ok (.goto 77, 3) := by decide +kernel
theorem dX9_worthAt_56 : decode cX9_worthAt 56 = .ok (.aload_n 0, 1) := by decide +kernel
theorem dX9_worthAt_57 : decode cX9_worthAt 57 = .ok (.aload_n 0, 1) := by decide +kernel
theorem dX9_worthAt_58 : decode cX9_worthAt 58 = .ok (.iload 6, 2) := by decide +kernel
theorem dX9_worthAt_60 : decode cX9_worthAt 60 = .ok (.iload_n 1, 1) := by decide +kernel
theorem dX9_worthAt_61 : decode cX9_worthAt 61 = .ok (.invokevirtual 101, 3) := by decide +kernel
theorem dX9_worthAt_64 : decode cX9_worthAt 64 = .ok (.aload_n 0, 1) := by decide +kernel
theorem dX9_worthAt_65 : decode cX9_worthAt 65 = .ok (.iload 6, 2) := by decide +kernel
theorem dX9_worthAt_67 : decode cX9_worthAt 67 = .ok (.iload_n 1, 1) := by decide +kernel
theorem dX9_worthAt_68 : decode cX9_worthAt 68 = .ok (.iload_n 2, 1) := by decide +kernel
theorem dX9_worthAt_69 : decode cX9_worthAt 69 = .ok (.invokevirtual 163, 3) := by decide +kernel
theorem dX9_worthAt_72 : decode cX9_worthAt 72 = .ok (.invokevirtual 167, 3) := by decide +kernel
theorem dX9_worthAt_75 : decode cX9_worthAt 75 = .ok (.iconst 1, 1) := by decide +kernel
theorem dX9_worthAt_76 : decode cX9_worthAt 76 = .ok (.isub, 1) := by decide +kernel
theorem dX9_worthAt_77 : decode cX9_worthAt 77 = .ok (.istore 7, 2) := by decide +kernel
theorem dX9_worthAt_79 : decode cX9_worthAt 79 = .ok (.iload 7, 2) := by decide +kernel
theorem dX9_worthAt_81 : decode cX9_worthAt 81 = .ok (.iconst 1, 1) := by decide +kernel
theorem dX9_worthAt_82 : decode cX9_worthAt 82 = .ok (.ishr, 1) := by decide +kernel
theorem dX9_worthAt_83 : decode cX9_worthAt 83 = .ok (.istore 8, 2) := by decide +kernel
theorem dX9_worthAt_85 : decode cX9_worthAt 85 = .ok (.iload 8, 2) := by decide +kernel
theorem dX9_worthAt_87 : decode cX9_worthAt 87 = .ok (.iload 5, 2) := by decide +kernel
theorem dX9_worthAt_89 : decode cX9_worthAt 89 = .ok (.if_icmp .le 8, 3) := by decide +kernel
theorem dX9_worthAt_92 : decode cX9_worthAt 92 = .ok (.iload 8, 2) := by decide +kernel
theorem dX9_worthAt_94 : decode cX9_worthAt 94 = .ok (.goto 5, 3) := by decide +kernel
theorem dX9_worthAt_97 : decode cX9_worthAt 97 = .ok (.iload 5, 2) := by decide +kernel
theorem dX9_worthAt_99 : decode cX9_worthAt 99 = .ok (.istore 5, 2) := by decide +kernel
theorem dX9_worthAt_101 : decode cX9_worthAt 101 = .ok (.iload 7, 2) := by decide +kernel
theorem dX9_worthAt_103 : decode cX9_worthAt 103 = .ok (.iconst 1, 1) := by decide +kernel
theorem dX9_worthAt_104 : decode cX9_worthAt 104 = .ok (.iand, 1) := by decide +kernel
theorem dX9_worthAt_105 : decode cX9_worthAt 105 = .ok (.ifCond .ne 21, 3) := by decide +kernel
theorem dX9_worthAt_108 : decode cX9_worthAt 108 = .ok (.iload 4, 2) := by decide +kernel
theorem dX9_worthAt_110 : decode cX9_worthAt 110 = .ok (.iconst (-1), 1) := by decide +kernel
theorem dX9_worthAt_111 : decode cX9_worthAt 111 = .ok (.if_icmp .eq 10, 3) := by decide +kernel
theorem dX9_worthAt_114 : decode cX9_worthAt 114 = .ok (.iload 8, 2) := by decide +kernel
theorem dX9_worthAt_116 : decode cX9_worthAt 116 = .ok (.iload 4, 2) := by decide +kernel
theorem dX9_worthAt_118 : decode cX9_worthAt 118 = .ok (.if_icmp .ge 8, 3) := by decide +kernel
theorem dX9_worthAt_121 : decode cX9_worthAt 121 = .ok (.iload 8, 2) := by decide +kernel
theorem dX9_worthAt_123 : decode cX9_worthAt 123 = .ok (.goto 5, 3) := by decide +kernel
theorem dX9_worthAt_126 : decode cX9_worthAt 126 = .ok (.iload 4, 2) := by decide +kernel
theorem dX9_worthAt_128 : decode cX9_worthAt 128 = .ok (.istore 4, 2) := by decide +kernel
theorem dX9_worthAt_130 : decode cX9_worthAt 130 = .ok (.iinc 6 1, 3) := by decide +kernel
theorem dX9_worthAt_133 : decode cX9_worthAt 133 = .ok (.goto (-100), 3) := by decide +kernel
theorem dX9_worthAt_136 : decode cX9_worthAt 136 = .ok (.iload 5, 2) := by decide +kernel
theorem dX9_worthAt_138 : decode cX9_worthAt 138 = .ok (.iconst (-1), 1) := by decide +kernel
theorem dX9_worthAt_139 : decode cX9_worthAt 139 = .ok (.if_icmp .ne 19, 3) := by decide +kernel
theorem dX9_worthAt_142 : decode cX9_worthAt 142 = .ok (.aload_n 0, 1) := by decide +kernel
theorem dX9_worthAt_143 : decode cX9_worthAt 143 = .ok (.getfield 150, 3) := by decide +kernel
theorem dX9_worthAt_146 : decode cX9_worthAt 146 = .ok (.iconst 4, 1) := by decide +kernel
theorem dX9_worthAt_147 : decode cX9_worthAt 147 = .ok (.if_icmp .ne 7, 3) := by decide +kernel
theorem dX9_worthAt_150 : decode cX9_worthAt 150 = .ok (.iconst 1, 1) := by decide +kernel
theorem dX9_worthAt_151 : decode cX9_worthAt 151 = .ok (.goto 18, 3) := by decide +kernel
theorem dX9_worthAt_154 : decode cX9_worthAt 154 = .ok (.iconst 0, 1) := by decide +kernel
theorem dX9_worthAt_155 : decode cX9_worthAt 155 = .ok (.goto 14, 3) := by decide +kernel
theorem dX9_worthAt_158 : decode cX9_worthAt 158 = .ok (.iload 4, 2) := by decide +kernel
theorem dX9_worthAt_160 : decode cX9_worthAt 160 = .ok (.iconst (-1), 1) := by decide +kernel
theorem dX9_worthAt_161 : decode cX9_worthAt 161 = .ok (.if_icmp .eq 7, 3) := by decide +kernel
theorem dX9_worthAt_164 : decode cX9_worthAt 164 = .ok (.iconst 1, 1) := by decide +kernel
theorem dX9_worthAt_165 : decode cX9_worthAt 165 = .ok (.goto 4, 3) := by decide +kernel
theorem dX9_worthAt_168 : decode cX9_worthAt 168 = .ok (.iconst 0, 1) := by decide +kernel
theorem dX9_worthAt_169 : decode cX9_worthAt 169 = .ok (.istore 6, 2) := by decide +kernel
theorem dX9_worthAt_171 : decode cX9_worthAt 171 = .ok (.iload 5, 2) := by decide +kernel
theorem dX9_worthAt_173 : decode cX9_worthAt 173 = .ok (.iconst (-1), 1) := by decide +kernel
theorem dX9_worthAt_174 : decode cX9_worthAt 174 = .ok (.if_icmp .ne 7, 3) := by decide +kernel
theorem dX9_worthAt_177 : decode cX9_worthAt 177 = .ok (.iconst 0, 1) := by decide +kernel
theorem dX9_worthAt_178 : decode cX9_worthAt 178 = .ok (.goto 17, 3) := by decide +kernel
theorem dX9_worthAt_181 : decode cX9_worthAt 181 = .ok (.iconst 1, 1) := by decide +kernel
theorem dX9_worthAt_182 : decode cX9_worthAt 182 = .ok (.iload 6, 2) := by decide +kernel
theorem dX9_worthAt_184 : decode cX9_worthAt 184 = .ok (.ifCond .eq 8, 3) := by decide +kernel
theorem dX9_worthAt_187 : decode cX9_worthAt 187 = .ok (.iload 4, 2) := by decide +kernel
theorem dX9_worthAt_189 : decode cX9_worthAt 189 = .ok (.goto 5, 3) := by decide +kernel
theorem dX9_worthAt_192 : decode cX9_worthAt 192 = .ok (.iload 5, 2) := by decide +kernel
theorem dX9_worthAt_194 : decode cX9_worthAt 194 = .ok (.iadd, 1) := by decide +kernel
theorem dX9_worthAt_195 : decode cX9_worthAt 195 = .ok (.istore 7, 2) := by decide +kernel
theorem dX9_worthAt_197 : decode cX9_worthAt 197 = .ok (.aload_n 0, 1) := by decide +kernel
theorem dX9_worthAt_198 : decode cX9_worthAt 198 = .ok (.getfield 39, 3) := by decide +kernel
theorem dX9_worthAt_201 : decode cX9_worthAt 201 = .ok (.iload_n 3, 1) := by decide +kernel
theorem dX9_worthAt_202 : decode cX9_worthAt 202 = .ok (.iconst 1, 1) := by decide +kernel
theorem dX9_worthAt_203 : decode cX9_worthAt 203 = .ok (.iconst 2, 1) := by decide +kernel
theorem dX9_worthAt_204 : decode cX9_worthAt 204 = .ok (.iload 7, 2) := by decide +kernel
theorem dX9_worthAt_206 : decode cX9_worthAt 206 = .ok (.imul, 1) := by decide +kernel
theorem dX9_worthAt_207 : decode cX9_worthAt 207 = .ok (.iadd, 1) := by decide +kernel
theorem dX9_worthAt_208 : decode cX9_worthAt 208 = .ok (.iload 6, 2) := by decide +kernel
theorem dX9_worthAt_210 : decode cX9_worthAt 210 = .ok (.ifCond .eq 7, 3) := by decide +kernel
theorem dX9_worthAt_213 : decode cX9_worthAt 213 = .ok (.iconst 1, 1) := by decide +kernel
theorem dX9_worthAt_214 : decode cX9_worthAt 214 = .ok (.goto 4, 3) := by decide +kernel
theorem dX9_worthAt_217 : decode cX9_worthAt 217 = .ok (.iconst 0, 1) := by decide +kernel
theorem dX9_worthAt_218 : decode cX9_worthAt 218 = .ok (.iadd, 1) := by decide +kernel
theorem dX9_worthAt_219 : decode cX9_worthAt 219 = .ok (.iastore, 1) := by decide +kernel
theorem dX9_worthAt_220 : decode cX9_worthAt 220 = .ok (.aload_n 0, 1) := by decide +kernel
theorem dX9_worthAt_221 : decode cX9_worthAt 221 = .ok (.getfield 39, 3) := by decide +kernel
theorem dX9_worthAt_224 : decode cX9_worthAt 224 = .ok (.iload_n 3, 1) := by decide +kernel
theorem dX9_worthAt_225 : decode cX9_worthAt 225 = .ok (.iaload, 1) := by decide +kernel
theorem dX9_worthAt_226 : decode cX9_worthAt 226 = .ok (.ireturn, 1) := by decide +kernel
theorem dX9_winsAt_0 : decode cX9_winsAt 0 = .ok (.aload_n 0, 1) := by decide +kernel
theorem dX9_winsAt_1 : decode cX9_winsAt 1 = .ok (.invokevirtual 170, 3) := by decide +kernel
theorem dX9_winsAt_4 : decode cX9_winsAt 4 = .ok (.aload_n 0, 1) := by decide +kernel
theorem dX9_winsAt_5 : decode cX9_winsAt 5 = .ok (.iload_n 1, 1) := by decide +kernel
theorem dX9_winsAt_6 : decode cX9_winsAt 6 = .ok (.iload_n 2, 1) := by decide +kernel
theorem dX9_winsAt_7 : decode cX9_winsAt 7 = .ok (.invokevirtual 167, 3) := by decide +kernel
theorem dX9_winsAt_10 : decode cX9_winsAt 10 = .ok (.iconst 1, 1) := by decide +kernel
theorem dX9_winsAt_11 : decode cX9_winsAt 11 = .ok (.isub, 1) := by decide +kernel
theorem dX9_winsAt_12 : decode cX9_winsAt 12 = .ok (.iconst 1, 1) := by decide +kernel
theorem dX9_winsAt_13 : decode cX9_winsAt 13 = .ok (.iand, 1) := by decide +kernel
theorem dX9_winsAt_14 : decode cX9_winsAt 14 = .ok (.iconst 1, 1) := by decide +kernel
theorem dX9_winsAt_15 : decode cX9_winsAt 15 = .ok (.if_icmp .ne 7, 3) := by decide +kernel
theorem dX9_winsAt_18 : decode cX9_winsAt 18 = .ok (.iconst 1, 1) := by decide +kernel
theorem dX9_winsAt_19 : decode cX9_winsAt 19 = .ok (.goto 4, 3) := by decide +kernel
theorem dX9_winsAt_22 : decode cX9_winsAt 22 = .ok (.iconst 0, 1) := by decide +kernel
theorem dX9_winsAt_23 : decode cX9_winsAt 23 = .ok (.ireturn, 1) := by decide +kernel
theorem dX9_longAt_0 : decode cX9_longAt 0 = .ok (.aload_n 0, 1) := by decide +kernel
theorem dX9_longAt_1 : decode cX9_longAt 1 = .ok (.invokevirtual 170, 3) := by decide +kernel
theorem dX9_longAt_4 : decode cX9_longAt 4 = .ok (.aload_n 0, 1) := by decide +kernel
theorem dX9_longAt_5 : decode cX9_longAt 5 = .ok (.iload_n 1, 1) := by decide +kernel
theorem dX9_longAt_6 : decode cX9_longAt 6 = .ok (.iload_n 2, 1) := by decide +kernel
theorem dX9_longAt_7 : decode cX9_longAt 7 = .ok (.invokevirtual 167, 3) := by decide +kernel
theorem dX9_longAt_10 : decode cX9_longAt 10 = .ok (.iconst 1, 1) := by decide +kernel
theorem dX9_longAt_11 : decode cX9_longAt 11 = .ok (.isub, 1) := by decide +kernel
theorem dX9_longAt_12 : decode cX9_longAt 12 = .ok (.iconst 1, 1) := by decide +kernel
theorem dX9_longAt_13 : decode cX9_longAt 13 = .ok (.ishr, 1) := by decide +kernel
theorem dX9_longAt_14 : decode cX9_longAt 14 = .ok (.ireturn, 1) := by decide +kernel
theorem dX9_nimAt_0 : decode cX9_nimAt 0 = .ok (.sipush 4096, 3) := by decide +kernel
theorem dX9_nimAt_3 : decode cX9_nimAt 3 = .ok (.iload_n 1, 1) := by decide +kernel
theorem dX9_nimAt_4 : decode cX9_nimAt 4 = .ok (.imul, 1) := by decide +kernel
theorem dX9_nimAt_5 : decode cX9_nimAt 5 = .ok (.iload_n 2, 1) := by decide +kernel
theorem dX9_nimAt_6 : decode cX9_nimAt 6 = .ok (.iadd, 1) := by decide +kernel
theorem dX9_nimAt_7 : decode cX9_nimAt 7 = .ok (.istore_n 3, 1) := by decide +kernel
theorem dX9_nimAt_8 : decode cX9_nimAt 8 = .ok (.aload_n 0, 1) := by decide +kernel
theorem dX9_nimAt_9 : decode cX9_nimAt 9 = .ok (.getfield 42, 3) := by decide +kernel
theorem dX9_nimAt_12 : decode cX9_nimAt 12 = .ok (.iload_n 3, 1) := by decide +kernel
theorem dX9_nimAt_13 : decode cX9_nimAt 13 = .ok (.iaload, 1) := by decide +kernel
theorem dX9_nimAt_14 : decode cX9_nimAt 14 = .ok (.ifCond .eq 12, 3) := by decide +kernel
theorem dX9_nimAt_17 : decode cX9_nimAt 17 = .ok (.aload_n 0, 1) := by decide +kernel
theorem dX9_nimAt_18 : decode cX9_nimAt 18 = .ok (.getfield 42, 3) := by decide +kernel
theorem dX9_nimAt_21 : decode cX9_nimAt 21 = .ok (.iload_n 3, 1) := by decide +kernel
theorem dX9_nimAt_22 : decode cX9_nimAt 22 = .ok (.iaload, 1) := by decide +kernel
theorem dX9_nimAt_23 : decode cX9_nimAt 23 = .ok (.iconst 1, 1) := by decide +kernel
theorem dX9_nimAt_24 : decode cX9_nimAt 24 = .ok (.isub, 1) := by decide +kernel
theorem dX9_nimAt_25 : decode cX9_nimAt 25 = .ok (.ireturn, 1) := by decide +kernel
theorem dX9_nimAt_26 : decode cX9_nimAt 26 = .ok (.iconst 0, 1) := by decide +kernel
theorem dX9_nimAt_27 : decode cX9_nimAt 27 = .ok (.istore 4, 2) := by decide +kernel
theorem dX9_nimAt_29 : decode cX9_nimAt 29 = .ok (.iconst 0, 1) := by decide +kernel
theorem dX9_nimAt_30 : decode cX9_nimAt 30 = .ok (.istore 5, 2) := by decide +kernel
theorem dX9_nimAt_32 : decode cX9_nimAt 32 = .ok (.iload 5, 2) := by decide +kernel
theorem dX9_nimAt_34 : decode cX9_nimAt 34 = .ok (.aload_n 0, 1) := by decide +kernel
theorem dX9_nimAt_35 : decode cX9_nimAt 35 = .ok (.getfield 72, 3) := by decide +kernel
theorem dX9_nimAt_38 : decode cX9_nimAt 38 = .ok (.if_icmp .ge 50, 3) := by decide +kernel
theorem dX9_nimAt_41 : decode cX9_nimAt 41 = .ok (.iload 4, 2) := by decide +kernel
theorem dX9_nimAt_43 : decode cX9_nimAt 43 = .ok (.aload_n 0, 1) := by decide +kernel
theorem dX9_nimAt_44 : decode cX9_nimAt 44 = .ok (.iload 5, 2) := by decide +kernel
theorem dX9_nimAt_46 : decode cX9_nimAt 46 = .ok (.iload_n 1, 1) := by decide +kernel
theorem dX9_nimAt_47 : decode cX9_nimAt 47 = .ok (.iload_n 2, 1) := by decide +kernel
theorem dX9_nimAt_48 : decode cX9_nimAt 48 = .ok (.invokevirtual 160, 3) := by decide +kernel
theorem dX9_nimAt_51 : decode cX9_nimAt 51 = .ok (.ifCond .eq 27, 3) := by decide +kernel
theorem dX9_nimAt_54 : decode cX9_nimAt 54 = .ok (.iconst 1, 1) := by decide +kernel
theorem dX9_nimAt_55 : decode cX9_nimAt 55 = .ok (.aload_n 0, 1) := by decide +kernel
theorem dX9_nimAt_56 : decode cX9_nimAt 56 = .ok (.aload_n 0, 1) := by decide +kernel
theorem dX9_nimAt_57 : decode cX9_nimAt 57 = .ok (.iload 5, 2) := by decide +kernel
theorem dX9_nimAt_59 : decode cX9_nimAt 59 = .ok (.iload_n 1, 1) := by decide +kernel
theorem dX9_nimAt_60 : decode cX9_nimAt 60 = .ok (.invokevirtual 101, 3) := by decide +kernel
theorem dX9_nimAt_63 : decode cX9_nimAt 63 = .ok (.aload_n 0, 1) := by decide +kernel
theorem dX9_nimAt_64 : decode cX9_nimAt 64 = .ok (.iload 5, 2) := by decide +kernel
theorem dX9_nimAt_66 : decode cX9_nimAt 66 = .ok (.iload_n 1, 1) := by decide +kernel
theorem dX9_nimAt_67 : decode cX9_nimAt 67 = .ok (.iload_n 2, 1) := by decide +kernel
theorem dX9_nimAt_68 : decode cX9_nimAt 68 = .ok (.invokevirtual 163, 3) := by decide +kernel
theorem dX9_nimAt_71 : decode cX9_nimAt 71 = .ok (.invokevirtual 173, 3) := by decide +kernel
theorem dX9_nimAt_74 : decode cX9_nimAt 74 = .ok (.ishl, 1) := by decide +kernel
theorem dX9_nimAt_75 : decode cX9_nimAt 75 = .ok (.goto 4, 3) := by decide +kernel
theorem dX9_nimAt_78 : decode cX9_nimAt 78 = .ok (.iconst 0, 1) := by decide +kernel
theorem dX9_nimAt_79 : decode cX9_nimAt 79 = .ok (.ior, 1) := by decide +kernel
theorem dX9_nimAt_80 : decode cX9_nimAt 80 = .ok (.istore 4, 2) := by decide +kernel
theorem dX9_nimAt_82 : decode cX9_nimAt 82 = .ok (.iinc 5 1, 3) := by decide +kernel
theorem dX9_nimAt_85 : decode cX9_nimAt 85 = .ok (.goto (-53), 3) := by decide +kernel
theorem dX9_nimAt_88 : decode cX9_nimAt 88 = .ok (.iconst 0, 1) := by decide +kernel
theorem dX9_nimAt_89 : decode cX9_nimAt 89 = .ok (.istore 5, 2) := by decide +kernel
theorem dX9_nimAt_91 : decode cX9_nimAt 91 = .ok (.iload 4, 2) := by decide +kernel
theorem dX9_nimAt_93 : decode cX9_nimAt 93 = .ok (.iload 5, 2) := by decide +kernel
theorem dX9_nimAt_95 : decode cX9_nimAt 95 = .ok (.invokestatic 114, 3) := by decide +kernel
theorem dX9_nimAt_98 : decode cX9_nimAt 98 = .ok (.ifCond .eq 9, 3) := by decide +kernel
theorem dX9_nimAt_101 : decode cX9_nimAt 101 = .ok (.iinc 5 1, 3) := by decide +kernel
theorem dX9_nimAt_104 : decode cX9_nimAt 104 = .ok (.goto (-13), 3) := by decide +kernel
theorem dX9_nimAt_107 : decode cX9_nimAt 107 = .ok (.aload_n 0, 1) := by decide +kernel
theorem dX9_nimAt_108 : decode cX9_nimAt 108 = .ok (.getfield 42, 3) := by decide +kernel
theorem dX9_nimAt_111 : decode cX9_nimAt 111 = .ok (.iload_n 3, 1) := by decide +kernel
theorem dX9_nimAt_112 : decode cX9_nimAt 112 = .ok (.iload 5, 2) := by decide +kernel
theorem dX9_nimAt_114 : decode cX9_nimAt 114 = .ok (.iconst 1, 1) := by decide +kernel
theorem dX9_nimAt_115 : decode cX9_nimAt 115 = .ok (.iadd, 1) := by decide +kernel
theorem dX9_nimAt_116 : decode cX9_nimAt 116 = .ok (.iastore, 1) := by decide +kernel
theorem dX9_nimAt_117 : decode cX9_nimAt 117 = .ok (.iload 5, 2) := by decide +kernel
theorem dX9_nimAt_119 : decode cX9_nimAt 119 = .ok (.ireturn, 1) := by decide +kernel
theorem dX9_setNow_0 : decode cX9_setNow 0 = .ok (.aload_n 0, 1) := by decide +kernel
theorem dX9_setNow_1 : decode cX9_setNow 1 = .ok (.invokevirtual 157, 3) := by decide +kernel
theorem dX9_setNow_4 : decode cX9_setNow 4 = .ok (.ifCond .eq 10, 3) := by decide +kernel
theorem dX9_setNow_7 : decode cX9_setNow 7 = .ok (.aload_n 0, 1) := by decide +kernel
theorem dX9_setNow_8 : decode cX9_setNow 8 = .ok (.getfield 176, 3) := by decide +kernel
theorem dX9_setNow_11 : decode cX9_setNow 11 = .ok (.goto 7, 3) := by decide +kernel
theorem dX9_setNow_14 : decode cX9_setNow 14 = .ok (.aload_n 0, 1) := by decide +kernel
theorem dX9_setNow_15 : decode cX9_setNow 15 = .ok (.getfield 179, 3) := by decide +kernel
theorem dX9_setNow_18 : decode cX9_setNow 18 = .ok (.ireturn, 1) := by decide +kernel
theorem dX9_movesNow_0 : decode cX9_movesNow 0 = .ok (.aload_n 0, 1) := by decide +kernel
theorem dX9_movesNow_1 : decode cX9_movesNow 1 = .ok (.aload_n 0, 1) := by decide +kernel
theorem dX9_movesNow_2 : decode cX9_movesNow 2 = .ok (.getfield 182, 3) := by decide +kernel
theorem dX9_movesNow_5 : decode cX9_movesNow 5 = .ok (.aload_n 0, 1) := by decide +kernel
theorem dX9_movesNow_6 : decode cX9_movesNow 6 = .ok (.invokevirtual 185, 3) := by decide +kernel
theorem dX9_movesNow_9 : decode cX9_movesNow 9 = .ok (.invokevirtual 188, 3) := by decide +kernel
theorem dX9_movesNow_12 : decode cX9_movesNow 12 = .ok (.ireturn, 1) := by decide +kernel
theorem dX9_isOver_0 : decode cX9_isOver 0 = .ok (.aload_n 0, 1) := by decide +kernel
theorem dX9_isOver_1 : decode cX9_isOver 1 = .ok (.invokevirtual 191, 3) := by decide +kernel
theorem dX9_isOver_4 : decode cX9_isOver 4 = .ok (.ifCond .ne 7, 3) := by decide +kernel
theorem dX9_isOver_7 : decode cX9_isOver 7 = .ok (.iconst 1, 1) := by decide +kernel
theorem dX9_isOver_8 : decode cX9_isOver 8 = .ok (.goto 4, 3) := by decide +kernel
theorem dX9_isOver_11 : decode cX9_isOver 11 = .ok (.iconst 0, 1) := by decide +kernel
theorem dX9_isOver_12 : decode cX9_isOver 12 = .ok (.ireturn, 1) := by decide +kernel
theorem dX9_winsBehind_0 : decode cX9_winsBehind 0 = .ok (.aload_n 0, 1) := by decide +kernel
theorem dX9_winsBehind_1 : decode cX9_winsBehind 1 = .ok (.aload_n 0, 1) := by decide +kernel
theorem dX9_winsBehind_2 : decode cX9_winsBehind 2 = .ok (.iload_n 1, 1) := by decide +kernel
theorem dX9_winsBehind_3 : decode cX9_winsBehind 3 = .ok (.aload_n 0, 1) := by decide +kernel
theorem dX9_winsBehind_4 : decode cX9_winsBehind 4 = .ok (.getfield 182, 3) := by decide +kernel
theorem dX9_winsBehind_7 : decode cX9_winsBehind 7 = .ok (.invokevirtual 101, 3) := by decide +kernel
theorem dX9_winsBehind_10 : decode cX9_winsBehind 10 = .ok (.aload_n 0, 1) := by decide +kernel
theorem dX9_winsBehind_11 : decode cX9_winsBehind 11 = .ok (.iload_n 1, 1) := by decide +kernel
theorem dX9_winsBehind_12 : decode cX9_winsBehind 12 = .ok (.aload_n 0, 1) := by decide +kernel
theorem dX9_winsBehind_13 : decode cX9_winsBehind 13 = .ok (.getfield 182, 3) := by decide +kernel
theorem dX9_winsBehind_16 : decode cX9_winsBehind 16 = .ok (.aload_n 0, 1) := by decide +kernel
theorem dX9_winsBehind_17 : decode cX9_winsBehind 17 = .ok (.invokevirtual 185, 3) := by decide +kernel
theorem dX9_winsBehind_20 : decode cX9_winsBehind 20 = .ok (.invokevirtual 163, 3) := by decide +kernel
theorem dX9_winsBehind_23 : decode cX9_winsBehind 23 = .ok (.invokevirtual 194, 3) := by decide +kernel
theorem dX9_winsBehind_26 : decode cX9_winsBehind 26 = .ok (.ifCond .ne 7, 3) := by decide +kernel
theorem dX9_winsBehind_29 : decode cX9_winsBehind 29 = .ok (.iconst 1, 1) := by decide +kernel
theorem dX9_winsBehind_30 : decode cX9_winsBehind 30 = .ok (.goto 4, 3) := by decide +kernel
theorem dX9_winsBehind_33 : decode cX9_winsBehind 33 = .ok (.iconst 0, 1) := by decide +kernel
theorem dX9_winsBehind_34 : decode cX9_winsBehind 34 = .ok (.ireturn, 1) := by decide +kernel
theorem dX9_beginsAt_0 : decode cX9_beginsAt 0 = .ok (.aload_n 0, 1) := by decide +kernel
theorem dX9_beginsAt_1 : decode cX9_beginsAt 1 = .ok (.iload_n 1, 1) := by decide +kernel
theorem dX9_beginsAt_2 : decode cX9_beginsAt 2 = .ok (.putfield 150, 3) := by decide +kernel
theorem dX9_beginsAt_5 : decode cX9_beginsAt 5 = .ok (.aload_n 0, 1) := by decide +kernel
theorem dX9_beginsAt_6 : decode cX9_beginsAt 6 = .ok (.iload_n 2, 1) := by decide +kernel
theorem dX9_beginsAt_7 : decode cX9_beginsAt 7 = .ok (.putfield 197, 3) := by decide +kernel
theorem dX9_beginsAt_10 : decode cX9_beginsAt 10 = .ok (.aload_n 0, 1) := by decide +kernel
theorem dX9_beginsAt_11 : decode cX9_beginsAt 11 = .ok (.iload_n 2, 1) := by decide +kernel
theorem dX9_beginsAt_12 : decode cX9_beginsAt 12 = .ok (.putfield 182, 3) := by decide +kernel
theorem dX9_beginsAt_15 : decode cX9_beginsAt 15 = .ok (.aload_n 0, 1) := by decide +kernel
theorem dX9_beginsAt_16 : decode cX9_beginsAt 16 = .ok (.iconst 1, 1) := by decide +kernel
theorem dX9_beginsAt_17 : decode cX9_beginsAt 17 = .ok (.iload_n 2, 1) := by decide +kernel
theorem dX9_beginsAt_18 : decode cX9_beginsAt 18 = .ok (.ishl, 1) := by decide +kernel
theorem dX9_beginsAt_19 : decode cX9_beginsAt 19 = .ok (.putfield 179, 3) := by decide +kernel
theorem dX9_beginsAt_22 : decode cX9_beginsAt 22 = .ok (.aload_n 0, 1) := by decide +kernel
theorem dX9_beginsAt_23 : decode cX9_beginsAt 23 = .ok (.iconst 0, 1) := by decide +kernel
theorem dX9_beginsAt_24 : decode cX9_beginsAt 24 = .ok (.putfield 176, 3) := by decide +kernel
theorem dX9_beginsAt_27 : decode cX9_beginsAt 27 = .ok (.aload_n 0, 1) := by decide +kernel
theorem dX9_beginsAt_28 : decode cX9_beginsAt 28 = .ok (.iconst 0, 1) := by decide +kernel
theorem dX9_beginsAt_29 : decode cX9_beginsAt 29 = .ok (.putfield 200, 3) := by decide +kernel
theorem dX9_beginsAt_32 : decode cX9_beginsAt 32 = .ok (.return_, 1) := by decide +kernel
theorem dX9_begin_0 : decode cX9_begin 0 = .ok (.iload_n 1, 1) := by decide +kernel
theorem dX9_begin_1 : decode cX9_begin 1 = .ok (.iconst 0, 1) := by decide +kernel
theorem dX9_begin_2 : decode cX9_begin 2 = .ok (.iconst 4, 1) := by decide +kernel
theorem dX9_begin_3 : decode cX9_begin 3 = .ok (.invokestatic 68, 3) := by decide +kernel
theorem dX9_begin_6 : decode cX9_begin 6 = .ok (.ifCond .eq 11, 3) := by decide +kernel
theorem dX9_begin_9 : decode cX9_begin 9 = .ok (.aload_n 0, 1) := by decide +kernel
theorem dX9_begin_10 : decode cX9_begin 10 = .ok (.iload_n 2, 1) := by decide +kernel
theorem dX9_begin_11 : decode cX9_begin 11 = .ok (.invokevirtual 86, 3) := by decide +kernel
theorem dX9_begin_14 : decode cX9_begin 14 = .ok (.ifCond .ne 9, 3) := by decide +kernel
theorem dX9_begin_17 : decode cX9_begin 17 = .ok (.aload_n 0, 1) := by decide +kernel
theorem dX9_begin_18 : decode cX9_begin 18 = .ok (.iconst 1, 1) := by decide +kernel
theorem dX9_begin_19 : decode cX9_begin 19 = .ok (.invokevirtual 79, 3) := by decide +kernel
theorem dX9_begin_22 : decode cX9_begin 22 = .ok (.ireturn, 1) := by decide +kernel
theorem dX9_begin_23 : decode cX9_begin 23 = .ok (.aload_n 0, 1) := by decide +kernel
theorem dX9_begin_24 : decode cX9_begin 24 = .ok (.iconst 1, 1) := by decide +kernel
theorem dX9_begin_25 : decode cX9_begin 25 = .ok (.putfield 75, 3) := by decide +kernel
theorem dX9_begin_28 : decode cX9_begin 28 = .ok (.aload_n 0, 1) := by decide +kernel
theorem dX9_begin_29 : decode cX9_begin 29 = .ok (.iload_n 1, 1) := by decide +kernel
theorem dX9_begin_30 : decode cX9_begin 30 = .ok (.iload_n 2, 1) := by decide +kernel
theorem dX9_begin_31 : decode cX9_begin 31 = .ok (.invokevirtual 203, 3) := by decide +kernel
theorem dX9_begin_34 : decode cX9_begin 34 = .ok (.aload_n 0, 1) := by decide +kernel
theorem dX9_begin_35 : decode cX9_begin 35 = .ok (.aload_n 0, 1) := by decide +kernel
theorem dX9_begin_36 : decode cX9_begin 36 = .ok (.getfield 182, 3) := by decide +kernel
theorem dX9_begin_39 : decode cX9_begin 39 = .ok (.aload_n 0, 1) := by decide +kernel
theorem dX9_begin_40 : decode cX9_begin 40 = .ok (.invokevirtual 185, 3) := by decide +kernel
theorem dX9_begin_43 : decode cX9_begin 43 = .ok (.invokevirtual 194, 3) := by decide +kernel
theorem dX9_begin_46 : decode cX9_begin 46 = .ok (.ifCond .eq 7, 3) := by decide +kernel
theorem dX9_begin_49 : decode cX9_begin 49 = .ok (.iconst 1, 1) := by decide +kernel
theorem dX9_begin_50 : decode cX9_begin 50 = .ok (.goto 4, 3) := by decide +kernel
theorem dX9_begin_53 : decode cX9_begin 53 = .ok (.iconst 0, 1) := by decide +kernel
theorem dX9_begin_54 : decode cX9_begin 54 = .ok (.ireturn, 1) := by decide +kernel
theorem dX9_goes_0 : decode cX9_goes 0 = .ok (.aload_n 0, 1) := by decide +kernel
theorem dX9_goes_1 : decode cX9_goes 1 = .ok (.aload_n 0, 1) := by decide +kernel
theorem dX9_goes_2 : decode cX9_goes 2 = .ok (.iload_n 1, 1) := by decide +kernel
theorem dX9_goes_3 : decode cX9_goes 3 = .ok (.aload_n 0, 1) := by decide +kernel
theorem dX9_goes_4 : decode cX9_goes 4 = .ok (.getfield 182, 3) := by decide +kernel
theorem dX9_goes_7 : decode cX9_goes 7 = .ok (.invokevirtual 101, 3) := by decide +kernel
theorem dX9_goes_10 : decode cX9_goes 10 = .ok (.putfield 182, 3) := by decide +kernel
theorem dX9_goes_13 : decode cX9_goes 13 = .ok (.aload_n 0, 1) := by decide +kernel
theorem dX9_goes_14 : decode cX9_goes 14 = .ok (.dup, 1) := by decide +kernel
theorem dX9_goes_15 : decode cX9_goes 15 = .ok (.getfield 179, 3) := by decide +kernel
theorem dX9_goes_18 : decode cX9_goes 18 = .ok (.iconst 1, 1) := by decide +kernel
theorem dX9_goes_19 : decode cX9_goes 19 = .ok (.aload_n 0, 1) := by decide +kernel
theorem dX9_goes_20 : decode cX9_goes 20 = .ok (.getfield 182, 3) := by decide +kernel
theorem dX9_goes_23 : decode cX9_goes 23 = .ok (.ishl, 1) := by decide +kernel
theorem dX9_goes_24 : decode cX9_goes 24 = .ok (.ior, 1) := by decide +kernel
theorem dX9_goes_25 : decode cX9_goes 25 = .ok (.putfield 179, 3) := by decide +kernel
theorem dX9_goes_28 : decode cX9_goes 28 = .ok (.aload_n 0, 1) := by decide +kernel
theorem dX9_goes_29 : decode cX9_goes 29 = .ok (.dup, 1) := by decide +kernel
theorem dX9_goes_30 : decode cX9_goes 30 = .ok (.getfield 176, 3) := by decide +kernel
theorem dX9_goes_33 : decode cX9_goes 33 = .ok (.iconst 1, 1) := by decide +kernel
theorem dX9_goes_34 : decode cX9_goes 34 = .ok (.iload_n 1, 1) := by decide +kernel
theorem dX9_goes_35 : decode cX9_goes 35 = .ok (.ishl, 1) := by decide +kernel
theorem dX9_goes_36 : decode cX9_goes 36 = .ok (.ior, 1) := by decide +kernel
theorem dX9_goes_37 : decode cX9_goes 37 = .ok (.putfield 176, 3) := by decide +kernel
theorem dX9_goes_40 : decode cX9_goes 40 = .ok (.aload_n 0, 1) := by decide +kernel
theorem dX9_goes_41 : decode cX9_goes 41 = .ok (.getfield 35, 3) := by decide +kernel
theorem dX9_goes_44 : decode cX9_goes 44 = .ok (.aload_n 0, 1) := by decide +kernel
theorem dX9_goes_45 : decode cX9_goes 45 = .ok (.getfield 200, 3) := by decide +kernel
theorem dX9_goes_48 : decode cX9_goes 48 = .ok (.iload_n 1, 1) := by decide +kernel
theorem dX9_goes_49 : decode cX9_goes 49 = .ok (.iastore, 1) := by decide +kernel
theorem dX9_goes_50 : decode cX9_goes 50 = .ok (.aload_n 0, 1) := by decide +kernel
theorem dX9_goes_51 : decode cX9_goes 51 = .ok (.dup, 1) := by decide +kernel
theorem dX9_goes_52 : decode cX9_goes 52 = .ok (.getfield 200, 3) := by decide +kernel
theorem dX9_goes_55 : decode cX9_goes 55 = .ok (.iconst 1, 1) := by decide +kernel
theorem dX9_goes_56 : decode cX9_goes 56 = .ok (.iadd, 1) := by decide +kernel
theorem dX9_goes_57 : decode cX9_goes 57 = .ok (.putfield 200, 3) := by decide +kernel
theorem dX9_goes_60 : decode cX9_goes 60 = .ok (.return_, 1) := by decide +kernel
theorem dX9_go_0 : decode cX9_go 0 = .ok (.aload_n 0, 1) := by decide +kernel
theorem dX9_go_1 : decode cX9_go 1 = .ok (.getfield 75, 3) := by decide +kernel
theorem dX9_go_4 : decode cX9_go 4 = .ok (.ifCond .eq 10, 3) := by decide +kernel
theorem dX9_go_7 : decode cX9_go 7 = .ok (.aload_n 0, 1) := by decide +kernel
theorem dX9_go_8 : decode cX9_go 8 = .ok (.invokevirtual 207, 3) := by decide +kernel
theorem dX9_go_11 : decode cX9_go 11 = .ok (.ifCond .eq 9, 3) := by decide +kernel
theorem dX9_go_14 : decode cX9_go 14 = .ok (.aload_n 0, 1) := by decide +kernel
theorem dX9_go_15 : decode cX9_go 15 = .ok (.iconst 3, 1) := by decide +kernel
theorem dX9_go_16 : decode cX9_go 16 = .ok (.invokevirtual 79, 3) := by decide +kernel
theorem dX9_go_19 : decode cX9_go 19 = .ok (.ireturn, 1) := by decide +kernel
theorem dX9_go_20 : decode cX9_go 20 = .ok (.aload_n 0, 1) := by decide +kernel
theorem dX9_go_21 : decode cX9_go 21 = .ok (.iload_n 1, 1) := by decide +kernel
theorem dX9_go_22 : decode cX9_go 22 = .ok (.invokevirtual 94, 3) := by decide +kernel
theorem dX9_go_25 : decode cX9_go 25 = .ok (.ifCond .ne 9, 3) := by decide +kernel
theorem dX9_go_28 : decode cX9_go 28 = .ok (.aload_n 0, 1) := by decide +kernel
theorem dX9_go_29 : decode cX9_go 29 = .ok (.iconst 1, 1) := by decide +kernel
theorem dX9_go_30 : decode cX9_go 30 = .ok (.invokevirtual 79, 3) := by decide +kernel
theorem dX9_go_33 : decode cX9_go 33 = .ok (.ireturn, 1) := by decide +kernel
theorem dX9_go_34 : decode cX9_go 34 = .ok (.aload_n 0, 1) := by decide +kernel
theorem dX9_go_35 : decode cX9_go 35 = .ok (.invokevirtual 191, 3) := by decide +kernel
theorem dX9_go_38 : decode cX9_go 38 = .ok (.iload_n 1, 1) := by decide +kernel
theorem dX9_go_39 : decode cX9_go 39 = .ok (.invokestatic 114, 3) := by decide +kernel
theorem dX9_go_42 : decode cX9_go 42 = .ok (.ifCond .ne 9, 3) := by decide +kernel
theorem dX9_go_45 : decode cX9_go 45 = .ok (.aload_n 0, 1) := by decide +kernel
theorem dX9_go_46 : decode cX9_go 46 = .ok (.iconst 2, 1) := by decide +kernel
theorem dX9_go_47 : decode cX9_go 47 = .ok (.invokevirtual 79, 3) := by decide +kernel
theorem dX9_go_50 : decode cX9_go 50 = .ok (.ireturn, 1) := by decide +kernel
theorem dX9_go_51 : decode cX9_go 51 = .ok (.aload_n 0, 1) := by decide +kernel
theorem dX9_go_52 : decode cX9_go 52 = .ok (.iload_n 1, 1) := by decide +kernel
theorem dX9_go_53 : decode cX9_go 53 = .ok (.invokevirtual 210, 3) := by decide +kernel
theorem dX9_go_56 : decode cX9_go 56 = .ok (.aload_n 0, 1) := by decide +kernel
theorem dX9_go_57 : decode cX9_go 57 = .ok (.invokevirtual 207, 3) := by decide +kernel
theorem dX9_go_60 : decode cX9_go 60 = .ok (.ifCond .eq 7, 3) := by decide +kernel
theorem dX9_go_63 : decode cX9_go 63 = .ok (.iconst 1, 1) := by decide +kernel
theorem dX9_go_64 : decode cX9_go 64 = .ok (.goto 4, 3) := by decide +kernel
theorem dX9_go_67 : decode cX9_go 67 = .ok (.iconst 0, 1) := by decide +kernel
theorem dX9_go_68 : decode cX9_go 68 = .ok (.ireturn, 1) := by decide +kernel
theorem dX9_goesBack_0 : decode cX9_goesBack 0 = .ok (.aload_n 0, 1) := by decide +kernel
theorem dX9_goesBack_1 : decode cX9_goesBack 1 = .ok (.getfield 200, 3) := by decide +kernel
theorem dX9_goesBack_4 : decode cX9_goesBack 4 = .ok (.iconst 1, 1) := by decide +kernel
theorem dX9_goesBack_5 : decode cX9_goesBack 5 = .ok (.isub, 1) := by decide +kernel
theorem dX9_goesBack_6 : decode cX9_goesBack 6 = .ok (.istore_n 1, 1) := by decide +kernel
theorem dX9_goesBack_7 : decode cX9_goesBack 7 = .ok (.aload_n 0, 1) := by decide +kernel
theorem dX9_goesBack_8 : decode cX9_goesBack 8 = .ok (.aload_n 0, 1) := by decide +kernel
theorem dX9_goesBack_9 : decode cX9_goesBack 9 = .ok (.getfield 150, 3) := by decide +kernel
theorem dX9_goesBack_12 : decode cX9_goesBack 12 = .ok (.aload_n 0, 1) := by decide +kernel
theorem dX9_goesBack_13 : decode cX9_goesBack 13 = .ok (.getfield 197, 3) := by decide +kernel
theorem dX9_goesBack_16 : decode cX9_goesBack 16 = .ok (.invokevirtual 203, 3) := by decide +kernel
theorem dX9_goesBack_19 : decode cX9_goesBack 19 = .ok (.iconst 0, 1) := by decide +kernel
theorem dX9_goesBack_20 : decode cX9_goesBack 20 = .ok (.istore_n 2, 1) := by decide +kernel
theorem dX9_goesBack_21 : decode cX9_goesBack 21 = .ok (.iload_n 2, 1) := by decide +kernel
theorem dX9_goesBack_22 : decode cX9_goesBack 22 = .ok (.iload_n 1, 1) := by decide +kernel
theorem dX9_goesBack_23 : decode cX9_goesBack 23 = .ok (.if_icmp .ge 19, 3) := by decide +kernel
theorem dX9_goesBack_26 : decode cX9_goesBack 26 = .ok (.aload_n 0, 1) := by decide +kernel
theorem dX9_goesBack_27 : decode cX9_goesBack 27 = .ok (.aload_n 0, 1) := by decide +kernel
theorem dX9_goesBack_28 : decode cX9_goesBack 28 = .ok (.getfield 35, 3) := by decide +kernel
theorem dX9_goesBack_31 : decode cX9_goesBack 31 = .ok (.iload_n 2, 1) := by decide +kernel
theorem dX9_goesBack_32 : decode cX9_goesBack 32 = .ok (.iaload, 1) := by decide +kernel
theorem dX9_goesBack_33 : decode cX9_goesBack 33 = .ok (.invokevirtual 210, 3) := by decide +kernel
theorem dX9_goesBack_36 : decode cX9_goesBack 36 = .ok (.iinc 2 1, 3) := by decide +kernel
theorem dX9_goesBack_39 : decode cX9_goesBack 39 = .ok (.goto (-18), 3) := by decide +kernel
theorem dX9_goesBack_42 : decode cX9_goesBack 42 = .ok (.return_, 1) := by decide +kernel
theorem dX9_back_0 : decode cX9_back 0 = .ok (.aload_n 0, 1) := by decide +kernel
theorem dX9_back_1 : decode cX9_back 1 = .ok (.getfield 75, 3) := by decide +kernel
theorem dX9_back_4 : decode cX9_back 4 = .ok (.ifCond .ne 9, 3) := by decide +kernel
theorem dX9_back_7 : decode cX9_back 7 = .ok (.aload_n 0, 1) := by decide +kernel
theorem dX9_back_8 : decode cX9_back 8 = .ok (.iconst 3, 1) := by decide +kernel
theorem dX9_back_9 : decode cX9_back 9 = .ok (.invokevirtual 79, 3) := by decide +kernel
theorem dX9_back_12 : decode cX9_back 12 = .ok (.ireturn, 1) := by decide +kernel
theorem dX9_back_13 : decode cX9_back 13 = .ok (.aload_n 0, 1) := by decide +kernel
theorem dX9_back_14 : decode cX9_back 14 = .ok (.getfield 200, 3) := by decide +kernel
theorem dX9_back_17 : decode cX9_back 17 = .ok (.ifCond .ne 9, 3) := by decide +kernel
theorem dX9_back_20 : decode cX9_back 20 = .ok (.aload_n 0, 1) := by decide +kernel
theorem dX9_back_21 : decode cX9_back 21 = .ok (.iconst 2, 1) := by decide +kernel
theorem dX9_back_22 : decode cX9_back 22 = .ok (.invokevirtual 79, 3) := by decide +kernel
theorem dX9_back_25 : decode cX9_back 25 = .ok (.ireturn, 1) := by decide +kernel
theorem dX9_back_26 : decode cX9_back 26 = .ok (.aload_n 0, 1) := by decide +kernel
theorem dX9_back_27 : decode cX9_back 27 = .ok (.invokevirtual 214, 3) := by decide +kernel
theorem dX9_back_30 : decode cX9_back 30 = .ok (.aload_n 0, 1) := by decide +kernel
theorem dX9_back_31 : decode cX9_back 31 = .ok (.getfield 200, 3) := by decide +kernel
theorem dX9_back_34 : decode cX9_back 34 = .ok (.ireturn, 1) := by decide +kernel
theorem dX9_mover_0 : decode cX9_mover 0 = .ok (.aload_n 0, 1) := by decide +kernel
theorem dX9_mover_1 : decode cX9_mover 1 = .ok (.getfield 200, 3) := by decide +kernel
theorem dX9_mover_4 : decode cX9_mover 4 = .ok (.iconst 2, 1) := by decide +kernel
theorem dX9_mover_5 : decode cX9_mover 5 = .ok (.irem, 1) := by decide +kernel
theorem dX9_mover_6 : decode cX9_mover 6 = .ok (.ireturn, 1) := by decide +kernel
theorem dX9_winner_0 : decode cX9_winner 0 = .ok (.aload_n 0, 1) := by decide +kernel
theorem dX9_winner_1 : decode cX9_winner 1 = .ok (.aload_n 0, 1) := by decide +kernel
theorem dX9_winner_2 : decode cX9_winner 2 = .ok (.getfield 182, 3) := by decide +kernel
theorem dX9_winner_5 : decode cX9_winner 5 = .ok (.aload_n 0, 1) := by decide +kernel
theorem dX9_winner_6 : decode cX9_winner 6 = .ok (.invokevirtual 185, 3) := by decide +kernel
theorem dX9_winner_9 : decode cX9_winner 9 = .ok (.invokevirtual 194, 3) := by decide +kernel
theorem dX9_winner_12 : decode cX9_winner 12 = .ok (.ifCond .eq 10, 3) := by decide +kernel
theorem dX9_winner_15 : decode cX9_winner 15 = .ok (.aload_n 0, 1) := by decide +kernel
theorem dX9_winner_16 : decode cX9_winner 16 = .ok (.invokevirtual 217, 3) := by decide +kernel
theorem dX9_winner_19 : decode cX9_winner 19 = .ok (.goto 9, 3) := by decide +kernel
theorem dX9_winner_22 : decode cX9_winner 22 = .ok (.iconst 1, 1) := by decide +kernel
theorem dX9_winner_23 : decode cX9_winner 23 = .ok (.aload_n 0, 1) := by decide +kernel
theorem dX9_winner_24 : decode cX9_winner 24 = .ok (.invokevirtual 217, 3) := by decide +kernel
theorem dX9_winner_27 : decode cX9_winner 27 = .ok (.isub, 1) := by decide +kernel
theorem dX9_winner_28 : decode cX9_winner 28 = .ok (.ireturn, 1) := by decide +kernel
theorem dX9_game_0 : decode cX9_game 0 = .ok (.iload_n 1, 1) := by decide +kernel
theorem dX9_game_1 : decode cX9_game 1 = .ok (.iconst 0, 1) := by decide +kernel
theorem dX9_game_2 : decode cX9_game 2 = .ok (.bipush 7, 2) := by decide +kernel
theorem dX9_game_4 : decode cX9_game 4 = .ok (.invokestatic 68, 3) := by decide +kernel
theorem dX9_game_7 : decode cX9_game 7 = .ok (.ifCond .ne 9, 3) := by decide +kernel
theorem dX9_game_10 : decode cX9_game 10 = .ok (.aload_n 0, 1) := by decide +kernel
theorem dX9_game_11 : decode cX9_game 11 = .ok (.iconst 1, 1) := by decide +kernel
theorem dX9_game_12 : decode cX9_game 12 = .ok (.invokevirtual 79, 3) := by decide +kernel
theorem dX9_game_15 : decode cX9_game 15 = .ok (.ireturn, 1) := by decide +kernel
theorem dX9_game_16 : decode cX9_game 16 = .ok (.aload_n 0, 1) := by decide +kernel
theorem dX9_game_17 : decode cX9_game 17 = .ok (.getfield 75, 3) := by decide +kernel
theorem dX9_game_20 : decode cX9_game 20 = .ok (.ifCond .ne 9, 3) := by decide +kernel
theorem dX9_game_23 : decode cX9_game 23 = .ok (.aload_n 0, 1) := by decide +kernel
theorem dX9_game_24 : decode cX9_game 24 = .ok (.iconst 3, 1) := by decide +kernel
theorem dX9_game_25 : decode cX9_game 25 = .ok (.invokevirtual 79, 3) := by decide +kernel
theorem dX9_game_28 : decode cX9_game 28 = .ok (.ireturn, 1) := by decide +kernel
theorem dX9_game_29 : decode cX9_game 29 = .ok (.iload_n 1, 1) := by decide +kernel
theorem dX9_game_30 : decode cX9_game 30 = .ok (.tableswitch 85 0 6 #[42, 47, 52, 57, 62, 67, 72], 42) := by decide +kernel
theorem dX9_game_72 : decode cX9_game 72 = .ok (.aload_n 0, 1) := by decide +kernel
theorem dX9_game_73 : decode cX9_game 73 = .ok (.getfield 150, 3) := by decide +kernel
theorem dX9_game_76 : decode cX9_game 76 = .ok (.ireturn, 1) := by decide +kernel
theorem dX9_game_77 : decode cX9_game 77 = .ok (.aload_n 0, 1) := by decide +kernel
theorem dX9_game_78 : decode cX9_game 78 = .ok (.getfield 182, 3) := by decide +kernel
theorem dX9_game_81 : decode cX9_game 81 = .ok (.ireturn, 1) := by decide +kernel
theorem dX9_game_82 : decode cX9_game 82 = .ok (.aload_n 0, 1) := by decide +kernel
theorem dX9_game_83 : decode cX9_game 83 = .ok (.getfield 179, 3) := by decide +kernel
theorem dX9_game_86 : decode cX9_game 86 = .ok (.ireturn, 1) := by decide +kernel
theorem dX9_game_87 : decode cX9_game 87 = .ok (.aload_n 0, 1) := by decide +kernel
theorem dX9_game_88 : decode cX9_game 88 = .ok (.getfield 176, 3) := by decide +kernel
theorem dX9_game_91 : decode cX9_game 91 = .ok (.ireturn, 1) := by decide +kernel
theorem dX9_game_92 : decode cX9_game 92 = .ok (.aload_n 0, 1) := by decide +kernel
theorem dX9_game_93 : decode cX9_game 93 = .ok (.getfield 200, 3) := by decide +kernel
theorem dX9_game_96 : decode cX9_game 96 = .ok (.ireturn, 1) := by decide +kernel
theorem dX9_game_97 : decode cX9_game 97 = .ok (.aload_n 0, 1) := by decide +kernel
theorem dX9_game_98 : decode cX9_game 98 = .ok (.invokevirtual 217, 3) := by decide +kernel
theorem dX9_game_101 : decode cX9_game 101 = .ok (.ireturn, 1) := by decide +kernel
theorem dX9_game_102 : decode cX9_game 102 = .ok (.aload_n 0, 1) := by decide +kernel
theorem dX9_game_103 : decode cX9_game 103 = .ok (.invokevirtual 207, 3) := by decide +kernel
theorem dX9_game_106 : decode cX9_game 106 = .ok (.ifCond .eq 7, 3) := by decide +kernel
theorem dX9_game_109 : decode cX9_game 109 = .ok (.iconst 1, 1) := by decide +kernel
theorem dX9_game_110 : decode cX9_game 110 = .ok (.goto 4, 3) := by decide +kernel
theorem dX9_game_113 : decode cX9_game 113 = .ok (.iconst 0, 1) := by decide +kernel
theorem dX9_game_114 : decode cX9_game 114 = .ok (.ireturn, 1) := by decide +kernel
theorem dX9_game_115 : decode cX9_game 115 = .ok (.aload_n 0, 1) := by decide +kernel
theorem dX9_game_116 : decode cX9_game 116 = .ok (.invokevirtual 220, 3) := by decide +kernel
theorem dX9_game_119 : decode cX9_game 119 = .ok (.ireturn, 1) := by decide +kernel
theorem dX9_moved_0 : decode cX9_moved 0 = .ok (.aload_n 0, 1) := by decide +kernel
theorem dX9_moved_1 : decode cX9_moved 1 = .ok (.getfield 75, 3) := by decide +kernel
theorem dX9_moved_4 : decode cX9_moved 4 = .ok (.ifCond .ne 9, 3) := by decide +kernel
theorem dX9_moved_7 : decode cX9_moved 7 = .ok (.aload_n 0, 1) := by decide +kernel
theorem dX9_moved_8 : decode cX9_moved 8 = .ok (.iconst 3, 1) := by decide +kernel
theorem dX9_moved_9 : decode cX9_moved 9 = .ok (.invokevirtual 79, 3) := by decide +kernel
theorem dX9_moved_12 : decode cX9_moved 12 = .ok (.ireturn, 1) := by decide +kernel
theorem dX9_moved_13 : decode cX9_moved 13 = .ok (.iload_n 1, 1) := by decide +kernel
theorem dX9_moved_14 : decode cX9_moved 14 = .ok (.iconst 0, 1) := by decide +kernel
theorem dX9_moved_15 : decode cX9_moved 15 = .ok (.aload_n 0, 1) := by decide +kernel
theorem dX9_moved_16 : decode cX9_moved 16 = .ok (.getfield 200, 3) := by decide +kernel
theorem dX9_moved_19 : decode cX9_moved 19 = .ok (.iconst 1, 1) := by decide +kernel
theorem dX9_moved_20 : decode cX9_moved 20 = .ok (.isub, 1) := by decide +kernel
theorem dX9_moved_21 : decode cX9_moved 21 = .ok (.invokestatic 68, 3) := by decide +kernel
theorem dX9_moved_24 : decode cX9_moved 24 = .ok (.ifCond .eq 12, 3) := by decide +kernel
theorem dX9_moved_27 : decode cX9_moved 27 = .ok (.aload_n 0, 1) := by decide +kernel
theorem dX9_moved_28 : decode cX9_moved 28 = .ok (.getfield 35, 3) := by decide +kernel
theorem dX9_moved_31 : decode cX9_moved 31 = .ok (.iload_n 1, 1) := by decide +kernel
theorem dX9_moved_32 : decode cX9_moved 32 = .ok (.iaload, 1) := by decide +kernel
theorem dX9_moved_33 : decode cX9_moved 33 = .ok (.goto 8, 3) := by decide +kernel
theorem dX9_moved_36 : decode cX9_moved 36 = .ok (.aload_n 0, 1) := by decide +kernel
theorem dX9_moved_37 : decode cX9_moved 37 = .ok (.iconst 2, 1) := by decide +kernel
theorem dX9_moved_38 : decode cX9_moved 38 = .ok (.invokevirtual 79, 3) := by decide +kernel
theorem dX9_moved_41 : decode cX9_moved 41 = .ok (.ireturn, 1) := by decide +kernel
theorem dX9_winning_0 : decode cX9_winning 0 = .ok (.aload_n 0, 1) := by decide +kernel
theorem dX9_winning_1 : decode cX9_winning 1 = .ok (.invokevirtual 191, 3) := by decide +kernel
theorem dX9_winning_4 : decode cX9_winning 4 = .ok (.istore_n 1, 1) := by decide +kernel
theorem dX9_winning_5 : decode cX9_winning 5 = .ok (.iconst 0, 1) := by decide +kernel
theorem dX9_winning_6 : decode cX9_winning 6 = .ok (.istore_n 2, 1) := by decide +kernel
theorem dX9_winning_7 : decode cX9_winning 7 = .ok (.iconst 0, 1) := by decide +kernel
theorem dX9_winning_8 : decode cX9_winning 8 = .ok (.istore_n 3, 1) := by decide +kernel
theorem dX9_winning_9 : decode cX9_winning 9 = .ok (.iload_n 3, 1) := by decide +kernel
theorem dX9_winning_10 : decode cX9_winning 10 = .ok (.aload_n 0, 1) := by decide +kernel
theorem dX9_winning_11 : decode cX9_winning 11 = .ok (.getfield 72, 3) := by decide +kernel
theorem dX9_winning_14 : decode cX9_winning 14 = .ok (.if_icmp .ge 35, 3) := by decide +kernel
theorem dX9_winning_17 : decode cX9_winning 17 = .ok (.iload_n 2, 1) := by decide +kernel
theorem dX9_winning_18 : decode cX9_winning 18 = .ok (.iload_n 1, 1) := by decide +kernel
theorem dX9_winning_19 : decode cX9_winning 19 = .ok (.iload_n 3, 1) := by decide +kernel
theorem dX9_winning_20 : decode cX9_winning 20 = .ok (.invokestatic 114, 3) := by decide +kernel
theorem dX9_winning_23 : decode cX9_winning 23 = .ok (.ifCond .eq 17, 3) := by decide +kernel
theorem dX9_winning_26 : decode cX9_winning 26 = .ok (.aload_n 0, 1) := by decide +kernel
theorem dX9_winning_27 : decode cX9_winning 27 = .ok (.iload_n 3, 1) := by decide +kernel
theorem dX9_winning_28 : decode cX9_winning 28 = .ok (.invokevirtual 223, 3) := by decide +kernel
theorem dX9_winning_31 : decode cX9_winning 31 = .ok (.ifCond .eq 9, 3) := by decide +kernel
theorem dX9_winning_34 : decode cX9_winning 34 = .ok (.iconst 1, 1) := by decide +kernel
theorem dX9_winning_35 : decode cX9_winning 35 = .ok (.iload_n 3, 1) := by decide +kernel
theorem dX9_winning_36 : decode cX9_winning 36 = .ok (.ishl, 1) := by decide +kernel
theorem dX9_winning_37 : decode cX9_winning 37 = .ok (.goto 4, 3) := by decide +kernel
theorem dX9_winning_40 : decode cX9_winning 40 = .ok (.iconst 0, 1) := by decide +kernel
theorem dX9_winning_41 : decode cX9_winning 41 = .ok (.ior, 1) := by decide +kernel
theorem dX9_winning_42 : decode cX9_winning 42 = .ok (.istore_n 2, 1) := by decide +kernel
theorem dX9_winning_43 : decode cX9_winning 43 = .ok (.iinc 3 1, 3) := by decide +kernel
theorem dX9_winning_46 : decode cX9_winning 46 = .ok (.goto (-37), 3) := by decide +kernel
theorem dX9_winning_49 : decode cX9_winning 49 = .ok (.iload_n 2, 1) := by decide +kernel
theorem dX9_winning_50 : decode cX9_winning 50 = .ok (.ireturn, 1) := by decide +kernel
theorem dX9_moves_0 : decode cX9_moves 0 = .ok (.iload_n 1, 1) := by decide +kernel
theorem dX9_moves_1 : decode cX9_moves 1 = .ok (.iconst 0, 1) := by decide +kernel
theorem dX9_moves_2 : decode cX9_moves 2 = .ok (.iconst 1, 1) := by decide +kernel
theorem dX9_moves_3 : decode cX9_moves 3 = .ok (.invokestatic 68, 3) := by decide +kernel
theorem dX9_moves_6 : decode cX9_moves 6 = .ok (.ifCond .ne 9, 3) := by decide +kernel
theorem dX9_moves_9 : decode cX9_moves 9 = .ok (.aload_n 0, 1) := by decide +kernel
theorem dX9_moves_10 : decode cX9_moves 10 = .ok (.iconst 1, 1) := by decide +kernel
theorem dX9_moves_11 : decode cX9_moves 11 = .ok (.invokevirtual 79, 3) := by decide +kernel
theorem dX9_moves_14 : decode cX9_moves 14 = .ok (.ireturn, 1) := by decide +kernel
theorem dX9_moves_15 : decode cX9_moves 15 = .ok (.aload_n 0, 1) := by decide +kernel
theorem dX9_moves_16 : decode cX9_moves 16 = .ok (.getfield 75, 3) := by decide +kernel
theorem dX9_moves_19 : decode cX9_moves 19 = .ok (.ifCond .ne 9, 3) := by decide +kernel
theorem dX9_moves_22 : decode cX9_moves 22 = .ok (.aload_n 0, 1) := by decide +kernel
theorem dX9_moves_23 : decode cX9_moves 23 = .ok (.iconst 3, 1) := by decide +kernel
theorem dX9_moves_24 : decode cX9_moves 24 = .ok (.invokevirtual 79, 3) := by decide +kernel
theorem dX9_moves_27 : decode cX9_moves 27 = .ok (.ireturn, 1) := by decide +kernel
theorem dX9_moves_28 : decode cX9_moves 28 = .ok (.iload_n 1, 1) := by decide +kernel
theorem dX9_moves_29 : decode cX9_moves 29 = .ok (.ifCond .ne 10, 3) := by decide +kernel
theorem dX9_moves_32 : decode cX9_moves 32 = .ok (.aload_n 0, 1) := by decide +kernel
theorem dX9_moves_33 : decode cX9_moves 33 = .ok (.invokevirtual 191, 3) := by decide +kernel
theorem dX9_moves_36 : decode cX9_moves 36 = .ok (.goto 7, 3) := by decide +kernel
theorem dX9_moves_39 : decode cX9_moves 39 = .ok (.aload_n 0, 1) := by decide +kernel
theorem dX9_moves_40 : decode cX9_moves 40 = .ok (.invokevirtual 226, 3) := by decide +kernel
theorem dX9_moves_43 : decode cX9_moves 43 = .ok (.ireturn, 1) := by decide +kernel
theorem dX9_worth_0 : decode cX9_worth 0 = .ok (.iload_n 1, 1) := by decide +kernel
theorem dX9_worth_1 : decode cX9_worth 1 = .ok (.iconst 0, 1) := by decide +kernel
theorem dX9_worth_2 : decode cX9_worth 2 = .ok (.iconst 1, 1) := by decide +kernel
theorem dX9_worth_3 : decode cX9_worth 3 = .ok (.invokestatic 68, 3) := by decide +kernel
theorem dX9_worth_6 : decode cX9_worth 6 = .ok (.ifCond .ne 9, 3) := by decide +kernel
theorem dX9_worth_9 : decode cX9_worth 9 = .ok (.aload_n 0, 1) := by decide +kernel
theorem dX9_worth_10 : decode cX9_worth 10 = .ok (.iconst 1, 1) := by decide +kernel
theorem dX9_worth_11 : decode cX9_worth 11 = .ok (.invokevirtual 79, 3) := by decide +kernel
theorem dX9_worth_14 : decode cX9_worth 14 = .ok (.ireturn, 1) := by decide +kernel
theorem dX9_worth_15 : decode cX9_worth 15 = .ok (.aload_n 0, 1) := by decide +kernel
theorem dX9_worth_16 : decode cX9_worth 16 = .ok (.getfield 75, 3) := by decide +kernel
theorem dX9_worth_19 : decode cX9_worth 19 = .ok (.ifCond .ne 9, 3) := by decide +kernel
theorem dX9_worth_22 : decode cX9_worth 22 = .ok (.aload_n 0, 1) := by decide +kernel
theorem dX9_worth_23 : decode cX9_worth 23 = .ok (.iconst 3, 1) := by decide +kernel
theorem dX9_worth_24 : decode cX9_worth 24 = .ok (.invokevirtual 79, 3) := by decide +kernel
theorem dX9_worth_27 : decode cX9_worth 27 = .ok (.ireturn, 1) := by decide +kernel
theorem dX9_worth_28 : decode cX9_worth 28 = .ok (.iload_n 1, 1) := by decide +kernel
theorem dX9_worth_29 : decode cX9_worth 29 = .ok (.iconst 1, 1) := by decide +kernel
theorem dX9_worth_30 : decode cX9_worth 30 = .ok (.if_icmp .ne 17, 3) := by decide +kernel
theorem dX9_worth_33 : decode cX9_worth 33 = .ok (.aload_n 0, 1) := by decide +kernel
theorem dX9_worth_34 : decode cX9_worth 34 = .ok (.getfield 150, 3) := by decide +kernel
theorem dX9_worth_37 : decode cX9_worth 37 = .ok (.iconst 4, 1) := by decide +kernel
theorem dX9_worth_38 : decode cX9_worth 38 = .ok (.if_icmp .ne 9, 3) := by decide +kernel
theorem dX9_worth_41 : decode cX9_worth 41 = .ok (.aload_n 0, 1) := by decide +kernel
theorem dX9_worth_42 : decode cX9_worth 42 = .ok (.iconst 5, 1) := by decide +kernel
theorem dX9_worth_43 : decode cX9_worth 43 = .ok (.invokevirtual 79, 3) := by decide +kernel
theorem dX9_worth_46 : decode cX9_worth 46 = .ok (.ireturn, 1) := by decide +kernel
theorem dX9_worth_47 : decode cX9_worth 47 = .ok (.aload_n 0, 1) := by decide +kernel
theorem dX9_worth_48 : decode cX9_worth 48 = .ok (.invokevirtual 170, 3) := by decide +kernel
theorem dX9_worth_51 : decode cX9_worth 51 = .ok (.iload_n 1, 1) := by decide +kernel
theorem dX9_worth_52 : decode cX9_worth 52 = .ok (.ifCond .ne 18, 3) := by decide +kernel
theorem dX9_worth_55 : decode cX9_worth 55 = .ok (.aload_n 0, 1) := by decide +kernel
theorem dX9_worth_56 : decode cX9_worth 56 = .ok (.aload_n 0, 1) := by decide +kernel
theorem dX9_worth_57 : decode cX9_worth 57 = .ok (.getfield 182, 3) := by decide +kernel
theorem dX9_worth_60 : decode cX9_worth 60 = .ok (.aload_n 0, 1) := by decide +kernel
theorem dX9_worth_61 : decode cX9_worth 61 = .ok (.invokevirtual 185, 3) := by decide +kernel
theorem dX9_worth_64 : decode cX9_worth 64 = .ok (.invokevirtual 229, 3) := by decide +kernel
theorem dX9_worth_67 : decode cX9_worth 67 = .ok (.goto 15, 3) := by decide +kernel
theorem dX9_worth_70 : decode cX9_worth 70 = .ok (.aload_n 0, 1) := by decide +kernel
theorem dX9_worth_71 : decode cX9_worth 71 = .ok (.aload_n 0, 1) := by decide +kernel
theorem dX9_worth_72 : decode cX9_worth 72 = .ok (.getfield 182, 3) := by decide +kernel
theorem dX9_worth_75 : decode cX9_worth 75 = .ok (.aload_n 0, 1) := by decide +kernel
theorem dX9_worth_76 : decode cX9_worth 76 = .ok (.invokevirtual 185, 3) := by decide +kernel
theorem dX9_worth_79 : decode cX9_worth 79 = .ok (.invokevirtual 173, 3) := by decide +kernel
theorem dX9_worth_82 : decode cX9_worth 82 = .ok (.ireturn, 1) := by decide +kernel
theorem dX9_reaches_0 : decode cX9_reaches 0 = .ok (.sipush 4096, 3) := by decide +kernel
theorem dX9_reaches_3 : decode cX9_reaches 3 = .ok (.iload_n 1, 1) := by decide +kernel
theorem dX9_reaches_4 : decode cX9_reaches 4 = .ok (.imul, 1) := by decide +kernel
theorem dX9_reaches_5 : decode cX9_reaches 5 = .ok (.iload_n 2, 1) := by decide +kernel
theorem dX9_reaches_6 : decode cX9_reaches 6 = .ok (.iadd, 1) := by decide +kernel
theorem dX9_reaches_7 : decode cX9_reaches 7 = .ok (.istore_n 3, 1) := by decide +kernel
theorem dX9_reaches_8 : decode cX9_reaches 8 = .ok (.aload_n 0, 1) := by decide +kernel
theorem dX9_reaches_9 : decode cX9_reaches 9 = .ok (.getfield 48, 3) := by decide +kernel
theorem dX9_reaches_12 : decode cX9_reaches 12 = .ok (.iload_n 3, 1) := by decide +kernel
theorem dX9_reaches_13 : decode cX9_reaches 13 = .ok (.baload, 1) := by decide +kernel
theorem dX9_reaches_14 : decode cX9_reaches 14 = .ok (.ifCond .eq 5, 3) := by decide +kernel
theorem dX9_reaches_17 : decode cX9_reaches 17 = .ok (.iconst 0, 1) := by decide +kernel
theorem dX9_reaches_18 : decode cX9_reaches 18 = .ok (.ireturn, 1) := by decide +kernel
theorem dX9_reaches_19 : decode cX9_reaches 19 = .ok (.aload_n 0, 1) := by decide +kernel
theorem dX9_reaches_20 : decode cX9_reaches 20 = .ok (.getfield 48, 3) := by decide +kernel
theorem dX9_reaches_23 : decode cX9_reaches 23 = .ok (.iload_n 3, 1) := by decide +kernel
theorem dX9_reaches_24 : decode cX9_reaches 24 = .ok (.iconst 1, 1) := by decide +kernel
theorem dX9_reaches_25 : decode cX9_reaches 25 = .ok (.bastore, 1) := by decide +kernel
theorem dX9_reaches_26 : decode cX9_reaches 26 = .ok (.iconst 0, 1) := by decide +kernel
theorem dX9_reaches_27 : decode cX9_reaches 27 = .ok (.istore 4, 2) := by decide +kernel
theorem dX9_reaches_29 : decode cX9_reaches 29 = .ok (.iconst 0, 1) := by decide +kernel
theorem dX9_reaches_30 : decode cX9_reaches 30 = .ok (.istore 5, 2) := by decide +kernel
theorem dX9_reaches_32 : decode cX9_reaches 32 = .ok (.iload 5, 2) := by decide +kernel
theorem dX9_reaches_34 : decode cX9_reaches 34 = .ok (.aload_n 0, 1) := by decide +kernel
theorem dX9_reaches_35 : decode cX9_reaches 35 = .ok (.getfield 72, 3) := by decide +kernel
theorem dX9_reaches_38 : decode cX9_reaches 38 = .ok (.if_icmp .ge 53, 3) := by decide +kernel
theorem dX9_reaches_41 : decode cX9_reaches 41 = .ok (.aload_n 0, 1) := by decide +kernel
theorem dX9_reaches_42 : decode cX9_reaches 42 = .ok (.iload 5, 2) := by decide +kernel
theorem dX9_reaches_44 : decode cX9_reaches 44 = .ok (.iload_n 1, 1) := by decide +kernel
theorem dX9_reaches_45 : decode cX9_reaches 45 = .ok (.iload_n 2, 1) := by decide +kernel
theorem dX9_reaches_46 : decode cX9_reaches 46 = .ok (.invokevirtual 160, 3) := by decide +kernel
theorem dX9_reaches_49 : decode cX9_reaches 49 = .ok (.ifCond .eq 36, 3) := by decide +kernel
theorem dX9_reaches_52 : decode cX9_reaches 52 = .ok (.aload_n 0, 1) := by decide +kernel
theorem dX9_reaches_53 : decode cX9_reaches 53 = .ok (.iload 5, 2) := by decide +kernel
theorem dX9_reaches_55 : decode cX9_reaches 55 = .ok (.iload_n 1, 1) := by decide +kernel
theorem dX9_reaches_56 : decode cX9_reaches 56 = .ok (.invokevirtual 101, 3) := by decide +kernel
theorem dX9_reaches_59 : decode cX9_reaches 59 = .ok (.istore 6, 2) := by decide +kernel
theorem dX9_reaches_61 : decode cX9_reaches 61 = .ok (.iload 4, 2) := by decide +kernel
theorem dX9_reaches_63 : decode cX9_reaches 63 = .ok (.iconst 1, 1) := by decide +kernel
theorem dX9_reaches_64 : decode cX9_reaches 64 = .ok (.iload 6, 2) := by decide +kernel
theorem dX9_reaches_66 : decode cX9_reaches 66 = .ok (.ishl, 1) := by decide +kernel
theorem dX9_reaches_67 : decode cX9_reaches 67 = .ok (.aload_n 0, 1) := by decide +kernel
theorem dX9_reaches_68 : decode cX9_reaches 68 = .ok (.iload 6, 2) := by decide +kernel
theorem dX9_reaches_70 : decode cX9_reaches 70 = .ok (.aload_n 0, 1) := by decide +kernel
theorem dX9_reaches_71 : decode cX9_reaches 71 = .ok (.iload 5, 2) := by decide +kernel
theorem dX9_reaches_73 : decode cX9_reaches 73 = .ok (.iload_n 1, 1) := by decide +kernel
theorem dX9_reaches_74 : decode cX9_reaches 74 = .ok (.iload_n 2, 1) := by decide +kernel
theorem dX9_reaches_75 : decode cX9_reaches 75 = .ok (.invokevirtual 163, 3) := by decide +kernel
theorem dX9_reaches_78 : decode cX9_reaches 78 = .ok (.invokevirtual 232, 3) := by decide +kernel
theorem dX9_reaches_81 : decode cX9_reaches 81 = .ok (.ior, 1) := by decide +kernel
theorem dX9_reaches_82 : decode cX9_reaches 82 = .ok (.ior, 1) := by decide +kernel
theorem dX9_reaches_83 : decode cX9_reaches 83 = .ok (.istore 4, 2) := by decide +kernel
theorem dX9_reaches_85 : decode cX9_reaches 85 = .ok (.iinc 5 1, 3) := by decide +kernel
theorem dX9_reaches_88 : decode cX9_reaches 88 = .ok (.goto (-56), 3) := by decide +kernel
theorem dX9_reaches_91 : decode cX9_reaches 91 = .ok (.iload 4, 2) := by decide +kernel
theorem dX9_reaches_93 : decode cX9_reaches 93 = .ok (.ireturn, 1) := by decide +kernel
theorem dX9_reach_0 : decode cX9_reach 0 = .ok (.aload_n 0, 1) := by decide +kernel
theorem dX9_reach_1 : decode cX9_reach 1 = .ok (.getfield 75, 3) := by decide +kernel
theorem dX9_reach_4 : decode cX9_reach 4 = .ok (.ifCond .ne 9, 3) := by decide +kernel
theorem dX9_reach_7 : decode cX9_reach 7 = .ok (.aload_n 0, 1) := by decide +kernel
theorem dX9_reach_8 : decode cX9_reach 8 = .ok (.iconst 3, 1) := by decide +kernel
theorem dX9_reach_9 : decode cX9_reach 9 = .ok (.invokevirtual 79, 3) := by decide +kernel
theorem dX9_reach_12 : decode cX9_reach 12 = .ok (.ireturn, 1) := by decide +kernel
theorem dX9_reach_13 : decode cX9_reach 13 = .ok (.iconst 0, 1) := by decide +kernel
theorem dX9_reach_14 : decode cX9_reach 14 = .ok (.istore_n 1, 1) := by decide +kernel
theorem dX9_reach_15 : decode cX9_reach 15 = .ok (.iload_n 1, 1) := by decide +kernel
theorem dX9_reach_16 : decode cX9_reach 16 = .ok (.ldc 38, 2) := by decide +kernel
theorem dX9_reach_18 : decode cX9_reach 18 = .ok (.if_icmp .ge 16, 3) := by decide +kernel
theorem dX9_reach_21 : decode cX9_reach 21 = .ok (.aload_n 0, 1) := by decide +kernel
theorem dX9_reach_22 : decode cX9_reach 22 = .ok (.getfield 48, 3) := by decide +kernel
theorem dX9_reach_25 : decode cX9_reach 25 = .ok (.iload_n 1, 1) := by decide +kernel
theorem dX9_reach_26 : decode cX9_reach 26 = .ok (.iconst 0, 1) := by decide +kernel
theorem dX9_reach_27 : decode cX9_reach 27 = .ok (.bastore, 1) := by decide +kernel
theorem dX9_reach_28 : decode cX9_reach 28 = .ok (.iinc 1 1, 3) := by decide +kernel
theorem dX9_reach_31 : decode cX9_reach 31 = .ok (.goto (-16), 3) := by decide +kernel
theorem dX9_reach_34 : decode cX9_reach 34 = .ok (.aload_n 0, 1) := by decide +kernel
theorem dX9_reach_35 : decode cX9_reach 35 = .ok (.aload_n 0, 1) := by decide +kernel
theorem dX9_reach_36 : decode cX9_reach 36 = .ok (.getfield 182, 3) := by decide +kernel
theorem dX9_reach_39 : decode cX9_reach 39 = .ok (.aload_n 0, 1) := by decide +kernel
theorem dX9_reach_40 : decode cX9_reach 40 = .ok (.invokevirtual 185, 3) := by decide +kernel
theorem dX9_reach_43 : decode cX9_reach 43 = .ok (.invokevirtual 232, 3) := by decide +kernel
theorem dX9_reach_46 : decode cX9_reach 46 = .ok (.ireturn, 1) := by decide +kernel
theorem dX9_starts_0 : decode cX9_starts 0 = .ok (.iload_n 1, 1) := by decide +kernel
theorem dX9_starts_1 : decode cX9_starts 1 = .ok (.iconst 0, 1) := by decide +kernel
theorem dX9_starts_2 : decode cX9_starts 2 = .ok (.iconst 4, 1) := by decide +kernel
theorem dX9_starts_3 : decode cX9_starts 3 = .ok (.invokestatic 68, 3) := by decide +kernel
theorem dX9_starts_6 : decode cX9_starts 6 = .ok (.ifCond .ne 9, 3) := by decide +kernel
theorem dX9_starts_9 : decode cX9_starts 9 = .ok (.aload_n 0, 1) := by decide +kernel
theorem dX9_starts_10 : decode cX9_starts 10 = .ok (.iconst 1, 1) := by decide +kernel
theorem dX9_starts_11 : decode cX9_starts 11 = .ok (.invokevirtual 79, 3) := by decide +kernel
theorem dX9_starts_14 : decode cX9_starts 14 = .ok (.ireturn, 1) := by decide +kernel
theorem dX9_starts_15 : decode cX9_starts 15 = .ok (.aload_n 0, 1) := by decide +kernel
theorem dX9_starts_16 : decode cX9_starts 16 = .ok (.getfield 150, 3) := by decide +kernel
theorem dX9_starts_19 : decode cX9_starts 19 = .ok (.istore_n 2, 1) := by decide +kernel
theorem dX9_starts_20 : decode cX9_starts 20 = .ok (.aload_n 0, 1) := by decide +kernel
theorem dX9_starts_21 : decode cX9_starts 21 = .ok (.iload_n 1, 1) := by decide +kernel
theorem dX9_starts_22 : decode cX9_starts 22 = .ok (.putfield 150, 3) := by decide +kernel
theorem dX9_starts_25 : decode cX9_starts 25 = .ok (.iconst 0, 1) := by decide +kernel
theorem dX9_starts_26 : decode cX9_starts 26 = .ok (.istore_n 3, 1) := by decide +kernel
theorem dX9_starts_27 : decode cX9_starts 27 = .ok (.iconst 0, 1) := by decide +kernel
theorem dX9_starts_28 : decode cX9_starts 28 = .ok (.istore 4, 2) := by decide +kernel
theorem dX9_starts_30 : decode cX9_starts 30 = .ok (.iload 4, 2) := by decide +kernel
theorem dX9_starts_32 : decode cX9_starts 32 = .ok (.aload_n 0, 1) := by decide +kernel
theorem dX9_starts_33 : decode cX9_starts 33 = .ok (.getfield 13, 3) := by decide +kernel
theorem dX9_starts_36 : decode cX9_starts 36 = .ok (.if_icmp .ge 44, 3) := by decide +kernel
theorem dX9_starts_39 : decode cX9_starts 39 = .ok (.iload_n 3, 1) := by decide +kernel
theorem dX9_starts_40 : decode cX9_starts 40 = .ok (.aload_n 0, 1) := by decide +kernel
theorem dX9_starts_41 : decode cX9_starts 41 = .ok (.iload 4, 2) := by decide +kernel
theorem dX9_starts_43 : decode cX9_starts 43 = .ok (.aload_n 0, 1) := by decide +kernel
theorem dX9_starts_44 : decode cX9_starts 44 = .ok (.invokevirtual 157, 3) := by decide +kernel
theorem dX9_starts_47 : decode cX9_starts 47 = .ok (.ifCond .eq 7, 3) := by decide +kernel
theorem dX9_starts_50 : decode cX9_starts 50 = .ok (.iconst 0, 1) := by decide +kernel
theorem dX9_starts_51 : decode cX9_starts 51 = .ok (.goto 7, 3) := by decide +kernel
theorem dX9_starts_54 : decode cX9_starts 54 = .ok (.iconst 1, 1) := by decide +kernel
theorem dX9_starts_55 : decode cX9_starts 55 = .ok (.iload 4, 2) := by decide +kernel
theorem dX9_starts_57 : decode cX9_starts 57 = .ok (.ishl, 1) := by decide +kernel
theorem dX9_starts_58 : decode cX9_starts 58 = .ok (.invokevirtual 194, 3) := by decide +kernel
theorem dX9_starts_61 : decode cX9_starts 61 = .ok (.ifCond .eq 10, 3) := by decide +kernel
theorem dX9_starts_64 : decode cX9_starts 64 = .ok (.iconst 1, 1) := by decide +kernel
theorem dX9_starts_65 : decode cX9_starts 65 = .ok (.iload 4, 2) := by decide +kernel
theorem dX9_starts_67 : decode cX9_starts 67 = .ok (.ishl, 1) := by decide +kernel
theorem dX9_starts_68 : decode cX9_starts 68 = .ok (.goto 4, 3) := by decide +kernel
theorem dX9_starts_71 : decode cX9_starts 71 = .ok (.iconst 0, 1) := by decide +kernel
theorem dX9_starts_72 : decode cX9_starts 72 = .ok (.ior, 1) := by decide +kernel
theorem dX9_starts_73 : decode cX9_starts 73 = .ok (.istore_n 3, 1) := by decide +kernel
theorem dX9_starts_74 : decode cX9_starts 74 = .ok (.iinc 4 1, 3) := by decide +kernel
theorem dX9_starts_77 : decode cX9_starts 77 = .ok (.goto (-47), 3) := by decide +kernel
theorem dX9_starts_80 : decode cX9_starts 80 = .ok (.aload_n 0, 1) := by decide +kernel
theorem dX9_starts_81 : decode cX9_starts 81 = .ok (.iload_n 2, 1) := by decide +kernel
theorem dX9_starts_82 : decode cX9_starts 82 = .ok (.putfield 150, 3) := by decide +kernel
theorem dX9_starts_85 : decode cX9_starts 85 = .ok (.iload_n 3, 1) := by decide +kernel
theorem dX9_starts_86 : decode cX9_starts 86 = .ok (.ireturn, 1) := by decide +kernel
theorem dX9_isCode_0 : decode cX9_isCode 0 = .ok (.iload_n 0, 1) := by decide +kernel
theorem dX9_isCode_1 : decode cX9_isCode 1 = .ok (.iconst 1, 1) := by decide +kernel
theorem dX9_isCode_2 : decode cX9_isCode 2 = .ok (.sipush 9999, 3) := by decide +kernel
theorem dX9_isCode_5 : decode cX9_isCode 5 = .ok (.invokestatic 68, 3) := by decide +kernel
theorem dX9_isCode_8 : decode cX9_isCode 8 = .ok (.istore_n 1, 1) := by decide +kernel
theorem dX9_isCode_9 : decode cX9_isCode 9 = .ok (.iload_n 0, 1) := by decide +kernel
theorem dX9_isCode_10 : decode cX9_isCode 10 = .ok (.istore_n 2, 1) := by decide +kernel
theorem dX9_isCode_11 : decode cX9_isCode 11 = .ok (.iload_n 2, 1) := by decide +kernel
theorem dX9_isCode_12 : decode cX9_isCode 12 = .ok (.ifCond .le 26, 3) := by decide +kernel
theorem dX9_isCode_15 : decode cX9_isCode 15 = .ok (.iload_n 1, 1) := by decide +kernel
theorem dX9_isCode_16 : decode cX9_isCode 16 = .ok (.ifCond .eq 22, 3) := by decide +kernel
theorem dX9_isCode_19 : decode cX9_isCode 19 = .ok (.iload_n 2, 1) := by decide +kernel
theorem dX9_isCode_20 : decode cX9_isCode 20 = .ok (.bipush 10, 2) := by decide +kernel
theorem dX9_isCode_22 : decode cX9_isCode 22 = .ok (.irem, 1) := by decide +kernel
theorem dX9_isCode_23 : decode cX9_isCode 23 = .ok (.iconst 1, 1) := by decide +kernel
theorem dX9_isCode_24 : decode cX9_isCode 24 = .ok (.bipush 7, 2) := by decide +kernel
theorem dX9_isCode_26 : decode cX9_isCode 26 = .ok (.invokestatic 68, 3) := by decide +kernel
theorem dX9_isCode_29 : decode cX9_isCode 29 = .ok (.istore_n 1, 1) := by decide +kernel
theorem dX9_isCode_30 : decode cX9_isCode 30 = .ok (.iload_n 2, 1) := by decide +kernel
theorem dX9_isCode_31 : decode cX9_isCode 31 = .ok (.bipush 10, 2) := by decide +kernel
theorem dX9_isCode_33 : decode cX9_isCode 33 = .ok (.idiv, 1) := by decide +kernel
theorem dX9_isCode_34 : decode cX9_isCode 34 = .ok (.istore_n 2, 1) := by decide +kernel
theorem dX9_isCode_35 : decode cX9_isCode 35 = .ok (.goto (-24), 3) := by decide +kernel
theorem dX9_isCode_38 : decode cX9_isCode 38 = .ok (.iload_n 1, 1) := by decide +kernel
theorem dX9_isCode_39 : decode cX9_isCode 39 = .ok (.ireturn, 1) := by decide +kernel
theorem dX9_least_0 : decode cX9_least 0 = .ok (.iconst 0, 1) := by decide +kernel
theorem dX9_least_1 : decode cX9_least 1 = .ok (.istore_n 1, 1) := by decide +kernel
theorem dX9_least_2 : decode cX9_least 2 = .ok (.iload_n 1, 1) := by decide +kernel
theorem dX9_least_3 : decode cX9_least 3 = .ok (.bipush 12, 2) := by decide +kernel
theorem dX9_least_5 : decode cX9_least 5 = .ok (.if_icmp .ge 17, 3) := by decide +kernel
theorem dX9_least_8 : decode cX9_least 8 = .ok (.iload_n 0, 1) := by decide +kernel
theorem dX9_least_9 : decode cX9_least 9 = .ok (.iload_n 1, 1) := by decide +kernel
theorem dX9_least_10 : decode cX9_least 10 = .ok (.invokestatic 114, 3) := by decide +kernel
theorem dX9_least_13 : decode cX9_least 13 = .ok (.ifCond .ne 9, 3) := by decide +kernel
theorem dX9_least_16 : decode cX9_least 16 = .ok (.iinc 1 1, 3) := by decide +kernel
theorem dX9_least_19 : decode cX9_least 19 = .ok (.goto (-17), 3) := by decide +kernel
theorem dX9_least_22 : decode cX9_least 22 = .ok (.iload_n 1, 1) := by decide +kernel
theorem dX9_least_23 : decode cX9_least 23 = .ok (.bipush 12, 2) := by decide +kernel
theorem dX9_least_25 : decode cX9_least 25 = .ok (.if_icmp .ge 7, 3) := by decide +kernel
theorem dX9_least_28 : decode cX9_least 28 = .ok (.iload_n 1, 1) := by decide +kernel
theorem dX9_least_29 : decode cX9_least 29 = .ok (.goto 4, 3) := by decide +kernel
theorem dX9_least_32 : decode cX9_least 32 = .ok (.iconst (-1), 1) := by decide +kernel
theorem dX9_least_33 : decode cX9_least 33 = .ok (.ireturn, 1) := by decide +kernel
theorem dX9_greatest_0 : decode cX9_greatest 0 = .ok (.bipush 11, 2) := by decide +kernel
theorem dX9_greatest_2 : decode cX9_greatest 2 = .ok (.istore_n 1, 1) := by decide +kernel
theorem dX9_greatest_3 : decode cX9_greatest 3 = .ok (.iload_n 1, 1) := by decide +kernel
theorem dX9_greatest_4 : decode cX9_greatest 4 = .ok (.ifCond .lt 17, 3) := by decide +kernel
theorem dX9_greatest_7 : decode cX9_greatest 7 = .ok (.iload_n 0, 1) := by decide +kernel
theorem dX9_greatest_8 : decode cX9_greatest 8 = .ok (.iload_n 1, 1) := by decide +kernel
theorem dX9_greatest_9 : decode cX9_greatest 9 = .ok (.invokestatic 114, 3) := by decide +kernel
theorem dX9_greatest_12 : decode cX9_greatest 12 = .ok (.ifCond .ne 9, 3) := by decide +kernel
theorem dX9_greatest_15 : decode cX9_greatest 15 = .ok (.iinc 1 (-1), 3) := by decide +kernel
theorem dX9_greatest_18 : decode cX9_greatest 18 = .ok (.goto (-15), 3) := by decide +kernel
theorem dX9_greatest_21 : decode cX9_greatest 21 = .ok (.iload_n 1, 1) := by decide +kernel
theorem dX9_greatest_22 : decode cX9_greatest 22 = .ok (.ireturn, 1) := by decide +kernel
theorem dX9_drawn_0 : decode cX9_drawn 0 = .ok (.iload_n 1, 1) := by decide +kernel
theorem dX9_drawn_1 : decode cX9_drawn 1 = .ok (.ifCond .ne 5, 3) := by decide +kernel
theorem dX9_drawn_4 : decode cX9_drawn 4 = .ok (.iconst (-1), 1) := by decide +kernel
theorem dX9_drawn_5 : decode cX9_drawn 5 = .ok (.ireturn, 1) := by decide +kernel
theorem dX9_drawn_6 : decode cX9_drawn 6 = .ok (.aload_n 0, 1) := by decide +kernel
theorem dX9_drawn_7 : decode cX9_drawn 7 = .ok (.aload_n 0, 1) := by decide +kernel
theorem dX9_drawn_8 : decode cX9_drawn 8 = .ok (.getfield 32, 3) := by decide +kernel
theorem dX9_drawn_11 : decode cX9_drawn 11 = .ok (.ldc 235, 2) := by decide +kernel
theorem dX9_drawn_13 : decode cX9_drawn 13 = .ok (.imul, 1) := by decide +kernel
theorem dX9_drawn_14 : decode cX9_drawn 14 = .ok (.sipush 12345, 3) := by decide +kernel
theorem dX9_drawn_17 : decode cX9_drawn 17 = .ok (.iadd, 1) := by decide +kernel
theorem dX9_drawn_18 : decode cX9_drawn 18 = .ok (.putfield 32, 3) := by decide +kernel
theorem dX9_drawn_21 : decode cX9_drawn 21 = .ok (.aload_n 0, 1) := by decide +kernel
theorem dX9_drawn_22 : decode cX9_drawn 22 = .ok (.getfield 32, 3) := by decide +kernel
theorem dX9_drawn_25 : decode cX9_drawn 25 = .ok (.bipush 8, 2) := by decide +kernel
theorem dX9_drawn_27 : decode cX9_drawn 27 = .ok (.iushr, 1) := by decide +kernel
theorem dX9_drawn_28 : decode cX9_drawn 28 = .ok (.iload_n 1, 1) := by decide +kernel
theorem dX9_drawn_29 : decode cX9_drawn 29 = .ok (.invokestatic 123, 3) := by decide +kernel
theorem dX9_drawn_32 : decode cX9_drawn 32 = .ok (.irem, 1) := by decide +kernel
theorem dX9_drawn_33 : decode cX9_drawn 33 = .ok (.istore_n 2, 1) := by decide +kernel
theorem dX9_drawn_34 : decode cX9_drawn 34 = .ok (.iload_n 1, 1) := by decide +kernel
theorem dX9_drawn_35 : decode cX9_drawn 35 = .ok (.invokestatic 236, 3) := by decide +kernel
theorem dX9_drawn_38 : decode cX9_drawn 38 = .ok (.istore_n 3, 1) := by decide +kernel
theorem dX9_drawn_39 : decode cX9_drawn 39 = .ok (.iload_n 1, 1) := by decide +kernel
theorem dX9_drawn_40 : decode cX9_drawn 40 = .ok (.istore 4, 2) := by decide +kernel
theorem dX9_drawn_42 : decode cX9_drawn 42 = .ok (.iconst 0, 1) := by decide +kernel
theorem dX9_drawn_43 : decode cX9_drawn 43 = .ok (.istore 5, 2) := by decide +kernel
theorem dX9_drawn_45 : decode cX9_drawn 45 = .ok (.iload 5, 2) := by decide +kernel
theorem dX9_drawn_47 : decode cX9_drawn 47 = .ok (.iload_n 2, 1) := by decide +kernel
theorem dX9_drawn_48 : decode cX9_drawn 48 = .ok (.if_icmp .ge 24, 3) := by decide +kernel
theorem dX9_drawn_51 : decode cX9_drawn 51 = .ok (.iload 4, 2) := by decide +kernel
theorem dX9_drawn_53 : decode cX9_drawn 53 = .ok (.iload 4, 2) := by decide +kernel
theorem dX9_drawn_55 : decode cX9_drawn 55 = .ok (.iconst 1, 1) := by decide +kernel
theorem dX9_drawn_56 : decode cX9_drawn 56 = .ok (.isub, 1) := by decide +kernel
theorem dX9_drawn_57 : decode cX9_drawn 57 = .ok (.iand, 1) := by decide +kernel
theorem dX9_drawn_58 : decode cX9_drawn 58 = .ok (.istore 4, 2) := by decide +kernel
theorem dX9_drawn_60 : decode cX9_drawn 60 = .ok (.iload 4, 2) := by decide +kernel
theorem dX9_drawn_62 : decode cX9_drawn 62 = .ok (.invokestatic 236, 3) := by decide +kernel
theorem dX9_drawn_65 : decode cX9_drawn 65 = .ok (.istore_n 3, 1) := by decide +kernel
theorem dX9_drawn_66 : decode cX9_drawn 66 = .ok (.iinc 5 1, 3) := by decide +kernel
theorem dX9_drawn_69 : decode cX9_drawn 69 = .ok (.goto (-24), 3) := by decide +kernel
theorem dX9_drawn_72 : decode cX9_drawn 72 = .ok (.iload_n 3, 1) := by decide +kernel
theorem dX9_drawn_73 : decode cX9_drawn 73 = .ok (.ireturn, 1) := by decide +kernel
theorem dX9_bestBy_0 : decode cX9_bestBy 0 = .ok (.iconst (-1), 1) := by decide +kernel
theorem dX9_bestBy_1 : decode cX9_bestBy 1 = .ok (.istore_n 3, 1) := by decide +kernel
theorem dX9_bestBy_2 : decode cX9_bestBy 2 = .ok (.iconst 0, 1) := by decide +kernel
theorem dX9_bestBy_3 : decode cX9_bestBy 3 = .ok (.istore 4, 2) := by decide +kernel
theorem dX9_bestBy_5 : decode cX9_bestBy 5 = .ok (.iconst 0, 1) := by decide +kernel
theorem dX9_bestBy_6 : decode cX9_bestBy 6 = .ok (.istore 5, 2) := by decide +kernel
theorem dX9_bestBy_8 : decode cX9_bestBy 8 = .ok (.iload 5, 2) := by decide +kernel
theorem dX9_bestBy_10 : decode cX9_bestBy 10 = .ok (.aload_n 0, 1) := by decide +kernel
theorem dX9_bestBy_11 : decode cX9_bestBy 11 = .ok (.getfield 72, 3) := by decide +kernel
theorem dX9_bestBy_14 : decode cX9_bestBy 14 = .ok (.if_icmp .ge 97, 3) := by decide +kernel
theorem dX9_bestBy_17 : decode cX9_bestBy 17 = .ok (.iload_n 1, 1) := by decide +kernel
theorem dX9_bestBy_18 : decode cX9_bestBy 18 = .ok (.iload 5, 2) := by decide +kernel
theorem dX9_bestBy_20 : decode cX9_bestBy 20 = .ok (.invokestatic 114, 3) := by decide +kernel
theorem dX9_bestBy_23 : decode cX9_bestBy 23 = .ok (.ifCond .ne 6, 3) := by decide +kernel
theorem dX9_bestBy_26 : decode cX9_bestBy 26 = .ok (.goto 79, 3) := by decide +kernel
theorem dX9_bestBy_29 : decode cX9_bestBy 29 = .ok (.aload_n 0, 1) := by decide +kernel
theorem dX9_bestBy_30 : decode cX9_bestBy 30 = .ok (.iload 5, 2) := by decide +kernel
theorem dX9_bestBy_32 : decode cX9_bestBy 32 = .ok (.aload_n 0, 1) := by decide +kernel
theorem dX9_bestBy_33 : decode cX9_bestBy 33 = .ok (.getfield 182, 3) := by decide +kernel
theorem dX9_bestBy_36 : decode cX9_bestBy 36 = .ok (.invokevirtual 101, 3) := by decide +kernel
theorem dX9_bestBy_39 : decode cX9_bestBy 39 = .ok (.istore 6, 2) := by decide +kernel
theorem dX9_bestBy_41 : decode cX9_bestBy 41 = .ok (.aload_n 0, 1) := by decide +kernel
theorem dX9_bestBy_42 : decode cX9_bestBy 42 = .ok (.iload 5, 2) := by decide +kernel
theorem dX9_bestBy_44 : decode cX9_bestBy 44 = .ok (.aload_n 0, 1) := by decide +kernel
theorem dX9_bestBy_45 : decode cX9_bestBy 45 = .ok (.getfield 182, 3) := by decide +kernel
theorem dX9_bestBy_48 : decode cX9_bestBy 48 = .ok (.aload_n 0, 1) := by decide +kernel
theorem dX9_bestBy_49 : decode cX9_bestBy 49 = .ok (.invokevirtual 185, 3) := by decide +kernel
theorem dX9_bestBy_52 : decode cX9_bestBy 52 = .ok (.invokevirtual 163, 3) := by decide +kernel
theorem dX9_bestBy_55 : decode cX9_bestBy 55 = .ok (.istore 7, 2) := by decide +kernel
theorem dX9_bestBy_57 : decode cX9_bestBy 57 = .ok (.iload_n 2, 1) := by decide +kernel
theorem dX9_bestBy_58 : decode cX9_bestBy 58 = .ok (.ifCond .eq 18, 3) := by decide +kernel
theorem dX9_bestBy_61 : decode cX9_bestBy 61 = .ok (.aload_n 0, 1) := by decide +kernel
theorem dX9_bestBy_62 : decode cX9_bestBy 62 = .ok (.iload 6, 2) := by decide +kernel
theorem dX9_bestBy_64 : decode cX9_bestBy 64 = .ok (.iload 7, 2) := by decide +kernel
theorem dX9_bestBy_66 : decode cX9_bestBy 66 = .ok (.invokevirtual 188, 3) := by decide +kernel
theorem dX9_bestBy_69 : decode cX9_bestBy 69 = .ok (.invokestatic 123, 3) := by decide +kernel
theorem dX9_bestBy_72 : decode cX9_bestBy 72 = .ok (.ineg, 1) := by decide +kernel
theorem dX9_bestBy_73 : decode cX9_bestBy 73 = .ok (.goto 11, 3) := by decide +kernel
theorem dX9_bestBy_76 : decode cX9_bestBy 76 = .ok (.aload_n 0, 1) := by decide +kernel
theorem dX9_bestBy_77 : decode cX9_bestBy 77 = .ok (.iload 6, 2) := by decide +kernel
theorem dX9_bestBy_79 : decode cX9_bestBy 79 = .ok (.iload 7, 2) := by decide +kernel
theorem dX9_bestBy_81 : decode cX9_bestBy 81 = .ok (.invokevirtual 229, 3) := by decide +kernel
theorem dX9_bestBy_84 : decode cX9_bestBy 84 = .ok (.istore 8, 2) := by decide +kernel
theorem dX9_bestBy_86 : decode cX9_bestBy 86 = .ok (.iload_n 3, 1) := by decide +kernel
theorem dX9_bestBy_87 : decode cX9_bestBy 87 = .ok (.iconst (-1), 1) := by decide +kernel
theorem dX9_bestBy_88 : decode cX9_bestBy 88 = .ok (.if_icmp .eq 10, 3) := by decide +kernel
theorem dX9_bestBy_91 : decode cX9_bestBy 91 = .ok (.iload 8, 2) := by decide +kernel
theorem dX9_bestBy_93 : decode cX9_bestBy 93 = .ok (.iload 4, 2) := by decide +kernel
theorem dX9_bestBy_95 : decode cX9_bestBy 95 = .ok (.if_icmp .le 10, 3) := by decide +kernel
theorem dX9_bestBy_98 : decode cX9_bestBy 98 = .ok (.iload 5, 2) := by decide +kernel
theorem dX9_bestBy_100 : decode cX9_bestBy 100 = .ok (.istore_n 3, 1) := by decide +kernel
theorem dX9_bestBy_101 : decode cX9_bestBy 101 = .ok (.iload 8, 2) := by decide +kernel
theorem dX9_bestBy_103 : decode cX9_bestBy 103 = .ok (.istore 4, 2) := by decide +kernel
theorem dX9_bestBy_105 : decode cX9_bestBy 105 = .ok (.iinc 5 1, 3) := by decide +kernel
theorem dX9_bestBy_108 : decode cX9_bestBy 108 = .ok (.goto (-100), 3) := by decide +kernel
theorem dX9_bestBy_111 : decode cX9_bestBy 111 = .ok (.iload_n 3, 1) := by decide +kernel
theorem dX9_bestBy_112 : decode cX9_bestBy 112 = .ok (.ireturn, 1) := by decide +kernel
theorem dX9_paired_0 : decode cX9_paired 0 = .ok (.aload_n 0, 1) := by decide +kernel
theorem dX9_paired_1 : decode cX9_paired 1 = .ok (.aload_n 0, 1) := by decide +kernel
theorem dX9_paired_2 : decode cX9_paired 2 = .ok (.invokevirtual 129, 3) := by decide +kernel
theorem dX9_paired_5 : decode cX9_paired 5 = .ok (.aload_n 0, 1) := by decide +kernel
theorem dX9_paired_6 : decode cX9_paired 6 = .ok (.getfield 179, 3) := by decide +kernel
theorem dX9_paired_9 : decode cX9_paired 9 = .ok (.iconst (-1), 1) := by decide +kernel
theorem dX9_paired_10 : decode cX9_paired 10 = .ok (.ixor, 1) := by decide +kernel
theorem dX9_paired_11 : decode cX9_paired 11 = .ok (.iand, 1) := by decide +kernel
theorem dX9_paired_12 : decode cX9_paired 12 = .ok (.iconst 1, 1) := by decide +kernel
theorem dX9_paired_13 : decode cX9_paired 13 = .ok (.aload_n 0, 1) := by decide +kernel
theorem dX9_paired_14 : decode cX9_paired 14 = .ok (.getfield 182, 3) := by decide +kernel
theorem dX9_paired_17 : decode cX9_paired 17 = .ok (.ishl, 1) := by decide +kernel
theorem dX9_paired_18 : decode cX9_paired 18 = .ok (.ior, 1) := by decide +kernel
theorem dX9_paired_19 : decode cX9_paired 19 = .ok (.invokevirtual 133, 3) := by decide +kernel
theorem dX9_paired_22 : decode cX9_paired 22 = .ok (.istore_n 2, 1) := by decide +kernel
theorem dX9_paired_23 : decode cX9_paired 23 = .ok (.iconst 0, 1) := by decide +kernel
theorem dX9_paired_24 : decode cX9_paired 24 = .ok (.istore_n 3, 1) := by decide +kernel
theorem dX9_paired_25 : decode cX9_paired 25 = .ok (.iload_n 3, 1) := by decide +kernel
theorem dX9_paired_26 : decode cX9_paired 26 = .ok (.aload_n 0, 1) := by decide +kernel
theorem dX9_paired_27 : decode cX9_paired 27 = .ok (.getfield 72, 3) := by decide +kernel
theorem dX9_paired_30 : decode cX9_paired 30 = .ok (.if_icmp .ge 43, 3) := by decide +kernel
theorem dX9_paired_33 : decode cX9_paired 33 = .ok (.iload_n 2, 1) := by decide +kernel
theorem dX9_paired_34 : decode cX9_paired 34 = .ok (.iload_n 3, 1) := by decide +kernel
theorem dX9_paired_35 : decode cX9_paired 35 = .ok (.invokestatic 114, 3) := by decide +kernel
theorem dX9_paired_38 : decode cX9_paired 38 = .ok (.ifCond .eq 29, 3) := by decide +kernel
theorem dX9_paired_41 : decode cX9_paired 41 = .ok (.aload_n 0, 1) := by decide +kernel
theorem dX9_paired_42 : decode cX9_paired 42 = .ok (.iload_n 3, 1) := by decide +kernel
theorem dX9_paired_43 : decode cX9_paired 43 = .ok (.aload_n 0, 1) := by decide +kernel
theorem dX9_paired_44 : decode cX9_paired 44 = .ok (.getfield 182, 3) := by decide +kernel
theorem dX9_paired_47 : decode cX9_paired 47 = .ok (.invokevirtual 97, 3) := by decide +kernel
theorem dX9_paired_50 : decode cX9_paired 50 = .ok (.ifCond .eq 17, 3) := by decide +kernel
theorem dX9_paired_53 : decode cX9_paired 53 = .ok (.iload_n 1, 1) := by decide +kernel
theorem dX9_paired_54 : decode cX9_paired 54 = .ok (.iload_n 3, 1) := by decide +kernel
theorem dX9_paired_55 : decode cX9_paired 55 = .ok (.invokestatic 114, 3) := by decide +kernel
theorem dX9_paired_58 : decode cX9_paired 58 = .ok (.ifCond .eq 7, 3) := by decide +kernel
theorem dX9_paired_61 : decode cX9_paired 61 = .ok (.iload_n 3, 1) := by decide +kernel
theorem dX9_paired_62 : decode cX9_paired 62 = .ok (.goto 4, 3) := by decide +kernel
theorem dX9_paired_65 : decode cX9_paired 65 = .ok (.iconst (-1), 1) := by decide +kernel
theorem dX9_paired_66 : decode cX9_paired 66 = .ok (.ireturn, 1) := by decide +kernel
theorem dX9_paired_67 : decode cX9_paired 67 = .ok (.iinc 3 1, 3) := by decide +kernel
theorem dX9_paired_70 : decode cX9_paired 70 = .ok (.goto (-45), 3) := by decide +kernel
theorem dX9_paired_73 : decode cX9_paired 73 = .ok (.iconst (-1), 1) := by decide +kernel
theorem dX9_paired_74 : decode cX9_paired 74 = .ok (.ireturn, 1) := by decide +kernel
theorem dX9_simple_0 : decode cX9_simple 0 = .ok (.aload_n 0, 1) := by decide +kernel
theorem dX9_simple_1 : decode cX9_simple 1 = .ok (.invokevirtual 191, 3) := by decide +kernel
theorem dX9_simple_4 : decode cX9_simple 4 = .ok (.istore_n 2, 1) := by decide +kernel
theorem dX9_simple_5 : decode cX9_simple 5 = .ok (.iload_n 1, 1) := by decide +kernel
theorem dX9_simple_6 : decode cX9_simple 6 = .ok (.tableswitch 75 1 6 #[38, 43, 48, 56, 62, 68], 38) := by decide +kernel
theorem dX9_simple_44 : decode cX9_simple 44 = .ok (.iload_n 2, 1) := by decide +kernel
theorem dX9_simple_45 : decode cX9_simple 45 = .ok (.invokestatic 236, 3) := by decide +kernel
theorem dX9_simple_48 : decode cX9_simple 48 = .ok (.ireturn, 1) := by decide +kernel
theorem dX9_simple_49 : decode cX9_simple 49 = .ok (.iload_n 2, 1) := by decide +kernel
theorem dX9_simple_50 : decode cX9_simple 50 = .ok (.invokestatic 239, 3) := by decide +kernel
theorem dX9_simple_53 : decode cX9_simple 53 = .ok (.ireturn, 1) := by decide +kernel
theorem dX9_simple_54 : decode cX9_simple 54 = .ok (.aload_n 0, 1) := by decide +kernel
theorem dX9_simple_55 : decode cX9_simple 55 = .ok (.invokevirtual 226, 3) := by decide +kernel
theorem dX9_simple_58 : decode cX9_simple 58 = .ok (.invokestatic 236, 3) := by decide +kernel
theorem dX9_simple_61 : decode cX9_simple 61 = .ok (.ireturn, 1) := by decide +kernel
theorem dX9_simple_62 : decode cX9_simple 62 = .ok (.aload_n 0, 1) := by decide +kernel
theorem dX9_simple_63 : decode cX9_simple 63 = .ok (.iload_n 2, 1) := by decide +kernel
theorem dX9_simple_64 : decode cX9_simple 64 = .ok (.invokevirtual 242, 3) := by decide +kernel
theorem dX9_simple_67 : decode cX9_simple 67 = .ok (.ireturn, 1) := by decide +kernel
theorem dX9_simple_68 : decode cX9_simple 68 = .ok (.aload_n 0, 1) := by decide +kernel
theorem dX9_simple_69 : decode cX9_simple 69 = .ok (.iload_n 2, 1) := by decide +kernel
theorem dX9_simple_70 : decode cX9_simple 70 = .ok (.invokevirtual 245, 3) := by decide +kernel
theorem dX9_simple_73 : decode cX9_simple 73 = .ok (.ireturn, 1) := by decide +kernel
theorem dX9_simple_74 : decode cX9_simple 74 = .ok (.aload_n 0, 1) := by decide +kernel
theorem dX9_simple_75 : decode cX9_simple 75 = .ok (.iload_n 2, 1) := by decide +kernel
theorem dX9_simple_76 : decode cX9_simple 76 = .ok (.iconst 1, 1) := by decide +kernel
theorem dX9_simple_77 : decode cX9_simple 77 = .ok (.invokevirtual 248, 3) := by decide +kernel
theorem dX9_simple_80 : decode cX9_simple 80 = .ok (.ireturn, 1) := by decide +kernel
theorem dX9_simple_81 : decode cX9_simple 81 = .ok (.aload_n 0, 1) := by decide +kernel
theorem dX9_simple_82 : decode cX9_simple 82 = .ok (.iload_n 2, 1) := by decide +kernel
theorem dX9_simple_83 : decode cX9_simple 83 = .ok (.iconst 0, 1) := by decide +kernel
theorem dX9_simple_84 : decode cX9_simple 84 = .ok (.invokevirtual 248, 3) := by decide +kernel
theorem dX9_simple_87 : decode cX9_simple 87 = .ok (.ireturn, 1) := by decide +kernel
theorem dX9_planned_0 : decode cX9_planned 0 = .ok (.iconst (-1), 1) := by decide +kernel
theorem dX9_planned_1 : decode cX9_planned 1 = .ok (.istore_n 2, 1) := by decide +kernel
theorem dX9_planned_2 : decode cX9_planned 2 = .ok (.iload_n 1, 1) := by decide +kernel
theorem dX9_planned_3 : decode cX9_planned 3 = .ok (.istore_n 3, 1) := by decide +kernel
theorem dX9_planned_4 : decode cX9_planned 4 = .ok (.iload_n 3, 1) := by decide +kernel
theorem dX9_planned_5 : decode cX9_planned 5 = .ok (.ifCond .le 25, 3) := by decide +kernel
theorem dX9_planned_8 : decode cX9_planned 8 = .ok (.iload_n 2, 1) := by decide +kernel
theorem dX9_planned_9 : decode cX9_planned 9 = .ok (.iconst (-1), 1) := by decide +kernel
theorem dX9_planned_10 : decode cX9_planned 10 = .ok (.if_icmp .ne 20, 3) := by decide +kernel
theorem dX9_planned_13 : decode cX9_planned 13 = .ok (.aload_n 0, 1) := by decide +kernel
theorem dX9_planned_14 : decode cX9_planned 14 = .ok (.iload_n 3, 1) := by decide +kernel
theorem dX9_planned_15 : decode cX9_planned 15 = .ok (.bipush 10, 2) := by decide +kernel
theorem dX9_planned_17 : decode cX9_planned 17 = .ok (.irem, 1) := by decide +kernel
theorem dX9_planned_18 : decode cX9_planned 18 = .ok (.invokevirtual 252, 3) := by decide +kernel
theorem dX9_planned_21 : decode cX9_planned 21 = .ok (.istore_n 2, 1) := by decide +kernel
theorem dX9_planned_22 : decode cX9_planned 22 = .ok (.iload_n 3, 1) := by decide +kernel
theorem dX9_planned_23 : decode cX9_planned 23 = .ok (.bipush 10, 2) := by decide +kernel
theorem dX9_planned_25 : decode cX9_planned 25 = .ok (.idiv, 1) := by decide +kernel
theorem dX9_planned_26 : decode cX9_planned 26 = .ok (.istore_n 3, 1) := by decide +kernel
theorem dX9_planned_27 : decode cX9_planned 27 = .ok (.goto (-23), 3) := by decide +kernel
theorem dX9_planned_30 : decode cX9_planned 30 = .ok (.iload_n 2, 1) := by decide +kernel
theorem dX9_planned_31 : decode cX9_planned 31 = .ok (.ireturn, 1) := by decide +kernel
theorem dX9_tells_0 : decode cX9_tells 0 = .ok (.iload_n 1, 1) := by decide +kernel
theorem dX9_tells_1 : decode cX9_tells 1 = .ok (.invokestatic 255, 3) := by decide +kernel
theorem dX9_tells_4 : decode cX9_tells 4 = .ok (.ifCond .ne 9, 3) := by decide +kernel
theorem dX9_tells_7 : decode cX9_tells 7 = .ok (.aload_n 0, 1) := by decide +kernel
theorem dX9_tells_8 : decode cX9_tells 8 = .ok (.iconst 1, 1) := by decide +kernel
theorem dX9_tells_9 : decode cX9_tells 9 = .ok (.invokevirtual 79, 3) := by decide +kernel
theorem dX9_tells_12 : decode cX9_tells 12 = .ok (.ireturn, 1) := by decide +kernel
theorem dX9_tells_13 : decode cX9_tells 13 = .ok (.aload_n 0, 1) := by decide +kernel
theorem dX9_tells_14 : decode cX9_tells 14 = .ok (.getfield 75, 3) := by decide +kernel
theorem dX9_tells_17 : decode cX9_tells 17 = .ok (.ifCond .ne 9, 3) := by decide +kernel
theorem dX9_tells_20 : decode cX9_tells 20 = .ok (.aload_n 0, 1) := by decide +kernel
theorem dX9_tells_21 : decode cX9_tells 21 = .ok (.iconst 3, 1) := by decide +kernel
theorem dX9_tells_22 : decode cX9_tells 22 = .ok (.invokevirtual 79, 3) := by decide +kernel
theorem dX9_tells_25 : decode cX9_tells 25 = .ok (.ireturn, 1) := by decide +kernel
theorem dX9_tells_26 : decode cX9_tells 26 = .ok (.aload_n 0, 1) := by decide +kernel
theorem dX9_tells_27 : decode cX9_tells 27 = .ok (.iload_n 1, 1) := by decide +kernel
theorem dX9_tells_28 : decode cX9_tells 28 = .ok (.invokevirtual 258, 3) := by decide +kernel
theorem dX9_tells_31 : decode cX9_tells 31 = .ok (.istore_n 2, 1) := by decide +kernel
theorem dX9_tells_32 : decode cX9_tells 32 = .ok (.iload_n 2, 1) := by decide +kernel
theorem dX9_tells_33 : decode cX9_tells 33 = .ok (.iconst (-1), 1) := by decide +kernel
theorem dX9_tells_34 : decode cX9_tells 34 = .ok (.if_icmp .ne 11, 3) := by decide +kernel
theorem dX9_tells_37 : decode cX9_tells 37 = .ok (.aload_n 0, 1) := by decide +kernel
theorem dX9_tells_38 : decode cX9_tells 38 = .ok (.iconst 2, 1) := by decide +kernel
theorem dX9_tells_39 : decode cX9_tells 39 = .ok (.invokevirtual 79, 3) := by decide +kernel
theorem dX9_tells_42 : decode cX9_tells 42 = .ok (.goto 4, 3) := by decide +kernel
theorem dX9_tells_45 : decode cX9_tells 45 = .ok (.iload_n 2, 1) := by decide +kernel
theorem dX9_tells_46 : decode cX9_tells 46 = .ok (.ireturn, 1) := by decide +kernel
theorem dX9_plays_0 : decode cX9_plays 0 = .ok (.iconst 0, 1) := by decide +kernel
theorem dX9_plays_1 : decode cX9_plays 1 = .ok (.istore 4, 2) := by decide +kernel
theorem dX9_plays_3 : decode cX9_plays 3 = .ok (.iload 4, 2) := by decide +kernel
theorem dX9_plays_5 : decode cX9_plays 5 = .ok (.iload_n 3, 1) := by decide +kernel
theorem dX9_plays_6 : decode cX9_plays 6 = .ok (.if_icmp .ge 56, 3) := by decide +kernel
theorem dX9_plays_9 : decode cX9_plays 9 = .ok (.aload_n 0, 1) := by decide +kernel
theorem dX9_plays_10 : decode cX9_plays 10 = .ok (.invokevirtual 207, 3) := by decide +kernel
theorem dX9_plays_13 : decode cX9_plays 13 = .ok (.ifCond .ne 49, 3) := by decide +kernel
theorem dX9_plays_16 : decode cX9_plays 16 = .ok (.aload_n 0, 1) := by decide +kernel
theorem dX9_plays_17 : decode cX9_plays 17 = .ok (.aload_n 0, 1) := by decide +kernel
theorem dX9_plays_18 : decode cX9_plays 18 = .ok (.invokevirtual 217, 3) := by decide +kernel
theorem dX9_plays_21 : decode cX9_plays 21 = .ok (.ifCond .ne 7, 3) := by decide +kernel
theorem dX9_plays_24 : decode cX9_plays 24 = .ok (.iload_n 1, 1) := by decide +kernel
theorem dX9_plays_25 : decode cX9_plays 25 = .ok (.goto 4, 3) := by decide +kernel
theorem dX9_plays_28 : decode cX9_plays 28 = .ok (.iload_n 2, 1) := by decide +kernel
theorem dX9_plays_29 : decode cX9_plays 29 = .ok (.invokevirtual 258, 3) := by decide +kernel
theorem dX9_plays_32 : decode cX9_plays 32 = .ok (.istore 5, 2) := by decide +kernel
theorem dX9_plays_34 : decode cX9_plays 34 = .ok (.aload_n 0, 1) := by decide +kernel
theorem dX9_plays_35 : decode cX9_plays 35 = .ok (.iload 5, 2) := by decide +kernel
theorem dX9_plays_37 : decode cX9_plays 37 = .ok (.iconst (-1), 1) := by decide +kernel
theorem dX9_plays_38 : decode cX9_plays 38 = .ok (.if_icmp .ne 13, 3) := by decide +kernel
theorem dX9_plays_41 : decode cX9_plays 41 = .ok (.aload_n 0, 1) := by decide +kernel
theorem dX9_plays_42 : decode cX9_plays 42 = .ok (.invokevirtual 191, 3) := by decide +kernel
theorem dX9_plays_45 : decode cX9_plays 45 = .ok (.invokestatic 236, 3) := by decide +kernel
theorem dX9_plays_48 : decode cX9_plays 48 = .ok (.goto 5, 3) := by decide +kernel
theorem dX9_plays_51 : decode cX9_plays 51 = .ok (.iload 5, 2) := by decide +kernel
theorem dX9_plays_53 : decode cX9_plays 53 = .ok (.invokevirtual 210, 3) := by decide +kernel
theorem dX9_plays_56 : decode cX9_plays 56 = .ok (.iinc 4 1, 3) := by decide +kernel
theorem dX9_plays_59 : decode cX9_plays 59 = .ok (.goto (-56), 3) := by decide +kernel
theorem dX9_plays_62 : decode cX9_plays 62 = .ok (.iload 4, 2) := by decide +kernel
theorem dX9_plays_64 : decode cX9_plays 64 = .ok (.ireturn, 1) := by decide +kernel
theorem dX9_play_0 : decode cX9_play 0 = .ok (.iload_n 1, 1) := by decide +kernel
theorem dX9_play_1 : decode cX9_play 1 = .ok (.invokestatic 255, 3) := by decide +kernel
theorem dX9_play_4 : decode cX9_play 4 = .ok (.ifCond .eq 20, 3) := by decide +kernel
theorem dX9_play_7 : decode cX9_play 7 = .ok (.iload_n 2, 1) := by decide +kernel
theorem dX9_play_8 : decode cX9_play 8 = .ok (.invokestatic 255, 3) := by decide +kernel
theorem dX9_play_11 : decode cX9_play 11 = .ok (.ifCond .eq 13, 3) := by decide +kernel
theorem dX9_play_14 : decode cX9_play 14 = .ok (.iload_n 3, 1) := by decide +kernel
theorem dX9_play_15 : decode cX9_play 15 = .ok (.iconst 1, 1) := by decide +kernel
theorem dX9_play_16 : decode cX9_play 16 = .ok (.bipush 20, 2) := by decide +kernel
theorem dX9_play_18 : decode cX9_play 18 = .ok (.invokestatic 68, 3) := by decide +kernel
theorem dX9_play_21 : decode cX9_play 21 = .ok (.ifCond .ne 9, 3) := by decide +kernel
theorem dX9_play_24 : decode cX9_play 24 = .ok (.aload_n 0, 1) := by decide +kernel
theorem dX9_play_25 : decode cX9_play 25 = .ok (.iconst 1, 1) := by decide +kernel
theorem dX9_play_26 : decode cX9_play 26 = .ok (.invokevirtual 79, 3) := by decide +kernel
theorem dX9_play_29 : decode cX9_play 29 = .ok (.ireturn, 1) := by decide +kernel
theorem dX9_play_30 : decode cX9_play 30 = .ok (.aload_n 0, 1) := by decide +kernel
theorem dX9_play_31 : decode cX9_play 31 = .ok (.getfield 75, 3) := by decide +kernel
theorem dX9_play_34 : decode cX9_play 34 = .ok (.ifCond .eq 13, 3) := by decide +kernel
theorem dX9_play_37 : decode cX9_play 37 = .ok (.aload_n 0, 1) := by decide +kernel
theorem dX9_play_38 : decode cX9_play 38 = .ok (.iload_n 1, 1) := by decide +kernel
theorem dX9_play_39 : decode cX9_play 39 = .ok (.iload_n 2, 1) := by decide +kernel
theorem dX9_play_40 : decode cX9_play 40 = .ok (.iload_n 3, 1) := by decide +kernel
theorem dX9_play_41 : decode cX9_play 41 = .ok (.invokevirtual 261, 3) := by decide +kernel
theorem dX9_play_44 : decode cX9_play 44 = .ok (.goto 8, 3) := by decide +kernel
theorem dX9_play_47 : decode cX9_play 47 = .ok (.aload_n 0, 1) := by decide +kernel
theorem dX9_play_48 : decode cX9_play 48 = .ok (.iconst 3, 1) := by decide +kernel
theorem dX9_play_49 : decode cX9_play 49 = .ok (.invokevirtual 79, 3) := by decide +kernel
theorem dX9_play_52 : decode cX9_play 52 = .ok (.ireturn, 1) := by decide +kernel
theorem dX9_fight_0 : decode cX9_fight 0 = .ok (.iload_n 1, 1) := by decide +kernel
theorem dX9_fight_1 : decode cX9_fight 1 = .ok (.invokestatic 255, 3) := by decide +kernel
theorem dX9_fight_4 : decode cX9_fight 4 = .ok (.ifCond .eq 19, 3) := by decide +kernel
theorem dX9_fight_7 : decode cX9_fight 7 = .ok (.iload_n 2, 1) := by decide +kernel
theorem dX9_fight_8 : decode cX9_fight 8 = .ok (.invokestatic 255, 3) := by decide +kernel
theorem dX9_fight_11 : decode cX9_fight 11 = .ok (.ifCond .eq 12, 3) := by decide +kernel
theorem dX9_fight_14 : decode cX9_fight 14 = .ok (.iload_n 3, 1) := by decide +kernel
theorem dX9_fight_15 : decode cX9_fight 15 = .ok (.iconst 0, 1) := by decide +kernel
theorem dX9_fight_16 : decode cX9_fight 16 = .ok (.iconst 1, 1) := by decide +kernel
theorem dX9_fight_17 : decode cX9_fight 17 = .ok (.invokestatic 68, 3) := by decide +kernel
theorem dX9_fight_20 : decode cX9_fight 20 = .ok (.ifCond .ne 9, 3) := by decide +kernel
theorem dX9_fight_23 : decode cX9_fight 23 = .ok (.aload_n 0, 1) := by decide +kernel
theorem dX9_fight_24 : decode cX9_fight 24 = .ok (.iconst 1, 1) := by decide +kernel
theorem dX9_fight_25 : decode cX9_fight 25 = .ok (.invokevirtual 79, 3) := by decide +kernel
theorem dX9_fight_28 : decode cX9_fight 28 = .ok (.ireturn, 1) := by decide +kernel
theorem dX9_fight_29 : decode cX9_fight 29 = .ok (.aload_n 0, 1) := by decide +kernel
theorem dX9_fight_30 : decode cX9_fight 30 = .ok (.getfield 75, 3) := by decide +kernel
theorem dX9_fight_33 : decode cX9_fight 33 = .ok (.ifCond .ne 9, 3) := by decide +kernel
theorem dX9_fight_36 : decode cX9_fight 36 = .ok (.aload_n 0, 1) := by decide +kernel
theorem dX9_fight_37 : decode cX9_fight 37 = .ok (.iconst 3, 1) := by decide +kernel
theorem dX9_fight_38 : decode cX9_fight 38 = .ok (.invokevirtual 79, 3) := by decide +kernel
theorem dX9_fight_41 : decode cX9_fight 41 = .ok (.ireturn, 1) := by decide +kernel
theorem dX9_fight_42 : decode cX9_fight 42 = .ok (.aload_n 0, 1) := by decide +kernel
theorem dX9_fight_43 : decode cX9_fight 43 = .ok (.getfield 200, 3) := by decide +kernel
theorem dX9_fight_46 : decode cX9_fight 46 = .ok (.istore 4, 2) := by decide +kernel
theorem dX9_fight_48 : decode cX9_fight 48 = .ok (.aload_n 0, 1) := by decide +kernel
theorem dX9_fight_49 : decode cX9_fight 49 = .ok (.getfield 32, 3) := by decide +kernel
theorem dX9_fight_52 : decode cX9_fight 52 = .ok (.istore 5, 2) := by decide +kernel
theorem dX9_fight_54 : decode cX9_fight 54 = .ok (.aload_n 0, 1) := by decide +kernel
theorem dX9_fight_55 : decode cX9_fight 55 = .ok (.iload_n 1, 1) := by decide +kernel
theorem dX9_fight_56 : decode cX9_fight 56 = .ok (.iload_n 2, 1) := by decide +kernel
theorem dX9_fight_57 : decode cX9_fight 57 = .ok (.bipush 13, 2) := by decide +kernel
theorem dX9_fight_59 : decode cX9_fight 59 = .ok (.invokevirtual 261, 3) := by decide +kernel
theorem dX9_fight_62 : decode cX9_fight 62 = .ok (.istore 6, 2) := by decide +kernel
theorem dX9_fight_64 : decode cX9_fight 64 = .ok (.aload_n 0, 1) := by decide +kernel
theorem dX9_fight_65 : decode cX9_fight 65 = .ok (.invokevirtual 220, 3) := by decide +kernel
theorem dX9_fight_68 : decode cX9_fight 68 = .ok (.istore 7, 2) := by decide +kernel
theorem dX9_fight_70 : decode cX9_fight 70 = .ok (.aload_n 0, 1) := by decide +kernel
theorem dX9_fight_71 : decode cX9_fight 71 = .ok (.getfield 200, 3) := by decide +kernel
theorem dX9_fight_74 : decode cX9_fight 74 = .ok (.iload 4, 2) := by decide +kernel
theorem dX9_fight_76 : decode cX9_fight 76 = .ok (.if_icmp .le 10, 3) := by decide +kernel
theorem dX9_fight_79 : decode cX9_fight 79 = .ok (.aload_n 0, 1) := by decide +kernel
theorem dX9_fight_80 : decode cX9_fight 80 = .ok (.invokevirtual 214, 3) := by decide +kernel
theorem dX9_fight_83 : decode cX9_fight 83 = .ok (.goto (-13), 3) := by decide +kernel
theorem dX9_fight_86 : decode cX9_fight 86 = .ok (.aload_n 0, 1) := by decide +kernel
theorem dX9_fight_87 : decode cX9_fight 87 = .ok (.iload 5, 2) := by decide +kernel
theorem dX9_fight_89 : decode cX9_fight 89 = .ok (.putfield 32, 3) := by decide +kernel
theorem dX9_fight_92 : decode cX9_fight 92 = .ok (.iload_n 3, 1) := by decide +kernel
theorem dX9_fight_93 : decode cX9_fight 93 = .ok (.ifCond .ne 8, 3) := by decide +kernel
theorem dX9_fight_96 : decode cX9_fight 96 = .ok (.iload 7, 2) := by decide +kernel
theorem dX9_fight_98 : decode cX9_fight 98 = .ok (.goto 5, 3) := by decide +kernel
theorem dX9_fight_101 : decode cX9_fight 101 = .ok (.iload 6, 2) := by decide +kernel
theorem dX9_fight_103 : decode cX9_fight 103 = .ok (.ireturn, 1) := by decide +kernel
theorem dX9_grows_0 : decode cX9_grows 0 = .ok (.aload_n 0, 1) := by decide +kernel
theorem dX9_grows_1 : decode cX9_grows 1 = .ok (.getfield 264, 3) := by decide +kernel
theorem dX9_grows_4 : decode cX9_grows 4 = .ok (.sipush 300, 3) := by decide +kernel
theorem dX9_grows_7 : decode cX9_grows 7 = .ok (.if_icmp .le 4, 3) := by decide +kernel
theorem dX9_grows_10 : decode cX9_grows 10 = .ok (.return_, 1) := by decide +kernel
theorem dX9_grows_11 : decode cX9_grows 11 = .ok (.aload_n 0, 1) := by decide +kernel
theorem dX9_grows_12 : decode cX9_grows 12 = .ok (.getfield 52, 3) := by decide +kernel
theorem dX9_grows_15 : decode cX9_grows 15 = .ok (.aload_n 0, 1) := by decide +kernel
theorem dX9_grows_16 : decode cX9_grows 16 = .ok (.getfield 264, 3) := by decide +kernel
theorem dX9_grows_19 : decode cX9_grows 19 = .ok (.iload 4, 2) := by decide +kernel
theorem dX9_grows_21 : decode cX9_grows 21 = .ok (.iastore, 1) := by decide +kernel
theorem dX9_grows_22 : decode cX9_grows 22 = .ok (.aload_n 0, 1) := by decide +kernel
theorem dX9_grows_23 : decode cX9_grows 23 = .ok (.dup, 1) := by decide +kernel
theorem dX9_grows_24 : decode cX9_grows 24 = .ok (.getfield 264, 3) := by decide +kernel
theorem dX9_grows_27 : decode cX9_grows 27 = .ok (.iconst 1, 1) := by decide +kernel
theorem dX9_grows_28 : decode cX9_grows 28 = .ok (.iadd, 1) := by decide +kernel
theorem dX9_grows_29 : decode cX9_grows 29 = .ok (.putfield 264, 3) := by decide +kernel
theorem dX9_grows_32 : decode cX9_grows 32 = .ok (.aload_n 0, 1) := by decide +kernel
theorem dX9_grows_33 : decode cX9_grows 33 = .ok (.iload 5, 2) := by decide +kernel
theorem dX9_grows_35 : decode cX9_grows 35 = .ok (.aload_n 0, 1) := by decide +kernel
theorem dX9_grows_36 : decode cX9_grows 36 = .ok (.getfield 267, 3) := by decide +kernel
theorem dX9_grows_39 : decode cX9_grows 39 = .ok (.if_icmp .le 8, 3) := by decide +kernel
theorem dX9_grows_42 : decode cX9_grows 42 = .ok (.iload 5, 2) := by decide +kernel
theorem dX9_grows_44 : decode cX9_grows 44 = .ok (.goto 7, 3) := by decide +kernel
theorem dX9_grows_47 : decode cX9_grows 47 = .ok (.aload_n 0, 1) := by decide +kernel
theorem dX9_grows_48 : decode cX9_grows 48 = .ok (.getfield 267, 3) := by decide +kernel
theorem dX9_grows_51 : decode cX9_grows 51 = .ok (.putfield 267, 3) := by decide +kernel
theorem dX9_grows_54 : decode cX9_grows 54 = .ok (.aload_n 0, 1) := by decide +kernel
theorem dX9_grows_55 : decode cX9_grows 55 = .ok (.iload_n 1, 1) := by decide +kernel
theorem dX9_grows_56 : decode cX9_grows 56 = .ok (.iload_n 2, 1) := by decide +kernel
theorem dX9_grows_57 : decode cX9_grows 57 = .ok (.invokevirtual 188, 3) := by decide +kernel
theorem dX9_grows_60 : decode cX9_grows 60 = .ok (.istore 6, 2) := by decide +kernel
theorem dX9_grows_62 : decode cX9_grows 62 = .ok (.aload_n 0, 1) := by decide +kernel
theorem dX9_grows_63 : decode cX9_grows 63 = .ok (.dup, 1) := by decide +kernel
theorem dX9_grows_64 : decode cX9_grows 64 = .ok (.getfield 270, 3) := by decide +kernel
theorem dX9_grows_67 : decode cX9_grows 67 = .ok (.iload 6, 2) := by decide +kernel
theorem dX9_grows_69 : decode cX9_grows 69 = .ok (.ifCond .ne 7, 3) := by decide +kernel
theorem dX9_grows_72 : decode cX9_grows 72 = .ok (.iconst 1, 1) := by decide +kernel
theorem dX9_grows_73 : decode cX9_grows 73 = .ok (.goto 4, 3) := by decide +kernel
theorem dX9_grows_76 : decode cX9_grows 76 = .ok (.iconst 0, 1) := by decide +kernel
theorem dX9_grows_77 : decode cX9_grows 77 = .ok (.iadd, 1) := by decide +kernel
theorem dX9_grows_78 : decode cX9_grows 78 = .ok (.putfield 270, 3) := by decide +kernel
theorem dX9_grows_81 : decode cX9_grows 81 = .ok (.iconst 0, 1) := by decide +kernel
theorem dX9_grows_82 : decode cX9_grows 82 = .ok (.istore 7, 2) := by decide +kernel
theorem dX9_grows_84 : decode cX9_grows 84 = .ok (.iload 7, 2) := by decide +kernel
theorem dX9_grows_86 : decode cX9_grows 86 = .ok (.aload_n 0, 1) := by decide +kernel
theorem dX9_grows_87 : decode cX9_grows 87 = .ok (.getfield 72, 3) := by decide +kernel
theorem dX9_grows_90 : decode cX9_grows 90 = .ok (.if_icmp .ge 90, 3) := by decide +kernel
theorem dX9_grows_93 : decode cX9_grows 93 = .ok (.iload 6, 2) := by decide +kernel
theorem dX9_grows_95 : decode cX9_grows 95 = .ok (.iload 7, 2) := by decide +kernel
theorem dX9_grows_97 : decode cX9_grows 97 = .ok (.invokestatic 114, 3) := by decide +kernel
theorem dX9_grows_100 : decode cX9_grows 100 = .ok (.ifCond .ne 6, 3) := by decide +kernel
theorem dX9_grows_103 : decode cX9_grows 103 = .ok (.goto 71, 3) := by decide +kernel
theorem dX9_grows_106 : decode cX9_grows 106 = .ok (.aload_n 0, 1) := by decide +kernel
theorem dX9_grows_107 : decode cX9_grows 107 = .ok (.iload 7, 2) := by decide +kernel
theorem dX9_grows_109 : decode cX9_grows 109 = .ok (.iload_n 1, 1) := by decide +kernel
theorem dX9_grows_110 : decode cX9_grows 110 = .ok (.invokevirtual 101, 3) := by decide +kernel
theorem dX9_grows_113 : decode cX9_grows 113 = .ok (.istore 8, 2) := by decide +kernel
theorem dX9_grows_115 : decode cX9_grows 115 = .ok (.aload_n 0, 1) := by decide +kernel
theorem dX9_grows_116 : decode cX9_grows 116 = .ok (.iload 7, 2) := by decide +kernel
theorem dX9_grows_118 : decode cX9_grows 118 = .ok (.iload_n 1, 1) := by decide +kernel
theorem dX9_grows_119 : decode cX9_grows 119 = .ok (.iload_n 2, 1) := by decide +kernel
theorem dX9_grows_120 : decode cX9_grows 120 = .ok (.invokevirtual 163, 3) := by decide +kernel
theorem dX9_grows_123 : decode cX9_grows 123 = .ok (.istore 9, 2) := by decide +kernel
theorem dX9_grows_125 : decode cX9_grows 125 = .ok (.iload_n 3, 1) := by decide +kernel
theorem dX9_grows_126 : decode cX9_grows 126 = .ok (.ifCond .ne 21, 3) := by decide +kernel
theorem dX9_grows_129 : decode cX9_grows 129 = .ok (.aload_n 0, 1) := by decide +kernel
theorem dX9_grows_130 : decode cX9_grows 130 = .ok (.iload 8, 2) := by decide +kernel
theorem dX9_grows_132 : decode cX9_grows 132 = .ok (.iload 9, 2) := by decide +kernel
theorem dX9_grows_134 : decode cX9_grows 134 = .ok (.iconst 1, 1) := by decide +kernel
theorem dX9_grows_135 : decode cX9_grows 135 = .ok (.iload 7, 2) := by decide +kernel
theorem dX9_grows_137 : decode cX9_grows 137 = .ok (.iload 5, 2) := by decide +kernel
theorem dX9_grows_139 : decode cX9_grows 139 = .ok (.iconst 1, 1) := by decide +kernel
theorem dX9_grows_140 : decode cX9_grows 140 = .ok (.iadd, 1) := by decide +kernel
theorem dX9_grows_141 : decode cX9_grows 141 = .ok (.invokevirtual 273, 3) := by decide +kernel
theorem dX9_grows_144 : decode cX9_grows 144 = .ok (.goto 30, 3) := by decide +kernel
theorem dX9_grows_147 : decode cX9_grows 147 = .ok (.aload_n 0, 1) := by decide +kernel
theorem dX9_grows_148 : decode cX9_grows 148 = .ok (.iload 8, 2) := by decide +kernel
theorem dX9_grows_150 : decode cX9_grows 150 = .ok (.iload 9, 2) := by decide +kernel
theorem dX9_grows_152 : decode cX9_grows 152 = .ok (.invokevirtual 194, 3) := by decide +kernel
theorem dX9_grows_155 : decode cX9_grows 155 = .ok (.ifCond .ne 19, 3) := by decide +kernel
theorem dX9_grows_158 : decode cX9_grows 158 = .ok (.aload_n 0, 1) := by decide +kernel
theorem dX9_grows_159 : decode cX9_grows 159 = .ok (.iload 8, 2) := by decide +kernel
theorem dX9_grows_161 : decode cX9_grows 161 = .ok (.iload 9, 2) := by decide +kernel
theorem dX9_grows_163 : decode cX9_grows 163 = .ok (.iconst 0, 1) := by decide +kernel
theorem dX9_grows_164 : decode cX9_grows 164 = .ok (.iload 7, 2) := by decide +kernel
theorem dX9_grows_166 : decode cX9_grows 166 = .ok (.iload 5, 2) := by decide +kernel
theorem dX9_grows_168 : decode cX9_grows 168 = .ok (.iconst 1, 1) := by decide +kernel
theorem dX9_grows_169 : decode cX9_grows 169 = .ok (.iadd, 1) := by decide +kernel
theorem dX9_grows_170 : decode cX9_grows 170 = .ok (.invokevirtual 273, 3) := by decide +kernel
theorem dX9_grows_173 : decode cX9_grows 173 = .ok (.return_, 1) := by decide +kernel
theorem dX9_grows_174 : decode cX9_grows 174 = .ok (.iinc 7 1, 3) := by decide +kernel
theorem dX9_grows_177 : decode cX9_grows 177 = .ok (.goto (-93), 3) := by decide +kernel
theorem dX9_grows_180 : decode cX9_grows 180 = .ok (.return_, 1) := by decide +kernel
theorem dX9_isGrown_0 : decode cX9_isGrown 0 = .ok (.aload_n 0, 1) := by decide +kernel
theorem dX9_isGrown_1 : decode cX9_isGrown 1 = .ok (.iconst 0, 1) := by decide +kernel
theorem dX9_isGrown_2 : decode cX9_isGrown 2 = .ok (.putfield 264, 3) := by decide +kernel
theorem dX9_isGrown_5 : decode cX9_isGrown 5 = .ok (.aload_n 0, 1) := by decide +kernel
theorem dX9_isGrown_6 : decode cX9_isGrown 6 = .ok (.iconst 0, 1) := by decide +kernel
theorem dX9_isGrown_7 : decode cX9_isGrown 7 = .ok (.putfield 270, 3) := by decide +kernel
theorem dX9_isGrown_10 : decode cX9_isGrown 10 = .ok (.aload_n 0, 1) := by decide +kernel
theorem dX9_isGrown_11 : decode cX9_isGrown 11 = .ok (.iconst 0, 1) := by decide +kernel
theorem dX9_isGrown_12 : decode cX9_isGrown 12 = .ok (.putfield 267, 3) := by decide +kernel
theorem dX9_isGrown_15 : decode cX9_isGrown 15 = .ok (.aload_n 0, 1) := by decide +kernel
theorem dX9_isGrown_16 : decode cX9_isGrown 16 = .ok (.aload_n 0, 1) := by decide +kernel
theorem dX9_isGrown_17 : decode cX9_isGrown 17 = .ok (.getfield 182, 3) := by decide +kernel
theorem dX9_isGrown_20 : decode cX9_isGrown 20 = .ok (.aload_n 0, 1) := by decide +kernel
theorem dX9_isGrown_21 : decode cX9_isGrown 21 = .ok (.invokevirtual 185, 3) := by decide +kernel
theorem dX9_isGrown_24 : decode cX9_isGrown 24 = .ok (.aload_n 0, 1) := by decide +kernel
theorem dX9_isGrown_25 : decode cX9_isGrown 25 = .ok (.aload_n 0, 1) := by decide +kernel
theorem dX9_isGrown_26 : decode cX9_isGrown 26 = .ok (.getfield 182, 3) := by decide +kernel
theorem dX9_isGrown_29 : decode cX9_isGrown 29 = .ok (.aload_n 0, 1) := by decide +kernel
theorem dX9_isGrown_30 : decode cX9_isGrown 30 = .ok (.invokevirtual 185, 3) := by decide +kernel
theorem dX9_isGrown_33 : decode cX9_isGrown 33 = .ok (.invokevirtual 194, 3) := by decide +kernel
theorem dX9_isGrown_36 : decode cX9_isGrown 36 = .ok (.iconst (-1), 1) := by decide +kernel
theorem dX9_isGrown_37 : decode cX9_isGrown 37 = .ok (.iconst 0, 1) := by decide +kernel
theorem dX9_isGrown_38 : decode cX9_isGrown 38 = .ok (.invokevirtual 273, 3) := by decide +kernel
theorem dX9_isGrown_41 : decode cX9_isGrown 41 = .ok (.aload_n 0, 1) := by decide +kernel
theorem dX9_isGrown_42 : decode cX9_isGrown 42 = .ok (.getfield 264, 3) := by decide +kernel
theorem dX9_isGrown_45 : decode cX9_isGrown 45 = .ok (.sipush 300, 3) := by decide +kernel
theorem dX9_isGrown_48 : decode cX9_isGrown 48 = .ok (.if_icmp .gt 7, 3) := by decide +kernel
theorem dX9_isGrown_51 : decode cX9_isGrown 51 = .ok (.iconst 1, 1) := by decide +kernel
theorem dX9_isGrown_52 : decode cX9_isGrown 52 = .ok (.goto 4, 3) := by decide +kernel
theorem dX9_isGrown_55 : decode cX9_isGrown 55 = .ok (.iconst 0, 1) := by decide +kernel
theorem dX9_isGrown_56 : decode cX9_isGrown 56 = .ok (.ireturn, 1) := by decide +kernel
theorem dX9_tree_0 : decode cX9_tree 0 = .ok (.iload_n 1, 1) := by decide +kernel
theorem dX9_tree_1 : decode cX9_tree 1 = .ok (.iconst 0, 1) := by decide +kernel
theorem dX9_tree_2 : decode cX9_tree 2 = .ok (.iconst 2, 1) := by decide +kernel
theorem dX9_tree_3 : decode cX9_tree 3 = .ok (.invokestatic 68, 3) := by decide +kernel
theorem dX9_tree_6 : decode cX9_tree 6 = .ok (.ifCond .ne 9, 3) := by decide +kernel
theorem dX9_tree_9 : decode cX9_tree 9 = .ok (.aload_n 0, 1) := by decide +kernel
theorem dX9_tree_10 : decode cX9_tree 10 = .ok (.iconst 1, 1) := by decide +kernel
theorem dX9_tree_11 : decode cX9_tree 11 = .ok (.invokevirtual 79, 3) := by decide +kernel
theorem dX9_tree_14 : decode cX9_tree 14 = .ok (.ireturn, 1) := by decide +kernel
theorem dX9_tree_15 : decode cX9_tree 15 = .ok (.aload_n 0, 1) := by decide +kernel
theorem dX9_tree_16 : decode cX9_tree 16 = .ok (.getfield 75, 3) := by decide +kernel
theorem dX9_tree_19 : decode cX9_tree 19 = .ok (.ifCond .ne 9, 3) := by decide +kernel
theorem dX9_tree_22 : decode cX9_tree 22 = .ok (.aload_n 0, 1) := by decide +kernel
theorem dX9_tree_23 : decode cX9_tree 23 = .ok (.iconst 3, 1) := by decide +kernel
theorem dX9_tree_24 : decode cX9_tree 24 = .ok (.invokevirtual 79, 3) := by decide +kernel
theorem dX9_tree_27 : decode cX9_tree 27 = .ok (.ireturn, 1) := by decide +kernel
theorem dX9_tree_28 : decode cX9_tree 28 = .ok (.aload_n 0, 1) := by decide +kernel
theorem dX9_tree_29 : decode cX9_tree 29 = .ok (.invokevirtual 277, 3) := by decide +kernel
theorem dX9_tree_32 : decode cX9_tree 32 = .ok (.ifCond .ne 9, 3) := by decide +kernel
theorem dX9_tree_35 : decode cX9_tree 35 = .ok (.aload_n 0, 1) := by decide +kernel
theorem dX9_tree_36 : decode cX9_tree 36 = .ok (.iconst 4, 1) := by decide +kernel
theorem dX9_tree_37 : decode cX9_tree 37 = .ok (.invokevirtual 79, 3) := by decide +kernel
theorem dX9_tree_40 : decode cX9_tree 40 = .ok (.ireturn, 1) := by decide +kernel
theorem dX9_tree_41 : decode cX9_tree 41 = .ok (.iload_n 1, 1) := by decide +kernel
theorem dX9_tree_42 : decode cX9_tree 42 = .ok (.ifCond .ne 10, 3) := by decide +kernel
theorem dX9_tree_45 : decode cX9_tree 45 = .ok (.aload_n 0, 1) := by decide +kernel
theorem dX9_tree_46 : decode cX9_tree 46 = .ok (.getfield 264, 3) := by decide +kernel
theorem dX9_tree_49 : decode cX9_tree 49 = .ok (.goto 19, 3) := by decide +kernel
theorem dX9_tree_52 : decode cX9_tree 52 = .ok (.iload_n 1, 1) := by decide +kernel
theorem dX9_tree_53 : decode cX9_tree 53 = .ok (.iconst 1, 1) := by decide +kernel
theorem dX9_tree_54 : decode cX9_tree 54 = .ok (.if_icmp .ne 10, 3) := by decide +kernel
theorem dX9_tree_57 : decode cX9_tree 57 = .ok (.aload_n 0, 1) := by decide +kernel
theorem dX9_tree_58 : decode cX9_tree 58 = .ok (.getfield 270, 3) := by decide +kernel
theorem dX9_tree_61 : decode cX9_tree 61 = .ok (.goto 7, 3) := by decide +kernel
theorem dX9_tree_64 : decode cX9_tree 64 = .ok (.aload_n 0, 1) := by decide +kernel
theorem dX9_tree_65 : decode cX9_tree 65 = .ok (.getfield 267, 3) := by decide +kernel
theorem dX9_tree_68 : decode cX9_tree 68 = .ok (.ireturn, 1) := by decide +kernel
theorem dX9_node_0 : decode cX9_node 0 = .ok (.aload_n 0, 1) := by decide +kernel
theorem dX9_node_1 : decode cX9_node 1 = .ok (.getfield 75, 3) := by decide +kernel
theorem dX9_node_4 : decode cX9_node 4 = .ok (.ifCond .ne 9, 3) := by decide +kernel
theorem dX9_node_7 : decode cX9_node 7 = .ok (.aload_n 0, 1) := by decide +kernel
theorem dX9_node_8 : decode cX9_node 8 = .ok (.iconst 3, 1) := by decide +kernel
theorem dX9_node_9 : decode cX9_node 9 = .ok (.invokevirtual 79, 3) := by decide +kernel
theorem dX9_node_12 : decode cX9_node 12 = .ok (.ireturn, 1) := by decide +kernel
theorem dX9_node_13 : decode cX9_node 13 = .ok (.aload_n 0, 1) := by decide +kernel
theorem dX9_node_14 : decode cX9_node 14 = .ok (.invokevirtual 277, 3) := by decide +kernel
theorem dX9_node_17 : decode cX9_node 17 = .ok (.ifCond .ne 9, 3) := by decide +kernel
theorem dX9_node_20 : decode cX9_node 20 = .ok (.aload_n 0, 1) := by decide +kernel
theorem dX9_node_21 : decode cX9_node 21 = .ok (.iconst 4, 1) := by decide +kernel
theorem dX9_node_22 : decode cX9_node 22 = .ok (.invokevirtual 79, 3) := by decide +kernel
theorem dX9_node_25 : decode cX9_node 25 = .ok (.ireturn, 1) := by decide +kernel
theorem dX9_node_26 : decode cX9_node 26 = .ok (.iload_n 1, 1) := by decide +kernel
theorem dX9_node_27 : decode cX9_node 27 = .ok (.iconst 1, 1) := by decide +kernel
theorem dX9_node_28 : decode cX9_node 28 = .ok (.aload_n 0, 1) := by decide +kernel
theorem dX9_node_29 : decode cX9_node 29 = .ok (.getfield 264, 3) := by decide +kernel
theorem dX9_node_32 : decode cX9_node 32 = .ok (.iconst 1, 1) := by decide +kernel
theorem dX9_node_33 : decode cX9_node 33 = .ok (.isub, 1) := by decide +kernel
theorem dX9_node_34 : decode cX9_node 34 = .ok (.invokestatic 68, 3) := by decide +kernel
theorem dX9_node_37 : decode cX9_node 37 = .ok (.ifCond .eq 12, 3) := by decide +kernel
theorem dX9_node_40 : decode cX9_node 40 = .ok (.aload_n 0, 1) := by decide +kernel
theorem dX9_node_41 : decode cX9_node 41 = .ok (.getfield 52, 3) := by decide +kernel
theorem dX9_node_44 : decode cX9_node 44 = .ok (.iload_n 1, 1) := by decide +kernel
theorem dX9_node_45 : decode cX9_node 45 = .ok (.iaload, 1) := by decide +kernel
theorem dX9_node_46 : decode cX9_node 46 = .ok (.goto 8, 3) := by decide +kernel
theorem dX9_node_49 : decode cX9_node 49 = .ok (.aload_n 0, 1) := by decide +kernel
theorem dX9_node_50 : decode cX9_node 50 = .ok (.iconst 2, 1) := by decide +kernel
theorem dX9_node_51 : decode cX9_node 51 = .ok (.invokevirtual 79, 3) := by decide +kernel
theorem dX9_node_54 : decode cX9_node 54 = .ok (.ireturn, 1) := by decide +kernel
theorem dX9_isSheet_0 : decode cX9_isSheet 0 = .ok (.iload_n 0, 1) := by decide +kernel
theorem dX9_isSheet_1 : decode cX9_isSheet 1 = .ok (.iconst 0, 1) := by decide +kernel
theorem dX9_isSheet_2 : decode cX9_isSheet 2 = .ok (.iconst 3, 1) := by decide +kernel
theorem dX9_isSheet_3 : decode cX9_isSheet 3 = .ok (.invokestatic 68, 3) := by decide +kernel
theorem dX9_isSheet_6 : decode cX9_isSheet 6 = .ok (.ireturn, 1) := by decide +kernel
theorem dX9_sheet_0 : decode cX9_sheet 0 = .ok (.iload_n 1, 1) := by decide +kernel
theorem dX9_sheet_1 : decode cX9_sheet 1 = .ok (.invokestatic 280, 3) := by decide +kernel
theorem dX9_sheet_4 : decode cX9_sheet 4 = .ok (.ifCond .eq 25, 3) := by decide +kernel
theorem dX9_sheet_7 : decode cX9_sheet 7 = .ok (.iload_n 2, 1) := by decide +kernel
theorem dX9_sheet_8 : decode cX9_sheet 8 = .ok (.ifCond .eq 27, 3) := by decide +kernel
theorem dX9_sheet_11 : decode cX9_sheet 11 = .ok (.iload_n 2, 1) := by decide +kernel
theorem dX9_sheet_12 : decode cX9_sheet 12 = .ok (.bipush 8, 2) := by decide +kernel
theorem dX9_sheet_14 : decode cX9_sheet 14 = .ok (.if_icmp .eq 21, 3) := by decide +kernel
theorem dX9_sheet_17 : decode cX9_sheet 17 = .ok (.iload_n 2, 1) := by decide +kernel
theorem dX9_sheet_18 : decode cX9_sheet 18 = .ok (.bipush 16, 2) := by decide +kernel
theorem dX9_sheet_20 : decode cX9_sheet 20 = .ok (.if_icmp .eq 15, 3) := by decide +kernel
theorem dX9_sheet_23 : decode cX9_sheet 23 = .ok (.iload_n 2, 1) := by decide +kernel
theorem dX9_sheet_24 : decode cX9_sheet 24 = .ok (.bipush 32, 2) := by decide +kernel
theorem dX9_sheet_26 : decode cX9_sheet 26 = .ok (.if_icmp .eq 9, 3) := by decide +kernel
theorem dX9_sheet_29 : decode cX9_sheet 29 = .ok (.aload_n 0, 1) := by decide +kernel
theorem dX9_sheet_30 : decode cX9_sheet 30 = .ok (.iconst 1, 1) := by decide +kernel
theorem dX9_sheet_31 : decode cX9_sheet 31 = .ok (.invokevirtual 79, 3) := by decide +kernel
theorem dX9_sheet_34 : decode cX9_sheet 34 = .ok (.ireturn, 1) := by decide +kernel
theorem dX9_sheet_35 : decode cX9_sheet 35 = .ok (.iload_n 2, 1) := by decide +kernel
theorem dX9_sheet_36 : decode cX9_sheet 36 = .ok (.ifCond .eq 13, 3) := by decide +kernel
theorem dX9_sheet_39 : decode cX9_sheet 39 = .ok (.iload_n 3, 1) := by decide +kernel
theorem dX9_sheet_40 : decode cX9_sheet 40 = .ok (.ifCond .ge 9, 3) := by decide +kernel
theorem dX9_sheet_43 : decode cX9_sheet 43 = .ok (.aload_n 0, 1) := by decide +kernel
theorem dX9_sheet_44 : decode cX9_sheet 44 = .ok (.iconst 3, 1) := by decide +kernel
theorem dX9_sheet_45 : decode cX9_sheet 45 = .ok (.invokevirtual 79, 3) := by decide +kernel
theorem dX9_sheet_48 : decode cX9_sheet 48 = .ok (.ireturn, 1) := by decide +kernel
theorem dX9_sheet_49 : decode cX9_sheet 49 = .ok (.iload_n 2, 1) := by decide +kernel
theorem dX9_sheet_50 : decode cX9_sheet 50 = .ok (.ifCond .eq 15, 3) := by decide +kernel
theorem dX9_sheet_53 : decode cX9_sheet 53 = .ok (.iload_n 3, 1) := by decide +kernel
theorem dX9_sheet_54 : decode cX9_sheet 54 = .ok (.bipush 24, 2) := by decide +kernel
theorem dX9_sheet_56 : decode cX9_sheet 56 = .ok (.if_icmp .le 9, 3) := by decide +kernel
theorem dX9_sheet_59 : decode cX9_sheet 59 = .ok (.aload_n 0, 1) := by decide +kernel
theorem dX9_sheet_60 : decode cX9_sheet 60 = .ok (.iconst 1, 1) := by decide +kernel
theorem dX9_sheet_61 : decode cX9_sheet 61 = .ok (.invokevirtual 79, 3) := by decide +kernel
theorem dX9_sheet_64 : decode cX9_sheet 64 = .ok (.ireturn, 1) := by decide +kernel
theorem dX9_sheet_65 : decode cX9_sheet 65 = .ok (.aload_n 0, 1) := by decide +kernel
theorem dX9_sheet_66 : decode cX9_sheet 66 = .ok (.getfield 55, 3) := by decide +kernel
theorem dX9_sheet_69 : decode cX9_sheet 69 = .ok (.iload_n 1, 1) := by decide +kernel
theorem dX9_sheet_70 : decode cX9_sheet 70 = .ok (.iload_n 2, 1) := by decide +kernel
theorem dX9_sheet_71 : decode cX9_sheet 71 = .ok (.iastore, 1) := by decide +kernel
theorem dX9_sheet_72 : decode cX9_sheet 72 = .ok (.aload_n 0, 1) := by decide +kernel
theorem dX9_sheet_73 : decode cX9_sheet 73 = .ok (.getfield 58, 3) := by decide +kernel
theorem dX9_sheet_76 : decode cX9_sheet 76 = .ok (.iload_n 1, 1) := by decide +kernel
theorem dX9_sheet_77 : decode cX9_sheet 77 = .ok (.iload_n 2, 1) := by decide +kernel
theorem dX9_sheet_78 : decode cX9_sheet 78 = .ok (.ifCond .ne 7, 3) := by decide +kernel
theorem dX9_sheet_81 : decode cX9_sheet 81 = .ok (.iconst 0, 1) := by decide +kernel
theorem dX9_sheet_82 : decode cX9_sheet 82 = .ok (.goto 4, 3) := by decide +kernel
theorem dX9_sheet_85 : decode cX9_sheet 85 = .ok (.iload_n 3, 1) := by decide +kernel
theorem dX9_sheet_86 : decode cX9_sheet 86 = .ok (.iastore, 1) := by decide +kernel
theorem dX9_sheet_87 : decode cX9_sheet 87 = .ok (.iconst 0, 1) := by decide +kernel
theorem dX9_sheet_88 : decode cX9_sheet 88 = .ok (.istore 4, 2) := by decide +kernel
theorem dX9_sheet_90 : decode cX9_sheet 90 = .ok (.iload 4, 2) := by decide +kernel
theorem dX9_sheet_92 : decode cX9_sheet 92 = .ok (.bipush 24, 2) := by decide +kernel
theorem dX9_sheet_94 : decode cX9_sheet 94 = .ok (.if_icmp .ge 22, 3) := by decide +kernel
theorem dX9_sheet_97 : decode cX9_sheet 97 = .ok (.aload_n 0, 1) := by decide +kernel
theorem dX9_sheet_98 : decode cX9_sheet 98 = .ok (.getfield 61, 3) := by decide +kernel
theorem dX9_sheet_101 : decode cX9_sheet 101 = .ok (.bipush 24, 2) := by decide +kernel
theorem dX9_sheet_103 : decode cX9_sheet 103 = .ok (.iload_n 1, 1) := by decide +kernel
theorem dX9_sheet_104 : decode cX9_sheet 104 = .ok (.imul, 1) := by decide +kernel
theorem dX9_sheet_105 : decode cX9_sheet 105 = .ok (.iload 4, 2) := by decide +kernel
theorem dX9_sheet_107 : decode cX9_sheet 107 = .ok (.iadd, 1) := by decide +kernel
theorem dX9_sheet_108 : decode cX9_sheet 108 = .ok (.iconst 0, 1) := by decide +kernel
theorem dX9_sheet_109 : decode cX9_sheet 109 = .ok (.iastore, 1) := by decide +kernel
theorem dX9_sheet_110 : decode cX9_sheet 110 = .ok (.iinc 4 1, 3) := by decide +kernel
theorem dX9_sheet_113 : decode cX9_sheet 113 = .ok (.goto (-23), 3) := by decide +kernel
theorem dX9_sheet_116 : decode cX9_sheet 116 = .ok (.iconst 1, 1) := by decide +kernel
theorem dX9_sheet_117 : decode cX9_sheet 117 = .ok (.ireturn, 1) := by decide +kernel
theorem dX9_wrongCell_0 : decode cX9_wrongCell 0 = .ok (.iload_n 1, 1) := by decide +kernel
theorem dX9_wrongCell_1 : decode cX9_wrongCell 1 = .ok (.invokestatic 280, 3) := by decide +kernel
theorem dX9_wrongCell_4 : decode cX9_wrongCell 4 = .ok (.ifCond .ne 7, 3) := by decide +kernel
theorem dX9_wrongCell_7 : decode cX9_wrongCell 7 = .ok (.iconst 1, 1) := by decide +kernel
theorem dX9_wrongCell_8 : decode cX9_wrongCell 8 = .ok (.goto 38, 3) := by decide +kernel
theorem dX9_wrongCell_11 : decode cX9_wrongCell 11 = .ok (.aload_n 0, 1) := by decide +kernel
theorem dX9_wrongCell_12 : decode cX9_wrongCell 12 = .ok (.getfield 55, 3) := by decide +kernel
theorem dX9_wrongCell_15 : decode cX9_wrongCell 15 = .ok (.iload_n 1, 1) := by decide +kernel
theorem dX9_wrongCell_16 : decode cX9_wrongCell 16 = .ok (.iaload, 1) := by decide +kernel
theorem dX9_wrongCell_17 : decode cX9_wrongCell 17 = .ok (.ifCond .ne 8, 3) := by decide +kernel
theorem dX9_wrongCell_20 : decode cX9_wrongCell 20 = .ok (.bipush 6, 2) := by decide +kernel
theorem dX9_wrongCell_22 : decode cX9_wrongCell 22 = .ok (.goto 24, 3) := by decide +kernel
theorem dX9_wrongCell_25 : decode cX9_wrongCell 25 = .ok (.iload_n 2, 1) := by decide +kernel
theorem dX9_wrongCell_26 : decode cX9_wrongCell 26 = .ok (.iconst 0, 1) := by decide +kernel
theorem dX9_wrongCell_27 : decode cX9_wrongCell 27 = .ok (.aload_n 0, 1) := by decide +kernel
theorem dX9_wrongCell_28 : decode cX9_wrongCell 28 = .ok (.getfield 58, 3) := by decide +kernel
theorem dX9_wrongCell_31 : decode cX9_wrongCell 31 = .ok (.iload_n 1, 1) := by decide +kernel
theorem dX9_wrongCell_32 : decode cX9_wrongCell 32 = .ok (.iaload, 1) := by decide +kernel
theorem dX9_wrongCell_33 : decode cX9_wrongCell 33 = .ok (.iconst 1, 1) := by decide +kernel
theorem dX9_wrongCell_34 : decode cX9_wrongCell 34 = .ok (.isub, 1) := by decide +kernel
theorem dX9_wrongCell_35 : decode cX9_wrongCell 35 = .ok (.invokestatic 68, 3) := by decide +kernel
theorem dX9_wrongCell_38 : decode cX9_wrongCell 38 = .ok (.ifCond .eq 7, 3) := by decide +kernel
theorem dX9_wrongCell_41 : decode cX9_wrongCell 41 = .ok (.iconst 0, 1) := by decide +kernel
theorem dX9_wrongCell_42 : decode cX9_wrongCell 42 = .ok (.goto 4, 3) := by decide +kernel
theorem dX9_wrongCell_45 : decode cX9_wrongCell 45 = .ok (.iconst 1, 1) := by decide +kernel
theorem dX9_wrongCell_46 : decode cX9_wrongCell 46 = .ok (.ireturn, 1) := by decide +kernel
theorem dX9_lays_0 : decode cX9_lays 0 = .ok (.aload_n 0, 1) := by decide +kernel
theorem dX9_lays_1 : decode cX9_lays 1 = .ok (.getfield 61, 3) := by decide +kernel
theorem dX9_lays_4 : decode cX9_lays 4 = .ok (.bipush 24, 2) := by decide +kernel
theorem dX9_lays_6 : decode cX9_lays 6 = .ok (.iload_n 1, 1) := by decide +kernel
theorem dX9_lays_7 : decode cX9_lays 7 = .ok (.imul, 1) := by decide +kernel
theorem dX9_lays_8 : decode cX9_lays 8 = .ok (.iload_n 2, 1) := by decide +kernel
theorem dX9_lays_9 : decode cX9_lays 9 = .ok (.iadd, 1) := by decide +kernel
theorem dX9_lays_10 : decode cX9_lays 10 = .ok (.aload_n 0, 1) := by decide +kernel
theorem dX9_lays_11 : decode cX9_lays 11 = .ok (.getfield 55, 3) := by decide +kernel
theorem dX9_lays_14 : decode cX9_lays 14 = .ok (.iload_n 1, 1) := by decide +kernel
theorem dX9_lays_15 : decode cX9_lays 15 = .ok (.iaload, 1) := by decide +kernel
theorem dX9_lays_16 : decode cX9_lays 16 = .ok (.bipush 8, 2) := by decide +kernel
theorem dX9_lays_18 : decode cX9_lays 18 = .ok (.if_icmp .ne 8, 3) := by decide +kernel
theorem dX9_lays_21 : decode cX9_lays 21 = .ok (.iload_n 3, 1) := by decide +kernel
theorem dX9_lays_22 : decode cX9_lays 22 = .ok (.i2b, 1) := by decide +kernel
theorem dX9_lays_23 : decode cX9_lays 23 = .ok (.goto 20, 3) := by decide +kernel
theorem dX9_lays_26 : decode cX9_lays 26 = .ok (.aload_n 0, 1) := by decide +kernel
theorem dX9_lays_27 : decode cX9_lays 27 = .ok (.getfield 55, 3) := by decide +kernel
theorem dX9_lays_30 : decode cX9_lays 30 = .ok (.iload_n 1, 1) := by decide +kernel
theorem dX9_lays_31 : decode cX9_lays 31 = .ok (.iaload, 1) := by decide +kernel
theorem dX9_lays_32 : decode cX9_lays 32 = .ok (.bipush 16, 2) := by decide +kernel
theorem dX9_lays_34 : decode cX9_lays 34 = .ok (.if_icmp .ne 8, 3) := by decide +kernel
theorem dX9_lays_37 : decode cX9_lays 37 = .ok (.iload_n 3, 1) := by decide +kernel
theorem dX9_lays_38 : decode cX9_lays 38 = .ok (.i2s, 1) := by decide +kernel
theorem dX9_lays_39 : decode cX9_lays 39 = .ok (.goto 4, 3) := by decide +kernel
theorem dX9_lays_42 : decode cX9_lays 42 = .ok (.iload_n 3, 1) := by decide +kernel
theorem dX9_lays_43 : decode cX9_lays 43 = .ok (.iastore, 1) := by decide +kernel
theorem dX9_lays_44 : decode cX9_lays 44 = .ok (.return_, 1) := by decide +kernel
theorem dX9_put_0 : decode cX9_put 0 = .ok (.aload_n 0, 1) := by decide +kernel
theorem dX9_put_1 : decode cX9_put 1 = .ok (.iload_n 1, 1) := by decide +kernel
theorem dX9_put_2 : decode cX9_put 2 = .ok (.iload_n 2, 1) := by decide +kernel
theorem dX9_put_3 : decode cX9_put 3 = .ok (.invokevirtual 283, 3) := by decide +kernel
theorem dX9_put_6 : decode cX9_put 6 = .ok (.istore 4, 2) := by decide +kernel
theorem dX9_put_8 : decode cX9_put 8 = .ok (.iload 4, 2) := by decide +kernel
theorem dX9_put_10 : decode cX9_put 10 = .ok (.ifCond .eq 10, 3) := by decide +kernel
theorem dX9_put_13 : decode cX9_put 13 = .ok (.aload_n 0, 1) := by decide +kernel
theorem dX9_put_14 : decode cX9_put 14 = .ok (.iload 4, 2) := by decide +kernel
theorem dX9_put_16 : decode cX9_put 16 = .ok (.invokevirtual 79, 3) := by decide +kernel
theorem dX9_put_19 : decode cX9_put 19 = .ok (.ireturn, 1) := by decide +kernel
theorem dX9_put_20 : decode cX9_put 20 = .ok (.aload_n 0, 1) := by decide +kernel
theorem dX9_put_21 : decode cX9_put 21 = .ok (.iload_n 1, 1) := by decide +kernel
theorem dX9_put_22 : decode cX9_put 22 = .ok (.iload_n 2, 1) := by decide +kernel
theorem dX9_put_23 : decode cX9_put 23 = .ok (.iload_n 3, 1) := by decide +kernel
theorem dX9_put_24 : decode cX9_put 24 = .ok (.invokevirtual 286, 3) := by decide +kernel
theorem dX9_put_27 : decode cX9_put 27 = .ok (.iconst 1, 1) := by decide +kernel
theorem dX9_put_28 : decode cX9_put 28 = .ok (.ireturn, 1) := by decide +kernel
theorem dX9_number_0 : decode cX9_number 0 = .ok (.aload_n 0, 1) := by decide +kernel
theorem dX9_number_1 : decode cX9_number 1 = .ok (.iload_n 1, 1) := by decide +kernel
theorem dX9_number_2 : decode cX9_number 2 = .ok (.iload_n 2, 1) := by decide +kernel
theorem dX9_number_3 : decode cX9_number 3 = .ok (.invokevirtual 283, 3) := by decide +kernel
theorem dX9_number_6 : decode cX9_number 6 = .ok (.istore_n 3, 1) := by decide +kernel
theorem dX9_number_7 : decode cX9_number 7 = .ok (.iload_n 3, 1) := by decide +kernel
theorem dX9_number_8 : decode cX9_number 8 = .ok (.ifCond .eq 11, 3) := by decide +kernel
theorem dX9_number_11 : decode cX9_number 11 = .ok (.aload_n 0, 1) := by decide +kernel
theorem dX9_number_12 : decode cX9_number 12 = .ok (.iload_n 3, 1) := by decide +kernel
theorem dX9_number_13 : decode cX9_number 13 = .ok (.invokevirtual 79, 3) := by decide +kernel
theorem dX9_number_16 : decode cX9_number 16 = .ok (.goto 14, 3) := by decide +kernel
theorem dX9_number_19 : decode cX9_number 19 = .ok (.aload_n 0, 1) := by decide +kernel
theorem dX9_number_20 : decode cX9_number 20 = .ok (.getfield 61, 3) := by decide +kernel
theorem dX9_number_23 : decode cX9_number 23 = .ok (.bipush 24, 2) := by decide +kernel
theorem dX9_number_25 : decode cX9_number 25 = .ok (.iload_n 1, 1) := by decide +kernel
theorem dX9_number_26 : decode cX9_number 26 = .ok (.imul, 1) := by decide +kernel
theorem dX9_number_27 : decode cX9_number 27 = .ok (.iload_n 2, 1) := by decide +kernel
theorem dX9_number_28 : decode cX9_number 28 = .ok (.iadd, 1) := by decide +kernel
theorem dX9_number_29 : decode cX9_number 29 = .ok (.iaload, 1) := by decide +kernel
theorem dX9_number_30 : decode cX9_number 30 = .ok (.ireturn, 1) := by decide +kernel
theorem dX9_copy_0 : decode cX9_copy 0 = .ok (.iload_n 1, 1) := by decide +kernel
theorem dX9_copy_1 : decode cX9_copy 1 = .ok (.invokestatic 280, 3) := by decide +kernel
theorem dX9_copy_4 : decode cX9_copy 4 = .ok (.ifCond .eq 10, 3) := by decide +kernel
theorem dX9_copy_7 : decode cX9_copy 7 = .ok (.iload_n 3, 1) := by decide +kernel
theorem dX9_copy_8 : decode cX9_copy 8 = .ok (.invokestatic 280, 3) := by decide +kernel
theorem dX9_copy_11 : decode cX9_copy 11 = .ok (.ifCond .ne 9, 3) := by decide +kernel
theorem dX9_copy_14 : decode cX9_copy 14 = .ok (.aload_n 0, 1) := by decide +kernel
theorem dX9_copy_15 : decode cX9_copy 15 = .ok (.iconst 1, 1) := by decide +kernel
theorem dX9_copy_16 : decode cX9_copy 16 = .ok (.invokevirtual 79, 3) := by decide +kernel
theorem dX9_copy_19 : decode cX9_copy 19 = .ok (.ireturn, 1) := by decide +kernel
theorem dX9_copy_20 : decode cX9_copy 20 = .ok (.aload_n 0, 1) := by decide +kernel
theorem dX9_copy_21 : decode cX9_copy 21 = .ok (.getfield 55, 3) := by decide +kernel
theorem dX9_copy_24 : decode cX9_copy 24 = .ok (.iload_n 1, 1) := by decide +kernel
theorem dX9_copy_25 : decode cX9_copy 25 = .ok (.iaload, 1) := by decide +kernel
theorem dX9_copy_26 : decode cX9_copy 26 = .ok (.ifCond .eq 12, 3) := by decide +kernel
theorem dX9_copy_29 : decode cX9_copy 29 = .ok (.aload_n 0, 1) := by decide +kernel
theorem dX9_copy_30 : decode cX9_copy 30 = .ok (.getfield 55, 3) := by decide +kernel
theorem dX9_copy_33 : decode cX9_copy 33 = .ok (.iload_n 3, 1) := by decide +kernel
theorem dX9_copy_34 : decode cX9_copy 34 = .ok (.iaload, 1) := by decide +kernel
theorem dX9_copy_35 : decode cX9_copy 35 = .ok (.ifCond .ne 10, 3) := by decide +kernel
theorem dX9_copy_38 : decode cX9_copy 38 = .ok (.aload_n 0, 1) := by decide +kernel
theorem dX9_copy_39 : decode cX9_copy 39 = .ok (.bipush 6, 2) := by decide +kernel
theorem dX9_copy_41 : decode cX9_copy 41 = .ok (.invokevirtual 79, 3) := by decide +kernel
theorem dX9_copy_44 : decode cX9_copy 44 = .ok (.ireturn, 1) := by decide +kernel
theorem dX9_copy_45 : decode cX9_copy 45 = .ok (.aload_n 0, 1) := by decide +kernel
theorem dX9_copy_46 : decode cX9_copy 46 = .ok (.getfield 55, 3) := by decide +kernel
theorem dX9_copy_49 : decode cX9_copy 49 = .ok (.iload_n 1, 1) := by decide +kernel
theorem dX9_copy_50 : decode cX9_copy 50 = .ok (.iaload, 1) := by decide +kernel
theorem dX9_copy_51 : decode cX9_copy 51 = .ok (.aload_n 0, 1) := by decide +kernel
theorem dX9_copy_52 : decode cX9_copy 52 = .ok (.getfield 55, 3) := by decide +kernel
theorem dX9_copy_55 : decode cX9_copy 55 = .ok (.iload_n 3, 1) := by decide +kernel
theorem dX9_copy_56 : decode cX9_copy 56 = .ok (.iaload, 1) := by decide +kernel
theorem dX9_copy_57 : decode cX9_copy 57 = .ok (.if_icmp .eq 9, 3) := by decide +kernel
theorem dX9_copy_60 : decode cX9_copy 60 = .ok (.aload_n 0, 1) := by decide +kernel
theorem dX9_copy_61 : decode cX9_copy 61 = .ok (.iconst 5, 1) := by decide +kernel
theorem dX9_copy_62 : decode cX9_copy 62 = .ok (.invokevirtual 79, 3) := by decide +kernel
theorem dX9_copy_65 : decode cX9_copy 65 = .ok (.ireturn, 1) := by decide +kernel
theorem dX9_copy_66 : decode cX9_copy 66 = .ok (.iload 5, 2) := by decide +kernel
theorem dX9_copy_68 : decode cX9_copy 68 = .ok (.ifCond .lt 39, 3) := by decide +kernel
theorem dX9_copy_71 : decode cX9_copy 71 = .ok (.iload_n 2, 1) := by decide +kernel
theorem dX9_copy_72 : decode cX9_copy 72 = .ok (.ifCond .lt 35, 3) := by decide +kernel
theorem dX9_copy_75 : decode cX9_copy 75 = .ok (.iload 4, 2) := by decide +kernel
theorem dX9_copy_77 : decode cX9_copy 77 = .ok (.ifCond .lt 30, 3) := by decide +kernel
theorem dX9_copy_80 : decode cX9_copy 80 = .ok (.iload 5, 2) := by decide +kernel
theorem dX9_copy_82 : decode cX9_copy 82 = .ok (.aload_n 0, 1) := by decide +kernel
theorem dX9_copy_83 : decode cX9_copy 83 = .ok (.getfield 58, 3) := by decide +kernel
theorem dX9_copy_86 : decode cX9_copy 86 = .ok (.iload_n 1, 1) := by decide +kernel
theorem dX9_copy_87 : decode cX9_copy 87 = .ok (.iaload, 1) := by decide +kernel
theorem dX9_copy_88 : decode cX9_copy 88 = .ok (.iload_n 2, 1) := by decide +kernel
theorem dX9_copy_89 : decode cX9_copy 89 = .ok (.isub, 1) := by decide +kernel
theorem dX9_copy_90 : decode cX9_copy 90 = .ok (.if_icmp .gt 17, 3) := by decide +kernel
theorem dX9_copy_93 : decode cX9_copy 93 = .ok (.iload 5, 2) := by decide +kernel
theorem dX9_copy_95 : decode cX9_copy 95 = .ok (.aload_n 0, 1) := by decide +kernel
theorem dX9_copy_96 : decode cX9_copy 96 = .ok (.getfield 58, 3) := by decide +kernel
theorem dX9_copy_99 : decode cX9_copy 99 = .ok (.iload_n 3, 1) := by decide +kernel
theorem dX9_copy_100 : decode cX9_copy 100 = .ok (.iaload, 1) := by decide +kernel
theorem dX9_copy_101 : decode cX9_copy 101 = .ok (.iload 4, 2) := by decide +kernel
theorem dX9_copy_103 : decode cX9_copy 103 = .ok (.isub, 1) := by decide +kernel
theorem dX9_copy_104 : decode cX9_copy 104 = .ok (.if_icmp .le 9, 3) := by decide +kernel
theorem dX9_copy_107 : decode cX9_copy 107 = .ok (.aload_n 0, 1) := by decide +kernel
theorem dX9_copy_108 : decode cX9_copy 108 = .ok (.iconst 1, 1) := by decide +kernel
theorem dX9_copy_109 : decode cX9_copy 109 = .ok (.invokevirtual 79, 3) := by decide +kernel
theorem dX9_copy_112 : decode cX9_copy 112 = .ok (.ireturn, 1) := by decide +kernel
theorem dX9_copy_113 : decode cX9_copy 113 = .ok (.iconst 0, 1) := by decide +kernel
theorem dX9_copy_114 : decode cX9_copy 114 = .ok (.istore 6, 2) := by decide +kernel
theorem dX9_copy_116 : decode cX9_copy 116 = .ok (.iload 6, 2) := by decide +kernel
theorem dX9_copy_118 : decode cX9_copy 118 = .ok (.iload 5, 2) := by decide +kernel
theorem dX9_copy_120 : decode cX9_copy 120 = .ok (.if_icmp .ge 58, 3) := by decide +kernel
theorem dX9_copy_123 : decode cX9_copy 123 = .ok (.iload_n 2, 1) := by decide +kernel
theorem dX9_copy_124 : decode cX9_copy 124 = .ok (.iload 4, 2) := by decide +kernel
theorem dX9_copy_126 : decode cX9_copy 126 = .ok (.if_icmp .ge 13, 3) := by decide +kernel
theorem dX9_copy_129 : decode cX9_copy 129 = .ok (.iload 5, 2) := by decide +kernel
theorem dX9_copy_131 : decode cX9_copy 131 = .ok (.iconst 1, 1) := by decide +kernel
theorem dX9_copy_132 : decode cX9_copy 132 = .ok (.isub, 1) := by decide +kernel
theorem dX9_copy_133 : decode cX9_copy 133 = .ok (.iload 6, 2) := by decide +kernel
theorem dX9_copy_135 : decode cX9_copy 135 = .ok (.isub, 1) := by decide +kernel
theorem dX9_copy_136 : decode cX9_copy 136 = .ok (.goto 5, 3) := by decide +kernel
theorem dX9_copy_139 : decode cX9_copy 139 = .ok (.iload 6, 2) := by decide +kernel
theorem dX9_copy_141 : decode cX9_copy 141 = .ok (.istore 7, 2) := by decide +kernel
theorem dX9_copy_143 : decode cX9_copy 143 = .ok (.aload_n 0, 1) := by decide +kernel
theorem dX9_copy_144 : decode cX9_copy 144 = .ok (.getfield 61, 3) := by decide +kernel
theorem dX9_copy_147 : decode cX9_copy 147 = .ok (.bipush 24, 2) := by decide +kernel
theorem dX9_copy_149 : decode cX9_copy 149 = .ok (.iload_n 3, 1) := by decide +kernel
theorem dX9_copy_150 : decode cX9_copy 150 = .ok (.imul, 1) := by decide +kernel
theorem dX9_copy_151 : decode cX9_copy 151 = .ok (.iload 4, 2) := by decide +kernel
theorem dX9_copy_153 : decode cX9_copy 153 = .ok (.iadd, 1) := by decide +kernel
theorem dX9_copy_154 : decode cX9_copy 154 = .ok (.iload 7, 2) := by decide +kernel
theorem dX9_copy_156 : decode cX9_copy 156 = .ok (.iadd, 1) := by decide +kernel
theorem dX9_copy_157 : decode cX9_copy 157 = .ok (.aload_n 0, 1) := by decide +kernel
theorem dX9_copy_158 : decode cX9_copy 158 = .ok (.getfield 61, 3) := by decide +kernel
theorem dX9_copy_161 : decode cX9_copy 161 = .ok (.bipush 24, 2) := by decide +kernel
theorem dX9_copy_163 : decode cX9_copy 163 = .ok (.iload_n 1, 1) := by decide +kernel
theorem dX9_copy_164 : decode cX9_copy 164 = .ok (.imul, 1) := by decide +kernel
theorem dX9_copy_165 : decode cX9_copy 165 = .ok (.iload_n 2, 1) := by decide +kernel
theorem dX9_copy_166 : decode cX9_copy 166 = .ok (.iadd, 1) := by decide +kernel
theorem dX9_copy_167 : decode cX9_copy 167 = .ok (.iload 7, 2) := by decide +kernel
theorem dX9_copy_169 : decode cX9_copy 169 = .ok (.iadd, 1) := by decide +kernel
theorem dX9_copy_170 : decode cX9_copy 170 = .ok (.iaload, 1) := by decide +kernel
theorem dX9_copy_171 : decode cX9_copy 171 = .ok (.iastore, 1) := by decide +kernel
theorem dX9_copy_172 : decode cX9_copy 172 = .ok (.iinc 6 1, 3) := by decide +kernel
theorem dX9_copy_175 : decode cX9_copy 175 = .ok (.goto (-59), 3) := by decide +kernel
theorem dX9_copy_178 : decode cX9_copy 178 = .ok (.iload 5, 2) := by decide +kernel
theorem dX9_copy_180 : decode cX9_copy 180 = .ok (.ireturn, 1) := by decide +kernel
theorem dX9_degrees_0 : decode cX9_degrees 0 = .ok (.iload_n 1, 1) := by decide +kernel
theorem dX9_degrees_1 : decode cX9_degrees 1 = .ok (.invokestatic 280, 3) := by decide +kernel
theorem dX9_degrees_4 : decode cX9_degrees 4 = .ok (.ifCond .eq 12, 3) := by decide +kernel
theorem dX9_degrees_7 : decode cX9_degrees 7 = .ok (.iload_n 2, 1) := by decide +kernel
theorem dX9_degrees_8 : decode cX9_degrees 8 = .ok (.iconst 0, 1) := by decide +kernel
theorem dX9_degrees_9 : decode cX9_degrees 9 = .ok (.iconst 2, 1) := by decide +kernel
theorem dX9_degrees_10 : decode cX9_degrees 10 = .ok (.invokestatic 68, 3) := by decide +kernel
theorem dX9_degrees_13 : decode cX9_degrees 13 = .ok (.ifCond .ne 9, 3) := by decide +kernel
theorem dX9_degrees_16 : decode cX9_degrees 16 = .ok (.aload_n 0, 1) := by decide +kernel
theorem dX9_degrees_17 : decode cX9_degrees 17 = .ok (.iconst 1, 1) := by decide +kernel
theorem dX9_degrees_18 : decode cX9_degrees 18 = .ok (.invokevirtual 79, 3) := by decide +kernel
theorem dX9_degrees_21 : decode cX9_degrees 21 = .ok (.ireturn, 1) := by decide +kernel
theorem dX9_degrees_22 : decode cX9_degrees 22 = .ok (.aload_n 0, 1) := by decide +kernel
theorem dX9_degrees_23 : decode cX9_degrees 23 = .ok (.getfield 55, 3) := by decide +kernel
theorem dX9_degrees_26 : decode cX9_degrees 26 = .ok (.iload_n 1, 1) := by decide +kernel
theorem dX9_degrees_27 : decode cX9_degrees 27 = .ok (.iaload, 1) := by decide +kernel
theorem dX9_degrees_28 : decode cX9_degrees 28 = .ok (.ifCond .ne 10, 3) := by decide +kernel
theorem dX9_degrees_31 : decode cX9_degrees 31 = .ok (.aload_n 0, 1) := by decide +kernel
theorem dX9_degrees_32 : decode cX9_degrees 32 = .ok (.bipush 6, 2) := by decide +kernel
theorem dX9_degrees_34 : decode cX9_degrees 34 = .ok (.invokevirtual 79, 3) := by decide +kernel
theorem dX9_degrees_37 : decode cX9_degrees 37 = .ok (.ireturn, 1) := by decide +kernel
theorem dX9_degrees_38 : decode cX9_degrees 38 = .ok (.aload_n 0, 1) := by decide +kernel
theorem dX9_degrees_39 : decode cX9_degrees 39 = .ok (.getfield 58, 3) := by decide +kernel
theorem dX9_degrees_42 : decode cX9_degrees 42 = .ok (.iload_n 1, 1) := by decide +kernel
theorem dX9_degrees_43 : decode cX9_degrees 43 = .ok (.iaload, 1) := by decide +kernel
theorem dX9_degrees_44 : decode cX9_degrees 44 = .ok (.aload_n 0, 1) := by decide +kernel
theorem dX9_degrees_45 : decode cX9_degrees 45 = .ok (.getfield 13, 3) := by decide +kernel
theorem dX9_degrees_48 : decode cX9_degrees 48 = .ok (.if_icmp .ge 12, 3) := by decide +kernel
theorem dX9_degrees_51 : decode cX9_degrees 51 = .ok (.aload_n 0, 1) := by decide +kernel
theorem dX9_degrees_52 : decode cX9_degrees 52 = .ok (.getfield 58, 3) := by decide +kernel
theorem dX9_degrees_55 : decode cX9_degrees 55 = .ok (.iload_n 1, 1) := by decide +kernel
theorem dX9_degrees_56 : decode cX9_degrees 56 = .ok (.iaload, 1) := by decide +kernel
theorem dX9_degrees_57 : decode cX9_degrees 57 = .ok (.goto 7, 3) := by decide +kernel
theorem dX9_degrees_60 : decode cX9_degrees 60 = .ok (.aload_n 0, 1) := by decide +kernel
theorem dX9_degrees_61 : decode cX9_degrees 61 = .ok (.getfield 13, 3) := by decide +kernel
theorem dX9_degrees_64 : decode cX9_degrees 64 = .ok (.istore_n 3, 1) := by decide +kernel
theorem dX9_degrees_65 : decode cX9_degrees 65 = .ok (.iconst 0, 1) := by decide +kernel
theorem dX9_degrees_66 : decode cX9_degrees 66 = .ok (.istore 4, 2) := by decide +kernel
theorem dX9_degrees_68 : decode cX9_degrees 68 = .ok (.iload 4, 2) := by decide +kernel
theorem dX9_degrees_70 : decode cX9_degrees 70 = .ok (.iload_n 3, 1) := by decide +kernel
theorem dX9_degrees_71 : decode cX9_degrees 71 = .ok (.if_icmp .ge 23, 3) := by decide +kernel
theorem dX9_degrees_74 : decode cX9_degrees 74 = .ok (.aload_n 0, 1) := by decide +kernel
theorem dX9_degrees_75 : decode cX9_degrees 75 = .ok (.iload_n 1, 1) := by decide +kernel
theorem dX9_degrees_76 : decode cX9_degrees 76 = .ok (.iload 4, 2) := by decide +kernel
theorem dX9_degrees_78 : decode cX9_degrees 78 = .ok (.aload_n 0, 1) := by decide +kernel
theorem dX9_degrees_79 : decode cX9_degrees 79 = .ok (.iload 4, 2) := by decide +kernel
theorem dX9_degrees_81 : decode cX9_degrees 81 = .ok (.iload_n 2, 1) := by decide +kernel
theorem dX9_degrees_82 : decode cX9_degrees 82 = .ok (.invokevirtual 108, 3) := by decide +kernel
theorem dX9_degrees_85 : decode cX9_degrees 85 = .ok (.invokevirtual 286, 3) := by decide +kernel
theorem dX9_degrees_88 : decode cX9_degrees 88 = .ok (.iinc 4 1, 3) := by decide +kernel
theorem dX9_degrees_91 : decode cX9_degrees 91 = .ok (.goto (-23), 3) := by decide +kernel
theorem dX9_degrees_94 : decode cX9_degrees 94 = .ok (.iload_n 3, 1) := by decide +kernel
theorem dX9_degrees_95 : decode cX9_degrees 95 = .ok (.ireturn, 1) := by decide +kernel
theorem dX9_walks_0 : decode cX9_walks 0 = .ok (.iload_n 1, 1) := by decide +kernel
theorem dX9_walks_1 : decode cX9_walks 1 = .ok (.invokestatic 280, 3) := by decide +kernel
theorem dX9_walks_4 : decode cX9_walks 4 = .ok (.ifCond .eq 12, 3) := by decide +kernel
theorem dX9_walks_7 : decode cX9_walks 7 = .ok (.iload_n 2, 1) := by decide +kernel
theorem dX9_walks_8 : decode cX9_walks 8 = .ok (.iconst 0, 1) := by decide +kernel
theorem dX9_walks_9 : decode cX9_walks 9 = .ok (.iconst 1, 1) := by decide +kernel
theorem dX9_walks_10 : decode cX9_walks 10 = .ok (.invokestatic 68, 3) := by decide +kernel
theorem dX9_walks_13 : decode cX9_walks 13 = .ok (.ifCond .ne 9, 3) := by decide +kernel
theorem dX9_walks_16 : decode cX9_walks 16 = .ok (.aload_n 0, 1) := by decide +kernel
theorem dX9_walks_17 : decode cX9_walks 17 = .ok (.iconst 1, 1) := by decide +kernel
theorem dX9_walks_18 : decode cX9_walks 18 = .ok (.invokevirtual 79, 3) := by decide +kernel
theorem dX9_walks_21 : decode cX9_walks 21 = .ok (.ireturn, 1) := by decide +kernel
theorem dX9_walks_22 : decode cX9_walks 22 = .ok (.aload_n 0, 1) := by decide +kernel
theorem dX9_walks_23 : decode cX9_walks 23 = .ok (.getfield 55, 3) := by decide +kernel
theorem dX9_walks_26 : decode cX9_walks 26 = .ok (.iload_n 1, 1) := by decide +kernel
theorem dX9_walks_27 : decode cX9_walks 27 = .ok (.iaload, 1) := by decide +kernel
theorem dX9_walks_28 : decode cX9_walks 28 = .ok (.ifCond .ne 10, 3) := by decide +kernel
theorem dX9_walks_31 : decode cX9_walks 31 = .ok (.aload_n 0, 1) := by decide +kernel
theorem dX9_walks_32 : decode cX9_walks 32 = .ok (.bipush 6, 2) := by decide +kernel
theorem dX9_walks_34 : decode cX9_walks 34 = .ok (.invokevirtual 79, 3) := by decide +kernel
theorem dX9_walks_37 : decode cX9_walks 37 = .ok (.ireturn, 1) := by decide +kernel
theorem dX9_walks_38 : decode cX9_walks 38 = .ok (.aload_n 0, 1) := by decide +kernel
theorem dX9_walks_39 : decode cX9_walks 39 = .ok (.getfield 75, 3) := by decide +kernel
theorem dX9_walks_42 : decode cX9_walks 42 = .ok (.ifCond .ne 9, 3) := by decide +kernel
theorem dX9_walks_45 : decode cX9_walks 45 = .ok (.aload_n 0, 1) := by decide +kernel
theorem dX9_walks_46 : decode cX9_walks 46 = .ok (.iconst 3, 1) := by decide +kernel
theorem dX9_walks_47 : decode cX9_walks 47 = .ok (.invokevirtual 79, 3) := by decide +kernel
theorem dX9_walks_50 : decode cX9_walks 50 = .ok (.ireturn, 1) := by decide +kernel
theorem dX9_walks_51 : decode cX9_walks 51 = .ok (.aload_n 0, 1) := by decide +kernel
theorem dX9_walks_52 : decode cX9_walks 52 = .ok (.getfield 200, 3) := by decide +kernel
theorem dX9_walks_55 : decode cX9_walks 55 = .ok (.istore_n 3, 1) := by decide +kernel
theorem dX9_walks_56 : decode cX9_walks 56 = .ok (.iconst 0, 1) := by decide +kernel
theorem dX9_walks_57 : decode cX9_walks 57 = .ok (.istore 4, 2) := by decide +kernel
theorem dX9_walks_59 : decode cX9_walks 59 = .ok (.iload 4, 2) := by decide +kernel
theorem dX9_walks_61 : decode cX9_walks 61 = .ok (.aload_n 0, 1) := by decide +kernel
theorem dX9_walks_62 : decode cX9_walks 62 = .ok (.getfield 58, 3) := by decide +kernel
theorem dX9_walks_65 : decode cX9_walks 65 = .ok (.iload_n 1, 1) := by decide +kernel
theorem dX9_walks_66 : decode cX9_walks 66 = .ok (.iaload, 1) := by decide +kernel
theorem dX9_walks_67 : decode cX9_walks 67 = .ok (.if_icmp .ge 66, 3) := by decide +kernel
theorem dX9_walks_70 : decode cX9_walks 70 = .ok (.aload_n 0, 1) := by decide +kernel
theorem dX9_walks_71 : decode cX9_walks 71 = .ok (.aload_n 0, 1) := by decide +kernel
theorem dX9_walks_72 : decode cX9_walks 72 = .ok (.getfield 61, 3) := by decide +kernel
theorem dX9_walks_75 : decode cX9_walks 75 = .ok (.bipush 24, 2) := by decide +kernel
theorem dX9_walks_77 : decode cX9_walks 77 = .ok (.iload_n 1, 1) := by decide +kernel
theorem dX9_walks_78 : decode cX9_walks 78 = .ok (.imul, 1) := by decide +kernel
theorem dX9_walks_79 : decode cX9_walks 79 = .ok (.iload 4, 2) := by decide +kernel
theorem dX9_walks_81 : decode cX9_walks 81 = .ok (.iadd, 1) := by decide +kernel
theorem dX9_walks_82 : decode cX9_walks 82 = .ok (.iaload, 1) := by decide +kernel
theorem dX9_walks_83 : decode cX9_walks 83 = .ok (.invokevirtual 94, 3) := by decide +kernel
theorem dX9_walks_86 : decode cX9_walks 86 = .ok (.ifCond .eq 47, 3) := by decide +kernel
theorem dX9_walks_89 : decode cX9_walks 89 = .ok (.aload_n 0, 1) := by decide +kernel
theorem dX9_walks_90 : decode cX9_walks 90 = .ok (.invokevirtual 191, 3) := by decide +kernel
theorem dX9_walks_93 : decode cX9_walks 93 = .ok (.aload_n 0, 1) := by decide +kernel
theorem dX9_walks_94 : decode cX9_walks 94 = .ok (.getfield 61, 3) := by decide +kernel
theorem dX9_walks_97 : decode cX9_walks 97 = .ok (.bipush 24, 2) := by decide +kernel
theorem dX9_walks_99 : decode cX9_walks 99 = .ok (.iload_n 1, 1) := by decide +kernel
theorem dX9_walks_100 : decode cX9_walks 100 = .ok (.imul, 1) := by decide +kernel
theorem dX9_walks_101 : decode cX9_walks 101 = .ok (.iload 4, 2) := by decide +kernel
theorem dX9_walks_103 : decode cX9_walks 103 = .ok (.iadd, 1) := by decide +kernel
theorem dX9_walks_104 : decode cX9_walks 104 = .ok (.iaload, 1) := by decide +kernel
theorem dX9_walks_105 : decode cX9_walks 105 = .ok (.invokestatic 114, 3) := by decide +kernel
theorem dX9_walks_108 : decode cX9_walks 108 = .ok (.ifCond .eq 25, 3) := by decide +kernel
theorem dX9_walks_111 : decode cX9_walks 111 = .ok (.aload_n 0, 1) := by decide +kernel
theorem dX9_walks_112 : decode cX9_walks 112 = .ok (.aload_n 0, 1) := by decide +kernel
theorem dX9_walks_113 : decode cX9_walks 113 = .ok (.getfield 61, 3) := by decide +kernel
theorem dX9_walks_116 : decode cX9_walks 116 = .ok (.bipush 24, 2) := by decide +kernel
theorem dX9_walks_118 : decode cX9_walks 118 = .ok (.iload_n 1, 1) := by decide +kernel
theorem dX9_walks_119 : decode cX9_walks 119 = .ok (.imul, 1) := by decide +kernel
theorem dX9_walks_120 : decode cX9_walks 120 = .ok (.iload 4, 2) := by decide +kernel
theorem dX9_walks_122 : decode cX9_walks 122 = .ok (.iadd, 1) := by decide +kernel
theorem dX9_walks_123 : decode cX9_walks 123 = .ok (.iaload, 1) := by decide +kernel
theorem dX9_walks_124 : decode cX9_walks 124 = .ok (.invokevirtual 210, 3) := by decide +kernel
theorem dX9_walks_127 : decode cX9_walks 127 = .ok (.iinc 4 1, 3) := by decide +kernel
theorem dX9_walks_130 : decode cX9_walks 130 = .ok (.goto (-71), 3) := by decide +kernel
theorem dX9_walks_133 : decode cX9_walks 133 = .ok (.aload_n 0, 1) := by decide +kernel
theorem dX9_walks_134 : decode cX9_walks 134 = .ok (.aload_n 0, 1) := by decide +kernel
theorem dX9_walks_135 : decode cX9_walks 135 = .ok (.getfield 182, 3) := by decide +kernel
theorem dX9_walks_138 : decode cX9_walks 138 = .ok (.aload_n 0, 1) := by decide +kernel
theorem dX9_walks_139 : decode cX9_walks 139 = .ok (.invokevirtual 185, 3) := by decide +kernel
theorem dX9_walks_142 : decode cX9_walks 142 = .ok (.invokevirtual 194, 3) := by decide +kernel
theorem dX9_walks_145 : decode cX9_walks 145 = .ok (.istore 5, 2) := by decide +kernel
theorem dX9_walks_147 : decode cX9_walks 147 = .ok (.aload_n 0, 1) := by decide +kernel
theorem dX9_walks_148 : decode cX9_walks 148 = .ok (.getfield 200, 3) := by decide +kernel
theorem dX9_walks_151 : decode cX9_walks 151 = .ok (.iload_n 3, 1) := by decide +kernel
theorem dX9_walks_152 : decode cX9_walks 152 = .ok (.if_icmp .le 10, 3) := by decide +kernel
theorem dX9_walks_155 : decode cX9_walks 155 = .ok (.aload_n 0, 1) := by decide +kernel
theorem dX9_walks_156 : decode cX9_walks 156 = .ok (.invokevirtual 214, 3) := by decide +kernel
theorem dX9_walks_159 : decode cX9_walks 159 = .ok (.goto (-12), 3) := by decide +kernel
theorem dX9_walks_162 : decode cX9_walks 162 = .ok (.iload_n 2, 1) := by decide +kernel
theorem dX9_walks_163 : decode cX9_walks 163 = .ok (.ifCond .ne 8, 3) := by decide +kernel
theorem dX9_walks_166 : decode cX9_walks 166 = .ok (.iload 4, 2) := by decide +kernel
theorem dX9_walks_168 : decode cX9_walks 168 = .ok (.goto 13, 3) := by decide +kernel
theorem dX9_walks_171 : decode cX9_walks 171 = .ok (.iload 5, 2) := by decide +kernel
theorem dX9_walks_173 : decode cX9_walks 173 = .ok (.ifCond .eq 7, 3) := by decide +kernel
theorem dX9_walks_176 : decode cX9_walks 176 = .ok (.iconst 1, 1) := by decide +kernel
theorem dX9_walks_177 : decode cX9_walks 177 = .ok (.goto 4, 3) := by decide +kernel
theorem dX9_walks_180 : decode cX9_walks 180 = .ok (.iconst 0, 1) := by decide +kernel
theorem dX9_walks_181 : decode cX9_walks 181 = .ok (.ireturn, 1) := by decide +kernel
theorem dX9_seed_0 : decode cX9_seed 0 = .ok (.aload_n 0, 1) := by decide +kernel
theorem dX9_seed_1 : decode cX9_seed 1 = .ok (.getfield 32, 3) := by decide +kernel
theorem dX9_seed_4 : decode cX9_seed 4 = .ok (.istore_n 2, 1) := by decide +kernel
theorem dX9_seed_5 : decode cX9_seed 5 = .ok (.aload_n 0, 1) := by decide +kernel
theorem dX9_seed_6 : decode cX9_seed 6 = .ok (.iload_n 1, 1) := by decide +kernel
theorem dX9_seed_7 : decode cX9_seed 7 = .ok (.putfield 32, 3) := by decide +kernel
theorem dX9_seed_10 : decode cX9_seed 10 = .ok (.iload_n 2, 1) := by decide +kernel
theorem dX9_seed_11 : decode cX9_seed 11 = .ok (.ireturn, 1) := by decide +kernel
theorem dX9_image_0 : decode cX9_image 0 = .ok (.aload_n 0, 1) := by decide +kernel
theorem dX9_image_1 : decode cX9_image 1 = .ok (.iconst 1, 1) := by decide +kernel
theorem dX9_image_2 : decode cX9_image 2 = .ok (.putfield 289, 3) := by decide +kernel
theorem dX9_image_5 : decode cX9_image 5 = .ok (.aload_n 0, 1) := by decide +kernel
theorem dX9_image_6 : decode cX9_image 6 = .ok (.getfield 64, 3) := by decide +kernel
theorem dX9_image_9 : decode cX9_image 9 = .ok (.iconst 0, 1) := by decide +kernel
theorem dX9_image_10 : decode cX9_image 10 = .ok (.aload_n 0, 1) := by decide +kernel
theorem dX9_image_11 : decode cX9_image 11 = .ok (.getfield 13, 3) := by decide +kernel
theorem dX9_image_14 : decode cX9_image 14 = .ok (.iastore, 1) := by decide +kernel
theorem dX9_image_15 : decode cX9_image 15 = .ok (.aload_n 0, 1) := by decide +kernel
theorem dX9_image_16 : decode cX9_image 16 = .ok (.getfield 64, 3) := by decide +kernel
theorem dX9_image_19 : decode cX9_image 19 = .ok (.iconst 1, 1) := by decide +kernel
theorem dX9_image_20 : decode cX9_image 20 = .ok (.aload_n 0, 1) := by decide +kernel
theorem dX9_image_21 : decode cX9_image 21 = .ok (.getfield 72, 3) := by decide +kernel
theorem dX9_image_24 : decode cX9_image 24 = .ok (.iastore, 1) := by decide +kernel
theorem dX9_image_25 : decode cX9_image 25 = .ok (.aload_n 0, 1) := by decide +kernel
theorem dX9_image_26 : decode cX9_image 26 = .ok (.getfield 64, 3) := by decide +kernel
theorem dX9_image_29 : decode cX9_image 29 = .ok (.iconst 2, 1) := by decide +kernel
theorem dX9_image_30 : decode cX9_image 30 = .ok (.aload_n 0, 1) := by decide +kernel
theorem dX9_image_31 : decode cX9_image 31 = .ok (.getfield 32, 3) := by decide +kernel
theorem dX9_image_34 : decode cX9_image 34 = .ok (.iastore, 1) := by decide +kernel
theorem dX9_image_35 : decode cX9_image 35 = .ok (.iconst 0, 1) := by decide +kernel
theorem dX9_image_36 : decode cX9_image 36 = .ok (.istore_n 1, 1) := by decide +kernel
theorem dX9_image_37 : decode cX9_image 37 = .ok (.iload_n 1, 1) := by decide +kernel
theorem dX9_image_38 : decode cX9_image 38 = .ok (.bipush 12, 2) := by decide +kernel
theorem dX9_image_40 : decode cX9_image 40 = .ok (.if_icmp .ge 57, 3) := by decide +kernel
theorem dX9_image_43 : decode cX9_image 43 = .ok (.aload_n 0, 1) := by decide +kernel
theorem dX9_image_44 : decode cX9_image 44 = .ok (.getfield 64, 3) := by decide +kernel
theorem dX9_image_47 : decode cX9_image 47 = .ok (.iconst 3, 1) := by decide +kernel
theorem dX9_image_48 : decode cX9_image 48 = .ok (.iconst 3, 1) := by decide +kernel
theorem dX9_image_49 : decode cX9_image 49 = .ok (.iload_n 1, 1) := by decide +kernel
theorem dX9_image_50 : decode cX9_image 50 = .ok (.imul, 1) := by decide +kernel
theorem dX9_image_51 : decode cX9_image 51 = .ok (.iadd, 1) := by decide +kernel
theorem dX9_image_52 : decode cX9_image 52 = .ok (.aload_n 0, 1) := by decide +kernel
theorem dX9_image_53 : decode cX9_image 53 = .ok (.getfield 17, 3) := by decide +kernel
theorem dX9_image_56 : decode cX9_image 56 = .ok (.iload_n 1, 1) := by decide +kernel
theorem dX9_image_57 : decode cX9_image 57 = .ok (.iaload, 1) := by decide +kernel
theorem dX9_image_58 : decode cX9_image 58 = .ok (.iastore, 1) := by decide +kernel
theorem dX9_image_59 : decode cX9_image 59 = .ok (.aload_n 0, 1) := by decide +kernel
theorem dX9_image_60 : decode cX9_image 60 = .ok (.getfield 64, 3) := by decide +kernel
theorem dX9_image_63 : decode cX9_image 63 = .ok (.iconst 4, 1) := by decide +kernel
theorem dX9_image_64 : decode cX9_image 64 = .ok (.iconst 3, 1) := by decide +kernel
theorem dX9_image_65 : decode cX9_image 65 = .ok (.iload_n 1, 1) := by decide +kernel
theorem dX9_image_66 : decode cX9_image 66 = .ok (.imul, 1) := by decide +kernel
theorem dX9_image_67 : decode cX9_image 67 = .ok (.iadd, 1) := by decide +kernel
theorem dX9_image_68 : decode cX9_image 68 = .ok (.aload_n 0, 1) := by decide +kernel
theorem dX9_image_69 : decode cX9_image 69 = .ok (.getfield 20, 3) := by decide +kernel
theorem dX9_image_72 : decode cX9_image 72 = .ok (.iload_n 1, 1) := by decide +kernel
theorem dX9_image_73 : decode cX9_image 73 = .ok (.iaload, 1) := by decide +kernel
theorem dX9_image_74 : decode cX9_image 74 = .ok (.iastore, 1) := by decide +kernel
theorem dX9_image_75 : decode cX9_image 75 = .ok (.aload_n 0, 1) := by decide +kernel
theorem dX9_image_76 : decode cX9_image 76 = .ok (.getfield 64, 3) := by decide +kernel
theorem dX9_image_79 : decode cX9_image 79 = .ok (.iconst 5, 1) := by decide +kernel
theorem dX9_image_80 : decode cX9_image 80 = .ok (.iconst 3, 1) := by decide +kernel
theorem dX9_image_81 : decode cX9_image 81 = .ok (.iload_n 1, 1) := by decide +kernel
theorem dX9_image_82 : decode cX9_image 82 = .ok (.imul, 1) := by decide +kernel
theorem dX9_image_83 : decode cX9_image 83 = .ok (.iadd, 1) := by decide +kernel
theorem dX9_image_84 : decode cX9_image 84 = .ok (.aload_n 0, 1) := by decide +kernel
theorem dX9_image_85 : decode cX9_image 85 = .ok (.getfield 23, 3) := by decide +kernel
theorem dX9_image_88 : decode cX9_image 88 = .ok (.iload_n 1, 1) := by decide +kernel
theorem dX9_image_89 : decode cX9_image 89 = .ok (.iaload, 1) := by decide +kernel
theorem dX9_image_90 : decode cX9_image 90 = .ok (.iastore, 1) := by decide +kernel
theorem dX9_image_91 : decode cX9_image 91 = .ok (.iinc 1 1, 3) := by decide +kernel
theorem dX9_image_94 : decode cX9_image 94 = .ok (.goto (-57), 3) := by decide +kernel
theorem dX9_image_97 : decode cX9_image 97 = .ok (.aload_n 0, 1) := by decide +kernel
theorem dX9_image_98 : decode cX9_image 98 = .ok (.getfield 72, 3) := by decide +kernel
theorem dX9_image_101 : decode cX9_image 101 = .ok (.ireturn, 1) := by decide +kernel
theorem dX9_restore_0 : decode cX9_restore 0 = .ok (.aload_n 0, 1) := by decide +kernel
theorem dX9_restore_1 : decode cX9_restore 1 = .ok (.getfield 289, 3) := by decide +kernel
theorem dX9_restore_4 : decode cX9_restore 4 = .ok (.ifCond .ne 9, 3) := by decide +kernel
theorem dX9_restore_7 : decode cX9_restore 7 = .ok (.aload_n 0, 1) := by decide +kernel
theorem dX9_restore_8 : decode cX9_restore 8 = .ok (.iconst 2, 1) := by decide +kernel
theorem dX9_restore_9 : decode cX9_restore 9 = .ok (.invokevirtual 79, 3) := by decide +kernel
theorem dX9_restore_12 : decode cX9_restore 12 = .ok (.ireturn, 1) := by decide +kernel
theorem dX9_restore_13 : decode cX9_restore 13 = .ok (.aload_n 0, 1) := by decide +kernel
theorem dX9_restore_14 : decode cX9_restore 14 = .ok (.aload_n 0, 1) := by decide +kernel
theorem dX9_restore_15 : decode cX9_restore 15 = .ok (.getfield 64, 3) := by decide +kernel
theorem dX9_restore_18 : decode cX9_restore 18 = .ok (.iconst 0, 1) := by decide +kernel
theorem dX9_restore_19 : decode cX9_restore 19 = .ok (.iaload, 1) := by decide +kernel
theorem dX9_restore_20 : decode cX9_restore 20 = .ok (.putfield 13, 3) := by decide +kernel
theorem dX9_restore_23 : decode cX9_restore 23 = .ok (.aload_n 0, 1) := by decide +kernel
theorem dX9_restore_24 : decode cX9_restore 24 = .ok (.aload_n 0, 1) := by decide +kernel
theorem dX9_restore_25 : decode cX9_restore 25 = .ok (.getfield 64, 3) := by decide +kernel
theorem dX9_restore_28 : decode cX9_restore 28 = .ok (.iconst 1, 1) := by decide +kernel
theorem dX9_restore_29 : decode cX9_restore 29 = .ok (.iaload, 1) := by decide +kernel
theorem dX9_restore_30 : decode cX9_restore 30 = .ok (.putfield 72, 3) := by decide +kernel
theorem dX9_restore_33 : decode cX9_restore 33 = .ok (.aload_n 0, 1) := by decide +kernel
theorem dX9_restore_34 : decode cX9_restore 34 = .ok (.aload_n 0, 1) := by decide +kernel
theorem dX9_restore_35 : decode cX9_restore 35 = .ok (.getfield 64, 3) := by decide +kernel
theorem dX9_restore_38 : decode cX9_restore 38 = .ok (.iconst 2, 1) := by decide +kernel
theorem dX9_restore_39 : decode cX9_restore 39 = .ok (.iaload, 1) := by decide +kernel
theorem dX9_restore_40 : decode cX9_restore 40 = .ok (.putfield 32, 3) := by decide +kernel
theorem dX9_restore_43 : decode cX9_restore 43 = .ok (.iconst 0, 1) := by decide +kernel
theorem dX9_restore_44 : decode cX9_restore 44 = .ok (.istore_n 1, 1) := by decide +kernel
theorem dX9_restore_45 : decode cX9_restore 45 = .ok (.iload_n 1, 1) := by decide +kernel
theorem dX9_restore_46 : decode cX9_restore 46 = .ok (.bipush 12, 2) := by decide +kernel
theorem dX9_restore_48 : decode cX9_restore 48 = .ok (.if_icmp .ge 57, 3) := by decide +kernel
theorem dX9_restore_51 : decode cX9_restore 51 = .ok (.aload_n 0, 1) := by decide +kernel
theorem dX9_restore_52 : decode cX9_restore 52 = .ok (.getfield 17, 3) := by decide +kernel
theorem dX9_restore_55 : decode cX9_restore 55 = .ok (.iload_n 1, 1) := by decide +kernel
theorem dX9_restore_56 : decode cX9_restore 56 = .ok (.aload_n 0, 1) := by decide +kernel
theorem dX9_restore_57 : decode cX9_restore 57 = .ok (.getfield 64, 3) := by decide +kernel
theorem dX9_restore_60 : decode cX9_restore 60 = .ok (.iconst 3, 1) := by decide +kernel
theorem dX9_restore_61 : decode cX9_restore 61 = .ok (.iconst 3, 1) := by decide +kernel
theorem dX9_restore_62 : decode cX9_restore 62 = .ok (.iload_n 1, 1) := by decide +kernel
theorem dX9_restore_63 : decode cX9_restore 63 = .ok (.imul, 1) := by decide +kernel
theorem dX9_restore_64 : decode cX9_restore 64 = .ok (.iadd, 1) := by decide +kernel
theorem dX9_restore_65 : decode cX9_restore 65 = .ok (.iaload, 1) := by decide +kernel
theorem dX9_restore_66 : decode cX9_restore 66 = .ok (.iastore, 1) := by decide +kernel
theorem dX9_restore_67 : decode cX9_restore 67 = .ok (.aload_n 0, 1) := by decide +kernel
theorem dX9_restore_68 : decode cX9_restore 68 = .ok (.getfield 20, 3) := by decide +kernel
theorem dX9_restore_71 : decode cX9_restore 71 = .ok (.iload_n 1, 1) := by decide +kernel
theorem dX9_restore_72 : decode cX9_restore 72 = .ok (.aload_n 0, 1) := by decide +kernel
theorem dX9_restore_73 : decode cX9_restore 73 = .ok (.getfield 64, 3) := by decide +kernel
theorem dX9_restore_76 : decode cX9_restore 76 = .ok (.iconst 4, 1) := by decide +kernel
theorem dX9_restore_77 : decode cX9_restore 77 = .ok (.iconst 3, 1) := by decide +kernel
theorem dX9_restore_78 : decode cX9_restore 78 = .ok (.iload_n 1, 1) := by decide +kernel
theorem dX9_restore_79 : decode cX9_restore 79 = .ok (.imul, 1) := by decide +kernel
theorem dX9_restore_80 : decode cX9_restore 80 = .ok (.iadd, 1) := by decide +kernel
theorem dX9_restore_81 : decode cX9_restore 81 = .ok (.iaload, 1) := by decide +kernel
theorem dX9_restore_82 : decode cX9_restore 82 = .ok (.iastore, 1) := by decide +kernel
theorem dX9_restore_83 : decode cX9_restore 83 = .ok (.aload_n 0, 1) := by decide +kernel
theorem dX9_restore_84 : decode cX9_restore 84 = .ok (.getfield 23, 3) := by decide +kernel
theorem dX9_restore_87 : decode cX9_restore 87 = .ok (.iload_n 1, 1) := by decide +kernel
theorem dX9_restore_88 : decode cX9_restore 88 = .ok (.aload_n 0, 1) := by decide +kernel
theorem dX9_restore_89 : decode cX9_restore 89 = .ok (.getfield 64, 3) := by decide +kernel
theorem dX9_restore_92 : decode cX9_restore 92 = .ok (.iconst 5, 1) := by decide +kernel
theorem dX9_restore_93 : decode cX9_restore 93 = .ok (.iconst 3, 1) := by decide +kernel
theorem dX9_restore_94 : decode cX9_restore 94 = .ok (.iload_n 1, 1) := by decide +kernel
theorem dX9_restore_95 : decode cX9_restore 95 = .ok (.imul, 1) := by decide +kernel
theorem dX9_restore_96 : decode cX9_restore 96 = .ok (.iadd, 1) := by decide +kernel
theorem dX9_restore_97 : decode cX9_restore 97 = .ok (.iaload, 1) := by decide +kernel
theorem dX9_restore_98 : decode cX9_restore 98 = .ok (.iastore, 1) := by decide +kernel
theorem dX9_restore_99 : decode cX9_restore 99 = .ok (.iinc 1 1, 3) := by decide +kernel
theorem dX9_restore_102 : decode cX9_restore 102 = .ok (.goto (-57), 3) := by decide +kernel
theorem dX9_restore_105 : decode cX9_restore 105 = .ok (.aload_n 0, 1) := by decide +kernel
theorem dX9_restore_106 : decode cX9_restore 106 = .ok (.invokevirtual 83, 3) := by decide +kernel
theorem dX9_restore_109 : decode cX9_restore 109 = .ok (.aload_n 0, 1) := by decide +kernel
theorem dX9_restore_110 : decode cX9_restore 110 = .ok (.getfield 72, 3) := by decide +kernel
theorem dX9_restore_113 : decode cX9_restore 113 = .ok (.ireturn, 1) := by decide +kernel
theorem dX9_sheetsThere_0 : decode cX9_sheetsThere 0 = .ok (.iconst 0, 1) := by decide +kernel
theorem dX9_sheetsThere_1 : decode cX9_sheetsThere 1 = .ok (.istore_n 1, 1) := by decide +kernel
theorem dX9_sheetsThere_2 : decode cX9_sheetsThere 2 = .ok (.iconst 0, 1) := by decide +kernel
theorem dX9_sheetsThere_3 : decode cX9_sheetsThere 3 = .ok (.istore_n 2, 1) := by decide +kernel
theorem dX9_sheetsThere_4 : decode cX9_sheetsThere 4 = .ok (.iload_n 2, 1) := by decide +kernel
theorem dX9_sheetsThere_5 : decode cX9_sheetsThere 5 = .ok (.iconst 4, 1) := by decide +kernel
theorem dX9_sheetsThere_6 : decode cX9_sheetsThere 6 = .ok (.if_icmp .ge 26, 3) := by decide +kernel
theorem dX9_sheetsThere_9 : decode cX9_sheetsThere 9 = .ok (.iload_n 1, 1) := by decide +kernel
theorem dX9_sheetsThere_10 : decode cX9_sheetsThere 10 = .ok (.aload_n 0, 1) := by decide +kernel
theorem dX9_sheetsThere_11 : decode cX9_sheetsThere 11 = .ok (.getfield 55, 3) := by decide +kernel
theorem dX9_sheetsThere_14 : decode cX9_sheetsThere 14 = .ok (.iload_n 2, 1) := by decide +kernel
theorem dX9_sheetsThere_15 : decode cX9_sheetsThere 15 = .ok (.iaload, 1) := by decide +kernel
theorem dX9_sheetsThere_16 : decode cX9_sheetsThere 16 = .ok (.ifCond .ne 7, 3) := by decide +kernel
theorem dX9_sheetsThere_19 : decode cX9_sheetsThere 19 = .ok (.iconst 0, 1) := by decide +kernel
theorem dX9_sheetsThere_20 : decode cX9_sheetsThere 20 = .ok (.goto 4, 3) := by decide +kernel
theorem dX9_sheetsThere_23 : decode cX9_sheetsThere 23 = .ok (.iconst 1, 1) := by decide +kernel
theorem dX9_sheetsThere_24 : decode cX9_sheetsThere 24 = .ok (.iadd, 1) := by decide +kernel
theorem dX9_sheetsThere_25 : decode cX9_sheetsThere 25 = .ok (.istore_n 1, 1) := by decide +kernel
theorem dX9_sheetsThere_26 : decode cX9_sheetsThere 26 = .ok (.iinc 2 1, 3) := by decide +kernel
theorem dX9_sheetsThere_29 : decode cX9_sheetsThere 29 = .ok (.goto (-25), 3) := by decide +kernel
theorem dX9_sheetsThere_32 : decode cX9_sheetsThere 32 = .ok (.iload_n 1, 1) := by decide +kernel
theorem dX9_sheetsThere_33 : decode cX9_sheetsThere 33 = .ok (.ireturn, 1) := by decide +kernel
theorem dX9_count_0 : decode cX9_count 0 = .ok (.iload_n 1, 1) := by decide +kernel
theorem dX9_count_1 : decode cX9_count 1 = .ok (.tableswitch 77 0 5 #[39, 44, 49, 54, 67, 72], 39) := by decide +kernel
theorem dX9_count_40 : decode cX9_count 40 = .ok (.aload_n 0, 1) := by decide +kernel
theorem dX9_count_41 : decode cX9_count 41 = .ok (.getfield 13, 3) := by decide +kernel
theorem dX9_count_44 : decode cX9_count 44 = .ok (.ireturn, 1) := by decide +kernel
theorem dX9_count_45 : decode cX9_count 45 = .ok (.aload_n 0, 1) := by decide +kernel
theorem dX9_count_46 : decode cX9_count 46 = .ok (.getfield 72, 3) := by decide +kernel
theorem dX9_count_49 : decode cX9_count 49 = .ok (.ireturn, 1) := by decide +kernel
theorem dX9_count_50 : decode cX9_count 50 = .ok (.aload_n 0, 1) := by decide +kernel
theorem dX9_count_51 : decode cX9_count 51 = .ok (.getfield 139, 3) := by decide +kernel
theorem dX9_count_54 : decode cX9_count 54 = .ok (.ireturn, 1) := by decide +kernel
theorem dX9_count_55 : decode cX9_count 55 = .ok (.aload_n 0, 1) := by decide +kernel
theorem dX9_count_56 : decode cX9_count 56 = .ok (.getfield 75, 3) := by decide +kernel
theorem dX9_count_59 : decode cX9_count 59 = .ok (.ifCond .eq 7, 3) := by decide +kernel
theorem dX9_count_62 : decode cX9_count 62 = .ok (.iconst 1, 1) := by decide +kernel
theorem dX9_count_63 : decode cX9_count 63 = .ok (.goto 4, 3) := by decide +kernel
theorem dX9_count_66 : decode cX9_count 66 = .ok (.iconst 0, 1) := by decide +kernel
theorem dX9_count_67 : decode cX9_count 67 = .ok (.ireturn, 1) := by decide +kernel
theorem dX9_count_68 : decode cX9_count 68 = .ok (.aload_n 0, 1) := by decide +kernel
theorem dX9_count_69 : decode cX9_count 69 = .ok (.getfield 32, 3) := by decide +kernel
theorem dX9_count_72 : decode cX9_count 72 = .ok (.ireturn, 1) := by decide +kernel
theorem dX9_count_73 : decode cX9_count 73 = .ok (.aload_n 0, 1) := by decide +kernel
theorem dX9_count_74 : decode cX9_count 74 = .ok (.invokevirtual 292, 3) := by decide +kernel
theorem dX9_count_77 : decode cX9_count 77 = .ok (.ireturn, 1) := by decide +kernel
theorem dX9_count_78 : decode cX9_count 78 = .ok (.aload_n 0, 1) := by decide +kernel
theorem dX9_count_79 : decode cX9_count 79 = .ok (.iconst 1, 1) := by decide +kernel
theorem dX9_count_80 : decode cX9_count 80 = .ok (.invokevirtual 79, 3) := by decide +kernel
theorem dX9_count_83 : decode cX9_count 83 = .ok (.ireturn, 1) := by decide +kernel
theorem dX9_told_0 : decode cX9_told 0 = .ok (.iload_n 1, 1) := by decide +kernel
theorem dX9_told_1 : decode cX9_told 1 = .ok (.iconst 1, 1) := by decide +kernel
theorem dX9_told_2 : decode cX9_told 2 = .ok (.bipush 6, 2) := by decide +kernel
theorem dX9_told_4 : decode cX9_told 4 = .ok (.invokestatic 68, 3) := by decide +kernel
theorem dX9_told_7 : decode cX9_told 7 = .ok (.ifCond .eq 12, 3) := by decide +kernel
theorem dX9_told_10 : decode cX9_told 10 = .ok (.aload_n 0, 1) := by decide +kernel
theorem dX9_told_11 : decode cX9_told 11 = .ok (.getfield 7, 3) := by decide +kernel
theorem dX9_told_14 : decode cX9_told 14 = .ok (.iload_n 1, 1) := by decide +kernel
theorem dX9_told_15 : decode cX9_told 15 = .ok (.iaload, 1) := by decide +kernel
theorem dX9_told_16 : decode cX9_told 16 = .ok (.goto 8, 3) := by decide +kernel
theorem dX9_told_19 : decode cX9_told 19 = .ok (.aload_n 0, 1) := by decide +kernel
theorem dX9_told_20 : decode cX9_told 20 = .ok (.iconst 1, 1) := by decide +kernel
theorem dX9_told_21 : decode cX9_told 21 = .ok (.invokevirtual 79, 3) := by decide +kernel
theorem dX9_told_24 : decode cX9_told 24 = .ok (.ireturn, 1) := by decide +kernel
