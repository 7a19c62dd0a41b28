theorem dX0_init_0 : decode cX0_init 0 = .ok (.aload_n 0, 1) := by decide +kernel
theorem dX0_init_1 : decode cX0_init 1 = .ok (.invokespecial 3, 3) := by decide +kernel
theorem dX0_init_4 : decode cX0_init 4 = .ok (.aload_n 0, 1) := by decide +kernel
theorem dX0_init_5 : decode cX0_init 5 = .ok (.bipush 12, 2) := by decide +kernel
theorem dX0_init_7 : decode cX0_init 7 = .ok (.newarray .int, 2) := by decide +kernel
theorem dX0_init_9 : decode cX0_init 9 = .ok (.putfield 9, 3) := by decide +kernel
theorem dX0_init_12 : decode cX0_init 12 = .ok (.aload_n 0, 1) := by decide +kernel
theorem dX0_init_13 : decode cX0_init 13 = .ok (.bipush 13, 2) := by decide +kernel
theorem dX0_init_15 : decode cX0_init 15 = .ok (.newarray .int, 2) := by decide +kernel
theorem dX0_init_17 : decode cX0_init 17 = .ok (.putfield 15, 3) := by decide +kernel
theorem dX0_init_20 : decode cX0_init 20 = .ok (.return_, 1) := by decide +kernel
theorem dX0_start_0 : decode cX0_start 0 = .ok (.aload_n 0, 1) := by decide +kernel
theorem dX0_start_1 : decode cX0_start 1 = .ok (.iconst 1, 1) := by decide +kernel
theorem dX0_start_2 : decode cX0_start 2 = .ok (.putfield 18, 3) := by decide +kernel
theorem dX0_start_5 : decode cX0_start 5 = .ok (.aload_n 0, 1) := by decide +kernel
theorem dX0_start_6 : decode cX0_start 6 = .ok (.iload_n 1, 1) := by decide +kernel
theorem dX0_start_7 : decode cX0_start 7 = .ok (.putfield 22, 3) := by decide +kernel
theorem dX0_start_10 : decode cX0_start 10 = .ok (.aload_n 0, 1) := by decide +kernel
theorem dX0_start_11 : decode cX0_start 11 = .ok (.iconst 0, 1) := by decide +kernel
theorem dX0_start_12 : decode cX0_start 12 = .ok (.putfield 26, 3) := by decide +kernel
theorem dX0_start_15 : decode cX0_start 15 = .ok (.aload_n 0, 1) := by decide +kernel
theorem dX0_start_16 : decode cX0_start 16 = .ok (.getfield 15, 3) := by decide +kernel
theorem dX0_start_19 : decode cX0_start 19 = .ok (.iconst 0, 1) := by decide +kernel
theorem dX0_start_20 : decode cX0_start 20 = .ok (.iload_n 2, 1) := by decide +kernel
theorem dX0_start_21 : decode cX0_start 21 = .ok (.iastore, 1) := by decide +kernel
theorem dX0_start_22 : decode cX0_start 22 = .ok (.return_, 1) := by decide +kernel
theorem dX0_stand_0 : decode cX0_stand 0 = .ok (.aload_n 0, 1) := by decide +kernel
theorem dX0_stand_1 : decode cX0_stand 1 = .ok (.getfield 15, 3) := by decide +kernel
theorem dX0_stand_4 : decode cX0_stand 4 = .ok (.aload_n 0, 1) := by decide +kernel
theorem dX0_stand_5 : decode cX0_stand 5 = .ok (.getfield 26, 3) := by decide +kernel
theorem dX0_stand_8 : decode cX0_stand 8 = .ok (.iaload, 1) := by decide +kernel
theorem dX0_stand_9 : decode cX0_stand 9 = .ok (.ireturn, 1) := by decide +kernel
theorem dX0_advance_0 : decode cX0_advance 0 = .ok (.aload_n 0, 1) := by decide +kernel
theorem dX0_advance_1 : decode cX0_advance 1 = .ok (.getfield 26, 3) := by decide +kernel
theorem dX0_advance_4 : decode cX0_advance 4 = .ok (.bipush 12, 2) := by decide +kernel
theorem dX0_advance_6 : decode cX0_advance 6 = .ok (.if_icmp .ge 33, 3) := by decide +kernel
theorem dX0_advance_9 : decode cX0_advance 9 = .ok (.aload_n 0, 1) := by decide +kernel
theorem dX0_advance_10 : decode cX0_advance 10 = .ok (.getfield 9, 3) := by decide +kernel
theorem dX0_advance_13 : decode cX0_advance 13 = .ok (.aload_n 0, 1) := by decide +kernel
theorem dX0_advance_14 : decode cX0_advance 14 = .ok (.getfield 26, 3) := by decide +kernel
theorem dX0_advance_17 : decode cX0_advance 17 = .ok (.iload_n 1, 1) := by decide +kernel
theorem dX0_advance_18 : decode cX0_advance 18 = .ok (.iastore, 1) := by decide +kernel
theorem dX0_advance_19 : decode cX0_advance 19 = .ok (.aload_n 0, 1) := by decide +kernel
theorem dX0_advance_20 : decode cX0_advance 20 = .ok (.dup, 1) := by decide +kernel
theorem dX0_advance_21 : decode cX0_advance 21 = .ok (.getfield 26, 3) := by decide +kernel
theorem dX0_advance_24 : decode cX0_advance 24 = .ok (.iconst 1, 1) := by decide +kernel
theorem dX0_advance_25 : decode cX0_advance 25 = .ok (.iadd, 1) := by decide +kernel
theorem dX0_advance_26 : decode cX0_advance 26 = .ok (.putfield 26, 3) := by decide +kernel
theorem dX0_advance_29 : decode cX0_advance 29 = .ok (.aload_n 0, 1) := by decide +kernel
theorem dX0_advance_30 : decode cX0_advance 30 = .ok (.getfield 15, 3) := by decide +kernel
theorem dX0_advance_33 : decode cX0_advance 33 = .ok (.aload_n 0, 1) := by decide +kernel
theorem dX0_advance_34 : decode cX0_advance 34 = .ok (.getfield 26, 3) := by decide +kernel
theorem dX0_advance_37 : decode cX0_advance 37 = .ok (.iload_n 2, 1) := by decide +kernel
theorem dX0_advance_38 : decode cX0_advance 38 = .ok (.iastore, 1) := by decide +kernel
theorem dX0_advance_39 : decode cX0_advance 39 = .ok (.return_, 1) := by decide +kernel
theorem dX1_init_0 : decode cX1_init 0 = .ok (.aload_n 0, 1) := by decide +kernel
theorem dX1_init_1 : decode cX1_init 1 = .ok (.invokespecial 3, 3) := by decide +kernel
theorem dX1_init_4 : decode cX1_init 4 = .ok (.aload_n 0, 1) := by decide +kernel
theorem dX1_init_5 : decode cX1_init 5 = .ok (.sipush 8192, 3) := by decide +kernel
theorem dX1_init_8 : decode cX1_init 8 = .ok (.newarray .int, 2) := by decide +kernel
theorem dX1_init_10 : decode cX1_init 10 = .ok (.putfield 11, 3) := by decide +kernel
theorem dX1_init_13 : decode cX1_init 13 = .ok (.aload_n 0, 1) := by decide +kernel
theorem dX1_init_14 : decode cX1_init 14 = .ok (.aload_n 1, 1) := by decide +kernel
theorem dX1_init_15 : decode cX1_init 15 = .ok (.putfield 17, 3) := by decide +kernel
theorem dX1_init_18 : decode cX1_init 18 = .ok (.return_, 1) := by decide +kernel
theorem dX1_turnTo_0 : decode cX1_turnTo 0 = .ok (.aload_n 0, 1) := by decide +kernel
theorem dX1_turnTo_1 : decode cX1_turnTo 1 = .ok (.iload_n 1, 1) := by decide +kernel
theorem dX1_turnTo_2 : decode cX1_turnTo 2 = .ok (.putfield 21, 3) := by decide +kernel
theorem dX1_turnTo_5 : decode cX1_turnTo 5 = .ok (.aload_n 0, 1) := by decide +kernel
theorem dX1_turnTo_6 : decode cX1_turnTo 6 = .ok (.dup, 1) := by decide +kernel
theorem dX1_turnTo_7 : decode cX1_turnTo 7 = .ok (.getfield 25, 3) := by decide +kernel
theorem dX1_turnTo_10 : decode cX1_turnTo 10 = .ok (.iconst 1, 1) := by decide +kernel
theorem dX1_turnTo_11 : decode cX1_turnTo 11 = .ok (.iadd, 1) := by decide +kernel
theorem dX1_turnTo_12 : decode cX1_turnTo 12 = .ok (.putfield 25, 3) := by decide +kernel
theorem dX1_turnTo_15 : decode cX1_turnTo 15 = .ok (.aload_n 0, 1) := by decide +kernel
theorem dX1_turnTo_16 : decode cX1_turnTo 16 = .ok (.getfield 25, 3) := by decide +kernel
theorem dX1_turnTo_19 : decode cX1_turnTo 19 = .ok (.ldc 28, 2) := by decide +kernel
theorem dX1_turnTo_21 : decode cX1_turnTo 21 = .ok (.if_icmp .lt 16, 3) := by decide +kernel
theorem dX1_turnTo_24 : decode cX1_turnTo 24 = .ok (.aload_n 0, 1) := by decide +kernel
theorem dX1_turnTo_25 : decode cX1_turnTo 25 = .ok (.getfield 11, 3) := by decide +kernel
theorem dX1_turnTo_28 : decode cX1_turnTo 28 = .ok (.iconst 0, 1) := by decide +kernel
theorem dX1_turnTo_29 : decode cX1_turnTo 29 = .ok (.invokestatic 29, 3) := by decide +kernel
theorem dX1_turnTo_32 : decode cX1_turnTo 32 = .ok (.aload_n 0, 1) := by decide +kernel
theorem dX1_turnTo_33 : decode cX1_turnTo 33 = .ok (.iconst 1, 1) := by decide +kernel
theorem dX1_turnTo_34 : decode cX1_turnTo 34 = .ok (.putfield 25, 3) := by decide +kernel
theorem dX1_turnTo_37 : decode cX1_turnTo 37 = .ok (.return_, 1) := by decide +kernel
theorem dX1_movesFrom_0 : decode cX1_movesFrom 0 = .ok (.iload_n 1, 1) := by decide +kernel
theorem dX1_movesFrom_1 : decode cX1_movesFrom 1 = .ok (.invokestatic 35, 3) := by decide +kernel
theorem dX1_movesFrom_4 : decode cX1_movesFrom 4 = .ok (.istore_n 2, 1) := by decide +kernel
theorem dX1_movesFrom_5 : decode cX1_movesFrom 5 = .ok (.aload_n 0, 1) := by decide +kernel
theorem dX1_movesFrom_6 : decode cX1_movesFrom 6 = .ok (.getfield 21, 3) := by decide +kernel
theorem dX1_movesFrom_9 : decode cX1_movesFrom 9 = .ok (.iconst 2, 1) := by decide +kernel
theorem dX1_movesFrom_10 : decode cX1_movesFrom 10 = .ok (.if_icmp .eq 11, 3) := by decide +kernel
theorem dX1_movesFrom_13 : decode cX1_movesFrom 13 = .ok (.aload_n 0, 1) := by decide +kernel
theorem dX1_movesFrom_14 : decode cX1_movesFrom 14 = .ok (.getfield 21, 3) := by decide +kernel
theorem dX1_movesFrom_17 : decode cX1_movesFrom 17 = .ok (.iconst 3, 1) := by decide +kernel
theorem dX1_movesFrom_18 : decode cX1_movesFrom 18 = .ok (.if_icmp .ne 7, 3) := by decide +kernel
theorem dX1_movesFrom_21 : decode cX1_movesFrom 21 = .ok (.iconst 1, 1) := by decide +kernel
theorem dX1_movesFrom_22 : decode cX1_movesFrom 22 = .ok (.goto 4, 3) := by decide +kernel
theorem dX1_movesFrom_25 : decode cX1_movesFrom 25 = .ok (.iconst 0, 1) := by decide +kernel
theorem dX1_movesFrom_26 : decode cX1_movesFrom 26 = .ok (.istore_n 3, 1) := by decide +kernel
theorem dX1_movesFrom_27 : decode cX1_movesFrom 27 = .ok (.iload_n 3, 1) := by decide +kernel
theorem dX1_movesFrom_28 : decode cX1_movesFrom 28 = .ok (.ifCond .eq 15, 3) := by decide +kernel
theorem dX1_movesFrom_31 : decode cX1_movesFrom 31 = .ok (.aload_n 0, 1) := by decide +kernel
theorem dX1_movesFrom_32 : decode cX1_movesFrom 32 = .ok (.getfield 17, 3) := by decide +kernel
theorem dX1_movesFrom_35 : decode cX1_movesFrom 35 = .ok (.getfield 39, 3) := by decide +kernel
theorem dX1_movesFrom_38 : decode cX1_movesFrom 38 = .ok (.iload_n 2, 1) := by decide +kernel
theorem dX1_movesFrom_39 : decode cX1_movesFrom 39 = .ok (.iaload, 1) := by decide +kernel
theorem dX1_movesFrom_40 : decode cX1_movesFrom 40 = .ok (.goto 12, 3) := by decide +kernel
theorem dX1_movesFrom_43 : decode cX1_movesFrom 43 = .ok (.aload_n 0, 1) := by decide +kernel
theorem dX1_movesFrom_44 : decode cX1_movesFrom 44 = .ok (.getfield 17, 3) := by decide +kernel
theorem dX1_movesFrom_47 : decode cX1_movesFrom 47 = .ok (.getfield 44, 3) := by decide +kernel
theorem dX1_movesFrom_50 : decode cX1_movesFrom 50 = .ok (.iload_n 2, 1) := by decide +kernel
theorem dX1_movesFrom_51 : decode cX1_movesFrom 51 = .ok (.iaload, 1) := by decide +kernel
theorem dX1_movesFrom_52 : decode cX1_movesFrom 52 = .ok (.istore 4, 2) := by decide +kernel
theorem dX1_movesFrom_54 : decode cX1_movesFrom 54 = .ok (.aload_n 0, 1) := by decide +kernel
theorem dX1_movesFrom_55 : decode cX1_movesFrom 55 = .ok (.invokevirtual 47, 3) := by decide +kernel
theorem dX1_movesFrom_58 : decode cX1_movesFrom 58 = .ok (.ifCond .eq 13, 3) := by decide +kernel
theorem dX1_movesFrom_61 : decode cX1_movesFrom 61 = .ok (.iload 4, 2) := by decide +kernel
theorem dX1_movesFrom_63 : decode cX1_movesFrom 63 = .ok (.iload_n 1, 1) := by decide +kernel
theorem dX1_movesFrom_64 : decode cX1_movesFrom 64 = .ok (.invokestatic 51, 3) := by decide +kernel
theorem dX1_movesFrom_67 : decode cX1_movesFrom 67 = .ok (.iconst (-1), 1) := by decide +kernel
theorem dX1_movesFrom_68 : decode cX1_movesFrom 68 = .ok (.ixor, 1) := by decide +kernel
theorem dX1_movesFrom_69 : decode cX1_movesFrom 69 = .ok (.iand, 1) := by decide +kernel
theorem dX1_movesFrom_70 : decode cX1_movesFrom 70 = .ok (.ireturn, 1) := by decide +kernel
theorem dX1_movesFrom_71 : decode cX1_movesFrom 71 = .ok (.iload_n 1, 1) := by decide +kernel
theorem dX1_movesFrom_72 : decode cX1_movesFrom 72 = .ok (.invokestatic 54, 3) := by decide +kernel
theorem dX1_movesFrom_75 : decode cX1_movesFrom 75 = .ok (.istore 5, 2) := by decide +kernel
theorem dX1_movesFrom_77 : decode cX1_movesFrom 77 = .ok (.iconst 0, 1) := by decide +kernel
theorem dX1_movesFrom_78 : decode cX1_movesFrom 78 = .ok (.istore 6, 2) := by decide +kernel
theorem dX1_movesFrom_80 : decode cX1_movesFrom 80 = .ok (.iconst 0, 1) := by decide +kernel
theorem dX1_movesFrom_81 : decode cX1_movesFrom 81 = .ok (.istore 7, 2) := by decide +kernel
theorem dX1_movesFrom_83 : decode cX1_movesFrom 83 = .ok (.iload 7, 2) := by decide +kernel
theorem dX1_movesFrom_85 : decode cX1_movesFrom 85 = .ok (.aload_n 0, 1) := by decide +kernel
theorem dX1_movesFrom_86 : decode cX1_movesFrom 86 = .ok (.getfield 17, 3) := by decide +kernel
theorem dX1_movesFrom_89 : decode cX1_movesFrom 89 = .ok (.getfield 57, 3) := by decide +kernel
theorem dX1_movesFrom_92 : decode cX1_movesFrom 92 = .ok (.if_icmp .ge 46, 3) := by decide +kernel
theorem dX1_movesFrom_95 : decode cX1_movesFrom 95 = .ok (.iload 4, 2) := by decide +kernel
theorem dX1_movesFrom_97 : decode cX1_movesFrom 97 = .ok (.iload 7, 2) := by decide +kernel
theorem dX1_movesFrom_99 : decode cX1_movesFrom 99 = .ok (.ishr, 1) := by decide +kernel
theorem dX1_movesFrom_100 : decode cX1_movesFrom 100 = .ok (.iconst 1, 1) := by decide +kernel
theorem dX1_movesFrom_101 : decode cX1_movesFrom 101 = .ok (.iand, 1) := by decide +kernel
theorem dX1_movesFrom_102 : decode cX1_movesFrom 102 = .ok (.ifCond .eq 30, 3) := by decide +kernel
theorem dX1_movesFrom_105 : decode cX1_movesFrom 105 = .ok (.iload 5, 2) := by decide +kernel
theorem dX1_movesFrom_107 : decode cX1_movesFrom 107 = .ok (.aload_n 0, 1) := by decide +kernel
theorem dX1_movesFrom_108 : decode cX1_movesFrom 108 = .ok (.getfield 17, 3) := by decide +kernel
theorem dX1_movesFrom_111 : decode cX1_movesFrom 111 = .ok (.iload 7, 2) := by decide +kernel
theorem dX1_movesFrom_113 : decode cX1_movesFrom 113 = .ok (.iload_n 2, 1) := by decide +kernel
theorem dX1_movesFrom_114 : decode cX1_movesFrom 114 = .ok (.invokevirtual 60, 3) := by decide +kernel
theorem dX1_movesFrom_117 : decode cX1_movesFrom 117 = .ok (.ishr, 1) := by decide +kernel
theorem dX1_movesFrom_118 : decode cX1_movesFrom 118 = .ok (.iconst 1, 1) := by decide +kernel
theorem dX1_movesFrom_119 : decode cX1_movesFrom 119 = .ok (.iand, 1) := by decide +kernel
theorem dX1_movesFrom_120 : decode cX1_movesFrom 120 = .ok (.ifCond .ne 12, 3) := by decide +kernel
theorem dX1_movesFrom_123 : decode cX1_movesFrom 123 = .ok (.iload 6, 2) := by decide +kernel
theorem dX1_movesFrom_125 : decode cX1_movesFrom 125 = .ok (.iconst 1, 1) := by decide +kernel
theorem dX1_movesFrom_126 : decode cX1_movesFrom 126 = .ok (.iload 7, 2) := by decide +kernel
theorem dX1_movesFrom_128 : decode cX1_movesFrom 128 = .ok (.ishl, 1) := by decide +kernel
theorem dX1_movesFrom_129 : decode cX1_movesFrom 129 = .ok (.ior, 1) := by decide +kernel
theorem dX1_movesFrom_130 : decode cX1_movesFrom 130 = .ok (.istore 6, 2) := by decide +kernel
theorem dX1_movesFrom_132 : decode cX1_movesFrom 132 = .ok (.iinc 7 1, 3) := by decide +kernel
theorem dX1_movesFrom_135 : decode cX1_movesFrom 135 = .ok (.goto (-52), 3) := by decide +kernel
theorem dX1_movesFrom_138 : decode cX1_movesFrom 138 = .ok (.iload 6, 2) := by decide +kernel
theorem dX1_movesFrom_140 : decode cX1_movesFrom 140 = .ok (.ireturn, 1) := by decide +kernel
theorem dX1_overLines_0 : decode cX1_overLines 0 = .ok (.aload_n 0, 1) := by decide +kernel
theorem dX1_overLines_1 : decode cX1_overLines 1 = .ok (.getfield 21, 3) := by decide +kernel
theorem dX1_overLines_4 : decode cX1_overLines 4 = .ok (.iconst 1, 1) := by decide +kernel
theorem dX1_overLines_5 : decode cX1_overLines 5 = .ok (.if_icmp .eq 11, 3) := by decide +kernel
theorem dX1_overLines_8 : decode cX1_overLines 8 = .ok (.aload_n 0, 1) := by decide +kernel
theorem dX1_overLines_9 : decode cX1_overLines 9 = .ok (.getfield 21, 3) := by decide +kernel
theorem dX1_overLines_12 : decode cX1_overLines 12 = .ok (.iconst 3, 1) := by decide +kernel
theorem dX1_overLines_13 : decode cX1_overLines 13 = .ok (.if_icmp .ne 7, 3) := by decide +kernel
theorem dX1_overLines_16 : decode cX1_overLines 16 = .ok (.iconst 1, 1) := by decide +kernel
theorem dX1_overLines_17 : decode cX1_overLines 17 = .ok (.goto 4, 3) := by decide +kernel
theorem dX1_overLines_20 : decode cX1_overLines 20 = .ok (.iconst 0, 1) := by decide +kernel
theorem dX1_overLines_21 : decode cX1_overLines 21 = .ok (.ireturn, 1) := by decide +kernel
theorem dX1_behind_0 : decode cX1_behind 0 = .ok (.aload_n 0, 1) := by decide +kernel
theorem dX1_behind_1 : decode cX1_behind 1 = .ok (.getfield 17, 3) := by decide +kernel
theorem dX1_behind_4 : decode cX1_behind 4 = .ok (.iload_n 2, 1) := by decide +kernel
theorem dX1_behind_5 : decode cX1_behind 5 = .ok (.invokevirtual 64, 3) := by decide +kernel
theorem dX1_behind_8 : decode cX1_behind 8 = .ok (.ifCond .eq 23, 3) := by decide +kernel
theorem dX1_behind_11 : decode cX1_behind 11 = .ok (.iload_n 1, 1) := by decide +kernel
theorem dX1_behind_12 : decode cX1_behind 12 = .ok (.iload_n 2, 1) := by decide +kernel
theorem dX1_behind_13 : decode cX1_behind 13 = .ok (.aload_n 0, 1) := by decide +kernel
theorem dX1_behind_14 : decode cX1_behind 14 = .ok (.getfield 17, 3) := by decide +kernel
theorem dX1_behind_17 : decode cX1_behind 17 = .ok (.iload_n 2, 1) := by decide +kernel
theorem dX1_behind_18 : decode cX1_behind 18 = .ok (.iload_n 1, 1) := by decide +kernel
theorem dX1_behind_19 : decode cX1_behind 19 = .ok (.invokestatic 35, 3) := by decide +kernel
theorem dX1_behind_22 : decode cX1_behind 22 = .ok (.invokevirtual 60, 3) := by decide +kernel
theorem dX1_behind_25 : decode cX1_behind 25 = .ok (.invokestatic 68, 3) := by decide +kernel
theorem dX1_behind_28 : decode cX1_behind 28 = .ok (.goto 4, 3) := by decide +kernel
theorem dX1_behind_31 : decode cX1_behind 31 = .ok (.iload_n 1, 1) := by decide +kernel
theorem dX1_behind_32 : decode cX1_behind 32 = .ok (.ireturn, 1) := by decide +kernel
theorem dX1_wins_0 : decode cX1_wins 0 = .ok (.aload_n 0, 1) := by decide +kernel
theorem dX1_wins_1 : decode cX1_wins 1 = .ok (.iload_n 1, 1) := by decide +kernel
theorem dX1_wins_2 : decode cX1_wins 2 = .ok (.bipush 12, 2) := by decide +kernel
theorem dX1_wins_4 : decode cX1_wins 4 = .ok (.invokevirtual 72, 3) := by decide +kernel
theorem dX1_wins_7 : decode cX1_wins 7 = .ok (.invokestatic 75, 3) := by decide +kernel
theorem dX1_wins_10 : decode cX1_wins 10 = .ok (.ireturn, 1) := by decide +kernel
theorem dX1_winner_0 : decode cX1_winner 0 = .ok (.aload_n 0, 1) := by decide +kernel
theorem dX1_winner_1 : decode cX1_winner 1 = .ok (.iload_n 1, 1) := by decide +kernel
theorem dX1_winner_2 : decode cX1_winner 2 = .ok (.invokevirtual 78, 3) := by decide +kernel
theorem dX1_winner_5 : decode cX1_winner 5 = .ok (.ifCond .eq 7, 3) := by decide +kernel
theorem dX1_winner_8 : decode cX1_winner 8 = .ok (.iload_n 2, 1) := by decide +kernel
theorem dX1_winner_9 : decode cX1_winner 9 = .ok (.goto 6, 3) := by decide +kernel
theorem dX1_winner_12 : decode cX1_winner 12 = .ok (.iconst 1, 1) := by decide +kernel
theorem dX1_winner_13 : decode cX1_winner 13 = .ok (.iload_n 2, 1) := by decide +kernel
theorem dX1_winner_14 : decode cX1_winner 14 = .ok (.isub, 1) := by decide +kernel
theorem dX1_winner_15 : decode cX1_winner 15 = .ok (.ireturn, 1) := by decide +kernel
theorem dX1_lengthFrom_0 : decode cX1_lengthFrom 0 = .ok (.aload_n 0, 1) := by decide +kernel
theorem dX1_lengthFrom_1 : decode cX1_lengthFrom 1 = .ok (.iload_n 1, 1) := by decide +kernel
theorem dX1_lengthFrom_2 : decode cX1_lengthFrom 2 = .ok (.bipush 12, 2) := by decide +kernel
theorem dX1_lengthFrom_4 : decode cX1_lengthFrom 4 = .ok (.invokevirtual 72, 3) := by decide +kernel
theorem dX1_lengthFrom_7 : decode cX1_lengthFrom 7 = .ok (.invokestatic 81, 3) := by decide +kernel
theorem dX1_lengthFrom_10 : decode cX1_lengthFrom 10 = .ok (.ireturn, 1) := by decide +kernel
theorem dX1_nimFrom_0 : decode cX1_nimFrom 0 = .ok (.aload_n 0, 1) := by decide +kernel
theorem dX1_nimFrom_1 : decode cX1_nimFrom 1 = .ok (.iload_n 1, 1) := by decide +kernel
theorem dX1_nimFrom_2 : decode cX1_nimFrom 2 = .ok (.bipush 12, 2) := by decide +kernel
theorem dX1_nimFrom_4 : decode cX1_nimFrom 4 = .ok (.invokevirtual 72, 3) := by decide +kernel
theorem dX1_nimFrom_7 : decode cX1_nimFrom 7 = .ok (.invokestatic 84, 3) := by decide +kernel
theorem dX1_nimFrom_10 : decode cX1_nimFrom 10 = .ok (.ireturn, 1) := by decide +kernel
theorem dX1_winningFrom_0 : decode cX1_winningFrom 0 = .ok (.aload_n 0, 1) := by decide +kernel
theorem dX1_winningFrom_1 : decode cX1_winningFrom 1 = .ok (.iload_n 1, 1) := by decide +kernel
theorem dX1_winningFrom_2 : decode cX1_winningFrom 2 = .ok (.invokevirtual 87, 3) := by decide +kernel
theorem dX1_winningFrom_5 : decode cX1_winningFrom 5 = .ok (.istore_n 2, 1) := by decide +kernel
theorem dX1_winningFrom_6 : decode cX1_winningFrom 6 = .ok (.iconst 0, 1) := by decide +kernel
theorem dX1_winningFrom_7 : decode cX1_winningFrom 7 = .ok (.istore_n 3, 1) := by decide +kernel
theorem dX1_winningFrom_8 : decode cX1_winningFrom 8 = .ok (.iconst 0, 1) := by decide +kernel
theorem dX1_winningFrom_9 : decode cX1_winningFrom 9 = .ok (.istore 4, 2) := by decide +kernel
theorem dX1_winningFrom_11 : decode cX1_winningFrom 11 = .ok (.iload 4, 2) := by decide +kernel
theorem dX1_winningFrom_13 : decode cX1_winningFrom 13 = .ok (.aload_n 0, 1) := by decide +kernel
theorem dX1_winningFrom_14 : decode cX1_winningFrom 14 = .ok (.getfield 17, 3) := by decide +kernel
theorem dX1_winningFrom_17 : decode cX1_winningFrom 17 = .ok (.getfield 57, 3) := by decide +kernel
theorem dX1_winningFrom_20 : decode cX1_winningFrom 20 = .ok (.if_icmp .ge 44, 3) := by decide +kernel
theorem dX1_winningFrom_23 : decode cX1_winningFrom 23 = .ok (.iload_n 2, 1) := by decide +kernel
theorem dX1_winningFrom_24 : decode cX1_winningFrom 24 = .ok (.iload 4, 2) := by decide +kernel
theorem dX1_winningFrom_26 : decode cX1_winningFrom 26 = .ok (.ishr, 1) := by decide +kernel
theorem dX1_winningFrom_27 : decode cX1_winningFrom 27 = .ok (.iconst 1, 1) := by decide +kernel
theorem dX1_winningFrom_28 : decode cX1_winningFrom 28 = .ok (.iand, 1) := by decide +kernel
theorem dX1_winningFrom_29 : decode cX1_winningFrom 29 = .ok (.ifCond .eq 29, 3) := by decide +kernel
theorem dX1_winningFrom_32 : decode cX1_winningFrom 32 = .ok (.aload_n 0, 1) := by decide +kernel
theorem dX1_winningFrom_33 : decode cX1_winningFrom 33 = .ok (.aload_n 0, 1) := by decide +kernel
theorem dX1_winningFrom_34 : decode cX1_winningFrom 34 = .ok (.iload_n 1, 1) := by decide +kernel
theorem dX1_winningFrom_35 : decode cX1_winningFrom 35 = .ok (.iload 4, 2) := by decide +kernel
theorem dX1_winningFrom_37 : decode cX1_winningFrom 37 = .ok (.invokevirtual 90, 3) := by decide +kernel
theorem dX1_winningFrom_40 : decode cX1_winningFrom 40 = .ok (.bipush 12, 2) := by decide +kernel
theorem dX1_winningFrom_42 : decode cX1_winningFrom 42 = .ok (.invokevirtual 72, 3) := by decide +kernel
theorem dX1_winningFrom_45 : decode cX1_winningFrom 45 = .ok (.invokestatic 75, 3) := by decide +kernel
theorem dX1_winningFrom_48 : decode cX1_winningFrom 48 = .ok (.ifCond .ne 10, 3) := by decide +kernel
theorem dX1_winningFrom_51 : decode cX1_winningFrom 51 = .ok (.iload_n 3, 1) := by decide +kernel
theorem dX1_winningFrom_52 : decode cX1_winningFrom 52 = .ok (.iconst 1, 1) := by decide +kernel
theorem dX1_winningFrom_53 : decode cX1_winningFrom 53 = .ok (.iload 4, 2) := by decide +kernel
theorem dX1_winningFrom_55 : decode cX1_winningFrom 55 = .ok (.ishl, 1) := by decide +kernel
theorem dX1_winningFrom_56 : decode cX1_winningFrom 56 = .ok (.ior, 1) := by decide +kernel
theorem dX1_winningFrom_57 : decode cX1_winningFrom 57 = .ok (.istore_n 3, 1) := by decide +kernel
theorem dX1_winningFrom_58 : decode cX1_winningFrom 58 = .ok (.iinc 4 1, 3) := by decide +kernel
theorem dX1_winningFrom_61 : decode cX1_winningFrom 61 = .ok (.goto (-50), 3) := by decide +kernel
theorem dX1_winningFrom_64 : decode cX1_winningFrom 64 = .ok (.iload_n 3, 1) := by decide +kernel
theorem dX1_winningFrom_65 : decode cX1_winningFrom 65 = .ok (.ireturn, 1) := by decide +kernel
theorem dX1_weigh_0 : decode cX1_weigh 0 = .ok (.aload_n 0, 1) := by decide +kernel
theorem dX1_weigh_1 : decode cX1_weigh 1 = .ok (.invokevirtual 47, 3) := by decide +kernel
theorem dX1_weigh_4 : decode cX1_weigh 4 = .ok (.ifCond .eq 10, 3) := by decide +kernel
theorem dX1_weigh_7 : decode cX1_weigh 7 = .ok (.iload_n 1, 1) := by decide +kernel
theorem dX1_weigh_8 : decode cX1_weigh 8 = .ok (.invokestatic 51, 3) := by decide +kernel
theorem dX1_weigh_11 : decode cX1_weigh 11 = .ok (.goto 7, 3) := by decide +kernel
theorem dX1_weigh_14 : decode cX1_weigh 14 = .ok (.iload_n 1, 1) := by decide +kernel
theorem dX1_weigh_15 : decode cX1_weigh 15 = .ok (.invokestatic 92, 3) := by decide +kernel
theorem dX1_weigh_18 : decode cX1_weigh 18 = .ok (.istore_n 3, 1) := by decide +kernel
theorem dX1_weigh_19 : decode cX1_weigh 19 = .ok (.aload_n 0, 1) := by decide +kernel
theorem dX1_weigh_20 : decode cX1_weigh 20 = .ok (.getfield 11, 3) := by decide +kernel
theorem dX1_weigh_23 : decode cX1_weigh 23 = .ok (.iload_n 3, 1) := by decide +kernel
theorem dX1_weigh_24 : decode cX1_weigh 24 = .ok (.iaload, 1) := by decide +kernel
theorem dX1_weigh_25 : decode cX1_weigh 25 = .ok (.bipush 9, 2) := by decide +kernel
theorem dX1_weigh_27 : decode cX1_weigh 27 = .ok (.iushr, 1) := by decide +kernel
theorem dX1_weigh_28 : decode cX1_weigh 28 = .ok (.aload_n 0, 1) := by decide +kernel
theorem dX1_weigh_29 : decode cX1_weigh 29 = .ok (.getfield 25, 3) := by decide +kernel
theorem dX1_weigh_32 : decode cX1_weigh 32 = .ok (.if_icmp .ne 14, 3) := by decide +kernel
theorem dX1_weigh_35 : decode cX1_weigh 35 = .ok (.aload_n 0, 1) := by decide +kernel
theorem dX1_weigh_36 : decode cX1_weigh 36 = .ok (.getfield 11, 3) := by decide +kernel
theorem dX1_weigh_39 : decode cX1_weigh 39 = .ok (.iload_n 3, 1) := by decide +kernel
theorem dX1_weigh_40 : decode cX1_weigh 40 = .ok (.iaload, 1) := by decide +kernel
theorem dX1_weigh_41 : decode cX1_weigh 41 = .ok (.sipush 511, 3) := by decide +kernel
theorem dX1_weigh_44 : decode cX1_weigh 44 = .ok (.iand, 1) := by decide +kernel
theorem dX1_weigh_45 : decode cX1_weigh 45 = .ok (.ireturn, 1) := by decide +kernel
theorem dX1_weigh_46 : decode cX1_weigh 46 = .ok (.iload_n 2, 1) := by decide +kernel
theorem dX1_weigh_47 : decode cX1_weigh 47 = .ok (.ifCond .le 11, 3) := by decide +kernel
theorem dX1_weigh_50 : decode cX1_weigh 50 = .ok (.aload_n 0, 1) := by decide +kernel
theorem dX1_weigh_51 : decode cX1_weigh 51 = .ok (.iload_n 1, 1) := by decide +kernel
theorem dX1_weigh_52 : decode cX1_weigh 52 = .ok (.invokevirtual 87, 3) := by decide +kernel
theorem dX1_weigh_55 : decode cX1_weigh 55 = .ok (.goto 4, 3) := by decide +kernel
theorem dX1_weigh_58 : decode cX1_weigh 58 = .ok (.iconst 0, 1) := by decide +kernel
theorem dX1_weigh_59 : decode cX1_weigh 59 = .ok (.istore 4, 2) := by decide +kernel
theorem dX1_weigh_61 : decode cX1_weigh 61 = .ok (.aload_n 0, 1) := by decide +kernel
theorem dX1_weigh_62 : decode cX1_weigh 62 = .ok (.getfield 21, 3) := by decide +kernel
theorem dX1_weigh_65 : decode cX1_weigh 65 = .ok (.iconst 4, 1) := by decide +kernel
theorem dX1_weigh_66 : decode cX1_weigh 66 = .ok (.if_icmp .ne 12, 3) := by decide +kernel
theorem dX1_weigh_69 : decode cX1_weigh 69 = .ok (.iload 4, 2) := by decide +kernel
theorem dX1_weigh_71 : decode cX1_weigh 71 = .ok (.ifCond .ne 7, 3) := by decide +kernel
theorem dX1_weigh_74 : decode cX1_weigh 74 = .ok (.iconst (-1), 1) := by decide +kernel
theorem dX1_weigh_75 : decode cX1_weigh 75 = .ok (.goto 6, 3) := by decide +kernel
theorem dX1_weigh_78 : decode cX1_weigh 78 = .ok (.sipush 1000, 3) := by decide +kernel
theorem dX1_weigh_81 : decode cX1_weigh 81 = .ok (.istore 5, 2) := by decide +kernel
theorem dX1_weigh_83 : decode cX1_weigh 83 = .ok (.iconst (-1), 1) := by decide +kernel
theorem dX1_weigh_84 : decode cX1_weigh 84 = .ok (.istore 6, 2) := by decide +kernel
theorem dX1_weigh_86 : decode cX1_weigh 86 = .ok (.iconst 0, 1) := by decide +kernel
theorem dX1_weigh_87 : decode cX1_weigh 87 = .ok (.istore 7, 2) := by decide +kernel
theorem dX1_weigh_89 : decode cX1_weigh 89 = .ok (.iconst 0, 1) := by decide +kernel
theorem dX1_weigh_90 : decode cX1_weigh 90 = .ok (.istore 8, 2) := by decide +kernel
theorem dX1_weigh_92 : decode cX1_weigh 92 = .ok (.iload 8, 2) := by decide +kernel
theorem dX1_weigh_94 : decode cX1_weigh 94 = .ok (.aload_n 0, 1) := by decide +kernel
theorem dX1_weigh_95 : decode cX1_weigh 95 = .ok (.getfield 17, 3) := by decide +kernel
theorem dX1_weigh_98 : decode cX1_weigh 98 = .ok (.getfield 57, 3) := by decide +kernel
theorem dX1_weigh_101 : decode cX1_weigh 101 = .ok (.if_icmp .ge 79, 3) := by decide +kernel
theorem dX1_weigh_104 : decode cX1_weigh 104 = .ok (.iload 4, 2) := by decide +kernel
theorem dX1_weigh_106 : decode cX1_weigh 106 = .ok (.iload 8, 2) := by decide +kernel
theorem dX1_weigh_108 : decode cX1_weigh 108 = .ok (.ishr, 1) := by decide +kernel
theorem dX1_weigh_109 : decode cX1_weigh 109 = .ok (.iconst 1, 1) := by decide +kernel
theorem dX1_weigh_110 : decode cX1_weigh 110 = .ok (.iand, 1) := by decide +kernel
theorem dX1_weigh_111 : decode cX1_weigh 111 = .ok (.ifCond .eq 63, 3) := by decide +kernel
theorem dX1_weigh_114 : decode cX1_weigh 114 = .ok (.aload_n 0, 1) := by decide +kernel
theorem dX1_weigh_115 : decode cX1_weigh 115 = .ok (.aload_n 0, 1) := by decide +kernel
theorem dX1_weigh_116 : decode cX1_weigh 116 = .ok (.iload_n 1, 1) := by decide +kernel
theorem dX1_weigh_117 : decode cX1_weigh 117 = .ok (.iload 8, 2) := by decide +kernel
theorem dX1_weigh_119 : decode cX1_weigh 119 = .ok (.invokevirtual 90, 3) := by decide +kernel
theorem dX1_weigh_122 : decode cX1_weigh 122 = .ok (.iload_n 2, 1) := by decide +kernel
theorem dX1_weigh_123 : decode cX1_weigh 123 = .ok (.iconst 1, 1) := by decide +kernel
theorem dX1_weigh_124 : decode cX1_weigh 124 = .ok (.isub, 1) := by decide +kernel
theorem dX1_weigh_125 : decode cX1_weigh 125 = .ok (.invokevirtual 72, 3) := by decide +kernel
theorem dX1_weigh_128 : decode cX1_weigh 128 = .ok (.istore 9, 2) := by decide +kernel
theorem dX1_weigh_130 : decode cX1_weigh 130 = .ok (.iload 9, 2) := by decide +kernel
theorem dX1_weigh_132 : decode cX1_weigh 132 = .ok (.invokestatic 75, 3) := by decide +kernel
theorem dX1_weigh_135 : decode cX1_weigh 135 = .ok (.ifCond .ne 15, 3) := by decide +kernel
theorem dX1_weigh_138 : decode cX1_weigh 138 = .ok (.iload 5, 2) := by decide +kernel
theorem dX1_weigh_140 : decode cX1_weigh 140 = .ok (.iload 9, 2) := by decide +kernel
theorem dX1_weigh_142 : decode cX1_weigh 142 = .ok (.invokestatic 81, 3) := by decide +kernel
theorem dX1_weigh_145 : decode cX1_weigh 145 = .ok (.invokestatic 95, 3) := by decide +kernel
theorem dX1_weigh_148 : decode cX1_weigh 148 = .ok (.istore 5, 2) := by decide +kernel
theorem dX1_weigh_150 : decode cX1_weigh 150 = .ok (.iload 6, 2) := by decide +kernel
theorem dX1_weigh_152 : decode cX1_weigh 152 = .ok (.iload 9, 2) := by decide +kernel
theorem dX1_weigh_154 : decode cX1_weigh 154 = .ok (.invokestatic 81, 3) := by decide +kernel
theorem dX1_weigh_157 : decode cX1_weigh 157 = .ok (.invokestatic 100, 3) := by decide +kernel
theorem dX1_weigh_160 : decode cX1_weigh 160 = .ok (.istore 6, 2) := by decide +kernel
theorem dX1_weigh_162 : decode cX1_weigh 162 = .ok (.iload 7, 2) := by decide +kernel
theorem dX1_weigh_164 : decode cX1_weigh 164 = .ok (.iconst 1, 1) := by decide +kernel
theorem dX1_weigh_165 : decode cX1_weigh 165 = .ok (.iload 9, 2) := by decide +kernel
theorem dX1_weigh_167 : decode cX1_weigh 167 = .ok (.invokestatic 84, 3) := by decide +kernel
theorem dX1_weigh_170 : decode cX1_weigh 170 = .ok (.ishl, 1) := by decide +kernel
theorem dX1_weigh_171 : decode cX1_weigh 171 = .ok (.ior, 1) := by decide +kernel
theorem dX1_weigh_172 : decode cX1_weigh 172 = .ok (.istore 7, 2) := by decide +kernel
theorem dX1_weigh_174 : decode cX1_weigh 174 = .ok (.iinc 8 1, 3) := by decide +kernel
theorem dX1_weigh_177 : decode cX1_weigh 177 = .ok (.goto (-85), 3) := by decide +kernel
theorem dX1_weigh_180 : decode cX1_weigh 180 = .ok (.iload 7, 2) := by decide +kernel
theorem dX1_weigh_182 : decode cX1_weigh 182 = .ok (.iconst (-1), 1) := by decide +kernel
theorem dX1_weigh_183 : decode cX1_weigh 183 = .ok (.ixor, 1) := by decide +kernel
theorem dX1_weigh_184 : decode cX1_weigh 184 = .ok (.invokestatic 103, 3) := by decide +kernel
theorem dX1_weigh_187 : decode cX1_weigh 187 = .ok (.istore 8, 2) := by decide +kernel
theorem dX1_weigh_189 : decode cX1_weigh 189 = .ok (.iload 5, 2) := by decide +kernel
theorem dX1_weigh_191 : decode cX1_weigh 191 = .ok (.sipush 1000, 3) := by decide +kernel
theorem dX1_weigh_194 : decode cX1_weigh 194 = .ok (.if_icmp .ge 16, 3) := by decide +kernel
theorem dX1_weigh_197 : decode cX1_weigh 197 = .ok (.iconst 1, 1) := by decide +kernel
theorem dX1_weigh_198 : decode cX1_weigh 198 = .ok (.iconst 1, 1) := by decide +kernel
theorem dX1_weigh_199 : decode cX1_weigh 199 = .ok (.iload 5, 2) := by decide +kernel
theorem dX1_weigh_201 : decode cX1_weigh 201 = .ok (.iadd, 1) := by decide +kernel
theorem dX1_weigh_202 : decode cX1_weigh 202 = .ok (.iload 8, 2) := by decide +kernel
theorem dX1_weigh_204 : decode cX1_weigh 204 = .ok (.invokestatic 108, 3) := by decide +kernel
theorem dX1_weigh_207 : decode cX1_weigh 207 = .ok (.goto 13, 3) := by decide +kernel
theorem dX1_weigh_210 : decode cX1_weigh 210 = .ok (.iconst 0, 1) := by decide +kernel
theorem dX1_weigh_211 : decode cX1_weigh 211 = .ok (.iconst 1, 1) := by decide +kernel
theorem dX1_weigh_212 : decode cX1_weigh 212 = .ok (.iload 6, 2) := by decide +kernel
theorem dX1_weigh_214 : decode cX1_weigh 214 = .ok (.iadd, 1) := by decide +kernel
theorem dX1_weigh_215 : decode cX1_weigh 215 = .ok (.iload 8, 2) := by decide +kernel
theorem dX1_weigh_217 : decode cX1_weigh 217 = .ok (.invokestatic 108, 3) := by decide +kernel
theorem dX1_weigh_220 : decode cX1_weigh 220 = .ok (.istore 9, 2) := by decide +kernel
theorem dX1_weigh_222 : decode cX1_weigh 222 = .ok (.aload_n 0, 1) := by decide +kernel
theorem dX1_weigh_223 : decode cX1_weigh 223 = .ok (.getfield 11, 3) := by decide +kernel
theorem dX1_weigh_226 : decode cX1_weigh 226 = .ok (.iload_n 3, 1) := by decide +kernel
theorem dX1_weigh_227 : decode cX1_weigh 227 = .ok (.aload_n 0, 1) := by decide +kernel
theorem dX1_weigh_228 : decode cX1_weigh 228 = .ok (.getfield 25, 3) := by decide +kernel
theorem dX1_weigh_231 : decode cX1_weigh 231 = .ok (.bipush 9, 2) := by decide +kernel
theorem dX1_weigh_233 : decode cX1_weigh 233 = .ok (.ishl, 1) := by decide +kernel
theorem dX1_weigh_234 : decode cX1_weigh 234 = .ok (.iload 9, 2) := by decide +kernel
theorem dX1_weigh_236 : decode cX1_weigh 236 = .ok (.ior, 1) := by decide +kernel
theorem dX1_weigh_237 : decode cX1_weigh 237 = .ok (.iastore, 1) := by decide +kernel
theorem dX1_weigh_238 : decode cX1_weigh 238 = .ok (.iload 9, 2) := by decide +kernel
theorem dX1_weigh_240 : decode cX1_weigh 240 = .ok (.ireturn, 1) := by decide +kernel
theorem dX1_joined_0 : decode cX1_joined 0 = .ok (.iload_n 0, 1) := by decide +kernel
theorem dX1_joined_1 : decode cX1_joined 1 = .ok (.iload_n 1, 1) := by decide +kernel
theorem dX1_joined_2 : decode cX1_joined 2 = .ok (.iconst 1, 1) := by decide +kernel
theorem dX1_joined_3 : decode cX1_joined 3 = .ok (.ishl, 1) := by decide +kernel
theorem dX1_joined_4 : decode cX1_joined 4 = .ok (.ior, 1) := by decide +kernel
theorem dX1_joined_5 : decode cX1_joined 5 = .ok (.iload_n 2, 1) := by decide +kernel
theorem dX1_joined_6 : decode cX1_joined 6 = .ok (.iconst 5, 1) := by decide +kernel
theorem dX1_joined_7 : decode cX1_joined 7 = .ok (.ishl, 1) := by decide +kernel
theorem dX1_joined_8 : decode cX1_joined 8 = .ok (.ior, 1) := by decide +kernel
theorem dX1_joined_9 : decode cX1_joined 9 = .ok (.ireturn, 1) := by decide +kernel
theorem dX1_winsAs_0 : decode cX1_winsAs 0 = .ok (.iload_n 0, 1) := by decide +kernel
theorem dX1_winsAs_1 : decode cX1_winsAs 1 = .ok (.iconst 1, 1) := by decide +kernel
theorem dX1_winsAs_2 : decode cX1_winsAs 2 = .ok (.iand, 1) := by decide +kernel
theorem dX1_winsAs_3 : decode cX1_winsAs 3 = .ok (.ifCond .eq 7, 3) := by decide +kernel
theorem dX1_winsAs_6 : decode cX1_winsAs 6 = .ok (.iconst 1, 1) := by decide +kernel
theorem dX1_winsAs_7 : decode cX1_winsAs 7 = .ok (.goto 4, 3) := by decide +kernel
theorem dX1_winsAs_10 : decode cX1_winsAs 10 = .ok (.iconst 0, 1) := by decide +kernel
theorem dX1_winsAs_11 : decode cX1_winsAs 11 = .ok (.ireturn, 1) := by decide +kernel
theorem dX1_lengthAs_0 : decode cX1_lengthAs 0 = .ok (.iload_n 0, 1) := by decide +kernel
theorem dX1_lengthAs_1 : decode cX1_lengthAs 1 = .ok (.iconst 1, 1) := by decide +kernel
theorem dX1_lengthAs_2 : decode cX1_lengthAs 2 = .ok (.ishr, 1) := by decide +kernel
theorem dX1_lengthAs_3 : decode cX1_lengthAs 3 = .ok (.bipush 15, 2) := by decide +kernel
theorem dX1_lengthAs_5 : decode cX1_lengthAs 5 = .ok (.iand, 1) := by decide +kernel
theorem dX1_lengthAs_6 : decode cX1_lengthAs 6 = .ok (.ireturn, 1) := by decide +kernel
theorem dX1_nimAs_0 : decode cX1_nimAs 0 = .ok (.iload_n 0, 1) := by decide +kernel
theorem dX1_nimAs_1 : decode cX1_nimAs 1 = .ok (.iconst 5, 1) := by decide +kernel
theorem dX1_nimAs_2 : decode cX1_nimAs 2 = .ok (.ishr, 1) := by decide +kernel
theorem dX1_nimAs_3 : decode cX1_nimAs 3 = .ok (.bipush 15, 2) := by decide +kernel
theorem dX1_nimAs_5 : decode cX1_nimAs 5 = .ok (.iand, 1) := by decide +kernel
theorem dX1_nimAs_6 : decode cX1_nimAs 6 = .ok (.ireturn, 1) := by decide +kernel
theorem dX1_reachFrom_0 : decode cX1_reachFrom 0 = .ok (.aload_n 0, 1) := by decide +kernel
theorem dX1_reachFrom_1 : decode cX1_reachFrom 1 = .ok (.iload_n 1, 1) := by decide +kernel
theorem dX1_reachFrom_2 : decode cX1_reachFrom 2 = .ok (.invokevirtual 87, 3) := by decide +kernel
theorem dX1_reachFrom_5 : decode cX1_reachFrom 5 = .ok (.istore_n 2, 1) := by decide +kernel
theorem dX1_reachFrom_6 : decode cX1_reachFrom 6 = .ok (.iconst 0, 1) := by decide +kernel
theorem dX1_reachFrom_7 : decode cX1_reachFrom 7 = .ok (.istore_n 3, 1) := by decide +kernel
theorem dX1_reachFrom_8 : decode cX1_reachFrom 8 = .ok (.iconst 0, 1) := by decide +kernel
theorem dX1_reachFrom_9 : decode cX1_reachFrom 9 = .ok (.istore 4, 2) := by decide +kernel
theorem dX1_reachFrom_11 : decode cX1_reachFrom 11 = .ok (.iload 4, 2) := by decide +kernel
theorem dX1_reachFrom_13 : decode cX1_reachFrom 13 = .ok (.aload_n 0, 1) := by decide +kernel
theorem dX1_reachFrom_14 : decode cX1_reachFrom 14 = .ok (.getfield 17, 3) := by decide +kernel
theorem dX1_reachFrom_17 : decode cX1_reachFrom 17 = .ok (.getfield 57, 3) := by decide +kernel
theorem dX1_reachFrom_20 : decode cX1_reachFrom 20 = .ok (.if_icmp .ge 32, 3) := by decide +kernel
theorem dX1_reachFrom_23 : decode cX1_reachFrom 23 = .ok (.iload_n 2, 1) := by decide +kernel
theorem dX1_reachFrom_24 : decode cX1_reachFrom 24 = .ok (.iload 4, 2) := by decide +kernel
theorem dX1_reachFrom_26 : decode cX1_reachFrom 26 = .ok (.ishr, 1) := by decide +kernel
theorem dX1_reachFrom_27 : decode cX1_reachFrom 27 = .ok (.iconst 1, 1) := by decide +kernel
theorem dX1_reachFrom_28 : decode cX1_reachFrom 28 = .ok (.iand, 1) := by decide +kernel
theorem dX1_reachFrom_29 : decode cX1_reachFrom 29 = .ok (.ifCond .eq 17, 3) := by decide +kernel
theorem dX1_reachFrom_32 : decode cX1_reachFrom 32 = .ok (.iload_n 3, 1) := by decide +kernel
theorem dX1_reachFrom_33 : decode cX1_reachFrom 33 = .ok (.aload_n 0, 1) := by decide +kernel
theorem dX1_reachFrom_34 : decode cX1_reachFrom 34 = .ok (.aload_n 0, 1) := by decide +kernel
theorem dX1_reachFrom_35 : decode cX1_reachFrom 35 = .ok (.iload_n 1, 1) := by decide +kernel
theorem dX1_reachFrom_36 : decode cX1_reachFrom 36 = .ok (.iload 4, 2) := by decide +kernel
theorem dX1_reachFrom_38 : decode cX1_reachFrom 38 = .ok (.invokevirtual 90, 3) := by decide +kernel
theorem dX1_reachFrom_41 : decode cX1_reachFrom 41 = .ok (.invokevirtual 111, 3) := by decide +kernel
theorem dX1_reachFrom_44 : decode cX1_reachFrom 44 = .ok (.ior, 1) := by decide +kernel
theorem dX1_reachFrom_45 : decode cX1_reachFrom 45 = .ok (.istore_n 3, 1) := by decide +kernel
theorem dX1_reachFrom_46 : decode cX1_reachFrom 46 = .ok (.iinc 4 1, 3) := by decide +kernel
theorem dX1_reachFrom_49 : decode cX1_reachFrom 49 = .ok (.goto (-38), 3) := by decide +kernel
theorem dX1_reachFrom_52 : decode cX1_reachFrom 52 = .ok (.iload_n 3, 1) := by decide +kernel
theorem dX1_reachFrom_53 : decode cX1_reachFrom 53 = .ok (.ireturn, 1) := by decide +kernel
theorem dX1_spread_0 : decode cX1_spread 0 = .ok (.iconst 1, 1) := by decide +kernel
theorem dX1_spread_1 : decode cX1_spread 1 = .ok (.iload_n 1, 1) := by decide +kernel
theorem dX1_spread_2 : decode cX1_spread 2 = .ok (.invokestatic 35, 3) := by decide +kernel
theorem dX1_spread_5 : decode cX1_spread 5 = .ok (.ishl, 1) := by decide +kernel
theorem dX1_spread_6 : decode cX1_spread 6 = .ok (.istore_n 2, 1) := by decide +kernel
theorem dX1_spread_7 : decode cX1_spread 7 = .ok (.iconst 1, 1) := by decide +kernel
theorem dX1_spread_8 : decode cX1_spread 8 = .ok (.istore_n 3, 1) := by decide +kernel
theorem dX1_spread_9 : decode cX1_spread 9 = .ok (.iload_n 3, 1) := by decide +kernel
theorem dX1_spread_10 : decode cX1_spread 10 = .ok (.aload_n 0, 1) := by decide +kernel
theorem dX1_spread_11 : decode cX1_spread 11 = .ok (.getfield 17, 3) := by decide +kernel
theorem dX1_spread_14 : decode cX1_spread 14 = .ok (.getfield 114, 3) := by decide +kernel
theorem dX1_spread_17 : decode cX1_spread 17 = .ok (.if_icmp .ge 58, 3) := by decide +kernel
theorem dX1_spread_20 : decode cX1_spread 20 = .ok (.iconst 0, 1) := by decide +kernel
theorem dX1_spread_21 : decode cX1_spread 21 = .ok (.istore 4, 2) := by decide +kernel
theorem dX1_spread_23 : decode cX1_spread 23 = .ok (.iload 4, 2) := by decide +kernel
theorem dX1_spread_25 : decode cX1_spread 25 = .ok (.aload_n 0, 1) := by decide +kernel
theorem dX1_spread_26 : decode cX1_spread 26 = .ok (.getfield 17, 3) := by decide +kernel
theorem dX1_spread_29 : decode cX1_spread 29 = .ok (.getfield 114, 3) := by decide +kernel
theorem dX1_spread_32 : decode cX1_spread 32 = .ok (.if_icmp .ge 37, 3) := by decide +kernel
theorem dX1_spread_35 : decode cX1_spread 35 = .ok (.iload_n 2, 1) := by decide +kernel
theorem dX1_spread_36 : decode cX1_spread 36 = .ok (.iload 4, 2) := by decide +kernel
theorem dX1_spread_38 : decode cX1_spread 38 = .ok (.ishr, 1) := by decide +kernel
theorem dX1_spread_39 : decode cX1_spread 39 = .ok (.iconst 1, 1) := by decide +kernel
theorem dX1_spread_40 : decode cX1_spread 40 = .ok (.iand, 1) := by decide +kernel
theorem dX1_spread_41 : decode cX1_spread 41 = .ok (.ifCond .eq 22, 3) := by decide +kernel
theorem dX1_spread_44 : decode cX1_spread 44 = .ok (.iload_n 2, 1) := by decide +kernel
theorem dX1_spread_45 : decode cX1_spread 45 = .ok (.aload_n 0, 1) := by decide +kernel
theorem dX1_spread_46 : decode cX1_spread 46 = .ok (.aload_n 0, 1) := by decide +kernel
theorem dX1_spread_47 : decode cX1_spread 47 = .ok (.iload_n 1, 1) := by decide +kernel
theorem dX1_spread_48 : decode cX1_spread 48 = .ok (.iload 4, 2) := by decide +kernel
theorem dX1_spread_50 : decode cX1_spread 50 = .ok (.invokestatic 117, 3) := by decide +kernel
theorem dX1_spread_53 : decode cX1_spread 53 = .ok (.invokevirtual 87, 3) := by decide +kernel
theorem dX1_spread_56 : decode cX1_spread 56 = .ok (.iload 4, 2) := by decide +kernel
theorem dX1_spread_58 : decode cX1_spread 58 = .ok (.invokevirtual 120, 3) := by decide +kernel
theorem dX1_spread_61 : decode cX1_spread 61 = .ok (.ior, 1) := by decide +kernel
theorem dX1_spread_62 : decode cX1_spread 62 = .ok (.istore_n 2, 1) := by decide +kernel
theorem dX1_spread_63 : decode cX1_spread 63 = .ok (.iinc 4 1, 3) := by decide +kernel
theorem dX1_spread_66 : decode cX1_spread 66 = .ok (.goto (-43), 3) := by decide +kernel
theorem dX1_spread_69 : decode cX1_spread 69 = .ok (.iinc 3 1, 3) := by decide +kernel
theorem dX1_spread_72 : decode cX1_spread 72 = .ok (.goto (-63), 3) := by decide +kernel
theorem dX1_spread_75 : decode cX1_spread 75 = .ok (.iload_n 2, 1) := by decide +kernel
theorem dX1_spread_76 : decode cX1_spread 76 = .ok (.ireturn, 1) := by decide +kernel
theorem dX1_farEnds_0 : decode cX1_farEnds 0 = .ok (.iconst 0, 1) := by decide +kernel
theorem dX1_farEnds_1 : decode cX1_farEnds 1 = .ok (.istore_n 3, 1) := by decide +kernel
theorem dX1_farEnds_2 : decode cX1_farEnds 2 = .ok (.iconst 0, 1) := by decide +kernel
theorem dX1_farEnds_3 : decode cX1_farEnds 3 = .ok (.istore 4, 2) := by decide +kernel
theorem dX1_farEnds_5 : decode cX1_farEnds 5 = .ok (.iload 4, 2) := by decide +kernel
theorem dX1_farEnds_7 : decode cX1_farEnds 7 = .ok (.aload_n 0, 1) := by decide +kernel
theorem dX1_farEnds_8 : decode cX1_farEnds 8 = .ok (.getfield 17, 3) := by decide +kernel
theorem dX1_farEnds_11 : decode cX1_farEnds 11 = .ok (.getfield 57, 3) := by decide +kernel
theorem dX1_farEnds_14 : decode cX1_farEnds 14 = .ok (.if_icmp .ge 33, 3) := by decide +kernel
theorem dX1_farEnds_17 : decode cX1_farEnds 17 = .ok (.iload_n 1, 1) := by decide +kernel
theorem dX1_farEnds_18 : decode cX1_farEnds 18 = .ok (.iload 4, 2) := by decide +kernel
theorem dX1_farEnds_20 : decode cX1_farEnds 20 = .ok (.ishr, 1) := by decide +kernel
theorem dX1_farEnds_21 : decode cX1_farEnds 21 = .ok (.iconst 1, 1) := by decide +kernel
theorem dX1_farEnds_22 : decode cX1_farEnds 22 = .ok (.iand, 1) := by decide +kernel
theorem dX1_farEnds_23 : decode cX1_farEnds 23 = .ok (.ifCond .eq 18, 3) := by decide +kernel
theorem dX1_farEnds_26 : decode cX1_farEnds 26 = .ok (.iload_n 3, 1) := by decide +kernel
theorem dX1_farEnds_27 : decode cX1_farEnds 27 = .ok (.iconst 1, 1) := by decide +kernel
theorem dX1_farEnds_28 : decode cX1_farEnds 28 = .ok (.aload_n 0, 1) := by decide +kernel
theorem dX1_farEnds_29 : decode cX1_farEnds 29 = .ok (.getfield 17, 3) := by decide +kernel
theorem dX1_farEnds_32 : decode cX1_farEnds 32 = .ok (.iload 4, 2) := by decide +kernel
theorem dX1_farEnds_34 : decode cX1_farEnds 34 = .ok (.iload_n 2, 1) := by decide +kernel
theorem dX1_farEnds_35 : decode cX1_farEnds 35 = .ok (.invokevirtual 60, 3) := by decide +kernel
theorem dX1_farEnds_38 : decode cX1_farEnds 38 = .ok (.ishl, 1) := by decide +kernel
theorem dX1_farEnds_39 : decode cX1_farEnds 39 = .ok (.ior, 1) := by decide +kernel
theorem dX1_farEnds_40 : decode cX1_farEnds 40 = .ok (.istore_n 3, 1) := by decide +kernel
theorem dX1_farEnds_41 : decode cX1_farEnds 41 = .ok (.iinc 4 1, 3) := by decide +kernel
theorem dX1_farEnds_44 : decode cX1_farEnds 44 = .ok (.goto (-39), 3) := by decide +kernel
theorem dX1_farEnds_47 : decode cX1_farEnds 47 = .ok (.iload_n 3, 1) := by decide +kernel
theorem dX1_farEnds_48 : decode cX1_farEnds 48 = .ok (.ireturn, 1) := by decide +kernel
theorem dX2_init_0 : decode cX2_init 0 = .ok (.aload_n 0, 1) := by decide +kernel
theorem dX2_init_1 : decode cX2_init 1 = .ok (.invokespecial 3, 3) := by decide +kernel
theorem dX2_init_4 : decode cX2_init 4 = .ok (.aload_n 0, 1) := by decide +kernel
theorem dX2_init_5 : decode cX2_init 5 = .ok (.iconst 4, 1) := by decide +kernel
theorem dX2_init_6 : decode cX2_init 6 = .ok (.putfield 9, 3) := by decide +kernel
theorem dX2_init_9 : decode cX2_init 9 = .ok (.aload_n 0, 1) := by decide +kernel
theorem dX2_init_10 : decode cX2_init 10 = .ok (.bipush 12, 2) := by decide +kernel
theorem dX2_init_12 : decode cX2_init 12 = .ok (.newarray .int, 2) := by decide +kernel
theorem dX2_init_14 : decode cX2_init 14 = .ok (.putfield 15, 3) := by decide +kernel
theorem dX2_init_17 : decode cX2_init 17 = .ok (.aload_n 0, 1) := by decide +kernel
theorem dX2_init_18 : decode cX2_init 18 = .ok (.bipush 12, 2) := by decide +kernel
theorem dX2_init_20 : decode cX2_init 20 = .ok (.newarray .int, 2) := by decide +kernel
theorem dX2_init_22 : decode cX2_init 22 = .ok (.putfield 19, 3) := by decide +kernel
theorem dX2_init_25 : decode cX2_init 25 = .ok (.aload_n 0, 1) := by decide +kernel
theorem dX2_init_26 : decode cX2_init 26 = .ok (.bipush 12, 2) := by decide +kernel
theorem dX2_init_28 : decode cX2_init 28 = .ok (.newarray .int, 2) := by decide +kernel
theorem dX2_init_30 : decode cX2_init 30 = .ok (.putfield 22, 3) := by decide +kernel
theorem dX2_init_33 : decode cX2_init 33 = .ok (.aload_n 0, 1) := by decide +kernel
theorem dX2_init_34 : decode cX2_init 34 = .ok (.bipush 16, 2) := by decide +kernel
theorem dX2_init_36 : decode cX2_init 36 = .ok (.newarray .int, 2) := by decide +kernel
theorem dX2_init_38 : decode cX2_init 38 = .ok (.putfield 25, 3) := by decide +kernel
theorem dX2_init_41 : decode cX2_init 41 = .ok (.aload_n 0, 1) := by decide +kernel
theorem dX2_init_42 : decode cX2_init 42 = .ok (.bipush 16, 2) := by decide +kernel
theorem dX2_init_44 : decode cX2_init 44 = .ok (.newarray .int, 2) := by decide +kernel
theorem dX2_init_46 : decode cX2_init 46 = .ok (.putfield 28, 3) := by decide +kernel
theorem dX2_init_49 : decode cX2_init 49 = .ok (.aload_n 0, 1) := by decide +kernel
theorem dX2_init_50 : decode cX2_init 50 = .ok (.bipush 16, 2) := by decide +kernel
theorem dX2_init_52 : decode cX2_init 52 = .ok (.newarray .int, 2) := by decide +kernel
theorem dX2_init_54 : decode cX2_init 54 = .ok (.putfield 31, 3) := by decide +kernel
theorem dX2_init_57 : decode cX2_init 57 = .ok (.aload_n 0, 1) := by decide +kernel
theorem dX2_init_58 : decode cX2_init 58 = .ok (.bipush 16, 2) := by decide +kernel
theorem dX2_init_60 : decode cX2_init 60 = .ok (.newarray .int, 2) := by decide +kernel
theorem dX2_init_62 : decode cX2_init 62 = .ok (.putfield 34, 3) := by decide +kernel
theorem dX2_init_65 : decode cX2_init 65 = .ok (.aload_n 0, 1) := by decide +kernel
theorem dX2_init_66 : decode cX2_init 66 = .ok (.bipush 16, 2) := by decide +kernel
theorem dX2_init_68 : decode cX2_init 68 = .ok (.newarray .int, 2) := by decide +kernel
theorem dX2_init_70 : decode cX2_init 70 = .ok (.putfield 37, 3) := by decide +kernel
theorem dX2_init_73 : decode cX2_init 73 = .ok (.return_, 1) := by decide +kernel
theorem dX2_hasPoint_0 : decode cX2_hasPoint 0 = .ok (.iload_n 1, 1) := by decide +kernel
theorem dX2_hasPoint_1 : decode cX2_hasPoint 1 = .ok (.ifCond .lt 15, 3) := by decide +kernel
theorem dX2_hasPoint_4 : decode cX2_hasPoint 4 = .ok (.iload_n 1, 1) := by decide +kernel
theorem dX2_hasPoint_5 : decode cX2_hasPoint 5 = .ok (.aload_n 0, 1) := by decide +kernel
theorem dX2_hasPoint_6 : decode cX2_hasPoint 6 = .ok (.getfield 9, 3) := by decide +kernel
theorem dX2_hasPoint_9 : decode cX2_hasPoint 9 = .ok (.if_icmp .ge 7, 3) := by decide +kernel
theorem dX2_hasPoint_12 : decode cX2_hasPoint 12 = .ok (.iconst 1, 1) := by decide +kernel
theorem dX2_hasPoint_13 : decode cX2_hasPoint 13 = .ok (.goto 4, 3) := by decide +kernel
theorem dX2_hasPoint_16 : decode cX2_hasPoint 16 = .ok (.iconst 0, 1) := by decide +kernel
theorem dX2_hasPoint_17 : decode cX2_hasPoint 17 = .ok (.ireturn, 1) := by decide +kernel
theorem dX2_hasLine_0 : decode cX2_hasLine 0 = .ok (.iload_n 1, 1) := by decide +kernel
theorem dX2_hasLine_1 : decode cX2_hasLine 1 = .ok (.ifCond .lt 15, 3) := by decide +kernel
theorem dX2_hasLine_4 : decode cX2_hasLine 4 = .ok (.iload_n 1, 1) := by decide +kernel
theorem dX2_hasLine_5 : decode cX2_hasLine 5 = .ok (.aload_n 0, 1) := by decide +kernel
theorem dX2_hasLine_6 : decode cX2_hasLine 6 = .ok (.getfield 40, 3) := by decide +kernel
theorem dX2_hasLine_9 : decode cX2_hasLine 9 = .ok (.if_icmp .ge 7, 3) := by decide +kernel
theorem dX2_hasLine_12 : decode cX2_hasLine 12 = .ok (.iconst 1, 1) := by decide +kernel
theorem dX2_hasLine_13 : decode cX2_hasLine 13 = .ok (.goto 4, 3) := by decide +kernel
theorem dX2_hasLine_16 : decode cX2_hasLine 16 = .ok (.iconst 0, 1) := by decide +kernel
theorem dX2_hasLine_17 : decode cX2_hasLine 17 = .ok (.ireturn, 1) := by decide +kernel
theorem dX2_everyPoint_0 : decode cX2_everyPoint 0 = .ok (.iconst 1, 1) := by decide +kernel
theorem dX2_everyPoint_1 : decode cX2_everyPoint 1 = .ok (.aload_n 0, 1) := by decide +kernel
theorem dX2_everyPoint_2 : decode cX2_everyPoint 2 = .ok (.getfield 9, 3) := by decide +kernel
theorem dX2_everyPoint_5 : decode cX2_everyPoint 5 = .ok (.ishl, 1) := by decide +kernel
theorem dX2_everyPoint_6 : decode cX2_everyPoint 6 = .ok (.iconst 1, 1) := by decide +kernel
theorem dX2_everyPoint_7 : decode cX2_everyPoint 7 = .ok (.isub, 1) := by decide +kernel
theorem dX2_everyPoint_8 : decode cX2_everyPoint 8 = .ok (.ireturn, 1) := by decide +kernel
theorem dX2_clear_0 : decode cX2_clear 0 = .ok (.aload_n 0, 1) := by decide +kernel
theorem dX2_clear_1 : decode cX2_clear 1 = .ok (.iload_n 1, 1) := by decide +kernel
theorem dX2_clear_2 : decode cX2_clear 2 = .ok (.putfield 9, 3) := by decide +kernel
theorem dX2_clear_5 : decode cX2_clear 5 = .ok (.aload_n 0, 1) := by decide +kernel
theorem dX2_clear_6 : decode cX2_clear 6 = .ok (.iconst 0, 1) := by decide +kernel
theorem dX2_clear_7 : decode cX2_clear 7 = .ok (.putfield 40, 3) := by decide +kernel
theorem dX2_clear_10 : decode cX2_clear 10 = .ok (.aload_n 0, 1) := by decide +kernel
theorem dX2_clear_11 : decode cX2_clear 11 = .ok (.invokevirtual 43, 3) := by decide +kernel
theorem dX2_clear_14 : decode cX2_clear 14 = .ok (.return_, 1) := by decide +kernel
theorem dX2_join_0 : decode cX2_join 0 = .ok (.aload_n 0, 1) := by decide +kernel
theorem dX2_join_1 : decode cX2_join 1 = .ok (.getfield 40, 3) := by decide +kernel
theorem dX2_join_4 : decode cX2_join 4 = .ok (.bipush 12, 2) := by decide +kernel
theorem dX2_join_6 : decode cX2_join 6 = .ok (.if_icmp .ge 47, 3) := by decide +kernel
theorem dX2_join_9 : decode cX2_join 9 = .ok (.aload_n 0, 1) := by decide +kernel
theorem dX2_join_10 : decode cX2_join 10 = .ok (.getfield 15, 3) := by decide +kernel
theorem dX2_join_13 : decode cX2_join 13 = .ok (.aload_n 0, 1) := by decide +kernel
theorem dX2_join_14 : decode cX2_join 14 = .ok (.getfield 40, 3) := by decide +kernel
theorem dX2_join_17 : decode cX2_join 17 = .ok (.iload_n 1, 1) := by decide +kernel
theorem dX2_join_18 : decode cX2_join 18 = .ok (.iastore, 1) := by decide +kernel
theorem dX2_join_19 : decode cX2_join 19 = .ok (.aload_n 0, 1) := by decide +kernel
theorem dX2_join_20 : decode cX2_join 20 = .ok (.getfield 19, 3) := by decide +kernel
theorem dX2_join_23 : decode cX2_join 23 = .ok (.aload_n 0, 1) := by decide +kernel
theorem dX2_join_24 : decode cX2_join 24 = .ok (.getfield 40, 3) := by decide +kernel
theorem dX2_join_27 : decode cX2_join 27 = .ok (.iload_n 2, 1) := by decide +kernel
theorem dX2_join_28 : decode cX2_join 28 = .ok (.iastore, 1) := by decide +kernel
theorem dX2_join_29 : decode cX2_join 29 = .ok (.aload_n 0, 1) := by decide +kernel
theorem dX2_join_30 : decode cX2_join 30 = .ok (.getfield 22, 3) := by decide +kernel
theorem dX2_join_33 : decode cX2_join 33 = .ok (.aload_n 0, 1) := by decide +kernel
theorem dX2_join_34 : decode cX2_join 34 = .ok (.getfield 40, 3) := by decide +kernel
theorem dX2_join_37 : decode cX2_join 37 = .ok (.iload_n 3, 1) := by decide +kernel
theorem dX2_join_38 : decode cX2_join 38 = .ok (.iastore, 1) := by decide +kernel
theorem dX2_join_39 : decode cX2_join 39 = .ok (.aload_n 0, 1) := by decide +kernel
theorem dX2_join_40 : decode cX2_join 40 = .ok (.dup, 1) := by decide +kernel
theorem dX2_join_41 : decode cX2_join 41 = .ok (.getfield 40, 3) := by decide +kernel
theorem dX2_join_44 : decode cX2_join 44 = .ok (.iconst 1, 1) := by decide +kernel
theorem dX2_join_45 : decode cX2_join 45 = .ok (.iadd, 1) := by decide +kernel
theorem dX2_join_46 : decode cX2_join 46 = .ok (.putfield 40, 3) := by decide +kernel
theorem dX2_join_49 : decode cX2_join 49 = .ok (.aload_n 0, 1) := by decide +kernel
theorem dX2_join_50 : decode cX2_join 50 = .ok (.invokevirtual 43, 3) := by decide +kernel
theorem dX2_join_53 : decode cX2_join 53 = .ok (.return_, 1) := by decide +kernel
theorem dX2_turn_0 : decode cX2_turn 0 = .ok (.aload_n 0, 1) := by decide +kernel
theorem dX2_turn_1 : decode cX2_turn 1 = .ok (.getfield 22, 3) := by decide +kernel
theorem dX2_turn_4 : decode cX2_turn 4 = .ok (.iload_n 1, 1) := by decide +kernel
theorem dX2_turn_5 : decode cX2_turn 5 = .ok (.iload_n 2, 1) := by decide +kernel
theorem dX2_turn_6 : decode cX2_turn 6 = .ok (.iastore, 1) := by decide +kernel
theorem dX2_turn_7 : decode cX2_turn 7 = .ok (.aload_n 0, 1) := by decide +kernel
theorem dX2_turn_8 : decode cX2_turn 8 = .ok (.invokevirtual 43, 3) := by decide +kernel
theorem dX2_turn_11 : decode cX2_turn 11 = .ok (.return_, 1) := by decide +kernel
theorem dX2_remove_0 : decode cX2_remove 0 = .ok (.aload_n 0, 1) := by decide +kernel
theorem dX2_remove_1 : decode cX2_remove 1 = .ok (.getfield 40, 3) := by decide +kernel
theorem dX2_remove_4 : decode cX2_remove 4 = .ok (.iload_n 1, 1) := by decide +kernel
theorem dX2_remove_5 : decode cX2_remove 5 = .ok (.isub, 1) := by decide +kernel
theorem dX2_remove_6 : decode cX2_remove 6 = .ok (.iconst 1, 1) := by decide +kernel
theorem dX2_remove_7 : decode cX2_remove 7 = .ok (.isub, 1) := by decide +kernel
theorem dX2_remove_8 : decode cX2_remove 8 = .ok (.istore_n 2, 1) := by decide +kernel
theorem dX2_remove_9 : decode cX2_remove 9 = .ok (.aload_n 0, 1) := by decide +kernel
theorem dX2_remove_10 : decode cX2_remove 10 = .ok (.getfield 15, 3) := by decide +kernel
theorem dX2_remove_13 : decode cX2_remove 13 = .ok (.iload_n 1, 1) := by decide +kernel
theorem dX2_remove_14 : decode cX2_remove 14 = .ok (.iconst 1, 1) := by decide +kernel
theorem dX2_remove_15 : decode cX2_remove 15 = .ok (.iadd, 1) := by decide +kernel
theorem dX2_remove_16 : decode cX2_remove 16 = .ok (.aload_n 0, 1) := by decide +kernel
theorem dX2_remove_17 : decode cX2_remove 17 = .ok (.getfield 15, 3) := by decide +kernel
theorem dX2_remove_20 : decode cX2_remove 20 = .ok (.iload_n 1, 1) := by decide +kernel
theorem dX2_remove_21 : decode cX2_remove 21 = .ok (.iload_n 2, 1) := by decide +kernel
theorem dX2_remove_22 : decode cX2_remove 22 = .ok (.invokestatic 46, 3) := by decide +kernel
theorem dX2_remove_25 : decode cX2_remove 25 = .ok (.aload_n 0, 1) := by decide +kernel
theorem dX2_remove_26 : decode cX2_remove 26 = .ok (.getfield 19, 3) := by decide +kernel
theorem dX2_remove_29 : decode cX2_remove 29 = .ok (.iload_n 1, 1) := by decide +kernel
theorem dX2_remove_30 : decode cX2_remove 30 = .ok (.iconst 1, 1) := by decide +kernel
theorem dX2_remove_31 : decode cX2_remove 31 = .ok (.iadd, 1) := by decide +kernel
theorem dX2_remove_32 : decode cX2_remove 32 = .ok (.aload_n 0, 1) := by decide +kernel
theorem dX2_remove_33 : decode cX2_remove 33 = .ok (.getfield 19, 3) := by decide +kernel
theorem dX2_remove_36 : decode cX2_remove 36 = .ok (.iload_n 1, 1) := by decide +kernel
theorem dX2_remove_37 : decode cX2_remove 37 = .ok (.iload_n 2, 1) := by decide +kernel
theorem dX2_remove_38 : decode cX2_remove 38 = .ok (.invokestatic 46, 3) := by decide +kernel
theorem dX2_remove_41 : decode cX2_remove 41 = .ok (.aload_n 0, 1) := by decide +kernel
theorem dX2_remove_42 : decode cX2_remove 42 = .ok (.getfield 22, 3) := by decide +kernel
theorem dX2_remove_45 : decode cX2_remove 45 = .ok (.iload_n 1, 1) := by decide +kernel
theorem dX2_remove_46 : decode cX2_remove 46 = .ok (.iconst 1, 1) := by decide +kernel
theorem dX2_remove_47 : decode cX2_remove 47 = .ok (.iadd, 1) := by decide +kernel
theorem dX2_remove_48 : decode cX2_remove 48 = .ok (.aload_n 0, 1) := by decide +kernel
theorem dX2_remove_49 : decode cX2_remove 49 = .ok (.getfield 22, 3) := by decide +kernel
theorem dX2_remove_52 : decode cX2_remove 52 = .ok (.iload_n 1, 1) := by decide +kernel
theorem dX2_remove_53 : decode cX2_remove 53 = .ok (.iload_n 2, 1) := by decide +kernel
theorem dX2_remove_54 : decode cX2_remove 54 = .ok (.invokestatic 46, 3) := by decide +kernel
theorem dX2_remove_57 : decode cX2_remove 57 = .ok (.aload_n 0, 1) := by decide +kernel
theorem dX2_remove_58 : decode cX2_remove 58 = .ok (.dup, 1) := by decide +kernel
theorem dX2_remove_59 : decode cX2_remove 59 = .ok (.getfield 40, 3) := by decide +kernel
theorem dX2_remove_62 : decode cX2_remove 62 = .ok (.iconst 1, 1) := by decide +kernel
theorem dX2_remove_63 : decode cX2_remove 63 = .ok (.isub, 1) := by decide +kernel
theorem dX2_remove_64 : decode cX2_remove 64 = .ok (.putfield 40, 3) := by decide +kernel
theorem dX2_remove_67 : decode cX2_remove 67 = .ok (.aload_n 0, 1) := by decide +kernel
theorem dX2_remove_68 : decode cX2_remove 68 = .ok (.invokevirtual 43, 3) := by decide +kernel
theorem dX2_remove_71 : decode cX2_remove 71 = .ok (.return_, 1) := by decide +kernel
theorem dX2_become_0 : decode cX2_become 0 = .ok (.aload_n 0, 1) := by decide +kernel
theorem dX2_become_1 : decode cX2_become 1 = .ok (.aload_n 1, 1) := by decide +kernel
theorem dX2_become_2 : decode cX2_become 2 = .ok (.getfield 9, 3) := by decide +kernel
theorem dX2_become_5 : decode cX2_become 5 = .ok (.putfield 9, 3) := by decide +kernel
theorem dX2_become_8 : decode cX2_become 8 = .ok (.aload_n 0, 1) := by decide +kernel
theorem dX2_become_9 : decode cX2_become 9 = .ok (.aload_n 1, 1) := by decide +kernel
theorem dX2_become_10 : decode cX2_become 10 = .ok (.getfield 40, 3) := by decide +kernel
theorem dX2_become_13 : decode cX2_become 13 = .ok (.putfield 40, 3) := by decide +kernel
theorem dX2_become_16 : decode cX2_become 16 = .ok (.aload_n 1, 1) := by decide +kernel
theorem dX2_become_17 : decode cX2_become 17 = .ok (.getfield 15, 3) := by decide +kernel
theorem dX2_become_20 : decode cX2_become 20 = .ok (.iconst 0, 1) := by decide +kernel
theorem dX2_become_21 : decode cX2_become 21 = .ok (.aload_n 0, 1) := by decide +kernel
theorem dX2_become_22 : decode cX2_become 22 = .ok (.getfield 15, 3) := by decide +kernel
theorem dX2_become_25 : decode cX2_become 25 = .ok (.iconst 0, 1) := by decide +kernel
theorem dX2_become_26 : decode cX2_become 26 = .ok (.bipush 12, 2) := by decide +kernel
theorem dX2_become_28 : decode cX2_become 28 = .ok (.invokestatic 46, 3) := by decide +kernel
theorem dX2_become_31 : decode cX2_become 31 = .ok (.aload_n 1, 1) := by decide +kernel
theorem dX2_become_32 : decode cX2_become 32 = .ok (.getfield 19, 3) := by decide +kernel
theorem dX2_become_35 : decode cX2_become 35 = .ok (.iconst 0, 1) := by decide +kernel
theorem dX2_become_36 : decode cX2_become 36 = .ok (.aload_n 0, 1) := by decide +kernel
theorem dX2_become_37 : decode cX2_become 37 = .ok (.getfield 19, 3) := by decide +kernel
theorem dX2_become_40 : decode cX2_become 40 = .ok (.iconst 0, 1) := by decide +kernel
theorem dX2_become_41 : decode cX2_become 41 = .ok (.bipush 12, 2) := by decide +kernel
theorem dX2_become_43 : decode cX2_become 43 = .ok (.invokestatic 46, 3) := by decide +kernel
theorem dX2_become_46 : decode cX2_become 46 = .ok (.aload_n 1, 1) := by decide +kernel
theorem dX2_become_47 : decode cX2_become 47 = .ok (.getfield 22, 3) := by decide +kernel
theorem dX2_become_50 : decode cX2_become 50 = .ok (.iconst 0, 1) := by decide +kernel
theorem dX2_become_51 : decode cX2_become 51 = .ok (.aload_n 0, 1) := by decide +kernel
theorem dX2_become_52 : decode cX2_become 52 = .ok (.getfield 22, 3) := by decide +kernel
theorem dX2_become_55 : decode cX2_become 55 = .ok (.iconst 0, 1) := by decide +kernel
theorem dX2_become_56 : decode cX2_become 56 = .ok (.bipush 12, 2) := by decide +kernel
theorem dX2_become_58 : decode cX2_become 58 = .ok (.invokestatic 46, 3) := by decide +kernel
theorem dX2_become_61 : decode cX2_become 61 = .ok (.aload_n 0, 1) := by decide +kernel
theorem dX2_become_62 : decode cX2_become 62 = .ok (.invokevirtual 43, 3) := by decide +kernel
theorem dX2_become_65 : decode cX2_become 65 = .ok (.return_, 1) := by decide +kernel
theorem dX2_gather_0 : decode cX2_gather 0 = .ok (.aload_n 0, 1) := by decide +kernel
theorem dX2_gather_1 : decode cX2_gather 1 = .ok (.getfield 25, 3) := by decide +kernel
theorem dX2_gather_4 : decode cX2_gather 4 = .ok (.iconst 0, 1) := by decide +kernel
theorem dX2_gather_5 : decode cX2_gather 5 = .ok (.invokestatic 52, 3) := by decide +kernel
theorem dX2_gather_8 : decode cX2_gather 8 = .ok (.aload_n 0, 1) := by decide +kernel
theorem dX2_gather_9 : decode cX2_gather 9 = .ok (.getfield 28, 3) := by decide +kernel
theorem dX2_gather_12 : decode cX2_gather 12 = .ok (.iconst 0, 1) := by decide +kernel
theorem dX2_gather_13 : decode cX2_gather 13 = .ok (.invokestatic 52, 3) := by decide +kernel
theorem dX2_gather_16 : decode cX2_gather 16 = .ok (.aload_n 0, 1) := by decide +kernel
theorem dX2_gather_17 : decode cX2_gather 17 = .ok (.getfield 31, 3) := by decide +kernel
theorem dX2_gather_20 : decode cX2_gather 20 = .ok (.iconst 0, 1) := by decide +kernel
theorem dX2_gather_21 : decode cX2_gather 21 = .ok (.invokestatic 52, 3) := by decide +kernel
theorem dX2_gather_24 : decode cX2_gather 24 = .ok (.aload_n 0, 1) := by decide +kernel
theorem dX2_gather_25 : decode cX2_gather 25 = .ok (.getfield 34, 3) := by decide +kernel
theorem dX2_gather_28 : decode cX2_gather 28 = .ok (.iconst 0, 1) := by decide +kernel
theorem dX2_gather_29 : decode cX2_gather 29 = .ok (.invokestatic 52, 3) := by decide +kernel
theorem dX2_gather_32 : decode cX2_gather 32 = .ok (.aload_n 0, 1) := by decide +kernel
theorem dX2_gather_33 : decode cX2_gather 33 = .ok (.getfield 37, 3) := by decide +kernel
theorem dX2_gather_36 : decode cX2_gather 36 = .ok (.iconst 0, 1) := by decide +kernel
theorem dX2_gather_37 : decode cX2_gather 37 = .ok (.invokestatic 52, 3) := by decide +kernel
theorem dX2_gather_40 : decode cX2_gather 40 = .ok (.iconst 0, 1) := by decide +kernel
theorem dX2_gather_41 : decode cX2_gather 41 = .ok (.istore_n 1, 1) := by decide +kernel
theorem dX2_gather_42 : decode cX2_gather 42 = .ok (.iload_n 1, 1) := by decide +kernel
theorem dX2_gather_43 : decode cX2_gather 43 = .ok (.aload_n 0, 1) := by decide +kernel
theorem dX2_gather_44 : decode cX2_gather 44 = .ok (.getfield 40, 3) := by decide +kernel
theorem dX2_gather_47 : decode cX2_gather 47 = .ok (.if_icmp .ge 141, 3) := by decide +kernel
theorem dX2_gather_50 : decode cX2_gather 50 = .ok (.aload_n 0, 1) := by decide +kernel
theorem dX2_gather_51 : decode cX2_gather 51 = .ok (.getfield 25, 3) := by decide +kernel
theorem dX2_gather_54 : decode cX2_gather 54 = .ok (.aload_n 0, 1) := by decide +kernel
theorem dX2_gather_55 : decode cX2_gather 55 = .ok (.getfield 15, 3) := by decide +kernel
theorem dX2_gather_58 : decode cX2_gather 58 = .ok (.iload_n 1, 1) := by decide +kernel
theorem dX2_gather_59 : decode cX2_gather 59 = .ok (.iaload, 1) := by decide +kernel
theorem dX2_gather_60 : decode cX2_gather 60 = .ok (.dup2, 1) := by decide +kernel
theorem dX2_gather_61 : decode cX2_gather 61 = .ok (.iaload, 1) := by decide +kernel
theorem dX2_gather_62 : decode cX2_gather 62 = .ok (.iconst 1, 1) := by decide +kernel
theorem dX2_gather_63 : decode cX2_gather 63 = .ok (.iload_n 1, 1) := by decide +kernel
theorem dX2_gather_64 : decode cX2_gather 64 = .ok (.ishl, 1) := by decide +kernel
theorem dX2_gather_65 : decode cX2_gather 65 = .ok (.ior, 1) := by decide +kernel
theorem dX2_gather_66 : decode cX2_gather 66 = .ok (.iastore, 1) := by decide +kernel
theorem dX2_gather_67 : decode cX2_gather 67 = .ok (.aload_n 0, 1) := by decide +kernel
theorem dX2_gather_68 : decode cX2_gather 68 = .ok (.getfield 25, 3) := by decide +kernel
theorem dX2_gather_71 : decode cX2_gather 71 = .ok (.aload_n 0, 1) := by decide +kernel
theorem dX2_gather_72 : decode cX2_gather 72 = .ok (.getfield 19, 3) := by decide +kernel
theorem dX2_gather_75 : decode cX2_gather 75 = .ok (.iload_n 1, 1) := by decide +kernel
theorem dX2_gather_76 : decode cX2_gather 76 = .ok (.iaload, 1) := by decide +kernel
theorem dX2_gather_77 : decode cX2_gather 77 = .ok (.dup2, 1) := by decide +kernel
theorem dX2_gather_78 : decode cX2_gather 78 = .ok (.iaload, 1) := by decide +kernel
theorem dX2_gather_79 : decode cX2_gather 79 = .ok (.iconst 1, 1) := by decide +kernel
theorem dX2_gather_80 : decode cX2_gather 80 = .ok (.iload_n 1, 1) := by decide +kernel
theorem dX2_gather_81 : decode cX2_gather 81 = .ok (.ishl, 1) := by decide +kernel
theorem dX2_gather_82 : decode cX2_gather 82 = .ok (.ior, 1) := by decide +kernel
theorem dX2_gather_83 : decode cX2_gather 83 = .ok (.iastore, 1) := by decide +kernel
theorem dX2_gather_84 : decode cX2_gather 84 = .ok (.aload_n 0, 1) := by decide +kernel
theorem dX2_gather_85 : decode cX2_gather 85 = .ok (.getfield 34, 3) := by decide +kernel
theorem dX2_gather_88 : decode cX2_gather 88 = .ok (.aload_n 0, 1) := by decide +kernel
theorem dX2_gather_89 : decode cX2_gather 89 = .ok (.getfield 15, 3) := by decide +kernel
theorem dX2_gather_92 : decode cX2_gather 92 = .ok (.iload_n 1, 1) := by decide +kernel
theorem dX2_gather_93 : decode cX2_gather 93 = .ok (.iaload, 1) := by decide +kernel
theorem dX2_gather_94 : decode cX2_gather 94 = .ok (.dup2, 1) := by decide +kernel
theorem dX2_gather_95 : decode cX2_gather 95 = .ok (.iaload, 1) := by decide +kernel
theorem dX2_gather_96 : decode cX2_gather 96 = .ok (.iconst 1, 1) := by decide +kernel
theorem dX2_gather_97 : decode cX2_gather 97 = .ok (.aload_n 0, 1) := by decide +kernel
theorem dX2_gather_98 : decode cX2_gather 98 = .ok (.getfield 19, 3) := by decide +kernel
theorem dX2_gather_101 : decode cX2_gather 101 = .ok (.iload_n 1, 1) := by decide +kernel
theorem dX2_gather_102 : decode cX2_gather 102 = .ok (.iaload, 1) := by decide +kernel
theorem dX2_gather_103 : decode cX2_gather 103 = .ok (.ishl, 1) := by decide +kernel
theorem dX2_gather_104 : decode cX2_gather 104 = .ok (.ior, 1) := by decide +kernel
theorem dX2_gather_105 : decode cX2_gather 105 = .ok (.iastore, 1) := by decide +kernel
theorem dX2_gather_106 : decode cX2_gather 106 = .ok (.aload_n 0, 1) := by decide +kernel
theorem dX2_gather_107 : decode cX2_gather 107 = .ok (.getfield 34, 3) := by decide +kernel
theorem dX2_gather_110 : decode cX2_gather 110 = .ok (.aload_n 0, 1) := by decide +kernel
theorem dX2_gather_111 : decode cX2_gather 111 = .ok (.getfield 19, 3) := by decide +kernel
theorem dX2_gather_114 : decode cX2_gather 114 = .ok (.iload_n 1, 1) := by decide +kernel
theorem dX2_gather_115 : decode cX2_gather 115 = .ok (.iaload, 1) := by decide +kernel
theorem dX2_gather_116 : decode cX2_gather 116 = .ok (.dup2, 1) := by decide +kernel
theorem dX2_gather_117 : decode cX2_gather 117 = .ok (.iaload, 1) := by decide +kernel
theorem dX2_gather_118 : decode cX2_gather 118 = .ok (.iconst 1, 1) := by decide +kernel
theorem dX2_gather_119 : decode cX2_gather 119 = .ok (.aload_n 0, 1) := by decide +kernel
theorem dX2_gather_120 : decode cX2_gather 120 = .ok (.getfield 15, 3) := by decide +kernel
theorem dX2_gather_123 : decode cX2_gather 123 = .ok (.iload_n 1, 1) := by decide +kernel
theorem dX2_gather_124 : decode cX2_gather 124 = .ok (.iaload, 1) := by decide +kernel
theorem dX2_gather_125 : decode cX2_gather 125 = .ok (.ishl, 1) := by decide +kernel
theorem dX2_gather_126 : decode cX2_gather 126 = .ok (.ior, 1) := by decide +kernel
theorem dX2_gather_127 : decode cX2_gather 127 = .ok (.iastore, 1) := by decide +kernel
theorem dX2_gather_128 : decode cX2_gather 128 = .ok (.aload_n 0, 1) := by decide +kernel
theorem dX2_gather_129 : decode cX2_gather 129 = .ok (.getfield 22, 3) := by decide +kernel
theorem dX2_gather_132 : decode cX2_gather 132 = .ok (.iload_n 1, 1) := by decide +kernel
theorem dX2_gather_133 : decode cX2_gather 133 = .ok (.iaload, 1) := by decide +kernel
theorem dX2_gather_134 : decode cX2_gather 134 = .ok (.iconst 2, 1) := by decide +kernel
theorem dX2_gather_135 : decode cX2_gather 135 = .ok (.if_icmp .eq 20, 3) := by decide +kernel
theorem dX2_gather_138 : decode cX2_gather 138 = .ok (.aload_n 0, 1) := by decide +kernel
theorem dX2_gather_139 : decode cX2_gather 139 = .ok (.iload_n 1, 1) := by decide +kernel
theorem dX2_gather_140 : decode cX2_gather 140 = .ok (.aload_n 0, 1) := by decide +kernel
theorem dX2_gather_141 : decode cX2_gather 141 = .ok (.getfield 15, 3) := by decide +kernel
theorem dX2_gather_144 : decode cX2_gather 144 = .ok (.iload_n 1, 1) := by decide +kernel
theorem dX2_gather_145 : decode cX2_gather 145 = .ok (.iaload, 1) := by decide +kernel
theorem dX2_gather_146 : decode cX2_gather 146 = .ok (.aload_n 0, 1) := by decide +kernel
theorem dX2_gather_147 : decode cX2_gather 147 = .ok (.getfield 19, 3) := by decide +kernel
theorem dX2_gather_150 : decode cX2_gather 150 = .ok (.iload_n 1, 1) := by decide +kernel
theorem dX2_gather_151 : decode cX2_gather 151 = .ok (.iaload, 1) := by decide +kernel
theorem dX2_gather_152 : decode cX2_gather 152 = .ok (.invokevirtual 58, 3) := by decide +kernel
theorem dX2_gather_155 : decode cX2_gather 155 = .ok (.aload_n 0, 1) := by decide +kernel
theorem dX2_gather_156 : decode cX2_gather 156 = .ok (.getfield 22, 3) := by decide +kernel
theorem dX2_gather_159 : decode cX2_gather 159 = .ok (.iload_n 1, 1) := by decide +kernel
theorem dX2_gather_160 : decode cX2_gather 160 = .ok (.iaload, 1) := by decide +kernel
theorem dX2_gather_161 : decode cX2_gather 161 = .ok (.iconst 1, 1) := by decide +kernel
theorem dX2_gather_162 : decode cX2_gather 162 = .ok (.if_icmp .eq 20, 3) := by decide +kernel
theorem dX2_gather_165 : decode cX2_gather 165 = .ok (.aload_n 0, 1) := by decide +kernel
theorem dX2_gather_166 : decode cX2_gather 166 = .ok (.iload_n 1, 1) := by decide +kernel
theorem dX2_gather_167 : decode cX2_gather 167 = .ok (.aload_n 0, 1) := by decide +kernel
theorem dX2_gather_168 : decode cX2_gather 168 = .ok (.getfield 19, 3) := by decide +kernel
theorem dX2_gather_171 : decode cX2_gather 171 = .ok (.iload_n 1, 1) := by decide +kernel
theorem dX2_gather_172 : decode cX2_gather 172 = .ok (.iaload, 1) := by decide +kernel
theorem dX2_gather_173 : decode cX2_gather 173 = .ok (.aload_n 0, 1) := by decide +kernel
theorem dX2_gather_174 : decode cX2_gather 174 = .ok (.getfield 15, 3) := by decide +kernel
theorem dX2_gather_177 : decode cX2_gather 177 = .ok (.iload_n 1, 1) := by decide +kernel
theorem dX2_gather_178 : decode cX2_gather 178 = .ok (.iaload, 1) := by decide +kernel
theorem dX2_gather_179 : decode cX2_gather 179 = .ok (.invokevirtual 58, 3) := by decide +kernel
theorem dX2_gather_182 : decode cX2_gather 182 = .ok (.iinc 1 1, 3) := by decide +kernel
theorem dX2_gather_185 : decode cX2_gather 185 = .ok (.goto (-143), 3) := by decide +kernel
theorem dX2_gather_188 : decode cX2_gather 188 = .ok (.return_, 1) := by decide +kernel
theorem dX2_lead_0 : decode cX2_lead 0 = .ok (.aload_n 0, 1) := by decide +kernel
theorem dX2_lead_1 : decode cX2_lead 1 = .ok (.getfield 28, 3) := by decide +kernel
theorem dX2_lead_4 : decode cX2_lead 4 = .ok (.iload_n 2, 1) := by decide +kernel
theorem dX2_lead_5 : decode cX2_lead 5 = .ok (.dup2, 1) := by decide +kernel
theorem dX2_lead_6 : decode cX2_lead 6 = .ok (.iaload, 1) := by decide +kernel
theorem dX2_lead_7 : decode cX2_lead 7 = .ok (.iconst 1, 1) := by decide +kernel
theorem dX2_lead_8 : decode cX2_lead 8 = .ok (.iload_n 1, 1) := by decide +kernel
theorem dX2_lead_9 : decode cX2_lead 9 = .ok (.ishl, 1) := by decide +kernel
theorem dX2_lead_10 : decode cX2_lead 10 = .ok (.ior, 1) := by decide +kernel
theorem dX2_lead_11 : decode cX2_lead 11 = .ok (.iastore, 1) := by decide +kernel
theorem dX2_lead_12 : decode cX2_lead 12 = .ok (.aload_n 0, 1) := by decide +kernel
theorem dX2_lead_13 : decode cX2_lead 13 = .ok (.getfield 31, 3) := by decide +kernel
theorem dX2_lead_16 : decode cX2_lead 16 = .ok (.iload_n 3, 1) := by decide +kernel
theorem dX2_lead_17 : decode cX2_lead 17 = .ok (.dup2, 1) := by decide +kernel
theorem dX2_lead_18 : decode cX2_lead 18 = .ok (.iaload, 1) := by decide +kernel
theorem dX2_lead_19 : decode cX2_lead 19 = .ok (.iconst 1, 1) := by decide +kernel
theorem dX2_lead_20 : decode cX2_lead 20 = .ok (.iload_n 1, 1) := by decide +kernel
theorem dX2_lead_21 : decode cX2_lead 21 = .ok (.ishl, 1) := by decide +kernel
theorem dX2_lead_22 : decode cX2_lead 22 = .ok (.ior, 1) := by decide +kernel
theorem dX2_lead_23 : decode cX2_lead 23 = .ok (.iastore, 1) := by decide +kernel
theorem dX2_lead_24 : decode cX2_lead 24 = .ok (.aload_n 0, 1) := by decide +kernel
theorem dX2_lead_25 : decode cX2_lead 25 = .ok (.getfield 37, 3) := by decide +kernel
theorem dX2_lead_28 : decode cX2_lead 28 = .ok (.iload_n 2, 1) := by decide +kernel
theorem dX2_lead_29 : decode cX2_lead 29 = .ok (.dup2, 1) := by decide +kernel
theorem dX2_lead_30 : decode cX2_lead 30 = .ok (.iaload, 1) := by decide +kernel
theorem dX2_lead_31 : decode cX2_lead 31 = .ok (.iconst 1, 1) := by decide +kernel
theorem dX2_lead_32 : decode cX2_lead 32 = .ok (.iload_n 3, 1) := by decide +kernel
theorem dX2_lead_33 : decode cX2_lead 33 = .ok (.ishl, 1) := by decide +kernel
theorem dX2_lead_34 : decode cX2_lead 34 = .ok (.ior, 1) := by decide +kernel
theorem dX2_lead_35 : decode cX2_lead 35 = .ok (.iastore, 1) := by decide +kernel
theorem dX2_lead_36 : decode cX2_lead 36 = .ok (.return_, 1) := by decide +kernel
theorem dX2_degree_0 : decode cX2_degree 0 = .ok (.iload_n 2, 1) := by decide +kernel
theorem dX2_degree_1 : decode cX2_degree 1 = .ok (.ifCond .ne 13, 3) := by decide +kernel
theorem dX2_degree_4 : decode cX2_degree 4 = .ok (.aload_n 0, 1) := by decide +kernel
theorem dX2_degree_5 : decode cX2_degree 5 = .ok (.getfield 25, 3) := by decide +kernel
theorem dX2_degree_8 : decode cX2_degree 8 = .ok (.iload_n 1, 1) := by decide +kernel
theorem dX2_degree_9 : decode cX2_degree 9 = .ok (.iaload, 1) := by decide +kernel
theorem dX2_degree_10 : decode cX2_degree 10 = .ok (.invokestatic 62, 3) := by decide +kernel
theorem dX2_degree_13 : decode cX2_degree 13 = .ok (.ireturn, 1) := by decide +kernel
theorem dX2_degree_14 : decode cX2_degree 14 = .ok (.iload_n 2, 1) := by decide +kernel
theorem dX2_degree_15 : decode cX2_degree 15 = .ok (.iconst 1, 1) := by decide +kernel
theorem dX2_degree_16 : decode cX2_degree 16 = .ok (.if_icmp .ne 12, 3) := by decide +kernel
theorem dX2_degree_19 : decode cX2_degree 19 = .ok (.aload_n 0, 1) := by decide +kernel
theorem dX2_degree_20 : decode cX2_degree 20 = .ok (.getfield 28, 3) := by decide +kernel
theorem dX2_degree_23 : decode cX2_degree 23 = .ok (.iload_n 1, 1) := by decide +kernel
theorem dX2_degree_24 : decode cX2_degree 24 = .ok (.iaload, 1) := by decide +kernel
theorem dX2_degree_25 : decode cX2_degree 25 = .ok (.goto 9, 3) := by decide +kernel
theorem dX2_degree_28 : decode cX2_degree 28 = .ok (.aload_n 0, 1) := by decide +kernel
theorem dX2_degree_29 : decode cX2_degree 29 = .ok (.getfield 31, 3) := by decide +kernel
theorem dX2_degree_32 : decode cX2_degree 32 = .ok (.iload_n 1, 1) := by decide +kernel
theorem dX2_degree_33 : decode cX2_degree 33 = .ok (.iaload, 1) := by decide +kernel
theorem dX2_degree_34 : decode cX2_degree 34 = .ok (.invokestatic 62, 3) := by decide +kernel
theorem dX2_degree_37 : decode cX2_degree 37 = .ok (.ireturn, 1) := by decide +kernel
theorem dX2_otherEnd_0 : decode cX2_otherEnd 0 = .ok (.aload_n 0, 1) := by decide +kernel
theorem dX2_otherEnd_1 : decode cX2_otherEnd 1 = .ok (.getfield 15, 3) := by decide +kernel
theorem dX2_otherEnd_4 : decode cX2_otherEnd 4 = .ok (.iload_n 1, 1) := by decide +kernel
theorem dX2_otherEnd_5 : decode cX2_otherEnd 5 = .ok (.iaload, 1) := by decide +kernel
theorem dX2_otherEnd_6 : decode cX2_otherEnd 6 = .ok (.aload_n 0, 1) := by decide +kernel
theorem dX2_otherEnd_7 : decode cX2_otherEnd 7 = .ok (.getfield 19, 3) := by decide +kernel
theorem dX2_otherEnd_10 : decode cX2_otherEnd 10 = .ok (.iload_n 1, 1) := by decide +kernel
theorem dX2_otherEnd_11 : decode cX2_otherEnd 11 = .ok (.iaload, 1) := by decide +kernel
theorem dX2_otherEnd_12 : decode cX2_otherEnd 12 = .ok (.ixor, 1) := by decide +kernel
theorem dX2_otherEnd_13 : decode cX2_otherEnd 13 = .ok (.iload_n 2, 1) := by decide +kernel
theorem dX2_otherEnd_14 : decode cX2_otherEnd 14 = .ok (.ixor, 1) := by decide +kernel
theorem dX2_otherEnd_15 : decode cX2_otherEnd 15 = .ok (.ireturn, 1) := by decide +kernel
theorem dX2_endsAsSet_0 : decode cX2_endsAsSet 0 = .ok (.iconst 1, 1) := by decide +kernel
theorem dX2_endsAsSet_1 : decode cX2_endsAsSet 1 = .ok (.aload_n 0, 1) := by decide +kernel
theorem dX2_endsAsSet_2 : decode cX2_endsAsSet 2 = .ok (.getfield 15, 3) := by decide +kernel
theorem dX2_endsAsSet_5 : decode cX2_endsAsSet 5 = .ok (.iload_n 1, 1) := by decide +kernel
theorem dX2_endsAsSet_6 : decode cX2_endsAsSet 6 = .ok (.iaload, 1) := by decide +kernel
theorem dX2_endsAsSet_7 : decode cX2_endsAsSet 7 = .ok (.ishl, 1) := by decide +kernel
theorem dX2_endsAsSet_8 : decode cX2_endsAsSet 8 = .ok (.iconst 1, 1) := by decide +kernel
theorem dX2_endsAsSet_9 : decode cX2_endsAsSet 9 = .ok (.aload_n 0, 1) := by decide +kernel
theorem dX2_endsAsSet_10 : decode cX2_endsAsSet 10 = .ok (.getfield 19, 3) := by decide +kernel
theorem dX2_endsAsSet_13 : decode cX2_endsAsSet 13 = .ok (.iload_n 1, 1) := by decide +kernel
theorem dX2_endsAsSet_14 : decode cX2_endsAsSet 14 = .ok (.iaload, 1) := by decide +kernel
theorem dX2_endsAsSet_15 : decode cX2_endsAsSet 15 = .ok (.ishl, 1) := by decide +kernel
theorem dX2_endsAsSet_16 : decode cX2_endsAsSet 16 = .ok (.ior, 1) := by decide +kernel
theorem dX2_endsAsSet_17 : decode cX2_endsAsSet 17 = .ok (.ireturn, 1) := by decide +kernel
theorem dX2_sideZero_0 : decode cX2_sideZero 0 = .ok (.iconst 0, 1) := by decide +kernel
theorem dX2_sideZero_1 : decode cX2_sideZero 1 = .ok (.istore_n 1, 1) := by decide +kernel
theorem dX2_sideZero_2 : decode cX2_sideZero 2 = .ok (.iconst 0, 1) := by decide +kernel
theorem dX2_sideZero_3 : decode cX2_sideZero 3 = .ok (.istore_n 2, 1) := by decide +kernel
theorem dX2_sideZero_4 : decode cX2_sideZero 4 = .ok (.iconst 0, 1) := by decide +kernel
theorem dX2_sideZero_5 : decode cX2_sideZero 5 = .ok (.istore_n 3, 1) := by decide +kernel
theorem dX2_sideZero_6 : decode cX2_sideZero 6 = .ok (.iload_n 3, 1) := by decide +kernel
theorem dX2_sideZero_7 : decode cX2_sideZero 7 = .ok (.aload_n 0, 1) := by decide +kernel
theorem dX2_sideZero_8 : decode cX2_sideZero 8 = .ok (.getfield 9, 3) := by decide +kernel
theorem dX2_sideZero_11 : decode cX2_sideZero 11 = .ok (.if_icmp .ge 59, 3) := by decide +kernel
theorem dX2_sideZero_14 : decode cX2_sideZero 14 = .ok (.iload_n 1, 1) := by decide +kernel
theorem dX2_sideZero_15 : decode cX2_sideZero 15 = .ok (.iload_n 2, 1) := by decide +kernel
theorem dX2_sideZero_16 : decode cX2_sideZero 16 = .ok (.ior, 1) := by decide +kernel
theorem dX2_sideZero_17 : decode cX2_sideZero 17 = .ok (.iload_n 3, 1) := by decide +kernel
theorem dX2_sideZero_18 : decode cX2_sideZero 18 = .ok (.ishr, 1) := by decide +kernel
theorem dX2_sideZero_19 : decode cX2_sideZero 19 = .ok (.iconst 1, 1) := by decide +kernel
theorem dX2_sideZero_20 : decode cX2_sideZero 20 = .ok (.iand, 1) := by decide +kernel
theorem dX2_sideZero_21 : decode cX2_sideZero 21 = .ok (.ifCond .ne 9, 3) := by decide +kernel
theorem dX2_sideZero_24 : decode cX2_sideZero 24 = .ok (.iload_n 1, 1) := by decide +kernel
theorem dX2_sideZero_25 : decode cX2_sideZero 25 = .ok (.iconst 1, 1) := by decide +kernel
theorem dX2_sideZero_26 : decode cX2_sideZero 26 = .ok (.iload_n 3, 1) := by decide +kernel
theorem dX2_sideZero_27 : decode cX2_sideZero 27 = .ok (.ishl, 1) := by decide +kernel
theorem dX2_sideZero_28 : decode cX2_sideZero 28 = .ok (.ior, 1) := by decide +kernel
theorem dX2_sideZero_29 : decode cX2_sideZero 29 = .ok (.istore_n 1, 1) := by decide +kernel
theorem dX2_sideZero_30 : decode cX2_sideZero 30 = .ok (.iconst 0, 1) := by decide +kernel
theorem dX2_sideZero_31 : decode cX2_sideZero 31 = .ok (.istore 4, 2) := by decide +kernel
theorem dX2_sideZero_33 : decode cX2_sideZero 33 = .ok (.iload 4, 2) := by decide +kernel
theorem dX2_sideZero_35 : decode cX2_sideZero 35 = .ok (.aload_n 0, 1) := by decide +kernel
theorem dX2_sideZero_36 : decode cX2_sideZero 36 = .ok (.getfield 9, 3) := by decide +kernel
theorem dX2_sideZero_39 : decode cX2_sideZero 39 = .ok (.if_icmp .ge 25, 3) := by decide +kernel
theorem dX2_sideZero_42 : decode cX2_sideZero 42 = .ok (.iload_n 2, 1) := by decide +kernel
theorem dX2_sideZero_43 : decode cX2_sideZero 43 = .ok (.aload_n 0, 1) := by decide +kernel
theorem dX2_sideZero_44 : decode cX2_sideZero 44 = .ok (.iload_n 1, 1) := by decide +kernel
theorem dX2_sideZero_45 : decode cX2_sideZero 45 = .ok (.invokevirtual 68, 3) := by decide +kernel
theorem dX2_sideZero_48 : decode cX2_sideZero 48 = .ok (.ior, 1) := by decide +kernel
theorem dX2_sideZero_49 : decode cX2_sideZero 49 = .ok (.istore_n 2, 1) := by decide +kernel
theorem dX2_sideZero_50 : decode cX2_sideZero 50 = .ok (.iload_n 1, 1) := by decide +kernel
theorem dX2_sideZero_51 : decode cX2_sideZero 51 = .ok (.aload_n 0, 1) := by decide +kernel
theorem dX2_sideZero_52 : decode cX2_sideZero 52 = .ok (.iload_n 2, 1) := by decide +kernel
theorem dX2_sideZero_53 : decode cX2_sideZero 53 = .ok (.invokevirtual 68, 3) := by decide +kernel
theorem dX2_sideZero_56 : decode cX2_sideZero 56 = .ok (.ior, 1) := by decide +kernel
theorem dX2_sideZero_57 : decode cX2_sideZero 57 = .ok (.istore_n 1, 1) := by decide +kernel
theorem dX2_sideZero_58 : decode cX2_sideZero 58 = .ok (.iinc 4 1, 3) := by decide +kernel
theorem dX2_sideZero_61 : decode cX2_sideZero 61 = .ok (.goto (-28), 3) := by decide +kernel
theorem dX2_sideZero_64 : decode cX2_sideZero 64 = .ok (.iinc 3 1, 3) := by decide +kernel
theorem dX2_sideZero_67 : decode cX2_sideZero 67 = .ok (.goto (-61), 3) := by decide +kernel
theorem dX2_sideZero_70 : decode cX2_sideZero 70 = .ok (.iload_n 1, 1) := by decide +kernel
theorem dX2_sideZero_71 : decode cX2_sideZero 71 = .ok (.iload_n 2, 1) := by decide +kernel
theorem dX2_sideZero_72 : decode cX2_sideZero 72 = .ok (.iand, 1) := by decide +kernel
theorem dX2_sideZero_73 : decode cX2_sideZero 73 = .ok (.ifCond .ne 7, 3) := by decide +kernel
theorem dX2_sideZero_76 : decode cX2_sideZero 76 = .ok (.iload_n 1, 1) := by decide +kernel
theorem dX2_sideZero_77 : decode cX2_sideZero 77 = .ok (.goto 4, 3) := by decide +kernel
theorem dX2_sideZero_80 : decode cX2_sideZero 80 = .ok (.iconst (-1), 1) := by decide +kernel
theorem dX2_sideZero_81 : decode cX2_sideZero 81 = .ok (.ireturn, 1) := by decide +kernel
theorem dX2_neighbours_0 : decode cX2_neighbours 0 = .ok (.iconst 0, 1) := by decide +kernel
theorem dX2_neighbours_1 : decode cX2_neighbours 1 = .ok (.istore_n 2, 1) := by decide +kernel
theorem dX2_neighbours_2 : decode cX2_neighbours 2 = .ok (.iconst 0, 1) := by decide +kernel
theorem dX2_neighbours_3 : decode cX2_neighbours 3 = .ok (.istore_n 3, 1) := by decide +kernel
theorem dX2_neighbours_4 : decode cX2_neighbours 4 = .ok (.iload_n 3, 1) := by decide +kernel
theorem dX2_neighbours_5 : decode cX2_neighbours 5 = .ok (.aload_n 0, 1) := by decide +kernel
theorem dX2_neighbours_6 : decode cX2_neighbours 6 = .ok (.getfield 9, 3) := by decide +kernel
theorem dX2_neighbours_9 : decode cX2_neighbours 9 = .ok (.if_icmp .ge 26, 3) := by decide +kernel
theorem dX2_neighbours_12 : decode cX2_neighbours 12 = .ok (.iload_n 1, 1) := by decide +kernel
theorem dX2_neighbours_13 : decode cX2_neighbours 13 = .ok (.iload_n 3, 1) := by decide +kernel
theorem dX2_neighbours_14 : decode cX2_neighbours 14 = .ok (.ishr, 1) := by decide +kernel
theorem dX2_neighbours_15 : decode cX2_neighbours 15 = .ok (.iconst 1, 1) := by decide +kernel
theorem dX2_neighbours_16 : decode cX2_neighbours 16 = .ok (.iand, 1) := by decide +kernel
theorem dX2_neighbours_17 : decode cX2_neighbours 17 = .ok (.ifCond .eq 12, 3) := by decide +kernel
theorem dX2_neighbours_20 : decode cX2_neighbours 20 = .ok (.iload_n 2, 1) := by decide +kernel
theorem dX2_neighbours_21 : decode cX2_neighbours 21 = .ok (.aload_n 0, 1) := by decide +kernel
theorem dX2_neighbours_22 : decode cX2_neighbours 22 = .ok (.getfield 34, 3) := by decide +kernel
theorem dX2_neighbours_25 : decode cX2_neighbours 25 = .ok (.iload_n 3, 1) := by decide +kernel
theorem dX2_neighbours_26 : decode cX2_neighbours 26 = .ok (.iaload, 1) := by decide +kernel
theorem dX2_neighbours_27 : decode cX2_neighbours 27 = .ok (.ior, 1) := by decide +kernel
theorem dX2_neighbours_28 : decode cX2_neighbours 28 = .ok (.istore_n 2, 1) := by decide +kernel
theorem dX2_neighbours_29 : decode cX2_neighbours 29 = .ok (.iinc 3 1, 3) := by decide +kernel
theorem dX2_neighbours_32 : decode cX2_neighbours 32 = .ok (.goto (-28), 3) := by decide +kernel
theorem dX2_neighbours_35 : decode cX2_neighbours 35 = .ok (.iload_n 2, 1) := by decide +kernel
theorem dX2_neighbours_36 : decode cX2_neighbours 36 = .ok (.ireturn, 1) := by decide +kernel
theorem dX2_isKernel_0 : decode cX2_isKernel 0 = .ok (.iconst 0, 1) := by decide +kernel
theorem dX2_isKernel_1 : decode cX2_isKernel 1 = .ok (.istore_n 2, 1) := by decide +kernel
theorem dX2_isKernel_2 : decode cX2_isKernel 2 = .ok (.iload_n 2, 1) := by decide +kernel
theorem dX2_isKernel_3 : decode cX2_isKernel 3 = .ok (.aload_n 0, 1) := by decide +kernel
theorem dX2_isKernel_4 : decode cX2_isKernel 4 = .ok (.getfield 9, 3) := by decide +kernel
theorem dX2_isKernel_7 : decode cX2_isKernel 7 = .ok (.if_icmp .ge 49, 3) := by decide +kernel
theorem dX2_isKernel_10 : decode cX2_isKernel 10 = .ok (.iload_n 1, 1) := by decide +kernel
theorem dX2_isKernel_11 : decode cX2_isKernel 11 = .ok (.iload_n 2, 1) := by decide +kernel
theorem dX2_isKernel_12 : decode cX2_isKernel 12 = .ok (.ishr, 1) := by decide +kernel
theorem dX2_isKernel_13 : decode cX2_isKernel 13 = .ok (.iconst 1, 1) := by decide +kernel
theorem dX2_isKernel_14 : decode cX2_isKernel 14 = .ok (.iand, 1) := by decide +kernel
theorem dX2_isKernel_15 : decode cX2_isKernel 15 = .ok (.ifCond .eq 7, 3) := by decide +kernel
theorem dX2_isKernel_18 : decode cX2_isKernel 18 = .ok (.iconst 1, 1) := by decide +kernel
theorem dX2_isKernel_19 : decode cX2_isKernel 19 = .ok (.goto 4, 3) := by decide +kernel
theorem dX2_isKernel_22 : decode cX2_isKernel 22 = .ok (.iconst 0, 1) := by decide +kernel
theorem dX2_isKernel_23 : decode cX2_isKernel 23 = .ok (.istore_n 3, 1) := by decide +kernel
theorem dX2_isKernel_24 : decode cX2_isKernel 24 = .ok (.aload_n 0, 1) := by decide +kernel
theorem dX2_isKernel_25 : decode cX2_isKernel 25 = .ok (.getfield 37, 3) := by decide +kernel
theorem dX2_isKernel_28 : decode cX2_isKernel 28 = .ok (.iload_n 2, 1) := by decide +kernel
theorem dX2_isKernel_29 : decode cX2_isKernel 29 = .ok (.iaload, 1) := by decide +kernel
theorem dX2_isKernel_30 : decode cX2_isKernel 30 = .ok (.iload_n 1, 1) := by decide +kernel
theorem dX2_isKernel_31 : decode cX2_isKernel 31 = .ok (.iand, 1) := by decide +kernel
theorem dX2_isKernel_32 : decode cX2_isKernel 32 = .ok (.ifCond .eq 7, 3) := by decide +kernel
theorem dX2_isKernel_35 : decode cX2_isKernel 35 = .ok (.iconst 1, 1) := by decide +kernel
theorem dX2_isKernel_36 : decode cX2_isKernel 36 = .ok (.goto 4, 3) := by decide +kernel
theorem dX2_isKernel_39 : decode cX2_isKernel 39 = .ok (.iconst 0, 1) := by decide +kernel
theorem dX2_isKernel_40 : decode cX2_isKernel 40 = .ok (.istore 4, 2) := by decide +kernel
theorem dX2_isKernel_42 : decode cX2_isKernel 42 = .ok (.iload_n 3, 1) := by decide +kernel
theorem dX2_isKernel_43 : decode cX2_isKernel 43 = .ok (.iload 4, 2) := by decide +kernel
theorem dX2_isKernel_45 : decode cX2_isKernel 45 = .ok (.if_icmp .ne 5, 3) := by decide +kernel
theorem dX2_isKernel_48 : decode cX2_isKernel 48 = .ok (.iconst 0, 1) := by decide +kernel
theorem dX2_isKernel_49 : decode cX2_isKernel 49 = .ok (.ireturn, 1) := by decide +kernel
theorem dX2_isKernel_50 : decode cX2_isKernel 50 = .ok (.iinc 2 1, 3) := by decide +kernel
theorem dX2_isKernel_53 : decode cX2_isKernel 53 = .ok (.goto (-51), 3) := by decide +kernel
theorem dX2_isKernel_56 : decode cX2_isKernel 56 = .ok (.iconst 1, 1) := by decide +kernel
theorem dX2_isKernel_57 : decode cX2_isKernel 57 = .ok (.ireturn, 1) := by decide +kernel
theorem dX2_mostPairs_0 : decode cX2_mostPairs 0 = .ok (.aload_n 0, 1) := by decide +kernel
theorem dX2_mostPairs_1 : decode cX2_mostPairs 1 = .ok (.aload_n 0, 1) := by decide +kernel
theorem dX2_mostPairs_2 : decode cX2_mostPairs 2 = .ok (.getfield 40, 3) := by decide +kernel
theorem dX2_mostPairs_5 : decode cX2_mostPairs 5 = .ok (.iload_n 1, 1) := by decide +kernel
theorem dX2_mostPairs_6 : decode cX2_mostPairs 6 = .ok (.invokevirtual 71, 3) := by decide +kernel
theorem dX2_mostPairs_9 : decode cX2_mostPairs 9 = .ok (.ireturn, 1) := by decide +kernel
theorem dX2_pairsAmong_0 : decode cX2_pairsAmong 0 = .ok (.iload_n 1, 1) := by decide +kernel
theorem dX2_pairsAmong_1 : decode cX2_pairsAmong 1 = .ok (.iconst 1, 1) := by decide +kernel
theorem dX2_pairsAmong_2 : decode cX2_pairsAmong 2 = .ok (.if_icmp .lt 19, 3) := by decide +kernel
theorem dX2_pairsAmong_5 : decode cX2_pairsAmong 5 = .ok (.iload_n 1, 1) := by decide +kernel
theorem dX2_pairsAmong_6 : decode cX2_pairsAmong 6 = .ok (.aload_n 0, 1) := by decide +kernel
theorem dX2_pairsAmong_7 : decode cX2_pairsAmong 7 = .ok (.getfield 40, 3) := by decide +kernel
theorem dX2_pairsAmong_10 : decode cX2_pairsAmong 10 = .ok (.if_icmp .gt 11, 3) := by decide +kernel
theorem dX2_pairsAmong_13 : decode cX2_pairsAmong 13 = .ok (.iload_n 2, 1) := by decide +kernel
theorem dX2_pairsAmong_14 : decode cX2_pairsAmong 14 = .ok (.invokestatic 62, 3) := by decide +kernel
theorem dX2_pairsAmong_17 : decode cX2_pairsAmong 17 = .ok (.iconst 2, 1) := by decide +kernel
theorem dX2_pairsAmong_18 : decode cX2_pairsAmong 18 = .ok (.if_icmp .ge 5, 3) := by decide +kernel
theorem dX2_pairsAmong_21 : decode cX2_pairsAmong 21 = .ok (.iconst 0, 1) := by decide +kernel
theorem dX2_pairsAmong_22 : decode cX2_pairsAmong 22 = .ok (.ireturn, 1) := by decide +kernel
theorem dX2_pairsAmong_23 : decode cX2_pairsAmong 23 = .ok (.aload_n 0, 1) := by decide +kernel
theorem dX2_pairsAmong_24 : decode cX2_pairsAmong 24 = .ok (.iload_n 1, 1) := by decide +kernel
theorem dX2_pairsAmong_25 : decode cX2_pairsAmong 25 = .ok (.iconst 1, 1) := by decide +kernel
theorem dX2_pairsAmong_26 : decode cX2_pairsAmong 26 = .ok (.isub, 1) := by decide +kernel
theorem dX2_pairsAmong_27 : decode cX2_pairsAmong 27 = .ok (.invokevirtual 75, 3) := by decide +kernel
theorem dX2_pairsAmong_30 : decode cX2_pairsAmong 30 = .ok (.istore_n 3, 1) := by decide +kernel
theorem dX2_pairsAmong_31 : decode cX2_pairsAmong 31 = .ok (.iload_n 2, 1) := by decide +kernel
theorem dX2_pairsAmong_32 : decode cX2_pairsAmong 32 = .ok (.iload_n 3, 1) := by decide +kernel
theorem dX2_pairsAmong_33 : decode cX2_pairsAmong 33 = .ok (.iand, 1) := by decide +kernel
theorem dX2_pairsAmong_34 : decode cX2_pairsAmong 34 = .ok (.iload_n 3, 1) := by decide +kernel
theorem dX2_pairsAmong_35 : decode cX2_pairsAmong 35 = .ok (.if_icmp .eq 12, 3) := by decide +kernel
theorem dX2_pairsAmong_38 : decode cX2_pairsAmong 38 = .ok (.aload_n 0, 1) := by decide +kernel
theorem dX2_pairsAmong_39 : decode cX2_pairsAmong 39 = .ok (.iload_n 1, 1) := by decide +kernel
theorem dX2_pairsAmong_40 : decode cX2_pairsAmong 40 = .ok (.iconst 1, 1) := by decide +kernel
theorem dX2_pairsAmong_41 : decode cX2_pairsAmong 41 = .ok (.isub, 1) := by decide +kernel
theorem dX2_pairsAmong_42 : decode cX2_pairsAmong 42 = .ok (.iload_n 2, 1) := by decide +kernel
theorem dX2_pairsAmong_43 : decode cX2_pairsAmong 43 = .ok (.invokevirtual 71, 3) := by decide +kernel
theorem dX2_pairsAmong_46 : decode cX2_pairsAmong 46 = .ok (.ireturn, 1) := by decide +kernel
theorem dX2_pairsAmong_47 : decode cX2_pairsAmong 47 = .ok (.iconst 1, 1) := by decide +kernel
theorem dX2_pairsAmong_48 : decode cX2_pairsAmong 48 = .ok (.aload_n 0, 1) := by decide +kernel
theorem dX2_pairsAmong_49 : decode cX2_pairsAmong 49 = .ok (.iload_n 1, 1) := by decide +kernel
theorem dX2_pairsAmong_50 : decode cX2_pairsAmong 50 = .ok (.iconst 1, 1) := by decide +kernel
theorem dX2_pairsAmong_51 : decode cX2_pairsAmong 51 = .ok (.isub, 1) := by decide +kernel
theorem dX2_pairsAmong_52 : decode cX2_pairsAmong 52 = .ok (.iload_n 2, 1) := by decide +kernel
theorem dX2_pairsAmong_53 : decode cX2_pairsAmong 53 = .ok (.iload_n 3, 1) := by decide +kernel
theorem dX2_pairsAmong_54 : decode cX2_pairsAmong 54 = .ok (.iconst (-1), 1) := by decide +kernel
theorem dX2_pairsAmong_55 : decode cX2_pairsAmong 55 = .ok (.ixor, 1) := by decide +kernel
theorem dX2_pairsAmong_56 : decode cX2_pairsAmong 56 = .ok (.iand, 1) := by decide +kernel
theorem dX2_pairsAmong_57 : decode cX2_pairsAmong 57 = .ok (.invokevirtual 71, 3) := by decide +kernel
theorem dX2_pairsAmong_60 : decode cX2_pairsAmong 60 = .ok (.iadd, 1) := by decide +kernel
theorem dX2_pairsAmong_61 : decode cX2_pairsAmong 61 = .ok (.istore 4, 2) := by decide +kernel
theorem dX2_pairsAmong_63 : decode cX2_pairsAmong 63 = .ok (.iload 4, 2) := by decide +kernel
theorem dX2_pairsAmong_65 : decode cX2_pairsAmong 65 = .ok (.iload_n 2, 1) := by decide +kernel
theorem dX2_pairsAmong_66 : decode cX2_pairsAmong 66 = .ok (.invokestatic 62, 3) := by decide +kernel
theorem dX2_pairsAmong_69 : decode cX2_pairsAmong 69 = .ok (.iconst 2, 1) := by decide +kernel
theorem dX2_pairsAmong_70 : decode cX2_pairsAmong 70 = .ok (.idiv, 1) := by decide +kernel
theorem dX2_pairsAmong_71 : decode cX2_pairsAmong 71 = .ok (.if_icmp .ne 7, 3) := by decide +kernel
theorem dX2_pairsAmong_74 : decode cX2_pairsAmong 74 = .ok (.iconst 1, 1) := by decide +kernel
theorem dX2_pairsAmong_75 : decode cX2_pairsAmong 75 = .ok (.goto 4, 3) := by decide +kernel
theorem dX2_pairsAmong_78 : decode cX2_pairsAmong 78 = .ok (.iconst 0, 1) := by decide +kernel
theorem dX2_pairsAmong_79 : decode cX2_pairsAmong 79 = .ok (.istore 5, 2) := by decide +kernel
theorem dX2_pairsAmong_81 : decode cX2_pairsAmong 81 = .ok (.iload 5, 2) := by decide +kernel
theorem dX2_pairsAmong_83 : decode cX2_pairsAmong 83 = .ok (.ifCond .eq 8, 3) := by decide +kernel
theorem dX2_pairsAmong_86 : decode cX2_pairsAmong 86 = .ok (.iload 4, 2) := by decide +kernel
theorem dX2_pairsAmong_88 : decode cX2_pairsAmong 88 = .ok (.goto 16, 3) := by decide +kernel
theorem dX2_pairsAmong_91 : decode cX2_pairsAmong 91 = .ok (.iload 4, 2) := by decide +kernel
theorem dX2_pairsAmong_93 : decode cX2_pairsAmong 93 = .ok (.aload_n 0, 1) := by decide +kernel
theorem dX2_pairsAmong_94 : decode cX2_pairsAmong 94 = .ok (.iload_n 1, 1) := by decide +kernel
theorem dX2_pairsAmong_95 : decode cX2_pairsAmong 95 = .ok (.iconst 1, 1) := by decide +kernel
theorem dX2_pairsAmong_96 : decode cX2_pairsAmong 96 = .ok (.isub, 1) := by decide +kernel
theorem dX2_pairsAmong_97 : decode cX2_pairsAmong 97 = .ok (.iload_n 2, 1) := by decide +kernel
theorem dX2_pairsAmong_98 : decode cX2_pairsAmong 98 = .ok (.invokevirtual 71, 3) := by decide +kernel
theorem dX2_pairsAmong_101 : decode cX2_pairsAmong 101 = .ok (.invokestatic 78, 3) := by decide +kernel
theorem dX2_pairsAmong_104 : decode cX2_pairsAmong 104 = .ok (.ireturn, 1) := by decide +kernel
theorem dX2_leastPairing_0 : decode cX2_leastPairing 0 = .ok (.iconst 0, 1) := by decide +kernel
theorem dX2_leastPairing_1 : decode cX2_leastPairing 1 = .ok (.istore_n 2, 1) := by decide +kernel
theorem dX2_leastPairing_2 : decode cX2_leastPairing 2 = .ok (.iload_n 1, 1) := by decide +kernel
theorem dX2_leastPairing_3 : decode cX2_leastPairing 3 = .ok (.istore_n 3, 1) := by decide +kernel
theorem dX2_leastPairing_4 : decode cX2_leastPairing 4 = .ok (.aload_n 0, 1) := by decide +kernel
theorem dX2_leastPairing_5 : decode cX2_leastPairing 5 = .ok (.aload_n 0, 1) := by decide +kernel
theorem dX2_leastPairing_6 : decode cX2_leastPairing 6 = .ok (.getfield 40, 3) := by decide +kernel
theorem dX2_leastPairing_9 : decode cX2_leastPairing 9 = .ok (.iload_n 3, 1) := by decide +kernel
theorem dX2_leastPairing_10 : decode cX2_leastPairing 10 = .ok (.invokevirtual 71, 3) := by decide +kernel
theorem dX2_leastPairing_13 : decode cX2_leastPairing 13 = .ok (.istore 4, 2) := by decide +kernel
theorem dX2_leastPairing_15 : decode cX2_leastPairing 15 = .ok (.aload_n 0, 1) := by decide +kernel
theorem dX2_leastPairing_16 : decode cX2_leastPairing 16 = .ok (.getfield 40, 3) := by decide +kernel
theorem dX2_leastPairing_19 : decode cX2_leastPairing 19 = .ok (.iconst 1, 1) := by decide +kernel
theorem dX2_leastPairing_20 : decode cX2_leastPairing 20 = .ok (.isub, 1) := by decide +kernel
theorem dX2_leastPairing_21 : decode cX2_leastPairing 21 = .ok (.istore 5, 2) := by decide +kernel
theorem dX2_leastPairing_23 : decode cX2_leastPairing 23 = .ok (.iload 5, 2) := by decide +kernel
theorem dX2_leastPairing_25 : decode cX2_leastPairing 25 = .ok (.ifCond .lt 47, 3) := by decide +kernel
theorem dX2_leastPairing_28 : decode cX2_leastPairing 28 = .ok (.iload 4, 2) := by decide +kernel
theorem dX2_leastPairing_30 : decode cX2_leastPairing 30 = .ok (.ifCond .le 42, 3) := by decide +kernel
theorem dX2_leastPairing_33 : decode cX2_leastPairing 33 = .ok (.aload_n 0, 1) := by decide +kernel
theorem dX2_leastPairing_34 : decode cX2_leastPairing 34 = .ok (.iload 5, 2) := by decide +kernel
theorem dX2_leastPairing_36 : decode cX2_leastPairing 36 = .ok (.iload_n 3, 1) := by decide +kernel
theorem dX2_leastPairing_37 : decode cX2_leastPairing 37 = .ok (.invokevirtual 71, 3) := by decide +kernel
theorem dX2_leastPairing_40 : decode cX2_leastPairing 40 = .ok (.iload 4, 2) := by decide +kernel
theorem dX2_leastPairing_42 : decode cX2_leastPairing 42 = .ok (.if_icmp .ge 24, 3) := by decide +kernel
theorem dX2_leastPairing_45 : decode cX2_leastPairing 45 = .ok (.iload_n 2, 1) := by decide +kernel
theorem dX2_leastPairing_46 : decode cX2_leastPairing 46 = .ok (.iconst 1, 1) := by decide +kernel
theorem dX2_leastPairing_47 : decode cX2_leastPairing 47 = .ok (.iload 5, 2) := by decide +kernel
theorem dX2_leastPairing_49 : decode cX2_leastPairing 49 = .ok (.ishl, 1) := by decide +kernel
theorem dX2_leastPairing_50 : decode cX2_leastPairing 50 = .ok (.ior, 1) := by decide +kernel
theorem dX2_leastPairing_51 : decode cX2_leastPairing 51 = .ok (.istore_n 2, 1) := by decide +kernel
theorem dX2_leastPairing_52 : decode cX2_leastPairing 52 = .ok (.iload_n 3, 1) := by decide +kernel
theorem dX2_leastPairing_53 : decode cX2_leastPairing 53 = .ok (.aload_n 0, 1) := by decide +kernel
theorem dX2_leastPairing_54 : decode cX2_leastPairing 54 = .ok (.iload 5, 2) := by decide +kernel
theorem dX2_leastPairing_56 : decode cX2_leastPairing 56 = .ok (.invokevirtual 75, 3) := by decide +kernel
theorem dX2_leastPairing_59 : decode cX2_leastPairing 59 = .ok (.iconst (-1), 1) := by decide +kernel
theorem dX2_leastPairing_60 : decode cX2_leastPairing 60 = .ok (.ixor, 1) := by decide +kernel
theorem dX2_leastPairing_61 : decode cX2_leastPairing 61 = .ok (.iand, 1) := by decide +kernel
theorem dX2_leastPairing_62 : decode cX2_leastPairing 62 = .ok (.istore_n 3, 1) := by decide +kernel
theorem dX2_leastPairing_63 : decode cX2_leastPairing 63 = .ok (.iinc 4 (-1), 3) := by decide +kernel
theorem dX2_leastPairing_66 : decode cX2_leastPairing 66 = .ok (.iinc 5 (-1), 3) := by decide +kernel
theorem dX2_leastPairing_69 : decode cX2_leastPairing 69 = .ok (.goto (-46), 3) := by decide +kernel
theorem dX2_leastPairing_72 : decode cX2_leastPairing 72 = .ok (.iload_n 2, 1) := by decide +kernel
theorem dX2_leastPairing_73 : decode cX2_leastPairing 73 = .ok (.ireturn, 1) := by decide +kernel
theorem dX2_neededPoints_0 : decode cX2_neededPoints 0 = .ok (.aload_n 0, 1) := by decide +kernel
theorem dX2_neededPoints_1 : decode cX2_neededPoints 1 = .ok (.aload_n 0, 1) := by decide +kernel
theorem dX2_neededPoints_2 : decode cX2_neededPoints 2 = .ok (.invokevirtual 83, 3) := by decide +kernel
theorem dX2_neededPoints_5 : decode cX2_neededPoints 5 = .ok (.invokevirtual 87, 3) := by decide +kernel
theorem dX2_neededPoints_8 : decode cX2_neededPoints 8 = .ok (.istore_n 1, 1) := by decide +kernel
theorem dX2_neededPoints_9 : decode cX2_neededPoints 9 = .ok (.iconst 0, 1) := by decide +kernel
theorem dX2_neededPoints_10 : decode cX2_neededPoints 10 = .ok (.istore_n 2, 1) := by decide +kernel
theorem dX2_neededPoints_11 : decode cX2_neededPoints 11 = .ok (.iconst 0, 1) := by decide +kernel
theorem dX2_neededPoints_12 : decode cX2_neededPoints 12 = .ok (.istore_n 3, 1) := by decide +kernel
theorem dX2_neededPoints_13 : decode cX2_neededPoints 13 = .ok (.iload_n 3, 1) := by decide +kernel
theorem dX2_neededPoints_14 : decode cX2_neededPoints 14 = .ok (.aload_n 0, 1) := by decide +kernel
theorem dX2_neededPoints_15 : decode cX2_neededPoints 15 = .ok (.getfield 9, 3) := by decide +kernel
theorem dX2_neededPoints_18 : decode cX2_neededPoints 18 = .ok (.if_icmp .ge 33, 3) := by decide +kernel
theorem dX2_neededPoints_21 : decode cX2_neededPoints 21 = .ok (.aload_n 0, 1) := by decide +kernel
theorem dX2_neededPoints_22 : decode cX2_neededPoints 22 = .ok (.aload_n 0, 1) := by decide +kernel
theorem dX2_neededPoints_23 : decode cX2_neededPoints 23 = .ok (.invokevirtual 83, 3) := by decide +kernel
theorem dX2_neededPoints_26 : decode cX2_neededPoints 26 = .ok (.iconst 1, 1) := by decide +kernel
theorem dX2_neededPoints_27 : decode cX2_neededPoints 27 = .ok (.iload_n 3, 1) := by decide +kernel
theorem dX2_neededPoints_28 : decode cX2_neededPoints 28 = .ok (.ishl, 1) := by decide +kernel
theorem dX2_neededPoints_29 : decode cX2_neededPoints 29 = .ok (.iconst (-1), 1) := by decide +kernel
theorem dX2_neededPoints_30 : decode cX2_neededPoints 30 = .ok (.ixor, 1) := by decide +kernel
theorem dX2_neededPoints_31 : decode cX2_neededPoints 31 = .ok (.iand, 1) := by decide +kernel
theorem dX2_neededPoints_32 : decode cX2_neededPoints 32 = .ok (.invokevirtual 87, 3) := by decide +kernel
theorem dX2_neededPoints_35 : decode cX2_neededPoints 35 = .ok (.iload_n 1, 1) := by decide +kernel
theorem dX2_neededPoints_36 : decode cX2_neededPoints 36 = .ok (.if_icmp .ge 9, 3) := by decide +kernel
theorem dX2_neededPoints_39 : decode cX2_neededPoints 39 = .ok (.iload_n 2, 1) := by decide +kernel
theorem dX2_neededPoints_40 : decode cX2_neededPoints 40 = .ok (.iconst 1, 1) := by decide +kernel
theorem dX2_neededPoints_41 : decode cX2_neededPoints 41 = .ok (.iload_n 3, 1) := by decide +kernel
theorem dX2_neededPoints_42 : decode cX2_neededPoints 42 = .ok (.ishl, 1) := by decide +kernel
theorem dX2_neededPoints_43 : decode cX2_neededPoints 43 = .ok (.ior, 1) := by decide +kernel
theorem dX2_neededPoints_44 : decode cX2_neededPoints 44 = .ok (.istore_n 2, 1) := by decide +kernel
theorem dX2_neededPoints_45 : decode cX2_neededPoints 45 = .ok (.iinc 3 1, 3) := by decide +kernel
theorem dX2_neededPoints_48 : decode cX2_neededPoints 48 = .ok (.goto (-35), 3) := by decide +kernel
theorem dX2_neededPoints_51 : decode cX2_neededPoints 51 = .ok (.iload_n 2, 1) := by decide +kernel
theorem dX2_neededPoints_52 : decode cX2_neededPoints 52 = .ok (.ireturn, 1) := by decide +kernel
theorem dX3_init_0 : decode cX3_init 0 = .ok (.aload_n 0, 1) := by decide +kernel
theorem dX3_init_1 : decode cX3_init 1 = .ok (.invokespecial 3, 3) := by decide +kernel
theorem dX3_init_4 : decode cX3_init 4 = .ok (.aload_n 0, 1) := by decide +kernel
theorem dX3_init_5 : decode cX3_init 5 = .ok (.iconst 1, 1) := by decide +kernel
theorem dX3_init_6 : decode cX3_init 6 = .ok (.putfield 9, 3) := by decide +kernel
theorem dX3_init_9 : decode cX3_init 9 = .ok (.aload_n 0, 1) := by decide +kernel
theorem dX3_init_10 : decode cX3_init 10 = .ok (.aload_n 1, 1) := by decide +kernel
theorem dX3_init_11 : decode cX3_init 11 = .ok (.putfield 15, 3) := by decide +kernel
theorem dX3_init_14 : decode cX3_init 14 = .ok (.aload_n 0, 1) := by decide +kernel
theorem dX3_init_15 : decode cX3_init 15 = .ok (.aload_n 2, 1) := by decide +kernel
theorem dX3_init_16 : decode cX3_init 16 = .ok (.putfield 19, 3) := by decide +kernel
theorem dX3_init_19 : decode cX3_init 19 = .ok (.return_, 1) := by decide +kernel
theorem dX3_advice_0 : decode cX3_advice 0 = .ok (.iload_n 1, 1) := by decide +kernel
theorem dX3_advice_1 : decode cX3_advice 1 = .ok (.istore 4, 2) := by decide +kernel
theorem dX3_advice_3 : decode cX3_advice 3 = .ok (.iconst 0, 1) := by decide +kernel
theorem dX3_advice_4 : decode cX3_advice 4 = .ok (.istore 5, 2) := by decide +kernel
theorem dX3_advice_6 : decode cX3_advice 6 = .ok (.iload 5, 2) := by decide +kernel
theorem dX3_advice_8 : decode cX3_advice 8 = .ok (.iconst 4, 1) := by decide +kernel
theorem dX3_advice_9 : decode cX3_advice 9 = .ok (.if_icmp .ge 41, 3) := by decide +kernel
theorem dX3_advice_12 : decode cX3_advice 12 = .ok (.iload 4, 2) := by decide +kernel
theorem dX3_advice_14 : decode cX3_advice 14 = .ok (.ifCond .le 36, 3) := by decide +kernel
theorem dX3_advice_17 : decode cX3_advice 17 = .ok (.aload_n 0, 1) := by decide +kernel
theorem dX3_advice_18 : decode cX3_advice 18 = .ok (.iload 4, 2) := by decide +kernel
theorem dX3_advice_20 : decode cX3_advice 20 = .ok (.bipush 10, 2) := by decide +kernel
theorem dX3_advice_22 : decode cX3_advice 22 = .ok (.irem, 1) := by decide +kernel
theorem dX3_advice_23 : decode cX3_advice 23 = .ok (.iload_n 2, 1) := by decide +kernel
theorem dX3_advice_24 : decode cX3_advice 24 = .ok (.invokevirtual 23, 3) := by decide +kernel
theorem dX3_advice_27 : decode cX3_advice 27 = .ok (.istore 6, 2) := by decide +kernel
theorem dX3_advice_29 : decode cX3_advice 29 = .ok (.iload 6, 2) := by decide +kernel
theorem dX3_advice_31 : decode cX3_advice 31 = .ok (.ifCond .lt 6, 3) := by decide +kernel
theorem dX3_advice_34 : decode cX3_advice 34 = .ok (.iload 6, 2) := by decide +kernel
theorem dX3_advice_36 : decode cX3_advice 36 = .ok (.ireturn, 1) := by decide +kernel
theorem dX3_advice_37 : decode cX3_advice 37 = .ok (.iload 4, 2) := by decide +kernel
theorem dX3_advice_39 : decode cX3_advice 39 = .ok (.bipush 10, 2) := by decide +kernel
theorem dX3_advice_41 : decode cX3_advice 41 = .ok (.idiv, 1) := by decide +kernel
theorem dX3_advice_42 : decode cX3_advice 42 = .ok (.istore 4, 2) := by decide +kernel
theorem dX3_advice_44 : decode cX3_advice 44 = .ok (.iinc 5 1, 3) := by decide +kernel
theorem dX3_advice_47 : decode cX3_advice 47 = .ok (.goto (-41), 3) := by decide +kernel
theorem dX3_advice_50 : decode cX3_advice 50 = .ok (.iload_n 3, 1) := by decide +kernel
theorem dX3_advice_51 : decode cX3_advice 51 = .ok (.ireturn, 1) := by decide +kernel
theorem dX3_simple_0 : decode cX3_simple 0 = .ok (.aload_n 0, 1) := by decide +kernel
theorem dX3_simple_1 : decode cX3_simple 1 = .ok (.getfield 19, 3) := by decide +kernel
theorem dX3_simple_4 : decode cX3_simple 4 = .ok (.iload_n 2, 1) := by decide +kernel
theorem dX3_simple_5 : decode cX3_simple 5 = .ok (.invokevirtual 27, 3) := by decide +kernel
theorem dX3_simple_8 : decode cX3_simple 8 = .ok (.istore_n 3, 1) := by decide +kernel
theorem dX3_simple_9 : decode cX3_simple 9 = .ok (.iload_n 1, 1) := by decide +kernel
theorem dX3_simple_10 : decode cX3_simple 10 = .ok (.tableswitch 86 2 7 #[38, 43, 55, 66, 72, 79], 38) := by decide +kernel
theorem dX3_simple_48 : decode cX3_simple 48 = .ok (.iload_n 3, 1) := by decide +kernel
theorem dX3_simple_49 : decode cX3_simple 49 = .ok (.invokestatic 33, 3) := by decide +kernel
theorem dX3_simple_52 : decode cX3_simple 52 = .ok (.ireturn, 1) := by decide +kernel
theorem dX3_simple_53 : decode cX3_simple 53 = .ok (.aload_n 0, 1) := by decide +kernel
theorem dX3_simple_54 : decode cX3_simple 54 = .ok (.getfield 19, 3) := by decide +kernel
theorem dX3_simple_57 : decode cX3_simple 57 = .ok (.iload_n 2, 1) := by decide +kernel
theorem dX3_simple_58 : decode cX3_simple 58 = .ok (.invokevirtual 36, 3) := by decide +kernel
theorem dX3_simple_61 : decode cX3_simple 61 = .ok (.invokestatic 39, 3) := by decide +kernel
theorem dX3_simple_64 : decode cX3_simple 64 = .ok (.ireturn, 1) := by decide +kernel
theorem dX3_simple_65 : decode cX3_simple 65 = .ok (.iload_n 3, 1) := by decide +kernel
theorem dX3_simple_66 : decode cX3_simple 66 = .ok (.aload_n 0, 1) := by decide +kernel
theorem dX3_simple_67 : decode cX3_simple 67 = .ok (.iload_n 2, 1) := by decide +kernel
theorem dX3_simple_68 : decode cX3_simple 68 = .ok (.invokevirtual 42, 3) := by decide +kernel
theorem dX3_simple_71 : decode cX3_simple 71 = .ok (.iand, 1) := by decide +kernel
theorem dX3_simple_72 : decode cX3_simple 72 = .ok (.invokestatic 39, 3) := by decide +kernel
theorem dX3_simple_75 : decode cX3_simple 75 = .ok (.ireturn, 1) := by decide +kernel
theorem dX3_simple_76 : decode cX3_simple 76 = .ok (.aload_n 0, 1) := by decide +kernel
theorem dX3_simple_77 : decode cX3_simple 77 = .ok (.iload_n 3, 1) := by decide +kernel
theorem dX3_simple_78 : decode cX3_simple 78 = .ok (.invokevirtual 45, 3) := by decide +kernel
theorem dX3_simple_81 : decode cX3_simple 81 = .ok (.ireturn, 1) := by decide +kernel
theorem dX3_simple_82 : decode cX3_simple 82 = .ok (.aload_n 0, 1) := by decide +kernel
theorem dX3_simple_83 : decode cX3_simple 83 = .ok (.iload_n 3, 1) := by decide +kernel
theorem dX3_simple_84 : decode cX3_simple 84 = .ok (.iload_n 2, 1) := by decide +kernel
theorem dX3_simple_85 : decode cX3_simple 85 = .ok (.invokevirtual 48, 3) := by decide +kernel
theorem dX3_simple_88 : decode cX3_simple 88 = .ok (.ireturn, 1) := by decide +kernel
theorem dX3_simple_89 : decode cX3_simple 89 = .ok (.aload_n 0, 1) := by decide +kernel
theorem dX3_simple_90 : decode cX3_simple 90 = .ok (.iload_n 3, 1) := by decide +kernel
theorem dX3_simple_91 : decode cX3_simple 91 = .ok (.iload_n 2, 1) := by decide +kernel
theorem dX3_simple_92 : decode cX3_simple 92 = .ok (.invokevirtual 51, 3) := by decide +kernel
theorem dX3_simple_95 : decode cX3_simple 95 = .ok (.ireturn, 1) := by decide +kernel
theorem dX3_simple_96 : decode cX3_simple 96 = .ok (.iload_n 3, 1) := by decide +kernel
theorem dX3_simple_97 : decode cX3_simple 97 = .ok (.invokestatic 39, 3) := by decide +kernel
theorem dX3_simple_100 : decode cX3_simple 100 = .ok (.ireturn, 1) := by decide +kernel
theorem dX3_least_0 : decode cX3_least 0 = .ok (.iload_n 0, 1) := by decide +kernel
theorem dX3_least_1 : decode cX3_least 1 = .ok (.ifCond .ne 7, 3) := by decide +kernel
theorem dX3_least_4 : decode cX3_least 4 = .ok (.iconst (-1), 1) := by decide +kernel
theorem dX3_least_5 : decode cX3_least 5 = .ok (.goto 7, 3) := by decide +kernel
theorem dX3_least_8 : decode cX3_least 8 = .ok (.iload_n 0, 1) := by decide +kernel
theorem dX3_least_9 : decode cX3_least 9 = .ok (.invokestatic 54, 3) := by decide +kernel
theorem dX3_least_12 : decode cX3_least 12 = .ok (.ireturn, 1) := by decide +kernel
theorem dX3_greatest_0 : decode cX3_greatest 0 = .ok (.bipush 31, 2) := by decide +kernel
theorem dX3_greatest_2 : decode cX3_greatest 2 = .ok (.iload_n 0, 1) := by decide +kernel
theorem dX3_greatest_3 : decode cX3_greatest 3 = .ok (.invokestatic 59, 3) := by decide +kernel
theorem dX3_greatest_6 : decode cX3_greatest 6 = .ok (.isub, 1) := by decide +kernel
theorem dX3_greatest_7 : decode cX3_greatest 7 = .ok (.ireturn, 1) := by decide +kernel
theorem dX3_pairAtMarker_0 : decode cX3_pairAtMarker 0 = .ok (.iload_n 1, 1) := by decide +kernel
theorem dX3_pairAtMarker_1 : decode cX3_pairAtMarker 1 = .ok (.invokestatic 62, 3) := by decide +kernel
theorem dX3_pairAtMarker_4 : decode cX3_pairAtMarker 4 = .ok (.istore_n 2, 1) := by decide +kernel
theorem dX3_pairAtMarker_5 : decode cX3_pairAtMarker 5 = .ok (.aload_n 0, 1) := by decide +kernel
theorem dX3_pairAtMarker_6 : decode cX3_pairAtMarker 6 = .ok (.getfield 15, 3) := by decide +kernel
theorem dX3_pairAtMarker_9 : decode cX3_pairAtMarker 9 = .ok (.invokevirtual 67, 3) := by decide +kernel
theorem dX3_pairAtMarker_12 : decode cX3_pairAtMarker 12 = .ok (.iload_n 1, 1) := by decide +kernel
theorem dX3_pairAtMarker_13 : decode cX3_pairAtMarker 13 = .ok (.invokestatic 73, 3) := by decide +kernel
theorem dX3_pairAtMarker_16 : decode cX3_pairAtMarker 16 = .ok (.iconst (-1), 1) := by decide +kernel
theorem dX3_pairAtMarker_17 : decode cX3_pairAtMarker 17 = .ok (.ixor, 1) := by decide +kernel
theorem dX3_pairAtMarker_18 : decode cX3_pairAtMarker 18 = .ok (.iand, 1) := by decide +kernel
theorem dX3_pairAtMarker_19 : decode cX3_pairAtMarker 19 = .ok (.iconst 1, 1) := by decide +kernel
theorem dX3_pairAtMarker_20 : decode cX3_pairAtMarker 20 = .ok (.iload_n 2, 1) := by decide +kernel
theorem dX3_pairAtMarker_21 : decode cX3_pairAtMarker 21 = .ok (.ishl, 1) := by decide +kernel
theorem dX3_pairAtMarker_22 : decode cX3_pairAtMarker 22 = .ok (.ior, 1) := by decide +kernel
theorem dX3_pairAtMarker_23 : decode cX3_pairAtMarker 23 = .ok (.istore_n 3, 1) := by decide +kernel
theorem dX3_pairAtMarker_24 : decode cX3_pairAtMarker 24 = .ok (.aload_n 0, 1) := by decide +kernel
theorem dX3_pairAtMarker_25 : decode cX3_pairAtMarker 25 = .ok (.getfield 15, 3) := by decide +kernel
theorem dX3_pairAtMarker_28 : decode cX3_pairAtMarker 28 = .ok (.iload_n 3, 1) := by decide +kernel
theorem dX3_pairAtMarker_29 : decode cX3_pairAtMarker 29 = .ok (.invokevirtual 76, 3) := by decide +kernel
theorem dX3_pairAtMarker_32 : decode cX3_pairAtMarker 32 = .ok (.aload_n 0, 1) := by decide +kernel
theorem dX3_pairAtMarker_33 : decode cX3_pairAtMarker 33 = .ok (.getfield 15, 3) := by decide +kernel
theorem dX3_pairAtMarker_36 : decode cX3_pairAtMarker 36 = .ok (.getfield 79, 3) := by decide +kernel
theorem dX3_pairAtMarker_39 : decode cX3_pairAtMarker 39 = .ok (.iload_n 2, 1) := by decide +kernel
theorem dX3_pairAtMarker_40 : decode cX3_pairAtMarker 40 = .ok (.iaload, 1) := by decide +kernel
theorem dX3_pairAtMarker_41 : decode cX3_pairAtMarker 41 = .ok (.iand, 1) := by decide +kernel
theorem dX3_pairAtMarker_42 : decode cX3_pairAtMarker 42 = .ok (.ireturn, 1) := by decide +kernel
theorem dX3_drawn_0 : decode cX3_drawn 0 = .ok (.iload_n 1, 1) := by decide +kernel
theorem dX3_drawn_1 : decode cX3_drawn 1 = .ok (.invokestatic 83, 3) := by decide +kernel
theorem dX3_drawn_4 : decode cX3_drawn 4 = .ok (.istore_n 2, 1) := by decide +kernel
theorem dX3_drawn_5 : decode cX3_drawn 5 = .ok (.iload_n 2, 1) := by decide +kernel
theorem dX3_drawn_6 : decode cX3_drawn 6 = .ok (.ifCond .ne 5, 3) := by decide +kernel
theorem dX3_drawn_9 : decode cX3_drawn 9 = .ok (.iconst (-1), 1) := by decide +kernel
theorem dX3_drawn_10 : decode cX3_drawn 10 = .ok (.ireturn, 1) := by decide +kernel
theorem dX3_drawn_11 : decode cX3_drawn 11 = .ok (.aload_n 0, 1) := by decide +kernel
theorem dX3_drawn_12 : decode cX3_drawn 12 = .ok (.aload_n 0, 1) := by decide +kernel
theorem dX3_drawn_13 : decode cX3_drawn 13 = .ok (.getfield 9, 3) := by decide +kernel
theorem dX3_drawn_16 : decode cX3_drawn 16 = .ok (.ldc 86, 2) := by decide +kernel
theorem dX3_drawn_18 : decode cX3_drawn 18 = .ok (.imul, 1) := by decide +kernel
theorem dX3_drawn_19 : decode cX3_drawn 19 = .ok (.sipush 12345, 3) := by decide +kernel
theorem dX3_drawn_22 : decode cX3_drawn 22 = .ok (.iadd, 1) := by decide +kernel
theorem dX3_drawn_23 : decode cX3_drawn 23 = .ok (.putfield 9, 3) := by decide +kernel
theorem dX3_drawn_26 : decode cX3_drawn 26 = .ok (.iload_n 1, 1) := by decide +kernel
theorem dX3_drawn_27 : decode cX3_drawn 27 = .ok (.istore_n 3, 1) := by decide +kernel
theorem dX3_drawn_28 : decode cX3_drawn 28 = .ok (.aload_n 0, 1) := by decide +kernel
theorem dX3_drawn_29 : decode cX3_drawn 29 = .ok (.getfield 9, 3) := by decide +kernel
theorem dX3_drawn_32 : decode cX3_drawn 32 = .ok (.bipush 8, 2) := by decide +kernel
theorem dX3_drawn_34 : decode cX3_drawn 34 = .ok (.iushr, 1) := by decide +kernel
theorem dX3_drawn_35 : decode cX3_drawn 35 = .ok (.iload_n 2, 1) := by decide +kernel
theorem dX3_drawn_36 : decode cX3_drawn 36 = .ok (.irem, 1) := by decide +kernel
theorem dX3_drawn_37 : decode cX3_drawn 37 = .ok (.istore 4, 2) := by decide +kernel
theorem dX3_drawn_39 : decode cX3_drawn 39 = .ok (.iload 4, 2) := by decide +kernel
theorem dX3_drawn_41 : decode cX3_drawn 41 = .ok (.ifCond .le 15, 3) := by decide +kernel
theorem dX3_drawn_44 : decode cX3_drawn 44 = .ok (.iload_n 3, 1) := by decide +kernel
theorem dX3_drawn_45 : decode cX3_drawn 45 = .ok (.iload_n 3, 1) := by decide +kernel
theorem dX3_drawn_46 : decode cX3_drawn 46 = .ok (.iconst 1, 1) := by decide +kernel
theorem dX3_drawn_47 : decode cX3_drawn 47 = .ok (.isub, 1) := by decide +kernel
theorem dX3_drawn_48 : decode cX3_drawn 48 = .ok (.iand, 1) := by decide +kernel
theorem dX3_drawn_49 : decode cX3_drawn 49 = .ok (.istore_n 3, 1) := by decide +kernel
theorem dX3_drawn_50 : decode cX3_drawn 50 = .ok (.iinc 4 (-1), 3) := by decide +kernel
theorem dX3_drawn_53 : decode cX3_drawn 53 = .ok (.goto (-14), 3) := by decide +kernel
theorem dX3_drawn_56 : decode cX3_drawn 56 = .ok (.iload_n 3, 1) := by decide +kernel
theorem dX3_drawn_57 : decode cX3_drawn 57 = .ok (.invokestatic 39, 3) := by decide +kernel
theorem dX3_drawn_60 : decode cX3_drawn 60 = .ok (.ireturn, 1) := by decide +kernel
theorem dX3_narrowest_0 : decode cX3_narrowest 0 = .ok (.iconst (-1), 1) := by decide +kernel
theorem dX3_narrowest_1 : decode cX3_narrowest 1 = .ok (.istore_n 3, 1) := by decide +kernel
theorem dX3_narrowest_2 : decode cX3_narrowest 2 = .ok (.bipush 13, 2) := by decide +kernel
theorem dX3_narrowest_4 : decode cX3_narrowest 4 = .ok (.istore 4, 2) := by decide +kernel
theorem dX3_narrowest_6 : decode cX3_narrowest 6 = .ok (.iconst 0, 1) := by decide +kernel
theorem dX3_narrowest_7 : decode cX3_narrowest 7 = .ok (.istore 5, 2) := by decide +kernel
theorem dX3_narrowest_9 : decode cX3_narrowest 9 = .ok (.iload 5, 2) := by decide +kernel
theorem dX3_narrowest_11 : decode cX3_narrowest 11 = .ok (.aload_n 0, 1) := by decide +kernel
theorem dX3_narrowest_12 : decode cX3_narrowest 12 = .ok (.getfield 15, 3) := by decide +kernel
theorem dX3_narrowest_15 : decode cX3_narrowest 15 = .ok (.getfield 87, 3) := by decide +kernel
theorem dX3_narrowest_18 : decode cX3_narrowest 18 = .ok (.if_icmp .ge 54, 3) := by decide +kernel
theorem dX3_narrowest_21 : decode cX3_narrowest 21 = .ok (.iload_n 1, 1) := by decide +kernel
theorem dX3_narrowest_22 : decode cX3_narrowest 22 = .ok (.iload 5, 2) := by decide +kernel
theorem dX3_narrowest_24 : decode cX3_narrowest 24 = .ok (.ishr, 1) := by decide +kernel
theorem dX3_narrowest_25 : decode cX3_narrowest 25 = .ok (.iconst 1, 1) := by decide +kernel
theorem dX3_narrowest_26 : decode cX3_narrowest 26 = .ok (.iand, 1) := by decide +kernel
theorem dX3_narrowest_27 : decode cX3_narrowest 27 = .ok (.ifCond .eq 39, 3) := by decide +kernel
theorem dX3_narrowest_30 : decode cX3_narrowest 30 = .ok (.aload_n 0, 1) := by decide +kernel
theorem dX3_narrowest_31 : decode cX3_narrowest 31 = .ok (.getfield 19, 3) := by decide +kernel
theorem dX3_narrowest_34 : decode cX3_narrowest 34 = .ok (.aload_n 0, 1) := by decide +kernel
theorem dX3_narrowest_35 : decode cX3_narrowest 35 = .ok (.getfield 19, 3) := by decide +kernel
theorem dX3_narrowest_38 : decode cX3_narrowest 38 = .ok (.iload_n 2, 1) := by decide +kernel
theorem dX3_narrowest_39 : decode cX3_narrowest 39 = .ok (.iload 5, 2) := by decide +kernel
theorem dX3_narrowest_41 : decode cX3_narrowest 41 = .ok (.invokevirtual 90, 3) := by decide +kernel
theorem dX3_narrowest_44 : decode cX3_narrowest 44 = .ok (.invokevirtual 27, 3) := by decide +kernel
theorem dX3_narrowest_47 : decode cX3_narrowest 47 = .ok (.invokestatic 83, 3) := by decide +kernel
theorem dX3_narrowest_50 : decode cX3_narrowest 50 = .ok (.istore 6, 2) := by decide +kernel
theorem dX3_narrowest_52 : decode cX3_narrowest 52 = .ok (.iload 6, 2) := by decide +kernel
theorem dX3_narrowest_54 : decode cX3_narrowest 54 = .ok (.iload 4, 2) := by decide +kernel
theorem dX3_narrowest_56 : decode cX3_narrowest 56 = .ok (.if_icmp .ge 10, 3) := by decide +kernel
theorem dX3_narrowest_59 : decode cX3_narrowest 59 = .ok (.iload 6, 2) := by decide +kernel
theorem dX3_narrowest_61 : decode cX3_narrowest 61 = .ok (.istore 4, 2) := by decide +kernel
theorem dX3_narrowest_63 : decode cX3_narrowest 63 = .ok (.iload 5, 2) := by decide +kernel
theorem dX3_narrowest_65 : decode cX3_narrowest 65 = .ok (.istore_n 3, 1) := by decide +kernel
theorem dX3_narrowest_66 : decode cX3_narrowest 66 = .ok (.iinc 5 1, 3) := by decide +kernel
theorem dX3_narrowest_69 : decode cX3_narrowest 69 = .ok (.goto (-60), 3) := by decide +kernel
theorem dX3_narrowest_72 : decode cX3_narrowest 72 = .ok (.iload_n 3, 1) := by decide +kernel
theorem dX3_narrowest_73 : decode cX3_narrowest 73 = .ok (.ireturn, 1) := by decide +kernel
theorem dX3_slowest_0 : decode cX3_slowest 0 = .ok (.iconst (-1), 1) := by decide +kernel
theorem dX3_slowest_1 : decode cX3_slowest 1 = .ok (.istore_n 3, 1) := by decide +kernel
theorem dX3_slowest_2 : decode cX3_slowest 2 = .ok (.iconst (-1), 1) := by decide +kernel
theorem dX3_slowest_3 : decode cX3_slowest 3 = .ok (.istore 4, 2) := by decide +kernel
theorem dX3_slowest_5 : decode cX3_slowest 5 = .ok (.iconst 0, 1) := by decide +kernel
theorem dX3_slowest_6 : decode cX3_slowest 6 = .ok (.istore 5, 2) := by decide +kernel
theorem dX3_slowest_8 : decode cX3_slowest 8 = .ok (.iload 5, 2) := by decide +kernel
theorem dX3_slowest_10 : decode cX3_slowest 10 = .ok (.aload_n 0, 1) := by decide +kernel
theorem dX3_slowest_11 : decode cX3_slowest 11 = .ok (.getfield 15, 3) := by decide +kernel
theorem dX3_slowest_14 : decode cX3_slowest 14 = .ok (.getfield 87, 3) := by decide +kernel
theorem dX3_slowest_17 : decode cX3_slowest 17 = .ok (.if_icmp .ge 51, 3) := by decide +kernel
theorem dX3_slowest_20 : decode cX3_slowest 20 = .ok (.iload_n 1, 1) := by decide +kernel
theorem dX3_slowest_21 : decode cX3_slowest 21 = .ok (.iload 5, 2) := by decide +kernel
theorem dX3_slowest_23 : decode cX3_slowest 23 = .ok (.ishr, 1) := by decide +kernel
theorem dX3_slowest_24 : decode cX3_slowest 24 = .ok (.iconst 1, 1) := by decide +kernel
theorem dX3_slowest_25 : decode cX3_slowest 25 = .ok (.iand, 1) := by decide +kernel
theorem dX3_slowest_26 : decode cX3_slowest 26 = .ok (.ifCond .eq 36, 3) := by decide +kernel
theorem dX3_slowest_29 : decode cX3_slowest 29 = .ok (.aload_n 0, 1) := by decide +kernel
theorem dX3_slowest_30 : decode cX3_slowest 30 = .ok (.getfield 19, 3) := by decide +kernel
theorem dX3_slowest_33 : decode cX3_slowest 33 = .ok (.aload_n 0, 1) := by decide +kernel
theorem dX3_slowest_34 : decode cX3_slowest 34 = .ok (.getfield 19, 3) := by decide +kernel
theorem dX3_slowest_37 : decode cX3_slowest 37 = .ok (.iload_n 2, 1) := by decide +kernel
theorem dX3_slowest_38 : decode cX3_slowest 38 = .ok (.iload 5, 2) := by decide +kernel
theorem dX3_slowest_40 : decode cX3_slowest 40 = .ok (.invokevirtual 90, 3) := by decide +kernel
theorem dX3_slowest_43 : decode cX3_slowest 43 = .ok (.invokevirtual 93, 3) := by decide +kernel
theorem dX3_slowest_46 : decode cX3_slowest 46 = .ok (.istore 6, 2) := by decide +kernel
theorem dX3_slowest_48 : decode cX3_slowest 48 = .ok (.iload 6, 2) := by decide +kernel
theorem dX3_slowest_50 : decode cX3_slowest 50 = .ok (.iload 4, 2) := by decide +kernel
theorem dX3_slowest_52 : decode cX3_slowest 52 = .ok (.if_icmp .le 10, 3) := by decide +kernel
theorem dX3_slowest_55 : decode cX3_slowest 55 = .ok (.iload 6, 2) := by decide +kernel
theorem dX3_slowest_57 : decode cX3_slowest 57 = .ok (.istore 4, 2) := by decide +kernel
theorem dX3_slowest_59 : decode cX3_slowest 59 = .ok (.iload 5, 2) := by decide +kernel
theorem dX3_slowest_61 : decode cX3_slowest 61 = .ok (.istore_n 3, 1) := by decide +kernel
theorem dX3_slowest_62 : decode cX3_slowest 62 = .ok (.iinc 5 1, 3) := by decide +kernel
theorem dX3_slowest_65 : decode cX3_slowest 65 = .ok (.goto (-57), 3) := by decide +kernel
theorem dX3_slowest_68 : decode cX3_slowest 68 = .ok (.iload_n 3, 1) := by decide +kernel
theorem dX3_slowest_69 : decode cX3_slowest 69 = .ok (.ireturn, 1) := by decide +kernel
theorem dX4_init_0 : decode cX4_init 0 = .ok (.aload_n 0, 1) := by decide +kernel
theorem dX4_init_1 : decode cX4_init 1 = .ok (.invokespecial 3, 3) := by decide +kernel
theorem dX4_init_4 : decode cX4_init 4 = .ok (.aload_n 0, 1) := by decide +kernel
theorem dX4_init_5 : decode cX4_init 5 = .ok (.bipush 24, 2) := by decide +kernel
theorem dX4_init_7 : decode cX4_init 7 = .ok (.newarray .int, 2) := by decide +kernel
theorem dX4_init_9 : decode cX4_init 9 = .ok (.putfield 9, 3) := by decide +kernel
theorem dX4_init_12 : decode cX4_init 12 = .ok (.return_, 1) := by decide +kernel
theorem dX4_isMissing_0 : decode cX4_isMissing 0 = .ok (.aload_n 0, 1) := by decide +kernel
theorem dX4_isMissing_1 : decode cX4_isMissing 1 = .ok (.getfield 15, 3) := by decide +kernel
theorem dX4_isMissing_4 : decode cX4_isMissing 4 = .ok (.ifCond .ne 7, 3) := by decide +kernel
theorem dX4_isMissing_7 : decode cX4_isMissing 7 = .ok (.iconst 1, 1) := by decide +kernel
theorem dX4_isMissing_8 : decode cX4_isMissing 8 = .ok (.goto 4, 3) := by decide +kernel
theorem dX4_isMissing_11 : decode cX4_isMissing 11 = .ok (.iconst 0, 1) := by decide +kernel
theorem dX4_isMissing_12 : decode cX4_isMissing 12 = .ok (.ireturn, 1) := by decide +kernel
theorem dX4_renew_0 : decode cX4_renew 0 = .ok (.aload_n 0, 1) := by decide +kernel
theorem dX4_renew_1 : decode cX4_renew 1 = .ok (.iload_n 1, 1) := by decide +kernel
theorem dX4_renew_2 : decode cX4_renew 2 = .ok (.putfield 15, 3) := by decide +kernel
theorem dX4_renew_5 : decode cX4_renew 5 = .ok (.aload_n 0, 1) := by decide +kernel
theorem dX4_renew_6 : decode cX4_renew 6 = .ok (.iload_n 2, 1) := by decide +kernel
theorem dX4_renew_7 : decode cX4_renew 7 = .ok (.putfield 19, 3) := by decide +kernel
theorem dX4_renew_10 : decode cX4_renew 10 = .ok (.aload_n 0, 1) := by decide +kernel
theorem dX4_renew_11 : decode cX4_renew 11 = .ok (.getfield 9, 3) := by decide +kernel
theorem dX4_renew_14 : decode cX4_renew 14 = .ok (.iconst 0, 1) := by decide +kernel
theorem dX4_renew_15 : decode cX4_renew 15 = .ok (.invokestatic 22, 3) := by decide +kernel
theorem dX4_renew_18 : decode cX4_renew 18 = .ok (.return_, 1) := by decide +kernel
theorem dX4_write_0 : decode cX4_write 0 = .ok (.bipush 32, 2) := by decide +kernel
theorem dX4_write_2 : decode cX4_write 2 = .ok (.aload_n 0, 1) := by decide +kernel
theorem dX4_write_3 : decode cX4_write 3 = .ok (.getfield 15, 3) := by decide +kernel
theorem dX4_write_6 : decode cX4_write 6 = .ok (.isub, 1) := by decide +kernel
theorem dX4_write_7 : decode cX4_write 7 = .ok (.istore_n 3, 1) := by decide +kernel
theorem dX4_write_8 : decode cX4_write 8 = .ok (.aload_n 0, 1) := by decide +kernel
theorem dX4_write_9 : decode cX4_write 9 = .ok (.getfield 9, 3) := by decide +kernel
theorem dX4_write_12 : decode cX4_write 12 = .ok (.iload_n 1, 1) := by decide +kernel
theorem dX4_write_13 : decode cX4_write 13 = .ok (.iload_n 2, 1) := by decide +kernel
theorem dX4_write_14 : decode cX4_write 14 = .ok (.iload_n 3, 1) := by decide +kernel
theorem dX4_write_15 : decode cX4_write 15 = .ok (.ishl, 1) := by decide +kernel
theorem dX4_write_16 : decode cX4_write 16 = .ok (.iload_n 3, 1) := by decide +kernel
theorem dX4_write_17 : decode cX4_write 17 = .ok (.ishr, 1) := by decide +kernel
theorem dX4_write_18 : decode cX4_write 18 = .ok (.iastore, 1) := by decide +kernel
theorem dX4_write_19 : decode cX4_write 19 = .ok (.return_, 1) := by decide +kernel
theorem dX4_hasRun_0 : decode cX4_hasRun 0 = .ok (.iload_n 2, 1) := by decide +kernel
theorem dX4_hasRun_1 : decode cX4_hasRun 1 = .ok (.ifCond .lt 29, 3) := by decide +kernel
theorem dX4_hasRun_4 : decode cX4_hasRun 4 = .ok (.iload_n 1, 1) := by decide +kernel
theorem dX4_hasRun_5 : decode cX4_hasRun 5 = .ok (.ifCond .lt 25, 3) := by decide +kernel
theorem dX4_hasRun_8 : decode cX4_hasRun 8 = .ok (.iload_n 2, 1) := by decide +kernel
theorem dX4_hasRun_9 : decode cX4_hasRun 9 = .ok (.aload_n 0, 1) := by decide +kernel
theorem dX4_hasRun_10 : decode cX4_hasRun 10 = .ok (.getfield 19, 3) := by decide +kernel
theorem dX4_hasRun_13 : decode cX4_hasRun 13 = .ok (.if_icmp .gt 17, 3) := by decide +kernel
theorem dX4_hasRun_16 : decode cX4_hasRun 16 = .ok (.iload_n 1, 1) := by decide +kernel
theorem dX4_hasRun_17 : decode cX4_hasRun 17 = .ok (.aload_n 0, 1) := by decide +kernel
theorem dX4_hasRun_18 : decode cX4_hasRun 18 = .ok (.getfield 19, 3) := by decide +kernel
theorem dX4_hasRun_21 : decode cX4_hasRun 21 = .ok (.iload_n 2, 1) := by decide +kernel
theorem dX4_hasRun_22 : decode cX4_hasRun 22 = .ok (.isub, 1) := by decide +kernel
theorem dX4_hasRun_23 : decode cX4_hasRun 23 = .ok (.if_icmp .gt 7, 3) := by decide +kernel
theorem dX4_hasRun_26 : decode cX4_hasRun 26 = .ok (.iconst 1, 1) := by decide +kernel
theorem dX4_hasRun_27 : decode cX4_hasRun 27 = .ok (.goto 4, 3) := by decide +kernel
theorem dX4_hasRun_30 : decode cX4_hasRun 30 = .ok (.iconst 0, 1) := by decide +kernel
theorem dX4_hasRun_31 : decode cX4_hasRun 31 = .ok (.ireturn, 1) := by decide +kernel
theorem dX5_atFirst_0 : decode cX5_atFirst 0 = .ok (.iload_n 0, 1) := by decide +kernel
theorem dX5_atFirst_1 : decode cX5_atFirst 1 = .ok (.iconst 1, 1) := by decide +kernel
theorem dX5_atFirst_2 : decode cX5_atFirst 2 = .ok (.iload_n 0, 1) := by decide +kernel
theorem dX5_atFirst_3 : decode cX5_atFirst 3 = .ok (.iconst 4, 1) := by decide +kernel
theorem dX5_atFirst_4 : decode cX5_atFirst 4 = .ok (.iadd, 1) := by decide +kernel
theorem dX5_atFirst_5 : decode cX5_atFirst 5 = .ok (.ishl, 1) := by decide +kernel
theorem dX5_atFirst_6 : decode cX5_atFirst 6 = .ok (.ior, 1) := by decide +kernel
theorem dX5_atFirst_7 : decode cX5_atFirst 7 = .ok (.ireturn, 1) := by decide +kernel
theorem dX5_marker_0 : decode cX5_marker 0 = .ok (.iload_n 0, 1) := by decide +kernel
theorem dX5_marker_1 : decode cX5_marker 1 = .ok (.bipush 15, 2) := by decide +kernel
theorem dX5_marker_3 : decode cX5_marker 3 = .ok (.iand, 1) := by decide +kernel
theorem dX5_marker_4 : decode cX5_marker 4 = .ok (.ireturn, 1) := by decide +kernel
theorem dX5_met_0 : decode cX5_met 0 = .ok (.iload_n 0, 1) := by decide +kernel
theorem dX5_met_1 : decode cX5_met 1 = .ok (.iconst 4, 1) := by decide +kernel
theorem dX5_met_2 : decode cX5_met 2 = .ok (.iushr, 1) := by decide +kernel
theorem dX5_met_3 : decode cX5_met 3 = .ok (.sipush 1023, 3) := by decide +kernel
theorem dX5_met_6 : decode cX5_met 6 = .ok (.iand, 1) := by decide +kernel
theorem dX5_met_7 : decode cX5_met 7 = .ok (.ireturn, 1) := by decide +kernel
theorem dX5_gone_0 : decode cX5_gone 0 = .ok (.iload_n 0, 1) := by decide +kernel
theorem dX5_gone_1 : decode cX5_gone 1 = .ok (.bipush 14, 2) := by decide +kernel
theorem dX5_gone_3 : decode cX5_gone 3 = .ok (.iushr, 1) := by decide +kernel
theorem dX5_gone_4 : decode cX5_gone 4 = .ok (.sipush 4095, 3) := by decide +kernel
theorem dX5_gone_7 : decode cX5_gone 7 = .ok (.iand, 1) := by decide +kernel
theorem dX5_gone_8 : decode cX5_gone 8 = .ok (.ireturn, 1) := by decide +kernel
theorem dX5_markerAndMet_0 : decode cX5_markerAndMet 0 = .ok (.iload_n 0, 1) := by decide +kernel
theorem dX5_markerAndMet_1 : decode cX5_markerAndMet 1 = .ok (.invokestatic 9, 3) := by decide +kernel
theorem dX5_markerAndMet_4 : decode cX5_markerAndMet 4 = .ok (.istore_n 1, 1) := by decide +kernel
theorem dX5_markerAndMet_5 : decode cX5_markerAndMet 5 = .ok (.iload_n 0, 1) := by decide +kernel
theorem dX5_markerAndMet_6 : decode cX5_markerAndMet 6 = .ok (.invokestatic 13, 3) := by decide +kernel
theorem dX5_markerAndMet_9 : decode cX5_markerAndMet 9 = .ok (.istore_n 2, 1) := by decide +kernel
theorem dX5_markerAndMet_10 : decode cX5_markerAndMet 10 = .ok (.iload_n 2, 1) := by decide +kernel
theorem dX5_markerAndMet_11 : decode cX5_markerAndMet 11 = .ok (.iconst 1, 1) := by decide +kernel
theorem dX5_markerAndMet_12 : decode cX5_markerAndMet 12 = .ok (.iload_n 1, 1) := by decide +kernel
theorem dX5_markerAndMet_13 : decode cX5_markerAndMet 13 = .ok (.ishl, 1) := by decide +kernel
theorem dX5_markerAndMet_14 : decode cX5_markerAndMet 14 = .ok (.iconst 1, 1) := by decide +kernel
theorem dX5_markerAndMet_15 : decode cX5_markerAndMet 15 = .ok (.isub, 1) := by decide +kernel
theorem dX5_markerAndMet_16 : decode cX5_markerAndMet 16 = .ok (.iand, 1) := by decide +kernel
theorem dX5_markerAndMet_17 : decode cX5_markerAndMet 17 = .ok (.istore_n 3, 1) := by decide +kernel
theorem dX5_markerAndMet_18 : decode cX5_markerAndMet 18 = .ok (.iload_n 2, 1) := by decide +kernel
theorem dX5_markerAndMet_19 : decode cX5_markerAndMet 19 = .ok (.iload_n 1, 1) := by decide +kernel
theorem dX5_markerAndMet_20 : decode cX5_markerAndMet 20 = .ok (.iconst 1, 1) := by decide +kernel
theorem dX5_markerAndMet_21 : decode cX5_markerAndMet 21 = .ok (.iadd, 1) := by decide +kernel
theorem dX5_markerAndMet_22 : decode cX5_markerAndMet 22 = .ok (.iushr, 1) := by decide +kernel
theorem dX5_markerAndMet_23 : decode cX5_markerAndMet 23 = .ok (.iload_n 1, 1) := by decide +kernel
theorem dX5_markerAndMet_24 : decode cX5_markerAndMet 24 = .ok (.ishl, 1) := by decide +kernel
theorem dX5_markerAndMet_25 : decode cX5_markerAndMet 25 = .ok (.istore 4, 2) := by decide +kernel
theorem dX5_markerAndMet_27 : decode cX5_markerAndMet 27 = .ok (.iload_n 1, 1) := by decide +kernel
theorem dX5_markerAndMet_28 : decode cX5_markerAndMet 28 = .ok (.bipush 9, 2) := by decide +kernel
theorem dX5_markerAndMet_30 : decode cX5_markerAndMet 30 = .ok (.ishl, 1) := by decide +kernel
theorem dX5_markerAndMet_31 : decode cX5_markerAndMet 31 = .ok (.iload_n 3, 1) := by decide +kernel
theorem dX5_markerAndMet_32 : decode cX5_markerAndMet 32 = .ok (.iload 4, 2) := by decide +kernel
theorem dX5_markerAndMet_34 : decode cX5_markerAndMet 34 = .ok (.ior, 1) := by decide +kernel
theorem dX5_markerAndMet_35 : decode cX5_markerAndMet 35 = .ok (.sipush 511, 3) := by decide +kernel
theorem dX5_markerAndMet_38 : decode cX5_markerAndMet 38 = .ok (.iand, 1) := by decide +kernel
theorem dX5_markerAndMet_39 : decode cX5_markerAndMet 39 = .ok (.ior, 1) := by decide +kernel
theorem dX5_markerAndMet_40 : decode cX5_markerAndMet 40 = .ok (.ireturn, 1) := by decide +kernel
theorem dX5_withMarker_0 : decode cX5_withMarker 0 = .ok (.iload_n 0, 1) := by decide +kernel
theorem dX5_withMarker_1 : decode cX5_withMarker 1 = .ok (.bipush (-16), 2) := by decide +kernel
theorem dX5_withMarker_3 : decode cX5_withMarker 3 = .ok (.iand, 1) := by decide +kernel
theorem dX5_withMarker_4 : decode cX5_withMarker 4 = .ok (.iload_n 1, 1) := by decide +kernel
theorem dX5_withMarker_5 : decode cX5_withMarker 5 = .ok (.ior, 1) := by decide +kernel
theorem dX5_withMarker_6 : decode cX5_withMarker 6 = .ok (.ireturn, 1) := by decide +kernel
theorem dX5_behind_0 : decode cX5_behind 0 = .ok (.iload_n 0, 1) := by decide +kernel
theorem dX5_behind_1 : decode cX5_behind 1 = .ok (.bipush (-16), 2) := by decide +kernel
theorem dX5_behind_3 : decode cX5_behind 3 = .ok (.iand, 1) := by decide +kernel
theorem dX5_behind_4 : decode cX5_behind 4 = .ok (.iload_n 2, 1) := by decide +kernel
theorem dX5_behind_5 : decode cX5_behind 5 = .ok (.ior, 1) := by decide +kernel
theorem dX5_behind_6 : decode cX5_behind 6 = .ok (.iconst 1, 1) := by decide +kernel
theorem dX5_behind_7 : decode cX5_behind 7 = .ok (.iload_n 2, 1) := by decide +kernel
theorem dX5_behind_8 : decode cX5_behind 8 = .ok (.iconst 4, 1) := by decide +kernel
theorem dX5_behind_9 : decode cX5_behind 9 = .ok (.iadd, 1) := by decide +kernel
theorem dX5_behind_10 : decode cX5_behind 10 = .ok (.ishl, 1) := by decide +kernel
theorem dX5_behind_11 : decode cX5_behind 11 = .ok (.ior, 1) := by decide +kernel
theorem dX5_behind_12 : decode cX5_behind 12 = .ok (.iconst 1, 1) := by decide +kernel
theorem dX5_behind_13 : decode cX5_behind 13 = .ok (.iload_n 1, 1) := by decide +kernel
theorem dX5_behind_14 : decode cX5_behind 14 = .ok (.bipush 14, 2) := by decide +kernel
theorem dX5_behind_16 : decode cX5_behind 16 = .ok (.iadd, 1) := by decide +kernel
theorem dX5_behind_17 : decode cX5_behind 17 = .ok (.ishl, 1) := by decide +kernel
theorem dX5_behind_18 : decode cX5_behind 18 = .ok (.ior, 1) := by decide +kernel
theorem dX5_behind_19 : decode cX5_behind 19 = .ok (.ireturn, 1) := by decide +kernel
theorem dX6_init_0 : decode cX6_init 0 = .ok (.aload_n 0, 1) := by decide +kernel
theorem dX6_init_1 : decode cX6_init 1 = .ok (.invokespecial 3, 3) := by decide +kernel
theorem dX6_init_4 : decode cX6_init 4 = .ok (.aload_n 0, 1) := by decide +kernel
theorem dX6_init_5 : decode cX6_init 5 = .ok (.bipush 60, 2) := by decide +kernel
theorem dX6_init_7 : decode cX6_init 7 = .ok (.newarray .int, 2) := by decide +kernel
theorem dX6_init_9 : decode cX6_init 9 = .ok (.putfield 9, 3) := by decide +kernel
theorem dX6_init_12 : decode cX6_init 12 = .ok (.return_, 1) := by decide +kernel
theorem dX6_add_0 : decode cX6_add 0 = .ok (.iconst 0, 1) := by decide +kernel
theorem dX6_add_1 : decode cX6_add 1 = .ok (.istore 4, 2) := by decide +kernel
theorem dX6_add_3 : decode cX6_add 3 = .ok (.iload 4, 2) := by decide +kernel
theorem dX6_add_5 : decode cX6_add 5 = .ok (.iload_n 3, 1) := by decide +kernel
theorem dX6_add_6 : decode cX6_add 6 = .ok (.if_icmp .ge 49, 3) := by decide +kernel
theorem dX6_add_9 : decode cX6_add 9 = .ok (.aload_n 0, 1) := by decide +kernel
theorem dX6_add_10 : decode cX6_add 10 = .ok (.getfield 15, 3) := by decide +kernel
theorem dX6_add_13 : decode cX6_add 13 = .ok (.bipush 60, 2) := by decide +kernel
theorem dX6_add_15 : decode cX6_add 15 = .ok (.if_icmp .ge 40, 3) := by decide +kernel
theorem dX6_add_18 : decode cX6_add 18 = .ok (.aload_n 0, 1) := by decide +kernel
theorem dX6_add_19 : decode cX6_add 19 = .ok (.getfield 9, 3) := by decide +kernel
theorem dX6_add_22 : decode cX6_add 22 = .ok (.aload_n 0, 1) := by decide +kernel
theorem dX6_add_23 : decode cX6_add 23 = .ok (.getfield 15, 3) := by decide +kernel
theorem dX6_add_26 : decode cX6_add 26 = .ok (.lload_n 1, 1) := by decide +kernel
theorem dX6_add_27 : decode cX6_add 27 = .ok (.bipush 8, 2) := by decide +kernel
theorem dX6_add_29 : decode cX6_add 29 = .ok (.iload 4, 2) := by decide +kernel
theorem dX6_add_31 : decode cX6_add 31 = .ok (.imul, 1) := by decide +kernel
theorem dX6_add_32 : decode cX6_add 32 = .ok (.lushr, 1) := by decide +kernel
theorem dX6_add_33 : decode cX6_add 33 = .ok (.l2i, 1) := by decide +kernel
theorem dX6_add_34 : decode cX6_add 34 = .ok (.sipush 255, 3) := by decide +kernel
theorem dX6_add_37 : decode cX6_add 37 = .ok (.iand, 1) := by decide +kernel
theorem dX6_add_38 : decode cX6_add 38 = .ok (.iastore, 1) := by decide +kernel
theorem dX6_add_39 : decode cX6_add 39 = .ok (.aload_n 0, 1) := by decide +kernel
theorem dX6_add_40 : decode cX6_add 40 = .ok (.dup, 1) := by decide +kernel
theorem dX6_add_41 : decode cX6_add 41 = .ok (.getfield 15, 3) := by decide +kernel
theorem dX6_add_44 : decode cX6_add 44 = .ok (.iconst 1, 1) := by decide +kernel
theorem dX6_add_45 : decode cX6_add 45 = .ok (.iadd, 1) := by decide +kernel
theorem dX6_add_46 : decode cX6_add 46 = .ok (.putfield 15, 3) := by decide +kernel
theorem dX6_add_49 : decode cX6_add 49 = .ok (.iinc 4 1, 3) := by decide +kernel
theorem dX6_add_52 : decode cX6_add 52 = .ok (.goto (-49), 3) := by decide +kernel
theorem dX6_add_55 : decode cX6_add 55 = .ok (.return_, 1) := by decide +kernel
theorem dX6_fault_0 : decode cX6_fault 0 = .ok (.iconst 0, 1) := by decide +kernel
theorem dX6_fault_1 : decode cX6_fault 1 = .ok (.istore_n 1, 1) := by decide +kernel
theorem dX6_fault_2 : decode cX6_fault 2 = .ok (.iload_n 1, 1) := by decide +kernel
theorem dX6_fault_3 : decode cX6_fault 3 = .ok (.aload_n 0, 1) := by decide +kernel
theorem dX6_fault_4 : decode cX6_fault 4 = .ok (.getfield 15, 3) := by decide +kernel
theorem dX6_fault_7 : decode cX6_fault 7 = .ok (.if_icmp .ge 19, 3) := by decide +kernel
theorem dX6_fault_10 : decode cX6_fault 10 = .ok (.aload_n 0, 1) := by decide +kernel
theorem dX6_fault_11 : decode cX6_fault 11 = .ok (.iload_n 1, 1) := by decide +kernel
theorem dX6_fault_12 : decode cX6_fault 12 = .ok (.invokevirtual 19, 3) := by decide +kernel
theorem dX6_fault_15 : decode cX6_fault 15 = .ok (.ifCond .ne 5, 3) := by decide +kernel
theorem dX6_fault_18 : decode cX6_fault 18 = .ok (.iload_n 1, 1) := by decide +kernel
theorem dX6_fault_19 : decode cX6_fault 19 = .ok (.ireturn, 1) := by decide +kernel
theorem dX6_fault_20 : decode cX6_fault 20 = .ok (.iinc 1 1, 3) := by decide +kernel
theorem dX6_fault_23 : decode cX6_fault 23 = .ok (.goto (-21), 3) := by decide +kernel
theorem dX6_fault_26 : decode cX6_fault 26 = .ok (.aload_n 0, 1) := by decide +kernel
theorem dX6_fault_27 : decode cX6_fault 27 = .ok (.getfield 15, 3) := by decide +kernel
theorem dX6_fault_30 : decode cX6_fault 30 = .ok (.iconst 4, 1) := by decide +kernel
theorem dX6_fault_31 : decode cX6_fault 31 = .ok (.irem, 1) := by decide +kernel
theorem dX6_fault_32 : decode cX6_fault 32 = .ok (.iconst 3, 1) := by decide +kernel
theorem dX6_fault_33 : decode cX6_fault 33 = .ok (.if_icmp .ne 7, 3) := by decide +kernel
theorem dX6_fault_36 : decode cX6_fault 36 = .ok (.iconst (-1), 1) := by decide +kernel
theorem dX6_fault_37 : decode cX6_fault 37 = .ok (.goto 7, 3) := by decide +kernel
theorem dX6_fault_40 : decode cX6_fault 40 = .ok (.aload_n 0, 1) := by decide +kernel
theorem dX6_fault_41 : decode cX6_fault 41 = .ok (.getfield 15, 3) := by decide +kernel
theorem dX6_fault_44 : decode cX6_fault 44 = .ok (.ireturn, 1) := by decide +kernel
theorem dX6_fits_0 : decode cX6_fits 0 = .ok (.aload_n 0, 1) := by decide +kernel
theorem dX6_fits_1 : decode cX6_fits 1 = .ok (.getfield 9, 3) := by decide +kernel
theorem dX6_fits_4 : decode cX6_fits 4 = .ok (.iload_n 1, 1) := by decide +kernel
theorem dX6_fits_5 : decode cX6_fits 5 = .ok (.iaload, 1) := by decide +kernel
theorem dX6_fits_6 : decode cX6_fits 6 = .ok (.istore_n 2, 1) := by decide +kernel
theorem dX6_fits_7 : decode cX6_fits 7 = .ok (.iload_n 1, 1) := by decide +kernel
theorem dX6_fits_8 : decode cX6_fits 8 = .ok (.iconst 4, 1) := by decide +kernel
theorem dX6_fits_9 : decode cX6_fits 9 = .ok (.irem, 1) := by decide +kernel
theorem dX6_fits_10 : decode cX6_fits 10 = .ok (.tableswitch 96 0 2 #[26, 47, 71], 26) := by decide +kernel
theorem dX6_fits_36 : decode cX6_fits 36 = .ok (.iload_n 2, 1) := by decide +kernel
theorem dX6_fits_37 : decode cX6_fits 37 = .ok (.invokestatic 23, 3) := by decide +kernel
theorem dX6_fits_40 : decode cX6_fits 40 = .ok (.ifCond .eq 15, 3) := by decide +kernel
theorem dX6_fits_43 : decode cX6_fits 43 = .ok (.iload_n 1, 1) := by decide +kernel
theorem dX6_fits_44 : decode cX6_fits 44 = .ok (.iconst 4, 1) := by decide +kernel
theorem dX6_fits_45 : decode cX6_fits 45 = .ok (.idiv, 1) := by decide +kernel
theorem dX6_fits_46 : decode cX6_fits 46 = .ok (.bipush 12, 2) := by decide +kernel
theorem dX6_fits_48 : decode cX6_fits 48 = .ok (.if_icmp .ge 7, 3) := by decide +kernel
theorem dX6_fits_51 : decode cX6_fits 51 = .ok (.iconst 1, 1) := by decide +kernel
theorem dX6_fits_52 : decode cX6_fits 52 = .ok (.goto 4, 3) := by decide +kernel
theorem dX6_fits_55 : decode cX6_fits 55 = .ok (.iconst 0, 1) := by decide +kernel
theorem dX6_fits_56 : decode cX6_fits 56 = .ok (.ireturn, 1) := by decide +kernel
theorem dX6_fits_57 : decode cX6_fits 57 = .ok (.iload_n 2, 1) := by decide +kernel
theorem dX6_fits_58 : decode cX6_fits 58 = .ok (.bipush 45, 2) := by decide +kernel
theorem dX6_fits_60 : decode cX6_fits 60 = .ok (.if_icmp .eq 15, 3) := by decide +kernel
theorem dX6_fits_63 : decode cX6_fits 63 = .ok (.iload_n 2, 1) := by decide +kernel
theorem dX6_fits_64 : decode cX6_fits 64 = .ok (.bipush 62, 2) := by decide +kernel
theorem dX6_fits_66 : decode cX6_fits 66 = .ok (.if_icmp .eq 9, 3) := by decide +kernel
theorem dX6_fits_69 : decode cX6_fits 69 = .ok (.iload_n 2, 1) := by decide +kernel
theorem dX6_fits_70 : decode cX6_fits 70 = .ok (.bipush 60, 2) := by decide +kernel
theorem dX6_fits_72 : decode cX6_fits 72 = .ok (.if_icmp .ne 7, 3) := by decide +kernel
theorem dX6_fits_75 : decode cX6_fits 75 = .ok (.iconst 1, 1) := by decide +kernel
theorem dX6_fits_76 : decode cX6_fits 76 = .ok (.goto 4, 3) := by decide +kernel
theorem dX6_fits_79 : decode cX6_fits 79 = .ok (.iconst 0, 1) := by decide +kernel
theorem dX6_fits_80 : decode cX6_fits 80 = .ok (.ireturn, 1) := by decide +kernel
theorem dX6_fits_81 : decode cX6_fits 81 = .ok (.iload_n 2, 1) := by decide +kernel
theorem dX6_fits_82 : decode cX6_fits 82 = .ok (.invokestatic 23, 3) := by decide +kernel
theorem dX6_fits_85 : decode cX6_fits 85 = .ok (.ifCond .eq 19, 3) := by decide +kernel
theorem dX6_fits_88 : decode cX6_fits 88 = .ok (.iload_n 2, 1) := by decide +kernel
theorem dX6_fits_89 : decode cX6_fits 89 = .ok (.aload_n 0, 1) := by decide +kernel
theorem dX6_fits_90 : decode cX6_fits 90 = .ok (.getfield 9, 3) := by decide +kernel
theorem dX6_fits_93 : decode cX6_fits 93 = .ok (.iload_n 1, 1) := by decide +kernel
theorem dX6_fits_94 : decode cX6_fits 94 = .ok (.iconst 2, 1) := by decide +kernel
theorem dX6_fits_95 : decode cX6_fits 95 = .ok (.isub, 1) := by decide +kernel
theorem dX6_fits_96 : decode cX6_fits 96 = .ok (.iaload, 1) := by decide +kernel
theorem dX6_fits_97 : decode cX6_fits 97 = .ok (.if_icmp .eq 7, 3) := by decide +kernel
theorem dX6_fits_100 : decode cX6_fits 100 = .ok (.iconst 1, 1) := by decide +kernel
theorem dX6_fits_101 : decode cX6_fits 101 = .ok (.goto 4, 3) := by decide +kernel
theorem dX6_fits_104 : decode cX6_fits 104 = .ok (.iconst 0, 1) := by decide +kernel
theorem dX6_fits_105 : decode cX6_fits 105 = .ok (.ireturn, 1) := by decide +kernel
theorem dX6_fits_106 : decode cX6_fits 106 = .ok (.iload_n 2, 1) := by decide +kernel
theorem dX6_fits_107 : decode cX6_fits 107 = .ok (.bipush 44, 2) := by decide +kernel
theorem dX6_fits_109 : decode cX6_fits 109 = .ok (.if_icmp .ne 7, 3) := by decide +kernel
theorem dX6_fits_112 : decode cX6_fits 112 = .ok (.iconst 1, 1) := by decide +kernel
theorem dX6_fits_113 : decode cX6_fits 113 = .ok (.goto 4, 3) := by decide +kernel
theorem dX6_fits_116 : decode cX6_fits 116 = .ok (.iconst 0, 1) := by decide +kernel
theorem dX6_fits_117 : decode cX6_fits 117 = .ok (.ireturn, 1) := by decide +kernel
theorem dX6_isLetter_0 : decode cX6_isLetter 0 = .ok (.iload_n 0, 1) := by decide +kernel
theorem dX6_isLetter_1 : decode cX6_isLetter 1 = .ok (.bipush 97, 2) := by decide +kernel
theorem dX6_isLetter_3 : decode cX6_isLetter 3 = .ok (.if_icmp .lt 13, 3) := by decide +kernel
theorem dX6_isLetter_6 : decode cX6_isLetter 6 = .ok (.iload_n 0, 1) := by decide +kernel
theorem dX6_isLetter_7 : decode cX6_isLetter 7 = .ok (.bipush 106, 2) := by decide +kernel
theorem dX6_isLetter_9 : decode cX6_isLetter 9 = .ok (.if_icmp .gt 7, 3) := by decide +kernel
theorem dX6_isLetter_12 : decode cX6_isLetter 12 = .ok (.iconst 1, 1) := by decide +kernel
theorem dX6_isLetter_13 : decode cX6_isLetter 13 = .ok (.goto 4, 3) := by decide +kernel
theorem dX6_isLetter_16 : decode cX6_isLetter 16 = .ok (.iconst 0, 1) := by decide +kernel
theorem dX6_isLetter_17 : decode cX6_isLetter 17 = .ok (.ireturn, 1) := by decide +kernel
theorem dX6_tell_0 : decode cX6_tell 0 = .ok (.bipush 97, 2) := by decide +kernel
theorem dX6_tell_2 : decode cX6_tell 2 = .ok (.istore_n 2, 1) := by decide +kernel
theorem dX6_tell_3 : decode cX6_tell 3 = .ok (.iconst 0, 1) := by decide +kernel
theorem dX6_tell_4 : decode cX6_tell 4 = .ok (.istore_n 3, 1) := by decide +kernel
theorem dX6_tell_5 : decode cX6_tell 5 = .ok (.iload_n 3, 1) := by decide +kernel
theorem dX6_tell_6 : decode cX6_tell 6 = .ok (.aload_n 0, 1) := by decide +kernel
theorem dX6_tell_7 : decode cX6_tell 7 = .ok (.getfield 15, 3) := by decide +kernel
theorem dX6_tell_10 : decode cX6_tell 10 = .ok (.if_icmp .ge 32, 3) := by decide +kernel
theorem dX6_tell_13 : decode cX6_tell 13 = .ok (.aload_n 0, 1) := by decide +kernel
theorem dX6_tell_14 : decode cX6_tell 14 = .ok (.getfield 9, 3) := by decide +kernel
theorem dX6_tell_17 : decode cX6_tell 17 = .ok (.iload_n 3, 1) := by decide +kernel
theorem dX6_tell_18 : decode cX6_tell 18 = .ok (.iaload, 1) := by decide +kernel
theorem dX6_tell_19 : decode cX6_tell 19 = .ok (.invokestatic 23, 3) := by decide +kernel
theorem dX6_tell_22 : decode cX6_tell 22 = .ok (.ifCond .eq 14, 3) := by decide +kernel
theorem dX6_tell_25 : decode cX6_tell 25 = .ok (.iload_n 2, 1) := by decide +kernel
theorem dX6_tell_26 : decode cX6_tell 26 = .ok (.aload_n 0, 1) := by decide +kernel
theorem dX6_tell_27 : decode cX6_tell 27 = .ok (.getfield 9, 3) := by decide +kernel
theorem dX6_tell_30 : decode cX6_tell 30 = .ok (.iload_n 3, 1) := by decide +kernel
theorem dX6_tell_31 : decode cX6_tell 31 = .ok (.iaload, 1) := by decide +kernel
theorem dX6_tell_32 : decode cX6_tell 32 = .ok (.invokestatic 26, 3) := by decide +kernel
theorem dX6_tell_35 : decode cX6_tell 35 = .ok (.istore_n 2, 1) := by decide +kernel
theorem dX6_tell_36 : decode cX6_tell 36 = .ok (.iinc 3 2, 3) := by decide +kernel
theorem dX6_tell_39 : decode cX6_tell 39 = .ok (.goto (-34), 3) := by decide +kernel
theorem dX6_tell_42 : decode cX6_tell 42 = .ok (.aload_n 1, 1) := by decide +kernel
theorem dX6_tell_43 : decode cX6_tell 43 = .ok (.iload_n 2, 1) := by decide +kernel
theorem dX6_tell_44 : decode cX6_tell 44 = .ok (.bipush 97, 2) := by decide +kernel
theorem dX6_tell_46 : decode cX6_tell 46 = .ok (.isub, 1) := by decide +kernel
theorem dX6_tell_47 : decode cX6_tell 47 = .ok (.iconst 1, 1) := by decide +kernel
theorem dX6_tell_48 : decode cX6_tell 48 = .ok (.iadd, 1) := by decide +kernel
theorem dX6_tell_49 : decode cX6_tell 49 = .ok (.invokevirtual 32, 3) := by decide +kernel
theorem dX6_tell_52 : decode cX6_tell 52 = .ok (.iconst 0, 1) := by decide +kernel
theorem dX6_tell_53 : decode cX6_tell 53 = .ok (.istore_n 3, 1) := by decide +kernel
theorem dX6_tell_54 : decode cX6_tell 54 = .ok (.iload_n 3, 1) := by decide +kernel
theorem dX6_tell_55 : decode cX6_tell 55 = .ok (.iconst 2, 1) := by decide +kernel
theorem dX6_tell_56 : decode cX6_tell 56 = .ok (.iadd, 1) := by decide +kernel
theorem dX6_tell_57 : decode cX6_tell 57 = .ok (.aload_n 0, 1) := by decide +kernel
theorem dX6_tell_58 : decode cX6_tell 58 = .ok (.getfield 15, 3) := by decide +kernel
theorem dX6_tell_61 : decode cX6_tell 61 = .ok (.if_icmp .ge 44, 3) := by decide +kernel
theorem dX6_tell_64 : decode cX6_tell 64 = .ok (.aload_n 1, 1) := by decide +kernel
theorem dX6_tell_65 : decode cX6_tell 65 = .ok (.aload_n 0, 1) := by decide +kernel
theorem dX6_tell_66 : decode cX6_tell 66 = .ok (.getfield 9, 3) := by decide +kernel
theorem dX6_tell_69 : decode cX6_tell 69 = .ok (.iload_n 3, 1) := by decide +kernel
theorem dX6_tell_70 : decode cX6_tell 70 = .ok (.iaload, 1) := by decide +kernel
theorem dX6_tell_71 : decode cX6_tell 71 = .ok (.bipush 97, 2) := by decide +kernel
theorem dX6_tell_73 : decode cX6_tell 73 = .ok (.isub, 1) := by decide +kernel
theorem dX6_tell_74 : decode cX6_tell 74 = .ok (.aload_n 0, 1) := by decide +kernel
theorem dX6_tell_75 : decode cX6_tell 75 = .ok (.getfield 9, 3) := by decide +kernel
theorem dX6_tell_78 : decode cX6_tell 78 = .ok (.iload_n 3, 1) := by decide +kernel
theorem dX6_tell_79 : decode cX6_tell 79 = .ok (.iconst 2, 1) := by decide +kernel
theorem dX6_tell_80 : decode cX6_tell 80 = .ok (.iadd, 1) := by decide +kernel
theorem dX6_tell_81 : decode cX6_tell 81 = .ok (.iaload, 1) := by decide +kernel
theorem dX6_tell_82 : decode cX6_tell 82 = .ok (.bipush 97, 2) := by decide +kernel
theorem dX6_tell_84 : decode cX6_tell 84 = .ok (.isub, 1) := by decide +kernel
theorem dX6_tell_85 : decode cX6_tell 85 = .ok (.aload_n 0, 1) := by decide +kernel
theorem dX6_tell_86 : decode cX6_tell 86 = .ok (.getfield 9, 3) := by decide +kernel
theorem dX6_tell_89 : decode cX6_tell 89 = .ok (.iload_n 3, 1) := by decide +kernel
theorem dX6_tell_90 : decode cX6_tell 90 = .ok (.iconst 1, 1) := by decide +kernel
theorem dX6_tell_91 : decode cX6_tell 91 = .ok (.iadd, 1) := by decide +kernel
theorem dX6_tell_92 : decode cX6_tell 92 = .ok (.iaload, 1) := by decide +kernel
theorem dX6_tell_93 : decode cX6_tell 93 = .ok (.invokestatic 38, 3) := by decide +kernel
theorem dX6_tell_96 : decode cX6_tell 96 = .ok (.invokevirtual 42, 3) := by decide +kernel
theorem dX6_tell_99 : decode cX6_tell 99 = .ok (.iinc 3 4, 3) := by decide +kernel
theorem dX6_tell_102 : decode cX6_tell 102 = .ok (.goto (-48), 3) := by decide +kernel
theorem dX6_tell_105 : decode cX6_tell 105 = .ok (.return_, 1) := by decide +kernel
theorem dX6_wayOf_0 : decode cX6_wayOf 0 = .ok (.iload_n 0, 1) := by decide +kernel
theorem dX6_wayOf_1 : decode cX6_wayOf 1 = .ok (.bipush 62, 2) := by decide +kernel
theorem dX6_wayOf_3 : decode cX6_wayOf 3 = .ok (.if_icmp .ne 5, 3) := by decide +kernel
theorem dX6_wayOf_6 : decode cX6_wayOf 6 = .ok (.iconst 1, 1) := by decide +kernel
theorem dX6_wayOf_7 : decode cX6_wayOf 7 = .ok (.ireturn, 1) := by decide +kernel
theorem dX6_wayOf_8 : decode cX6_wayOf 8 = .ok (.iload_n 0, 1) := by decide +kernel
theorem dX6_wayOf_9 : decode cX6_wayOf 9 = .ok (.bipush 60, 2) := by decide +kernel
theorem dX6_wayOf_11 : decode cX6_wayOf 11 = .ok (.if_icmp .ne 7, 3) := by decide +kernel
theorem dX6_wayOf_14 : decode cX6_wayOf 14 = .ok (.iconst 2, 1) := by decide +kernel
theorem dX6_wayOf_15 : decode cX6_wayOf 15 = .ok (.goto 4, 3) := by decide +kernel
theorem dX6_wayOf_18 : decode cX6_wayOf 18 = .ok (.iconst 0, 1) := by decide +kernel
theorem dX6_wayOf_19 : decode cX6_wayOf 19 = .ok (.ireturn, 1) := by decide +kernel
theorem dX7_init_0 : decode cX7_init 0 = .ok (.aload_n 0, 1) := by decide +kernel
theorem dX7_init_1 : decode cX7_init 1 = .ok (.invokespecial 3, 3) := by decide +kernel
theorem dX7_init_4 : decode cX7_init 4 = .ok (.aload_n 0, 1) := by decide +kernel
theorem dX7_init_5 : decode cX7_init 5 = .ok (.sipush 300, 3) := by decide +kernel
theorem dX7_init_8 : decode cX7_init 8 = .ok (.newarray .int, 2) := by decide +kernel
theorem dX7_init_10 : decode cX7_init 10 = .ok (.putfield 9, 3) := by decide +kernel
theorem dX7_init_13 : decode cX7_init 13 = .ok (.aload_n 0, 1) := by decide +kernel
theorem dX7_init_14 : decode cX7_init 14 = .ok (.aload_n 1, 1) := by decide +kernel
theorem dX7_init_15 : decode cX7_init 15 = .ok (.putfield 15, 3) := by decide +kernel
theorem dX7_init_18 : decode cX7_init 18 = .ok (.aload_n 0, 1) := by decide +kernel
theorem dX7_init_19 : decode cX7_init 19 = .ok (.aload_n 2, 1) := by decide +kernel
theorem dX7_init_20 : decode cX7_init 20 = .ok (.putfield 19, 3) := by decide +kernel
theorem dX7_init_23 : decode cX7_init 23 = .ok (.return_, 1) := by decide +kernel
theorem dX7_build_0 : decode cX7_build 0 = .ok (.aload_n 0, 1) := by decide +kernel
theorem dX7_build_1 : decode cX7_build 1 = .ok (.iconst 0, 1) := by decide +kernel
theorem dX7_build_2 : decode cX7_build 2 = .ok (.putfield 23, 3) := by decide +kernel
theorem dX7_build_5 : decode cX7_build 5 = .ok (.aload_n 0, 1) := by decide +kernel
theorem dX7_build_6 : decode cX7_build 6 = .ok (.iconst 0, 1) := by decide +kernel
theorem dX7_build_7 : decode cX7_build 7 = .ok (.putfield 27, 3) := by decide +kernel
theorem dX7_build_10 : decode cX7_build 10 = .ok (.aload_n 0, 1) := by decide +kernel
theorem dX7_build_11 : decode cX7_build 11 = .ok (.iconst 0, 1) := by decide +kernel
theorem dX7_build_12 : decode cX7_build 12 = .ok (.putfield 30, 3) := by decide +kernel
theorem dX7_build_15 : decode cX7_build 15 = .ok (.aload_n 0, 1) := by decide +kernel
theorem dX7_build_16 : decode cX7_build 16 = .ok (.iconst 0, 1) := by decide +kernel
theorem dX7_build_17 : decode cX7_build 17 = .ok (.putfield 33, 3) := by decide +kernel
theorem dX7_build_20 : decode cX7_build 20 = .ok (.aload_n 0, 1) := by decide +kernel
theorem dX7_build_21 : decode cX7_build 21 = .ok (.iload_n 1, 1) := by decide +kernel
theorem dX7_build_22 : decode cX7_build 22 = .ok (.iconst (-1), 1) := by decide +kernel
theorem dX7_build_23 : decode cX7_build 23 = .ok (.iconst 0, 1) := by decide +kernel
theorem dX7_build_24 : decode cX7_build 24 = .ok (.invokevirtual 37, 3) := by decide +kernel
theorem dX7_build_27 : decode cX7_build 27 = .ok (.aload_n 0, 1) := by decide +kernel
theorem dX7_build_28 : decode cX7_build 28 = .ok (.getfield 33, 3) := by decide +kernel
theorem dX7_build_31 : decode cX7_build 31 = .ok (.ifCond .ne 7, 3) := by decide +kernel
theorem dX7_build_34 : decode cX7_build 34 = .ok (.iconst 1, 1) := by decide +kernel
theorem dX7_build_35 : decode cX7_build 35 = .ok (.goto 4, 3) := by decide +kernel
theorem dX7_build_38 : decode cX7_build 38 = .ok (.iconst 0, 1) := by decide +kernel
theorem dX7_build_39 : decode cX7_build 39 = .ok (.ireturn, 1) := by decide +kernel
theorem dX7_grow_0 : decode cX7_grow 0 = .ok (.aload_n 0, 1) := by decide +kernel
theorem dX7_grow_1 : decode cX7_grow 1 = .ok (.getfield 23, 3) := by decide +kernel
theorem dX7_grow_4 : decode cX7_grow 4 = .ok (.sipush 300, 3) := by decide +kernel
theorem dX7_grow_7 : decode cX7_grow 7 = .ok (.if_icmp .ge 9, 3) := by decide +kernel
theorem dX7_grow_10 : decode cX7_grow 10 = .ok (.iload_n 3, 1) := by decide +kernel
theorem dX7_grow_11 : decode cX7_grow 11 = .ok (.bipush 12, 2) := by decide +kernel
theorem dX7_grow_13 : decode cX7_grow 13 = .ok (.if_icmp .le 9, 3) := by decide +kernel
theorem dX7_grow_16 : decode cX7_grow 16 = .ok (.aload_n 0, 1) := by decide +kernel
theorem dX7_grow_17 : decode cX7_grow 17 = .ok (.iconst 1, 1) := by decide +kernel
theorem dX7_grow_18 : decode cX7_grow 18 = .ok (.putfield 33, 3) := by decide +kernel
theorem dX7_grow_21 : decode cX7_grow 21 = .ok (.return_, 1) := by decide +kernel
theorem dX7_grow_22 : decode cX7_grow 22 = .ok (.aload_n 0, 1) := by decide +kernel
theorem dX7_grow_23 : decode cX7_grow 23 = .ok (.getfield 9, 3) := by decide +kernel
theorem dX7_grow_26 : decode cX7_grow 26 = .ok (.aload_n 0, 1) := by decide +kernel
theorem dX7_grow_27 : decode cX7_grow 27 = .ok (.getfield 23, 3) := by decide +kernel
theorem dX7_grow_30 : decode cX7_grow 30 = .ok (.iload_n 2, 1) := by decide +kernel
theorem dX7_grow_31 : decode cX7_grow 31 = .ok (.iastore, 1) := by decide +kernel
theorem dX7_grow_32 : decode cX7_grow 32 = .ok (.aload_n 0, 1) := by decide +kernel
theorem dX7_grow_33 : decode cX7_grow 33 = .ok (.dup, 1) := by decide +kernel
theorem dX7_grow_34 : decode cX7_grow 34 = .ok (.getfield 23, 3) := by decide +kernel
theorem dX7_grow_37 : decode cX7_grow 37 = .ok (.iconst 1, 1) := by decide +kernel
theorem dX7_grow_38 : decode cX7_grow 38 = .ok (.iadd, 1) := by decide +kernel
theorem dX7_grow_39 : decode cX7_grow 39 = .ok (.putfield 23, 3) := by decide +kernel
theorem dX7_grow_42 : decode cX7_grow 42 = .ok (.aload_n 0, 1) := by decide +kernel
theorem dX7_grow_43 : decode cX7_grow 43 = .ok (.aload_n 0, 1) := by decide +kernel
theorem dX7_grow_44 : decode cX7_grow 44 = .ok (.getfield 30, 3) := by decide +kernel
theorem dX7_grow_47 : decode cX7_grow 47 = .ok (.iload_n 3, 1) := by decide +kernel
theorem dX7_grow_48 : decode cX7_grow 48 = .ok (.invokestatic 41, 3) := by decide +kernel
theorem dX7_grow_51 : decode cX7_grow 51 = .ok (.putfield 30, 3) := by decide +kernel
theorem dX7_grow_54 : decode cX7_grow 54 = .ok (.aload_n 0, 1) := by decide +kernel
theorem dX7_grow_55 : decode cX7_grow 55 = .ok (.getfield 19, 3) := by decide +kernel
theorem dX7_grow_58 : decode cX7_grow 58 = .ok (.iload_n 1, 1) := by decide +kernel
theorem dX7_grow_59 : decode cX7_grow 59 = .ok (.invokevirtual 47, 3) := by decide +kernel
theorem dX7_grow_62 : decode cX7_grow 62 = .ok (.istore 4, 2) := by decide +kernel
theorem dX7_grow_64 : decode cX7_grow 64 = .ok (.iload 4, 2) := by decide +kernel
theorem dX7_grow_66 : decode cX7_grow 66 = .ok (.ifCond .eq 17, 3) := by decide +kernel
theorem dX7_grow_69 : decode cX7_grow 69 = .ok (.aload_n 0, 1) := by decide +kernel
theorem dX7_grow_70 : decode cX7_grow 70 = .ok (.getfield 19, 3) := by decide +kernel
theorem dX7_grow_73 : decode cX7_grow 73 = .ok (.iload_n 1, 1) := by decide +kernel
theorem dX7_grow_74 : decode cX7_grow 74 = .ok (.invokevirtual 53, 3) := by decide +kernel
theorem dX7_grow_77 : decode cX7_grow 77 = .ok (.invokestatic 57, 3) := by decide +kernel
theorem dX7_grow_80 : decode cX7_grow 80 = .ok (.goto 11, 3) := by decide +kernel
theorem dX7_grow_83 : decode cX7_grow 83 = .ok (.aload_n 0, 1) := by decide +kernel
theorem dX7_grow_84 : decode cX7_grow 84 = .ok (.getfield 19, 3) := by decide +kernel
theorem dX7_grow_87 : decode cX7_grow 87 = .ok (.iload_n 1, 1) := by decide +kernel
theorem dX7_grow_88 : decode cX7_grow 88 = .ok (.invokevirtual 62, 3) := by decide +kernel
theorem dX7_grow_91 : decode cX7_grow 91 = .ok (.istore 5, 2) := by decide +kernel
theorem dX7_grow_93 : decode cX7_grow 93 = .ok (.iload 5, 2) := by decide +kernel
theorem dX7_grow_95 : decode cX7_grow 95 = .ok (.ifCond .ne 13, 3) := by decide +kernel
theorem dX7_grow_98 : decode cX7_grow 98 = .ok (.aload_n 0, 1) := by decide +kernel
theorem dX7_grow_99 : decode cX7_grow 99 = .ok (.dup, 1) := by decide +kernel
theorem dX7_grow_100 : decode cX7_grow 100 = .ok (.getfield 27, 3) := by decide +kernel
theorem dX7_grow_103 : decode cX7_grow 103 = .ok (.iconst 1, 1) := by decide +kernel
theorem dX7_grow_104 : decode cX7_grow 104 = .ok (.iadd, 1) := by decide +kernel
theorem dX7_grow_105 : decode cX7_grow 105 = .ok (.putfield 27, 3) := by decide +kernel
theorem dX7_grow_108 : decode cX7_grow 108 = .ok (.iconst 0, 1) := by decide +kernel
theorem dX7_grow_109 : decode cX7_grow 109 = .ok (.istore 6, 2) := by decide +kernel
theorem dX7_grow_111 : decode cX7_grow 111 = .ok (.iload 6, 2) := by decide +kernel
theorem dX7_grow_113 : decode cX7_grow 113 = .ok (.aload_n 0, 1) := by decide +kernel
theorem dX7_grow_114 : decode cX7_grow 114 = .ok (.getfield 15, 3) := by decide +kernel
theorem dX7_grow_117 : decode cX7_grow 117 = .ok (.getfield 65, 3) := by decide +kernel
theorem dX7_grow_120 : decode cX7_grow 120 = .ok (.if_icmp .ge 45, 3) := by decide +kernel
theorem dX7_grow_123 : decode cX7_grow 123 = .ok (.aload_n 0, 1) := by decide +kernel
theorem dX7_grow_124 : decode cX7_grow 124 = .ok (.getfield 33, 3) := by decide +kernel
theorem dX7_grow_127 : decode cX7_grow 127 = .ok (.ifCond .ne 38, 3) := by decide +kernel
theorem dX7_grow_130 : decode cX7_grow 130 = .ok (.iload 5, 2) := by decide +kernel
theorem dX7_grow_132 : decode cX7_grow 132 = .ok (.iload 6, 2) := by decide +kernel
theorem dX7_grow_134 : decode cX7_grow 134 = .ok (.ishr, 1) := by decide +kernel
theorem dX7_grow_135 : decode cX7_grow 135 = .ok (.iconst 1, 1) := by decide +kernel
theorem dX7_grow_136 : decode cX7_grow 136 = .ok (.iand, 1) := by decide +kernel
theorem dX7_grow_137 : decode cX7_grow 137 = .ok (.ifCond .eq 22, 3) := by decide +kernel
theorem dX7_grow_140 : decode cX7_grow 140 = .ok (.aload_n 0, 1) := by decide +kernel
theorem dX7_grow_141 : decode cX7_grow 141 = .ok (.aload_n 0, 1) := by decide +kernel
theorem dX7_grow_142 : decode cX7_grow 142 = .ok (.getfield 19, 3) := by decide +kernel
theorem dX7_grow_145 : decode cX7_grow 145 = .ok (.iload_n 1, 1) := by decide +kernel
theorem dX7_grow_146 : decode cX7_grow 146 = .ok (.iload 6, 2) := by decide +kernel
theorem dX7_grow_148 : decode cX7_grow 148 = .ok (.invokevirtual 70, 3) := by decide +kernel
theorem dX7_grow_151 : decode cX7_grow 151 = .ok (.iload 6, 2) := by decide +kernel
theorem dX7_grow_153 : decode cX7_grow 153 = .ok (.iload_n 3, 1) := by decide +kernel
theorem dX7_grow_154 : decode cX7_grow 154 = .ok (.iconst 1, 1) := by decide +kernel
theorem dX7_grow_155 : decode cX7_grow 155 = .ok (.iadd, 1) := by decide +kernel
theorem dX7_grow_156 : decode cX7_grow 156 = .ok (.invokevirtual 37, 3) := by decide +kernel
theorem dX7_grow_159 : decode cX7_grow 159 = .ok (.iinc 6 1, 3) := by decide +kernel
theorem dX7_grow_162 : decode cX7_grow 162 = .ok (.goto (-51), 3) := by decide +kernel
theorem dX7_grow_165 : decode cX7_grow 165 = .ok (.return_, 1) := by decide +kernel
theorem dX8_init_0 : decode cX8_init 0 = .ok (.aload_n 0, 1) := by decide +kernel
theorem dX8_init_1 : decode cX8_init 1 = .ok (.invokespecial 1, 3) := by decide +kernel
theorem dX8_init_4 : decode cX8_init 4 = .ok (.aload_n 0, 1) := by decide +kernel
theorem dX8_init_5 : decode cX8_init 5 = .ok (.new 7, 3) := by decide +kernel
theorem dX8_init_8 : decode cX8_init 8 = .ok (.dup, 1) := by decide +kernel
theorem dX8_init_9 : decode cX8_init 9 = .ok (.invokespecial 9, 3) := by decide +kernel
theorem dX8_init_12 : decode cX8_init 12 = .ok (.putfield 10, 3) := by decide +kernel
theorem dX8_init_15 : decode cX8_init 15 = .ok (.aload_n 0, 1) := by decide +kernel
theorem dX8_init_16 : decode cX8_init 16 = .ok (.new 7, 3) := by decide +kernel
theorem dX8_init_19 : decode cX8_init 19 = .ok (.dup, 1) := by decide +kernel
theorem dX8_init_20 : decode cX8_init 20 = .ok (.invokespecial 9, 3) := by decide +kernel
theorem dX8_init_23 : decode cX8_init 23 = .ok (.putfield 16, 3) := by decide +kernel
theorem dX8_init_26 : decode cX8_init 26 = .ok (.aload_n 0, 1) := by decide +kernel
theorem dX8_init_27 : decode cX8_init 27 = .ok (.new 19, 3) := by decide +kernel
theorem dX8_init_30 : decode cX8_init 30 = .ok (.dup, 1) := by decide +kernel
theorem dX8_init_31 : decode cX8_init 31 = .ok (.aload_n 0, 1) := by decide +kernel
theorem dX8_init_32 : decode cX8_init 32 = .ok (.getfield 10, 3) := by decide +kernel
theorem dX8_init_35 : decode cX8_init 35 = .ok (.invokespecial 21, 3) := by decide +kernel
theorem dX8_init_38 : decode cX8_init 38 = .ok (.putfield 24, 3) := by decide +kernel
theorem dX8_init_41 : decode cX8_init 41 = .ok (.aload_n 0, 1) := by decide +kernel
theorem dX8_init_42 : decode cX8_init 42 = .ok (.new 28, 3) := by decide +kernel
theorem dX8_init_45 : decode cX8_init 45 = .ok (.dup, 1) := by decide +kernel
theorem dX8_init_46 : decode cX8_init 46 = .ok (.aload_n 0, 1) := by decide +kernel
theorem dX8_init_47 : decode cX8_init 47 = .ok (.getfield 10, 3) := by decide +kernel
theorem dX8_init_50 : decode cX8_init 50 = .ok (.aload_n 0, 1) := by decide +kernel
theorem dX8_init_51 : decode cX8_init 51 = .ok (.getfield 24, 3) := by decide +kernel
theorem dX8_init_54 : decode cX8_init 54 = .ok (.invokespecial 30, 3) := by decide +kernel
theorem dX8_init_57 : decode cX8_init 57 = .ok (.putfield 33, 3) := by decide +kernel
theorem dX8_init_60 : decode cX8_init 60 = .ok (.aload_n 0, 1) := by decide +kernel
theorem dX8_init_61 : decode cX8_init 61 = .ok (.new 37, 3) := by decide +kernel
theorem dX8_init_64 : decode cX8_init 64 = .ok (.dup, 1) := by decide +kernel
theorem dX8_init_65 : decode cX8_init 65 = .ok (.aload_n 0, 1) := by decide +kernel
theorem dX8_init_66 : decode cX8_init 66 = .ok (.getfield 10, 3) := by decide +kernel
theorem dX8_init_69 : decode cX8_init 69 = .ok (.aload_n 0, 1) := by decide +kernel
theorem dX8_init_70 : decode cX8_init 70 = .ok (.getfield 24, 3) := by decide +kernel
theorem dX8_init_73 : decode cX8_init 73 = .ok (.invokespecial 39, 3) := by decide +kernel
theorem dX8_init_76 : decode cX8_init 76 = .ok (.putfield 40, 3) := by decide +kernel
theorem dX8_init_79 : decode cX8_init 79 = .ok (.aload_n 0, 1) := by decide +kernel
theorem dX8_init_80 : decode cX8_init 80 = .ok (.new 44, 3) := by decide +kernel
theorem dX8_init_83 : decode cX8_init 83 = .ok (.dup, 1) := by decide +kernel
theorem dX8_init_84 : decode cX8_init 84 = .ok (.invokespecial 46, 3) := by decide +kernel
theorem dX8_init_87 : decode cX8_init 87 = .ok (.putfield 47, 3) := by decide +kernel
theorem dX8_init_90 : decode cX8_init 90 = .ok (.aload_n 0, 1) := by decide +kernel
theorem dX8_init_91 : decode cX8_init 91 = .ok (.new 51, 3) := by decide +kernel
theorem dX8_init_94 : decode cX8_init 94 = .ok (.dup, 1) := by decide +kernel
theorem dX8_init_95 : decode cX8_init 95 = .ok (.invokespecial 53, 3) := by decide +kernel
theorem dX8_init_98 : decode cX8_init 98 = .ok (.putfield 54, 3) := by decide +kernel
theorem dX8_init_101 : decode cX8_init 101 = .ok (.aload_n 0, 1) := by decide +kernel
theorem dX8_init_102 : decode cX8_init 102 = .ok (.iconst 4, 1) := by decide +kernel
theorem dX8_init_103 : decode cX8_init 103 = .ok (.anewarray 58, 3) := by decide +kernel
theorem dX8_init_106 : decode cX8_init 106 = .ok (.putfield 60, 3) := by decide +kernel
theorem dX8_init_109 : decode cX8_init 109 = .ok (.aload_n 0, 1) := by decide +kernel
theorem dX8_init_110 : decode cX8_init 110 = .ok (.bipush 7, 2) := by decide +kernel
theorem dX8_init_112 : decode cX8_init 112 = .ok (.newarray .int, 2) := by decide +kernel
theorem dX8_init_114 : decode cX8_init 114 = .ok (.putfield 64, 3) := by decide +kernel
theorem dX8_init_117 : decode cX8_init 117 = .ok (.iconst 0, 1) := by decide +kernel
theorem dX8_init_118 : decode cX8_init 118 = .ok (.istore_n 1, 1) := by decide +kernel
theorem dX8_init_119 : decode cX8_init 119 = .ok (.iload_n 1, 1) := by decide +kernel
theorem dX8_init_120 : decode cX8_init 120 = .ok (.iconst 4, 1) := by decide +kernel
theorem dX8_init_121 : decode cX8_init 121 = .ok (.if_icmp .ge 22, 3) := by decide +kernel
theorem dX8_init_124 : decode cX8_init 124 = .ok (.aload_n 0, 1) := by decide +kernel
theorem dX8_init_125 : decode cX8_init 125 = .ok (.getfield 60, 3) := by decide +kernel
theorem dX8_init_128 : decode cX8_init 128 = .ok (.iload_n 1, 1) := by decide +kernel
theorem dX8_init_129 : decode cX8_init 129 = .ok (.new 58, 3) := by decide +kernel
theorem dX8_init_132 : decode cX8_init 132 = .ok (.dup, 1) := by decide +kernel
theorem dX8_init_133 : decode cX8_init 133 = .ok (.invokespecial 68, 3) := by decide +kernel
theorem dX8_init_136 : decode cX8_init 136 = .ok (.aastore, 1) := by decide +kernel
theorem dX8_init_137 : decode cX8_init 137 = .ok (.iinc 1 1, 3) := by decide +kernel
theorem dX8_init_140 : decode cX8_init 140 = .ok (.goto (-21), 3) := by decide +kernel
theorem dX8_init_143 : decode cX8_init 143 = .ok (.return_, 1) := by decide +kernel
theorem dX8_points_0 : decode cX8_points 0 = .ok (.iload_n 1, 1) := by decide +kernel
theorem dX8_points_1 : decode cX8_points 1 = .ok (.iconst 1, 1) := by decide +kernel
theorem dX8_points_2 : decode cX8_points 2 = .ok (.if_icmp .lt 9, 3) := by decide +kernel
theorem dX8_points_5 : decode cX8_points 5 = .ok (.iload_n 1, 1) := by decide +kernel
theorem dX8_points_6 : decode cX8_points 6 = .ok (.bipush 10, 2) := by decide +kernel
theorem dX8_points_8 : decode cX8_points 8 = .ok (.if_icmp .le 9, 3) := by decide +kernel
theorem dX8_points_11 : decode cX8_points 11 = .ok (.aload_n 0, 1) := by decide +kernel
theorem dX8_points_12 : decode cX8_points 12 = .ok (.iconst 1, 1) := by decide +kernel
theorem dX8_points_13 : decode cX8_points 13 = .ok (.invokevirtual 69, 3) := by decide +kernel
theorem dX8_points_16 : decode cX8_points 16 = .ok (.ireturn, 1) := by decide +kernel
theorem dX8_points_17 : decode cX8_points 17 = .ok (.aload_n 0, 1) := by decide +kernel
theorem dX8_points_18 : decode cX8_points 18 = .ok (.getfield 10, 3) := by decide +kernel
theorem dX8_points_21 : decode cX8_points 21 = .ok (.getfield 73, 3) := by decide +kernel
theorem dX8_points_24 : decode cX8_points 24 = .ok (.istore_n 2, 1) := by decide +kernel
theorem dX8_points_25 : decode cX8_points 25 = .ok (.aload_n 0, 1) := by decide +kernel
theorem dX8_points_26 : decode cX8_points 26 = .ok (.getfield 10, 3) := by decide +kernel
theorem dX8_points_29 : decode cX8_points 29 = .ok (.iload_n 1, 1) := by decide +kernel
theorem dX8_points_30 : decode cX8_points 30 = .ok (.invokevirtual 77, 3) := by decide +kernel
theorem dX8_points_33 : decode cX8_points 33 = .ok (.aload_n 0, 1) := by decide +kernel
theorem dX8_points_34 : decode cX8_points 34 = .ok (.getfield 47, 3) := by decide +kernel
theorem dX8_points_37 : decode cX8_points 37 = .ok (.iconst 0, 1) := by decide +kernel
theorem dX8_points_38 : decode cX8_points 38 = .ok (.putfield 81, 3) := by decide +kernel
theorem dX8_points_41 : decode cX8_points 41 = .ok (.iload_n 2, 1) := by decide +kernel
theorem dX8_points_42 : decode cX8_points 42 = .ok (.ireturn, 1) := by decide +kernel
theorem dX8_line_0 : decode cX8_line 0 = .ok (.aload_n 0, 1) := by decide +kernel
theorem dX8_line_1 : decode cX8_line 1 = .ok (.getfield 10, 3) := by decide +kernel
theorem dX8_line_4 : decode cX8_line 4 = .ok (.iload_n 1, 1) := by decide +kernel
theorem dX8_line_5 : decode cX8_line 5 = .ok (.invokevirtual 85, 3) := by decide +kernel
theorem dX8_line_8 : decode cX8_line 8 = .ok (.ifCond .eq 21, 3) := by decide +kernel
theorem dX8_line_11 : decode cX8_line 11 = .ok (.aload_n 0, 1) := by decide +kernel
theorem dX8_line_12 : decode cX8_line 12 = .ok (.getfield 10, 3) := by decide +kernel
theorem dX8_line_15 : decode cX8_line 15 = .ok (.iload_n 2, 1) := by decide +kernel
theorem dX8_line_16 : decode cX8_line 16 = .ok (.invokevirtual 85, 3) := by decide +kernel
theorem dX8_line_19 : decode cX8_line 19 = .ok (.ifCond .eq 10, 3) := by decide +kernel
theorem dX8_line_22 : decode cX8_line 22 = .ok (.iload_n 3, 1) := by decide +kernel
theorem dX8_line_23 : decode cX8_line 23 = .ok (.invokestatic 89, 3) := by decide +kernel
theorem dX8_line_26 : decode cX8_line 26 = .ok (.ifCond .ne 9, 3) := by decide +kernel
theorem dX8_line_29 : decode cX8_line 29 = .ok (.aload_n 0, 1) := by decide +kernel
theorem dX8_line_30 : decode cX8_line 30 = .ok (.iconst 1, 1) := by decide +kernel
theorem dX8_line_31 : decode cX8_line 31 = .ok (.invokevirtual 69, 3) := by decide +kernel
theorem dX8_line_34 : decode cX8_line 34 = .ok (.ireturn, 1) := by decide +kernel
theorem dX8_line_35 : decode cX8_line 35 = .ok (.iload_n 1, 1) := by decide +kernel
theorem dX8_line_36 : decode cX8_line 36 = .ok (.iload_n 2, 1) := by decide +kernel
theorem dX8_line_37 : decode cX8_line 37 = .ok (.if_icmp .ne 9, 3) := by decide +kernel
theorem dX8_line_40 : decode cX8_line 40 = .ok (.aload_n 0, 1) := by decide +kernel
theorem dX8_line_41 : decode cX8_line 41 = .ok (.iconst 5, 1) := by decide +kernel
theorem dX8_line_42 : decode cX8_line 42 = .ok (.invokevirtual 69, 3) := by decide +kernel
theorem dX8_line_45 : decode cX8_line 45 = .ok (.ireturn, 1) := by decide +kernel
theorem dX8_line_46 : decode cX8_line 46 = .ok (.aload_n 0, 1) := by decide +kernel
theorem dX8_line_47 : decode cX8_line 47 = .ok (.getfield 10, 3) := by decide +kernel
theorem dX8_line_50 : decode cX8_line 50 = .ok (.getfield 92, 3) := by decide +kernel
theorem dX8_line_53 : decode cX8_line 53 = .ok (.bipush 12, 2) := by decide +kernel
theorem dX8_line_55 : decode cX8_line 55 = .ok (.if_icmp .lt 9, 3) := by decide +kernel
theorem dX8_line_58 : decode cX8_line 58 = .ok (.aload_n 0, 1) := by decide +kernel
theorem dX8_line_59 : decode cX8_line 59 = .ok (.iconst 4, 1) := by decide +kernel
theorem dX8_line_60 : decode cX8_line 60 = .ok (.invokevirtual 69, 3) := by decide +kernel
theorem dX8_line_63 : decode cX8_line 63 = .ok (.ireturn, 1) := by decide +kernel
theorem dX8_line_64 : decode cX8_line 64 = .ok (.aload_n 0, 1) := by decide +kernel
theorem dX8_line_65 : decode cX8_line 65 = .ok (.getfield 10, 3) := by decide +kernel
theorem dX8_line_68 : decode cX8_line 68 = .ok (.iload_n 1, 1) := by decide +kernel
theorem dX8_line_69 : decode cX8_line 69 = .ok (.iload_n 2, 1) := by decide +kernel
theorem dX8_line_70 : decode cX8_line 70 = .ok (.iload_n 3, 1) := by decide +kernel
theorem dX8_line_71 : decode cX8_line 71 = .ok (.invokevirtual 95, 3) := by decide +kernel
theorem dX8_line_74 : decode cX8_line 74 = .ok (.aload_n 0, 1) := by decide +kernel
theorem dX8_line_75 : decode cX8_line 75 = .ok (.getfield 47, 3) := by decide +kernel
theorem dX8_line_78 : decode cX8_line 78 = .ok (.iconst 0, 1) := by decide +kernel
theorem dX8_line_79 : decode cX8_line 79 = .ok (.putfield 81, 3) := by decide +kernel
theorem dX8_line_82 : decode cX8_line 82 = .ok (.aload_n 0, 1) := by decide +kernel
theorem dX8_line_83 : decode cX8_line 83 = .ok (.getfield 10, 3) := by decide +kernel
theorem dX8_line_86 : decode cX8_line 86 = .ok (.getfield 92, 3) := by decide +kernel
theorem dX8_line_89 : decode cX8_line 89 = .ok (.iconst 1, 1) := by decide +kernel
theorem dX8_line_90 : decode cX8_line 90 = .ok (.isub, 1) := by decide +kernel
theorem dX8_line_91 : decode cX8_line 91 = .ok (.ireturn, 1) := by decide +kernel
theorem dX8_way_0 : decode cX8_way 0 = .ok (.aload_n 0, 1) := by decide +kernel
theorem dX8_way_1 : decode cX8_way 1 = .ok (.getfield 10, 3) := by decide +kernel
theorem dX8_way_4 : decode cX8_way 4 = .ok (.iload_n 1, 1) := by decide +kernel
theorem dX8_way_5 : decode cX8_way 5 = .ok (.invokevirtual 99, 3) := by decide +kernel
theorem dX8_way_8 : decode cX8_way 8 = .ok (.ifCond .eq 10, 3) := by decide +kernel
theorem dX8_way_11 : decode cX8_way 11 = .ok (.iload_n 2, 1) := by decide +kernel
theorem dX8_way_12 : decode cX8_way 12 = .ok (.invokestatic 89, 3) := by decide +kernel
theorem dX8_way_15 : decode cX8_way 15 = .ok (.ifCond .ne 9, 3) := by decide +kernel
theorem dX8_way_18 : decode cX8_way 18 = .ok (.aload_n 0, 1) := by decide +kernel
theorem dX8_way_19 : decode cX8_way 19 = .ok (.iconst 1, 1) := by decide +kernel
theorem dX8_way_20 : decode cX8_way 20 = .ok (.invokevirtual 69, 3) := by decide +kernel
theorem dX8_way_23 : decode cX8_way 23 = .ok (.ireturn, 1) := by decide +kernel
theorem dX8_way_24 : decode cX8_way 24 = .ok (.aload_n 0, 1) := by decide +kernel
theorem dX8_way_25 : decode cX8_way 25 = .ok (.getfield 10, 3) := by decide +kernel
theorem dX8_way_28 : decode cX8_way 28 = .ok (.getfield 102, 3) := by decide +kernel
theorem dX8_way_31 : decode cX8_way 31 = .ok (.iload_n 1, 1) := by decide +kernel
theorem dX8_way_32 : decode cX8_way 32 = .ok (.iaload, 1) := by decide +kernel
theorem dX8_way_33 : decode cX8_way 33 = .ok (.istore_n 3, 1) := by decide +kernel
theorem dX8_way_34 : decode cX8_way 34 = .ok (.aload_n 0, 1) := by decide +kernel
theorem dX8_way_35 : decode cX8_way 35 = .ok (.getfield 10, 3) := by decide +kernel
theorem dX8_way_38 : decode cX8_way 38 = .ok (.iload_n 1, 1) := by decide +kernel
theorem dX8_way_39 : decode cX8_way 39 = .ok (.iload_n 2, 1) := by decide +kernel
theorem dX8_way_40 : decode cX8_way 40 = .ok (.invokevirtual 105, 3) := by decide +kernel
theorem dX8_way_43 : decode cX8_way 43 = .ok (.aload_n 0, 1) := by decide +kernel
theorem dX8_way_44 : decode cX8_way 44 = .ok (.getfield 47, 3) := by decide +kernel
theorem dX8_way_47 : decode cX8_way 47 = .ok (.iconst 0, 1) := by decide +kernel
theorem dX8_way_48 : decode cX8_way 48 = .ok (.putfield 81, 3) := by decide +kernel
theorem dX8_way_51 : decode cX8_way 51 = .ok (.iload_n 3, 1) := by decide +kernel
theorem dX8_way_52 : decode cX8_way 52 = .ok (.ireturn, 1) := by decide +kernel
theorem dX8_cut_0 : decode cX8_cut 0 = .ok (.aload_n 0, 1) := by decide +kernel
theorem dX8_cut_1 : decode cX8_cut 1 = .ok (.getfield 10, 3) := by decide +kernel
theorem dX8_cut_4 : decode cX8_cut 4 = .ok (.iload_n 1, 1) := by decide +kernel
theorem dX8_cut_5 : decode cX8_cut 5 = .ok (.invokevirtual 99, 3) := by decide +kernel
theorem dX8_cut_8 : decode cX8_cut 8 = .ok (.ifCond .ne 9, 3) := by decide +kernel
theorem dX8_cut_11 : decode cX8_cut 11 = .ok (.aload_n 0, 1) := by decide +kernel
theorem dX8_cut_12 : decode cX8_cut 12 = .ok (.iconst 1, 1) := by decide +kernel
theorem dX8_cut_13 : decode cX8_cut 13 = .ok (.invokevirtual 69, 3) := by decide +kernel
theorem dX8_cut_16 : decode cX8_cut 16 = .ok (.ireturn, 1) := by decide +kernel
theorem dX8_cut_17 : decode cX8_cut 17 = .ok (.aload_n 0, 1) := by decide +kernel
theorem dX8_cut_18 : decode cX8_cut 18 = .ok (.getfield 10, 3) := by decide +kernel
theorem dX8_cut_21 : decode cX8_cut 21 = .ok (.iload_n 1, 1) := by decide +kernel
theorem dX8_cut_22 : decode cX8_cut 22 = .ok (.invokevirtual 109, 3) := by decide +kernel
theorem dX8_cut_25 : decode cX8_cut 25 = .ok (.aload_n 0, 1) := by decide +kernel
theorem dX8_cut_26 : decode cX8_cut 26 = .ok (.getfield 47, 3) := by decide +kernel
theorem dX8_cut_29 : decode cX8_cut 29 = .ok (.iconst 0, 1) := by decide +kernel
theorem dX8_cut_30 : decode cX8_cut 30 = .ok (.putfield 81, 3) := by decide +kernel
theorem dX8_cut_33 : decode cX8_cut 33 = .ok (.aload_n 0, 1) := by decide +kernel
theorem dX8_cut_34 : decode cX8_cut 34 = .ok (.getfield 10, 3) := by decide +kernel
theorem dX8_cut_37 : decode cX8_cut 37 = .ok (.getfield 92, 3) := by decide +kernel
theorem dX8_cut_40 : decode cX8_cut 40 = .ok (.ireturn, 1) := by decide +kernel
theorem dX8_ends_0 : decode cX8_ends 0 = .ok (.aload_n 0, 1) := by decide +kernel
theorem dX8_ends_1 : decode cX8_ends 1 = .ok (.getfield 10, 3) := by decide +kernel
theorem dX8_ends_4 : decode cX8_ends 4 = .ok (.iload_n 1, 1) := by decide +kernel
theorem dX8_ends_5 : decode cX8_ends 5 = .ok (.invokevirtual 99, 3) := by decide +kernel
theorem dX8_ends_8 : decode cX8_ends 8 = .ok (.ifCond .eq 12, 3) := by decide +kernel
theorem dX8_ends_11 : decode cX8_ends 11 = .ok (.iload_n 2, 1) := by decide +kernel
theorem dX8_ends_12 : decode cX8_ends 12 = .ok (.ifCond .lt 8, 3) := by decide +kernel
theorem dX8_ends_15 : decode cX8_ends 15 = .ok (.iload_n 2, 1) := by decide +kernel
theorem dX8_ends_16 : decode cX8_ends 16 = .ok (.iconst 2, 1) := by decide +kernel
theorem dX8_ends_17 : decode cX8_ends 17 = .ok (.if_icmp .le 9, 3) := by decide +kernel
theorem dX8_ends_20 : decode cX8_ends 20 = .ok (.aload_n 0, 1) := by decide +kernel
theorem dX8_ends_21 : decode cX8_ends 21 = .ok (.iconst 1, 1) := by decide +kernel
theorem dX8_ends_22 : decode cX8_ends 22 = .ok (.invokevirtual 69, 3) := by decide +kernel
theorem dX8_ends_25 : decode cX8_ends 25 = .ok (.ireturn, 1) := by decide +kernel
theorem dX8_ends_26 : decode cX8_ends 26 = .ok (.iload_n 2, 1) := by decide +kernel
theorem dX8_ends_27 : decode cX8_ends 27 = .ok (.ifCond .ne 13, 3) := by decide +kernel
theorem dX8_ends_30 : decode cX8_ends 30 = .ok (.aload_n 0, 1) := by decide +kernel
theorem dX8_ends_31 : decode cX8_ends 31 = .ok (.getfield 10, 3) := by decide +kernel
theorem dX8_ends_34 : decode cX8_ends 34 = .ok (.getfield 112, 3) := by decide +kernel
theorem dX8_ends_37 : decode cX8_ends 37 = .ok (.iload_n 1, 1) := by decide +kernel
theorem dX8_ends_38 : decode cX8_ends 38 = .ok (.iaload, 1) := by decide +kernel
theorem dX8_ends_39 : decode cX8_ends 39 = .ok (.ireturn, 1) := by decide +kernel
theorem dX8_ends_40 : decode cX8_ends 40 = .ok (.iload_n 2, 1) := by decide +kernel
theorem dX8_ends_41 : decode cX8_ends 41 = .ok (.iconst 1, 1) := by decide +kernel
theorem dX8_ends_42 : decode cX8_ends 42 = .ok (.if_icmp .ne 15, 3) := by decide +kernel
theorem dX8_ends_45 : decode cX8_ends 45 = .ok (.aload_n 0, 1) := by decide +kernel
theorem dX8_ends_46 : decode cX8_ends 46 = .ok (.getfield 10, 3) := by decide +kernel
theorem dX8_ends_49 : decode cX8_ends 49 = .ok (.getfield 115, 3) := by decide +kernel
theorem dX8_ends_52 : decode cX8_ends 52 = .ok (.iload_n 1, 1) := by decide +kernel
theorem dX8_ends_53 : decode cX8_ends 53 = .ok (.iaload, 1) := by decide +kernel
theorem dX8_ends_54 : decode cX8_ends 54 = .ok (.goto 12, 3) := by decide +kernel
theorem dX8_ends_57 : decode cX8_ends 57 = .ok (.aload_n 0, 1) := by decide +kernel
theorem dX8_ends_58 : decode cX8_ends 58 = .ok (.getfield 10, 3) := by decide +kernel
theorem dX8_ends_61 : decode cX8_ends 61 = .ok (.getfield 102, 3) := by decide +kernel
theorem dX8_ends_64 : decode cX8_ends 64 = .ok (.iload_n 1, 1) := by decide +kernel
theorem dX8_ends_65 : decode cX8_ends 65 = .ok (.iaload, 1) := by decide +kernel
theorem dX8_ends_66 : decode cX8_ends 66 = .ok (.ireturn, 1) := by decide +kernel
theorem dX8_at_0 : decode cX8_at 0 = .ok (.aload_n 0, 1) := by decide +kernel
theorem dX8_at_1 : decode cX8_at 1 = .ok (.getfield 10, 3) := by decide +kernel
theorem dX8_at_4 : decode cX8_at 4 = .ok (.iload_n 1, 1) := by decide +kernel
theorem dX8_at_5 : decode cX8_at 5 = .ok (.invokevirtual 85, 3) := by decide +kernel
theorem dX8_at_8 : decode cX8_at 8 = .ok (.ifCond .eq 12, 3) := by decide +kernel
theorem dX8_at_11 : decode cX8_at 11 = .ok (.iload_n 2, 1) := by decide +kernel
theorem dX8_at_12 : decode cX8_at 12 = .ok (.ifCond .lt 8, 3) := by decide +kernel
theorem dX8_at_15 : decode cX8_at 15 = .ok (.iload_n 2, 1) := by decide +kernel
theorem dX8_at_16 : decode cX8_at 16 = .ok (.iconst 2, 1) := by decide +kernel
theorem dX8_at_17 : decode cX8_at 17 = .ok (.if_icmp .le 9, 3) := by decide +kernel
theorem dX8_at_20 : decode cX8_at 20 = .ok (.aload_n 0, 1) := by decide +kernel
theorem dX8_at_21 : decode cX8_at 21 = .ok (.iconst 1, 1) := by decide +kernel
theorem dX8_at_22 : decode cX8_at 22 = .ok (.invokevirtual 69, 3) := by decide +kernel
theorem dX8_at_25 : decode cX8_at 25 = .ok (.ireturn, 1) := by decide +kernel
theorem dX8_at_26 : decode cX8_at 26 = .ok (.aload_n 0, 1) := by decide +kernel
theorem dX8_at_27 : decode cX8_at 27 = .ok (.getfield 10, 3) := by decide +kernel
theorem dX8_at_30 : decode cX8_at 30 = .ok (.iload_n 1, 1) := by decide +kernel
theorem dX8_at_31 : decode cX8_at 31 = .ok (.iload_n 2, 1) := by decide +kernel
theorem dX8_at_32 : decode cX8_at 32 = .ok (.invokevirtual 118, 3) := by decide +kernel
theorem dX8_at_35 : decode cX8_at 35 = .ok (.ireturn, 1) := by decide +kernel
theorem dX8_sides_0 : decode cX8_sides 0 = .ok (.aload_n 0, 1) := by decide +kernel
theorem dX8_sides_1 : decode cX8_sides 1 = .ok (.getfield 10, 3) := by decide +kernel
theorem dX8_sides_4 : decode cX8_sides 4 = .ok (.invokevirtual 122, 3) := by decide +kernel
theorem dX8_sides_7 : decode cX8_sides 7 = .ok (.istore_n 1, 1) := by decide +kernel
theorem dX8_sides_8 : decode cX8_sides 8 = .ok (.iload_n 1, 1) := by decide +kernel
theorem dX8_sides_9 : decode cX8_sides 9 = .ok (.ifCond .ge 11, 3) := by decide +kernel
theorem dX8_sides_12 : decode cX8_sides 12 = .ok (.aload_n 0, 1) := by decide +kernel
theorem dX8_sides_13 : decode cX8_sides 13 = .ok (.iconst 2, 1) := by decide +kernel
theorem dX8_sides_14 : decode cX8_sides 14 = .ok (.invokevirtual 69, 3) := by decide +kernel
theorem dX8_sides_17 : decode cX8_sides 17 = .ok (.goto 4, 3) := by decide +kernel
theorem dX8_sides_20 : decode cX8_sides 20 = .ok (.iload_n 1, 1) := by decide +kernel
theorem dX8_sides_21 : decode cX8_sides 21 = .ok (.ireturn, 1) := by decide +kernel
theorem dX8_pairing_0 : decode cX8_pairing 0 = .ok (.iload_n 1, 1) := by decide +kernel
theorem dX8_pairing_1 : decode cX8_pairing 1 = .ok (.ifCond .lt 23, 3) := by decide +kernel
theorem dX8_pairing_4 : decode cX8_pairing 4 = .ok (.iload_n 1, 1) := by decide +kernel
theorem dX8_pairing_5 : decode cX8_pairing 5 = .ok (.aload_n 0, 1) := by decide +kernel
theorem dX8_pairing_6 : decode cX8_pairing 6 = .ok (.getfield 10, 3) := by decide +kernel
theorem dX8_pairing_9 : decode cX8_pairing 9 = .ok (.invokevirtual 126, 3) := by decide +kernel
theorem dX8_pairing_12 : decode cX8_pairing 12 = .ok (.if_icmp .gt 12, 3) := by decide +kernel
theorem dX8_pairing_15 : decode cX8_pairing 15 = .ok (.iload_n 2, 1) := by decide +kernel
theorem dX8_pairing_16 : decode cX8_pairing 16 = .ok (.ifCond .lt 8, 3) := by decide +kernel
theorem dX8_pairing_19 : decode cX8_pairing 19 = .ok (.iload_n 2, 1) := by decide +kernel
theorem dX8_pairing_20 : decode cX8_pairing 20 = .ok (.iconst 1, 1) := by decide +kernel
theorem dX8_pairing_21 : decode cX8_pairing 21 = .ok (.if_icmp .le 9, 3) := by decide +kernel
theorem dX8_pairing_24 : decode cX8_pairing 24 = .ok (.aload_n 0, 1) := by decide +kernel
theorem dX8_pairing_25 : decode cX8_pairing 25 = .ok (.iconst 1, 1) := by decide +kernel
theorem dX8_pairing_26 : decode cX8_pairing 26 = .ok (.invokevirtual 69, 3) := by decide +kernel
theorem dX8_pairing_29 : decode cX8_pairing 29 = .ok (.ireturn, 1) := by decide +kernel
theorem dX8_pairing_30 : decode cX8_pairing 30 = .ok (.iload_n 2, 1) := by decide +kernel
theorem dX8_pairing_31 : decode cX8_pairing 31 = .ok (.ifCond .ne 14, 3) := by decide +kernel
theorem dX8_pairing_34 : decode cX8_pairing 34 = .ok (.aload_n 0, 1) := by decide +kernel
theorem dX8_pairing_35 : decode cX8_pairing 35 = .ok (.getfield 10, 3) := by decide +kernel
theorem dX8_pairing_38 : decode cX8_pairing 38 = .ok (.iload_n 1, 1) := by decide +kernel
theorem dX8_pairing_39 : decode cX8_pairing 39 = .ok (.invokevirtual 129, 3) := by decide +kernel
theorem dX8_pairing_42 : decode cX8_pairing 42 = .ok (.goto 11, 3) := by decide +kernel
theorem dX8_pairing_45 : decode cX8_pairing 45 = .ok (.aload_n 0, 1) := by decide +kernel
theorem dX8_pairing_46 : decode cX8_pairing 46 = .ok (.getfield 10, 3) := by decide +kernel
theorem dX8_pairing_49 : decode cX8_pairing 49 = .ok (.iload_n 1, 1) := by decide +kernel
theorem dX8_pairing_50 : decode cX8_pairing 50 = .ok (.invokevirtual 132, 3) := by decide +kernel
theorem dX8_pairing_53 : decode cX8_pairing 53 = .ok (.ireturn, 1) := by decide +kernel
theorem dX8_needed_0 : decode cX8_needed 0 = .ok (.aload_n 0, 1) := by decide +kernel
theorem dX8_needed_1 : decode cX8_needed 1 = .ok (.getfield 10, 3) := by decide +kernel
theorem dX8_needed_4 : decode cX8_needed 4 = .ok (.invokevirtual 135, 3) := by decide +kernel
theorem dX8_needed_7 : decode cX8_needed 7 = .ok (.ireturn, 1) := by decide +kernel
theorem dX8_kernel_0 : decode cX8_kernel 0 = .ok (.iload_n 1, 1) := by decide +kernel
theorem dX8_kernel_1 : decode cX8_kernel 1 = .ok (.iconst (-1), 1) := by decide +kernel
theorem dX8_kernel_2 : decode cX8_kernel 2 = .ok (.if_icmp .ge 9, 3) := by decide +kernel
theorem dX8_kernel_5 : decode cX8_kernel 5 = .ok (.aload_n 0, 1) := by decide +kernel
theorem dX8_kernel_6 : decode cX8_kernel 6 = .ok (.iconst 1, 1) := by decide +kernel
theorem dX8_kernel_7 : decode cX8_kernel 7 = .ok (.invokevirtual 69, 3) := by decide +kernel
theorem dX8_kernel_10 : decode cX8_kernel 10 = .ok (.ireturn, 1) := by decide +kernel
theorem dX8_kernel_11 : decode cX8_kernel 11 = .ok (.iconst 0, 1) := by decide +kernel
theorem dX8_kernel_12 : decode cX8_kernel 12 = .ok (.istore_n 2, 1) := by decide +kernel
theorem dX8_kernel_13 : decode cX8_kernel 13 = .ok (.iconst 1, 1) := by decide +kernel
theorem dX8_kernel_14 : decode cX8_kernel 14 = .ok (.istore_n 3, 1) := by decide +kernel
theorem dX8_kernel_15 : decode cX8_kernel 15 = .ok (.iload_n 3, 1) := by decide +kernel
theorem dX8_kernel_16 : decode cX8_kernel 16 = .ok (.aload_n 0, 1) := by decide +kernel
theorem dX8_kernel_17 : decode cX8_kernel 17 = .ok (.getfield 10, 3) := by decide +kernel
theorem dX8_kernel_20 : decode cX8_kernel 20 = .ok (.invokevirtual 126, 3) := by decide +kernel
theorem dX8_kernel_23 : decode cX8_kernel 23 = .ok (.if_icmp .gt 30, 3) := by decide +kernel
theorem dX8_kernel_26 : decode cX8_kernel 26 = .ok (.aload_n 0, 1) := by decide +kernel
theorem dX8_kernel_27 : decode cX8_kernel 27 = .ok (.getfield 10, 3) := by decide +kernel
theorem dX8_kernel_30 : decode cX8_kernel 30 = .ok (.iload_n 3, 1) := by decide +kernel
theorem dX8_kernel_31 : decode cX8_kernel 31 = .ok (.invokevirtual 138, 3) := by decide +kernel
theorem dX8_kernel_34 : decode cX8_kernel 34 = .ok (.ifCond .eq 13, 3) := by decide +kernel
theorem dX8_kernel_37 : decode cX8_kernel 37 = .ok (.iload_n 2, 1) := by decide +kernel
theorem dX8_kernel_38 : decode cX8_kernel 38 = .ok (.iload_n 1, 1) := by decide +kernel
theorem dX8_kernel_39 : decode cX8_kernel 39 = .ok (.if_icmp .ne 5, 3) := by decide +kernel
theorem dX8_kernel_42 : decode cX8_kernel 42 = .ok (.iload_n 3, 1) := by decide +kernel
theorem dX8_kernel_43 : decode cX8_kernel 43 = .ok (.ireturn, 1) := by decide +kernel
theorem dX8_kernel_44 : decode cX8_kernel 44 = .ok (.iinc 2 1, 3) := by decide +kernel
theorem dX8_kernel_47 : decode cX8_kernel 47 = .ok (.iinc 3 1, 3) := by decide +kernel
theorem dX8_kernel_50 : decode cX8_kernel 50 = .ok (.goto (-35), 3) := by decide +kernel
theorem dX8_kernel_53 : decode cX8_kernel 53 = .ok (.iload_n 1, 1) := by decide +kernel
theorem dX8_kernel_54 : decode cX8_kernel 54 = .ok (.iconst (-1), 1) := by decide +kernel
theorem dX8_kernel_55 : decode cX8_kernel 55 = .ok (.if_icmp .ne 7, 3) := by decide +kernel
theorem dX8_kernel_58 : decode cX8_kernel 58 = .ok (.iload_n 2, 1) := by decide +kernel
theorem dX8_kernel_59 : decode cX8_kernel 59 = .ok (.goto 8, 3) := by decide +kernel
theorem dX8_kernel_62 : decode cX8_kernel 62 = .ok (.aload_n 0, 1) := by decide +kernel
theorem dX8_kernel_63 : decode cX8_kernel 63 = .ok (.iconst 2, 1) := by decide +kernel
theorem dX8_kernel_64 : decode cX8_kernel 64 = .ok (.invokevirtual 69, 3) := by decide +kernel
theorem dX8_kernel_67 : decode cX8_kernel 67 = .ok (.ireturn, 1) := by decide +kernel
theorem dX8_feed_0 : decode cX8_feed 0 = .ok (.iload_n 3, 1) := by decide +kernel
theorem dX8_feed_1 : decode cX8_feed 1 = .ok (.iconst 1, 1) := by decide +kernel
theorem dX8_feed_2 : decode cX8_feed 2 = .ok (.if_icmp .lt 9, 3) := by decide +kernel
theorem dX8_feed_5 : decode cX8_feed 5 = .ok (.iload_n 3, 1) := by decide +kernel
theorem dX8_feed_6 : decode cX8_feed 6 = .ok (.bipush 8, 2) := by decide +kernel
theorem dX8_feed_8 : decode cX8_feed 8 = .ok (.if_icmp .le 9, 3) := by decide +kernel
theorem dX8_feed_11 : decode cX8_feed 11 = .ok (.aload_n 0, 1) := by decide +kernel
theorem dX8_feed_12 : decode cX8_feed 12 = .ok (.iconst 1, 1) := by decide +kernel
theorem dX8_feed_13 : decode cX8_feed 13 = .ok (.invokevirtual 69, 3) := by decide +kernel
theorem dX8_feed_16 : decode cX8_feed 16 = .ok (.ireturn, 1) := by decide +kernel
theorem dX8_feed_17 : decode cX8_feed 17 = .ok (.aload_n 0, 1) := by decide +kernel
theorem dX8_feed_18 : decode cX8_feed 18 = .ok (.getfield 54, 3) := by decide +kernel
theorem dX8_feed_21 : decode cX8_feed 21 = .ok (.getfield 141, 3) := by decide +kernel
theorem dX8_feed_24 : decode cX8_feed 24 = .ok (.iload_n 3, 1) := by decide +kernel
theorem dX8_feed_25 : decode cX8_feed 25 = .ok (.iadd, 1) := by decide +kernel
theorem dX8_feed_26 : decode cX8_feed 26 = .ok (.bipush 60, 2) := by decide +kernel
theorem dX8_feed_28 : decode cX8_feed 28 = .ok (.if_icmp .le 9, 3) := by decide +kernel
theorem dX8_feed_31 : decode cX8_feed 31 = .ok (.aload_n 0, 1) := by decide +kernel
theorem dX8_feed_32 : decode cX8_feed 32 = .ok (.iconst 4, 1) := by decide +kernel
theorem dX8_feed_33 : decode cX8_feed 33 = .ok (.invokevirtual 69, 3) := by decide +kernel
theorem dX8_feed_36 : decode cX8_feed 36 = .ok (.ireturn, 1) := by decide +kernel
theorem dX8_feed_37 : decode cX8_feed 37 = .ok (.aload_n 0, 1) := by decide +kernel
theorem dX8_feed_38 : decode cX8_feed 38 = .ok (.getfield 54, 3) := by decide +kernel
theorem dX8_feed_41 : decode cX8_feed 41 = .ok (.lload_n 1, 1) := by decide +kernel
theorem dX8_feed_42 : decode cX8_feed 42 = .ok (.iload_n 3, 1) := by decide +kernel
theorem dX8_feed_43 : decode cX8_feed 43 = .ok (.invokevirtual 144, 3) := by decide +kernel
theorem dX8_feed_46 : decode cX8_feed 46 = .ok (.aload_n 0, 1) := by decide +kernel
theorem dX8_feed_47 : decode cX8_feed 47 = .ok (.getfield 54, 3) := by decide +kernel
theorem dX8_feed_50 : decode cX8_feed 50 = .ok (.getfield 141, 3) := by decide +kernel
theorem dX8_feed_53 : decode cX8_feed 53 = .ok (.ireturn, 1) := by decide +kernel
theorem dX8_network_0 : decode cX8_network 0 = .ok (.aload_n 0, 1) := by decide +kernel
theorem dX8_network_1 : decode cX8_network 1 = .ok (.getfield 54, 3) := by decide +kernel
theorem dX8_network_4 : decode cX8_network 4 = .ok (.invokevirtual 148, 3) := by decide +kernel
theorem dX8_network_7 : decode cX8_network 7 = .ok (.istore_n 1, 1) := by decide +kernel
theorem dX8_network_8 : decode cX8_network 8 = .ok (.iload_n 1, 1) := by decide +kernel
theorem dX8_network_9 : decode cX8_network 9 = .ok (.ifCond .ge 22, 3) := by decide +kernel
theorem dX8_network_12 : decode cX8_network 12 = .ok (.aload_n 0, 1) := by decide +kernel
theorem dX8_network_13 : decode cX8_network 13 = .ok (.getfield 54, 3) := by decide +kernel
theorem dX8_network_16 : decode cX8_network 16 = .ok (.aload_n 0, 1) := by decide +kernel
theorem dX8_network_17 : decode cX8_network 17 = .ok (.getfield 10, 3) := by decide +kernel
theorem dX8_network_20 : decode cX8_network 20 = .ok (.invokevirtual 151, 3) := by decide +kernel
theorem dX8_network_23 : decode cX8_network 23 = .ok (.aload_n 0, 1) := by decide +kernel
theorem dX8_network_24 : decode cX8_network 24 = .ok (.getfield 47, 3) := by decide +kernel
theorem dX8_network_27 : decode cX8_network 27 = .ok (.iconst 0, 1) := by decide +kernel
theorem dX8_network_28 : decode cX8_network 28 = .ok (.putfield 81, 3) := by decide +kernel
theorem dX8_network_31 : decode cX8_network 31 = .ok (.aload_n 0, 1) := by decide +kernel
theorem dX8_network_32 : decode cX8_network 32 = .ok (.getfield 54, 3) := by decide +kernel
theorem dX8_network_35 : decode cX8_network 35 = .ok (.iconst 0, 1) := by decide +kernel
theorem dX8_network_36 : decode cX8_network 36 = .ok (.putfield 141, 3) := by decide +kernel
theorem dX8_network_39 : decode cX8_network 39 = .ok (.iload_n 1, 1) := by decide +kernel
theorem dX8_network_40 : decode cX8_network 40 = .ok (.ifCond .ge 13, 3) := by decide +kernel
theorem dX8_network_43 : decode cX8_network 43 = .ok (.aload_n 0, 1) := by decide +kernel
theorem dX8_network_44 : decode cX8_network 44 = .ok (.getfield 10, 3) := by decide +kernel
theorem dX8_network_47 : decode cX8_network 47 = .ok (.getfield 92, 3) := by decide +kernel
theorem dX8_network_50 : decode cX8_network 50 = .ok (.goto 7, 3) := by decide +kernel
theorem dX8_network_53 : decode cX8_network 53 = .ok (.bipush (-10), 2) := by decide +kernel
theorem dX8_network_55 : decode cX8_network 55 = .ok (.iload_n 1, 1) := by decide +kernel
theorem dX8_network_56 : decode cX8_network 56 = .ok (.isub, 1) := by decide +kernel
theorem dX8_network_57 : decode cX8_network 57 = .ok (.ireturn, 1) := by decide +kernel
theorem dX8_begin_0 : decode cX8_begin 0 = .ok (.iload_n 1, 1) := by decide +kernel
theorem dX8_begin_1 : decode cX8_begin 1 = .ok (.invokestatic 154, 3) := by decide +kernel
theorem dX8_begin_4 : decode cX8_begin 4 = .ok (.ifCond .eq 14, 3) := by decide +kernel
theorem dX8_begin_7 : decode cX8_begin 7 = .ok (.aload_n 0, 1) := by decide +kernel
theorem dX8_begin_8 : decode cX8_begin 8 = .ok (.getfield 10, 3) := by decide +kernel
theorem dX8_begin_11 : decode cX8_begin 11 = .ok (.iload_n 2, 1) := by decide +kernel
theorem dX8_begin_12 : decode cX8_begin 12 = .ok (.invokevirtual 85, 3) := by decide +kernel
theorem dX8_begin_15 : decode cX8_begin 15 = .ok (.ifCond .ne 9, 3) := by decide +kernel
theorem dX8_begin_18 : decode cX8_begin 18 = .ok (.aload_n 0, 1) := by decide +kernel
theorem dX8_begin_19 : decode cX8_begin 19 = .ok (.iconst 1, 1) := by decide +kernel
theorem dX8_begin_20 : decode cX8_begin 20 = .ok (.invokevirtual 69, 3) := by decide +kernel
theorem dX8_begin_23 : decode cX8_begin 23 = .ok (.ireturn, 1) := by decide +kernel
theorem dX8_begin_24 : decode cX8_begin 24 = .ok (.aload_n 0, 1) := by decide +kernel
theorem dX8_begin_25 : decode cX8_begin 25 = .ok (.getfield 24, 3) := by decide +kernel
theorem dX8_begin_28 : decode cX8_begin 28 = .ok (.iload_n 1, 1) := by decide +kernel
theorem dX8_begin_29 : decode cX8_begin 29 = .ok (.invokevirtual 157, 3) := by decide +kernel
theorem dX8_begin_32 : decode cX8_begin 32 = .ok (.aload_n 0, 1) := by decide +kernel
theorem dX8_begin_33 : decode cX8_begin 33 = .ok (.getfield 47, 3) := by decide +kernel
theorem dX8_begin_36 : decode cX8_begin 36 = .ok (.iload_n 1, 1) := by decide +kernel
theorem dX8_begin_37 : decode cX8_begin 37 = .ok (.iload_n 2, 1) := by decide +kernel
theorem dX8_begin_38 : decode cX8_begin 38 = .ok (.invokestatic 160, 3) := by decide +kernel
theorem dX8_begin_41 : decode cX8_begin 41 = .ok (.invokevirtual 165, 3) := by decide +kernel
theorem dX8_begin_44 : decode cX8_begin 44 = .ok (.aload_n 0, 1) := by decide +kernel
theorem dX8_begin_45 : decode cX8_begin 45 = .ok (.getfield 24, 3) := by decide +kernel
theorem dX8_begin_48 : decode cX8_begin 48 = .ok (.aload_n 0, 1) := by decide +kernel
theorem dX8_begin_49 : decode cX8_begin 49 = .ok (.getfield 47, 3) := by decide +kernel
theorem dX8_begin_52 : decode cX8_begin 52 = .ok (.invokevirtual 168, 3) := by decide +kernel
theorem dX8_begin_55 : decode cX8_begin 55 = .ok (.invokevirtual 171, 3) := by decide +kernel
theorem dX8_begin_58 : decode cX8_begin 58 = .ok (.ifCond .eq 7, 3) := by decide +kernel
theorem dX8_begin_61 : decode cX8_begin 61 = .ok (.iconst 1, 1) := by decide +kernel
theorem dX8_begin_62 : decode cX8_begin 62 = .ok (.goto 4, 3) := by decide +kernel
theorem dX8_begin_65 : decode cX8_begin 65 = .ok (.iconst 0, 1) := by decide +kernel
theorem dX8_begin_66 : decode cX8_begin 66 = .ok (.ireturn, 1) := by decide +kernel
theorem dX8_go_0 : decode cX8_go 0 = .ok (.aload_n 0, 1) := by decide +kernel
theorem dX8_go_1 : decode cX8_go 1 = .ok (.getfield 47, 3) := by decide +kernel
theorem dX8_go_4 : decode cX8_go 4 = .ok (.getfield 81, 3) := by decide +kernel
theorem dX8_go_7 : decode cX8_go 7 = .ok (.ifCond .eq 10, 3) := by decide +kernel
theorem dX8_go_10 : decode cX8_go 10 = .ok (.aload_n 0, 1) := by decide +kernel
theorem dX8_go_11 : decode cX8_go 11 = .ok (.invokevirtual 174, 3) := by decide +kernel
theorem dX8_go_14 : decode cX8_go 14 = .ok (.ifCond .eq 9, 3) := by decide +kernel
theorem dX8_go_17 : decode cX8_go 17 = .ok (.aload_n 0, 1) := by decide +kernel
theorem dX8_go_18 : decode cX8_go 18 = .ok (.iconst 3, 1) := by decide +kernel
theorem dX8_go_19 : decode cX8_go 19 = .ok (.invokevirtual 69, 3) := by decide +kernel
theorem dX8_go_22 : decode cX8_go 22 = .ok (.ireturn, 1) := by decide +kernel
theorem dX8_go_23 : decode cX8_go 23 = .ok (.aload_n 0, 1) := by decide +kernel
theorem dX8_go_24 : decode cX8_go 24 = .ok (.getfield 10, 3) := by decide +kernel
theorem dX8_go_27 : decode cX8_go 27 = .ok (.iload_n 1, 1) := by decide +kernel
theorem dX8_go_28 : decode cX8_go 28 = .ok (.invokevirtual 99, 3) := by decide +kernel
theorem dX8_go_31 : decode cX8_go 31 = .ok (.ifCond .ne 9, 3) := by decide +kernel
theorem dX8_go_34 : decode cX8_go 34 = .ok (.aload_n 0, 1) := by decide +kernel
theorem dX8_go_35 : decode cX8_go 35 = .ok (.iconst 1, 1) := by decide +kernel
theorem dX8_go_36 : decode cX8_go 36 = .ok (.invokevirtual 69, 3) := by decide +kernel
theorem dX8_go_39 : decode cX8_go 39 = .ok (.ireturn, 1) := by decide +kernel
theorem dX8_go_40 : decode cX8_go 40 = .ok (.aload_n 0, 1) := by decide +kernel
theorem dX8_go_41 : decode cX8_go 41 = .ok (.getfield 24, 3) := by decide +kernel
theorem dX8_go_44 : decode cX8_go 44 = .ok (.aload_n 0, 1) := by decide +kernel
theorem dX8_go_45 : decode cX8_go 45 = .ok (.getfield 47, 3) := by decide +kernel
theorem dX8_go_48 : decode cX8_go 48 = .ok (.invokevirtual 168, 3) := by decide +kernel
theorem dX8_go_51 : decode cX8_go 51 = .ok (.invokevirtual 178, 3) := by decide +kernel
theorem dX8_go_54 : decode cX8_go 54 = .ok (.iload_n 1, 1) := by decide +kernel
theorem dX8_go_55 : decode cX8_go 55 = .ok (.ishr, 1) := by decide +kernel
theorem dX8_go_56 : decode cX8_go 56 = .ok (.iconst 1, 1) := by decide +kernel
theorem dX8_go_57 : decode cX8_go 57 = .ok (.iand, 1) := by decide +kernel
theorem dX8_go_58 : decode cX8_go 58 = .ok (.ifCond .ne 9, 3) := by decide +kernel
theorem dX8_go_61 : decode cX8_go 61 = .ok (.aload_n 0, 1) := by decide +kernel
theorem dX8_go_62 : decode cX8_go 62 = .ok (.iconst 2, 1) := by decide +kernel
theorem dX8_go_63 : decode cX8_go 63 = .ok (.invokevirtual 69, 3) := by decide +kernel
theorem dX8_go_66 : decode cX8_go 66 = .ok (.ireturn, 1) := by decide +kernel
theorem dX8_go_67 : decode cX8_go 67 = .ok (.aload_n 0, 1) := by decide +kernel
theorem dX8_go_68 : decode cX8_go 68 = .ok (.getfield 47, 3) := by decide +kernel
theorem dX8_go_71 : decode cX8_go 71 = .ok (.iload_n 1, 1) := by decide +kernel
theorem dX8_go_72 : decode cX8_go 72 = .ok (.aload_n 0, 1) := by decide +kernel
theorem dX8_go_73 : decode cX8_go 73 = .ok (.getfield 24, 3) := by decide +kernel
theorem dX8_go_76 : decode cX8_go 76 = .ok (.aload_n 0, 1) := by decide +kernel
theorem dX8_go_77 : decode cX8_go 77 = .ok (.getfield 47, 3) := by decide +kernel
theorem dX8_go_80 : decode cX8_go 80 = .ok (.invokevirtual 168, 3) := by decide +kernel
theorem dX8_go_83 : decode cX8_go 83 = .ok (.iload_n 1, 1) := by decide +kernel
theorem dX8_go_84 : decode cX8_go 84 = .ok (.invokevirtual 181, 3) := by decide +kernel
theorem dX8_go_87 : decode cX8_go 87 = .ok (.invokevirtual 184, 3) := by decide +kernel
theorem dX8_go_90 : decode cX8_go 90 = .ok (.aload_n 0, 1) := by decide +kernel
theorem dX8_go_91 : decode cX8_go 91 = .ok (.invokevirtual 174, 3) := by decide +kernel
theorem dX8_go_94 : decode cX8_go 94 = .ok (.ifCond .eq 7, 3) := by decide +kernel
theorem dX8_go_97 : decode cX8_go 97 = .ok (.iconst 1, 1) := by decide +kernel
theorem dX8_go_98 : decode cX8_go 98 = .ok (.goto 4, 3) := by decide +kernel
theorem dX8_go_101 : decode cX8_go 101 = .ok (.iconst 0, 1) := by decide +kernel
theorem dX8_go_102 : decode cX8_go 102 = .ok (.ireturn, 1) := by decide +kernel
theorem dX8_back_0 : decode cX8_back 0 = .ok (.aload_n 0, 1) := by decide +kernel
theorem dX8_back_1 : decode cX8_back 1 = .ok (.getfield 47, 3) := by decide +kernel
theorem dX8_back_4 : decode cX8_back 4 = .ok (.getfield 81, 3) := by decide +kernel
theorem dX8_back_7 : decode cX8_back 7 = .ok (.ifCond .ne 9, 3) := by decide +kernel
theorem dX8_back_10 : decode cX8_back 10 = .ok (.aload_n 0, 1) := by decide +kernel
theorem dX8_back_11 : decode cX8_back 11 = .ok (.iconst 3, 1) := by decide +kernel
theorem dX8_back_12 : decode cX8_back 12 = .ok (.invokevirtual 69, 3) := by decide +kernel
theorem dX8_back_15 : decode cX8_back 15 = .ok (.ireturn, 1) := by decide +kernel
theorem dX8_back_16 : decode cX8_back 16 = .ok (.aload_n 0, 1) := by decide +kernel
theorem dX8_back_17 : decode cX8_back 17 = .ok (.getfield 47, 3) := by decide +kernel
theorem dX8_back_20 : decode cX8_back 20 = .ok (.getfield 187, 3) := by decide +kernel
theorem dX8_back_23 : decode cX8_back 23 = .ok (.ifCond .ne 9, 3) := by decide +kernel
theorem dX8_back_26 : decode cX8_back 26 = .ok (.aload_n 0, 1) := by decide +kernel
theorem dX8_back_27 : decode cX8_back 27 = .ok (.iconst 2, 1) := by decide +kernel
theorem dX8_back_28 : decode cX8_back 28 = .ok (.invokevirtual 69, 3) := by decide +kernel
theorem dX8_back_31 : decode cX8_back 31 = .ok (.ireturn, 1) := by decide +kernel
theorem dX8_back_32 : decode cX8_back 32 = .ok (.aload_n 0, 1) := by decide +kernel
theorem dX8_back_33 : decode cX8_back 33 = .ok (.getfield 47, 3) := by decide +kernel
theorem dX8_back_36 : decode cX8_back 36 = .ok (.dup, 1) := by decide +kernel
theorem dX8_back_37 : decode cX8_back 37 = .ok (.getfield 187, 3) := by decide +kernel
theorem dX8_back_40 : decode cX8_back 40 = .ok (.iconst 1, 1) := by decide +kernel
theorem dX8_back_41 : decode cX8_back 41 = .ok (.isub, 1) := by decide +kernel
theorem dX8_back_42 : decode cX8_back 42 = .ok (.putfield 187, 3) := by decide +kernel
theorem dX8_back_45 : decode cX8_back 45 = .ok (.aload_n 0, 1) := by decide +kernel
theorem dX8_back_46 : decode cX8_back 46 = .ok (.getfield 47, 3) := by decide +kernel
theorem dX8_back_49 : decode cX8_back 49 = .ok (.getfield 187, 3) := by decide +kernel
theorem dX8_back_52 : decode cX8_back 52 = .ok (.ireturn, 1) := by decide +kernel
theorem dX8_game_0 : decode cX8_game 0 = .ok (.iload_n 1, 1) := by decide +kernel
theorem dX8_game_1 : decode cX8_game 1 = .ok (.ifCond .lt 9, 3) := by decide +kernel
theorem dX8_game_4 : decode cX8_game 4 = .ok (.iload_n 1, 1) := by decide +kernel
theorem dX8_game_5 : decode cX8_game 5 = .ok (.bipush 7, 2) := by decide +kernel
theorem dX8_game_7 : decode cX8_game 7 = .ok (.if_icmp .le 9, 3) := by decide +kernel
theorem dX8_game_10 : decode cX8_game 10 = .ok (.aload_n 0, 1) := by decide +kernel
theorem dX8_game_11 : decode cX8_game 11 = .ok (.iconst 1, 1) := by decide +kernel
theorem dX8_game_12 : decode cX8_game 12 = .ok (.invokevirtual 69, 3) := by decide +kernel
theorem dX8_game_15 : decode cX8_game 15 = .ok (.ireturn, 1) := by decide +kernel
theorem dX8_game_16 : decode cX8_game 16 = .ok (.aload_n 0, 1) := by decide +kernel
theorem dX8_game_17 : decode cX8_game 17 = .ok (.getfield 47, 3) := by decide +kernel
theorem dX8_game_20 : decode cX8_game 20 = .ok (.getfield 81, 3) := by decide +kernel
theorem dX8_game_23 : decode cX8_game 23 = .ok (.ifCond .ne 9, 3) := by decide +kernel
theorem dX8_game_26 : decode cX8_game 26 = .ok (.aload_n 0, 1) := by decide +kernel
theorem dX8_game_27 : decode cX8_game 27 = .ok (.iconst 3, 1) := by decide +kernel
theorem dX8_game_28 : decode cX8_game 28 = .ok (.invokevirtual 69, 3) := by decide +kernel
theorem dX8_game_31 : decode cX8_game 31 = .ok (.ireturn, 1) := by decide +kernel
theorem dX8_game_32 : decode cX8_game 32 = .ok (.aload_n 0, 1) := by decide +kernel
theorem dX8_game_33 : decode cX8_game 33 = .ok (.getfield 47, 3) := by decide +kernel
theorem dX8_game_36 : decode cX8_game 36 = .ok (.invokevirtual 168, 3) := by decide +kernel
theorem dX8_game_39 : decode cX8_game 39 = .ok (.istore_n 2, 1) := by decide +kernel
theorem dX8_game_40 : decode cX8_game 40 = .ok (.iload_n 1, 1) := by decide +kernel
theorem dX8_game_41 : decode cX8_game 41 = .ok (.tableswitch 97 0 6 #[43, 51, 56, 61, 66, 74, 84], 43) := by decide +kernel
theorem dX8_game_84 : decode cX8_game 84 = .ok (.aload_n 0, 1) := by decide +kernel
theorem dX8_game_85 : decode cX8_game 85 = .ok (.getfield 47, 3) := by decide +kernel
theorem dX8_game_88 : decode cX8_game 88 = .ok (.getfield 190, 3) := by decide +kernel
theorem dX8_game_91 : decode cX8_game 91 = .ok (.ireturn, 1) := by decide +kernel
theorem dX8_game_92 : decode cX8_game 92 = .ok (.iload_n 2, 1) := by decide +kernel
theorem dX8_game_93 : decode cX8_game 93 = .ok (.invokestatic 193, 3) := by decide +kernel
theorem dX8_game_96 : decode cX8_game 96 = .ok (.ireturn, 1) := by decide +kernel
theorem dX8_game_97 : decode cX8_game 97 = .ok (.iload_n 2, 1) := by decide +kernel
theorem dX8_game_98 : decode cX8_game 98 = .ok (.invokestatic 196, 3) := by decide +kernel
theorem dX8_game_101 : decode cX8_game 101 = .ok (.ireturn, 1) := by decide +kernel
theorem dX8_game_102 : decode cX8_game 102 = .ok (.iload_n 2, 1) := by decide +kernel
theorem dX8_game_103 : decode cX8_game 103 = .ok (.invokestatic 199, 3) := by decide +kernel
theorem dX8_game_106 : decode cX8_game 106 = .ok (.ireturn, 1) := by decide +kernel
theorem dX8_game_107 : decode cX8_game 107 = .ok (.aload_n 0, 1) := by decide +kernel
theorem dX8_game_108 : decode cX8_game 108 = .ok (.getfield 47, 3) := by decide +kernel
theorem dX8_game_111 : decode cX8_game 111 = .ok (.getfield 187, 3) := by decide +kernel
theorem dX8_game_114 : decode cX8_game 114 = .ok (.ireturn, 1) := by decide +kernel
theorem dX8_game_115 : decode cX8_game 115 = .ok (.aload_n 0, 1) := by decide +kernel
theorem dX8_game_116 : decode cX8_game 116 = .ok (.getfield 47, 3) := by decide +kernel
theorem dX8_game_119 : decode cX8_game 119 = .ok (.getfield 187, 3) := by decide +kernel
theorem dX8_game_122 : decode cX8_game 122 = .ok (.iconst 1, 1) := by decide +kernel
theorem dX8_game_123 : decode cX8_game 123 = .ok (.iand, 1) := by decide +kernel
theorem dX8_game_124 : decode cX8_game 124 = .ok (.ireturn, 1) := by decide +kernel
theorem dX8_game_125 : decode cX8_game 125 = .ok (.aload_n 0, 1) := by decide +kernel
theorem dX8_game_126 : decode cX8_game 126 = .ok (.invokevirtual 174, 3) := by decide +kernel
theorem dX8_game_129 : decode cX8_game 129 = .ok (.ifCond .eq 7, 3) := by decide +kernel
theorem dX8_game_132 : decode cX8_game 132 = .ok (.iconst 1, 1) := by decide +kernel
theorem dX8_game_133 : decode cX8_game 133 = .ok (.goto 4, 3) := by decide +kernel
theorem dX8_game_136 : decode cX8_game 136 = .ok (.iconst 0, 1) := by decide +kernel
theorem dX8_game_137 : decode cX8_game 137 = .ok (.ireturn, 1) := by decide +kernel
theorem dX8_game_138 : decode cX8_game 138 = .ok (.aload_n 0, 1) := by decide +kernel
theorem dX8_game_139 : decode cX8_game 139 = .ok (.getfield 24, 3) := by decide +kernel
theorem dX8_game_142 : decode cX8_game 142 = .ok (.iload_n 2, 1) := by decide +kernel
theorem dX8_game_143 : decode cX8_game 143 = .ok (.aload_n 0, 1) := by decide +kernel
theorem dX8_game_144 : decode cX8_game 144 = .ok (.getfield 47, 3) := by decide +kernel
theorem dX8_game_147 : decode cX8_game 147 = .ok (.getfield 187, 3) := by decide +kernel
theorem dX8_game_150 : decode cX8_game 150 = .ok (.iconst 1, 1) := by decide +kernel
theorem dX8_game_151 : decode cX8_game 151 = .ok (.iand, 1) := by decide +kernel
theorem dX8_game_152 : decode cX8_game 152 = .ok (.invokevirtual 202, 3) := by decide +kernel
theorem dX8_game_155 : decode cX8_game 155 = .ok (.ireturn, 1) := by decide +kernel
theorem dX8_moved_0 : decode cX8_moved 0 = .ok (.aload_n 0, 1) := by decide +kernel
theorem dX8_moved_1 : decode cX8_moved 1 = .ok (.getfield 47, 3) := by decide +kernel
theorem dX8_moved_4 : decode cX8_moved 4 = .ok (.getfield 81, 3) := by decide +kernel
theorem dX8_moved_7 : decode cX8_moved 7 = .ok (.ifCond .ne 9, 3) := by decide +kernel
theorem dX8_moved_10 : decode cX8_moved 10 = .ok (.aload_n 0, 1) := by decide +kernel
theorem dX8_moved_11 : decode cX8_moved 11 = .ok (.iconst 3, 1) := by decide +kernel
theorem dX8_moved_12 : decode cX8_moved 12 = .ok (.invokevirtual 69, 3) := by decide +kernel
theorem dX8_moved_15 : decode cX8_moved 15 = .ok (.ireturn, 1) := by decide +kernel
theorem dX8_moved_16 : decode cX8_moved 16 = .ok (.iload_n 1, 1) := by decide +kernel
theorem dX8_moved_17 : decode cX8_moved 17 = .ok (.ifCond .lt 14, 3) := by decide +kernel
theorem dX8_moved_20 : decode cX8_moved 20 = .ok (.iload_n 1, 1) := by decide +kernel
theorem dX8_moved_21 : decode cX8_moved 21 = .ok (.aload_n 0, 1) := by decide +kernel
theorem dX8_moved_22 : decode cX8_moved 22 = .ok (.getfield 47, 3) := by decide +kernel
theorem dX8_moved_25 : decode cX8_moved 25 = .ok (.getfield 187, 3) := by decide +kernel
theorem dX8_moved_28 : decode cX8_moved 28 = .ok (.if_icmp .lt 9, 3) := by decide +kernel
theorem dX8_moved_31 : decode cX8_moved 31 = .ok (.aload_n 0, 1) := by decide +kernel
theorem dX8_moved_32 : decode cX8_moved 32 = .ok (.iconst 2, 1) := by decide +kernel
theorem dX8_moved_33 : decode cX8_moved 33 = .ok (.invokevirtual 69, 3) := by decide +kernel
theorem dX8_moved_36 : decode cX8_moved 36 = .ok (.ireturn, 1) := by decide +kernel
theorem dX8_moved_37 : decode cX8_moved 37 = .ok (.aload_n 0, 1) := by decide +kernel
theorem dX8_moved_38 : decode cX8_moved 38 = .ok (.getfield 47, 3) := by decide +kernel
theorem dX8_moved_41 : decode cX8_moved 41 = .ok (.getfield 205, 3) := by decide +kernel
theorem dX8_moved_44 : decode cX8_moved 44 = .ok (.iload_n 1, 1) := by decide +kernel
theorem dX8_moved_45 : decode cX8_moved 45 = .ok (.iaload, 1) := by decide +kernel
theorem dX8_moved_46 : decode cX8_moved 46 = .ok (.ireturn, 1) := by decide +kernel
theorem dX8_moves_0 : decode cX8_moves 0 = .ok (.iload_n 1, 1) := by decide +kernel
theorem dX8_moves_1 : decode cX8_moves 1 = .ok (.ifCond .lt 8, 3) := by decide +kernel
theorem dX8_moves_4 : decode cX8_moves 4 = .ok (.iload_n 1, 1) := by decide +kernel
theorem dX8_moves_5 : decode cX8_moves 5 = .ok (.iconst 1, 1) := by decide +kernel
theorem dX8_moves_6 : decode cX8_moves 6 = .ok (.if_icmp .le 9, 3) := by decide +kernel
theorem dX8_moves_9 : decode cX8_moves 9 = .ok (.aload_n 0, 1) := by decide +kernel
theorem dX8_moves_10 : decode cX8_moves 10 = .ok (.iconst 1, 1) := by decide +kernel
theorem dX8_moves_11 : decode cX8_moves 11 = .ok (.invokevirtual 69, 3) := by decide +kernel
theorem dX8_moves_14 : decode cX8_moves 14 = .ok (.ireturn, 1) := by decide +kernel
theorem dX8_moves_15 : decode cX8_moves 15 = .ok (.aload_n 0, 1) := by decide +kernel
theorem dX8_moves_16 : decode cX8_moves 16 = .ok (.getfield 47, 3) := by decide +kernel
theorem dX8_moves_19 : decode cX8_moves 19 = .ok (.getfield 81, 3) := by decide +kernel
theorem dX8_moves_22 : decode cX8_moves 22 = .ok (.ifCond .ne 9, 3) := by decide +kernel
theorem dX8_moves_25 : decode cX8_moves 25 = .ok (.aload_n 0, 1) := by decide +kernel
theorem dX8_moves_26 : decode cX8_moves 26 = .ok (.iconst 3, 1) := by decide +kernel
theorem dX8_moves_27 : decode cX8_moves 27 = .ok (.invokevirtual 69, 3) := by decide +kernel
theorem dX8_moves_30 : decode cX8_moves 30 = .ok (.ireturn, 1) := by decide +kernel
theorem dX8_moves_31 : decode cX8_moves 31 = .ok (.iload_n 1, 1) := by decide +kernel
theorem dX8_moves_32 : decode cX8_moves 32 = .ok (.ifCond .ne 20, 3) := by decide +kernel
theorem dX8_moves_35 : decode cX8_moves 35 = .ok (.aload_n 0, 1) := by decide +kernel
theorem dX8_moves_36 : decode cX8_moves 36 = .ok (.getfield 24, 3) := by decide +kernel
theorem dX8_moves_39 : decode cX8_moves 39 = .ok (.aload_n 0, 1) := by decide +kernel
theorem dX8_moves_40 : decode cX8_moves 40 = .ok (.getfield 47, 3) := by decide +kernel
theorem dX8_moves_43 : decode cX8_moves 43 = .ok (.invokevirtual 168, 3) := by decide +kernel
theorem dX8_moves_46 : decode cX8_moves 46 = .ok (.invokevirtual 178, 3) := by decide +kernel
theorem dX8_moves_49 : decode cX8_moves 49 = .ok (.goto 17, 3) := by decide +kernel
theorem dX8_moves_52 : decode cX8_moves 52 = .ok (.aload_n 0, 1) := by decide +kernel
theorem dX8_moves_53 : decode cX8_moves 53 = .ok (.getfield 24, 3) := by decide +kernel
theorem dX8_moves_56 : decode cX8_moves 56 = .ok (.aload_n 0, 1) := by decide +kernel
theorem dX8_moves_57 : decode cX8_moves 57 = .ok (.getfield 47, 3) := by decide +kernel
theorem dX8_moves_60 : decode cX8_moves 60 = .ok (.invokevirtual 168, 3) := by decide +kernel
theorem dX8_moves_63 : decode cX8_moves 63 = .ok (.invokevirtual 208, 3) := by decide +kernel
theorem dX8_moves_66 : decode cX8_moves 66 = .ok (.ireturn, 1) := by decide +kernel
theorem dX8_worth_0 : decode cX8_worth 0 = .ok (.iload_n 1, 1) := by decide +kernel
theorem dX8_worth_1 : decode cX8_worth 1 = .ok (.ifCond .lt 8, 3) := by decide +kernel
theorem dX8_worth_4 : decode cX8_worth 4 = .ok (.iload_n 1, 1) := by decide +kernel
theorem dX8_worth_5 : decode cX8_worth 5 = .ok (.iconst 1, 1) := by decide +kernel
theorem dX8_worth_6 : decode cX8_worth 6 = .ok (.if_icmp .le 9, 3) := by decide +kernel
theorem dX8_worth_9 : decode cX8_worth 9 = .ok (.aload_n 0, 1) := by decide +kernel
theorem dX8_worth_10 : decode cX8_worth 10 = .ok (.iconst 1, 1) := by decide +kernel
theorem dX8_worth_11 : decode cX8_worth 11 = .ok (.invokevirtual 69, 3) := by decide +kernel
theorem dX8_worth_14 : decode cX8_worth 14 = .ok (.ireturn, 1) := by decide +kernel
theorem dX8_worth_15 : decode cX8_worth 15 = .ok (.aload_n 0, 1) := by decide +kernel
theorem dX8_worth_16 : decode cX8_worth 16 = .ok (.getfield 47, 3) := by decide +kernel
theorem dX8_worth_19 : decode cX8_worth 19 = .ok (.getfield 81, 3) := by decide +kernel
theorem dX8_worth_22 : decode cX8_worth 22 = .ok (.ifCond .ne 9, 3) := by decide +kernel
theorem dX8_worth_25 : decode cX8_worth 25 = .ok (.aload_n 0, 1) := by decide +kernel
theorem dX8_worth_26 : decode cX8_worth 26 = .ok (.iconst 3, 1) := by decide +kernel
theorem dX8_worth_27 : decode cX8_worth 27 = .ok (.invokevirtual 69, 3) := by decide +kernel
theorem dX8_worth_30 : decode cX8_worth 30 = .ok (.ireturn, 1) := by decide +kernel
theorem dX8_worth_31 : decode cX8_worth 31 = .ok (.iload_n 1, 1) := by decide +kernel
theorem dX8_worth_32 : decode cX8_worth 32 = .ok (.iconst 1, 1) := by decide +kernel
theorem dX8_worth_33 : decode cX8_worth 33 = .ok (.if_icmp .ne 20, 3) := by decide +kernel
theorem dX8_worth_36 : decode cX8_worth 36 = .ok (.aload_n 0, 1) := by decide +kernel
theorem dX8_worth_37 : decode cX8_worth 37 = .ok (.getfield 47, 3) := by decide +kernel
theorem dX8_worth_40 : decode cX8_worth 40 = .ok (.getfield 190, 3) := by decide +kernel
theorem dX8_worth_43 : decode cX8_worth 43 = .ok (.iconst 4, 1) := by decide +kernel
theorem dX8_worth_44 : decode cX8_worth 44 = .ok (.if_icmp .ne 9, 3) := by decide +kernel
theorem dX8_worth_47 : decode cX8_worth 47 = .ok (.aload_n 0, 1) := by decide +kernel
theorem dX8_worth_48 : decode cX8_worth 48 = .ok (.iconst 5, 1) := by decide +kernel
theorem dX8_worth_49 : decode cX8_worth 49 = .ok (.invokevirtual 69, 3) := by decide +kernel
theorem dX8_worth_52 : decode cX8_worth 52 = .ok (.ireturn, 1) := by decide +kernel
theorem dX8_worth_53 : decode cX8_worth 53 = .ok (.iload_n 1, 1) := by decide +kernel
theorem dX8_worth_54 : decode cX8_worth 54 = .ok (.ifCond .ne 20, 3) := by decide +kernel
theorem dX8_worth_57 : decode cX8_worth 57 = .ok (.aload_n 0, 1) := by decide +kernel
theorem dX8_worth_58 : decode cX8_worth 58 = .ok (.getfield 24, 3) := by decide +kernel
theorem dX8_worth_61 : decode cX8_worth 61 = .ok (.aload_n 0, 1) := by decide +kernel
theorem dX8_worth_62 : decode cX8_worth 62 = .ok (.getfield 47, 3) := by decide +kernel
theorem dX8_worth_65 : decode cX8_worth 65 = .ok (.invokevirtual 168, 3) := by decide +kernel
theorem dX8_worth_68 : decode cX8_worth 68 = .ok (.invokevirtual 211, 3) := by decide +kernel
theorem dX8_worth_71 : decode cX8_worth 71 = .ok (.goto 17, 3) := by decide +kernel
theorem dX8_worth_74 : decode cX8_worth 74 = .ok (.aload_n 0, 1) := by decide +kernel
theorem dX8_worth_75 : decode cX8_worth 75 = .ok (.getfield 24, 3) := by decide +kernel
theorem dX8_worth_78 : decode cX8_worth 78 = .ok (.aload_n 0, 1) := by decide +kernel
theorem dX8_worth_79 : decode cX8_worth 79 = .ok (.getfield 47, 3) := by decide +kernel
theorem dX8_worth_82 : decode cX8_worth 82 = .ok (.invokevirtual 168, 3) := by decide +kernel
theorem dX8_worth_85 : decode cX8_worth 85 = .ok (.invokevirtual 214, 3) := by decide +kernel
theorem dX8_worth_88 : decode cX8_worth 88 = .ok (.ireturn, 1) := by decide +kernel
theorem dX8_reach_0 : decode cX8_reach 0 = .ok (.aload_n 0, 1) := by decide +kernel
theorem dX8_reach_1 : decode cX8_reach 1 = .ok (.getfield 47, 3) := by decide +kernel
theorem dX8_reach_4 : decode cX8_reach 4 = .ok (.getfield 81, 3) := by decide +kernel
theorem dX8_reach_7 : decode cX8_reach 7 = .ok (.ifCond .eq 20, 3) := by decide +kernel
theorem dX8_reach_10 : decode cX8_reach 10 = .ok (.aload_n 0, 1) := by decide +kernel
theorem dX8_reach_11 : decode cX8_reach 11 = .ok (.getfield 24, 3) := by decide +kernel
theorem dX8_reach_14 : decode cX8_reach 14 = .ok (.aload_n 0, 1) := by decide +kernel
theorem dX8_reach_15 : decode cX8_reach 15 = .ok (.getfield 47, 3) := by decide +kernel
theorem dX8_reach_18 : decode cX8_reach 18 = .ok (.invokevirtual 168, 3) := by decide +kernel
theorem dX8_reach_21 : decode cX8_reach 21 = .ok (.invokevirtual 217, 3) := by decide +kernel
theorem dX8_reach_24 : decode cX8_reach 24 = .ok (.goto 8, 3) := by decide +kernel
theorem dX8_reach_27 : decode cX8_reach 27 = .ok (.aload_n 0, 1) := by decide +kernel
theorem dX8_reach_28 : decode cX8_reach 28 = .ok (.iconst 3, 1) := by decide +kernel
theorem dX8_reach_29 : decode cX8_reach 29 = .ok (.invokevirtual 69, 3) := by decide +kernel
theorem dX8_reach_32 : decode cX8_reach 32 = .ok (.ireturn, 1) := by decide +kernel
theorem dX8_starts_0 : decode cX8_starts 0 = .ok (.iload_n 1, 1) := by decide +kernel
theorem dX8_starts_1 : decode cX8_starts 1 = .ok (.invokestatic 154, 3) := by decide +kernel
theorem dX8_starts_4 : decode cX8_starts 4 = .ok (.ifCond .ne 9, 3) := by decide +kernel
theorem dX8_starts_7 : decode cX8_starts 7 = .ok (.aload_n 0, 1) := by decide +kernel
theorem dX8_starts_8 : decode cX8_starts 8 = .ok (.iconst 1, 1) := by decide +kernel
theorem dX8_starts_9 : decode cX8_starts 9 = .ok (.invokevirtual 69, 3) := by decide +kernel
theorem dX8_starts_12 : decode cX8_starts 12 = .ok (.ireturn, 1) := by decide +kernel
theorem dX8_starts_13 : decode cX8_starts 13 = .ok (.iconst 0, 1) := by decide +kernel
theorem dX8_starts_14 : decode cX8_starts 14 = .ok (.istore_n 2, 1) := by decide +kernel
theorem dX8_starts_15 : decode cX8_starts 15 = .ok (.iconst 0, 1) := by decide +kernel
theorem dX8_starts_16 : decode cX8_starts 16 = .ok (.istore_n 3, 1) := by decide +kernel
theorem dX8_starts_17 : decode cX8_starts 17 = .ok (.iload_n 3, 1) := by decide +kernel
theorem dX8_starts_18 : decode cX8_starts 18 = .ok (.aload_n 0, 1) := by decide +kernel
theorem dX8_starts_19 : decode cX8_starts 19 = .ok (.getfield 10, 3) := by decide +kernel
theorem dX8_starts_22 : decode cX8_starts 22 = .ok (.getfield 73, 3) := by decide +kernel
theorem dX8_starts_25 : decode cX8_starts 25 = .ok (.if_icmp .ge 37, 3) := by decide +kernel
theorem dX8_starts_28 : decode cX8_starts 28 = .ok (.aload_n 0, 1) := by decide +kernel
theorem dX8_starts_29 : decode cX8_starts 29 = .ok (.getfield 24, 3) := by decide +kernel
theorem dX8_starts_32 : decode cX8_starts 32 = .ok (.iload_n 1, 1) := by decide +kernel
theorem dX8_starts_33 : decode cX8_starts 33 = .ok (.invokevirtual 157, 3) := by decide +kernel
theorem dX8_starts_36 : decode cX8_starts 36 = .ok (.aload_n 0, 1) := by decide +kernel
theorem dX8_starts_37 : decode cX8_starts 37 = .ok (.getfield 24, 3) := by decide +kernel
theorem dX8_starts_40 : decode cX8_starts 40 = .ok (.iload_n 3, 1) := by decide +kernel
theorem dX8_starts_41 : decode cX8_starts 41 = .ok (.invokestatic 160, 3) := by decide +kernel
theorem dX8_starts_44 : decode cX8_starts 44 = .ok (.invokevirtual 171, 3) := by decide +kernel
theorem dX8_starts_47 : decode cX8_starts 47 = .ok (.ifCond .eq 9, 3) := by decide +kernel
theorem dX8_starts_50 : decode cX8_starts 50 = .ok (.iload_n 2, 1) := by decide +kernel
theorem dX8_starts_51 : decode cX8_starts 51 = .ok (.iconst 1, 1) := by decide +kernel
theorem dX8_starts_52 : decode cX8_starts 52 = .ok (.iload_n 3, 1) := by decide +kernel
theorem dX8_starts_53 : decode cX8_starts 53 = .ok (.ishl, 1) := by decide +kernel
theorem dX8_starts_54 : decode cX8_starts 54 = .ok (.ior, 1) := by decide +kernel
theorem dX8_starts_55 : decode cX8_starts 55 = .ok (.istore_n 2, 1) := by decide +kernel
theorem dX8_starts_56 : decode cX8_starts 56 = .ok (.iinc 3 1, 3) := by decide +kernel
theorem dX8_starts_59 : decode cX8_starts 59 = .ok (.goto (-42), 3) := by decide +kernel
theorem dX8_starts_62 : decode cX8_starts 62 = .ok (.aload_n 0, 1) := by decide +kernel
theorem dX8_starts_63 : decode cX8_starts 63 = .ok (.getfield 24, 3) := by decide +kernel
theorem dX8_starts_66 : decode cX8_starts 66 = .ok (.aload_n 0, 1) := by decide +kernel
theorem dX8_starts_67 : decode cX8_starts 67 = .ok (.getfield 47, 3) := by decide +kernel
theorem dX8_starts_70 : decode cX8_starts 70 = .ok (.getfield 190, 3) := by decide +kernel
theorem dX8_starts_73 : decode cX8_starts 73 = .ok (.invokevirtual 157, 3) := by decide +kernel
theorem dX8_starts_76 : decode cX8_starts 76 = .ok (.iload_n 2, 1) := by decide +kernel
theorem dX8_starts_77 : decode cX8_starts 77 = .ok (.ireturn, 1) := by decide +kernel
theorem dX8_tells_0 : decode cX8_tells 0 = .ok (.iload_n 1, 1) := by decide +kernel
theorem dX8_tells_1 : decode cX8_tells 1 = .ok (.invokestatic 220, 3) := by decide +kernel
theorem dX8_tells_4 : decode cX8_tells 4 = .ok (.ifCond .ne 9, 3) := by decide +kernel
theorem dX8_tells_7 : decode cX8_tells 7 = .ok (.aload_n 0, 1) := by decide +kernel
theorem dX8_tells_8 : decode cX8_tells 8 = .ok (.iconst 1, 1) := by decide +kernel
theorem dX8_tells_9 : decode cX8_tells 9 = .ok (.invokevirtual 69, 3) := by decide +kernel
theorem dX8_tells_12 : decode cX8_tells 12 = .ok (.ireturn, 1) := by decide +kernel
theorem dX8_tells_13 : decode cX8_tells 13 = .ok (.aload_n 0, 1) := by decide +kernel
theorem dX8_tells_14 : decode cX8_tells 14 = .ok (.getfield 47, 3) := by decide +kernel
theorem dX8_tells_17 : decode cX8_tells 17 = .ok (.getfield 81, 3) := by decide +kernel
theorem dX8_tells_20 : decode cX8_tells 20 = .ok (.ifCond .ne 9, 3) := by decide +kernel
theorem dX8_tells_23 : decode cX8_tells 23 = .ok (.aload_n 0, 1) := by decide +kernel
theorem dX8_tells_24 : decode cX8_tells 24 = .ok (.iconst 3, 1) := by decide +kernel
theorem dX8_tells_25 : decode cX8_tells 25 = .ok (.invokevirtual 69, 3) := by decide +kernel
theorem dX8_tells_28 : decode cX8_tells 28 = .ok (.ireturn, 1) := by decide +kernel
theorem dX8_tells_29 : decode cX8_tells 29 = .ok (.aload_n 0, 1) := by decide +kernel
theorem dX8_tells_30 : decode cX8_tells 30 = .ok (.getfield 33, 3) := by decide +kernel
theorem dX8_tells_33 : decode cX8_tells 33 = .ok (.iload_n 1, 1) := by decide +kernel
theorem dX8_tells_34 : decode cX8_tells 34 = .ok (.aload_n 0, 1) := by decide +kernel
theorem dX8_tells_35 : decode cX8_tells 35 = .ok (.getfield 47, 3) := by decide +kernel
theorem dX8_tells_38 : decode cX8_tells 38 = .ok (.invokevirtual 168, 3) := by decide +kernel
theorem dX8_tells_41 : decode cX8_tells 41 = .ok (.iconst (-1), 1) := by decide +kernel
theorem dX8_tells_42 : decode cX8_tells 42 = .ok (.invokevirtual 223, 3) := by decide +kernel
theorem dX8_tells_45 : decode cX8_tells 45 = .ok (.istore_n 2, 1) := by decide +kernel
theorem dX8_tells_46 : decode cX8_tells 46 = .ok (.iload_n 2, 1) := by decide +kernel
theorem dX8_tells_47 : decode cX8_tells 47 = .ok (.ifCond .ge 11, 3) := by decide +kernel
theorem dX8_tells_50 : decode cX8_tells 50 = .ok (.aload_n 0, 1) := by decide +kernel
theorem dX8_tells_51 : decode cX8_tells 51 = .ok (.iconst 2, 1) := by decide +kernel
theorem dX8_tells_52 : decode cX8_tells 52 = .ok (.invokevirtual 69, 3) := by decide +kernel
theorem dX8_tells_55 : decode cX8_tells 55 = .ok (.goto 4, 3) := by decide +kernel
theorem dX8_tells_58 : decode cX8_tells 58 = .ok (.iload_n 2, 1) := by decide +kernel
theorem dX8_tells_59 : decode cX8_tells 59 = .ok (.ireturn, 1) := by decide +kernel
theorem dX8_play_0 : decode cX8_play 0 = .ok (.iload_n 1, 1) := by decide +kernel
theorem dX8_play_1 : decode cX8_play 1 = .ok (.invokestatic 220, 3) := by decide +kernel
theorem dX8_play_4 : decode cX8_play 4 = .ok (.ifCond .eq 21, 3) := by decide +kernel
theorem dX8_play_7 : decode cX8_play 7 = .ok (.iload_n 2, 1) := by decide +kernel
theorem dX8_play_8 : decode cX8_play 8 = .ok (.invokestatic 220, 3) := by decide +kernel
theorem dX8_play_11 : decode cX8_play 11 = .ok (.ifCond .eq 14, 3) := by decide +kernel
theorem dX8_play_14 : decode cX8_play 14 = .ok (.iload_n 3, 1) := by decide +kernel
theorem dX8_play_15 : decode cX8_play 15 = .ok (.iconst 1, 1) := by decide +kernel
theorem dX8_play_16 : decode cX8_play 16 = .ok (.if_icmp .lt 9, 3) := by decide +kernel
theorem dX8_play_19 : decode cX8_play 19 = .ok (.iload_n 3, 1) := by decide +kernel
theorem dX8_play_20 : decode cX8_play 20 = .ok (.bipush 20, 2) := by decide +kernel
theorem dX8_play_22 : decode cX8_play 22 = .ok (.if_icmp .le 9, 3) := by decide +kernel
theorem dX8_play_25 : decode cX8_play 25 = .ok (.aload_n 0, 1) := by decide +kernel
theorem dX8_play_26 : decode cX8_play 26 = .ok (.iconst 1, 1) := by decide +kernel
theorem dX8_play_27 : decode cX8_play 27 = .ok (.invokevirtual 69, 3) := by decide +kernel
theorem dX8_play_30 : decode cX8_play 30 = .ok (.ireturn, 1) := by decide +kernel
theorem dX8_play_31 : decode cX8_play 31 = .ok (.aload_n 0, 1) := by decide +kernel
theorem dX8_play_32 : decode cX8_play 32 = .ok (.getfield 47, 3) := by decide +kernel
theorem dX8_play_35 : decode cX8_play 35 = .ok (.getfield 81, 3) := by decide +kernel
theorem dX8_play_38 : decode cX8_play 38 = .ok (.ifCond .ne 9, 3) := by decide +kernel
theorem dX8_play_41 : decode cX8_play 41 = .ok (.aload_n 0, 1) := by decide +kernel
theorem dX8_play_42 : decode cX8_play 42 = .ok (.iconst 3, 1) := by decide +kernel
theorem dX8_play_43 : decode cX8_play 43 = .ok (.invokevirtual 69, 3) := by decide +kernel
theorem dX8_play_46 : decode cX8_play 46 = .ok (.ireturn, 1) := by decide +kernel
theorem dX8_play_47 : decode cX8_play 47 = .ok (.aload_n 0, 1) := by decide +kernel
theorem dX8_play_48 : decode cX8_play 48 = .ok (.getfield 47, 3) := by decide +kernel
theorem dX8_play_51 : decode cX8_play 51 = .ok (.getfield 187, 3) := by decide +kernel
theorem dX8_play_54 : decode cX8_play 54 = .ok (.istore 4, 2) := by decide +kernel
theorem dX8_play_56 : decode cX8_play 56 = .ok (.aload_n 0, 1) := by decide +kernel
theorem dX8_play_57 : decode cX8_play 57 = .ok (.getfield 24, 3) := by decide +kernel
theorem dX8_play_60 : decode cX8_play 60 = .ok (.aload_n 0, 1) := by decide +kernel
theorem dX8_play_61 : decode cX8_play 61 = .ok (.getfield 47, 3) := by decide +kernel
theorem dX8_play_64 : decode cX8_play 64 = .ok (.invokevirtual 168, 3) := by decide +kernel
theorem dX8_play_67 : decode cX8_play 67 = .ok (.invokevirtual 178, 3) := by decide +kernel
theorem dX8_play_70 : decode cX8_play 70 = .ok (.istore 5, 2) := by decide +kernel
theorem dX8_play_72 : decode cX8_play 72 = .ok (.iconst 0, 1) := by decide +kernel
theorem dX8_play_73 : decode cX8_play 73 = .ok (.istore 6, 2) := by decide +kernel
theorem dX8_play_75 : decode cX8_play 75 = .ok (.iload 6, 2) := by decide +kernel
theorem dX8_play_77 : decode cX8_play 77 = .ok (.iload_n 3, 1) := by decide +kernel
theorem dX8_play_78 : decode cX8_play 78 = .ok (.if_icmp .ge 97, 3) := by decide +kernel
theorem dX8_play_81 : decode cX8_play 81 = .ok (.iload 5, 2) := by decide +kernel
theorem dX8_play_83 : decode cX8_play 83 = .ok (.ifCond .eq 92, 3) := by decide +kernel
theorem dX8_play_86 : decode cX8_play 86 = .ok (.aload_n 0, 1) := by decide +kernel
theorem dX8_play_87 : decode cX8_play 87 = .ok (.getfield 47, 3) := by decide +kernel
theorem dX8_play_90 : decode cX8_play 90 = .ok (.getfield 187, 3) := by decide +kernel
theorem dX8_play_93 : decode cX8_play 93 = .ok (.iconst 1, 1) := by decide +kernel
theorem dX8_play_94 : decode cX8_play 94 = .ok (.iand, 1) := by decide +kernel
theorem dX8_play_95 : decode cX8_play 95 = .ok (.ifCond .ne 7, 3) := by decide +kernel
theorem dX8_play_98 : decode cX8_play 98 = .ok (.iload_n 1, 1) := by decide +kernel
theorem dX8_play_99 : decode cX8_play 99 = .ok (.goto 4, 3) := by decide +kernel
theorem dX8_play_102 : decode cX8_play 102 = .ok (.iload_n 2, 1) := by decide +kernel
theorem dX8_play_103 : decode cX8_play 103 = .ok (.istore 7, 2) := by decide +kernel
theorem dX8_play_105 : decode cX8_play 105 = .ok (.aload_n 0, 1) := by decide +kernel
theorem dX8_play_106 : decode cX8_play 106 = .ok (.getfield 33, 3) := by decide +kernel
theorem dX8_play_109 : decode cX8_play 109 = .ok (.iload 7, 2) := by decide +kernel
theorem dX8_play_111 : decode cX8_play 111 = .ok (.aload_n 0, 1) := by decide +kernel
theorem dX8_play_112 : decode cX8_play 112 = .ok (.getfield 47, 3) := by decide +kernel
theorem dX8_play_115 : decode cX8_play 115 = .ok (.invokevirtual 168, 3) := by decide +kernel
theorem dX8_play_118 : decode cX8_play 118 = .ok (.iload 5, 2) := by decide +kernel
theorem dX8_play_120 : decode cX8_play 120 = .ok (.invokestatic 227, 3) := by decide +kernel
theorem dX8_play_123 : decode cX8_play 123 = .ok (.invokevirtual 223, 3) := by decide +kernel
theorem dX8_play_126 : decode cX8_play 126 = .ok (.istore 8, 2) := by decide +kernel
theorem dX8_play_128 : decode cX8_play 128 = .ok (.aload_n 0, 1) := by decide +kernel
theorem dX8_play_129 : decode cX8_play 129 = .ok (.getfield 47, 3) := by decide +kernel
theorem dX8_play_132 : decode cX8_play 132 = .ok (.iload 8, 2) := by decide +kernel
theorem dX8_play_134 : decode cX8_play 134 = .ok (.aload_n 0, 1) := by decide +kernel
theorem dX8_play_135 : decode cX8_play 135 = .ok (.getfield 24, 3) := by decide +kernel
theorem dX8_play_138 : decode cX8_play 138 = .ok (.aload_n 0, 1) := by decide +kernel
theorem dX8_play_139 : decode cX8_play 139 = .ok (.getfield 47, 3) := by decide +kernel
theorem dX8_play_142 : decode cX8_play 142 = .ok (.invokevirtual 168, 3) := by decide +kernel
theorem dX8_play_145 : decode cX8_play 145 = .ok (.iload 8, 2) := by decide +kernel
theorem dX8_play_147 : decode cX8_play 147 = .ok (.invokevirtual 181, 3) := by decide +kernel
theorem dX8_play_150 : decode cX8_play 150 = .ok (.invokevirtual 184, 3) := by decide +kernel
theorem dX8_play_153 : decode cX8_play 153 = .ok (.aload_n 0, 1) := by decide +kernel
theorem dX8_play_154 : decode cX8_play 154 = .ok (.getfield 24, 3) := by decide +kernel
theorem dX8_play_157 : decode cX8_play 157 = .ok (.aload_n 0, 1) := by decide +kernel
theorem dX8_play_158 : decode cX8_play 158 = .ok (.getfield 47, 3) := by decide +kernel
theorem dX8_play_161 : decode cX8_play 161 = .ok (.invokevirtual 168, 3) := by decide +kernel
theorem dX8_play_164 : decode cX8_play 164 = .ok (.invokevirtual 178, 3) := by decide +kernel
theorem dX8_play_167 : decode cX8_play 167 = .ok (.istore 5, 2) := by decide +kernel
theorem dX8_play_169 : decode cX8_play 169 = .ok (.iinc 6 1, 3) := by decide +kernel
theorem dX8_play_172 : decode cX8_play 172 = .ok (.goto (-97), 3) := by decide +kernel
theorem dX8_play_175 : decode cX8_play 175 = .ok (.aload_n 0, 1) := by decide +kernel
theorem dX8_play_176 : decode cX8_play 176 = .ok (.getfield 47, 3) := by decide +kernel
theorem dX8_play_179 : decode cX8_play 179 = .ok (.getfield 187, 3) := by decide +kernel
theorem dX8_play_182 : decode cX8_play 182 = .ok (.iload 4, 2) := by decide +kernel
theorem dX8_play_184 : decode cX8_play 184 = .ok (.isub, 1) := by decide +kernel
theorem dX8_play_185 : decode cX8_play 185 = .ok (.ireturn, 1) := by decide +kernel
theorem dX8_fight_0 : decode cX8_fight 0 = .ok (.iload_n 1, 1) := by decide +kernel
theorem dX8_fight_1 : decode cX8_fight 1 = .ok (.invokestatic 220, 3) := by decide +kernel
theorem dX8_fight_4 : decode cX8_fight 4 = .ok (.ifCond .eq 19, 3) := by decide +kernel
theorem dX8_fight_7 : decode cX8_fight 7 = .ok (.iload_n 2, 1) := by decide +kernel
theorem dX8_fight_8 : decode cX8_fight 8 = .ok (.invokestatic 220, 3) := by decide +kernel
theorem dX8_fight_11 : decode cX8_fight 11 = .ok (.ifCond .eq 12, 3) := by decide +kernel
theorem dX8_fight_14 : decode cX8_fight 14 = .ok (.iload_n 3, 1) := by decide +kernel
theorem dX8_fight_15 : decode cX8_fight 15 = .ok (.ifCond .lt 8, 3) := by decide +kernel
theorem dX8_fight_18 : decode cX8_fight 18 = .ok (.iload_n 3, 1) := by decide +kernel
theorem dX8_fight_19 : decode cX8_fight 19 = .ok (.iconst 1, 1) := by decide +kernel
theorem dX8_fight_20 : decode cX8_fight 20 = .ok (.if_icmp .le 9, 3) := by decide +kernel
theorem dX8_fight_23 : decode cX8_fight 23 = .ok (.aload_n 0, 1) := by decide +kernel
theorem dX8_fight_24 : decode cX8_fight 24 = .ok (.iconst 1, 1) := by decide +kernel
theorem dX8_fight_25 : decode cX8_fight 25 = .ok (.invokevirtual 69, 3) := by decide +kernel
theorem dX8_fight_28 : decode cX8_fight 28 = .ok (.ireturn, 1) := by decide +kernel
theorem dX8_fight_29 : decode cX8_fight 29 = .ok (.aload_n 0, 1) := by decide +kernel
theorem dX8_fight_30 : decode cX8_fight 30 = .ok (.getfield 47, 3) := by decide +kernel
theorem dX8_fight_33 : decode cX8_fight 33 = .ok (.getfield 81, 3) := by decide +kernel
theorem dX8_fight_36 : decode cX8_fight 36 = .ok (.ifCond .ne 9, 3) := by decide +kernel
theorem dX8_fight_39 : decode cX8_fight 39 = .ok (.aload_n 0, 1) := by decide +kernel
theorem dX8_fight_40 : decode cX8_fight 40 = .ok (.iconst 3, 1) := by decide +kernel
theorem dX8_fight_41 : decode cX8_fight 41 = .ok (.invokevirtual 69, 3) := by decide +kernel
theorem dX8_fight_44 : decode cX8_fight 44 = .ok (.ireturn, 1) := by decide +kernel
theorem dX8_fight_45 : decode cX8_fight 45 = .ok (.aload_n 0, 1) := by decide +kernel
theorem dX8_fight_46 : decode cX8_fight 46 = .ok (.getfield 33, 3) := by decide +kernel
theorem dX8_fight_49 : decode cX8_fight 49 = .ok (.getfield 230, 3) := by decide +kernel
theorem dX8_fight_52 : decode cX8_fight 52 = .ok (.istore 4, 2) := by decide +kernel
theorem dX8_fight_54 : decode cX8_fight 54 = .ok (.aload_n 0, 1) := by decide +kernel
theorem dX8_fight_55 : decode cX8_fight 55 = .ok (.getfield 47, 3) := by decide +kernel
theorem dX8_fight_58 : decode cX8_fight 58 = .ok (.invokevirtual 168, 3) := by decide +kernel
theorem dX8_fight_61 : decode cX8_fight 61 = .ok (.istore 5, 2) := by decide +kernel
theorem dX8_fight_63 : decode cX8_fight 63 = .ok (.aload_n 0, 1) := by decide +kernel
theorem dX8_fight_64 : decode cX8_fight 64 = .ok (.getfield 47, 3) := by decide +kernel
theorem dX8_fight_67 : decode cX8_fight 67 = .ok (.getfield 187, 3) := by decide +kernel
theorem dX8_fight_70 : decode cX8_fight 70 = .ok (.istore 6, 2) := by decide +kernel
theorem dX8_fight_72 : decode cX8_fight 72 = .ok (.aload_n 0, 1) := by decide +kernel
theorem dX8_fight_73 : decode cX8_fight 73 = .ok (.getfield 24, 3) := by decide +kernel
theorem dX8_fight_76 : decode cX8_fight 76 = .ok (.iload 5, 2) := by decide +kernel
theorem dX8_fight_78 : decode cX8_fight 78 = .ok (.invokevirtual 178, 3) := by decide +kernel
theorem dX8_fight_81 : decode cX8_fight 81 = .ok (.istore 7, 2) := by decide +kernel
theorem dX8_fight_83 : decode cX8_fight 83 = .ok (.iconst 0, 1) := by decide +kernel
theorem dX8_fight_84 : decode cX8_fight 84 = .ok (.istore 8, 2) := by decide +kernel
theorem dX8_fight_86 : decode cX8_fight 86 = .ok (.iload 8, 2) := by decide +kernel
theorem dX8_fight_88 : decode cX8_fight 88 = .ok (.bipush 12, 2) := by decide +kernel
theorem dX8_fight_90 : decode cX8_fight 90 = .ok (.if_icmp .ge 69, 3) := by decide +kernel
theorem dX8_fight_93 : decode cX8_fight 93 = .ok (.iload 7, 2) := by decide +kernel
theorem dX8_fight_95 : decode cX8_fight 95 = .ok (.ifCond .eq 64, 3) := by decide +kernel
theorem dX8_fight_98 : decode cX8_fight 98 = .ok (.iload 6, 2) := by decide +kernel
theorem dX8_fight_100 : decode cX8_fight 100 = .ok (.iconst 1, 1) := by decide +kernel
theorem dX8_fight_101 : decode cX8_fight 101 = .ok (.iand, 1) := by decide +kernel
theorem dX8_fight_102 : decode cX8_fight 102 = .ok (.ifCond .ne 7, 3) := by decide +kernel
theorem dX8_fight_105 : decode cX8_fight 105 = .ok (.iload_n 1, 1) := by decide +kernel
theorem dX8_fight_106 : decode cX8_fight 106 = .ok (.goto 4, 3) := by decide +kernel
theorem dX8_fight_109 : decode cX8_fight 109 = .ok (.iload_n 2, 1) := by decide +kernel
theorem dX8_fight_110 : decode cX8_fight 110 = .ok (.istore 9, 2) := by decide +kernel
theorem dX8_fight_112 : decode cX8_fight 112 = .ok (.aload_n 0, 1) := by decide +kernel
theorem dX8_fight_113 : decode cX8_fight 113 = .ok (.getfield 24, 3) := by decide +kernel
theorem dX8_fight_116 : decode cX8_fight 116 = .ok (.iload 5, 2) := by decide +kernel
theorem dX8_fight_118 : decode cX8_fight 118 = .ok (.aload_n 0, 1) := by decide +kernel
theorem dX8_fight_119 : decode cX8_fight 119 = .ok (.getfield 33, 3) := by decide +kernel
theorem dX8_fight_122 : decode cX8_fight 122 = .ok (.iload 9, 2) := by decide +kernel
theorem dX8_fight_124 : decode cX8_fight 124 = .ok (.iload 5, 2) := by decide +kernel
theorem dX8_fight_126 : decode cX8_fight 126 = .ok (.iload 7, 2) := by decide +kernel
theorem dX8_fight_128 : decode cX8_fight 128 = .ok (.invokestatic 227, 3) := by decide +kernel
theorem dX8_fight_131 : decode cX8_fight 131 = .ok (.invokevirtual 223, 3) := by decide +kernel
theorem dX8_fight_134 : decode cX8_fight 134 = .ok (.invokevirtual 181, 3) := by decide +kernel
theorem dX8_fight_137 : decode cX8_fight 137 = .ok (.istore 5, 2) := by decide +kernel
theorem dX8_fight_139 : decode cX8_fight 139 = .ok (.iinc 6 1, 3) := by decide +kernel
theorem dX8_fight_142 : decode cX8_fight 142 = .ok (.aload_n 0, 1) := by decide +kernel
theorem dX8_fight_143 : decode cX8_fight 143 = .ok (.getfield 24, 3) := by decide +kernel
theorem dX8_fight_146 : decode cX8_fight 146 = .ok (.iload 5, 2) := by decide +kernel
theorem dX8_fight_148 : decode cX8_fight 148 = .ok (.invokevirtual 178, 3) := by decide +kernel
theorem dX8_fight_151 : decode cX8_fight 151 = .ok (.istore 7, 2) := by decide +kernel
theorem dX8_fight_153 : decode cX8_fight 153 = .ok (.iinc 8 1, 3) := by decide +kernel
theorem dX8_fight_156 : decode cX8_fight 156 = .ok (.goto (-70), 3) := by decide +kernel
theorem dX8_fight_159 : decode cX8_fight 159 = .ok (.aload_n 0, 1) := by decide +kernel
theorem dX8_fight_160 : decode cX8_fight 160 = .ok (.getfield 33, 3) := by decide +kernel
theorem dX8_fight_163 : decode cX8_fight 163 = .ok (.iload 4, 2) := by decide +kernel
theorem dX8_fight_165 : decode cX8_fight 165 = .ok (.putfield 230, 3) := by decide +kernel
theorem dX8_fight_168 : decode cX8_fight 168 = .ok (.iload_n 3, 1) := by decide +kernel
theorem dX8_fight_169 : decode cX8_fight 169 = .ok (.ifCond .ne 19, 3) := by decide +kernel
theorem dX8_fight_172 : decode cX8_fight 172 = .ok (.aload_n 0, 1) := by decide +kernel
theorem dX8_fight_173 : decode cX8_fight 173 = .ok (.getfield 24, 3) := by decide +kernel
theorem dX8_fight_176 : decode cX8_fight 176 = .ok (.iload 5, 2) := by decide +kernel
theorem dX8_fight_178 : decode cX8_fight 178 = .ok (.iload 6, 2) := by decide +kernel
theorem dX8_fight_180 : decode cX8_fight 180 = .ok (.iconst 1, 1) := by decide +kernel
theorem dX8_fight_181 : decode cX8_fight 181 = .ok (.iand, 1) := by decide +kernel
theorem dX8_fight_182 : decode cX8_fight 182 = .ok (.invokevirtual 202, 3) := by decide +kernel
theorem dX8_fight_185 : decode cX8_fight 185 = .ok (.goto 13, 3) := by decide +kernel
theorem dX8_fight_188 : decode cX8_fight 188 = .ok (.iload 6, 2) := by decide +kernel
theorem dX8_fight_190 : decode cX8_fight 190 = .ok (.aload_n 0, 1) := by decide +kernel
theorem dX8_fight_191 : decode cX8_fight 191 = .ok (.getfield 47, 3) := by decide +kernel
theorem dX8_fight_194 : decode cX8_fight 194 = .ok (.getfield 187, 3) := by decide +kernel
theorem dX8_fight_197 : decode cX8_fight 197 = .ok (.isub, 1) := by decide +kernel
theorem dX8_fight_198 : decode cX8_fight 198 = .ok (.ireturn, 1) := by decide +kernel
theorem dX8_tree_0 : decode cX8_tree 0 = .ok (.iload_n 1, 1) := by decide +kernel
theorem dX8_tree_1 : decode cX8_tree 1 = .ok (.ifCond .lt 8, 3) := by decide +kernel
theorem dX8_tree_4 : decode cX8_tree 4 = .ok (.iload_n 1, 1) := by decide +kernel
theorem dX8_tree_5 : decode cX8_tree 5 = .ok (.iconst 2, 1) := by decide +kernel
theorem dX8_tree_6 : decode cX8_tree 6 = .ok (.if_icmp .le 9, 3) := by decide +kernel
theorem dX8_tree_9 : decode cX8_tree 9 = .ok (.aload_n 0, 1) := by decide +kernel
theorem dX8_tree_10 : decode cX8_tree 10 = .ok (.iconst 1, 1) := by decide +kernel
theorem dX8_tree_11 : decode cX8_tree 11 = .ok (.invokevirtual 69, 3) := by decide +kernel
theorem dX8_tree_14 : decode cX8_tree 14 = .ok (.ireturn, 1) := by decide +kernel
theorem dX8_tree_15 : decode cX8_tree 15 = .ok (.aload_n 0, 1) := by decide +kernel
theorem dX8_tree_16 : decode cX8_tree 16 = .ok (.getfield 47, 3) := by decide +kernel
theorem dX8_tree_19 : decode cX8_tree 19 = .ok (.getfield 81, 3) := by decide +kernel
theorem dX8_tree_22 : decode cX8_tree 22 = .ok (.ifCond .ne 9, 3) := by decide +kernel
theorem dX8_tree_25 : decode cX8_tree 25 = .ok (.aload_n 0, 1) := by decide +kernel
theorem dX8_tree_26 : decode cX8_tree 26 = .ok (.iconst 3, 1) := by decide +kernel
theorem dX8_tree_27 : decode cX8_tree 27 = .ok (.invokevirtual 69, 3) := by decide +kernel
theorem dX8_tree_30 : decode cX8_tree 30 = .ok (.ireturn, 1) := by decide +kernel
theorem dX8_tree_31 : decode cX8_tree 31 = .ok (.aload_n 0, 1) := by decide +kernel
theorem dX8_tree_32 : decode cX8_tree 32 = .ok (.getfield 40, 3) := by decide +kernel
theorem dX8_tree_35 : decode cX8_tree 35 = .ok (.aload_n 0, 1) := by decide +kernel
theorem dX8_tree_36 : decode cX8_tree 36 = .ok (.getfield 47, 3) := by decide +kernel
theorem dX8_tree_39 : decode cX8_tree 39 = .ok (.invokevirtual 168, 3) := by decide +kernel
theorem dX8_tree_42 : decode cX8_tree 42 = .ok (.invokevirtual 233, 3) := by decide +kernel
theorem dX8_tree_45 : decode cX8_tree 45 = .ok (.ifCond .ne 9, 3) := by decide +kernel
theorem dX8_tree_48 : decode cX8_tree 48 = .ok (.aload_n 0, 1) := by decide +kernel
theorem dX8_tree_49 : decode cX8_tree 49 = .ok (.iconst 4, 1) := by decide +kernel
theorem dX8_tree_50 : decode cX8_tree 50 = .ok (.invokevirtual 69, 3) := by decide +kernel
theorem dX8_tree_53 : decode cX8_tree 53 = .ok (.ireturn, 1) := by decide +kernel
theorem dX8_tree_54 : decode cX8_tree 54 = .ok (.iload_n 1, 1) := by decide +kernel
theorem dX8_tree_55 : decode cX8_tree 55 = .ok (.ifCond .ne 11, 3) := by decide +kernel
theorem dX8_tree_58 : decode cX8_tree 58 = .ok (.aload_n 0, 1) := by decide +kernel
theorem dX8_tree_59 : decode cX8_tree 59 = .ok (.getfield 40, 3) := by decide +kernel
theorem dX8_tree_62 : decode cX8_tree 62 = .ok (.getfield 236, 3) := by decide +kernel
theorem dX8_tree_65 : decode cX8_tree 65 = .ok (.ireturn, 1) := by decide +kernel
theorem dX8_tree_66 : decode cX8_tree 66 = .ok (.iload_n 1, 1) := by decide +kernel
theorem dX8_tree_67 : decode cX8_tree 67 = .ok (.iconst 1, 1) := by decide +kernel
theorem dX8_tree_68 : decode cX8_tree 68 = .ok (.if_icmp .ne 13, 3) := by decide +kernel
theorem dX8_tree_71 : decode cX8_tree 71 = .ok (.aload_n 0, 1) := by decide +kernel
theorem dX8_tree_72 : decode cX8_tree 72 = .ok (.getfield 40, 3) := by decide +kernel
theorem dX8_tree_75 : decode cX8_tree 75 = .ok (.getfield 239, 3) := by decide +kernel
theorem dX8_tree_78 : decode cX8_tree 78 = .ok (.goto 10, 3) := by decide +kernel
theorem dX8_tree_81 : decode cX8_tree 81 = .ok (.aload_n 0, 1) := by decide +kernel
theorem dX8_tree_82 : decode cX8_tree 82 = .ok (.getfield 40, 3) := by decide +kernel
theorem dX8_tree_85 : decode cX8_tree 85 = .ok (.getfield 242, 3) := by decide +kernel
theorem dX8_tree_88 : decode cX8_tree 88 = .ok (.ireturn, 1) := by decide +kernel
theorem dX8_node_0 : decode cX8_node 0 = .ok (.aload_n 0, 1) := by decide +kernel
theorem dX8_node_1 : decode cX8_node 1 = .ok (.getfield 47, 3) := by decide +kernel
theorem dX8_node_4 : decode cX8_node 4 = .ok (.getfield 81, 3) := by decide +kernel
theorem dX8_node_7 : decode cX8_node 7 = .ok (.ifCond .ne 9, 3) := by decide +kernel
theorem dX8_node_10 : decode cX8_node 10 = .ok (.aload_n 0, 1) := by decide +kernel
theorem dX8_node_11 : decode cX8_node 11 = .ok (.iconst 3, 1) := by decide +kernel
theorem dX8_node_12 : decode cX8_node 12 = .ok (.invokevirtual 69, 3) := by decide +kernel
theorem dX8_node_15 : decode cX8_node 15 = .ok (.ireturn, 1) := by decide +kernel
theorem dX8_node_16 : decode cX8_node 16 = .ok (.aload_n 0, 1) := by decide +kernel
theorem dX8_node_17 : decode cX8_node 17 = .ok (.getfield 40, 3) := by decide +kernel
theorem dX8_node_20 : decode cX8_node 20 = .ok (.aload_n 0, 1) := by decide +kernel
theorem dX8_node_21 : decode cX8_node 21 = .ok (.getfield 47, 3) := by decide +kernel
theorem dX8_node_24 : decode cX8_node 24 = .ok (.invokevirtual 168, 3) := by decide +kernel
theorem dX8_node_27 : decode cX8_node 27 = .ok (.invokevirtual 233, 3) := by decide +kernel
theorem dX8_node_30 : decode cX8_node 30 = .ok (.ifCond .ne 9, 3) := by decide +kernel
theorem dX8_node_33 : decode cX8_node 33 = .ok (.aload_n 0, 1) := by decide +kernel
theorem dX8_node_34 : decode cX8_node 34 = .ok (.iconst 4, 1) := by decide +kernel
theorem dX8_node_35 : decode cX8_node 35 = .ok (.invokevirtual 69, 3) := by decide +kernel
theorem dX8_node_38 : decode cX8_node 38 = .ok (.ireturn, 1) := by decide +kernel
theorem dX8_node_39 : decode cX8_node 39 = .ok (.iload_n 1, 1) := by decide +kernel
theorem dX8_node_40 : decode cX8_node 40 = .ok (.iconst 1, 1) := by decide +kernel
theorem dX8_node_41 : decode cX8_node 41 = .ok (.if_icmp .lt 14, 3) := by decide +kernel
theorem dX8_node_44 : decode cX8_node 44 = .ok (.iload_n 1, 1) := by decide +kernel
theorem dX8_node_45 : decode cX8_node 45 = .ok (.aload_n 0, 1) := by decide +kernel
theorem dX8_node_46 : decode cX8_node 46 = .ok (.getfield 40, 3) := by decide +kernel
theorem dX8_node_49 : decode cX8_node 49 = .ok (.getfield 236, 3) := by decide +kernel
theorem dX8_node_52 : decode cX8_node 52 = .ok (.if_icmp .lt 9, 3) := by decide +kernel
theorem dX8_node_55 : decode cX8_node 55 = .ok (.aload_n 0, 1) := by decide +kernel
theorem dX8_node_56 : decode cX8_node 56 = .ok (.iconst 2, 1) := by decide +kernel
theorem dX8_node_57 : decode cX8_node 57 = .ok (.invokevirtual 69, 3) := by decide +kernel
theorem dX8_node_60 : decode cX8_node 60 = .ok (.ireturn, 1) := by decide +kernel
theorem dX8_node_61 : decode cX8_node 61 = .ok (.aload_n 0, 1) := by decide +kernel
theorem dX8_node_62 : decode cX8_node 62 = .ok (.getfield 40, 3) := by decide +kernel
theorem dX8_node_65 : decode cX8_node 65 = .ok (.getfield 245, 3) := by decide +kernel
theorem dX8_node_68 : decode cX8_node 68 = .ok (.iload_n 1, 1) := by decide +kernel
theorem dX8_node_69 : decode cX8_node 69 = .ok (.iaload, 1) := by decide +kernel
theorem dX8_node_70 : decode cX8_node 70 = .ok (.ireturn, 1) := by decide +kernel
theorem dX8_sheet_0 : decode cX8_sheet 0 = .ok (.iload_n 1, 1) := by decide +kernel
theorem dX8_sheet_1 : decode cX8_sheet 1 = .ok (.invokestatic 246, 3) := by decide +kernel
theorem dX8_sheet_4 : decode cX8_sheet 4 = .ok (.ifCond .eq 25, 3) := by decide +kernel
theorem dX8_sheet_7 : decode cX8_sheet 7 = .ok (.iload_n 2, 1) := by decide +kernel
theorem dX8_sheet_8 : decode cX8_sheet 8 = .ok (.ifCond .eq 27, 3) := by decide +kernel
theorem dX8_sheet_11 : decode cX8_sheet 11 = .ok (.iload_n 2, 1) := by decide +kernel
theorem dX8_sheet_12 : decode cX8_sheet 12 = .ok (.bipush 8, 2) := by decide +kernel
theorem dX8_sheet_14 : decode cX8_sheet 14 = .ok (.if_icmp .eq 21, 3) := by decide +kernel
theorem dX8_sheet_17 : decode cX8_sheet 17 = .ok (.iload_n 2, 1) := by decide +kernel
theorem dX8_sheet_18 : decode cX8_sheet 18 = .ok (.bipush 16, 2) := by decide +kernel
theorem dX8_sheet_20 : decode cX8_sheet 20 = .ok (.if_icmp .eq 15, 3) := by decide +kernel
theorem dX8_sheet_23 : decode cX8_sheet 23 = .ok (.iload_n 2, 1) := by decide +kernel
theorem dX8_sheet_24 : decode cX8_sheet 24 = .ok (.bipush 32, 2) := by decide +kernel
theorem dX8_sheet_26 : decode cX8_sheet 26 = .ok (.if_icmp .eq 9, 3) := by decide +kernel
theorem dX8_sheet_29 : decode cX8_sheet 29 = .ok (.aload_n 0, 1) := by decide +kernel
theorem dX8_sheet_30 : decode cX8_sheet 30 = .ok (.iconst 1, 1) := by decide +kernel
theorem dX8_sheet_31 : decode cX8_sheet 31 = .ok (.invokevirtual 69, 3) := by decide +kernel
theorem dX8_sheet_34 : decode cX8_sheet 34 = .ok (.ireturn, 1) := by decide +kernel
theorem dX8_sheet_35 : decode cX8_sheet 35 = .ok (.iload_n 2, 1) := by decide +kernel
theorem dX8_sheet_36 : decode cX8_sheet 36 = .ok (.ifCond .eq 13, 3) := by decide +kernel
theorem dX8_sheet_39 : decode cX8_sheet 39 = .ok (.iload_n 3, 1) := by decide +kernel
theorem dX8_sheet_40 : decode cX8_sheet 40 = .ok (.ifCond .ge 9, 3) := by decide +kernel
theorem dX8_sheet_43 : decode cX8_sheet 43 = .ok (.aload_n 0, 1) := by decide +kernel
theorem dX8_sheet_44 : decode cX8_sheet 44 = .ok (.iconst 3, 1) := by decide +kernel
theorem dX8_sheet_45 : decode cX8_sheet 45 = .ok (.invokevirtual 69, 3) := by decide +kernel
theorem dX8_sheet_48 : decode cX8_sheet 48 = .ok (.ireturn, 1) := by decide +kernel
theorem dX8_sheet_49 : decode cX8_sheet 49 = .ok (.iload_n 2, 1) := by decide +kernel
theorem dX8_sheet_50 : decode cX8_sheet 50 = .ok (.ifCond .eq 15, 3) := by decide +kernel
theorem dX8_sheet_53 : decode cX8_sheet 53 = .ok (.iload_n 3, 1) := by decide +kernel
theorem dX8_sheet_54 : decode cX8_sheet 54 = .ok (.bipush 24, 2) := by decide +kernel
theorem dX8_sheet_56 : decode cX8_sheet 56 = .ok (.if_icmp .le 9, 3) := by decide +kernel
theorem dX8_sheet_59 : decode cX8_sheet 59 = .ok (.aload_n 0, 1) := by decide +kernel
theorem dX8_sheet_60 : decode cX8_sheet 60 = .ok (.iconst 1, 1) := by decide +kernel
theorem dX8_sheet_61 : decode cX8_sheet 61 = .ok (.invokevirtual 69, 3) := by decide +kernel
theorem dX8_sheet_64 : decode cX8_sheet 64 = .ok (.ireturn, 1) := by decide +kernel
theorem dX8_sheet_65 : decode cX8_sheet 65 = .ok (.aload_n 0, 1) := by decide +kernel
theorem dX8_sheet_66 : decode cX8_sheet 66 = .ok (.getfield 60, 3) := by decide +kernel
theorem dX8_sheet_69 : decode cX8_sheet 69 = .ok (.iload_n 1, 1) := by decide +kernel
theorem dX8_sheet_70 : decode cX8_sheet 70 = .ok (.aaload, 1) := by decide +kernel
theorem dX8_sheet_71 : decode cX8_sheet 71 = .ok (.iload_n 2, 1) := by decide +kernel
theorem dX8_sheet_72 : decode cX8_sheet 72 = .ok (.iload_n 2, 1) := by decide +kernel
theorem dX8_sheet_73 : decode cX8_sheet 73 = .ok (.ifCond .ne 7, 3) := by decide +kernel
theorem dX8_sheet_76 : decode cX8_sheet 76 = .ok (.iconst 0, 1) := by decide +kernel
theorem dX8_sheet_77 : decode cX8_sheet 77 = .ok (.goto 4, 3) := by decide +kernel
theorem dX8_sheet_80 : decode cX8_sheet 80 = .ok (.iload_n 3, 1) := by decide +kernel
theorem dX8_sheet_81 : decode cX8_sheet 81 = .ok (.invokevirtual 249, 3) := by decide +kernel
theorem dX8_sheet_84 : decode cX8_sheet 84 = .ok (.iconst 1, 1) := by decide +kernel
theorem dX8_sheet_85 : decode cX8_sheet 85 = .ok (.ireturn, 1) := by decide +kernel
theorem dX8_put_0 : decode cX8_put 0 = .ok (.aload_n 0, 1) := by decide +kernel
theorem dX8_put_1 : decode cX8_put 1 = .ok (.iload_n 1, 1) := by decide +kernel
theorem dX8_put_2 : decode cX8_put 2 = .ok (.iload_n 2, 1) := by decide +kernel
theorem dX8_put_3 : decode cX8_put 3 = .ok (.invokevirtual 252, 3) := by decide +kernel
theorem dX8_put_6 : decode cX8_put 6 = .ok (.istore 4, 2) := by decide +kernel
theorem dX8_put_8 : decode cX8_put 8 = .ok (.iload 4, 2) := by decide +kernel
theorem dX8_put_10 : decode cX8_put 10 = .ok (.ifCond .eq 10, 3) := by decide +kernel
theorem dX8_put_13 : decode cX8_put 13 = .ok (.aload_n 0, 1) := by decide +kernel
theorem dX8_put_14 : decode cX8_put 14 = .ok (.iload 4, 2) := by decide +kernel
theorem dX8_put_16 : decode cX8_put 16 = .ok (.invokevirtual 69, 3) := by decide +kernel
theorem dX8_put_19 : decode cX8_put 19 = .ok (.ireturn, 1) := by decide +kernel
theorem dX8_put_20 : decode cX8_put 20 = .ok (.aload_n 0, 1) := by decide +kernel
theorem dX8_put_21 : decode cX8_put 21 = .ok (.getfield 60, 3) := by decide +kernel
theorem dX8_put_24 : decode cX8_put 24 = .ok (.iload_n 1, 1) := by decide +kernel
theorem dX8_put_25 : decode cX8_put 25 = .ok (.aaload, 1) := by decide +kernel
theorem dX8_put_26 : decode cX8_put 26 = .ok (.iload_n 2, 1) := by decide +kernel
theorem dX8_put_27 : decode cX8_put 27 = .ok (.iload_n 3, 1) := by decide +kernel
theorem dX8_put_28 : decode cX8_put 28 = .ok (.invokevirtual 255, 3) := by decide +kernel
theorem dX8_put_31 : decode cX8_put 31 = .ok (.iconst 1, 1) := by decide +kernel
theorem dX8_put_32 : decode cX8_put 32 = .ok (.ireturn, 1) := by decide +kernel
theorem dX8_number_0 : decode cX8_number 0 = .ok (.aload_n 0, 1) := by decide +kernel
theorem dX8_number_1 : decode cX8_number 1 = .ok (.iload_n 1, 1) := by decide +kernel
theorem dX8_number_2 : decode cX8_number 2 = .ok (.iload_n 2, 1) := by decide +kernel
theorem dX8_number_3 : decode cX8_number 3 = .ok (.invokevirtual 252, 3) := by decide +kernel
theorem dX8_number_6 : decode cX8_number 6 = .ok (.istore_n 3, 1) := by decide +kernel
theorem dX8_number_7 : decode cX8_number 7 = .ok (.iload_n 3, 1) := by decide +kernel
theorem dX8_number_8 : decode cX8_number 8 = .ok (.ifCond .eq 11, 3) := by decide +kernel
theorem dX8_number_11 : decode cX8_number 11 = .ok (.aload_n 0, 1) := by decide +kernel
theorem dX8_number_12 : decode cX8_number 12 = .ok (.iload_n 3, 1) := by decide +kernel
theorem dX8_number_13 : decode cX8_number 13 = .ok (.invokevirtual 69, 3) := by decide +kernel
theorem dX8_number_16 : decode cX8_number 16 = .ok (.goto 14, 3) := by decide +kernel
theorem dX8_number_19 : decode cX8_number 19 = .ok (.aload_n 0, 1) := by decide +kernel
theorem dX8_number_20 : decode cX8_number 20 = .ok (.getfield 60, 3) := by decide +kernel
theorem dX8_number_23 : decode cX8_number 23 = .ok (.iload_n 1, 1) := by decide +kernel
theorem dX8_number_24 : decode cX8_number 24 = .ok (.aaload, 1) := by decide +kernel
theorem dX8_number_25 : decode cX8_number 25 = .ok (.getfield 258, 3) := by decide +kernel
theorem dX8_number_28 : decode cX8_number 28 = .ok (.iload_n 2, 1) := by decide +kernel
theorem dX8_number_29 : decode cX8_number 29 = .ok (.iaload, 1) := by decide +kernel
theorem dX8_number_30 : decode cX8_number 30 = .ok (.ireturn, 1) := by decide +kernel
theorem dX8_copy_0 : decode cX8_copy 0 = .ok (.iload_n 1, 1) := by decide +kernel
theorem dX8_copy_1 : decode cX8_copy 1 = .ok (.invokestatic 246, 3) := by decide +kernel
theorem dX8_copy_4 : decode cX8_copy 4 = .ok (.ifCond .eq 10, 3) := by decide +kernel
theorem dX8_copy_7 : decode cX8_copy 7 = .ok (.iload_n 3, 1) := by decide +kernel
theorem dX8_copy_8 : decode cX8_copy 8 = .ok (.invokestatic 246, 3) := by decide +kernel
theorem dX8_copy_11 : decode cX8_copy 11 = .ok (.ifCond .ne 9, 3) := by decide +kernel
theorem dX8_copy_14 : decode cX8_copy 14 = .ok (.aload_n 0, 1) := by decide +kernel
theorem dX8_copy_15 : decode cX8_copy 15 = .ok (.iconst 1, 1) := by decide +kernel
theorem dX8_copy_16 : decode cX8_copy 16 = .ok (.invokevirtual 69, 3) := by decide +kernel
theorem dX8_copy_19 : decode cX8_copy 19 = .ok (.ireturn, 1) := by decide +kernel
theorem dX8_copy_20 : decode cX8_copy 20 = .ok (.aload_n 0, 1) := by decide +kernel
theorem dX8_copy_21 : decode cX8_copy 21 = .ok (.getfield 60, 3) := by decide +kernel
theorem dX8_copy_24 : decode cX8_copy 24 = .ok (.iload_n 1, 1) := by decide +kernel
theorem dX8_copy_25 : decode cX8_copy 25 = .ok (.aaload, 1) := by decide +kernel
theorem dX8_copy_26 : decode cX8_copy 26 = .ok (.astore 6, 2) := by decide +kernel
theorem dX8_copy_28 : decode cX8_copy 28 = .ok (.aload_n 0, 1) := by decide +kernel
theorem dX8_copy_29 : decode cX8_copy 29 = .ok (.getfield 60, 3) := by decide +kernel
theorem dX8_copy_32 : decode cX8_copy 32 = .ok (.iload_n 3, 1) := by decide +kernel
theorem dX8_copy_33 : decode cX8_copy 33 = .ok (.aaload, 1) := by decide +kernel
theorem dX8_copy_34 : decode cX8_copy 34 = .ok (.astore 7, 2) := by decide +kernel
theorem dX8_copy_36 : decode cX8_copy 36 = .ok (.aload 6, 2) := by decide +kernel
theorem dX8_copy_38 : decode cX8_copy 38 = .ok (.invokevirtual 261, 3) := by decide +kernel
theorem dX8_copy_41 : decode cX8_copy 41 = .ok (.ifCond .ne 11, 3) := by decide +kernel
theorem dX8_copy_44 : decode cX8_copy 44 = .ok (.aload 7, 2) := by decide +kernel
theorem dX8_copy_46 : decode cX8_copy 46 = .ok (.invokevirtual 261, 3) := by decide +kernel
theorem dX8_copy_49 : decode cX8_copy 49 = .ok (.ifCond .eq 10, 3) := by decide +kernel
theorem dX8_copy_52 : decode cX8_copy 52 = .ok (.aload_n 0, 1) := by decide +kernel
theorem dX8_copy_53 : decode cX8_copy 53 = .ok (.bipush 6, 2) := by decide +kernel
theorem dX8_copy_55 : decode cX8_copy 55 = .ok (.invokevirtual 69, 3) := by decide +kernel
theorem dX8_copy_58 : decode cX8_copy 58 = .ok (.ireturn, 1) := by decide +kernel
theorem dX8_copy_59 : decode cX8_copy 59 = .ok (.aload 6, 2) := by decide +kernel
theorem dX8_copy_61 : decode cX8_copy 61 = .ok (.getfield 264, 3) := by decide +kernel
theorem dX8_copy_64 : decode cX8_copy 64 = .ok (.aload 7, 2) := by decide +kernel
theorem dX8_copy_66 : decode cX8_copy 66 = .ok (.getfield 264, 3) := by decide +kernel
theorem dX8_copy_69 : decode cX8_copy 69 = .ok (.if_icmp .eq 9, 3) := by decide +kernel
theorem dX8_copy_72 : decode cX8_copy 72 = .ok (.aload_n 0, 1) := by decide +kernel
theorem dX8_copy_73 : decode cX8_copy 73 = .ok (.iconst 5, 1) := by decide +kernel
theorem dX8_copy_74 : decode cX8_copy 74 = .ok (.invokevirtual 69, 3) := by decide +kernel
theorem dX8_copy_77 : decode cX8_copy 77 = .ok (.ireturn, 1) := by decide +kernel
theorem dX8_copy_78 : decode cX8_copy 78 = .ok (.aload 6, 2) := by decide +kernel
theorem dX8_copy_80 : decode cX8_copy 80 = .ok (.iload_n 2, 1) := by decide +kernel
theorem dX8_copy_81 : decode cX8_copy 81 = .ok (.iload 5, 2) := by decide +kernel
theorem dX8_copy_83 : decode cX8_copy 83 = .ok (.invokevirtual 267, 3) := by decide +kernel
theorem dX8_copy_86 : decode cX8_copy 86 = .ok (.ifCond .eq 15, 3) := by decide +kernel
theorem dX8_copy_89 : decode cX8_copy 89 = .ok (.aload 7, 2) := by decide +kernel
theorem dX8_copy_91 : decode cX8_copy 91 = .ok (.iload 4, 2) := by decide +kernel
theorem dX8_copy_93 : decode cX8_copy 93 = .ok (.iload 5, 2) := by decide +kernel
theorem dX8_copy_95 : decode cX8_copy 95 = .ok (.invokevirtual 267, 3) := by decide +kernel
theorem dX8_copy_98 : decode cX8_copy 98 = .ok (.ifCond .ne 9, 3) := by decide +kernel
theorem dX8_copy_101 : decode cX8_copy 101 = .ok (.aload_n 0, 1) := by decide +kernel
theorem dX8_copy_102 : decode cX8_copy 102 = .ok (.iconst 1, 1) := by decide +kernel
theorem dX8_copy_103 : decode cX8_copy 103 = .ok (.invokevirtual 69, 3) := by decide +kernel
theorem dX8_copy_106 : decode cX8_copy 106 = .ok (.ireturn, 1) := by decide +kernel
theorem dX8_copy_107 : decode cX8_copy 107 = .ok (.aload 6, 2) := by decide +kernel
theorem dX8_copy_109 : decode cX8_copy 109 = .ok (.getfield 258, 3) := by decide +kernel
theorem dX8_copy_112 : decode cX8_copy 112 = .ok (.iload_n 2, 1) := by decide +kernel
theorem dX8_copy_113 : decode cX8_copy 113 = .ok (.aload 7, 2) := by decide +kernel
theorem dX8_copy_115 : decode cX8_copy 115 = .ok (.getfield 258, 3) := by decide +kernel
theorem dX8_copy_118 : decode cX8_copy 118 = .ok (.iload 4, 2) := by decide +kernel
theorem dX8_copy_120 : decode cX8_copy 120 = .ok (.iload 5, 2) := by decide +kernel
theorem dX8_copy_122 : decode cX8_copy 122 = .ok (.invokestatic 271, 3) := by decide +kernel
theorem dX8_copy_125 : decode cX8_copy 125 = .ok (.iload 5, 2) := by decide +kernel
theorem dX8_copy_127 : decode cX8_copy 127 = .ok (.ireturn, 1) := by decide +kernel
theorem dX8_degrees_0 : decode cX8_degrees 0 = .ok (.iload_n 1, 1) := by decide +kernel
theorem dX8_degrees_1 : decode cX8_degrees 1 = .ok (.invokestatic 246, 3) := by decide +kernel
theorem dX8_degrees_4 : decode cX8_degrees 4 = .ok (.ifCond .eq 12, 3) := by decide +kernel
theorem dX8_degrees_7 : decode cX8_degrees 7 = .ok (.iload_n 2, 1) := by decide +kernel
theorem dX8_degrees_8 : decode cX8_degrees 8 = .ok (.ifCond .lt 8, 3) := by decide +kernel
theorem dX8_degrees_11 : decode cX8_degrees 11 = .ok (.iload_n 2, 1) := by decide +kernel
theorem dX8_degrees_12 : decode cX8_degrees 12 = .ok (.iconst 2, 1) := by decide +kernel
theorem dX8_degrees_13 : decode cX8_degrees 13 = .ok (.if_icmp .le 9, 3) := by decide +kernel
theorem dX8_degrees_16 : decode cX8_degrees 16 = .ok (.aload_n 0, 1) := by decide +kernel
theorem dX8_degrees_17 : decode cX8_degrees 17 = .ok (.iconst 1, 1) := by decide +kernel
theorem dX8_degrees_18 : decode cX8_degrees 18 = .ok (.invokevirtual 69, 3) := by decide +kernel
theorem dX8_degrees_21 : decode cX8_degrees 21 = .ok (.ireturn, 1) := by decide +kernel
theorem dX8_degrees_22 : decode cX8_degrees 22 = .ok (.aload_n 0, 1) := by decide +kernel
theorem dX8_degrees_23 : decode cX8_degrees 23 = .ok (.getfield 60, 3) := by decide +kernel
theorem dX8_degrees_26 : decode cX8_degrees 26 = .ok (.iload_n 1, 1) := by decide +kernel
theorem dX8_degrees_27 : decode cX8_degrees 27 = .ok (.aaload, 1) := by decide +kernel
theorem dX8_degrees_28 : decode cX8_degrees 28 = .ok (.invokevirtual 261, 3) := by decide +kernel
theorem dX8_degrees_31 : decode cX8_degrees 31 = .ok (.ifCond .eq 10, 3) := by decide +kernel
theorem dX8_degrees_34 : decode cX8_degrees 34 = .ok (.aload_n 0, 1) := by decide +kernel
theorem dX8_degrees_35 : decode cX8_degrees 35 = .ok (.bipush 6, 2) := by decide +kernel
theorem dX8_degrees_37 : decode cX8_degrees 37 = .ok (.invokevirtual 69, 3) := by decide +kernel
theorem dX8_degrees_40 : decode cX8_degrees 40 = .ok (.ireturn, 1) := by decide +kernel
theorem dX8_degrees_41 : decode cX8_degrees 41 = .ok (.aload_n 0, 1) := by decide +kernel
theorem dX8_degrees_42 : decode cX8_degrees 42 = .ok (.getfield 60, 3) := by decide +kernel
theorem dX8_degrees_45 : decode cX8_degrees 45 = .ok (.iload_n 1, 1) := by decide +kernel
theorem dX8_degrees_46 : decode cX8_degrees 46 = .ok (.aaload, 1) := by decide +kernel
theorem dX8_degrees_47 : decode cX8_degrees 47 = .ok (.getfield 277, 3) := by decide +kernel
theorem dX8_degrees_50 : decode cX8_degrees 50 = .ok (.aload_n 0, 1) := by decide +kernel
theorem dX8_degrees_51 : decode cX8_degrees 51 = .ok (.getfield 10, 3) := by decide +kernel
theorem dX8_degrees_54 : decode cX8_degrees 54 = .ok (.getfield 73, 3) := by decide +kernel
theorem dX8_degrees_57 : decode cX8_degrees 57 = .ok (.invokestatic 278, 3) := by decide +kernel
theorem dX8_degrees_60 : decode cX8_degrees 60 = .ok (.istore_n 3, 1) := by decide +kernel
theorem dX8_degrees_61 : decode cX8_degrees 61 = .ok (.iconst 0, 1) := by decide +kernel
theorem dX8_degrees_62 : decode cX8_degrees 62 = .ok (.istore 4, 2) := by decide +kernel
theorem dX8_degrees_64 : decode cX8_degrees 64 = .ok (.iload 4, 2) := by decide +kernel
theorem dX8_degrees_66 : decode cX8_degrees 66 = .ok (.iload_n 3, 1) := by decide +kernel
theorem dX8_degrees_67 : decode cX8_degrees 67 = .ok (.if_icmp .ge 30, 3) := by decide +kernel
theorem dX8_degrees_70 : decode cX8_degrees 70 = .ok (.aload_n 0, 1) := by decide +kernel
theorem dX8_degrees_71 : decode cX8_degrees 71 = .ok (.getfield 60, 3) := by decide +kernel
theorem dX8_degrees_74 : decode cX8_degrees 74 = .ok (.iload_n 1, 1) := by decide +kernel
theorem dX8_degrees_75 : decode cX8_degrees 75 = .ok (.aaload, 1) := by decide +kernel
theorem dX8_degrees_76 : decode cX8_degrees 76 = .ok (.iload 4, 2) := by decide +kernel
theorem dX8_degrees_78 : decode cX8_degrees 78 = .ok (.aload_n 0, 1) := by decide +kernel
theorem dX8_degrees_79 : decode cX8_degrees 79 = .ok (.getfield 10, 3) := by decide +kernel
theorem dX8_degrees_82 : decode cX8_degrees 82 = .ok (.iload 4, 2) := by decide +kernel
theorem dX8_degrees_84 : decode cX8_degrees 84 = .ok (.iload_n 2, 1) := by decide +kernel
theorem dX8_degrees_85 : decode cX8_degrees 85 = .ok (.invokevirtual 118, 3) := by decide +kernel
theorem dX8_degrees_88 : decode cX8_degrees 88 = .ok (.invokevirtual 255, 3) := by decide +kernel
theorem dX8_degrees_91 : decode cX8_degrees 91 = .ok (.iinc 4 1, 3) := by decide +kernel
theorem dX8_degrees_94 : decode cX8_degrees 94 = .ok (.goto (-30), 3) := by decide +kernel
theorem dX8_degrees_97 : decode cX8_degrees 97 = .ok (.iload_n 3, 1) := by decide +kernel
theorem dX8_degrees_98 : decode cX8_degrees 98 = .ok (.ireturn, 1) := by decide +kernel
theorem dX8_walks_0 : decode cX8_walks 0 = .ok (.iload_n 1, 1) := by decide +kernel
theorem dX8_walks_1 : decode cX8_walks 1 = .ok (.invokestatic 246, 3) := by decide +kernel
theorem dX8_walks_4 : decode cX8_walks 4 = .ok (.ifCond .eq 12, 3) := by decide +kernel
theorem dX8_walks_7 : decode cX8_walks 7 = .ok (.iload_n 2, 1) := by decide +kernel
theorem dX8_walks_8 : decode cX8_walks 8 = .ok (.ifCond .lt 8, 3) := by decide +kernel
theorem dX8_walks_11 : decode cX8_walks 11 = .ok (.iload_n 2, 1) := by decide +kernel
theorem dX8_walks_12 : decode cX8_walks 12 = .ok (.iconst 1, 1) := by decide +kernel
theorem dX8_walks_13 : decode cX8_walks 13 = .ok (.if_icmp .le 9, 3) := by decide +kernel
theorem dX8_walks_16 : decode cX8_walks 16 = .ok (.aload_n 0, 1) := by decide +kernel
theorem dX8_walks_17 : decode cX8_walks 17 = .ok (.iconst 1, 1) := by decide +kernel
theorem dX8_walks_18 : decode cX8_walks 18 = .ok (.invokevirtual 69, 3) := by decide +kernel
theorem dX8_walks_21 : decode cX8_walks 21 = .ok (.ireturn, 1) := by decide +kernel
theorem dX8_walks_22 : decode cX8_walks 22 = .ok (.aload_n 0, 1) := by decide +kernel
theorem dX8_walks_23 : decode cX8_walks 23 = .ok (.getfield 60, 3) := by decide +kernel
theorem dX8_walks_26 : decode cX8_walks 26 = .ok (.iload_n 1, 1) := by decide +kernel
theorem dX8_walks_27 : decode cX8_walks 27 = .ok (.aaload, 1) := by decide +kernel
theorem dX8_walks_28 : decode cX8_walks 28 = .ok (.invokevirtual 261, 3) := by decide +kernel
theorem dX8_walks_31 : decode cX8_walks 31 = .ok (.ifCond .eq 10, 3) := by decide +kernel
theorem dX8_walks_34 : decode cX8_walks 34 = .ok (.aload_n 0, 1) := by decide +kernel
theorem dX8_walks_35 : decode cX8_walks 35 = .ok (.bipush 6, 2) := by decide +kernel
theorem dX8_walks_37 : decode cX8_walks 37 = .ok (.invokevirtual 69, 3) := by decide +kernel
theorem dX8_walks_40 : decode cX8_walks 40 = .ok (.ireturn, 1) := by decide +kernel
theorem dX8_walks_41 : decode cX8_walks 41 = .ok (.aload_n 0, 1) := by decide +kernel
theorem dX8_walks_42 : decode cX8_walks 42 = .ok (.getfield 47, 3) := by decide +kernel
theorem dX8_walks_45 : decode cX8_walks 45 = .ok (.getfield 81, 3) := by decide +kernel
theorem dX8_walks_48 : decode cX8_walks 48 = .ok (.ifCond .ne 9, 3) := by decide +kernel
theorem dX8_walks_51 : decode cX8_walks 51 = .ok (.aload_n 0, 1) := by decide +kernel
theorem dX8_walks_52 : decode cX8_walks 52 = .ok (.iconst 3, 1) := by decide +kernel
theorem dX8_walks_53 : decode cX8_walks 53 = .ok (.invokevirtual 69, 3) := by decide +kernel
theorem dX8_walks_56 : decode cX8_walks 56 = .ok (.ireturn, 1) := by decide +kernel
theorem dX8_walks_57 : decode cX8_walks 57 = .ok (.aload_n 0, 1) := by decide +kernel
theorem dX8_walks_58 : decode cX8_walks 58 = .ok (.getfield 47, 3) := by decide +kernel
theorem dX8_walks_61 : decode cX8_walks 61 = .ok (.invokevirtual 168, 3) := by decide +kernel
theorem dX8_walks_64 : decode cX8_walks 64 = .ok (.istore_n 3, 1) := by decide +kernel
theorem dX8_walks_65 : decode cX8_walks 65 = .ok (.iconst 0, 1) := by decide +kernel
theorem dX8_walks_66 : decode cX8_walks 66 = .ok (.istore 4, 2) := by decide +kernel
theorem dX8_walks_68 : decode cX8_walks 68 = .ok (.iconst 0, 1) := by decide +kernel
theorem dX8_walks_69 : decode cX8_walks 69 = .ok (.istore 5, 2) := by decide +kernel
theorem dX8_walks_71 : decode cX8_walks 71 = .ok (.iload 5, 2) := by decide +kernel
theorem dX8_walks_73 : decode cX8_walks 73 = .ok (.aload_n 0, 1) := by decide +kernel
theorem dX8_walks_74 : decode cX8_walks 74 = .ok (.getfield 60, 3) := by decide +kernel
theorem dX8_walks_77 : decode cX8_walks 77 = .ok (.iload_n 1, 1) := by decide +kernel
theorem dX8_walks_78 : decode cX8_walks 78 = .ok (.aaload, 1) := by decide +kernel
theorem dX8_walks_79 : decode cX8_walks 79 = .ok (.getfield 277, 3) := by decide +kernel
theorem dX8_walks_82 : decode cX8_walks 82 = .ok (.if_icmp .ge 68, 3) := by decide +kernel
theorem dX8_walks_85 : decode cX8_walks 85 = .ok (.aload_n 0, 1) := by decide +kernel
theorem dX8_walks_86 : decode cX8_walks 86 = .ok (.getfield 60, 3) := by decide +kernel
theorem dX8_walks_89 : decode cX8_walks 89 = .ok (.iload_n 1, 1) := by decide +kernel
theorem dX8_walks_90 : decode cX8_walks 90 = .ok (.aaload, 1) := by decide +kernel
theorem dX8_walks_91 : decode cX8_walks 91 = .ok (.getfield 258, 3) := by decide +kernel
theorem dX8_walks_94 : decode cX8_walks 94 = .ok (.iload 5, 2) := by decide +kernel
theorem dX8_walks_96 : decode cX8_walks 96 = .ok (.iaload, 1) := by decide +kernel
theorem dX8_walks_97 : decode cX8_walks 97 = .ok (.istore 6, 2) := by decide +kernel
theorem dX8_walks_99 : decode cX8_walks 99 = .ok (.aload_n 0, 1) := by decide +kernel
theorem dX8_walks_100 : decode cX8_walks 100 = .ok (.getfield 10, 3) := by decide +kernel
theorem dX8_walks_103 : decode cX8_walks 103 = .ok (.iload 6, 2) := by decide +kernel
theorem dX8_walks_105 : decode cX8_walks 105 = .ok (.invokevirtual 99, 3) := by decide +kernel
theorem dX8_walks_108 : decode cX8_walks 108 = .ok (.ifCond .eq 42, 3) := by decide +kernel
theorem dX8_walks_111 : decode cX8_walks 111 = .ok (.aload_n 0, 1) := by decide +kernel
theorem dX8_walks_112 : decode cX8_walks 112 = .ok (.getfield 24, 3) := by decide +kernel
theorem dX8_walks_115 : decode cX8_walks 115 = .ok (.iload_n 3, 1) := by decide +kernel
theorem dX8_walks_116 : decode cX8_walks 116 = .ok (.invokevirtual 178, 3) := by decide +kernel
theorem dX8_walks_119 : decode cX8_walks 119 = .ok (.iload 6, 2) := by decide +kernel
theorem dX8_walks_121 : decode cX8_walks 121 = .ok (.ishr, 1) := by decide +kernel
theorem dX8_walks_122 : decode cX8_walks 122 = .ok (.iconst 1, 1) := by decide +kernel
theorem dX8_walks_123 : decode cX8_walks 123 = .ok (.iand, 1) := by decide +kernel
theorem dX8_walks_124 : decode cX8_walks 124 = .ok (.ifCond .ne 6, 3) := by decide +kernel
theorem dX8_walks_127 : decode cX8_walks 127 = .ok (.goto 23, 3) := by decide +kernel
theorem dX8_walks_130 : decode cX8_walks 130 = .ok (.aload_n 0, 1) := by decide +kernel
theorem dX8_walks_131 : decode cX8_walks 131 = .ok (.getfield 24, 3) := by decide +kernel
theorem dX8_walks_134 : decode cX8_walks 134 = .ok (.iload_n 3, 1) := by decide +kernel
theorem dX8_walks_135 : decode cX8_walks 135 = .ok (.iload 6, 2) := by decide +kernel
theorem dX8_walks_137 : decode cX8_walks 137 = .ok (.invokevirtual 181, 3) := by decide +kernel
theorem dX8_walks_140 : decode cX8_walks 140 = .ok (.istore_n 3, 1) := by decide +kernel
theorem dX8_walks_141 : decode cX8_walks 141 = .ok (.iinc 4 1, 3) := by decide +kernel
theorem dX8_walks_144 : decode cX8_walks 144 = .ok (.iinc 5 1, 3) := by decide +kernel
theorem dX8_walks_147 : decode cX8_walks 147 = .ok (.goto (-76), 3) := by decide +kernel
theorem dX8_walks_150 : decode cX8_walks 150 = .ok (.iload_n 2, 1) := by decide +kernel
theorem dX8_walks_151 : decode cX8_walks 151 = .ok (.ifCond .ne 6, 3) := by decide +kernel
theorem dX8_walks_154 : decode cX8_walks 154 = .ok (.iload 4, 2) := by decide +kernel
theorem dX8_walks_156 : decode cX8_walks 156 = .ok (.ireturn, 1) := by decide +kernel
theorem dX8_walks_157 : decode cX8_walks 157 = .ok (.aload_n 0, 1) := by decide +kernel
theorem dX8_walks_158 : decode cX8_walks 158 = .ok (.getfield 24, 3) := by decide +kernel
theorem dX8_walks_161 : decode cX8_walks 161 = .ok (.iload_n 3, 1) := by decide +kernel
theorem dX8_walks_162 : decode cX8_walks 162 = .ok (.invokevirtual 171, 3) := by decide +kernel
theorem dX8_walks_165 : decode cX8_walks 165 = .ok (.ifCond .eq 7, 3) := by decide +kernel
theorem dX8_walks_168 : decode cX8_walks 168 = .ok (.iconst 1, 1) := by decide +kernel
theorem dX8_walks_169 : decode cX8_walks 169 = .ok (.goto 4, 3) := by decide +kernel
theorem dX8_walks_172 : decode cX8_walks 172 = .ok (.iconst 0, 1) := by decide +kernel
theorem dX8_walks_173 : decode cX8_walks 173 = .ok (.ireturn, 1) := by decide +kernel
theorem dX8_seed_0 : decode cX8_seed 0 = .ok (.aload_n 0, 1) := by decide +kernel
theorem dX8_seed_1 : decode cX8_seed 1 = .ok (.getfield 33, 3) := by decide +kernel
theorem dX8_seed_4 : decode cX8_seed 4 = .ok (.getfield 230, 3) := by decide +kernel
theorem dX8_seed_7 : decode cX8_seed 7 = .ok (.istore_n 2, 1) := by decide +kernel
theorem dX8_seed_8 : decode cX8_seed 8 = .ok (.aload_n 0, 1) := by decide +kernel
theorem dX8_seed_9 : decode cX8_seed 9 = .ok (.getfield 33, 3) := by decide +kernel
theorem dX8_seed_12 : decode cX8_seed 12 = .ok (.iload_n 1, 1) := by decide +kernel
theorem dX8_seed_13 : decode cX8_seed 13 = .ok (.putfield 230, 3) := by decide +kernel
theorem dX8_seed_16 : decode cX8_seed 16 = .ok (.iload_n 2, 1) := by decide +kernel
theorem dX8_seed_17 : decode cX8_seed 17 = .ok (.ireturn, 1) := by decide +kernel
theorem dX8_image_0 : decode cX8_image 0 = .ok (.aload_n 0, 1) := by decide +kernel
theorem dX8_image_1 : decode cX8_image 1 = .ok (.getfield 16, 3) := by decide +kernel
theorem dX8_image_4 : decode cX8_image 4 = .ok (.aload_n 0, 1) := by decide +kernel
theorem dX8_image_5 : decode cX8_image 5 = .ok (.getfield 10, 3) := by decide +kernel
theorem dX8_image_8 : decode cX8_image 8 = .ok (.invokevirtual 283, 3) := by decide +kernel
theorem dX8_image_11 : decode cX8_image 11 = .ok (.aload_n 0, 1) := by decide +kernel
theorem dX8_image_12 : decode cX8_image 12 = .ok (.aload_n 0, 1) := by decide +kernel
theorem dX8_image_13 : decode cX8_image 13 = .ok (.getfield 33, 3) := by decide +kernel
theorem dX8_image_16 : decode cX8_image 16 = .ok (.getfield 230, 3) := by decide +kernel
theorem dX8_image_19 : decode cX8_image 19 = .ok (.putfield 286, 3) := by decide +kernel
theorem dX8_image_22 : decode cX8_image 22 = .ok (.aload_n 0, 1) := by decide +kernel
theorem dX8_image_23 : decode cX8_image 23 = .ok (.iconst 1, 1) := by decide +kernel
theorem dX8_image_24 : decode cX8_image 24 = .ok (.putfield 289, 3) := by decide +kernel
theorem dX8_image_27 : decode cX8_image 27 = .ok (.aload_n 0, 1) := by decide +kernel
theorem dX8_image_28 : decode cX8_image 28 = .ok (.getfield 16, 3) := by decide +kernel
theorem dX8_image_31 : decode cX8_image 31 = .ok (.getfield 92, 3) := by decide +kernel
theorem dX8_image_34 : decode cX8_image 34 = .ok (.ireturn, 1) := by decide +kernel
theorem dX8_restore_0 : decode cX8_restore 0 = .ok (.aload_n 0, 1) := by decide +kernel
theorem dX8_restore_1 : decode cX8_restore 1 = .ok (.getfield 289, 3) := by decide +kernel
theorem dX8_restore_4 : decode cX8_restore 4 = .ok (.ifCond .ne 9, 3) := by decide +kernel
theorem dX8_restore_7 : decode cX8_restore 7 = .ok (.aload_n 0, 1) := by decide +kernel
theorem dX8_restore_8 : decode cX8_restore 8 = .ok (.iconst 2, 1) := by decide +kernel
theorem dX8_restore_9 : decode cX8_restore 9 = .ok (.invokevirtual 69, 3) := by decide +kernel
theorem dX8_restore_12 : decode cX8_restore 12 = .ok (.ireturn, 1) := by decide +kernel
theorem dX8_restore_13 : decode cX8_restore 13 = .ok (.aload_n 0, 1) := by decide +kernel
theorem dX8_restore_14 : decode cX8_restore 14 = .ok (.getfield 10, 3) := by decide +kernel
theorem dX8_restore_17 : decode cX8_restore 17 = .ok (.aload_n 0, 1) := by decide +kernel
theorem dX8_restore_18 : decode cX8_restore 18 = .ok (.getfield 16, 3) := by decide +kernel
theorem dX8_restore_21 : decode cX8_restore 21 = .ok (.invokevirtual 283, 3) := by decide +kernel
theorem dX8_restore_24 : decode cX8_restore 24 = .ok (.aload_n 0, 1) := by decide +kernel
theorem dX8_restore_25 : decode cX8_restore 25 = .ok (.getfield 33, 3) := by decide +kernel
theorem dX8_restore_28 : decode cX8_restore 28 = .ok (.aload_n 0, 1) := by decide +kernel
theorem dX8_restore_29 : decode cX8_restore 29 = .ok (.getfield 286, 3) := by decide +kernel
theorem dX8_restore_32 : decode cX8_restore 32 = .ok (.putfield 230, 3) := by decide +kernel
theorem dX8_restore_35 : decode cX8_restore 35 = .ok (.aload_n 0, 1) := by decide +kernel
theorem dX8_restore_36 : decode cX8_restore 36 = .ok (.getfield 47, 3) := by decide +kernel
theorem dX8_restore_39 : decode cX8_restore 39 = .ok (.iconst 0, 1) := by decide +kernel
theorem dX8_restore_40 : decode cX8_restore 40 = .ok (.putfield 81, 3) := by decide +kernel
theorem dX8_restore_43 : decode cX8_restore 43 = .ok (.aload_n 0, 1) := by decide +kernel
theorem dX8_restore_44 : decode cX8_restore 44 = .ok (.getfield 10, 3) := by decide +kernel
theorem dX8_restore_47 : decode cX8_restore 47 = .ok (.getfield 92, 3) := by decide +kernel
theorem dX8_restore_50 : decode cX8_restore 50 = .ok (.ireturn, 1) := by decide +kernel
theorem dX8_count_0 : decode cX8_count 0 = .ok (.iload_n 1, 1) := by decide +kernel
theorem dX8_count_1 : decode cX8_count 1 = .ok (.tableswitch 92 0 5 #[39, 47, 55, 63, 79, 87], 39) := by decide +kernel
theorem dX8_count_40 : decode cX8_count 40 = .ok (.aload_n 0, 1) := by decide +kernel
theorem dX8_count_41 : decode cX8_count 41 = .ok (.getfield 10, 3) := by decide +kernel
theorem dX8_count_44 : decode cX8_count 44 = .ok (.getfield 73, 3) := by decide +kernel
theorem dX8_count_47 : decode cX8_count 47 = .ok (.ireturn, 1) := by decide +kernel
theorem dX8_count_48 : decode cX8_count 48 = .ok (.aload_n 0, 1) := by decide +kernel
theorem dX8_count_49 : decode cX8_count 49 = .ok (.getfield 10, 3) := by decide +kernel
theorem dX8_count_52 : decode cX8_count 52 = .ok (.getfield 92, 3) := by decide +kernel
theorem dX8_count_55 : decode cX8_count 55 = .ok (.ireturn, 1) := by decide +kernel
theorem dX8_count_56 : decode cX8_count 56 = .ok (.aload_n 0, 1) := by decide +kernel
theorem dX8_count_57 : decode cX8_count 57 = .ok (.getfield 54, 3) := by decide +kernel
theorem dX8_count_60 : decode cX8_count 60 = .ok (.getfield 141, 3) := by decide +kernel
theorem dX8_count_63 : decode cX8_count 63 = .ok (.ireturn, 1) := by decide +kernel
theorem dX8_count_64 : decode cX8_count 64 = .ok (.aload_n 0, 1) := by decide +kernel
theorem dX8_count_65 : decode cX8_count 65 = .ok (.getfield 47, 3) := by decide +kernel
theorem dX8_count_68 : decode cX8_count 68 = .ok (.getfield 81, 3) := by decide +kernel
theorem dX8_count_71 : decode cX8_count 71 = .ok (.ifCond .eq 7, 3) := by decide +kernel
theorem dX8_count_74 : decode cX8_count 74 = .ok (.iconst 1, 1) := by decide +kernel
theorem dX8_count_75 : decode cX8_count 75 = .ok (.goto 4, 3) := by decide +kernel
theorem dX8_count_78 : decode cX8_count 78 = .ok (.iconst 0, 1) := by decide +kernel
theorem dX8_count_79 : decode cX8_count 79 = .ok (.ireturn, 1) := by decide +kernel
theorem dX8_count_80 : decode cX8_count 80 = .ok (.aload_n 0, 1) := by decide +kernel
theorem dX8_count_81 : decode cX8_count 81 = .ok (.getfield 33, 3) := by decide +kernel
theorem dX8_count_84 : decode cX8_count 84 = .ok (.getfield 230, 3) := by decide +kernel
theorem dX8_count_87 : decode cX8_count 87 = .ok (.ireturn, 1) := by decide +kernel
theorem dX8_count_88 : decode cX8_count 88 = .ok (.aload_n 0, 1) := by decide +kernel
theorem dX8_count_89 : decode cX8_count 89 = .ok (.invokevirtual 292, 3) := by decide +kernel
theorem dX8_count_92 : decode cX8_count 92 = .ok (.ireturn, 1) := by decide +kernel
theorem dX8_count_93 : decode cX8_count 93 = .ok (.aload_n 0, 1) := by decide +kernel
theorem dX8_count_94 : decode cX8_count 94 = .ok (.iconst 1, 1) := by decide +kernel
theorem dX8_count_95 : decode cX8_count 95 = .ok (.invokevirtual 69, 3) := by decide +kernel
theorem dX8_count_98 : decode cX8_count 98 = .ok (.ireturn, 1) := by decide +kernel
theorem dX8_told_0 : decode cX8_told 0 = .ok (.iload_n 1, 1) := by decide +kernel
theorem dX8_told_1 : decode cX8_told 1 = .ok (.iconst 1, 1) := by decide +kernel
theorem dX8_told_2 : decode cX8_told 2 = .ok (.if_icmp .lt 9, 3) := by decide +kernel
theorem dX8_told_5 : decode cX8_told 5 = .ok (.iload_n 1, 1) := by decide +kernel
theorem dX8_told_6 : decode cX8_told 6 = .ok (.bipush 6, 2) := by decide +kernel
theorem dX8_told_8 : decode cX8_told 8 = .ok (.if_icmp .le 11, 3) := by decide +kernel
theorem dX8_told_11 : decode cX8_told 11 = .ok (.aload_n 0, 1) := by decide +kernel
theorem dX8_told_12 : decode cX8_told 12 = .ok (.iconst 1, 1) := by decide +kernel
theorem dX8_told_13 : decode cX8_told 13 = .ok (.invokevirtual 69, 3) := by decide +kernel
theorem dX8_told_16 : decode cX8_told 16 = .ok (.goto 9, 3) := by decide +kernel
theorem dX8_told_19 : decode cX8_told 19 = .ok (.aload_n 0, 1) := by decide +kernel
theorem dX8_told_20 : decode cX8_told 20 = .ok (.getfield 64, 3) := by decide +kernel
theorem dX8_told_23 : decode cX8_told 23 = .ok (.iload_n 1, 1) := by decide +kernel
theorem dX8_told_24 : decode cX8_told 24 = .ok (.iaload, 1) := by decide +kernel
theorem dX8_told_25 : decode cX8_told 25 = .ok (.ireturn, 1) := by decide +kernel
theorem dX8_fail_0 : decode cX8_fail 0 = .ok (.aload_n 0, 1) := by decide +kernel
theorem dX8_fail_1 : decode cX8_fail 1 = .ok (.getfield 64, 3) := by decide +kernel
theorem dX8_fail_4 : decode cX8_fail 4 = .ok (.iload_n 1, 1) := by decide +kernel
theorem dX8_fail_5 : decode cX8_fail 5 = .ok (.dup2, 1) := by decide +kernel
theorem dX8_fail_6 : decode cX8_fail 6 = .ok (.iaload, 1) := by decide +kernel
theorem dX8_fail_7 : decode cX8_fail 7 = .ok (.iconst 1, 1) := by decide +kernel
theorem dX8_fail_8 : decode cX8_fail 8 = .ok (.iadd, 1) := by decide +kernel
theorem dX8_fail_9 : decode cX8_fail 9 = .ok (.iastore, 1) := by decide +kernel
theorem dX8_fail_10 : decode cX8_fail 10 = .ok (.ldc_w 295, 3) := by decide +kernel
theorem dX8_fail_13 : decode cX8_fail 13 = .ok (.iload_n 1, 1) := by decide +kernel
theorem dX8_fail_14 : decode cX8_fail 14 = .ok (.isub, 1) := by decide +kernel
theorem dX8_fail_15 : decode cX8_fail 15 = .ok (.ireturn, 1) := by decide +kernel
theorem dX8_isOver_0 : decode cX8_isOver 0 = .ok (.aload_n 0, 1) := by decide +kernel
theorem dX8_isOver_1 : decode cX8_isOver 1 = .ok (.getfield 24, 3) := by decide +kernel
theorem dX8_isOver_4 : decode cX8_isOver 4 = .ok (.aload_n 0, 1) := by decide +kernel
theorem dX8_isOver_5 : decode cX8_isOver 5 = .ok (.getfield 47, 3) := by decide +kernel
theorem dX8_isOver_8 : decode cX8_isOver 8 = .ok (.invokevirtual 168, 3) := by decide +kernel
theorem dX8_isOver_11 : decode cX8_isOver 11 = .ok (.invokevirtual 178, 3) := by decide +kernel
theorem dX8_isOver_14 : decode cX8_isOver 14 = .ok (.ifCond .ne 7, 3) := by decide +kernel
theorem dX8_isOver_17 : decode cX8_isOver 17 = .ok (.iconst 1, 1) := by decide +kernel
theorem dX8_isOver_18 : decode cX8_isOver 18 = .ok (.goto 4, 3) := by decide +kernel
theorem dX8_isOver_21 : decode cX8_isOver 21 = .ok (.iconst 0, 1) := by decide +kernel
theorem dX8_isOver_22 : decode cX8_isOver 22 = .ok (.ireturn, 1) := by decide +kernel
theorem dX8_errorOfNumber_0 : decode cX8_errorOfNumber 0 = .ok (.iload_n 1, 1) := by decide +kernel
theorem dX8_errorOfNumber_1 : decode cX8_errorOfNumber 1 = .ok (.invokestatic 246, 3) := by decide +kernel
theorem dX8_errorOfNumber_4 : decode cX8_errorOfNumber 4 = .ok (.ifCond .ne 5, 3) := by decide +kernel
theorem dX8_errorOfNumber_7 : decode cX8_errorOfNumber 7 = .ok (.iconst 1, 1) := by decide +kernel
theorem dX8_errorOfNumber_8 : decode cX8_errorOfNumber 8 = .ok (.ireturn, 1) := by decide +kernel
theorem dX8_errorOfNumber_9 : decode cX8_errorOfNumber 9 = .ok (.aload_n 0, 1) := by decide +kernel
theorem dX8_errorOfNumber_10 : decode cX8_errorOfNumber 10 = .ok (.getfield 60, 3) := by decide +kernel
theorem dX8_errorOfNumber_13 : decode cX8_errorOfNumber 13 = .ok (.iload_n 1, 1) := by decide +kernel
theorem dX8_errorOfNumber_14 : decode cX8_errorOfNumber 14 = .ok (.aaload, 1) := by decide +kernel
theorem dX8_errorOfNumber_15 : decode cX8_errorOfNumber 15 = .ok (.invokevirtual 261, 3) := by decide +kernel
theorem dX8_errorOfNumber_18 : decode cX8_errorOfNumber 18 = .ok (.ifCond .eq 6, 3) := by decide +kernel
theorem dX8_errorOfNumber_21 : decode cX8_errorOfNumber 21 = .ok (.bipush 6, 2) := by decide +kernel
theorem dX8_errorOfNumber_23 : decode cX8_errorOfNumber 23 = .ok (.ireturn, 1) := by decide +kernel
theorem dX8_errorOfNumber_24 : decode cX8_errorOfNumber 24 = .ok (.iload_n 2, 1) := by decide +kernel
theorem dX8_errorOfNumber_25 : decode cX8_errorOfNumber 25 = .ok (.ifCond .lt 16, 3) := by decide +kernel
theorem dX8_errorOfNumber_28 : decode cX8_errorOfNumber 28 = .ok (.iload_n 2, 1) := by decide +kernel
theorem dX8_errorOfNumber_29 : decode cX8_errorOfNumber 29 = .ok (.aload_n 0, 1) := by decide +kernel
theorem dX8_errorOfNumber_30 : decode cX8_errorOfNumber 30 = .ok (.getfield 60, 3) := by decide +kernel
theorem dX8_errorOfNumber_33 : decode cX8_errorOfNumber 33 = .ok (.iload_n 1, 1) := by decide +kernel
theorem dX8_errorOfNumber_34 : decode cX8_errorOfNumber 34 = .ok (.aaload, 1) := by decide +kernel
theorem dX8_errorOfNumber_35 : decode cX8_errorOfNumber 35 = .ok (.getfield 277, 3) := by decide +kernel
theorem dX8_errorOfNumber_38 : decode cX8_errorOfNumber 38 = .ok (.if_icmp .lt 7, 3) := by decide +kernel
theorem dX8_errorOfNumber_41 : decode cX8_errorOfNumber 41 = .ok (.iconst 1, 1) := by decide +kernel
theorem dX8_errorOfNumber_42 : decode cX8_errorOfNumber 42 = .ok (.goto 4, 3) := by decide +kernel
theorem dX8_errorOfNumber_45 : decode cX8_errorOfNumber 45 = .ok (.iconst 0, 1) := by decide +kernel
theorem dX8_errorOfNumber_46 : decode cX8_errorOfNumber 46 = .ok (.ireturn, 1) := by decide +kernel
theorem dX8_sheetsThere_0 : decode cX8_sheetsThere 0 = .ok (.iconst 0, 1) := by decide +kernel
theorem dX8_sheetsThere_1 : decode cX8_sheetsThere 1 = .ok (.istore_n 1, 1) := by decide +kernel
theorem dX8_sheetsThere_2 : decode cX8_sheetsThere 2 = .ok (.iconst 0, 1) := by decide +kernel
theorem dX8_sheetsThere_3 : decode cX8_sheetsThere 3 = .ok (.istore_n 2, 1) := by decide +kernel
theorem dX8_sheetsThere_4 : decode cX8_sheetsThere 4 = .ok (.iload_n 2, 1) := by decide +kernel
theorem dX8_sheetsThere_5 : decode cX8_sheetsThere 5 = .ok (.iconst 4, 1) := by decide +kernel
theorem dX8_sheetsThere_6 : decode cX8_sheetsThere 6 = .ok (.if_icmp .ge 24, 3) := by decide +kernel
theorem dX8_sheetsThere_9 : decode cX8_sheetsThere 9 = .ok (.aload_n 0, 1) := by decide +kernel
theorem dX8_sheetsThere_10 : decode cX8_sheetsThere 10 = .ok (.getfield 60, 3) := by decide +kernel
theorem dX8_sheetsThere_13 : decode cX8_sheetsThere 13 = .ok (.iload_n 2, 1) := by decide +kernel
theorem dX8_sheetsThere_14 : decode cX8_sheetsThere 14 = .ok (.aaload, 1) := by decide +kernel
theorem dX8_sheetsThere_15 : decode cX8_sheetsThere 15 = .ok (.invokevirtual 261, 3) := by decide +kernel
theorem dX8_sheetsThere_18 : decode cX8_sheetsThere 18 = .ok (.ifCond .ne 6, 3) := by decide +kernel
theorem dX8_sheetsThere_21 : decode cX8_sheetsThere 21 = .ok (.iinc 1 1, 3) := by decide +kernel
theorem dX8_sheetsThere_24 : decode cX8_sheetsThere 24 = .ok (.iinc 2 1, 3) := by decide +kernel
theorem dX8_sheetsThere_27 : decode cX8_sheetsThere 27 = .ok (.goto (-23), 3) := by decide +kernel
theorem dX8_sheetsThere_30 : decode cX8_sheetsThere 30 = .ok (.iload_n 1, 1) := by decide +kernel
theorem dX8_sheetsThere_31 : decode cX8_sheetsThere 31 = .ok (.ireturn, 1) := by decide +kernel
theorem dX8_isWay_0 : decode cX8_isWay 0 = .ok (.iload_n 0, 1) := by decide +kernel
theorem dX8_isWay_1 : decode cX8_isWay 1 = .ok (.ifCond .lt 12, 3) := by decide +kernel
theorem dX8_isWay_4 : decode cX8_isWay 4 = .ok (.iload_n 0, 1) := by decide +kernel
theorem dX8_isWay_5 : decode cX8_isWay 5 = .ok (.iconst 2, 1) := by decide +kernel
theorem dX8_isWay_6 : decode cX8_isWay 6 = .ok (.if_icmp .gt 7, 3) := by decide +kernel
theorem dX8_isWay_9 : decode cX8_isWay 9 = .ok (.iconst 1, 1) := by decide +kernel
theorem dX8_isWay_10 : decode cX8_isWay 10 = .ok (.goto 4, 3) := by decide +kernel
theorem dX8_isWay_13 : decode cX8_isWay 13 = .ok (.iconst 0, 1) := by decide +kernel
theorem dX8_isWay_14 : decode cX8_isWay 14 = .ok (.ireturn, 1) := by decide +kernel
theorem dX8_isRule_0 : decode cX8_isRule 0 = .ok (.iload_n 0, 1) := by decide +kernel
theorem dX8_isRule_1 : decode cX8_isRule 1 = .ok (.ifCond .lt 12, 3) := by decide +kernel
theorem dX8_isRule_4 : decode cX8_isRule 4 = .ok (.iload_n 0, 1) := by decide +kernel
theorem dX8_isRule_5 : decode cX8_isRule 5 = .ok (.iconst 5, 1) := by decide +kernel
theorem dX8_isRule_6 : decode cX8_isRule 6 = .ok (.if_icmp .ge 7, 3) := by decide +kernel
theorem dX8_isRule_9 : decode cX8_isRule 9 = .ok (.iconst 1, 1) := by decide +kernel
theorem dX8_isRule_10 : decode cX8_isRule 10 = .ok (.goto 4, 3) := by decide +kernel
theorem dX8_isRule_13 : decode cX8_isRule 13 = .ok (.iconst 0, 1) := by decide +kernel
theorem dX8_isRule_14 : decode cX8_isRule 14 = .ok (.ireturn, 1) := by decide +kernel
theorem dX8_isSheet_0 : decode cX8_isSheet 0 = .ok (.iload_n 0, 1) := by decide +kernel
theorem dX8_isSheet_1 : decode cX8_isSheet 1 = .ok (.ifCond .lt 12, 3) := by decide +kernel
theorem dX8_isSheet_4 : decode cX8_isSheet 4 = .ok (.iload_n 0, 1) := by decide +kernel
theorem dX8_isSheet_5 : decode cX8_isSheet 5 = .ok (.iconst 4, 1) := by decide +kernel
theorem dX8_isSheet_6 : decode cX8_isSheet 6 = .ok (.if_icmp .ge 7, 3) := by decide +kernel
theorem dX8_isSheet_9 : decode cX8_isSheet 9 = .ok (.iconst 1, 1) := by decide +kernel
theorem dX8_isSheet_10 : decode cX8_isSheet 10 = .ok (.goto 4, 3) := by decide +kernel
theorem dX8_isSheet_13 : decode cX8_isSheet 13 = .ok (.iconst 0, 1) := by decide +kernel
theorem dX8_isSheet_14 : decode cX8_isSheet 14 = .ok (.ireturn, 1) := by decide +kernel
theorem dX8_isCode_0 : decode cX8_isCode 0 = .ok (.iload_n 0, 1) := by decide +kernel
theorem dX8_isCode_1 : decode cX8_isCode 1 = .ok (.iconst 1, 1) := by decide +kernel
theorem dX8_isCode_2 : decode cX8_isCode 2 = .ok (.if_icmp .lt 10, 3) := by decide +kernel
theorem dX8_isCode_5 : decode cX8_isCode 5 = .ok (.iload_n 0, 1) := by decide +kernel
theorem dX8_isCode_6 : decode cX8_isCode 6 = .ok (.sipush 7777, 3) := by decide +kernel
theorem dX8_isCode_9 : decode cX8_isCode 9 = .ok (.if_icmp .le 5, 3) := by decide +kernel
theorem dX8_isCode_12 : decode cX8_isCode 12 = .ok (.iconst 0, 1) := by decide +kernel
theorem dX8_isCode_13 : decode cX8_isCode 13 = .ok (.ireturn, 1) := by decide +kernel
theorem dX8_isCode_14 : decode cX8_isCode 14 = .ok (.iload_n 0, 1) := by decide +kernel
theorem dX8_isCode_15 : decode cX8_isCode 15 = .ok (.istore_n 1, 1) := by decide +kernel
theorem dX8_isCode_16 : decode cX8_isCode 16 = .ok (.iconst 0, 1) := by decide +kernel
theorem dX8_isCode_17 : decode cX8_isCode 17 = .ok (.istore_n 2, 1) := by decide +kernel
theorem dX8_isCode_18 : decode cX8_isCode 18 = .ok (.iload_n 2, 1) := by decide +kernel
theorem dX8_isCode_19 : decode cX8_isCode 19 = .ok (.iconst 4, 1) := by decide +kernel
theorem dX8_isCode_20 : decode cX8_isCode 20 = .ok (.if_icmp .ge 36, 3) := by decide +kernel
theorem dX8_isCode_23 : decode cX8_isCode 23 = .ok (.iload_n 1, 1) := by decide +kernel
theorem dX8_isCode_24 : decode cX8_isCode 24 = .ok (.ifCond .le 32, 3) := by decide +kernel
theorem dX8_isCode_27 : decode cX8_isCode 27 = .ok (.iload_n 1, 1) := by decide +kernel
theorem dX8_isCode_28 : decode cX8_isCode 28 = .ok (.bipush 10, 2) := by decide +kernel
theorem dX8_isCode_30 : decode cX8_isCode 30 = .ok (.irem, 1) := by decide +kernel
theorem dX8_isCode_31 : decode cX8_isCode 31 = .ok (.istore_n 3, 1) := by decide +kernel
theorem dX8_isCode_32 : decode cX8_isCode 32 = .ok (.iload_n 3, 1) := by decide +kernel
theorem dX8_isCode_33 : decode cX8_isCode 33 = .ok (.iconst 1, 1) := by decide +kernel
theorem dX8_isCode_34 : decode cX8_isCode 34 = .ok (.if_icmp .lt 9, 3) := by decide +kernel
theorem dX8_isCode_37 : decode cX8_isCode 37 = .ok (.iload_n 3, 1) := by decide +kernel
theorem dX8_isCode_38 : decode cX8_isCode 38 = .ok (.bipush 7, 2) := by decide +kernel
theorem dX8_isCode_40 : decode cX8_isCode 40 = .ok (.if_icmp .le 5, 3) := by decide +kernel
theorem dX8_isCode_43 : decode cX8_isCode 43 = .ok (.iconst 0, 1) := by decide +kernel
theorem dX8_isCode_44 : decode cX8_isCode 44 = .ok (.ireturn, 1) := by decide +kernel
theorem dX8_isCode_45 : decode cX8_isCode 45 = .ok (.iload_n 1, 1) := by decide +kernel
theorem dX8_isCode_46 : decode cX8_isCode 46 = .ok (.bipush 10, 2) := by decide +kernel
theorem dX8_isCode_48 : decode cX8_isCode 48 = .ok (.idiv, 1) := by decide +kernel
theorem dX8_isCode_49 : decode cX8_isCode 49 = .ok (.istore_n 1, 1) := by decide +kernel
theorem dX8_isCode_50 : decode cX8_isCode 50 = .ok (.iinc 2 1, 3) := by decide +kernel
theorem dX8_isCode_53 : decode cX8_isCode 53 = .ok (.goto (-35), 3) := by decide +kernel
theorem dX8_isCode_56 : decode cX8_isCode 56 = .ok (.iconst 1, 1) := by decide +kernel
theorem dX8_isCode_57 : decode cX8_isCode 57 = .ok (.ireturn, 1) := by decide +kernel
theorem dJ6_lowestOneBit_0f7a4_0 : decode cJ6_lowestOneBit_0f7a4 0 = .ok (.iload_n 0, 1) := by decide +kernel
theorem dJ6_lowestOneBit_0f7a4_1 : decode cJ6_lowestOneBit_0f7a4 1 = .ok (.iload_n 0, 1) := by decide +kernel
theorem dJ6_lowestOneBit_0f7a4_2 : decode cJ6_lowestOneBit_0f7a4 2 = .ok (.ineg, 1) := by decide +kernel
theorem dJ6_lowestOneBit_0f7a4_3 : decode cJ6_lowestOneBit_0f7a4 3 = .ok (.iand, 1) := by decide +kernel
theorem dJ6_lowestOneBit_0f7a4_4 : decode cJ6_lowestOneBit_0f7a4 4 = .ok (.ireturn, 1) := by decide +kernel
theorem dJ6_numberOfLeadingZeros_0f7a4_0 : decode cJ6_numberOfLeadingZeros_0f7a4 0 = .ok (.iload_n 0, 1) := by decide +kernel
theorem dJ6_numberOfLeadingZeros_0f7a4_1 : decode cJ6_numberOfLeadingZeros_0f7a4 1 = .ok (.ifCond .gt 14, 3) := by decide +kernel
theorem dJ6_numberOfLeadingZeros_0f7a4_4 : decode cJ6_numberOfLeadingZeros_0f7a4 4 = .ok (.iload_n 0, 1) := by decide +kernel
theorem dJ6_numberOfLeadingZeros_0f7a4_5 : decode cJ6_numberOfLeadingZeros_0f7a4 5 = .ok (.ifCond .ne 8, 3) := by decide +kernel
theorem dJ6_numberOfLeadingZeros_0f7a4_8 : decode cJ6_numberOfLeadingZeros_0f7a4 8 = .ok (.bipush 32, 2) := by decide +kernel
theorem dJ6_numberOfLeadingZeros_0f7a4_10 : decode cJ6_numberOfLeadingZeros_0f7a4 10 = .ok (.goto 4, 3) := by decide +kernel
theorem dJ6_numberOfLeadingZeros_0f7a4_13 : decode cJ6_numberOfLeadingZeros_0f7a4 13 = .ok (.iconst 0, 1) := by decide +kernel
theorem dJ6_numberOfLeadingZeros_0f7a4_14 : decode cJ6_numberOfLeadingZeros_0f7a4 14 = .ok (.ireturn, 1) := by decide +kernel
theorem dJ6_numberOfLeadingZeros_0f7a4_15 : decode cJ6_numberOfLeadingZeros_0f7a4 15 = .ok (.bipush 31, 2) := by decide +kernel
theorem dJ6_numberOfLeadingZeros_0f7a4_17 : decode cJ6_numberOfLeadingZeros_0f7a4 17 = .ok (.istore_n 1, 1) := by decide +kernel
theorem dJ6_numberOfLeadingZeros_0f7a4_18 : decode cJ6_numberOfLeadingZeros_0f7a4 18 = .ok (.iload_n 0, 1) := by decide +kernel
theorem dJ6_numberOfLeadingZeros_0f7a4_19 : decode cJ6_numberOfLeadingZeros_0f7a4 19 = .ok (.ldc_w 264, 3) := by decide +kernel
theorem dJ6_numberOfLeadingZeros_0f7a4_22 : decode cJ6_numberOfLeadingZeros_0f7a4 22 = .ok (.if_icmp .lt 11, 3) := by decide +kernel
theorem dJ6_numberOfLeadingZeros_0f7a4_25 : decode cJ6_numberOfLeadingZeros_0f7a4 25 = .ok (.iinc 1 (-16), 3) := by decide +kernel
theorem dJ6_numberOfLeadingZeros_0f7a4_28 : decode cJ6_numberOfLeadingZeros_0f7a4 28 = .ok (.iload_n 0, 1) := by decide +kernel
theorem dJ6_numberOfLeadingZeros_0f7a4_29 : decode cJ6_numberOfLeadingZeros_0f7a4 29 = .ok (.bipush 16, 2) := by decide +kernel
theorem dJ6_numberOfLeadingZeros_0f7a4_31 : decode cJ6_numberOfLeadingZeros_0f7a4 31 = .ok (.iushr, 1) := by decide +kernel
theorem dJ6_numberOfLeadingZeros_0f7a4_32 : decode cJ6_numberOfLeadingZeros_0f7a4 32 = .ok (.istore_n 0, 1) := by decide +kernel
theorem dJ6_numberOfLeadingZeros_0f7a4_33 : decode cJ6_numberOfLeadingZeros_0f7a4 33 = .ok (.iload_n 0, 1) := by decide +kernel
theorem dJ6_numberOfLeadingZeros_0f7a4_34 : decode cJ6_numberOfLeadingZeros_0f7a4 34 = .ok (.sipush 256, 3) := by decide +kernel
theorem dJ6_numberOfLeadingZeros_0f7a4_37 : decode cJ6_numberOfLeadingZeros_0f7a4 37 = .ok (.if_icmp .lt 11, 3) := by decide +kernel
theorem dJ6_numberOfLeadingZeros_0f7a4_40 : decode cJ6_numberOfLeadingZeros_0f7a4 40 = .ok (.iinc 1 (-8), 3) := by decide +kernel
theorem dJ6_numberOfLeadingZeros_0f7a4_43 : decode cJ6_numberOfLeadingZeros_0f7a4 43 = .ok (.iload_n 0, 1) := by decide +kernel
theorem dJ6_numberOfLeadingZeros_0f7a4_44 : decode cJ6_numberOfLeadingZeros_0f7a4 44 = .ok (.bipush 8, 2) := by decide +kernel
theorem dJ6_numberOfLeadingZeros_0f7a4_46 : decode cJ6_numberOfLeadingZeros_0f7a4 46 = .ok (.iushr, 1) := by decide +kernel
theorem dJ6_numberOfLeadingZeros_0f7a4_47 : decode cJ6_numberOfLeadingZeros_0f7a4 47 = .ok (.istore_n 0, 1) := by decide +kernel
theorem dJ6_numberOfLeadingZeros_0f7a4_48 : decode cJ6_numberOfLeadingZeros_0f7a4 48 = .ok (.iload_n 0, 1) := by decide +kernel
theorem dJ6_numberOfLeadingZeros_0f7a4_49 : decode cJ6_numberOfLeadingZeros_0f7a4 49 = .ok (.bipush 16, 2) := by decide +kernel
theorem dJ6_numberOfLeadingZeros_0f7a4_51 : decode cJ6_numberOfLeadingZeros_0f7a4 51 = .ok (.if_icmp .lt 10, 3) := by decide +kernel
theorem dJ6_numberOfLeadingZeros_0f7a4_54 : decode cJ6_numberOfLeadingZeros_0f7a4 54 = .ok (.iinc 1 (-4), 3) := by decide +kernel
theorem dJ6_numberOfLeadingZeros_0f7a4_57 : decode cJ6_numberOfLeadingZeros_0f7a4 57 = .ok (.iload_n 0, 1) := by decide +kernel
theorem dJ6_numberOfLeadingZeros_0f7a4_58 : decode cJ6_numberOfLeadingZeros_0f7a4 58 = .ok (.iconst 4, 1) := by decide +kernel
theorem dJ6_numberOfLeadingZeros_0f7a4_59 : decode cJ6_numberOfLeadingZeros_0f7a4 59 = .ok (.iushr, 1) := by decide +kernel
theorem dJ6_numberOfLeadingZeros_0f7a4_60 : decode cJ6_numberOfLeadingZeros_0f7a4 60 = .ok (.istore_n 0, 1) := by decide +kernel
theorem dJ6_numberOfLeadingZeros_0f7a4_61 : decode cJ6_numberOfLeadingZeros_0f7a4 61 = .ok (.iload_n 0, 1) := by decide +kernel
theorem dJ6_numberOfLeadingZeros_0f7a4_62 : decode cJ6_numberOfLeadingZeros_0f7a4 62 = .ok (.iconst 4, 1) := by decide +kernel
theorem dJ6_numberOfLeadingZeros_0f7a4_63 : decode cJ6_numberOfLeadingZeros_0f7a4 63 = .ok (.if_icmp .lt 10, 3) := by decide +kernel
theorem dJ6_numberOfLeadingZeros_0f7a4_66 : decode cJ6_numberOfLeadingZeros_0f7a4 66 = .ok (.iinc 1 (-2), 3) := by decide +kernel
theorem dJ6_numberOfLeadingZeros_0f7a4_69 : decode cJ6_numberOfLeadingZeros_0f7a4 69 = .ok (.iload_n 0, 1) := by decide +kernel
theorem dJ6_numberOfLeadingZeros_0f7a4_70 : decode cJ6_numberOfLeadingZeros_0f7a4 70 = .ok (.iconst 2, 1) := by decide +kernel
theorem dJ6_numberOfLeadingZeros_0f7a4_71 : decode cJ6_numberOfLeadingZeros_0f7a4 71 = .ok (.iushr, 1) := by decide +kernel
theorem dJ6_numberOfLeadingZeros_0f7a4_72 : decode cJ6_numberOfLeadingZeros_0f7a4 72 = .ok (.istore_n 0, 1) := by decide +kernel
theorem dJ6_numberOfLeadingZeros_0f7a4_73 : decode cJ6_numberOfLeadingZeros_0f7a4 73 = .ok (.iload_n 1, 1) := by decide +kernel
theorem dJ6_numberOfLeadingZeros_0f7a4_74 : decode cJ6_numberOfLeadingZeros_0f7a4 74 = .ok (.iload_n 0, 1) := by decide +kernel
theorem dJ6_numberOfLeadingZeros_0f7a4_75 : decode cJ6_numberOfLeadingZeros_0f7a4 75 = .ok (.iconst 1, 1) := by decide +kernel
theorem dJ6_numberOfLeadingZeros_0f7a4_76 : decode cJ6_numberOfLeadingZeros_0f7a4 76 = .ok (.iushr, 1) := by decide +kernel
theorem dJ6_numberOfLeadingZeros_0f7a4_77 : decode cJ6_numberOfLeadingZeros_0f7a4 77 = .ok (.isub, 1) := by decide +kernel
theorem dJ6_numberOfLeadingZeros_0f7a4_78 : decode cJ6_numberOfLeadingZeros_0f7a4 78 = .ok (.ireturn, 1) := by decide +kernel
theorem dJ6_numberOfTrailingZeros_0f7a4_0 : decode cJ6_numberOfTrailingZeros_0f7a4 0 = .ok (.iload_n 0, 1) := by decide +kernel
theorem dJ6_numberOfTrailingZeros_0f7a4_1 : decode cJ6_numberOfTrailingZeros_0f7a4 1 = .ok (.iconst (-1), 1) := by decide +kernel
theorem dJ6_numberOfTrailingZeros_0f7a4_2 : decode cJ6_numberOfTrailingZeros_0f7a4 2 = .ok (.ixor, 1) := by decide +kernel
theorem dJ6_numberOfTrailingZeros_0f7a4_3 : decode cJ6_numberOfTrailingZeros_0f7a4 3 = .ok (.iload_n 0, 1) := by decide +kernel
theorem dJ6_numberOfTrailingZeros_0f7a4_4 : decode cJ6_numberOfTrailingZeros_0f7a4 4 = .ok (.iconst 1, 1) := by decide +kernel
theorem dJ6_numberOfTrailingZeros_0f7a4_5 : decode cJ6_numberOfTrailingZeros_0f7a4 5 = .ok (.isub, 1) := by decide +kernel
theorem dJ6_numberOfTrailingZeros_0f7a4_6 : decode cJ6_numberOfTrailingZeros_0f7a4 6 = .ok (.iand, 1) := by decide +kernel
theorem dJ6_numberOfTrailingZeros_0f7a4_7 : decode cJ6_numberOfTrailingZeros_0f7a4 7 = .ok (.istore_n 0, 1) := by decide +kernel
theorem dJ6_numberOfTrailingZeros_0f7a4_8 : decode cJ6_numberOfTrailingZeros_0f7a4 8 = .ok (.iload_n 0, 1) := by decide +kernel
theorem dJ6_numberOfTrailingZeros_0f7a4_9 : decode cJ6_numberOfTrailingZeros_0f7a4 9 = .ok (.ifCond .gt 8, 3) := by decide +kernel
theorem dJ6_numberOfTrailingZeros_0f7a4_12 : decode cJ6_numberOfTrailingZeros_0f7a4 12 = .ok (.iload_n 0, 1) := by decide +kernel
theorem dJ6_numberOfTrailingZeros_0f7a4_13 : decode cJ6_numberOfTrailingZeros_0f7a4 13 = .ok (.bipush 32, 2) := by decide +kernel
theorem dJ6_numberOfTrailingZeros_0f7a4_15 : decode cJ6_numberOfTrailingZeros_0f7a4 15 = .ok (.iand, 1) := by decide +kernel
theorem dJ6_numberOfTrailingZeros_0f7a4_16 : decode cJ6_numberOfTrailingZeros_0f7a4 16 = .ok (.ireturn, 1) := by decide +kernel
theorem dJ6_numberOfTrailingZeros_0f7a4_17 : decode cJ6_numberOfTrailingZeros_0f7a4 17 = .ok (.iconst 1, 1) := by decide +kernel
theorem dJ6_numberOfTrailingZeros_0f7a4_18 : decode cJ6_numberOfTrailingZeros_0f7a4 18 = .ok (.istore_n 1, 1) := by decide +kernel
theorem dJ6_numberOfTrailingZeros_0f7a4_19 : decode cJ6_numberOfTrailingZeros_0f7a4 19 = .ok (.iload_n 0, 1) := by decide +kernel
theorem dJ6_numberOfTrailingZeros_0f7a4_20 : decode cJ6_numberOfTrailingZeros_0f7a4 20 = .ok (.ldc_w 264, 3) := by decide +kernel
theorem dJ6_numberOfTrailingZeros_0f7a4_23 : decode cJ6_numberOfTrailingZeros_0f7a4 23 = .ok (.if_icmp .le 11, 3) := by decide +kernel
theorem dJ6_numberOfTrailingZeros_0f7a4_26 : decode cJ6_numberOfTrailingZeros_0f7a4 26 = .ok (.iinc 1 16, 3) := by decide +kernel
theorem dJ6_numberOfTrailingZeros_0f7a4_29 : decode cJ6_numberOfTrailingZeros_0f7a4 29 = .ok (.iload_n 0, 1) := by decide +kernel
theorem dJ6_numberOfTrailingZeros_0f7a4_30 : decode cJ6_numberOfTrailingZeros_0f7a4 30 = .ok (.bipush 16, 2) := by decide +kernel
theorem dJ6_numberOfTrailingZeros_0f7a4_32 : decode cJ6_numberOfTrailingZeros_0f7a4 32 = .ok (.iushr, 1) := by decide +kernel
theorem dJ6_numberOfTrailingZeros_0f7a4_33 : decode cJ6_numberOfTrailingZeros_0f7a4 33 = .ok (.istore_n 0, 1) := by decide +kernel
theorem dJ6_numberOfTrailingZeros_0f7a4_34 : decode cJ6_numberOfTrailingZeros_0f7a4 34 = .ok (.iload_n 0, 1) := by decide +kernel
theorem dJ6_numberOfTrailingZeros_0f7a4_35 : decode cJ6_numberOfTrailingZeros_0f7a4 35 = .ok (.sipush 256, 3) := by decide +kernel
theorem dJ6_numberOfTrailingZeros_0f7a4_38 : decode cJ6_numberOfTrailingZeros_0f7a4 38 = .ok (.if_icmp .le 11, 3) := by decide +kernel
theorem dJ6_numberOfTrailingZeros_0f7a4_41 : decode cJ6_numberOfTrailingZeros_0f7a4 41 = .ok (.iinc 1 8, 3) := by decide +kernel
theorem dJ6_numberOfTrailingZeros_0f7a4_44 : decode cJ6_numberOfTrailingZeros_0f7a4 44 = .ok (.iload_n 0, 1) := by decide +kernel
theorem dJ6_numberOfTrailingZeros_0f7a4_45 : decode cJ6_numberOfTrailingZeros_0f7a4 45 = .ok (.bipush 8, 2) := by decide +kernel
theorem dJ6_numberOfTrailingZeros_0f7a4_47 : decode cJ6_numberOfTrailingZeros_0f7a4 47 = .ok (.iushr, 1) := by decide +kernel
theorem dJ6_numberOfTrailingZeros_0f7a4_48 : decode cJ6_numberOfTrailingZeros_0f7a4 48 = .ok (.istore_n 0, 1) := by decide +kernel
theorem dJ6_numberOfTrailingZeros_0f7a4_49 : decode cJ6_numberOfTrailingZeros_0f7a4 49 = .ok (.iload_n 0, 1) := by decide +kernel
theorem dJ6_numberOfTrailingZeros_0f7a4_50 : decode cJ6_numberOfTrailingZeros_0f7a4 50 = .ok (.bipush 16, 2) := by decide +kernel
theorem dJ6_numberOfTrailingZeros_0f7a4_52 : decode cJ6_numberOfTrailingZeros_0f7a4 52 = .ok (.if_icmp .le 10, 3) := by decide +kernel
theorem dJ6_numberOfTrailingZeros_0f7a4_55 : decode cJ6_numberOfTrailingZeros_0f7a4 55 = .ok (.iinc 1 4, 3) := by decide +kernel
theorem dJ6_numberOfTrailingZeros_0f7a4_58 : decode cJ6_numberOfTrailingZeros_0f7a4 58 = .ok (.iload_n 0, 1) := by decide +kernel
theorem dJ6_numberOfTrailingZeros_0f7a4_59 : decode cJ6_numberOfTrailingZeros_0f7a4 59 = .ok (.iconst 4, 1) := by decide +kernel
theorem dJ6_numberOfTrailingZeros_0f7a4_60 : decode cJ6_numberOfTrailingZeros_0f7a4 60 = .ok (.iushr, 1) := by decide +kernel
theorem dJ6_numberOfTrailingZeros_0f7a4_61 : decode cJ6_numberOfTrailingZeros_0f7a4 61 = .ok (.istore_n 0, 1) := by decide +kernel
theorem dJ6_numberOfTrailingZeros_0f7a4_62 : decode cJ6_numberOfTrailingZeros_0f7a4 62 = .ok (.iload_n 0, 1) := by decide +kernel
theorem dJ6_numberOfTrailingZeros_0f7a4_63 : decode cJ6_numberOfTrailingZeros_0f7a4 63 = .ok (.iconst 4, 1) := by decide +kernel
theorem dJ6_numberOfTrailingZeros_0f7a4_64 : decode cJ6_numberOfTrailingZeros_0f7a4 64 = .ok (.if_icmp .le 10, 3) := by decide +kernel
theorem dJ6_numberOfTrailingZeros_0f7a4_67 : decode cJ6_numberOfTrailingZeros_0f7a4 67 = .ok (.iinc 1 2, 3) := by decide +kernel
theorem dJ6_numberOfTrailingZeros_0f7a4_70 : decode cJ6_numberOfTrailingZeros_0f7a4 70 = .ok (.iload_n 0, 1) := by decide +kernel
theorem dJ6_numberOfTrailingZeros_0f7a4_71 : decode cJ6_numberOfTrailingZeros_0f7a4 71 = .ok (.iconst 2, 1) := by decide +kernel
theorem dJ6_numberOfTrailingZeros_0f7a4_72 : decode cJ6_numberOfTrailingZeros_0f7a4 72 = .ok (.iushr, 1) := by decide +kernel
theorem dJ6_numberOfTrailingZeros_0f7a4_73 : decode cJ6_numberOfTrailingZeros_0f7a4 73 = .ok (.istore_n 0, 1) := by decide +kernel
theorem dJ6_numberOfTrailingZeros_0f7a4_74 : decode cJ6_numberOfTrailingZeros_0f7a4 74 = .ok (.iload_n 1, 1) := by decide +kernel
theorem dJ6_numberOfTrailingZeros_0f7a4_75 : decode cJ6_numberOfTrailingZeros_0f7a4 75 = .ok (.iload_n 0, 1) := by decide +kernel
theorem dJ6_numberOfTrailingZeros_0f7a4_76 : decode cJ6_numberOfTrailingZeros_0f7a4 76 = .ok (.iconst 1, 1) := by decide +kernel
theorem dJ6_numberOfTrailingZeros_0f7a4_77 : decode cJ6_numberOfTrailingZeros_0f7a4 77 = .ok (.iushr, 1) := by decide +kernel
theorem dJ6_numberOfTrailingZeros_0f7a4_78 : decode cJ6_numberOfTrailingZeros_0f7a4 78 = .ok (.iadd, 1) := by decide +kernel
theorem dJ6_numberOfTrailingZeros_0f7a4_79 : decode cJ6_numberOfTrailingZeros_0f7a4 79 = .ok (.ireturn, 1) := by decide +kernel
theorem dJ6_bitCount_0f7a4_0 : decode cJ6_bitCount_0f7a4 0 = .ok (.iload_n 0, 1) := by decide +kernel
theorem dJ6_bitCount_0f7a4_1 : decode cJ6_bitCount_0f7a4 1 = .ok (.iload_n 0, 1) := by decide +kernel
theorem dJ6_bitCount_0f7a4_2 : decode cJ6_bitCount_0f7a4 2 = .ok (.iconst 1, 1) := by decide +kernel
theorem dJ6_bitCount_0f7a4_3 : decode cJ6_bitCount_0f7a4 3 = .ok (.iushr, 1) := by decide +kernel
theorem dJ6_bitCount_0f7a4_4 : decode cJ6_bitCount_0f7a4 4 = .ok (.ldc_w 265, 3) := by decide +kernel
theorem dJ6_bitCount_0f7a4_7 : decode cJ6_bitCount_0f7a4 7 = .ok (.iand, 1) := by decide +kernel
theorem dJ6_bitCount_0f7a4_8 : decode cJ6_bitCount_0f7a4 8 = .ok (.isub, 1) := by decide +kernel
theorem dJ6_bitCount_0f7a4_9 : decode cJ6_bitCount_0f7a4 9 = .ok (.istore_n 0, 1) := by decide +kernel
theorem dJ6_bitCount_0f7a4_10 : decode cJ6_bitCount_0f7a4 10 = .ok (.iload_n 0, 1) := by decide +kernel
theorem dJ6_bitCount_0f7a4_11 : decode cJ6_bitCount_0f7a4 11 = .ok (.ldc_w 266, 3) := by decide +kernel
theorem dJ6_bitCount_0f7a4_14 : decode cJ6_bitCount_0f7a4 14 = .ok (.iand, 1) := by decide +kernel
theorem dJ6_bitCount_0f7a4_15 : decode cJ6_bitCount_0f7a4 15 = .ok (.iload_n 0, 1) := by decide +kernel
theorem dJ6_bitCount_0f7a4_16 : decode cJ6_bitCount_0f7a4 16 = .ok (.iconst 2, 1) := by decide +kernel
theorem dJ6_bitCount_0f7a4_17 : decode cJ6_bitCount_0f7a4 17 = .ok (.iushr, 1) := by decide +kernel
theorem dJ6_bitCount_0f7a4_18 : decode cJ6_bitCount_0f7a4 18 = .ok (.ldc_w 266, 3) := by decide +kernel
theorem dJ6_bitCount_0f7a4_21 : decode cJ6_bitCount_0f7a4 21 = .ok (.iand, 1) := by decide +kernel
theorem dJ6_bitCount_0f7a4_22 : decode cJ6_bitCount_0f7a4 22 = .ok (.iadd, 1) := by decide +kernel
theorem dJ6_bitCount_0f7a4_23 : decode cJ6_bitCount_0f7a4 23 = .ok (.istore_n 0, 1) := by decide +kernel
theorem dJ6_bitCount_0f7a4_24 : decode cJ6_bitCount_0f7a4 24 = .ok (.iload_n 0, 1) := by decide +kernel
theorem dJ6_bitCount_0f7a4_25 : decode cJ6_bitCount_0f7a4 25 = .ok (.iload_n 0, 1) := by decide +kernel
theorem dJ6_bitCount_0f7a4_26 : decode cJ6_bitCount_0f7a4 26 = .ok (.iconst 4, 1) := by decide +kernel
theorem dJ6_bitCount_0f7a4_27 : decode cJ6_bitCount_0f7a4 27 = .ok (.iushr, 1) := by decide +kernel
theorem dJ6_bitCount_0f7a4_28 : decode cJ6_bitCount_0f7a4 28 = .ok (.iadd, 1) := by decide +kernel
theorem dJ6_bitCount_0f7a4_29 : decode cJ6_bitCount_0f7a4 29 = .ok (.ldc_w 267, 3) := by decide +kernel
theorem dJ6_bitCount_0f7a4_32 : decode cJ6_bitCount_0f7a4 32 = .ok (.iand, 1) := by decide +kernel
theorem dJ6_bitCount_0f7a4_33 : decode cJ6_bitCount_0f7a4 33 = .ok (.istore_n 0, 1) := by decide +kernel
theorem dJ6_bitCount_0f7a4_34 : decode cJ6_bitCount_0f7a4 34 = .ok (.iload_n 0, 1) := by decide +kernel
theorem dJ6_bitCount_0f7a4_35 : decode cJ6_bitCount_0f7a4 35 = .ok (.iload_n 0, 1) := by decide +kernel
theorem dJ6_bitCount_0f7a4_36 : decode cJ6_bitCount_0f7a4 36 = .ok (.bipush 8, 2) := by decide +kernel
theorem dJ6_bitCount_0f7a4_38 : decode cJ6_bitCount_0f7a4 38 = .ok (.iushr, 1) := by decide +kernel
theorem dJ6_bitCount_0f7a4_39 : decode cJ6_bitCount_0f7a4 39 = .ok (.iadd, 1) := by decide +kernel
theorem dJ6_bitCount_0f7a4_40 : decode cJ6_bitCount_0f7a4 40 = .ok (.istore_n 0, 1) := by decide +kernel
theorem dJ6_bitCount_0f7a4_41 : decode cJ6_bitCount_0f7a4 41 = .ok (.iload_n 0, 1) := by decide +kernel
theorem dJ6_bitCount_0f7a4_42 : decode cJ6_bitCount_0f7a4 42 = .ok (.iload_n 0, 1) := by decide +kernel
theorem dJ6_bitCount_0f7a4_43 : decode cJ6_bitCount_0f7a4 43 = .ok (.bipush 16, 2) := by decide +kernel
theorem dJ6_bitCount_0f7a4_45 : decode cJ6_bitCount_0f7a4 45 = .ok (.iushr, 1) := by decide +kernel
theorem dJ6_bitCount_0f7a4_46 : decode cJ6_bitCount_0f7a4 46 = .ok (.iadd, 1) := by decide +kernel
theorem dJ6_bitCount_0f7a4_47 : decode cJ6_bitCount_0f7a4 47 = .ok (.istore_n 0, 1) := by decide +kernel
theorem dJ6_bitCount_0f7a4_48 : decode cJ6_bitCount_0f7a4 48 = .ok (.iload_n 0, 1) := by decide +kernel
theorem dJ6_bitCount_0f7a4_49 : decode cJ6_bitCount_0f7a4 49 = .ok (.bipush 63, 2) := by decide +kernel
theorem dJ6_bitCount_0f7a4_51 : decode cJ6_bitCount_0f7a4 51 = .ok (.iand, 1) := by decide +kernel
theorem dJ6_bitCount_0f7a4_52 : decode cJ6_bitCount_0f7a4 52 = .ok (.ireturn, 1) := by decide +kernel
theorem dJ9_max_7cf53_0 : decode cJ9_max_7cf53 0 = .ok (.iload_n 0, 1) := by decide +kernel
theorem dJ9_max_7cf53_1 : decode cJ9_max_7cf53 1 = .ok (.iload_n 1, 1) := by decide +kernel
theorem dJ9_max_7cf53_2 : decode cJ9_max_7cf53 2 = .ok (.if_icmp .lt 7, 3) := by decide +kernel
theorem dJ9_max_7cf53_5 : decode cJ9_max_7cf53 5 = .ok (.iload_n 0, 1) := by decide +kernel
theorem dJ9_max_7cf53_6 : decode cJ9_max_7cf53 6 = .ok (.goto 4, 3) := by decide +kernel
theorem dJ9_max_7cf53_9 : decode cJ9_max_7cf53 9 = .ok (.iload_n 1, 1) := by decide +kernel
theorem dJ9_max_7cf53_10 : decode cJ9_max_7cf53 10 = .ok (.ireturn, 1) := by decide +kernel
theorem dJ9_min_7cf53_0 : decode cJ9_min_7cf53 0 = .ok (.iload_n 0, 1) := by decide +kernel
theorem dJ9_min_7cf53_1 : decode cJ9_min_7cf53 1 = .ok (.iload_n 1, 1) := by decide +kernel
theorem dJ9_min_7cf53_2 : decode cJ9_min_7cf53 2 = .ok (.if_icmp .gt 7, 3) := by decide +kernel
theorem dJ9_min_7cf53_5 : decode cJ9_min_7cf53 5 = .ok (.iload_n 0, 1) := by decide +kernel
theorem dJ9_min_7cf53_6 : decode cJ9_min_7cf53 6 = .ok (.goto 4, 3) := by decide +kernel
theorem dJ9_min_7cf53_9 : decode cJ9_min_7cf53 9 = .ok (.iload_n 1, 1) := by decide +kernel
theorem dJ9_min_7cf53_10 : decode cJ9_min_7cf53 10 = .ok (.ireturn, 1) := by decide +kernel
theorem dJ7_fill_53178_0 : decode cJ7_fill_53178 0 = .ok (.iconst 0, 1) := by decide +kernel
theorem dJ7_fill_53178_1 : decode cJ7_fill_53178 1 = .ok (.istore_n 2, 1) := by decide +kernel
theorem dJ7_fill_53178_2 : decode cJ7_fill_53178 2 = .ok (.aload_n 0, 1) := by decide +kernel
theorem dJ7_fill_53178_3 : decode cJ7_fill_53178 3 = .ok (.arraylength, 1) := by decide +kernel
theorem dJ7_fill_53178_4 : decode cJ7_fill_53178 4 = .ok (.istore_n 3, 1) := by decide +kernel
theorem dJ7_fill_53178_5 : decode cJ7_fill_53178 5 = .ok (.iload_n 2, 1) := by decide +kernel
theorem dJ7_fill_53178_6 : decode cJ7_fill_53178 6 = .ok (.iload_n 3, 1) := by decide +kernel
theorem dJ7_fill_53178_7 : decode cJ7_fill_53178 7 = .ok (.if_icmp .ge 13, 3) := by decide +kernel
theorem dJ7_fill_53178_10 : decode cJ7_fill_53178 10 = .ok (.aload_n 0, 1) := by decide +kernel
theorem dJ7_fill_53178_11 : decode cJ7_fill_53178 11 = .ok (.iload_n 2, 1) := by decide +kernel
theorem dJ7_fill_53178_12 : decode cJ7_fill_53178 12 = .ok (.iload_n 1, 1) := by decide +kernel
theorem dJ7_fill_53178_13 : decode cJ7_fill_53178 13 = .ok (.iastore, 1) := by decide +kernel
theorem dJ7_fill_53178_14 : decode cJ7_fill_53178 14 = .ok (.iinc 2 1, 3) := by decide +kernel
theorem dJ7_fill_53178_17 : decode cJ7_fill_53178 17 = .ok (.goto (-12), 3) := by decide +kernel
theorem dJ7_fill_53178_20 : decode cJ7_fill_53178 20 = .ok (.return_, 1) := by decide +kernel
