/-! decode rows -/
theorem dX3_tells_22 : decode cX3_tells 22 = .ok (.isub, 1) := by decide +kernel
theorem dX3_tells_23 : decode cX3_tells 23 = .ok (.istore 7, 2) := by decide +kernel
theorem dX3_tells_25 : decode cX3_tells 25 = .ok (.iload 7, 2) := by decide +kernel
theorem dX3_tells_27 : decode cX3_tells 27 = .ok (.ifCond .lt 82, 3) := by decide +kernel
theorem dX3_tells_30 : decode cX3_tells 30 = .ok (.aload 6, 2) := by decide +kernel
theorem dX3_tells_32 : decode cX3_tells 32 = .ok (.getfield 51, 3) := by decide +kernel
theorem dX3_tells_35 : decode cX3_tells 35 = .ok (.iload 7, 2) := by decide +kernel
theorem dX3_tells_37 : decode cX3_tells 37 = .ok (.iconst 0, 1) := by decide +kernel
theorem dX3_tells_38 : decode cX3_tells 38 = .ok (.invokevirtual 28, 3) := by decide +kernel
theorem dX3_tells_41 : decode cX3_tells 41 = .ok (.iload_n 2, 1) := by decide +kernel
theorem dX3_tells_42 : decode cX3_tells 42 = .ok (.if_icmp .ne 61, 3) := by decide +kernel
theorem dX3_tells_45 : decode cX3_tells 45 = .ok (.aload_n 0, 1) := by decide +kernel
theorem dX3_tells_46 : decode cX3_tells 46 = .ok (.getfield 18, 3) := by decide +kernel
theorem dX3_tells_49 : decode cX3_tells 49 = .ok (.aload 6, 2) := by decide +kernel
theorem dX3_tells_51 : decode cX3_tells 51 = .ok (.iload 7, 2) := by decide +kernel
theorem dX3_tells_53 : decode cX3_tells 53 = .ok (.iconst 3, 1) := by decide +kernel
theorem dX3_tells_54 : decode cX3_tells 54 = .ok (.aload_n 0, 1) := by decide +kernel
theorem dX3_tells_55 : decode cX3_tells 55 = .ok (.getfield 9, 3) := by decide +kernel
theorem dX3_tells_58 : decode cX3_tells 58 = .ok (.invokevirtual 60, 3) := by decide +kernel
theorem dX3_tells_61 : decode cX3_tells 61 = .ok (.iconst 1, 1) := by decide +kernel
theorem dX3_tells_62 : decode cX3_tells 62 = .ok (.if_icmp .ne 41, 3) := by decide +kernel
theorem dX3_tells_65 : decode cX3_tells 65 = .ok (.aload_n 0, 1) := by decide +kernel
theorem dX3_tells_66 : decode cX3_tells 66 = .ok (.getfield 18, 3) := by decide +kernel
theorem dX3_tells_69 : decode cX3_tells 69 = .ok (.aload 6, 2) := by decide +kernel
theorem dX3_tells_71 : decode cX3_tells 71 = .ok (.iload 7, 2) := by decide +kernel
theorem dX3_tells_73 : decode cX3_tells 73 = .ok (.iconst 0, 1) := by decide +kernel
theorem dX3_tells_74 : decode cX3_tells 74 = .ok (.aload_n 0, 1) := by decide +kernel
theorem dX3_tells_75 : decode cX3_tells 75 = .ok (.getfield 9, 3) := by decide +kernel
theorem dX3_tells_78 : decode cX3_tells 78 = .ok (.invokevirtual 60, 3) := by decide +kernel
theorem dX3_tells_81 : decode cX3_tells 81 = .ok (.istore 8, 2) := by decide +kernel
theorem dX3_tells_83 : decode cX3_tells 83 = .ok (.iload 8, 2) := by decide +kernel
theorem dX3_tells_85 : decode cX3_tells 85 = .ok (.ldc 64, 2) := by decide +kernel
theorem dX3_tells_87 : decode cX3_tells 87 = .ok (.if_icmp .eq 16, 3) := by decide +kernel
theorem dX3_tells_90 : decode cX3_tells 90 = .ok (.iload 4, 2) := by decide +kernel
theorem dX3_tells_92 : decode cX3_tells 92 = .ok (.iload 5, 2) := by decide +kernel
theorem dX3_tells_94 : decode cX3_tells 94 = .ok (.iload 8, 2) := by decide +kernel
theorem dX3_tells_96 : decode cX3_tells 96 = .ok (.invokestatic 65, 3) := by decide +kernel
theorem dX3_tells_99 : decode cX3_tells 99 = .ok (.invokestatic 70, 3) := by decide +kernel
theorem dX3_tells_102 : decode cX3_tells 102 = .ok (.ireturn, 1) := by decide +kernel
theorem dX3_tells_103 : decode cX3_tells 103 = .ok (.iinc 7 (-1), 3) := by decide +kernel
theorem dX3_tells_106 : decode cX3_tells 106 = .ok (.goto (-81), 3) := by decide +kernel
theorem dX3_tells_109 : decode cX3_tells 109 = .ok (.iload_n 3, 1) := by decide +kernel
theorem dX3_tells_110 : decode cX3_tells 110 = .ok (.ireturn, 1) := by decide +kernel
theorem dX4_init_0 : decode cX4_init 0 = .ok (.aload_n 0, 1) := by decide +kernel
theorem dX4_init_1 : decode cX4_init 1 = .ok (.invokespecial 3, 3) := by decide +kernel
theorem dX4_init_4 : decode cX4_init 4 = .ok (.aload_n 0, 1) := by decide +kernel
theorem dX4_init_5 : decode cX4_init 5 = .ok (.sipush 400, 3) := by decide +kernel
theorem dX4_init_8 : decode cX4_init 8 = .ok (.newarray .int, 2) := by decide +kernel
theorem dX4_init_10 : decode cX4_init 10 = .ok (.putfield 9, 3) := by decide +kernel
theorem dX4_init_13 : decode cX4_init 13 = .ok (.aload_n 0, 1) := by decide +kernel
theorem dX4_init_14 : decode cX4_init 14 = .ok (.new 15, 3) := by decide +kernel
theorem dX4_init_17 : decode cX4_init 17 = .ok (.dup, 1) := by decide +kernel
theorem dX4_init_18 : decode cX4_init 18 = .ok (.bipush 12, 2) := by decide +kernel
theorem dX4_init_20 : decode cX4_init 20 = .ok (.bipush 7, 2) := by decide +kernel
theorem dX4_init_22 : decode cX4_init 22 = .ok (.invokespecial 17, 3) := by decide +kernel
theorem dX4_init_25 : decode cX4_init 25 = .ok (.putfield 20, 3) := by decide +kernel
theorem dX4_init_28 : decode cX4_init 28 = .ok (.return_, 1) := by decide +kernel
theorem dX4_add_0 : decode cX4_add 0 = .ok (.aload_n 0, 1) := by decide +kernel
theorem dX4_add_1 : decode cX4_add 1 = .ok (.getfield 24, 3) := by decide +kernel
theorem dX4_add_4 : decode cX4_add 4 = .ok (.aload_n 0, 1) := by decide +kernel
theorem dX4_add_5 : decode cX4_add 5 = .ok (.getfield 9, 3) := by decide +kernel
theorem dX4_add_8 : decode cX4_add 8 = .ok (.arraylength, 1) := by decide +kernel
theorem dX4_add_9 : decode cX4_add 9 = .ok (.if_icmp .ge 23, 3) := by decide +kernel
theorem dX4_add_12 : decode cX4_add 12 = .ok (.aload_n 0, 1) := by decide +kernel
theorem dX4_add_13 : decode cX4_add 13 = .ok (.getfield 9, 3) := by decide +kernel
theorem dX4_add_16 : decode cX4_add 16 = .ok (.aload_n 0, 1) := by decide +kernel
theorem dX4_add_17 : decode cX4_add 17 = .ok (.getfield 24, 3) := by decide +kernel
theorem dX4_add_20 : decode cX4_add 20 = .ok (.iload_n 1, 1) := by decide +kernel
theorem dX4_add_21 : decode cX4_add 21 = .ok (.iastore, 1) := by decide +kernel
theorem dX4_add_22 : decode cX4_add 22 = .ok (.aload_n 0, 1) := by decide +kernel
theorem dX4_add_23 : decode cX4_add 23 = .ok (.dup, 1) := by decide +kernel
theorem dX4_add_24 : decode cX4_add 24 = .ok (.getfield 24, 3) := by decide +kernel
theorem dX4_add_27 : decode cX4_add 27 = .ok (.iconst 1, 1) := by decide +kernel
theorem dX4_add_28 : decode cX4_add 28 = .ok (.iadd, 1) := by decide +kernel
theorem dX4_add_29 : decode cX4_add 29 = .ok (.putfield 24, 3) := by decide +kernel
theorem dX4_add_32 : decode cX4_add 32 = .ok (.return_, 1) := by decide +kernel
theorem dX4_mark_0 : decode cX4_mark 0 = .ok (.aload_n 0, 1) := by decide +kernel
theorem dX4_mark_1 : decode cX4_mark 1 = .ok (.getfield 20, 3) := by decide +kernel
theorem dX4_mark_4 : decode cX4_mark 4 = .ok (.aload_n 0, 1) := by decide +kernel
theorem dX4_mark_5 : decode cX4_mark 5 = .ok (.getfield 20, 3) := by decide +kernel
theorem dX4_mark_8 : decode cX4_mark 8 = .ok (.getfield 28, 3) := by decide +kernel
theorem dX4_mark_11 : decode cX4_mark 11 = .ok (.iconst 1, 1) := by decide +kernel
theorem dX4_mark_12 : decode cX4_mark 12 = .ok (.isub, 1) := by decide +kernel
theorem dX4_mark_13 : decode cX4_mark 13 = .ok (.iconst 2, 1) := by decide +kernel
theorem dX4_mark_14 : decode cX4_mark 14 = .ok (.iload_n 1, 1) := by decide +kernel
theorem dX4_mark_15 : decode cX4_mark 15 = .ok (.iadd, 1) := by decide +kernel
theorem dX4_mark_16 : decode cX4_mark 16 = .ok (.aload_n 0, 1) := by decide +kernel
theorem dX4_mark_17 : decode cX4_mark 17 = .ok (.getfield 24, 3) := by decide +kernel
theorem dX4_mark_20 : decode cX4_mark 20 = .ok (.invokevirtual 29, 3) := by decide +kernel
theorem dX4_mark_23 : decode cX4_mark 23 = .ok (.return_, 1) := by decide +kernel
theorem dX4_skipFrom_0 : decode cX4_skipFrom 0 = .ok (.iload_n 1, 1) := by decide +kernel
theorem dX4_skipFrom_1 : decode cX4_skipFrom 1 = .ok (.ifCond .lt 28, 3) := by decide +kernel
theorem dX4_skipFrom_4 : decode cX4_skipFrom 4 = .ok (.iload_n 1, 1) := by decide +kernel
theorem dX4_skipFrom_5 : decode cX4_skipFrom 5 = .ok (.aload_n 0, 1) := by decide +kernel
theorem dX4_skipFrom_6 : decode cX4_skipFrom 6 = .ok (.getfield 24, 3) := by decide +kernel
theorem dX4_skipFrom_9 : decode cX4_skipFrom 9 = .ok (.if_icmp .ge 20, 3) := by decide +kernel
theorem dX4_skipFrom_12 : decode cX4_skipFrom 12 = .ok (.aload_n 0, 1) := by decide +kernel
theorem dX4_skipFrom_13 : decode cX4_skipFrom 13 = .ok (.getfield 9, 3) := by decide +kernel
theorem dX4_skipFrom_16 : decode cX4_skipFrom 16 = .ok (.iload_n 1, 1) := by decide +kernel
theorem dX4_skipFrom_17 : decode cX4_skipFrom 17 = .ok (.dup2, 1) := by decide +kernel
theorem dX4_skipFrom_18 : decode cX4_skipFrom 18 = .ok (.iaload, 1) := by decide +kernel
theorem dX4_skipFrom_19 : decode cX4_skipFrom 19 = .ok (.aload_n 0, 1) := by decide +kernel
theorem dX4_skipFrom_20 : decode cX4_skipFrom 20 = .ok (.getfield 24, 3) := by decide +kernel
theorem dX4_skipFrom_23 : decode cX4_skipFrom 23 = .ok (.iload_n 1, 1) := by decide +kernel
theorem dX4_skipFrom_24 : decode cX4_skipFrom 24 = .ok (.isub, 1) := by decide +kernel
theorem dX4_skipFrom_25 : decode cX4_skipFrom 25 = .ok (.iconst 1, 1) := by decide +kernel
theorem dX4_skipFrom_26 : decode cX4_skipFrom 26 = .ok (.isub, 1) := by decide +kernel
theorem dX4_skipFrom_27 : decode cX4_skipFrom 27 = .ok (.iadd, 1) := by decide +kernel
theorem dX4_skipFrom_28 : decode cX4_skipFrom 28 = .ok (.iastore, 1) := by decide +kernel
theorem dX4_skipFrom_29 : decode cX4_skipFrom 29 = .ok (.return_, 1) := by decide +kernel
theorem dX4_clear_0 : decode cX4_clear 0 = .ok (.aload_n 0, 1) := by decide +kernel
theorem dX4_clear_1 : decode cX4_clear 1 = .ok (.iconst 0, 1) := by decide +kernel
theorem dX4_clear_2 : decode cX4_clear 2 = .ok (.putfield 24, 3) := by decide +kernel
theorem dX4_clear_5 : decode cX4_clear 5 = .ok (.aload_n 0, 1) := by decide +kernel
theorem dX4_clear_6 : decode cX4_clear 6 = .ok (.getfield 20, 3) := by decide +kernel
theorem dX4_clear_9 : decode cX4_clear 9 = .ok (.iconst 0, 1) := by decide +kernel
theorem dX4_clear_10 : decode cX4_clear 10 = .ok (.invokevirtual 33, 3) := by decide +kernel
theorem dX4_clear_13 : decode cX4_clear 13 = .ok (.return_, 1) := by decide +kernel
theorem dX4_takeFrom_0 : decode cX4_takeFrom 0 = .ok (.aload_n 0, 1) := by decide +kernel
theorem dX4_takeFrom_1 : decode cX4_takeFrom 1 = .ok (.aload_n 1, 1) := by decide +kernel
theorem dX4_takeFrom_2 : decode cX4_takeFrom 2 = .ok (.getfield 24, 3) := by decide +kernel
theorem dX4_takeFrom_5 : decode cX4_takeFrom 5 = .ok (.aload_n 0, 1) := by decide +kernel
theorem dX4_takeFrom_6 : decode cX4_takeFrom 6 = .ok (.getfield 9, 3) := by decide +kernel
theorem dX4_takeFrom_9 : decode cX4_takeFrom 9 = .ok (.arraylength, 1) := by decide +kernel
theorem dX4_takeFrom_10 : decode cX4_takeFrom 10 = .ok (.invokestatic 37, 3) := by decide +kernel
theorem dX4_takeFrom_13 : decode cX4_takeFrom 13 = .ok (.putfield 24, 3) := by decide +kernel
theorem dX4_takeFrom_16 : decode cX4_takeFrom 16 = .ok (.aload_n 1, 1) := by decide +kernel
theorem dX4_takeFrom_17 : decode cX4_takeFrom 17 = .ok (.getfield 9, 3) := by decide +kernel
theorem dX4_takeFrom_20 : decode cX4_takeFrom 20 = .ok (.iconst 0, 1) := by decide +kernel
theorem dX4_takeFrom_21 : decode cX4_takeFrom 21 = .ok (.aload_n 0, 1) := by decide +kernel
theorem dX4_takeFrom_22 : decode cX4_takeFrom 22 = .ok (.getfield 9, 3) := by decide +kernel
theorem dX4_takeFrom_25 : decode cX4_takeFrom 25 = .ok (.iconst 0, 1) := by decide +kernel
theorem dX4_takeFrom_26 : decode cX4_takeFrom 26 = .ok (.aload_n 0, 1) := by decide +kernel
theorem dX4_takeFrom_27 : decode cX4_takeFrom 27 = .ok (.getfield 24, 3) := by decide +kernel
theorem dX4_takeFrom_30 : decode cX4_takeFrom 30 = .ok (.invokestatic 43, 3) := by decide +kernel
theorem dX4_takeFrom_33 : decode cX4_takeFrom 33 = .ok (.aload_n 0, 1) := by decide +kernel
theorem dX4_takeFrom_34 : decode cX4_takeFrom 34 = .ok (.getfield 20, 3) := by decide +kernel
theorem dX4_takeFrom_37 : decode cX4_takeFrom 37 = .ok (.aload_n 1, 1) := by decide +kernel
theorem dX4_takeFrom_38 : decode cX4_takeFrom 38 = .ok (.getfield 20, 3) := by decide +kernel
theorem dX4_takeFrom_41 : decode cX4_takeFrom 41 = .ok (.invokevirtual 49, 3) := by decide +kernel
theorem dX4_takeFrom_44 : decode cX4_takeFrom 44 = .ok (.return_, 1) := by decide +kernel
theorem dX5_init_0 : decode cX5_init 0 = .ok (.aload_n 0, 1) := by decide +kernel
theorem dX5_init_1 : decode cX5_init 1 = .ok (.invokespecial 3, 3) := by decide +kernel
theorem dX5_init_4 : decode cX5_init 4 = .ok (.aload_n 0, 1) := by decide +kernel
theorem dX5_init_5 : decode cX5_init 5 = .ok (.iconst (-1), 1) := by decide +kernel
theorem dX5_init_6 : decode cX5_init 6 = .ok (.putfield 9, 3) := by decide +kernel
theorem dX5_init_9 : decode cX5_init 9 = .ok (.aload_n 0, 1) := by decide +kernel
theorem dX5_init_10 : decode cX5_init 10 = .ok (.aload_n 1, 1) := by decide +kernel
theorem dX5_init_11 : decode cX5_init 11 = .ok (.putfield 15, 3) := by decide +kernel
theorem dX5_init_14 : decode cX5_init 14 = .ok (.aload_n 0, 1) := by decide +kernel
theorem dX5_init_15 : decode cX5_init 15 = .ok (.aload_n 2, 1) := by decide +kernel
theorem dX5_init_16 : decode cX5_init 16 = .ok (.putfield 19, 3) := by decide +kernel
theorem dX5_init_19 : decode cX5_init 19 = .ok (.return_, 1) := by decide +kernel
theorem dX5_read_0 : decode cX5_read 0 = .ok (.aload_n 0, 1) := by decide +kernel
theorem dX5_read_1 : decode cX5_read 1 = .ok (.iload_n 1, 1) := by decide +kernel
theorem dX5_read_2 : decode cX5_read 2 = .ok (.putfield 23, 3) := by decide +kernel
theorem dX5_read_5 : decode cX5_read 5 = .ok (.aload_n 0, 1) := by decide +kernel
theorem dX5_read_6 : decode cX5_read 6 = .ok (.iconst 0, 1) := by decide +kernel
theorem dX5_read_7 : decode cX5_read 7 = .ok (.putfield 27, 3) := by decide +kernel
theorem dX5_read_10 : decode cX5_read 10 = .ok (.aload_n 0, 1) := by decide +kernel
theorem dX5_read_11 : decode cX5_read 11 = .ok (.iconst 0, 1) := by decide +kernel
theorem dX5_read_12 : decode cX5_read 12 = .ok (.putfield 30, 3) := by decide +kernel
theorem dX5_read_15 : decode cX5_read 15 = .ok (.aload_n 0, 1) := by decide +kernel
theorem dX5_read_16 : decode cX5_read 16 = .ok (.iconst (-1), 1) := by decide +kernel
theorem dX5_read_17 : decode cX5_read 17 = .ok (.putfield 9, 3) := by decide +kernel
theorem dX5_read_20 : decode cX5_read 20 = .ok (.aload_n 0, 1) := by decide +kernel
theorem dX5_read_21 : decode cX5_read 21 = .ok (.getfield 19, 3) := by decide +kernel
theorem dX5_read_24 : decode cX5_read 24 = .ok (.invokevirtual 33, 3) := by decide +kernel
theorem dX5_read_27 : decode cX5_read 27 = .ok (.aload_n 0, 1) := by decide +kernel
theorem dX5_read_28 : decode cX5_read 28 = .ok (.invokevirtual 38, 3) := by decide +kernel
theorem dX5_read_31 : decode cX5_read 31 = .ok (.iconst 0, 1) := by decide +kernel
theorem dX5_read_32 : decode cX5_read 32 = .ok (.istore_n 2, 1) := by decide +kernel
theorem dX5_read_33 : decode cX5_read 33 = .ok (.iload_n 2, 1) := by decide +kernel
theorem dX5_read_34 : decode cX5_read 34 = .ok (.sipush 400, 3) := by decide +kernel
theorem dX5_read_37 : decode cX5_read 37 = .ok (.if_icmp .ge 52, 3) := by decide +kernel
theorem dX5_read_40 : decode cX5_read 40 = .ok (.aload_n 0, 1) := by decide +kernel
theorem dX5_read_41 : decode cX5_read 41 = .ok (.invokevirtual 41, 3) := by decide +kernel
theorem dX5_read_44 : decode cX5_read 44 = .ok (.ifCond .ne 5, 3) := by decide +kernel
theorem dX5_read_47 : decode cX5_read 47 = .ok (.iconst 0, 1) := by decide +kernel
theorem dX5_read_48 : decode cX5_read 48 = .ok (.ireturn, 1) := by decide +kernel
theorem dX5_read_49 : decode cX5_read 49 = .ok (.aload_n 0, 1) := by decide +kernel
theorem dX5_read_50 : decode cX5_read 50 = .ok (.getfield 45, 3) := by decide +kernel
theorem dX5_read_53 : decode cX5_read 53 = .ok (.aload_n 0, 1) := by decide +kernel
theorem dX5_read_54 : decode cX5_read 54 = .ok (.getfield 15, 3) := by decide +kernel
theorem dX5_read_57 : decode cX5_read 57 = .ok (.getfield 48, 3) := by decide +kernel
theorem dX5_read_60 : decode cX5_read 60 = .ok (.if_icmp .lt 5, 3) := by decide +kernel
theorem dX5_read_63 : decode cX5_read 63 = .ok (.iconst 1, 1) := by decide +kernel
theorem dX5_read_64 : decode cX5_read 64 = .ok (.ireturn, 1) := by decide +kernel
theorem dX5_read_65 : decode cX5_read 65 = .ok (.aload_n 0, 1) := by decide +kernel
theorem dX5_read_66 : decode cX5_read 66 = .ok (.ldc 53, 2) := by decide +kernel
theorem dX5_read_68 : decode cX5_read 68 = .ok (.invokevirtual 55, 3) := by decide +kernel
theorem dX5_read_71 : decode cX5_read 71 = .ok (.ifCond .ne 8, 3) := by decide +kernel
theorem dX5_read_74 : decode cX5_read 74 = .ok (.aload_n 0, 1) := by decide +kernel
theorem dX5_read_75 : decode cX5_read 75 = .ok (.invokevirtual 59, 3) := by decide +kernel
theorem dX5_read_78 : decode cX5_read 78 = .ok (.ireturn, 1) := by decide +kernel
theorem dX5_read_79 : decode cX5_read 79 = .ok (.aload_n 0, 1) := by decide +kernel
theorem dX5_read_80 : decode cX5_read 80 = .ok (.invokevirtual 38, 3) := by decide +kernel
theorem dX5_read_83 : decode cX5_read 83 = .ok (.iinc 2 1, 3) := by decide +kernel
theorem dX5_read_86 : decode cX5_read 86 = .ok (.goto (-53), 3) := by decide +kernel
theorem dX5_read_89 : decode cX5_read 89 = .ok (.aload_n 0, 1) := by decide +kernel
theorem dX5_read_90 : decode cX5_read 90 = .ok (.invokevirtual 59, 3) := by decide +kernel
theorem dX5_read_93 : decode cX5_read 93 = .ok (.ireturn, 1) := by decide +kernel
theorem dX5_fail_0 : decode cX5_fail 0 = .ok (.aload_n 0, 1) := by decide +kernel
theorem dX5_fail_1 : decode cX5_fail 1 = .ok (.aload_n 0, 1) := by decide +kernel
theorem dX5_fail_2 : decode cX5_fail 2 = .ok (.getfield 45, 3) := by decide +kernel
theorem dX5_fail_5 : decode cX5_fail 5 = .ok (.putfield 9, 3) := by decide +kernel
theorem dX5_fail_8 : decode cX5_fail 8 = .ok (.iconst 0, 1) := by decide +kernel
theorem dX5_fail_9 : decode cX5_fail 9 = .ok (.ireturn, 1) := by decide +kernel
theorem dX5_advance_0 : decode cX5_advance 0 = .ok (.aload_n 0, 1) := by decide +kernel
theorem dX5_advance_1 : decode cX5_advance 1 = .ok (.aload_n 0, 1) := by decide +kernel
theorem dX5_advance_2 : decode cX5_advance 2 = .ok (.getfield 27, 3) := by decide +kernel
theorem dX5_advance_5 : decode cX5_advance 5 = .ok (.putfield 45, 3) := by decide +kernel
theorem dX5_advance_8 : decode cX5_advance 8 = .ok (.aload_n 0, 1) := by decide +kernel
theorem dX5_advance_9 : decode cX5_advance 9 = .ok (.getfield 45, 3) := by decide +kernel
theorem dX5_advance_12 : decode cX5_advance 12 = .ok (.aload_n 0, 1) := by decide +kernel
theorem dX5_advance_13 : decode cX5_advance 13 = .ok (.getfield 15, 3) := by decide +kernel
theorem dX5_advance_16 : decode cX5_advance 16 = .ok (.getfield 48, 3) := by decide +kernel
theorem dX5_advance_19 : decode cX5_advance 19 = .ok (.if_icmp .ge 33, 3) := by decide +kernel
theorem dX5_advance_22 : decode cX5_advance 22 = .ok (.aload_n 0, 1) := by decide +kernel
theorem dX5_advance_23 : decode cX5_advance 23 = .ok (.getfield 15, 3) := by decide +kernel
theorem dX5_advance_26 : decode cX5_advance 26 = .ok (.aload_n 0, 1) := by decide +kernel
theorem dX5_advance_27 : decode cX5_advance 27 = .ok (.getfield 45, 3) := by decide +kernel
theorem dX5_advance_30 : decode cX5_advance 30 = .ok (.iconst 0, 1) := by decide +kernel
theorem dX5_advance_31 : decode cX5_advance 31 = .ok (.invokevirtual 62, 3) := by decide +kernel
theorem dX5_advance_34 : decode cX5_advance 34 = .ok (.bipush 32, 2) := by decide +kernel
theorem dX5_advance_36 : decode cX5_advance 36 = .ok (.if_icmp .ne 16, 3) := by decide +kernel
theorem dX5_advance_39 : decode cX5_advance 39 = .ok (.aload_n 0, 1) := by decide +kernel
theorem dX5_advance_40 : decode cX5_advance 40 = .ok (.dup, 1) := by decide +kernel
theorem dX5_advance_41 : decode cX5_advance 41 = .ok (.getfield 45, 3) := by decide +kernel
theorem dX5_advance_44 : decode cX5_advance 44 = .ok (.iconst 1, 1) := by decide +kernel
theorem dX5_advance_45 : decode cX5_advance 45 = .ok (.iadd, 1) := by decide +kernel
theorem dX5_advance_46 : decode cX5_advance 46 = .ok (.putfield 45, 3) := by decide +kernel
theorem dX5_advance_49 : decode cX5_advance 49 = .ok (.goto (-41), 3) := by decide +kernel
theorem dX5_advance_52 : decode cX5_advance 52 = .ok (.aload_n 0, 1) := by decide +kernel
theorem dX5_advance_53 : decode cX5_advance 53 = .ok (.getfield 15, 3) := by decide +kernel
theorem dX5_advance_56 : decode cX5_advance 56 = .ok (.aload_n 0, 1) := by decide +kernel
theorem dX5_advance_57 : decode cX5_advance 57 = .ok (.getfield 45, 3) := by decide +kernel
theorem dX5_advance_60 : decode cX5_advance 60 = .ok (.iconst 0, 1) := by decide +kernel
theorem dX5_advance_61 : decode cX5_advance 61 = .ok (.invokevirtual 62, 3) := by decide +kernel
theorem dX5_advance_64 : decode cX5_advance 64 = .ok (.invokestatic 66, 3) := by decide +kernel
theorem dX5_advance_67 : decode cX5_advance 67 = .ok (.istore_n 1, 1) := by decide +kernel
theorem dX5_advance_68 : decode cX5_advance 68 = .ok (.aload_n 0, 1) := by decide +kernel
theorem dX5_advance_69 : decode cX5_advance 69 = .ok (.aload_n 0, 1) := by decide +kernel
theorem dX5_advance_70 : decode cX5_advance 70 = .ok (.getfield 45, 3) := by decide +kernel
theorem dX5_advance_73 : decode cX5_advance 73 = .ok (.iconst 1, 1) := by decide +kernel
theorem dX5_advance_74 : decode cX5_advance 74 = .ok (.iadd, 1) := by decide +kernel
theorem dX5_advance_75 : decode cX5_advance 75 = .ok (.aload_n 0, 1) := by decide +kernel
theorem dX5_advance_76 : decode cX5_advance 76 = .ok (.getfield 15, 3) := by decide +kernel
theorem dX5_advance_79 : decode cX5_advance 79 = .ok (.getfield 48, 3) := by decide +kernel
theorem dX5_advance_82 : decode cX5_advance 82 = .ok (.invokestatic 70, 3) := by decide +kernel
theorem dX5_advance_85 : decode cX5_advance 85 = .ok (.putfield 27, 3) := by decide +kernel
theorem dX5_advance_88 : decode cX5_advance 88 = .ok (.iload_n 1, 1) := by decide +kernel
theorem dX5_advance_89 : decode cX5_advance 89 = .ok (.ifCond .eq 49, 3) := by decide +kernel
theorem dX5_advance_92 : decode cX5_advance 92 = .ok (.aload_n 0, 1) := by decide +kernel
theorem dX5_advance_93 : decode cX5_advance 93 = .ok (.getfield 27, 3) := by decide +kernel
theorem dX5_advance_96 : decode cX5_advance 96 = .ok (.aload_n 0, 1) := by decide +kernel
theorem dX5_advance_97 : decode cX5_advance 97 = .ok (.getfield 15, 3) := by decide +kernel
theorem dX5_advance_100 : decode cX5_advance 100 = .ok (.getfield 48, 3) := by decide +kernel
theorem dX5_advance_103 : decode cX5_advance 103 = .ok (.if_icmp .ge 35, 3) := by decide +kernel
theorem dX5_advance_106 : decode cX5_advance 106 = .ok (.aload_n 0, 1) := by decide +kernel
theorem dX5_advance_107 : decode cX5_advance 107 = .ok (.getfield 15, 3) := by decide +kernel
theorem dX5_advance_110 : decode cX5_advance 110 = .ok (.aload_n 0, 1) := by decide +kernel
theorem dX5_advance_111 : decode cX5_advance 111 = .ok (.getfield 27, 3) := by decide +kernel
theorem dX5_advance_114 : decode cX5_advance 114 = .ok (.iconst 0, 1) := by decide +kernel
theorem dX5_advance_115 : decode cX5_advance 115 = .ok (.invokevirtual 62, 3) := by decide +kernel
theorem dX5_advance_118 : decode cX5_advance 118 = .ok (.invokestatic 66, 3) := by decide +kernel
theorem dX5_advance_121 : decode cX5_advance 121 = .ok (.iload_n 1, 1) := by decide +kernel
theorem dX5_advance_122 : decode cX5_advance 122 = .ok (.if_icmp .ne 16, 3) := by decide +kernel
theorem dX5_advance_125 : decode cX5_advance 125 = .ok (.aload_n 0, 1) := by decide +kernel
theorem dX5_advance_126 : decode cX5_advance 126 = .ok (.dup, 1) := by decide +kernel
theorem dX5_advance_127 : decode cX5_advance 127 = .ok (.getfield 27, 3) := by decide +kernel
theorem dX5_advance_130 : decode cX5_advance 130 = .ok (.iconst 1, 1) := by decide +kernel
theorem dX5_advance_131 : decode cX5_advance 131 = .ok (.iadd, 1) := by decide +kernel
theorem dX5_advance_132 : decode cX5_advance 132 = .ok (.putfield 27, 3) := by decide +kernel
theorem dX5_advance_135 : decode cX5_advance 135 = .ok (.goto (-47), 3) := by decide +kernel
theorem dX5_advance_138 : decode cX5_advance 138 = .ok (.return_, 1) := by decide +kernel
theorem dX5_kindOf_0 : decode cX5_kindOf 0 = .ok (.iload_n 0, 1) := by decide +kernel
theorem dX5_kindOf_1 : decode cX5_kindOf 1 = .ok (.bipush 97, 2) := by decide +kernel
theorem dX5_kindOf_3 : decode cX5_kindOf 3 = .ok (.if_icmp .lt 11, 3) := by decide +kernel
theorem dX5_kindOf_6 : decode cX5_kindOf 6 = .ok (.iload_n 0, 1) := by decide +kernel
theorem dX5_kindOf_7 : decode cX5_kindOf 7 = .ok (.bipush 122, 2) := by decide +kernel
theorem dX5_kindOf_9 : decode cX5_kindOf 9 = .ok (.if_icmp .gt 5, 3) := by decide +kernel
theorem dX5_kindOf_12 : decode cX5_kindOf 12 = .ok (.iconst 2, 1) := by decide +kernel
theorem dX5_kindOf_13 : decode cX5_kindOf 13 = .ok (.ireturn, 1) := by decide +kernel
theorem dX5_kindOf_14 : decode cX5_kindOf 14 = .ok (.iload_n 0, 1) := by decide +kernel
theorem dX5_kindOf_15 : decode cX5_kindOf 15 = .ok (.bipush 48, 2) := by decide +kernel
theorem dX5_kindOf_17 : decode cX5_kindOf 17 = .ok (.if_icmp .lt 13, 3) := by decide +kernel
theorem dX5_kindOf_20 : decode cX5_kindOf 20 = .ok (.iload_n 0, 1) := by decide +kernel
theorem dX5_kindOf_21 : decode cX5_kindOf 21 = .ok (.bipush 57, 2) := by decide +kernel
theorem dX5_kindOf_23 : decode cX5_kindOf 23 = .ok (.if_icmp .gt 7, 3) := by decide +kernel
theorem dX5_kindOf_26 : decode cX5_kindOf 26 = .ok (.iconst 1, 1) := by decide +kernel
theorem dX5_kindOf_27 : decode cX5_kindOf 27 = .ok (.goto 4, 3) := by decide +kernel
theorem dX5_kindOf_30 : decode cX5_kindOf 30 = .ok (.iconst 0, 1) := by decide +kernel
theorem dX5_kindOf_31 : decode cX5_kindOf 31 = .ok (.ireturn, 1) := by decide +kernel
theorem dX5_is_0 : decode cX5_is 0 = .ok (.aload_n 0, 1) := by decide +kernel
theorem dX5_is_1 : decode cX5_is 1 = .ok (.getfield 27, 3) := by decide +kernel
theorem dX5_is_4 : decode cX5_is 4 = .ok (.aload_n 0, 1) := by decide +kernel
theorem dX5_is_5 : decode cX5_is 5 = .ok (.getfield 45, 3) := by decide +kernel
theorem dX5_is_8 : decode cX5_is 8 = .ok (.isub, 1) := by decide +kernel
theorem dX5_is_9 : decode cX5_is 9 = .ok (.aload_n 1, 1) := by decide +kernel
theorem dX5_is_10 : decode cX5_is 10 = .ok (.invokevirtual 75, 3) := by decide +kernel
theorem dX5_is_13 : decode cX5_is 13 = .ok (.if_icmp .eq 5, 3) := by decide +kernel
theorem dX5_is_16 : decode cX5_is 16 = .ok (.iconst 0, 1) := by decide +kernel
theorem dX5_is_17 : decode cX5_is 17 = .ok (.ireturn, 1) := by decide +kernel
theorem dX5_is_18 : decode cX5_is 18 = .ok (.iconst 0, 1) := by decide +kernel
theorem dX5_is_19 : decode cX5_is 19 = .ok (.istore_n 2, 1) := by decide +kernel
theorem dX5_is_20 : decode cX5_is 20 = .ok (.iload_n 2, 1) := by decide +kernel
theorem dX5_is_21 : decode cX5_is 21 = .ok (.aload_n 1, 1) := by decide +kernel
theorem dX5_is_22 : decode cX5_is 22 = .ok (.invokevirtual 75, 3) := by decide +kernel
theorem dX5_is_25 : decode cX5_is 25 = .ok (.if_icmp .ge 33, 3) := by decide +kernel
theorem dX5_is_28 : decode cX5_is 28 = .ok (.aload_n 0, 1) := by decide +kernel
theorem dX5_is_29 : decode cX5_is 29 = .ok (.getfield 15, 3) := by decide +kernel
theorem dX5_is_32 : decode cX5_is 32 = .ok (.aload_n 0, 1) := by decide +kernel
theorem dX5_is_33 : decode cX5_is 33 = .ok (.getfield 45, 3) := by decide +kernel
theorem dX5_is_36 : decode cX5_is 36 = .ok (.iload_n 2, 1) := by decide +kernel
theorem dX5_is_37 : decode cX5_is 37 = .ok (.iadd, 1) := by decide +kernel
theorem dX5_is_38 : decode cX5_is 38 = .ok (.iconst 0, 1) := by decide +kernel
theorem dX5_is_39 : decode cX5_is 39 = .ok (.invokevirtual 62, 3) := by decide +kernel
theorem dX5_is_42 : decode cX5_is 42 = .ok (.aload_n 1, 1) := by decide +kernel
theorem dX5_is_43 : decode cX5_is 43 = .ok (.iload_n 2, 1) := by decide +kernel
theorem dX5_is_44 : decode cX5_is 44 = .ok (.invokevirtual 81, 3) := by decide +kernel
theorem dX5_is_47 : decode cX5_is 47 = .ok (.if_icmp .eq 5, 3) := by decide +kernel
theorem dX5_is_50 : decode cX5_is 50 = .ok (.iconst 0, 1) := by decide +kernel
theorem dX5_is_51 : decode cX5_is 51 = .ok (.ireturn, 1) := by decide +kernel
theorem dX5_is_52 : decode cX5_is 52 = .ok (.iinc 2 1, 3) := by decide +kernel
theorem dX5_is_55 : decode cX5_is 55 = .ok (.goto (-35), 3) := by decide +kernel
theorem dX5_is_58 : decode cX5_is 58 = .ok (.iconst 1, 1) := by decide +kernel
theorem dX5_is_59 : decode cX5_is 59 = .ok (.ireturn, 1) := by decide +kernel
theorem dX5_pass_0 : decode cX5_pass 0 = .ok (.aload_n 0, 1) := by decide +kernel
theorem dX5_pass_1 : decode cX5_pass 1 = .ok (.aload_n 1, 1) := by decide +kernel
theorem dX5_pass_2 : decode cX5_pass 2 = .ok (.invokevirtual 55, 3) := by decide +kernel
theorem dX5_pass_5 : decode cX5_pass 5 = .ok (.ifCond .ne 8, 3) := by decide +kernel
theorem dX5_pass_8 : decode cX5_pass 8 = .ok (.aload_n 0, 1) := by decide +kernel
theorem dX5_pass_9 : decode cX5_pass 9 = .ok (.invokevirtual 59, 3) := by decide +kernel
theorem dX5_pass_12 : decode cX5_pass 12 = .ok (.ireturn, 1) := by decide +kernel
theorem dX5_pass_13 : decode cX5_pass 13 = .ok (.aload_n 0, 1) := by decide +kernel
theorem dX5_pass_14 : decode cX5_pass 14 = .ok (.invokevirtual 38, 3) := by decide +kernel
theorem dX5_pass_17 : decode cX5_pass 17 = .ok (.iconst 1, 1) := by decide +kernel
theorem dX5_pass_18 : decode cX5_pass 18 = .ok (.ireturn, 1) := by decide +kernel
theorem dX5_number_0 : decode cX5_number 0 = .ok (.aload_n 0, 1) := by decide +kernel
theorem dX5_number_1 : decode cX5_number 1 = .ok (.getfield 15, 3) := by decide +kernel
theorem dX5_number_4 : decode cX5_number 4 = .ok (.aload_n 0, 1) := by decide +kernel
theorem dX5_number_5 : decode cX5_number 5 = .ok (.getfield 45, 3) := by decide +kernel
theorem dX5_number_8 : decode cX5_number 8 = .ok (.iconst 0, 1) := by decide +kernel
theorem dX5_number_9 : decode cX5_number 9 = .ok (.invokevirtual 62, 3) := by decide +kernel
theorem dX5_number_12 : decode cX5_number 12 = .ok (.invokestatic 66, 3) := by decide +kernel
theorem dX5_number_15 : decode cX5_number 15 = .ok (.iconst 1, 1) := by decide +kernel
theorem dX5_number_16 : decode cX5_number 16 = .ok (.if_icmp .eq 5, 3) := by decide +kernel
theorem dX5_number_19 : decode cX5_number 19 = .ok (.iconst (-1), 1) := by decide +kernel
theorem dX5_number_20 : decode cX5_number 20 = .ok (.ireturn, 1) := by decide +kernel
theorem dX5_number_21 : decode cX5_number 21 = .ok (.iconst 0, 1) := by decide +kernel
theorem dX5_number_22 : decode cX5_number 22 = .ok (.istore_n 3, 1) := by decide +kernel
theorem dX5_number_23 : decode cX5_number 23 = .ok (.aload_n 0, 1) := by decide +kernel
theorem dX5_number_24 : decode cX5_number 24 = .ok (.getfield 45, 3) := by decide +kernel
theorem dX5_number_27 : decode cX5_number 27 = .ok (.istore 4, 2) := by decide +kernel
theorem dX5_number_29 : decode cX5_number 29 = .ok (.iload 4, 2) := by decide +kernel
theorem dX5_number_31 : decode cX5_number 31 = .ok (.aload_n 0, 1) := by decide +kernel
theorem dX5_number_32 : decode cX5_number 32 = .ok (.getfield 27, 3) := by decide +kernel
theorem dX5_number_35 : decode cX5_number 35 = .ok (.if_icmp .ge 33, 3) := by decide +kernel
theorem dX5_number_38 : decode cX5_number 38 = .ok (.iload_n 3, 1) := by decide +kernel
theorem dX5_number_39 : decode cX5_number 39 = .ok (.iload_n 2, 1) := by decide +kernel
theorem dX5_number_40 : decode cX5_number 40 = .ok (.if_icmp .gt 28, 3) := by decide +kernel
theorem dX5_number_43 : decode cX5_number 43 = .ok (.iload_n 3, 1) := by decide +kernel
theorem dX5_number_44 : decode cX5_number 44 = .ok (.bipush 10, 2) := by decide +kernel
theorem dX5_number_46 : decode cX5_number 46 = .ok (.imul, 1) := by decide +kernel
theorem dX5_number_47 : decode cX5_number 47 = .ok (.aload_n 0, 1) := by decide +kernel
theorem dX5_number_48 : decode cX5_number 48 = .ok (.getfield 15, 3) := by decide +kernel
theorem dX5_number_51 : decode cX5_number 51 = .ok (.iload 4, 2) := by decide +kernel
theorem dX5_number_53 : decode cX5_number 53 = .ok (.iconst 0, 1) := by decide +kernel
theorem dX5_number_54 : decode cX5_number 54 = .ok (.invokevirtual 62, 3) := by decide +kernel
theorem dX5_number_57 : decode cX5_number 57 = .ok (.iadd, 1) := by decide +kernel
theorem dX5_number_58 : decode cX5_number 58 = .ok (.bipush 48, 2) := by decide +kernel
theorem dX5_number_60 : decode cX5_number 60 = .ok (.isub, 1) := by decide +kernel
theorem dX5_number_61 : decode cX5_number 61 = .ok (.istore_n 3, 1) := by decide +kernel
theorem dX5_number_62 : decode cX5_number 62 = .ok (.iinc 4 1, 3) := by decide +kernel
theorem dX5_number_65 : decode cX5_number 65 = .ok (.goto (-36), 3) := by decide +kernel
theorem dX5_number_68 : decode cX5_number 68 = .ok (.iload_n 3, 1) := by decide +kernel
theorem dX5_number_69 : decode cX5_number 69 = .ok (.iload_n 1, 1) := by decide +kernel
theorem dX5_number_70 : decode cX5_number 70 = .ok (.iload_n 2, 1) := by decide +kernel
theorem dX5_number_71 : decode cX5_number 71 = .ok (.invokestatic 85, 3) := by decide +kernel
theorem dX5_number_74 : decode cX5_number 74 = .ok (.ifCond .eq 7, 3) := by decide +kernel
theorem dX5_number_77 : decode cX5_number 77 = .ok (.iload_n 3, 1) := by decide +kernel
theorem dX5_number_78 : decode cX5_number 78 = .ok (.goto 4, 3) := by decide +kernel
theorem dX5_number_81 : decode cX5_number 81 = .ok (.iconst (-1), 1) := by decide +kernel
theorem dX5_number_82 : decode cX5_number 82 = .ok (.ireturn, 1) := by decide +kernel
theorem dX5_clause_0 : decode cX5_clause 0 = .ok (.aload_n 0, 1) := by decide +kernel
theorem dX5_clause_1 : decode cX5_clause 1 = .ok (.invokevirtual 89, 3) := by decide +kernel
theorem dX5_clause_4 : decode cX5_clause 4 = .ok (.istore_n 1, 1) := by decide +kernel
theorem dX5_clause_5 : decode cX5_clause 5 = .ok (.iload_n 1, 1) := by decide +kernel
theorem dX5_clause_6 : decode cX5_clause 6 = .ok (.iconst (-1), 1) := by decide +kernel
theorem dX5_clause_7 : decode cX5_clause 7 = .ok (.if_icmp .ne 7, 3) := by decide +kernel
theorem dX5_clause_10 : decode cX5_clause 10 = .ok (.iconst (-1), 1) := by decide +kernel
theorem dX5_clause_11 : decode cX5_clause 11 = .ok (.goto 13, 3) := by decide +kernel
theorem dX5_clause_14 : decode cX5_clause 14 = .ok (.aload_n 0, 1) := by decide +kernel
theorem dX5_clause_15 : decode cX5_clause 15 = .ok (.getfield 19, 3) := by decide +kernel
theorem dX5_clause_18 : decode cX5_clause 18 = .ok (.getfield 92, 3) := by decide +kernel
theorem dX5_clause_21 : decode cX5_clause 21 = .ok (.invokevirtual 95, 3) := by decide +kernel
theorem dX5_clause_24 : decode cX5_clause 24 = .ok (.istore_n 2, 1) := by decide +kernel
theorem dX5_clause_25 : decode cX5_clause 25 = .ok (.iload_n 2, 1) := by decide +kernel
theorem dX5_clause_26 : decode cX5_clause 26 = .ok (.iconst (-1), 1) := by decide +kernel
theorem dX5_clause_27 : decode cX5_clause 27 = .ok (.if_icmp .ne 8, 3) := by decide +kernel
theorem dX5_clause_30 : decode cX5_clause 30 = .ok (.aload_n 0, 1) := by decide +kernel
theorem dX5_clause_31 : decode cX5_clause 31 = .ok (.invokevirtual 59, 3) := by decide +kernel
theorem dX5_clause_34 : decode cX5_clause 34 = .ok (.ireturn, 1) := by decide +kernel
theorem dX5_clause_35 : decode cX5_clause 35 = .ok (.aload_n 0, 1) := by decide +kernel
theorem dX5_clause_36 : decode cX5_clause 36 = .ok (.getfield 19, 3) := by decide +kernel
theorem dX5_clause_39 : decode cX5_clause 39 = .ok (.getfield 92, 3) := by decide +kernel
theorem dX5_clause_42 : decode cX5_clause 42 = .ok (.iload_n 2, 1) := by decide +kernel
theorem dX5_clause_43 : decode cX5_clause 43 = .ok (.iconst 0, 1) := by decide +kernel
theorem dX5_clause_44 : decode cX5_clause 44 = .ok (.iload_n 1, 1) := by decide +kernel
theorem dX5_clause_45 : decode cX5_clause 45 = .ok (.invokevirtual 98, 3) := by decide +kernel
theorem dX5_clause_48 : decode cX5_clause 48 = .ok (.aload_n 0, 1) := by decide +kernel
theorem dX5_clause_49 : decode cX5_clause 49 = .ok (.getfield 19, 3) := by decide +kernel
theorem dX5_clause_52 : decode cX5_clause 52 = .ok (.getfield 92, 3) := by decide +kernel
theorem dX5_clause_55 : decode cX5_clause 55 = .ok (.iload_n 2, 1) := by decide +kernel
theorem dX5_clause_56 : decode cX5_clause 56 = .ok (.iconst 1, 1) := by decide +kernel
theorem dX5_clause_57 : decode cX5_clause 57 = .ok (.iconst 1, 1) := by decide +kernel
theorem dX5_clause_58 : decode cX5_clause 58 = .ok (.invokevirtual 98, 3) := by decide +kernel
theorem dX5_clause_61 : decode cX5_clause 61 = .ok (.aload_n 0, 1) := by decide +kernel
theorem dX5_clause_62 : decode cX5_clause 62 = .ok (.invokevirtual 38, 3) := by decide +kernel
theorem dX5_clause_65 : decode cX5_clause 65 = .ok (.aload_n 0, 1) := by decide +kernel
theorem dX5_clause_66 : decode cX5_clause 66 = .ok (.iload_n 1, 1) := by decide +kernel
theorem dX5_clause_67 : decode cX5_clause 67 = .ok (.invokevirtual 102, 3) := by decide +kernel
theorem dX5_clause_70 : decode cX5_clause 70 = .ok (.ifCond .ne 5, 3) := by decide +kernel
theorem dX5_clause_73 : decode cX5_clause 73 = .ok (.iconst 0, 1) := by decide +kernel
theorem dX5_clause_74 : decode cX5_clause 74 = .ok (.ireturn, 1) := by decide +kernel
theorem dX5_clause_75 : decode cX5_clause 75 = .ok (.aload_n 0, 1) := by decide +kernel
theorem dX5_clause_76 : decode cX5_clause 76 = .ok (.getfield 23, 3) := by decide +kernel
theorem dX5_clause_79 : decode cX5_clause 79 = .ok (.ifCond .eq 51, 3) := by decide +kernel
theorem dX5_clause_82 : decode cX5_clause 82 = .ok (.aload_n 0, 1) := by decide +kernel
theorem dX5_clause_83 : decode cX5_clause 83 = .ok (.ldc 106, 2) := by decide +kernel
theorem dX5_clause_85 : decode cX5_clause 85 = .ok (.invokevirtual 55, 3) := by decide +kernel
theorem dX5_clause_88 : decode cX5_clause 88 = .ok (.ifCond .eq 42, 3) := by decide +kernel
theorem dX5_clause_91 : decode cX5_clause 91 = .ok (.aload_n 0, 1) := by decide +kernel
theorem dX5_clause_92 : decode cX5_clause 92 = .ok (.invokevirtual 38, 3) := by decide +kernel
theorem dX5_clause_95 : decode cX5_clause 95 = .ok (.aload_n 0, 1) := by decide +kernel
theorem dX5_clause_96 : decode cX5_clause 96 = .ok (.iconst 1, 1) := by decide +kernel
theorem dX5_clause_97 : decode cX5_clause 97 = .ok (.bipush 20, 2) := by decide +kernel
theorem dX5_clause_99 : decode cX5_clause 99 = .ok (.invokevirtual 108, 3) := by decide +kernel
theorem dX5_clause_102 : decode cX5_clause 102 = .ok (.istore_n 3, 1) := by decide +kernel
theorem dX5_clause_103 : decode cX5_clause 103 = .ok (.iload_n 3, 1) := by decide +kernel
theorem dX5_clause_104 : decode cX5_clause 104 = .ok (.iconst (-1), 1) := by decide +kernel
theorem dX5_clause_105 : decode cX5_clause 105 = .ok (.if_icmp .ne 8, 3) := by decide +kernel
theorem dX5_clause_108 : decode cX5_clause 108 = .ok (.aload_n 0, 1) := by decide +kernel
theorem dX5_clause_109 : decode cX5_clause 109 = .ok (.invokevirtual 59, 3) := by decide +kernel
theorem dX5_clause_112 : decode cX5_clause 112 = .ok (.ireturn, 1) := by decide +kernel
theorem dX5_clause_113 : decode cX5_clause 113 = .ok (.aload_n 0, 1) := by decide +kernel
theorem dX5_clause_114 : decode cX5_clause 114 = .ok (.getfield 19, 3) := by decide +kernel
theorem dX5_clause_117 : decode cX5_clause 117 = .ok (.getfield 92, 3) := by decide +kernel
theorem dX5_clause_120 : decode cX5_clause 120 = .ok (.iload_n 2, 1) := by decide +kernel
theorem dX5_clause_121 : decode cX5_clause 121 = .ok (.iconst 1, 1) := by decide +kernel
theorem dX5_clause_122 : decode cX5_clause 122 = .ok (.iload_n 3, 1) := by decide +kernel
theorem dX5_clause_123 : decode cX5_clause 123 = .ok (.invokevirtual 98, 3) := by decide +kernel
theorem dX5_clause_126 : decode cX5_clause 126 = .ok (.aload_n 0, 1) := by decide +kernel
theorem dX5_clause_127 : decode cX5_clause 127 = .ok (.invokevirtual 38, 3) := by decide +kernel
theorem dX5_clause_130 : decode cX5_clause 130 = .ok (.aload_n 0, 1) := by decide +kernel
theorem dX5_clause_131 : decode cX5_clause 131 = .ok (.ldc 111, 2) := by decide +kernel
theorem dX5_clause_133 : decode cX5_clause 133 = .ok (.invokevirtual 55, 3) := by decide +kernel
theorem dX5_clause_136 : decode cX5_clause 136 = .ok (.ifCond .eq 17, 3) := by decide +kernel
theorem dX5_clause_139 : decode cX5_clause 139 = .ok (.aload_n 0, 1) := by decide +kernel
theorem dX5_clause_140 : decode cX5_clause 140 = .ok (.invokevirtual 38, 3) := by decide +kernel
theorem dX5_clause_143 : decode cX5_clause 143 = .ok (.aload_n 0, 1) := by decide +kernel
theorem dX5_clause_144 : decode cX5_clause 144 = .ok (.iconst 0, 1) := by decide +kernel
theorem dX5_clause_145 : decode cX5_clause 145 = .ok (.invokevirtual 113, 3) := by decide +kernel
theorem dX5_clause_148 : decode cX5_clause 148 = .ok (.ifCond .ne 5, 3) := by decide +kernel
theorem dX5_clause_151 : decode cX5_clause 151 = .ok (.iconst 0, 1) := by decide +kernel
theorem dX5_clause_152 : decode cX5_clause 152 = .ok (.ireturn, 1) := by decide +kernel
theorem dX5_clause_153 : decode cX5_clause 153 = .ok (.aload_n 0, 1) := by decide +kernel
theorem dX5_clause_154 : decode cX5_clause 154 = .ok (.getfield 19, 3) := by decide +kernel
theorem dX5_clause_157 : decode cX5_clause 157 = .ok (.iconst 4, 1) := by decide +kernel
theorem dX5_clause_158 : decode cX5_clause 158 = .ok (.invokevirtual 116, 3) := by decide +kernel
theorem dX5_clause_161 : decode cX5_clause 161 = .ok (.iconst 1, 1) := by decide +kernel
theorem dX5_clause_162 : decode cX5_clause 162 = .ok (.ireturn, 1) := by decide +kernel
theorem dX5_clauseKind_0 : decode cX5_clauseKind 0 = .ok (.aload_n 0, 1) := by decide +kernel
theorem dX5_clauseKind_1 : decode cX5_clauseKind 1 = .ok (.getfield 23, 3) := by decide +kernel
theorem dX5_clauseKind_4 : decode cX5_clauseKind 4 = .ok (.ifCond .eq 31, 3) := by decide +kernel
theorem dX5_clauseKind_7 : decode cX5_clauseKind 7 = .ok (.aload_n 0, 1) := by decide +kernel
theorem dX5_clauseKind_8 : decode cX5_clauseKind 8 = .ok (.ldc 120, 2) := by decide +kernel
theorem dX5_clauseKind_10 : decode cX5_clauseKind 10 = .ok (.invokevirtual 55, 3) := by decide +kernel
theorem dX5_clauseKind_13 : decode cX5_clauseKind 13 = .ok (.ifCond .eq 7, 3) := by decide +kernel
theorem dX5_clauseKind_16 : decode cX5_clauseKind 16 = .ok (.iconst 3, 1) := by decide +kernel
theorem dX5_clauseKind_17 : decode cX5_clauseKind 17 = .ok (.goto 17, 3) := by decide +kernel
theorem dX5_clauseKind_20 : decode cX5_clauseKind 20 = .ok (.aload_n 0, 1) := by decide +kernel
theorem dX5_clauseKind_21 : decode cX5_clauseKind 21 = .ok (.ldc 122, 2) := by decide +kernel
theorem dX5_clauseKind_23 : decode cX5_clauseKind 23 = .ok (.invokevirtual 55, 3) := by decide +kernel
theorem dX5_clauseKind_26 : decode cX5_clauseKind 26 = .ok (.ifCond .eq 7, 3) := by decide +kernel
theorem dX5_clauseKind_29 : decode cX5_clauseKind 29 = .ok (.iconst 4, 1) := by decide +kernel
theorem dX5_clauseKind_30 : decode cX5_clauseKind 30 = .ok (.goto 4, 3) := by decide +kernel
theorem dX5_clauseKind_33 : decode cX5_clauseKind 33 = .ok (.iconst (-1), 1) := by decide +kernel
theorem dX5_clauseKind_34 : decode cX5_clauseKind 34 = .ok (.ireturn, 1) := by decide +kernel
theorem dX5_clauseKind_35 : decode cX5_clauseKind 35 = .ok (.aload_n 0, 1) := by decide +kernel
theorem dX5_clauseKind_36 : decode cX5_clauseKind 36 = .ok (.ldc 124, 2) := by decide +kernel
theorem dX5_clauseKind_38 : decode cX5_clauseKind 38 = .ok (.invokevirtual 55, 3) := by decide +kernel
theorem dX5_clauseKind_41 : decode cX5_clauseKind 41 = .ok (.ifCond .eq 7, 3) := by decide +kernel
theorem dX5_clauseKind_44 : decode cX5_clauseKind 44 = .ok (.iconst 0, 1) := by decide +kernel
theorem dX5_clauseKind_45 : decode cX5_clauseKind 45 = .ok (.goto 30, 3) := by decide +kernel
theorem dX5_clauseKind_48 : decode cX5_clauseKind 48 = .ok (.aload_n 0, 1) := by decide +kernel
theorem dX5_clauseKind_49 : decode cX5_clauseKind 49 = .ok (.ldc 126, 2) := by decide +kernel
theorem dX5_clauseKind_51 : decode cX5_clauseKind 51 = .ok (.invokevirtual 55, 3) := by decide +kernel
theorem dX5_clauseKind_54 : decode cX5_clauseKind 54 = .ok (.ifCond .eq 7, 3) := by decide +kernel
theorem dX5_clauseKind_57 : decode cX5_clauseKind 57 = .ok (.iconst 1, 1) := by decide +kernel
theorem dX5_clauseKind_58 : decode cX5_clauseKind 58 = .ok (.goto 17, 3) := by decide +kernel
theorem dX5_clauseKind_61 : decode cX5_clauseKind 61 = .ok (.aload_n 0, 1) := by decide +kernel
theorem dX5_clauseKind_62 : decode cX5_clauseKind 62 = .ok (.ldc 128, 2) := by decide +kernel
theorem dX5_clauseKind_64 : decode cX5_clauseKind 64 = .ok (.invokevirtual 55, 3) := by decide +kernel
theorem dX5_clauseKind_67 : decode cX5_clauseKind 67 = .ok (.ifCond .eq 7, 3) := by decide +kernel
theorem dX5_clauseKind_70 : decode cX5_clauseKind 70 = .ok (.iconst 2, 1) := by decide +kernel
theorem dX5_clauseKind_71 : decode cX5_clauseKind 71 = .ok (.goto 4, 3) := by decide +kernel
theorem dX5_clauseKind_74 : decode cX5_clauseKind 74 = .ok (.iconst (-1), 1) := by decide +kernel
theorem dX5_clauseKind_75 : decode cX5_clauseKind 75 = .ok (.ireturn, 1) := by decide +kernel
theorem dX5_sums_0 : decode cX5_sums 0 = .ok (.iload_n 1, 1) := by decide +kernel
theorem dX5_sums_1 : decode cX5_sums 1 = .ok (.iconst 3, 1) := by decide +kernel
theorem dX5_sums_2 : decode cX5_sums 2 = .ok (.if_icmp .ne 7, 3) := by decide +kernel
theorem dX5_sums_5 : decode cX5_sums 5 = .ok (.iconst 3, 1) := by decide +kernel
theorem dX5_sums_6 : decode cX5_sums 6 = .ok (.goto 17, 3) := by decide +kernel
theorem dX5_sums_9 : decode cX5_sums 9 = .ok (.iload_n 1, 1) := by decide +kernel
theorem dX5_sums_10 : decode cX5_sums 10 = .ok (.ifCond .eq 8, 3) := by decide +kernel
theorem dX5_sums_13 : decode cX5_sums 13 = .ok (.iload_n 1, 1) := by decide +kernel
theorem dX5_sums_14 : decode cX5_sums 14 = .ok (.iconst 1, 1) := by decide +kernel
theorem dX5_sums_15 : decode cX5_sums 15 = .ok (.if_icmp .ne 7, 3) := by decide +kernel
theorem dX5_sums_18 : decode cX5_sums 18 = .ok (.iconst 1, 1) := by decide +kernel
theorem dX5_sums_19 : decode cX5_sums 19 = .ok (.goto 4, 3) := by decide +kernel
theorem dX5_sums_22 : decode cX5_sums 22 = .ok (.iconst 0, 1) := by decide +kernel
theorem dX5_sums_23 : decode cX5_sums 23 = .ok (.istore_n 2, 1) := by decide +kernel
theorem dX5_sums_24 : decode cX5_sums 24 = .ok (.iconst 0, 1) := by decide +kernel
theorem dX5_sums_25 : decode cX5_sums 25 = .ok (.istore_n 3, 1) := by decide +kernel
theorem dX5_sums_26 : decode cX5_sums 26 = .ok (.iload_n 3, 1) := by decide +kernel
theorem dX5_sums_27 : decode cX5_sums 27 = .ok (.iconst 3, 1) := by decide +kernel
theorem dX5_sums_28 : decode cX5_sums 28 = .ok (.if_icmp .ge 57, 3) := by decide +kernel
theorem dX5_sums_31 : decode cX5_sums 31 = .ok (.aload_n 0, 1) := by decide +kernel
theorem dX5_sums_32 : decode cX5_sums 32 = .ok (.getfield 19, 3) := by decide +kernel
theorem dX5_sums_35 : decode cX5_sums 35 = .ok (.iload_n 3, 1) := by decide +kernel
theorem dX5_sums_36 : decode cX5_sums 36 = .ok (.invokevirtual 116, 3) := by decide +kernel
theorem dX5_sums_39 : decode cX5_sums 39 = .ok (.iload_n 3, 1) := by decide +kernel
theorem dX5_sums_40 : decode cX5_sums 40 = .ok (.iload_n 2, 1) := by decide +kernel
theorem dX5_sums_41 : decode cX5_sums 41 = .ok (.if_icmp .ge 38, 3) := by decide +kernel
theorem dX5_sums_44 : decode cX5_sums 44 = .ok (.iload_n 3, 1) := by decide +kernel
theorem dX5_sums_45 : decode cX5_sums 45 = .ok (.ifCond .le 24, 3) := by decide +kernel
theorem dX5_sums_48 : decode cX5_sums 48 = .ok (.aload_n 0, 1) := by decide +kernel
theorem dX5_sums_49 : decode cX5_sums 49 = .ok (.iload_n 3, 1) := by decide +kernel
theorem dX5_sums_50 : decode cX5_sums 50 = .ok (.iconst 1, 1) := by decide +kernel
theorem dX5_sums_51 : decode cX5_sums 51 = .ok (.if_icmp .ne 8, 3) := by decide +kernel
theorem dX5_sums_54 : decode cX5_sums 54 = .ok (.ldc 130, 2) := by decide +kernel
theorem dX5_sums_56 : decode cX5_sums 56 = .ok (.goto 5, 3) := by decide +kernel
theorem dX5_sums_59 : decode cX5_sums 59 = .ok (.ldc 132, 2) := by decide +kernel
theorem dX5_sums_61 : decode cX5_sums 61 = .ok (.invokevirtual 134, 3) := by decide +kernel
theorem dX5_sums_64 : decode cX5_sums 64 = .ok (.ifCond .ne 5, 3) := by decide +kernel
theorem dX5_sums_67 : decode cX5_sums 67 = .ok (.iconst 0, 1) := by decide +kernel
theorem dX5_sums_68 : decode cX5_sums 68 = .ok (.ireturn, 1) := by decide +kernel
theorem dX5_sums_69 : decode cX5_sums 69 = .ok (.aload_n 0, 1) := by decide +kernel
theorem dX5_sums_70 : decode cX5_sums 70 = .ok (.iconst 0, 1) := by decide +kernel
theorem dX5_sums_71 : decode cX5_sums 71 = .ok (.invokevirtual 137, 3) := by decide +kernel
theorem dX5_sums_74 : decode cX5_sums 74 = .ok (.ifCond .ne 5, 3) := by decide +kernel
theorem dX5_sums_77 : decode cX5_sums 77 = .ok (.iconst 0, 1) := by decide +kernel
theorem dX5_sums_78 : decode cX5_sums 78 = .ok (.ireturn, 1) := by decide +kernel
theorem dX5_sums_79 : decode cX5_sums 79 = .ok (.iinc 3 1, 3) := by decide +kernel
theorem dX5_sums_82 : decode cX5_sums 82 = .ok (.goto (-56), 3) := by decide +kernel
theorem dX5_sums_85 : decode cX5_sums 85 = .ok (.aload_n 0, 1) := by decide +kernel
theorem dX5_sums_86 : decode cX5_sums 86 = .ok (.getfield 19, 3) := by decide +kernel
theorem dX5_sums_89 : decode cX5_sums 89 = .ok (.iconst 3, 1) := by decide +kernel
theorem dX5_sums_90 : decode cX5_sums 90 = .ok (.invokevirtual 116, 3) := by decide +kernel
theorem dX5_sums_93 : decode cX5_sums 93 = .ok (.iconst 1, 1) := by decide +kernel
theorem dX5_sums_94 : decode cX5_sums 94 = .ok (.ireturn, 1) := by decide +kernel
theorem dX5_test_0 : decode cX5_test 0 = .ok (.aload_n 0, 1) := by decide +kernel
theorem dX5_test_1 : decode cX5_test 1 = .ok (.iload_n 1, 1) := by decide +kernel
theorem dX5_test_2 : decode cX5_test 2 = .ok (.invokevirtual 140, 3) := by decide +kernel
theorem dX5_test_5 : decode cX5_test 5 = .ok (.ifCond .ne 5, 3) := by decide +kernel
theorem dX5_test_8 : decode cX5_test 8 = .ok (.iconst 0, 1) := by decide +kernel
theorem dX5_test_9 : decode cX5_test 9 = .ok (.ireturn, 1) := by decide +kernel
theorem dX5_test_10 : decode cX5_test 10 = .ok (.iconst 0, 1) := by decide +kernel
theorem dX5_test_11 : decode cX5_test 11 = .ok (.istore_n 2, 1) := by decide +kernel
theorem dX5_test_12 : decode cX5_test 12 = .ok (.iload_n 2, 1) := by decide +kernel
theorem dX5_test_13 : decode cX5_test 13 = .ok (.sipush 400, 3) := by decide +kernel
theorem dX5_test_16 : decode cX5_test 16 = .ok (.if_icmp .ge 58, 3) := by decide +kernel
theorem dX5_test_19 : decode cX5_test 19 = .ok (.aload_n 0, 1) := by decide +kernel
theorem dX5_test_20 : decode cX5_test 20 = .ok (.ldc 143, 2) := by decide +kernel
theorem dX5_test_22 : decode cX5_test 22 = .ok (.invokevirtual 55, 3) := by decide +kernel
theorem dX5_test_25 : decode cX5_test 25 = .ok (.ifCond .eq 49, 3) := by decide +kernel
theorem dX5_test_28 : decode cX5_test 28 = .ok (.aload_n 0, 1) := by decide +kernel
theorem dX5_test_29 : decode cX5_test 29 = .ok (.getfield 19, 3) := by decide +kernel
theorem dX5_test_32 : decode cX5_test 32 = .ok (.getfield 145, 3) := by decide +kernel
theorem dX5_test_35 : decode cX5_test 35 = .ok (.istore_n 3, 1) := by decide +kernel
theorem dX5_test_36 : decode cX5_test 36 = .ok (.aload_n 0, 1) := by decide +kernel
theorem dX5_test_37 : decode cX5_test 37 = .ok (.getfield 19, 3) := by decide +kernel
theorem dX5_test_40 : decode cX5_test 40 = .ok (.sipush 8192, 3) := by decide +kernel
theorem dX5_test_43 : decode cX5_test 43 = .ok (.invokevirtual 146, 3) := by decide +kernel
theorem dX5_test_46 : decode cX5_test 46 = .ok (.aload_n 0, 1) := by decide +kernel
theorem dX5_test_47 : decode cX5_test 47 = .ok (.invokevirtual 38, 3) := by decide +kernel
theorem dX5_test_50 : decode cX5_test 50 = .ok (.aload_n 0, 1) := by decide +kernel
theorem dX5_test_51 : decode cX5_test 51 = .ok (.iload_n 1, 1) := by decide +kernel
theorem dX5_test_52 : decode cX5_test 52 = .ok (.invokevirtual 140, 3) := by decide +kernel
theorem dX5_test_55 : decode cX5_test 55 = .ok (.ifCond .ne 5, 3) := by decide +kernel
theorem dX5_test_58 : decode cX5_test 58 = .ok (.iconst 0, 1) := by decide +kernel
theorem dX5_test_59 : decode cX5_test 59 = .ok (.ireturn, 1) := by decide +kernel
theorem dX5_test_60 : decode cX5_test 60 = .ok (.aload_n 0, 1) := by decide +kernel
theorem dX5_test_61 : decode cX5_test 61 = .ok (.getfield 19, 3) := by decide +kernel
theorem dX5_test_64 : decode cX5_test 64 = .ok (.iload_n 3, 1) := by decide +kernel
theorem dX5_test_65 : decode cX5_test 65 = .ok (.invokevirtual 149, 3) := by decide +kernel
theorem dX5_test_68 : decode cX5_test 68 = .ok (.iinc 2 1, 3) := by decide +kernel
theorem dX5_test_71 : decode cX5_test 71 = .ok (.goto (-59), 3) := by decide +kernel
theorem dX5_test_74 : decode cX5_test 74 = .ok (.iconst 1, 1) := by decide +kernel
theorem dX5_test_75 : decode cX5_test 75 = .ok (.ireturn, 1) := by decide +kernel
theorem dX5_both_0 : decode cX5_both 0 = .ok (.aload_n 0, 1) := by decide +kernel
theorem dX5_both_1 : decode cX5_both 1 = .ok (.iload_n 1, 1) := by decide +kernel
theorem dX5_both_2 : decode cX5_both 2 = .ok (.invokevirtual 152, 3) := by decide +kernel
theorem dX5_both_5 : decode cX5_both 5 = .ok (.ifCond .ne 5, 3) := by decide +kernel
theorem dX5_both_8 : decode cX5_both 8 = .ok (.iconst 0, 1) := by decide +kernel
theorem dX5_both_9 : decode cX5_both 9 = .ok (.ireturn, 1) := by decide +kernel
theorem dX5_both_10 : decode cX5_both 10 = .ok (.iconst 0, 1) := by decide +kernel
theorem dX5_both_11 : decode cX5_both 11 = .ok (.istore_n 2, 1) := by decide +kernel
theorem dX5_both_12 : decode cX5_both 12 = .ok (.iload_n 2, 1) := by decide +kernel
theorem dX5_both_13 : decode cX5_both 13 = .ok (.sipush 400, 3) := by decide +kernel
theorem dX5_both_16 : decode cX5_both 16 = .ok (.if_icmp .ge 58, 3) := by decide +kernel
theorem dX5_both_19 : decode cX5_both 19 = .ok (.aload_n 0, 1) := by decide +kernel
theorem dX5_both_20 : decode cX5_both 20 = .ok (.ldc 155, 2) := by decide +kernel
theorem dX5_both_22 : decode cX5_both 22 = .ok (.invokevirtual 55, 3) := by decide +kernel
theorem dX5_both_25 : decode cX5_both 25 = .ok (.ifCond .eq 49, 3) := by decide +kernel
theorem dX5_both_28 : decode cX5_both 28 = .ok (.aload_n 0, 1) := by decide +kernel
theorem dX5_both_29 : decode cX5_both 29 = .ok (.getfield 19, 3) := by decide +kernel
theorem dX5_both_32 : decode cX5_both 32 = .ok (.getfield 145, 3) := by decide +kernel
theorem dX5_both_35 : decode cX5_both 35 = .ok (.istore_n 3, 1) := by decide +kernel
theorem dX5_both_36 : decode cX5_both 36 = .ok (.aload_n 0, 1) := by decide +kernel
theorem dX5_both_37 : decode cX5_both 37 = .ok (.getfield 19, 3) := by decide +kernel
theorem dX5_both_40 : decode cX5_both 40 = .ok (.sipush 6144, 3) := by decide +kernel
theorem dX5_both_43 : decode cX5_both 43 = .ok (.invokevirtual 146, 3) := by decide +kernel
theorem dX5_both_46 : decode cX5_both 46 = .ok (.aload_n 0, 1) := by decide +kernel
theorem dX5_both_47 : decode cX5_both 47 = .ok (.invokevirtual 38, 3) := by decide +kernel
theorem dX5_both_50 : decode cX5_both 50 = .ok (.aload_n 0, 1) := by decide +kernel
theorem dX5_both_51 : decode cX5_both 51 = .ok (.iload_n 1, 1) := by decide +kernel
theorem dX5_both_52 : decode cX5_both 52 = .ok (.invokevirtual 152, 3) := by decide +kernel
theorem dX5_both_55 : decode cX5_both 55 = .ok (.ifCond .ne 5, 3) := by decide +kernel
theorem dX5_both_58 : decode cX5_both 58 = .ok (.iconst 0, 1) := by decide +kernel
theorem dX5_both_59 : decode cX5_both 59 = .ok (.ireturn, 1) := by decide +kernel
theorem dX5_both_60 : decode cX5_both 60 = .ok (.aload_n 0, 1) := by decide +kernel
theorem dX5_both_61 : decode cX5_both 61 = .ok (.getfield 19, 3) := by decide +kernel
theorem dX5_both_64 : decode cX5_both 64 = .ok (.iload_n 3, 1) := by decide +kernel
theorem dX5_both_65 : decode cX5_both 65 = .ok (.invokevirtual 149, 3) := by decide +kernel
theorem dX5_both_68 : decode cX5_both 68 = .ok (.iinc 2 1, 3) := by decide +kernel
theorem dX5_both_71 : decode cX5_both 71 = .ok (.goto (-59), 3) := by decide +kernel
theorem dX5_both_74 : decode cX5_both 74 = .ok (.iconst 1, 1) := by decide +kernel
theorem dX5_both_75 : decode cX5_both 75 = .ok (.ireturn, 1) := by decide +kernel
theorem dX5_plain_0 : decode cX5_plain 0 = .ok (.iconst 0, 1) := by decide +kernel
theorem dX5_plain_1 : decode cX5_plain 1 = .ok (.istore_n 2, 1) := by decide +kernel
theorem dX5_plain_2 : decode cX5_plain 2 = .ok (.iload_n 2, 1) := by decide +kernel
theorem dX5_plain_3 : decode cX5_plain 3 = .ok (.sipush 400, 3) := by decide +kernel
theorem dX5_plain_6 : decode cX5_plain 6 = .ok (.if_icmp .ge 22, 3) := by decide +kernel
theorem dX5_plain_9 : decode cX5_plain 9 = .ok (.aload_n 0, 1) := by decide +kernel
theorem dX5_plain_10 : decode cX5_plain 10 = .ok (.ldc 157, 2) := by decide +kernel
theorem dX5_plain_12 : decode cX5_plain 12 = .ok (.invokevirtual 55, 3) := by decide +kernel
theorem dX5_plain_15 : decode cX5_plain 15 = .ok (.ifCond .eq 13, 3) := by decide +kernel
theorem dX5_plain_18 : decode cX5_plain 18 = .ok (.iinc 2 1, 3) := by decide +kernel
theorem dX5_plain_21 : decode cX5_plain 21 = .ok (.aload_n 0, 1) := by decide +kernel
theorem dX5_plain_22 : decode cX5_plain 22 = .ok (.invokevirtual 38, 3) := by decide +kernel
theorem dX5_plain_25 : decode cX5_plain 25 = .ok (.goto (-23), 3) := by decide +kernel
theorem dX5_plain_28 : decode cX5_plain 28 = .ok (.aload_n 0, 1) := by decide +kernel
theorem dX5_plain_29 : decode cX5_plain 29 = .ok (.ldc 159, 2) := by decide +kernel
theorem dX5_plain_31 : decode cX5_plain 31 = .ok (.invokevirtual 55, 3) := by decide +kernel
theorem dX5_plain_34 : decode cX5_plain 34 = .ok (.ifCond .eq 32, 3) := by decide +kernel
theorem dX5_plain_37 : decode cX5_plain 37 = .ok (.aload_n 0, 1) := by decide +kernel
theorem dX5_plain_38 : decode cX5_plain 38 = .ok (.iload_n 1, 1) := by decide +kernel
theorem dX5_plain_39 : decode cX5_plain 39 = .ok (.invokevirtual 161, 3) := by decide +kernel
theorem dX5_plain_42 : decode cX5_plain 42 = .ok (.ifCond .eq 22, 3) := by decide +kernel
theorem dX5_plain_45 : decode cX5_plain 45 = .ok (.aload_n 0, 1) := by decide +kernel
theorem dX5_plain_46 : decode cX5_plain 46 = .ok (.iload_n 1, 1) := by decide +kernel
theorem dX5_plain_47 : decode cX5_plain 47 = .ok (.iconst 1, 1) := by decide +kernel
theorem dX5_plain_48 : decode cX5_plain 48 = .ok (.iadd, 1) := by decide +kernel
theorem dX5_plain_49 : decode cX5_plain 49 = .ok (.invokevirtual 113, 3) := by decide +kernel
theorem dX5_plain_52 : decode cX5_plain 52 = .ok (.ifCond .eq 12, 3) := by decide +kernel
theorem dX5_plain_55 : decode cX5_plain 55 = .ok (.aload_n 0, 1) := by decide +kernel
theorem dX5_plain_56 : decode cX5_plain 56 = .ok (.ldc 164, 2) := by decide +kernel
theorem dX5_plain_58 : decode cX5_plain 58 = .ok (.invokevirtual 134, 3) := by decide +kernel
theorem dX5_plain_61 : decode cX5_plain 61 = .ok (.ifCond .ne 94, 3) := by decide +kernel
theorem dX5_plain_64 : decode cX5_plain 64 = .ok (.iconst 0, 1) := by decide +kernel
theorem dX5_plain_65 : decode cX5_plain 65 = .ok (.ireturn, 1) := by decide +kernel
theorem dX5_plain_66 : decode cX5_plain 66 = .ok (.aload_n 0, 1) := by decide +kernel
theorem dX5_plain_67 : decode cX5_plain 67 = .ok (.iload_n 1, 1) := by decide +kernel
theorem dX5_plain_68 : decode cX5_plain 68 = .ok (.invokevirtual 137, 3) := by decide +kernel
theorem dX5_plain_71 : decode cX5_plain 71 = .ok (.ifCond .ne 5, 3) := by decide +kernel
theorem dX5_plain_74 : decode cX5_plain 74 = .ok (.iconst 0, 1) := by decide +kernel
theorem dX5_plain_75 : decode cX5_plain 75 = .ok (.ireturn, 1) := by decide +kernel
theorem dX5_plain_76 : decode cX5_plain 76 = .ok (.aload_n 0, 1) := by decide +kernel
theorem dX5_plain_77 : decode cX5_plain 77 = .ok (.ldc 166, 2) := by decide +kernel
theorem dX5_plain_79 : decode cX5_plain 79 = .ok (.invokevirtual 55, 3) := by decide +kernel
theorem dX5_plain_82 : decode cX5_plain 82 = .ok (.ifCond .eq 7, 3) := by decide +kernel
theorem dX5_plain_85 : decode cX5_plain 85 = .ok (.iconst 5, 1) := by decide +kernel
theorem dX5_plain_86 : decode cX5_plain 86 = .ok (.goto 32, 3) := by decide +kernel
theorem dX5_plain_89 : decode cX5_plain 89 = .ok (.aload_n 0, 1) := by decide +kernel
theorem dX5_plain_90 : decode cX5_plain 90 = .ok (.ldc 168, 2) := by decide +kernel
theorem dX5_plain_92 : decode cX5_plain 92 = .ok (.invokevirtual 55, 3) := by decide +kernel
theorem dX5_plain_95 : decode cX5_plain 95 = .ok (.ifCond .eq 8, 3) := by decide +kernel
theorem dX5_plain_98 : decode cX5_plain 98 = .ok (.bipush 6, 2) := by decide +kernel
theorem dX5_plain_100 : decode cX5_plain 100 = .ok (.goto 18, 3) := by decide +kernel
theorem dX5_plain_103 : decode cX5_plain 103 = .ok (.aload_n 0, 1) := by decide +kernel
theorem dX5_plain_104 : decode cX5_plain 104 = .ok (.ldc 170, 2) := by decide +kernel
theorem dX5_plain_106 : decode cX5_plain 106 = .ok (.invokevirtual 55, 3) := by decide +kernel
theorem dX5_plain_109 : decode cX5_plain 109 = .ok (.ifCond .eq 8, 3) := by decide +kernel
theorem dX5_plain_112 : decode cX5_plain 112 = .ok (.bipush 7, 2) := by decide +kernel
theorem dX5_plain_114 : decode cX5_plain 114 = .ok (.goto 4, 3) := by decide +kernel
theorem dX5_plain_117 : decode cX5_plain 117 = .ok (.iconst (-1), 1) := by decide +kernel
theorem dX5_plain_118 : decode cX5_plain 118 = .ok (.istore_n 3, 1) := by decide +kernel
theorem dX5_plain_119 : decode cX5_plain 119 = .ok (.iload_n 3, 1) := by decide +kernel
theorem dX5_plain_120 : decode cX5_plain 120 = .ok (.iconst (-1), 1) := by decide +kernel
theorem dX5_plain_121 : decode cX5_plain 121 = .ok (.if_icmp .ne 8, 3) := by decide +kernel
theorem dX5_plain_124 : decode cX5_plain 124 = .ok (.aload_n 0, 1) := by decide +kernel
theorem dX5_plain_125 : decode cX5_plain 125 = .ok (.invokevirtual 59, 3) := by decide +kernel
theorem dX5_plain_128 : decode cX5_plain 128 = .ok (.ireturn, 1) := by decide +kernel
theorem dX5_plain_129 : decode cX5_plain 129 = .ok (.aload_n 0, 1) := by decide +kernel
theorem dX5_plain_130 : decode cX5_plain 130 = .ok (.invokevirtual 38, 3) := by decide +kernel
theorem dX5_plain_133 : decode cX5_plain 133 = .ok (.aload_n 0, 1) := by decide +kernel
theorem dX5_plain_134 : decode cX5_plain 134 = .ok (.iload_n 1, 1) := by decide +kernel
theorem dX5_plain_135 : decode cX5_plain 135 = .ok (.invokevirtual 137, 3) := by decide +kernel
theorem dX5_plain_138 : decode cX5_plain 138 = .ok (.ifCond .ne 5, 3) := by decide +kernel
theorem dX5_plain_141 : decode cX5_plain 141 = .ok (.iconst 0, 1) := by decide +kernel
theorem dX5_plain_142 : decode cX5_plain 142 = .ok (.ireturn, 1) := by decide +kernel
theorem dX5_plain_143 : decode cX5_plain 143 = .ok (.aload_n 0, 1) := by decide +kernel
theorem dX5_plain_144 : decode cX5_plain 144 = .ok (.getfield 19, 3) := by decide +kernel
theorem dX5_plain_147 : decode cX5_plain 147 = .ok (.iload_n 3, 1) := by decide +kernel
theorem dX5_plain_148 : decode cX5_plain 148 = .ok (.sipush 2048, 3) := by decide +kernel
theorem dX5_plain_151 : decode cX5_plain 151 = .ok (.imul, 1) := by decide +kernel
theorem dX5_plain_152 : decode cX5_plain 152 = .ok (.invokevirtual 146, 3) := by decide +kernel
theorem dX5_plain_155 : decode cX5_plain 155 = .ok (.iload_n 2, 1) := by decide +kernel
theorem dX5_plain_156 : decode cX5_plain 156 = .ok (.iconst 2, 1) := by decide +kernel
theorem dX5_plain_157 : decode cX5_plain 157 = .ok (.irem, 1) := by decide +kernel
theorem dX5_plain_158 : decode cX5_plain 158 = .ok (.iconst 1, 1) := by decide +kernel
theorem dX5_plain_159 : decode cX5_plain 159 = .ok (.if_icmp .ne 13, 3) := by decide +kernel
theorem dX5_plain_162 : decode cX5_plain 162 = .ok (.aload_n 0, 1) := by decide +kernel
theorem dX5_plain_163 : decode cX5_plain 163 = .ok (.getfield 19, 3) := by decide +kernel
theorem dX5_plain_166 : decode cX5_plain 166 = .ok (.sipush 4096, 3) := by decide +kernel
theorem dX5_plain_169 : decode cX5_plain 169 = .ok (.invokevirtual 146, 3) := by decide +kernel
theorem dX5_plain_172 : decode cX5_plain 172 = .ok (.iconst 1, 1) := by decide +kernel
theorem dX5_plain_173 : decode cX5_plain 173 = .ok (.ireturn, 1) := by decide +kernel
theorem dX5_sum_0 : decode cX5_sum 0 = .ok (.aload_n 0, 1) := by decide +kernel
theorem dX5_sum_1 : decode cX5_sum 1 = .ok (.iload_n 1, 1) := by decide +kernel
theorem dX5_sum_2 : decode cX5_sum 2 = .ok (.invokevirtual 172, 3) := by decide +kernel
theorem dX5_sum_5 : decode cX5_sum 5 = .ok (.ifCond .ne 5, 3) := by decide +kernel
theorem dX5_sum_8 : decode cX5_sum 8 = .ok (.iconst 0, 1) := by decide +kernel
theorem dX5_sum_9 : decode cX5_sum 9 = .ok (.ireturn, 1) := by decide +kernel
theorem dX5_sum_10 : decode cX5_sum 10 = .ok (.iconst 0, 1) := by decide +kernel
theorem dX5_sum_11 : decode cX5_sum 11 = .ok (.istore_n 2, 1) := by decide +kernel
theorem dX5_sum_12 : decode cX5_sum 12 = .ok (.iload_n 2, 1) := by decide +kernel
theorem dX5_sum_13 : decode cX5_sum 13 = .ok (.sipush 400, 3) := by decide +kernel
theorem dX5_sum_16 : decode cX5_sum 16 = .ok (.if_icmp .ge 70, 3) := by decide +kernel
theorem dX5_sum_19 : decode cX5_sum 19 = .ok (.aload_n 0, 1) := by decide +kernel
theorem dX5_sum_20 : decode cX5_sum 20 = .ok (.ldc 175, 2) := by decide +kernel
theorem dX5_sum_22 : decode cX5_sum 22 = .ok (.invokevirtual 55, 3) := by decide +kernel
theorem dX5_sum_25 : decode cX5_sum 25 = .ok (.ifCond .ne 12, 3) := by decide +kernel
theorem dX5_sum_28 : decode cX5_sum 28 = .ok (.aload_n 0, 1) := by decide +kernel
theorem dX5_sum_29 : decode cX5_sum 29 = .ok (.ldc 177, 2) := by decide +kernel
theorem dX5_sum_31 : decode cX5_sum 31 = .ok (.invokevirtual 55, 3) := by decide +kernel
theorem dX5_sum_34 : decode cX5_sum 34 = .ok (.ifCond .eq 52, 3) := by decide +kernel
theorem dX5_sum_37 : decode cX5_sum 37 = .ok (.aload_n 0, 1) := by decide +kernel
theorem dX5_sum_38 : decode cX5_sum 38 = .ok (.ldc 175, 2) := by decide +kernel
theorem dX5_sum_40 : decode cX5_sum 40 = .ok (.invokevirtual 55, 3) := by decide +kernel
theorem dX5_sum_43 : decode cX5_sum 43 = .ok (.ifCond .eq 8, 3) := by decide +kernel
theorem dX5_sum_46 : decode cX5_sum 46 = .ok (.bipush 8, 2) := by decide +kernel
theorem dX5_sum_48 : decode cX5_sum 48 = .ok (.goto 5, 3) := by decide +kernel
theorem dX5_sum_51 : decode cX5_sum 51 = .ok (.bipush 9, 2) := by decide +kernel
theorem dX5_sum_53 : decode cX5_sum 53 = .ok (.istore_n 3, 1) := by decide +kernel
theorem dX5_sum_54 : decode cX5_sum 54 = .ok (.aload_n 0, 1) := by decide +kernel
theorem dX5_sum_55 : decode cX5_sum 55 = .ok (.invokevirtual 38, 3) := by decide +kernel
theorem dX5_sum_58 : decode cX5_sum 58 = .ok (.aload_n 0, 1) := by decide +kernel
theorem dX5_sum_59 : decode cX5_sum 59 = .ok (.iload_n 1, 1) := by decide +kernel
theorem dX5_sum_60 : decode cX5_sum 60 = .ok (.invokevirtual 172, 3) := by decide +kernel
theorem dX5_sum_63 : decode cX5_sum 63 = .ok (.ifCond .ne 5, 3) := by decide +kernel
theorem dX5_sum_66 : decode cX5_sum 66 = .ok (.iconst 0, 1) := by decide +kernel
theorem dX5_sum_67 : decode cX5_sum 67 = .ok (.ireturn, 1) := by decide +kernel
theorem dX5_sum_68 : decode cX5_sum 68 = .ok (.aload_n 0, 1) := by decide +kernel
theorem dX5_sum_69 : decode cX5_sum 69 = .ok (.getfield 19, 3) := by decide +kernel
theorem dX5_sum_72 : decode cX5_sum 72 = .ok (.iload_n 3, 1) := by decide +kernel
theorem dX5_sum_73 : decode cX5_sum 73 = .ok (.sipush 2048, 3) := by decide +kernel
theorem dX5_sum_76 : decode cX5_sum 76 = .ok (.imul, 1) := by decide +kernel
theorem dX5_sum_77 : decode cX5_sum 77 = .ok (.invokevirtual 146, 3) := by decide +kernel
theorem dX5_sum_80 : decode cX5_sum 80 = .ok (.iinc 2 1, 3) := by decide +kernel
theorem dX5_sum_83 : decode cX5_sum 83 = .ok (.goto (-71), 3) := by decide +kernel
theorem dX5_sum_86 : decode cX5_sum 86 = .ok (.iconst 1, 1) := by decide +kernel
theorem dX5_sum_87 : decode cX5_sum 87 = .ok (.ireturn, 1) := by decide +kernel
theorem dX5_term_0 : decode cX5_term 0 = .ok (.aload_n 0, 1) := by decide +kernel
theorem dX5_term_1 : decode cX5_term 1 = .ok (.iload_n 1, 1) := by decide +kernel
theorem dX5_term_2 : decode cX5_term 2 = .ok (.invokevirtual 179, 3) := by decide +kernel
theorem dX5_term_5 : decode cX5_term 5 = .ok (.ifCond .ne 5, 3) := by decide +kernel
theorem dX5_term_8 : decode cX5_term 8 = .ok (.iconst 0, 1) := by decide +kernel
theorem dX5_term_9 : decode cX5_term 9 = .ok (.ireturn, 1) := by decide +kernel
theorem dX5_term_10 : decode cX5_term 10 = .ok (.iconst 0, 1) := by decide +kernel
theorem dX5_term_11 : decode cX5_term 11 = .ok (.istore_n 2, 1) := by decide +kernel
theorem dX5_term_12 : decode cX5_term 12 = .ok (.iload_n 2, 1) := by decide +kernel
theorem dX5_term_13 : decode cX5_term 13 = .ok (.sipush 400, 3) := by decide +kernel
theorem dX5_term_16 : decode cX5_term 16 = .ok (.if_icmp .ge 93, 3) := by decide +kernel
theorem dX5_term_19 : decode cX5_term 19 = .ok (.aload_n 0, 1) := by decide +kernel
theorem dX5_term_20 : decode cX5_term 20 = .ok (.ldc 182, 2) := by decide +kernel
theorem dX5_term_22 : decode cX5_term 22 = .ok (.invokevirtual 55, 3) := by decide +kernel
theorem dX5_term_25 : decode cX5_term 25 = .ok (.ifCond .ne 21, 3) := by decide +kernel
theorem dX5_term_28 : decode cX5_term 28 = .ok (.aload_n 0, 1) := by decide +kernel
theorem dX5_term_29 : decode cX5_term 29 = .ok (.ldc 184, 2) := by decide +kernel
theorem dX5_term_31 : decode cX5_term 31 = .ok (.invokevirtual 55, 3) := by decide +kernel
theorem dX5_term_34 : decode cX5_term 34 = .ok (.ifCond .ne 12, 3) := by decide +kernel
theorem dX5_term_37 : decode cX5_term 37 = .ok (.aload_n 0, 1) := by decide +kernel
theorem dX5_term_38 : decode cX5_term 38 = .ok (.ldc 186, 2) := by decide +kernel
theorem dX5_term_40 : decode cX5_term 40 = .ok (.invokevirtual 55, 3) := by decide +kernel
theorem dX5_term_43 : decode cX5_term 43 = .ok (.ifCond .eq 66, 3) := by decide +kernel
theorem dX5_term_46 : decode cX5_term 46 = .ok (.aload_n 0, 1) := by decide +kernel
theorem dX5_term_47 : decode cX5_term 47 = .ok (.ldc 182, 2) := by decide +kernel
theorem dX5_term_49 : decode cX5_term 49 = .ok (.invokevirtual 55, 3) := by decide +kernel
theorem dX5_term_52 : decode cX5_term 52 = .ok (.ifCond .eq 8, 3) := by decide +kernel
theorem dX5_term_55 : decode cX5_term 55 = .ok (.bipush 10, 2) := by decide +kernel
theorem dX5_term_57 : decode cX5_term 57 = .ok (.goto 19, 3) := by decide +kernel
theorem dX5_term_60 : decode cX5_term 60 = .ok (.aload_n 0, 1) := by decide +kernel
theorem dX5_term_61 : decode cX5_term 61 = .ok (.ldc 184, 2) := by decide +kernel
theorem dX5_term_63 : decode cX5_term 63 = .ok (.invokevirtual 55, 3) := by decide +kernel
theorem dX5_term_66 : decode cX5_term 66 = .ok (.ifCond .eq 8, 3) := by decide +kernel
theorem dX5_term_69 : decode cX5_term 69 = .ok (.bipush 11, 2) := by decide +kernel
theorem dX5_term_71 : decode cX5_term 71 = .ok (.goto 5, 3) := by decide +kernel
theorem dX5_term_74 : decode cX5_term 74 = .ok (.bipush 12, 2) := by decide +kernel
theorem dX5_term_76 : decode cX5_term 76 = .ok (.istore_n 3, 1) := by decide +kernel
theorem dX5_term_77 : decode cX5_term 77 = .ok (.aload_n 0, 1) := by decide +kernel
theorem dX5_term_78 : decode cX5_term 78 = .ok (.invokevirtual 38, 3) := by decide +kernel
theorem dX5_term_81 : decode cX5_term 81 = .ok (.aload_n 0, 1) := by decide +kernel
theorem dX5_term_82 : decode cX5_term 82 = .ok (.iload_n 1, 1) := by decide +kernel
theorem dX5_term_83 : decode cX5_term 83 = .ok (.invokevirtual 179, 3) := by decide +kernel
theorem dX5_term_86 : decode cX5_term 86 = .ok (.ifCond .ne 5, 3) := by decide +kernel
theorem dX5_term_89 : decode cX5_term 89 = .ok (.iconst 0, 1) := by decide +kernel
theorem dX5_term_90 : decode cX5_term 90 = .ok (.ireturn, 1) := by decide +kernel
theorem dX5_term_91 : decode cX5_term 91 = .ok (.aload_n 0, 1) := by decide +kernel
theorem dX5_term_92 : decode cX5_term 92 = .ok (.getfield 19, 3) := by decide +kernel
theorem dX5_term_95 : decode cX5_term 95 = .ok (.iload_n 3, 1) := by decide +kernel
theorem dX5_term_96 : decode cX5_term 96 = .ok (.sipush 2048, 3) := by decide +kernel
theorem dX5_term_99 : decode cX5_term 99 = .ok (.imul, 1) := by decide +kernel
theorem dX5_term_100 : decode cX5_term 100 = .ok (.invokevirtual 146, 3) := by decide +kernel
theorem dX5_term_103 : decode cX5_term 103 = .ok (.iinc 2 1, 3) := by decide +kernel
theorem dX5_term_106 : decode cX5_term 106 = .ok (.goto (-94), 3) := by decide +kernel
theorem dX5_term_109 : decode cX5_term 109 = .ok (.iconst 1, 1) := by decide +kernel
theorem dX5_term_110 : decode cX5_term 110 = .ok (.ireturn, 1) := by decide +kernel
theorem dX5_part_0 : decode cX5_part 0 = .ok (.aload_n 0, 1) := by decide +kernel
theorem dX5_part_1 : decode cX5_part 1 = .ok (.ldc 188, 2) := by decide +kernel
theorem dX5_part_3 : decode cX5_part 3 = .ok (.invokevirtual 55, 3) := by decide +kernel
theorem dX5_part_6 : decode cX5_part 6 = .ok (.ifCond .eq 36, 3) := by decide +kernel
theorem dX5_part_9 : decode cX5_part 9 = .ok (.aload_n 0, 1) := by decide +kernel
theorem dX5_part_10 : decode cX5_part 10 = .ok (.iload_n 1, 1) := by decide +kernel
theorem dX5_part_11 : decode cX5_part 11 = .ok (.invokevirtual 161, 3) := by decide +kernel
theorem dX5_part_14 : decode cX5_part 14 = .ok (.ifCond .eq 26, 3) := by decide +kernel
theorem dX5_part_17 : decode cX5_part 17 = .ok (.aload_n 0, 1) := by decide +kernel
theorem dX5_part_18 : decode cX5_part 18 = .ok (.iload_n 1, 1) := by decide +kernel
theorem dX5_part_19 : decode cX5_part 19 = .ok (.iconst 1, 1) := by decide +kernel
theorem dX5_part_20 : decode cX5_part 20 = .ok (.iadd, 1) := by decide +kernel
theorem dX5_part_21 : decode cX5_part 21 = .ok (.invokevirtual 137, 3) := by decide +kernel
theorem dX5_part_24 : decode cX5_part 24 = .ok (.ifCond .eq 16, 3) := by decide +kernel
theorem dX5_part_27 : decode cX5_part 27 = .ok (.aload_n 0, 1) := by decide +kernel
theorem dX5_part_28 : decode cX5_part 28 = .ok (.ldc 190, 2) := by decide +kernel
theorem dX5_part_30 : decode cX5_part 30 = .ok (.invokevirtual 134, 3) := by decide +kernel
theorem dX5_part_33 : decode cX5_part 33 = .ok (.ifCond .eq 7, 3) := by decide +kernel
theorem dX5_part_36 : decode cX5_part 36 = .ok (.iconst 1, 1) := by decide +kernel
theorem dX5_part_37 : decode cX5_part 37 = .ok (.goto 4, 3) := by decide +kernel
theorem dX5_part_40 : decode cX5_part 40 = .ok (.iconst 0, 1) := by decide +kernel
theorem dX5_part_41 : decode cX5_part 41 = .ok (.ireturn, 1) := by decide +kernel
theorem dX5_part_42 : decode cX5_part 42 = .ok (.aload_n 0, 1) := by decide +kernel
theorem dX5_part_43 : decode cX5_part 43 = .ok (.iconst 0, 1) := by decide +kernel
theorem dX5_part_44 : decode cX5_part 44 = .ok (.sipush 1000, 3) := by decide +kernel
theorem dX5_part_47 : decode cX5_part 47 = .ok (.invokevirtual 108, 3) := by decide +kernel
theorem dX5_part_50 : decode cX5_part 50 = .ok (.istore_n 2, 1) := by decide +kernel
theorem dX5_part_51 : decode cX5_part 51 = .ok (.iload_n 2, 1) := by decide +kernel
theorem dX5_part_52 : decode cX5_part 52 = .ok (.iconst (-1), 1) := by decide +kernel
theorem dX5_part_53 : decode cX5_part 53 = .ok (.if_icmp .eq 7, 3) := by decide +kernel
theorem dX5_part_56 : decode cX5_part 56 = .ok (.iconst (-1), 1) := by decide +kernel
theorem dX5_part_57 : decode cX5_part 57 = .ok (.goto 21, 3) := by decide +kernel
theorem dX5_part_60 : decode cX5_part 60 = .ok (.aload_n 0, 1) := by decide +kernel
theorem dX5_part_61 : decode cX5_part 61 = .ok (.getfield 23, 3) := by decide +kernel
theorem dX5_part_64 : decode cX5_part 64 = .ok (.ifCond .eq 10, 3) := by decide +kernel
theorem dX5_part_67 : decode cX5_part 67 = .ok (.aload_n 0, 1) := by decide +kernel
theorem dX5_part_68 : decode cX5_part 68 = .ok (.invokevirtual 192, 3) := by decide +kernel
theorem dX5_part_71 : decode cX5_part 71 = .ok (.goto 7, 3) := by decide +kernel
theorem dX5_part_74 : decode cX5_part 74 = .ok (.aload_n 0, 1) := by decide +kernel
theorem dX5_part_75 : decode cX5_part 75 = .ok (.invokevirtual 195, 3) := by decide +kernel
theorem dX5_part_78 : decode cX5_part 78 = .ok (.istore_n 3, 1) := by decide +kernel
theorem dX5_part_79 : decode cX5_part 79 = .ok (.iload_n 2, 1) := by decide +kernel
theorem dX5_part_80 : decode cX5_part 80 = .ok (.iconst (-1), 1) := by decide +kernel
theorem dX5_part_81 : decode cX5_part 81 = .ok (.if_icmp .ne 8, 3) := by decide +kernel
theorem dX5_part_84 : decode cX5_part 84 = .ok (.iload_n 3, 1) := by decide +kernel
theorem dX5_part_85 : decode cX5_part 85 = .ok (.iconst (-1), 1) := by decide +kernel
theorem dX5_part_86 : decode cX5_part 86 = .ok (.if_icmp .eq 12, 3) := by decide +kernel
theorem dX5_part_89 : decode cX5_part 89 = .ok (.aload_n 0, 1) := by decide +kernel
theorem dX5_part_90 : decode cX5_part 90 = .ok (.getfield 30, 3) := by decide +kernel
theorem dX5_part_93 : decode cX5_part 93 = .ok (.bipush 50, 2) := by decide +kernel
theorem dX5_part_95 : decode cX5_part 95 = .ok (.if_icmp .lt 8, 3) := by decide +kernel
theorem dX5_part_98 : decode cX5_part 98 = .ok (.aload_n 0, 1) := by decide +kernel
theorem dX5_part_99 : decode cX5_part 99 = .ok (.invokevirtual 59, 3) := by decide +kernel
theorem dX5_part_102 : decode cX5_part 102 = .ok (.ireturn, 1) := by decide +kernel
theorem dX5_part_103 : decode cX5_part 103 = .ok (.aload_n 0, 1) := by decide +kernel
theorem dX5_part_104 : decode cX5_part 104 = .ok (.dup, 1) := by decide +kernel
theorem dX5_part_105 : decode cX5_part 105 = .ok (.getfield 30, 3) := by decide +kernel
theorem dX5_part_108 : decode cX5_part 108 = .ok (.iconst 1, 1) := by decide +kernel
theorem dX5_part_109 : decode cX5_part 109 = .ok (.iadd, 1) := by decide +kernel
theorem dX5_part_110 : decode cX5_part 110 = .ok (.putfield 30, 3) := by decide +kernel
theorem dX5_part_113 : decode cX5_part 113 = .ok (.aload_n 0, 1) := by decide +kernel
theorem dX5_part_114 : decode cX5_part 114 = .ok (.invokevirtual 38, 3) := by decide +kernel
theorem dX5_part_117 : decode cX5_part 117 = .ok (.iload_n 3, 1) := by decide +kernel
theorem dX5_part_118 : decode cX5_part 118 = .ok (.bipush 8, 2) := by decide +kernel
theorem dX5_part_120 : decode cX5_part 120 = .ok (.if_icmp .lt 32, 3) := by decide +kernel
theorem dX5_part_123 : decode cX5_part 123 = .ok (.aload_n 0, 1) := by decide +kernel
theorem dX5_part_124 : decode cX5_part 124 = .ok (.iconst 0, 1) := by decide +kernel
theorem dX5_part_125 : decode cX5_part 125 = .ok (.bipush 7, 2) := by decide +kernel
theorem dX5_part_127 : decode cX5_part 127 = .ok (.invokevirtual 108, 3) := by decide +kernel
theorem dX5_part_130 : decode cX5_part 130 = .ok (.istore 4, 2) := by decide +kernel
theorem dX5_part_132 : decode cX5_part 132 = .ok (.iload 4, 2) := by decide +kernel
theorem dX5_part_134 : decode cX5_part 134 = .ok (.iconst (-1), 1) := by decide +kernel
theorem dX5_part_135 : decode cX5_part 135 = .ok (.if_icmp .ne 8, 3) := by decide +kernel
theorem dX5_part_138 : decode cX5_part 138 = .ok (.aload_n 0, 1) := by decide +kernel
theorem dX5_part_139 : decode cX5_part 139 = .ok (.invokevirtual 59, 3) := by decide +kernel
theorem dX5_part_142 : decode cX5_part 142 = .ok (.ireturn, 1) := by decide +kernel
theorem dX5_part_143 : decode cX5_part 143 = .ok (.iload_n 3, 1) := by decide +kernel
theorem dX5_part_144 : decode cX5_part 144 = .ok (.iload 4, 2) := by decide +kernel
theorem dX5_part_146 : decode cX5_part 146 = .ok (.iadd, 1) := by decide +kernel
theorem dX5_part_147 : decode cX5_part 147 = .ok (.istore_n 3, 1) := by decide +kernel
theorem dX5_part_148 : decode cX5_part 148 = .ok (.aload_n 0, 1) := by decide +kernel
theorem dX5_part_149 : decode cX5_part 149 = .ok (.invokevirtual 38, 3) := by decide +kernel
theorem dX5_part_152 : decode cX5_part 152 = .ok (.aload_n 0, 1) := by decide +kernel
theorem dX5_part_153 : decode cX5_part 153 = .ok (.getfield 19, 3) := by decide +kernel
theorem dX5_part_156 : decode cX5_part 156 = .ok (.iload_n 3, 1) := by decide +kernel
theorem dX5_part_157 : decode cX5_part 157 = .ok (.iconst (-1), 1) := by decide +kernel
theorem dX5_part_158 : decode cX5_part 158 = .ok (.if_icmp .ne 9, 3) := by decide +kernel
theorem dX5_part_161 : decode cX5_part 161 = .ok (.iconst 0, 1) := by decide +kernel
theorem dX5_part_162 : decode cX5_part 162 = .ok (.iload_n 2, 1) := by decide +kernel
theorem dX5_part_163 : decode cX5_part 163 = .ok (.iadd, 1) := by decide +kernel
theorem dX5_part_164 : decode cX5_part 164 = .ok (.goto 8, 3) := by decide +kernel
theorem dX5_part_167 : decode cX5_part 167 = .ok (.sipush 2048, 3) := by decide +kernel
theorem dX5_part_170 : decode cX5_part 170 = .ok (.iload_n 3, 1) := by decide +kernel
theorem dX5_part_171 : decode cX5_part 171 = .ok (.iadd, 1) := by decide +kernel
theorem dX5_part_172 : decode cX5_part 172 = .ok (.invokevirtual 146, 3) := by decide +kernel
theorem dX5_part_175 : decode cX5_part 175 = .ok (.iconst 1, 1) := by decide +kernel
theorem dX5_part_176 : decode cX5_part 176 = .ok (.ireturn, 1) := by decide +kernel
theorem dX5_openBracket_0 : decode cX5_openBracket 0 = .ok (.iload_n 1, 1) := by decide +kernel
theorem dX5_openBracket_1 : decode cX5_openBracket 1 = .ok (.bipush 8, 2) := by decide +kernel
theorem dX5_openBracket_3 : decode cX5_openBracket 3 = .ok (.if_icmp .lt 8, 3) := by decide +kernel
theorem dX5_openBracket_6 : decode cX5_openBracket 6 = .ok (.aload_n 0, 1) := by decide +kernel
theorem dX5_openBracket_7 : decode cX5_openBracket 7 = .ok (.invokevirtual 59, 3) := by decide +kernel
theorem dX5_openBracket_10 : decode cX5_openBracket 10 = .ok (.ireturn, 1) := by decide +kernel
theorem dX5_openBracket_11 : decode cX5_openBracket 11 = .ok (.aload_n 0, 1) := by decide +kernel
theorem dX5_openBracket_12 : decode cX5_openBracket 12 = .ok (.invokevirtual 38, 3) := by decide +kernel
theorem dX5_openBracket_15 : decode cX5_openBracket 15 = .ok (.iconst 1, 1) := by decide +kernel
theorem dX5_openBracket_16 : decode cX5_openBracket 16 = .ok (.ireturn, 1) := by decide +kernel
theorem dX5_orderFact_0 : decode cX5_orderFact 0 = .ok (.aload_n 0, 1) := by decide +kernel
theorem dX5_orderFact_1 : decode cX5_orderFact 1 = .ok (.ldc 198, 2) := by decide +kernel
theorem dX5_orderFact_3 : decode cX5_orderFact 3 = .ok (.invokevirtual 55, 3) := by decide +kernel
theorem dX5_orderFact_6 : decode cX5_orderFact 6 = .ok (.ifCond .eq 5, 3) := by decide +kernel
theorem dX5_orderFact_9 : decode cX5_orderFact 9 = .ok (.iconst 0, 1) := by decide +kernel
theorem dX5_orderFact_10 : decode cX5_orderFact 10 = .ok (.ireturn, 1) := by decide +kernel
theorem dX5_orderFact_11 : decode cX5_orderFact 11 = .ok (.aload_n 0, 1) := by decide +kernel
theorem dX5_orderFact_12 : decode cX5_orderFact 12 = .ok (.ldc 200, 2) := by decide +kernel
theorem dX5_orderFact_14 : decode cX5_orderFact 14 = .ok (.invokevirtual 55, 3) := by decide +kernel
theorem dX5_orderFact_17 : decode cX5_orderFact 17 = .ok (.ifCond .eq 5, 3) := by decide +kernel
theorem dX5_orderFact_20 : decode cX5_orderFact 20 = .ok (.iconst 1, 1) := by decide +kernel
theorem dX5_orderFact_21 : decode cX5_orderFact 21 = .ok (.ireturn, 1) := by decide +kernel
theorem dX5_orderFact_22 : decode cX5_orderFact 22 = .ok (.aload_n 0, 1) := by decide +kernel
theorem dX5_orderFact_23 : decode cX5_orderFact 23 = .ok (.ldc 202, 2) := by decide +kernel
theorem dX5_orderFact_25 : decode cX5_orderFact 25 = .ok (.invokevirtual 55, 3) := by decide +kernel
theorem dX5_orderFact_28 : decode cX5_orderFact 28 = .ok (.ifCond .eq 5, 3) := by decide +kernel
theorem dX5_orderFact_31 : decode cX5_orderFact 31 = .ok (.iconst 2, 1) := by decide +kernel
theorem dX5_orderFact_32 : decode cX5_orderFact 32 = .ok (.ireturn, 1) := by decide +kernel
theorem dX5_orderFact_33 : decode cX5_orderFact 33 = .ok (.aload_n 0, 1) := by decide +kernel
theorem dX5_orderFact_34 : decode cX5_orderFact 34 = .ok (.ldc 204, 2) := by decide +kernel
theorem dX5_orderFact_36 : decode cX5_orderFact 36 = .ok (.invokevirtual 55, 3) := by decide +kernel
theorem dX5_orderFact_39 : decode cX5_orderFact 39 = .ok (.ifCond .eq 5, 3) := by decide +kernel
theorem dX5_orderFact_42 : decode cX5_orderFact 42 = .ok (.iconst 3, 1) := by decide +kernel
theorem dX5_orderFact_43 : decode cX5_orderFact 43 = .ok (.ireturn, 1) := by decide +kernel
theorem dX5_orderFact_44 : decode cX5_orderFact 44 = .ok (.aload_n 0, 1) := by decide +kernel
theorem dX5_orderFact_45 : decode cX5_orderFact 45 = .ok (.ldc 206, 2) := by decide +kernel
theorem dX5_orderFact_47 : decode cX5_orderFact 47 = .ok (.invokevirtual 55, 3) := by decide +kernel
theorem dX5_orderFact_50 : decode cX5_orderFact 50 = .ok (.ifCond .eq 8, 3) := by decide +kernel
theorem dX5_orderFact_53 : decode cX5_orderFact 53 = .ok (.bipush 8, 2) := by decide +kernel
theorem dX5_orderFact_55 : decode cX5_orderFact 55 = .ok (.goto 18, 3) := by decide +kernel
theorem dX5_orderFact_58 : decode cX5_orderFact 58 = .ok (.aload_n 0, 1) := by decide +kernel
theorem dX5_orderFact_59 : decode cX5_orderFact 59 = .ok (.ldc 208, 2) := by decide +kernel
theorem dX5_orderFact_61 : decode cX5_orderFact 61 = .ok (.invokevirtual 55, 3) := by decide +kernel
theorem dX5_orderFact_64 : decode cX5_orderFact 64 = .ok (.ifCond .eq 8, 3) := by decide +kernel
theorem dX5_orderFact_67 : decode cX5_orderFact 67 = .ok (.bipush 16, 2) := by decide +kernel
theorem dX5_orderFact_69 : decode cX5_orderFact 69 = .ok (.goto 4, 3) := by decide +kernel
theorem dX5_orderFact_72 : decode cX5_orderFact 72 = .ok (.iconst (-1), 1) := by decide +kernel
theorem dX5_orderFact_73 : decode cX5_orderFact 73 = .ok (.ireturn, 1) := by decide +kernel
theorem dX5_lawFact_0 : decode cX5_lawFact 0 = .ok (.aload_n 0, 1) := by decide +kernel
theorem dX5_lawFact_1 : decode cX5_lawFact 1 = .ok (.ldc 210, 2) := by decide +kernel
theorem dX5_lawFact_3 : decode cX5_lawFact 3 = .ok (.invokevirtual 55, 3) := by decide +kernel
theorem dX5_lawFact_6 : decode cX5_lawFact 6 = .ok (.ifCond .eq 5, 3) := by decide +kernel
theorem dX5_lawFact_9 : decode cX5_lawFact 9 = .ok (.iconst 0, 1) := by decide +kernel
theorem dX5_lawFact_10 : decode cX5_lawFact 10 = .ok (.ireturn, 1) := by decide +kernel
theorem dX5_lawFact_11 : decode cX5_lawFact 11 = .ok (.aload_n 0, 1) := by decide +kernel
theorem dX5_lawFact_12 : decode cX5_lawFact 12 = .ok (.ldc 213, 2) := by decide +kernel
theorem dX5_lawFact_14 : decode cX5_lawFact 14 = .ok (.invokevirtual 55, 3) := by decide +kernel
theorem dX5_lawFact_17 : decode cX5_lawFact 17 = .ok (.ifCond .eq 5, 3) := by decide +kernel
theorem dX5_lawFact_20 : decode cX5_lawFact 20 = .ok (.iconst 1, 1) := by decide +kernel
theorem dX5_lawFact_21 : decode cX5_lawFact 21 = .ok (.ireturn, 1) := by decide +kernel
theorem dX5_lawFact_22 : decode cX5_lawFact 22 = .ok (.aload_n 0, 1) := by decide +kernel
theorem dX5_lawFact_23 : decode cX5_lawFact 23 = .ok (.ldc 215, 2) := by decide +kernel
theorem dX5_lawFact_25 : decode cX5_lawFact 25 = .ok (.invokevirtual 55, 3) := by decide +kernel
theorem dX5_lawFact_28 : decode cX5_lawFact 28 = .ok (.ifCond .eq 5, 3) := by decide +kernel
theorem dX5_lawFact_31 : decode cX5_lawFact 31 = .ok (.iconst 2, 1) := by decide +kernel
theorem dX5_lawFact_32 : decode cX5_lawFact 32 = .ok (.ireturn, 1) := by decide +kernel
theorem dX5_lawFact_33 : decode cX5_lawFact 33 = .ok (.aload_n 0, 1) := by decide +kernel
theorem dX5_lawFact_34 : decode cX5_lawFact 34 = .ok (.ldc 217, 2) := by decide +kernel
theorem dX5_lawFact_36 : decode cX5_lawFact 36 = .ok (.invokevirtual 55, 3) := by decide +kernel
theorem dX5_lawFact_39 : decode cX5_lawFact 39 = .ok (.ifCond .eq 5, 3) := by decide +kernel
theorem dX5_lawFact_42 : decode cX5_lawFact 42 = .ok (.iconst 3, 1) := by decide +kernel
theorem dX5_lawFact_43 : decode cX5_lawFact 43 = .ok (.ireturn, 1) := by decide +kernel
theorem dX5_lawFact_44 : decode cX5_lawFact 44 = .ok (.aload_n 0, 1) := by decide +kernel
theorem dX5_lawFact_45 : decode cX5_lawFact 45 = .ok (.ldc 219, 2) := by decide +kernel
theorem dX5_lawFact_47 : decode cX5_lawFact 47 = .ok (.invokevirtual 55, 3) := by decide +kernel
theorem dX5_lawFact_50 : decode cX5_lawFact 50 = .ok (.ifCond .eq 5, 3) := by decide +kernel
theorem dX5_lawFact_53 : decode cX5_lawFact 53 = .ok (.iconst 4, 1) := by decide +kernel
theorem dX5_lawFact_54 : decode cX5_lawFact 54 = .ok (.ireturn, 1) := by decide +kernel
theorem dX5_lawFact_55 : decode cX5_lawFact 55 = .ok (.aload_n 0, 1) := by decide +kernel
theorem dX5_lawFact_56 : decode cX5_lawFact 56 = .ok (.ldc 221, 2) := by decide +kernel
theorem dX5_lawFact_58 : decode cX5_lawFact 58 = .ok (.invokevirtual 55, 3) := by decide +kernel
theorem dX5_lawFact_61 : decode cX5_lawFact 61 = .ok (.ifCond .eq 5, 3) := by decide +kernel
theorem dX5_lawFact_64 : decode cX5_lawFact 64 = .ok (.iconst 5, 1) := by decide +kernel
theorem dX5_lawFact_65 : decode cX5_lawFact 65 = .ok (.ireturn, 1) := by decide +kernel
theorem dX5_lawFact_66 : decode cX5_lawFact 66 = .ok (.aload_n 0, 1) := by decide +kernel
theorem dX5_lawFact_67 : decode cX5_lawFact 67 = .ok (.ldc 198, 2) := by decide +kernel
theorem dX5_lawFact_69 : decode cX5_lawFact 69 = .ok (.invokevirtual 55, 3) := by decide +kernel
theorem dX5_lawFact_72 : decode cX5_lawFact 72 = .ok (.ifCond .eq 8, 3) := by decide +kernel
theorem dX5_lawFact_75 : decode cX5_lawFact 75 = .ok (.bipush 6, 2) := by decide +kernel
theorem dX5_lawFact_77 : decode cX5_lawFact 77 = .ok (.goto 18, 3) := by decide +kernel
theorem dX5_lawFact_80 : decode cX5_lawFact 80 = .ok (.aload_n 0, 1) := by decide +kernel
theorem dX5_lawFact_81 : decode cX5_lawFact 81 = .ok (.ldc 223, 2) := by decide +kernel
theorem dX5_lawFact_83 : decode cX5_lawFact 83 = .ok (.invokevirtual 55, 3) := by decide +kernel
theorem dX5_lawFact_86 : decode cX5_lawFact 86 = .ok (.ifCond .eq 8, 3) := by decide +kernel
theorem dX5_lawFact_89 : decode cX5_lawFact 89 = .ok (.bipush 7, 2) := by decide +kernel
theorem dX5_lawFact_91 : decode cX5_lawFact 91 = .ok (.goto 4, 3) := by decide +kernel
theorem dX5_lawFact_94 : decode cX5_lawFact 94 = .ok (.iconst (-1), 1) := by decide +kernel
theorem dX5_lawFact_95 : decode cX5_lawFact 95 = .ok (.ireturn, 1) := by decide +kernel
theorem dX6_init_0 : decode cX6_init 0 = .ok (.aload_n 0, 1) := by decide +kernel
theorem dX6_init_1 : decode cX6_init 1 = .ok (.invokespecial 3, 3) := by decide +kernel
theorem dX6_init_4 : decode cX6_init 4 = .ok (.aload_n 0, 1) := by decide +kernel
theorem dX6_init_5 : decode cX6_init 5 = .ok (.bipush 64, 2) := by decide +kernel
theorem dX6_init_7 : decode cX6_init 7 = .ok (.newarray .int, 2) := by decide +kernel
theorem dX6_init_9 : decode cX6_init 9 = .ok (.putfield 9, 3) := by decide +kernel
theorem dX6_init_12 : decode cX6_init 12 = .ok (.return_, 1) := by decide +kernel
theorem dX6_value_0 : decode cX6_value 0 = .ok (.aload_n 1, 1) := by decide +kernel
theorem dX6_value_1 : decode cX6_value 1 = .ok (.getfield 15, 3) := by decide +kernel
theorem dX6_value_4 : decode cX6_value 4 = .ok (.iload_n 2, 1) := by decide +kernel
theorem dX6_value_5 : decode cX6_value 5 = .ok (.iconst 2, 1) := by decide +kernel
theorem dX6_value_6 : decode cX6_value 6 = .ok (.iload_n 3, 1) := by decide +kernel
theorem dX6_value_7 : decode cX6_value 7 = .ok (.iadd, 1) := by decide +kernel
theorem dX6_value_8 : decode cX6_value 8 = .ok (.invokevirtual 21, 3) := by decide +kernel
theorem dX6_value_11 : decode cX6_value 11 = .ok (.istore 5, 2) := by decide +kernel
theorem dX6_value_13 : decode cX6_value 13 = .ok (.aload_n 1, 1) := by decide +kernel
theorem dX6_value_14 : decode cX6_value 14 = .ok (.getfield 15, 3) := by decide +kernel
theorem dX6_value_17 : decode cX6_value 17 = .ok (.iload_n 2, 1) := by decide +kernel
theorem dX6_value_18 : decode cX6_value 18 = .ok (.iconst 2, 1) := by decide +kernel
theorem dX6_value_19 : decode cX6_value 19 = .ok (.iload_n 3, 1) := by decide +kernel
theorem dX6_value_20 : decode cX6_value 20 = .ok (.iadd, 1) := by decide +kernel
theorem dX6_value_21 : decode cX6_value 21 = .ok (.iconst 1, 1) := by decide +kernel
theorem dX6_value_22 : decode cX6_value 22 = .ok (.iadd, 1) := by decide +kernel
theorem dX6_value_23 : decode cX6_value 23 = .ok (.invokevirtual 21, 3) := by decide +kernel
theorem dX6_value_26 : decode cX6_value 26 = .ok (.aload_n 1, 1) := by decide +kernel
theorem dX6_value_27 : decode cX6_value 27 = .ok (.getfield 27, 3) := by decide +kernel
theorem dX6_value_30 : decode cX6_value 30 = .ok (.invokestatic 31, 3) := by decide +kernel
theorem dX6_value_33 : decode cX6_value 33 = .ok (.istore 6, 2) := by decide +kernel
theorem dX6_value_35 : decode cX6_value 35 = .ok (.iload 5, 2) := by decide +kernel
theorem dX6_value_37 : decode cX6_value 37 = .ok (.ifCond .lt 10, 3) := by decide +kernel
theorem dX6_value_40 : decode cX6_value 40 = .ok (.iload 5, 2) := by decide +kernel
theorem dX6_value_42 : decode cX6_value 42 = .ok (.iload 6, 2) := by decide +kernel
theorem dX6_value_44 : decode cX6_value 44 = .ok (.if_icmp .lt 5, 3) := by decide +kernel
theorem dX6_value_47 : decode cX6_value 47 = .ok (.iconst 1, 1) := by decide +kernel
theorem dX6_value_48 : decode cX6_value 48 = .ok (.ireturn, 1) := by decide +kernel
theorem dX6_value_49 : decode cX6_value 49 = .ok (.iconst 0, 1) := by decide +kernel
theorem dX6_value_50 : decode cX6_value 50 = .ok (.istore 7, 2) := by decide +kernel
theorem dX6_value_52 : decode cX6_value 52 = .ok (.iload 5, 2) := by decide +kernel
theorem dX6_value_54 : decode cX6_value 54 = .ok (.istore 8, 2) := by decide +kernel
theorem dX6_value_56 : decode cX6_value 56 = .ok (.iload 8, 2) := by decide +kernel
theorem dX6_value_58 : decode cX6_value 58 = .ok (.iload 6, 2) := by decide +kernel
theorem dX6_value_60 : decode cX6_value 60 = .ok (.if_icmp .ge 250, 3) := by decide +kernel
theorem dX6_value_63 : decode cX6_value 63 = .ok (.aload_n 1, 1) := by decide +kernel
theorem dX6_value_64 : decode cX6_value 64 = .ok (.getfield 36, 3) := by decide +kernel
theorem dX6_value_67 : decode cX6_value 67 = .ok (.iload 8, 2) := by decide +kernel
theorem dX6_value_69 : decode cX6_value 69 = .ok (.iaload, 1) := by decide +kernel
theorem dX6_value_70 : decode cX6_value 70 = .ok (.sipush 2048, 3) := by decide +kernel
theorem dX6_value_73 : decode cX6_value 73 = .ok (.idiv, 1) := by decide +kernel
theorem dX6_value_74 : decode cX6_value 74 = .ok (.istore 9, 2) := by decide +kernel
theorem dX6_value_76 : decode cX6_value 76 = .ok (.aload_n 1, 1) := by decide +kernel
theorem dX6_value_77 : decode cX6_value 77 = .ok (.getfield 36, 3) := by decide +kernel
theorem dX6_value_80 : decode cX6_value 80 = .ok (.iload 8, 2) := by decide +kernel
theorem dX6_value_82 : decode cX6_value 82 = .ok (.iaload, 1) := by decide +kernel
theorem dX6_value_83 : decode cX6_value 83 = .ok (.sipush 2048, 3) := by decide +kernel
theorem dX6_value_86 : decode cX6_value 86 = .ok (.irem, 1) := by decide +kernel
theorem dX6_value_87 : decode cX6_value 87 = .ok (.istore 10, 2) := by decide +kernel
theorem dX6_value_89 : decode cX6_value 89 = .ok (.iload 9, 2) := by decide +kernel
theorem dX6_value_91 : decode cX6_value 91 = .ok (.ifCond .eq 9, 3) := by decide +kernel
theorem dX6_value_94 : decode cX6_value 94 = .ok (.iload 9, 2) := by decide +kernel
theorem dX6_value_96 : decode cX6_value 96 = .ok (.iconst 1, 1) := by decide +kernel
theorem dX6_value_97 : decode cX6_value 97 = .ok (.if_icmp .ne 58, 3) := by decide +kernel
theorem dX6_value_100 : decode cX6_value 100 = .ok (.iload 7, 2) := by decide +kernel
theorem dX6_value_102 : decode cX6_value 102 = .ok (.aload_n 0, 1) := by decide +kernel
theorem dX6_value_103 : decode cX6_value 103 = .ok (.getfield 9, 3) := by decide +kernel
theorem dX6_value_106 : decode cX6_value 106 = .ok (.arraylength, 1) := by decide +kernel
theorem dX6_value_107 : decode cX6_value 107 = .ok (.if_icmp .ge 17, 3) := by decide +kernel
theorem dX6_value_110 : decode cX6_value 110 = .ok (.iload 9, 2) := by decide +kernel
theorem dX6_value_112 : decode cX6_value 112 = .ok (.iconst 1, 1) := by decide +kernel
theorem dX6_value_113 : decode cX6_value 113 = .ok (.if_icmp .ne 14, 3) := by decide +kernel
theorem dX6_value_116 : decode cX6_value 116 = .ok (.iload 10, 2) := by decide +kernel
theorem dX6_value_118 : decode cX6_value 118 = .ok (.aload 4, 2) := by decide +kernel
theorem dX6_value_120 : decode cX6_value 120 = .ok (.arraylength, 1) := by decide +kernel
theorem dX6_value_121 : decode cX6_value 121 = .ok (.if_icmp .lt 6, 3) := by decide +kernel
theorem dX6_value_124 : decode cX6_value 124 = .ok (.ldc 39, 2) := by decide +kernel
theorem dX6_value_126 : decode cX6_value 126 = .ok (.ireturn, 1) := by decide +kernel
theorem dX6_value_127 : decode cX6_value 127 = .ok (.aload_n 0, 1) := by decide +kernel
theorem dX6_value_128 : decode cX6_value 128 = .ok (.getfield 9, 3) := by decide +kernel
theorem dX6_value_131 : decode cX6_value 131 = .ok (.iload 7, 2) := by decide +kernel
theorem dX6_value_133 : decode cX6_value 133 = .ok (.iload 9, 2) := by decide +kernel
theorem dX6_value_135 : decode cX6_value 135 = .ok (.ifCond .ne 8, 3) := by decide +kernel
theorem dX6_value_138 : decode cX6_value 138 = .ok (.iload 10, 2) := by decide +kernel
theorem dX6_value_140 : decode cX6_value 140 = .ok (.goto 8, 3) := by decide +kernel
theorem dX6_value_143 : decode cX6_value 143 = .ok (.aload 4, 2) := by decide +kernel
theorem dX6_value_145 : decode cX6_value 145 = .ok (.iload 10, 2) := by decide +kernel
theorem dX6_value_147 : decode cX6_value 147 = .ok (.iaload, 1) := by decide +kernel
theorem dX6_value_148 : decode cX6_value 148 = .ok (.iastore, 1) := by decide +kernel
theorem dX6_value_149 : decode cX6_value 149 = .ok (.iinc 7 1, 3) := by decide +kernel
theorem dX6_value_152 : decode cX6_value 152 = .ok (.goto 152, 3) := by decide +kernel
theorem dX6_value_155 : decode cX6_value 155 = .ok (.iload 7, 2) := by decide +kernel
theorem dX6_value_157 : decode cX6_value 157 = .ok (.iconst 1, 1) := by decide +kernel
theorem dX6_value_158 : decode cX6_value 158 = .ok (.if_icmp .ge 6, 3) := by decide +kernel
theorem dX6_value_161 : decode cX6_value 161 = .ok (.ldc 39, 2) := by decide +kernel
theorem dX6_value_163 : decode cX6_value 163 = .ok (.ireturn, 1) := by decide +kernel
theorem dX6_value_164 : decode cX6_value 164 = .ok (.iload 9, 2) := by decide +kernel
theorem dX6_value_166 : decode cX6_value 166 = .ok (.iconst 2, 1) := by decide +kernel
theorem dX6_value_167 : decode cX6_value 167 = .ok (.if_icmp .ne 26, 3) := by decide +kernel
theorem dX6_value_170 : decode cX6_value 170 = .ok (.aload_n 0, 1) := by decide +kernel
theorem dX6_value_171 : decode cX6_value 171 = .ok (.getfield 9, 3) := by decide +kernel
theorem dX6_value_174 : decode cX6_value 174 = .ok (.iload 7, 2) := by decide +kernel
theorem dX6_value_176 : decode cX6_value 176 = .ok (.iconst 1, 1) := by decide +kernel
theorem dX6_value_177 : decode cX6_value 177 = .ok (.isub, 1) := by decide +kernel
theorem dX6_value_178 : decode cX6_value 178 = .ok (.iconst 1, 1) := by decide +kernel
theorem dX6_value_179 : decode cX6_value 179 = .ok (.aload_n 0, 1) := by decide +kernel
theorem dX6_value_180 : decode cX6_value 180 = .ok (.getfield 9, 3) := by decide +kernel
theorem dX6_value_183 : decode cX6_value 183 = .ok (.iload 7, 2) := by decide +kernel
theorem dX6_value_185 : decode cX6_value 185 = .ok (.iconst 1, 1) := by decide +kernel
theorem dX6_value_186 : decode cX6_value 186 = .ok (.isub, 1) := by decide +kernel
theorem dX6_value_187 : decode cX6_value 187 = .ok (.iaload, 1) := by decide +kernel
theorem dX6_value_188 : decode cX6_value 188 = .ok (.isub, 1) := by decide +kernel
theorem dX6_value_189 : decode cX6_value 189 = .ok (.iastore, 1) := by decide +kernel
theorem dX6_value_190 : decode cX6_value 190 = .ok (.goto 114, 3) := by decide +kernel
theorem dX6_value_193 : decode cX6_value 193 = .ok (.iload 9, 2) := by decide +kernel
theorem dX6_value_195 : decode cX6_value 195 = .ok (.iconst 3, 1) := by decide +kernel
theorem dX6_value_196 : decode cX6_value 196 = .ok (.if_icmp .eq 9, 3) := by decide +kernel
theorem dX6_value_199 : decode cX6_value 199 = .ok (.iload 9, 2) := by decide +kernel
theorem dX6_value_201 : decode cX6_value 201 = .ok (.iconst 4, 1) := by decide +kernel
theorem dX6_value_202 : decode cX6_value 202 = .ok (.if_icmp .ne 42, 3) := by decide +kernel
theorem dX6_value_205 : decode cX6_value 205 = .ok (.aload_n 0, 1) := by decide +kernel
theorem dX6_value_206 : decode cX6_value 206 = .ok (.getfield 9, 3) := by decide +kernel
theorem dX6_value_209 : decode cX6_value 209 = .ok (.iload 7, 2) := by decide +kernel
theorem dX6_value_211 : decode cX6_value 211 = .ok (.iconst 1, 1) := by decide +kernel
theorem dX6_value_212 : decode cX6_value 212 = .ok (.isub, 1) := by decide +kernel
theorem dX6_value_213 : decode cX6_value 213 = .ok (.iaload, 1) := by decide +kernel
theorem dX6_value_214 : decode cX6_value 214 = .ok (.iload 9, 2) := by decide +kernel
theorem dX6_value_216 : decode cX6_value 216 = .ok (.iconst 4, 1) := by decide +kernel
theorem dX6_value_217 : decode cX6_value 217 = .ok (.if_icmp .ne 7, 3) := by decide +kernel
theorem dX6_value_220 : decode cX6_value 220 = .ok (.iconst 1, 1) := by decide +kernel
theorem dX6_value_221 : decode cX6_value 221 = .ok (.goto 4, 3) := by decide +kernel
theorem dX6_value_224 : decode cX6_value 224 = .ok (.iconst 0, 1) := by decide +kernel
theorem dX6_value_225 : decode cX6_value 225 = .ok (.if_icmp .ne 13, 3) := by decide +kernel
theorem dX6_value_228 : decode cX6_value 228 = .ok (.iload 8, 2) := by decide +kernel
theorem dX6_value_230 : decode cX6_value 230 = .ok (.iload 10, 2) := by decide +kernel
theorem dX6_value_232 : decode cX6_value 232 = .ok (.iadd, 1) := by decide +kernel
theorem dX6_value_233 : decode cX6_value 233 = .ok (.istore 8, 2) := by decide +kernel
theorem dX6_value_235 : decode cX6_value 235 = .ok (.goto 69, 3) := by decide +kernel
theorem dX6_value_238 : decode cX6_value 238 = .ok (.iinc 7 (-1), 3) := by decide +kernel
theorem dX6_value_241 : decode cX6_value 241 = .ok (.goto 63, 3) := by decide +kernel
theorem dX6_value_244 : decode cX6_value 244 = .ok (.iinc 7 (-1), 3) := by decide +kernel
theorem dX6_value_247 : decode cX6_value 247 = .ok (.iload 7, 2) := by decide +kernel
theorem dX6_value_249 : decode cX6_value 249 = .ok (.iconst 1, 1) := by decide +kernel
theorem dX6_value_250 : decode cX6_value 250 = .ok (.if_icmp .ge 8, 3) := by decide +kernel
theorem dX6_value_253 : decode cX6_value 253 = .ok (.ldc 39, 2) := by decide +kernel
theorem dX6_value_255 : decode cX6_value 255 = .ok (.goto 26, 3) := by decide +kernel
theorem dX6_value_258 : decode cX6_value 258 = .ok (.iload 9, 2) := by decide +kernel
theorem dX6_value_260 : decode cX6_value 260 = .ok (.aload_n 0, 1) := by decide +kernel
theorem dX6_value_261 : decode cX6_value 261 = .ok (.getfield 9, 3) := by decide +kernel
theorem dX6_value_264 : decode cX6_value 264 = .ok (.iload 7, 2) := by decide +kernel
theorem dX6_value_266 : decode cX6_value 266 = .ok (.iconst 1, 1) := by decide +kernel
theorem dX6_value_267 : decode cX6_value 267 = .ok (.isub, 1) := by decide +kernel
theorem dX6_value_268 : decode cX6_value 268 = .ok (.iaload, 1) := by decide +kernel
theorem dX6_value_269 : decode cX6_value 269 = .ok (.i2l, 1) := by decide +kernel
theorem dX6_value_270 : decode cX6_value 270 = .ok (.aload_n 0, 1) := by decide +kernel
theorem dX6_value_271 : decode cX6_value 271 = .ok (.getfield 9, 3) := by decide +kernel
theorem dX6_value_274 : decode cX6_value 274 = .ok (.iload 7, 2) := by decide +kernel
theorem dX6_value_276 : decode cX6_value 276 = .ok (.iaload, 1) := by decide +kernel
theorem dX6_value_277 : decode cX6_value 277 = .ok (.i2l, 1) := by decide +kernel
theorem dX6_value_278 : decode cX6_value 278 = .ok (.invokestatic 40, 3) := by decide +kernel
theorem dX6_value_281 : decode cX6_value 281 = .ok (.istore 11, 2) := by decide +kernel
theorem dX6_value_283 : decode cX6_value 283 = .ok (.iload 11, 2) := by decide +kernel
theorem dX6_value_285 : decode cX6_value 285 = .ok (.ldc 39, 2) := by decide +kernel
theorem dX6_value_287 : decode cX6_value 287 = .ok (.if_icmp .ne 6, 3) := by decide +kernel
theorem dX6_value_290 : decode cX6_value 290 = .ok (.ldc 39, 2) := by decide +kernel
theorem dX6_value_292 : decode cX6_value 292 = .ok (.ireturn, 1) := by decide +kernel
theorem dX6_value_293 : decode cX6_value 293 = .ok (.aload_n 0, 1) := by decide +kernel
theorem dX6_value_294 : decode cX6_value 294 = .ok (.getfield 9, 3) := by decide +kernel
theorem dX6_value_297 : decode cX6_value 297 = .ok (.iload 7, 2) := by decide +kernel
theorem dX6_value_299 : decode cX6_value 299 = .ok (.iconst 1, 1) := by decide +kernel
theorem dX6_value_300 : decode cX6_value 300 = .ok (.isub, 1) := by decide +kernel
theorem dX6_value_301 : decode cX6_value 301 = .ok (.iload 11, 2) := by decide +kernel
theorem dX6_value_303 : decode cX6_value 303 = .ok (.iastore, 1) := by decide +kernel
theorem dX6_value_304 : decode cX6_value 304 = .ok (.iinc 8 1, 3) := by decide +kernel
theorem dX6_value_307 : decode cX6_value 307 = .ok (.goto (-251), 3) := by decide +kernel
theorem dX6_value_310 : decode cX6_value 310 = .ok (.iload 7, 2) := by decide +kernel
theorem dX6_value_312 : decode cX6_value 312 = .ok (.iconst 1, 1) := by decide +kernel
theorem dX6_value_313 : decode cX6_value 313 = .ok (.if_icmp .ne 12, 3) := by decide +kernel
theorem dX6_value_316 : decode cX6_value 316 = .ok (.aload_n 0, 1) := by decide +kernel
theorem dX6_value_317 : decode cX6_value 317 = .ok (.getfield 9, 3) := by decide +kernel
theorem dX6_value_320 : decode cX6_value 320 = .ok (.iconst 0, 1) := by decide +kernel
theorem dX6_value_321 : decode cX6_value 321 = .ok (.iaload, 1) := by decide +kernel
theorem dX6_value_322 : decode cX6_value 322 = .ok (.goto 5, 3) := by decide +kernel
theorem dX6_value_325 : decode cX6_value 325 = .ok (.ldc 39, 2) := by decide +kernel
theorem dX6_value_327 : decode cX6_value 327 = .ok (.ireturn, 1) := by decide +kernel
theorem dX6_join_0 : decode cX6_join 0 = .ok (.iload_n 0, 1) := by decide +kernel
theorem dX6_join_1 : decode cX6_join 1 = .ok (.tableswitch 147 5 12 #[47, 59, 71, 83, 91, 99, 107, 127], 47) := by decide +kernel
theorem dX6_join_48 : decode cX6_join 48 = .ok (.lload_n 1, 1) := by decide +kernel
theorem dX6_join_49 : decode cX6_join 49 = .ok (.lload_n 3, 1) := by decide +kernel
theorem dX6_join_50 : decode cX6_join 50 = .ok (.lcmp, 1) := by decide +kernel
theorem dX6_join_51 : decode cX6_join 51 = .ok (.ifCond .ge 7, 3) := by decide +kernel
theorem dX6_join_54 : decode cX6_join 54 = .ok (.iconst 1, 1) := by decide +kernel
theorem dX6_join_55 : decode cX6_join 55 = .ok (.goto 4, 3) := by decide +kernel
theorem dX6_join_58 : decode cX6_join 58 = .ok (.iconst 0, 1) := by decide +kernel
theorem dX6_join_59 : decode cX6_join 59 = .ok (.ireturn, 1) := by decide +kernel
theorem dX6_join_60 : decode cX6_join 60 = .ok (.lload_n 1, 1) := by decide +kernel
theorem dX6_join_61 : decode cX6_join 61 = .ok (.lload_n 3, 1) := by decide +kernel
theorem dX6_join_62 : decode cX6_join 62 = .ok (.lcmp, 1) := by decide +kernel
theorem dX6_join_63 : decode cX6_join 63 = .ok (.ifCond .le 7, 3) := by decide +kernel
theorem dX6_join_66 : decode cX6_join 66 = .ok (.iconst 1, 1) := by decide +kernel
theorem dX6_join_67 : decode cX6_join 67 = .ok (.goto 4, 3) := by decide +kernel
theorem dX6_join_70 : decode cX6_join 70 = .ok (.iconst 0, 1) := by decide +kernel
theorem dX6_join_71 : decode cX6_join 71 = .ok (.ireturn, 1) := by decide +kernel
theorem dX6_join_72 : decode cX6_join 72 = .ok (.lload_n 1, 1) := by decide +kernel
theorem dX6_join_73 : decode cX6_join 73 = .ok (.lload_n 3, 1) := by decide +kernel
theorem dX6_join_74 : decode cX6_join 74 = .ok (.lcmp, 1) := by decide +kernel
theorem dX6_join_75 : decode cX6_join 75 = .ok (.ifCond .ne 7, 3) := by decide +kernel
theorem dX6_join_78 : decode cX6_join 78 = .ok (.iconst 1, 1) := by decide +kernel
theorem dX6_join_79 : decode cX6_join 79 = .ok (.goto 4, 3) := by decide +kernel
theorem dX6_join_82 : decode cX6_join 82 = .ok (.iconst 0, 1) := by decide +kernel
theorem dX6_join_83 : decode cX6_join 83 = .ok (.ireturn, 1) := by decide +kernel
theorem dX6_join_84 : decode cX6_join 84 = .ok (.lload_n 1, 1) := by decide +kernel
theorem dX6_join_85 : decode cX6_join 85 = .ok (.lload_n 3, 1) := by decide +kernel
theorem dX6_join_86 : decode cX6_join 86 = .ok (.ladd, 1) := by decide +kernel
theorem dX6_join_87 : decode cX6_join 87 = .ok (.lstore 5, 2) := by decide +kernel
theorem dX6_join_89 : decode cX6_join 89 = .ok (.goto 64, 3) := by decide +kernel
theorem dX6_join_92 : decode cX6_join 92 = .ok (.lload_n 1, 1) := by decide +kernel
theorem dX6_join_93 : decode cX6_join 93 = .ok (.lload_n 3, 1) := by decide +kernel
theorem dX6_join_94 : decode cX6_join 94 = .ok (.lsub, 1) := by decide +kernel
theorem dX6_join_95 : decode cX6_join 95 = .ok (.lstore 5, 2) := by decide +kernel
theorem dX6_join_97 : decode cX6_join 97 = .ok (.goto 56, 3) := by decide +kernel
theorem dX6_join_100 : decode cX6_join 100 = .ok (.lload_n 1, 1) := by decide +kernel
theorem dX6_join_101 : decode cX6_join 101 = .ok (.lload_n 3, 1) := by decide +kernel
theorem dX6_join_102 : decode cX6_join 102 = .ok (.lmul, 1) := by decide +kernel
theorem dX6_join_103 : decode cX6_join 103 = .ok (.lstore 5, 2) := by decide +kernel
theorem dX6_join_105 : decode cX6_join 105 = .ok (.goto 48, 3) := by decide +kernel
theorem dX6_join_108 : decode cX6_join 108 = .ok (.lload_n 3, 1) := by decide +kernel
theorem dX6_join_109 : decode cX6_join 109 = .ok (.lconst 0, 1) := by decide +kernel
theorem dX6_join_110 : decode cX6_join 110 = .ok (.lcmp, 1) := by decide +kernel
theorem dX6_join_111 : decode cX6_join 111 = .ok (.ifCond .ne 9, 3) := by decide +kernel
theorem dX6_join_114 : decode cX6_join 114 = .ok (.ldc2_w 44, 3) := by decide +kernel
theorem dX6_join_117 : decode cX6_join 117 = .ok (.goto 6, 3) := by decide +kernel
theorem dX6_join_120 : decode cX6_join 120 = .ok (.lload_n 1, 1) := by decide +kernel
theorem dX6_join_121 : decode cX6_join 121 = .ok (.lload_n 3, 1) := by decide +kernel
theorem dX6_join_122 : decode cX6_join 122 = .ok (.ldiv, 1) := by decide +kernel
theorem dX6_join_123 : decode cX6_join 123 = .ok (.lstore 5, 2) := by decide +kernel
theorem dX6_join_125 : decode cX6_join 125 = .ok (.goto 28, 3) := by decide +kernel
theorem dX6_join_128 : decode cX6_join 128 = .ok (.lload_n 3, 1) := by decide +kernel
theorem dX6_join_129 : decode cX6_join 129 = .ok (.lconst 0, 1) := by decide +kernel
theorem dX6_join_130 : decode cX6_join 130 = .ok (.lcmp, 1) := by decide +kernel
theorem dX6_join_131 : decode cX6_join 131 = .ok (.ifCond .ne 9, 3) := by decide +kernel
theorem dX6_join_134 : decode cX6_join 134 = .ok (.ldc2_w 44, 3) := by decide +kernel
theorem dX6_join_137 : decode cX6_join 137 = .ok (.goto 6, 3) := by decide +kernel
theorem dX6_join_140 : decode cX6_join 140 = .ok (.lload_n 1, 1) := by decide +kernel
theorem dX6_join_141 : decode cX6_join 141 = .ok (.lload_n 3, 1) := by decide +kernel
theorem dX6_join_142 : decode cX6_join 142 = .ok (.lrem, 1) := by decide +kernel
theorem dX6_join_143 : decode cX6_join 143 = .ok (.lstore 5, 2) := by decide +kernel
theorem dX6_join_145 : decode cX6_join 145 = .ok (.goto 8, 3) := by decide +kernel
theorem dX6_join_148 : decode cX6_join 148 = .ok (.ldc2_w 44, 3) := by decide +kernel
theorem dX6_join_151 : decode cX6_join 151 = .ok (.lstore 5, 2) := by decide +kernel
theorem dX6_join_153 : decode cX6_join 153 = .ok (.lload 5, 2) := by decide +kernel
theorem dX6_join_155 : decode cX6_join 155 = .ok (.ldc2_w 46, 3) := by decide +kernel
theorem dX6_join_158 : decode cX6_join 158 = .ok (.lcmp, 1) := by decide +kernel
theorem dX6_join_159 : decode cX6_join 159 = .ok (.ifCond .gt 12, 3) := by decide +kernel
theorem dX6_join_162 : decode cX6_join 162 = .ok (.lload 5, 2) := by decide +kernel
theorem dX6_join_164 : decode cX6_join 164 = .ok (.ldc2_w 48, 3) := by decide +kernel
theorem dX6_join_167 : decode cX6_join 167 = .ok (.lcmp, 1) := by decide +kernel
theorem dX6_join_168 : decode cX6_join 168 = .ok (.ifCond .ge 8, 3) := by decide +kernel
theorem dX6_join_171 : decode cX6_join 171 = .ok (.ldc 39, 2) := by decide +kernel
theorem dX6_join_173 : decode cX6_join 173 = .ok (.goto 6, 3) := by decide +kernel
theorem dX6_join_176 : decode cX6_join 176 = .ok (.lload 5, 2) := by decide +kernel
theorem dX6_join_178 : decode cX6_join 178 = .ok (.l2i, 1) := by decide +kernel
theorem dX6_join_179 : decode cX6_join 179 = .ok (.ireturn, 1) := by decide +kernel
theorem dX7_init_0 : decode cX7_init 0 = .ok (.aload_n 0, 1) := by decide +kernel
theorem dX7_init_1 : decode cX7_init 1 = .ok (.invokespecial 3, 3) := by decide +kernel
theorem dX7_init_4 : decode cX7_init 4 = .ok (.aload_n 0, 1) := by decide +kernel
theorem dX7_init_5 : decode cX7_init 5 = .ok (.iload_n 2, 1) := by decide +kernel
theorem dX7_init_6 : decode cX7_init 6 = .ok (.iconst 1, 1) := by decide +kernel
theorem dX7_init_7 : decode cX7_init 7 = .ok (.invokestatic 9, 3) := by decide +kernel
theorem dX7_init_10 : decode cX7_init 10 = .ok (.putfield 15, 3) := by decide +kernel
theorem dX7_init_13 : decode cX7_init 13 = .ok (.aload_n 0, 1) := by decide +kernel
theorem dX7_init_14 : decode cX7_init 14 = .ok (.iload_n 1, 1) := by decide +kernel
theorem dX7_init_15 : decode cX7_init 15 = .ok (.iconst 0, 1) := by decide +kernel
theorem dX7_init_16 : decode cX7_init 16 = .ok (.invokestatic 9, 3) := by decide +kernel
theorem dX7_init_19 : decode cX7_init 19 = .ok (.aload_n 0, 1) := by decide +kernel
theorem dX7_init_20 : decode cX7_init 20 = .ok (.getfield 15, 3) := by decide +kernel
theorem dX7_init_23 : decode cX7_init 23 = .ok (.imul, 1) := by decide +kernel
theorem dX7_init_24 : decode cX7_init 24 = .ok (.newarray .int, 2) := by decide +kernel
theorem dX7_init_26 : decode cX7_init 26 = .ok (.putfield 21, 3) := by decide +kernel
theorem dX7_init_29 : decode cX7_init 29 = .ok (.return_, 1) := by decide +kernel
theorem dX7_has_0 : decode cX7_has 0 = .ok (.iload_n 1, 1) := by decide +kernel
theorem dX7_has_1 : decode cX7_has 1 = .ok (.ifCond .lt 15, 3) := by decide +kernel
theorem dX7_has_4 : decode cX7_has 4 = .ok (.iload_n 1, 1) := by decide +kernel
theorem dX7_has_5 : decode cX7_has 5 = .ok (.aload_n 0, 1) := by decide +kernel
theorem dX7_has_6 : decode cX7_has 6 = .ok (.getfield 25, 3) := by decide +kernel
theorem dX7_has_9 : decode cX7_has 9 = .ok (.if_icmp .ge 7, 3) := by decide +kernel
theorem dX7_has_12 : decode cX7_has 12 = .ok (.iconst 1, 1) := by decide +kernel
theorem dX7_has_13 : decode cX7_has 13 = .ok (.goto 4, 3) := by decide +kernel
theorem dX7_has_16 : decode cX7_has 16 = .ok (.iconst 0, 1) := by decide +kernel
theorem dX7_has_17 : decode cX7_has 17 = .ok (.ireturn, 1) := by decide +kernel
theorem dX7_get_0 : decode cX7_get 0 = .ok (.iload_n 1, 1) := by decide +kernel
theorem dX7_get_1 : decode cX7_get 1 = .ok (.ifCond .lt 39, 3) := by decide +kernel
theorem dX7_get_4 : decode cX7_get 4 = .ok (.iload_n 1, 1) := by decide +kernel
theorem dX7_get_5 : decode cX7_get 5 = .ok (.aload_n 0, 1) := by decide +kernel
theorem dX7_get_6 : decode cX7_get 6 = .ok (.getfield 25, 3) := by decide +kernel
theorem dX7_get_9 : decode cX7_get 9 = .ok (.if_icmp .ge 31, 3) := by decide +kernel
theorem dX7_get_12 : decode cX7_get 12 = .ok (.iload_n 2, 1) := by decide +kernel
theorem dX7_get_13 : decode cX7_get 13 = .ok (.ifCond .lt 27, 3) := by decide +kernel
theorem dX7_get_16 : decode cX7_get 16 = .ok (.iload_n 2, 1) := by decide +kernel
theorem dX7_get_17 : decode cX7_get 17 = .ok (.aload_n 0, 1) := by decide +kernel
theorem dX7_get_18 : decode cX7_get 18 = .ok (.getfield 15, 3) := by decide +kernel
theorem dX7_get_21 : decode cX7_get 21 = .ok (.if_icmp .ge 19, 3) := by decide +kernel
theorem dX7_get_24 : decode cX7_get 24 = .ok (.aload_n 0, 1) := by decide +kernel
theorem dX7_get_25 : decode cX7_get 25 = .ok (.getfield 21, 3) := by decide +kernel
theorem dX7_get_28 : decode cX7_get 28 = .ok (.iload_n 1, 1) := by decide +kernel
theorem dX7_get_29 : decode cX7_get 29 = .ok (.aload_n 0, 1) := by decide +kernel
theorem dX7_get_30 : decode cX7_get 30 = .ok (.getfield 15, 3) := by decide +kernel
theorem dX7_get_33 : decode cX7_get 33 = .ok (.imul, 1) := by decide +kernel
theorem dX7_get_34 : decode cX7_get 34 = .ok (.iload_n 2, 1) := by decide +kernel
theorem dX7_get_35 : decode cX7_get 35 = .ok (.iadd, 1) := by decide +kernel
theorem dX7_get_36 : decode cX7_get 36 = .ok (.iaload, 1) := by decide +kernel
theorem dX7_get_37 : decode cX7_get 37 = .ok (.goto 4, 3) := by decide +kernel
theorem dX7_get_40 : decode cX7_get 40 = .ok (.iconst (-1), 1) := by decide +kernel
theorem dX7_get_41 : decode cX7_get 41 = .ok (.ireturn, 1) := by decide +kernel
theorem dX7_set_0 : decode cX7_set 0 = .ok (.iload_n 1, 1) := by decide +kernel
theorem dX7_set_1 : decode cX7_set 1 = .ok (.ifCond .lt 37, 3) := by decide +kernel
theorem dX7_set_4 : decode cX7_set 4 = .ok (.iload_n 1, 1) := by decide +kernel
theorem dX7_set_5 : decode cX7_set 5 = .ok (.aload_n 0, 1) := by decide +kernel
theorem dX7_set_6 : decode cX7_set 6 = .ok (.getfield 25, 3) := by decide +kernel
theorem dX7_set_9 : decode cX7_set 9 = .ok (.if_icmp .ge 29, 3) := by decide +kernel
theorem dX7_set_12 : decode cX7_set 12 = .ok (.iload_n 2, 1) := by decide +kernel
theorem dX7_set_13 : decode cX7_set 13 = .ok (.ifCond .lt 25, 3) := by decide +kernel
theorem dX7_set_16 : decode cX7_set 16 = .ok (.iload_n 2, 1) := by decide +kernel
theorem dX7_set_17 : decode cX7_set 17 = .ok (.aload_n 0, 1) := by decide +kernel
theorem dX7_set_18 : decode cX7_set 18 = .ok (.getfield 15, 3) := by decide +kernel
theorem dX7_set_21 : decode cX7_set 21 = .ok (.if_icmp .ge 17, 3) := by decide +kernel
theorem dX7_set_24 : decode cX7_set 24 = .ok (.aload_n 0, 1) := by decide +kernel
theorem dX7_set_25 : decode cX7_set 25 = .ok (.getfield 21, 3) := by decide +kernel
theorem dX7_set_28 : decode cX7_set 28 = .ok (.iload_n 1, 1) := by decide +kernel
theorem dX7_set_29 : decode cX7_set 29 = .ok (.aload_n 0, 1) := by decide +kernel
theorem dX7_set_30 : decode cX7_set 30 = .ok (.getfield 15, 3) := by decide +kernel
theorem dX7_set_33 : decode cX7_set 33 = .ok (.imul, 1) := by decide +kernel
theorem dX7_set_34 : decode cX7_set 34 = .ok (.iload_n 2, 1) := by decide +kernel
theorem dX7_set_35 : decode cX7_set 35 = .ok (.iadd, 1) := by decide +kernel
theorem dX7_set_36 : decode cX7_set 36 = .ok (.iload_n 3, 1) := by decide +kernel
theorem dX7_set_37 : decode cX7_set 37 = .ok (.iastore, 1) := by decide +kernel
theorem dX7_set_38 : decode cX7_set 38 = .ok (.return_, 1) := by decide +kernel
theorem dX7_open_0 : decode cX7_open 0 = .ok (.aload_n 0, 1) := by decide +kernel
theorem dX7_open_1 : decode cX7_open 1 = .ok (.getfield 25, 3) := by decide +kernel
theorem dX7_open_4 : decode cX7_open 4 = .ok (.iconst 1, 1) := by decide +kernel
theorem dX7_open_5 : decode cX7_open 5 = .ok (.iadd, 1) := by decide +kernel
theorem dX7_open_6 : decode cX7_open 6 = .ok (.aload_n 0, 1) := by decide +kernel
theorem dX7_open_7 : decode cX7_open 7 = .ok (.getfield 15, 3) := by decide +kernel
theorem dX7_open_10 : decode cX7_open 10 = .ok (.imul, 1) := by decide +kernel
theorem dX7_open_11 : decode cX7_open 11 = .ok (.aload_n 0, 1) := by decide +kernel
theorem dX7_open_12 : decode cX7_open 12 = .ok (.getfield 21, 3) := by decide +kernel
theorem dX7_open_15 : decode cX7_open 15 = .ok (.arraylength, 1) := by decide +kernel
theorem dX7_open_16 : decode cX7_open 16 = .ok (.if_icmp .le 5, 3) := by decide +kernel
theorem dX7_open_19 : decode cX7_open 19 = .ok (.iconst (-1), 1) := by decide +kernel
theorem dX7_open_20 : decode cX7_open 20 = .ok (.ireturn, 1) := by decide +kernel
theorem dX7_open_21 : decode cX7_open 21 = .ok (.aload_n 0, 1) := by decide +kernel
theorem dX7_open_22 : decode cX7_open 22 = .ok (.dup, 1) := by decide +kernel
theorem dX7_open_23 : decode cX7_open 23 = .ok (.getfield 25, 3) := by decide +kernel
theorem dX7_open_26 : decode cX7_open 26 = .ok (.iconst 1, 1) := by decide +kernel
theorem dX7_open_27 : decode cX7_open 27 = .ok (.iadd, 1) := by decide +kernel
theorem dX7_open_28 : decode cX7_open 28 = .ok (.putfield 25, 3) := by decide +kernel
theorem dX7_open_31 : decode cX7_open 31 = .ok (.aload_n 0, 1) := by decide +kernel
theorem dX7_open_32 : decode cX7_open 32 = .ok (.getfield 25, 3) := by decide +kernel
theorem dX7_open_35 : decode cX7_open 35 = .ok (.iconst 1, 1) := by decide +kernel
theorem dX7_open_36 : decode cX7_open 36 = .ok (.isub, 1) := by decide +kernel
theorem dX7_open_37 : decode cX7_open 37 = .ok (.ireturn, 1) := by decide +kernel
theorem dX7_cut_0 : decode cX7_cut 0 = .ok (.iload_n 1, 1) := by decide +kernel
theorem dX7_cut_1 : decode cX7_cut 1 = .ok (.ifCond .lt 16, 3) := by decide +kernel
theorem dX7_cut_4 : decode cX7_cut 4 = .ok (.iload_n 1, 1) := by decide +kernel
theorem dX7_cut_5 : decode cX7_cut 5 = .ok (.aload_n 0, 1) := by decide +kernel
theorem dX7_cut_6 : decode cX7_cut 6 = .ok (.getfield 25, 3) := by decide +kernel
theorem dX7_cut_9 : decode cX7_cut 9 = .ok (.if_icmp .ge 8, 3) := by decide +kernel
theorem dX7_cut_12 : decode cX7_cut 12 = .ok (.aload_n 0, 1) := by decide +kernel
theorem dX7_cut_13 : decode cX7_cut 13 = .ok (.iload_n 1, 1) := by decide +kernel
theorem dX7_cut_14 : decode cX7_cut 14 = .ok (.putfield 25, 3) := by decide +kernel
theorem dX7_cut_17 : decode cX7_cut 17 = .ok (.return_, 1) := by decide +kernel
theorem dX7_dropFirst_0 : decode cX7_dropFirst 0 = .ok (.aload_n 0, 1) := by decide +kernel
theorem dX7_dropFirst_1 : decode cX7_dropFirst 1 = .ok (.getfield 25, 3) := by decide +kernel
theorem dX7_dropFirst_4 : decode cX7_dropFirst 4 = .ok (.ifCond .le 38, 3) := by decide +kernel
theorem dX7_dropFirst_7 : decode cX7_dropFirst 7 = .ok (.aload_n 0, 1) := by decide +kernel
theorem dX7_dropFirst_8 : decode cX7_dropFirst 8 = .ok (.dup, 1) := by decide +kernel
theorem dX7_dropFirst_9 : decode cX7_dropFirst 9 = .ok (.getfield 25, 3) := by decide +kernel
theorem dX7_dropFirst_12 : decode cX7_dropFirst 12 = .ok (.iconst 1, 1) := by decide +kernel
theorem dX7_dropFirst_13 : decode cX7_dropFirst 13 = .ok (.isub, 1) := by decide +kernel
theorem dX7_dropFirst_14 : decode cX7_dropFirst 14 = .ok (.putfield 25, 3) := by decide +kernel
theorem dX7_dropFirst_17 : decode cX7_dropFirst 17 = .ok (.aload_n 0, 1) := by decide +kernel
theorem dX7_dropFirst_18 : decode cX7_dropFirst 18 = .ok (.getfield 21, 3) := by decide +kernel
theorem dX7_dropFirst_21 : decode cX7_dropFirst 21 = .ok (.aload_n 0, 1) := by decide +kernel
theorem dX7_dropFirst_22 : decode cX7_dropFirst 22 = .ok (.getfield 15, 3) := by decide +kernel
theorem dX7_dropFirst_25 : decode cX7_dropFirst 25 = .ok (.aload_n 0, 1) := by decide +kernel
theorem dX7_dropFirst_26 : decode cX7_dropFirst 26 = .ok (.getfield 21, 3) := by decide +kernel
theorem dX7_dropFirst_29 : decode cX7_dropFirst 29 = .ok (.iconst 0, 1) := by decide +kernel
theorem dX7_dropFirst_30 : decode cX7_dropFirst 30 = .ok (.aload_n 0, 1) := by decide +kernel
theorem dX7_dropFirst_31 : decode cX7_dropFirst 31 = .ok (.getfield 25, 3) := by decide +kernel
theorem dX7_dropFirst_34 : decode cX7_dropFirst 34 = .ok (.aload_n 0, 1) := by decide +kernel
theorem dX7_dropFirst_35 : decode cX7_dropFirst 35 = .ok (.getfield 15, 3) := by decide +kernel
theorem dX7_dropFirst_38 : decode cX7_dropFirst 38 = .ok (.imul, 1) := by decide +kernel
theorem dX7_dropFirst_39 : decode cX7_dropFirst 39 = .ok (.invokestatic 28, 3) := by decide +kernel
theorem dX7_dropFirst_42 : decode cX7_dropFirst 42 = .ok (.return_, 1) := by decide +kernel
theorem dX7_copyRow_0 : decode cX7_copyRow 0 = .ok (.aload_n 0, 1) := by decide +kernel
theorem dX7_copyRow_1 : decode cX7_copyRow 1 = .ok (.iload_n 1, 1) := by decide +kernel
theorem dX7_copyRow_2 : decode cX7_copyRow 2 = .ok (.invokevirtual 34, 3) := by decide +kernel
theorem dX7_copyRow_5 : decode cX7_copyRow 5 = .ok (.ifCond .eq 38, 3) := by decide +kernel
theorem dX7_copyRow_8 : decode cX7_copyRow 8 = .ok (.aload_n 0, 1) := by decide +kernel
theorem dX7_copyRow_9 : decode cX7_copyRow 9 = .ok (.iload_n 2, 1) := by decide +kernel
theorem dX7_copyRow_10 : decode cX7_copyRow 10 = .ok (.invokevirtual 34, 3) := by decide +kernel
theorem dX7_copyRow_13 : decode cX7_copyRow 13 = .ok (.ifCond .eq 30, 3) := by decide +kernel
theorem dX7_copyRow_16 : decode cX7_copyRow 16 = .ok (.aload_n 0, 1) := by decide +kernel
theorem dX7_copyRow_17 : decode cX7_copyRow 17 = .ok (.getfield 21, 3) := by decide +kernel
theorem dX7_copyRow_20 : decode cX7_copyRow 20 = .ok (.iload_n 1, 1) := by decide +kernel
theorem dX7_copyRow_21 : decode cX7_copyRow 21 = .ok (.aload_n 0, 1) := by decide +kernel
theorem dX7_copyRow_22 : decode cX7_copyRow 22 = .ok (.getfield 15, 3) := by decide +kernel
theorem dX7_copyRow_25 : decode cX7_copyRow 25 = .ok (.imul, 1) := by decide +kernel
theorem dX7_copyRow_26 : decode cX7_copyRow 26 = .ok (.aload_n 0, 1) := by decide +kernel
theorem dX7_copyRow_27 : decode cX7_copyRow 27 = .ok (.getfield 21, 3) := by decide +kernel
theorem dX7_copyRow_30 : decode cX7_copyRow 30 = .ok (.iload_n 2, 1) := by decide +kernel
theorem dX7_copyRow_31 : decode cX7_copyRow 31 = .ok (.aload_n 0, 1) := by decide +kernel
theorem dX7_copyRow_32 : decode cX7_copyRow 32 = .ok (.getfield 15, 3) := by decide +kernel
theorem dX7_copyRow_35 : decode cX7_copyRow 35 = .ok (.imul, 1) := by decide +kernel
theorem dX7_copyRow_36 : decode cX7_copyRow 36 = .ok (.aload_n 0, 1) := by decide +kernel
theorem dX7_copyRow_37 : decode cX7_copyRow 37 = .ok (.getfield 15, 3) := by decide +kernel
theorem dX7_copyRow_40 : decode cX7_copyRow 40 = .ok (.invokestatic 28, 3) := by decide +kernel
theorem dX7_copyRow_43 : decode cX7_copyRow 43 = .ok (.return_, 1) := by decide +kernel
theorem dX7_takeFrom_0 : decode cX7_takeFrom 0 = .ok (.aload_n 1, 1) := by decide +kernel
theorem dX7_takeFrom_1 : decode cX7_takeFrom 1 = .ok (.getfield 15, 3) := by decide +kernel
theorem dX7_takeFrom_4 : decode cX7_takeFrom 4 = .ok (.aload_n 0, 1) := by decide +kernel
theorem dX7_takeFrom_5 : decode cX7_takeFrom 5 = .ok (.getfield 15, 3) := by decide +kernel
theorem dX7_takeFrom_8 : decode cX7_takeFrom 8 = .ok (.if_icmp .ne 50, 3) := by decide +kernel
theorem dX7_takeFrom_11 : decode cX7_takeFrom 11 = .ok (.aload_n 1, 1) := by decide +kernel
theorem dX7_takeFrom_12 : decode cX7_takeFrom 12 = .ok (.getfield 25, 3) := by decide +kernel
theorem dX7_takeFrom_15 : decode cX7_takeFrom 15 = .ok (.aload_n 0, 1) := by decide +kernel
theorem dX7_takeFrom_16 : decode cX7_takeFrom 16 = .ok (.getfield 15, 3) := by decide +kernel
theorem dX7_takeFrom_19 : decode cX7_takeFrom 19 = .ok (.imul, 1) := by decide +kernel
theorem dX7_takeFrom_20 : decode cX7_takeFrom 20 = .ok (.aload_n 0, 1) := by decide +kernel
theorem dX7_takeFrom_21 : decode cX7_takeFrom 21 = .ok (.getfield 21, 3) := by decide +kernel
theorem dX7_takeFrom_24 : decode cX7_takeFrom 24 = .ok (.arraylength, 1) := by decide +kernel
theorem dX7_takeFrom_25 : decode cX7_takeFrom 25 = .ok (.if_icmp .gt 33, 3) := by decide +kernel
theorem dX7_takeFrom_28 : decode cX7_takeFrom 28 = .ok (.aload_n 1, 1) := by decide +kernel
theorem dX7_takeFrom_29 : decode cX7_takeFrom 29 = .ok (.getfield 21, 3) := by decide +kernel
theorem dX7_takeFrom_32 : decode cX7_takeFrom 32 = .ok (.iconst 0, 1) := by decide +kernel
theorem dX7_takeFrom_33 : decode cX7_takeFrom 33 = .ok (.aload_n 0, 1) := by decide +kernel
theorem dX7_takeFrom_34 : decode cX7_takeFrom 34 = .ok (.getfield 21, 3) := by decide +kernel
theorem dX7_takeFrom_37 : decode cX7_takeFrom 37 = .ok (.iconst 0, 1) := by decide +kernel
theorem dX7_takeFrom_38 : decode cX7_takeFrom 38 = .ok (.aload_n 1, 1) := by decide +kernel
theorem dX7_takeFrom_39 : decode cX7_takeFrom 39 = .ok (.getfield 25, 3) := by decide +kernel
theorem dX7_takeFrom_42 : decode cX7_takeFrom 42 = .ok (.aload_n 0, 1) := by decide +kernel
theorem dX7_takeFrom_43 : decode cX7_takeFrom 43 = .ok (.getfield 15, 3) := by decide +kernel
theorem dX7_takeFrom_46 : decode cX7_takeFrom 46 = .ok (.imul, 1) := by decide +kernel
theorem dX7_takeFrom_47 : decode cX7_takeFrom 47 = .ok (.invokestatic 28, 3) := by decide +kernel
theorem dX7_takeFrom_50 : decode cX7_takeFrom 50 = .ok (.aload_n 0, 1) := by decide +kernel
theorem dX7_takeFrom_51 : decode cX7_takeFrom 51 = .ok (.aload_n 1, 1) := by decide +kernel
theorem dX7_takeFrom_52 : decode cX7_takeFrom 52 = .ok (.getfield 25, 3) := by decide +kernel
theorem dX7_takeFrom_55 : decode cX7_takeFrom 55 = .ok (.putfield 25, 3) := by decide +kernel
theorem dX7_takeFrom_58 : decode cX7_takeFrom 58 = .ok (.return_, 1) := by decide +kernel
theorem dX8_init_0 : decode cX8_init 0 = .ok (.aload_n 0, 1) := by decide +kernel
theorem dX8_init_1 : decode cX8_init 1 = .ok (.invokespecial 3, 3) := by decide +kernel
theorem dX8_init_4 : decode cX8_init 4 = .ok (.aload_n 0, 1) := by decide +kernel
theorem dX8_init_5 : decode cX8_init 5 = .ok (.new 9, 3) := by decide +kernel
theorem dX8_init_8 : decode cX8_init 8 = .ok (.dup, 1) := by decide +kernel
theorem dX8_init_9 : decode cX8_init 9 = .ok (.bipush 6, 2) := by decide +kernel
theorem dX8_init_11 : decode cX8_init 11 = .ok (.iconst 4, 1) := by decide +kernel
theorem dX8_init_12 : decode cX8_init 12 = .ok (.invokespecial 11, 3) := by decide +kernel
theorem dX8_init_15 : decode cX8_init 15 = .ok (.putfield 14, 3) := by decide +kernel
theorem dX8_init_18 : decode cX8_init 18 = .ok (.return_, 1) := by decide +kernel
theorem dX8_begin_0 : decode cX8_begin 0 = .ok (.aload_n 0, 1) := by decide +kernel
theorem dX8_begin_1 : decode cX8_begin 1 = .ok (.iload_n 1, 1) := by decide +kernel
theorem dX8_begin_2 : decode cX8_begin 2 = .ok (.putfield 20, 3) := by decide +kernel
theorem dX8_begin_5 : decode cX8_begin 5 = .ok (.aload_n 0, 1) := by decide +kernel
theorem dX8_begin_6 : decode cX8_begin 6 = .ok (.getfield 14, 3) := by decide +kernel
theorem dX8_begin_9 : decode cX8_begin 9 = .ok (.iconst 0, 1) := by decide +kernel
theorem dX8_begin_10 : decode cX8_begin 10 = .ok (.invokevirtual 24, 3) := by decide +kernel
theorem dX8_begin_13 : decode cX8_begin 13 = .ok (.iconst 0, 1) := by decide +kernel
theorem dX8_begin_14 : decode cX8_begin 14 = .ok (.istore_n 3, 1) := by decide +kernel
theorem dX8_begin_15 : decode cX8_begin 15 = .ok (.iload_n 3, 1) := by decide +kernel
theorem dX8_begin_16 : decode cX8_begin 16 = .ok (.iload_n 2, 1) := by decide +kernel
theorem dX8_begin_17 : decode cX8_begin 17 = .ok (.if_icmp .ge 43, 3) := by decide +kernel
theorem dX8_begin_20 : decode cX8_begin 20 = .ok (.aload_n 0, 1) := by decide +kernel
theorem dX8_begin_21 : decode cX8_begin 21 = .ok (.getfield 14, 3) := by decide +kernel
theorem dX8_begin_24 : decode cX8_begin 24 = .ok (.invokevirtual 28, 3) := by decide +kernel
theorem dX8_begin_27 : decode cX8_begin 27 = .ok (.pop, 1) := by decide +kernel
theorem dX8_begin_28 : decode cX8_begin 28 = .ok (.iconst 0, 1) := by decide +kernel
theorem dX8_begin_29 : decode cX8_begin 29 = .ok (.istore 4, 2) := by decide +kernel
