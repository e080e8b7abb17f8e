/-! decode rows -/
theorem dX12_sets_51 : decode cX12_sets 51 = .ok (.invokevirtual 141, 3) := by decide +kernel
theorem dX12_sets_54 : decode cX12_sets 54 = .ok (.iadd, 1) := by decide +kernel
theorem dX12_sets_55 : decode cX12_sets 55 = .ok (.iaload, 1) := by decide +kernel
theorem dX12_sets_56 : decode cX12_sets 56 = .ok (.iastore, 1) := by decide +kernel
theorem dX12_sets_57 : decode cX12_sets 57 = .ok (.aload_n 0, 1) := by decide +kernel
theorem dX12_sets_58 : decode cX12_sets 58 = .ok (.getfield 59, 3) := by decide +kernel
theorem dX12_sets_61 : decode cX12_sets 61 = .ok (.iconst 4, 1) := by decide +kernel
theorem dX12_sets_62 : decode cX12_sets 62 = .ok (.aload_n 0, 1) := by decide +kernel
theorem dX12_sets_63 : decode cX12_sets 63 = .ok (.iload_n 1, 1) := by decide +kernel
theorem dX12_sets_64 : decode cX12_sets 64 = .ok (.iconst 1, 1) := by decide +kernel
theorem dX12_sets_65 : decode cX12_sets 65 = .ok (.invokevirtual 141, 3) := by decide +kernel
theorem dX12_sets_68 : decode cX12_sets 68 = .ok (.iastore, 1) := by decide +kernel
theorem dX12_sets_69 : decode cX12_sets 69 = .ok (.aload_n 0, 1) := by decide +kernel
theorem dX12_sets_70 : decode cX12_sets 70 = .ok (.getfield 59, 3) := by decide +kernel
theorem dX12_sets_73 : decode cX12_sets 73 = .ok (.iconst 5, 1) := by decide +kernel
theorem dX12_sets_74 : decode cX12_sets 74 = .ok (.iload_n 2, 1) := by decide +kernel
theorem dX12_sets_75 : decode cX12_sets 75 = .ok (.aload_n 0, 1) := by decide +kernel
theorem dX12_sets_76 : decode cX12_sets 76 = .ok (.iload_n 1, 1) := by decide +kernel
theorem dX12_sets_77 : decode cX12_sets 77 = .ok (.iconst 4, 1) := by decide +kernel
theorem dX12_sets_78 : decode cX12_sets 78 = .ok (.invokevirtual 141, 3) := by decide +kernel
theorem dX12_sets_81 : decode cX12_sets 81 = .ok (.isub, 1) := by decide +kernel
theorem dX12_sets_82 : decode cX12_sets 82 = .ok (.iastore, 1) := by decide +kernel
theorem dX12_sets_83 : decode cX12_sets 83 = .ok (.aload_n 0, 1) := by decide +kernel
theorem dX12_sets_84 : decode cX12_sets 84 = .ok (.getfield 59, 3) := by decide +kernel
theorem dX12_sets_87 : decode cX12_sets 87 = .ok (.bipush 6, 2) := by decide +kernel
theorem dX12_sets_89 : decode cX12_sets 89 = .ok (.aload_n 0, 1) := by decide +kernel
theorem dX12_sets_90 : decode cX12_sets 90 = .ok (.getfield 24, 3) := by decide +kernel
theorem dX12_sets_93 : decode cX12_sets 93 = .ok (.sipush 362, 3) := by decide +kernel
theorem dX12_sets_96 : decode cX12_sets 96 = .ok (.iaload, 1) := by decide +kernel
theorem dX12_sets_97 : decode cX12_sets 97 = .ok (.iastore, 1) := by decide +kernel
theorem dX12_sets_98 : decode cX12_sets 98 = .ok (.aload_n 0, 1) := by decide +kernel
theorem dX12_sets_99 : decode cX12_sets 99 = .ok (.getfield 59, 3) := by decide +kernel
theorem dX12_sets_102 : decode cX12_sets 102 = .ok (.bipush 7, 2) := by decide +kernel
theorem dX12_sets_104 : decode cX12_sets 104 = .ok (.iload_n 2, 1) := by decide +kernel
theorem dX12_sets_105 : decode cX12_sets 105 = .ok (.iastore, 1) := by decide +kernel
theorem dX12_sets_106 : decode cX12_sets 106 = .ok (.return_, 1) := by decide +kernel
theorem dX12_rankOf_0 : decode cX12_rankOf 0 = .ok (.aload_n 0, 1) := by decide +kernel
theorem dX12_rankOf_1 : decode cX12_rankOf 1 = .ok (.iload_n 1, 1) := by decide +kernel
theorem dX12_rankOf_2 : decode cX12_rankOf 2 = .ok (.iload_n 2, 1) := by decide +kernel
theorem dX12_rankOf_3 : decode cX12_rankOf 3 = .ok (.invokevirtual 326, 3) := by decide +kernel
theorem dX12_rankOf_6 : decode cX12_rankOf 6 = .ok (.aload_n 0, 1) := by decide +kernel
theorem dX12_rankOf_7 : decode cX12_rankOf 7 = .ok (.iconst 1, 1) := by decide +kernel
theorem dX12_rankOf_8 : decode cX12_rankOf 8 = .ok (.sipush (-9999), 3) := by decide +kernel
theorem dX12_rankOf_11 : decode cX12_rankOf 11 = .ok (.sipush 9999, 3) := by decide +kernel
theorem dX12_rankOf_14 : decode cX12_rankOf 14 = .ok (.aload_n 0, 1) := by decide +kernel
theorem dX12_rankOf_15 : decode cX12_rankOf 15 = .ok (.iload_n 1, 1) := by decide +kernel
theorem dX12_rankOf_16 : decode cX12_rankOf 16 = .ok (.iconst 2, 1) := by decide +kernel
theorem dX12_rankOf_17 : decode cX12_rankOf 17 = .ok (.invokevirtual 141, 3) := by decide +kernel
theorem dX12_rankOf_20 : decode cX12_rankOf 20 = .ok (.invokevirtual 323, 3) := by decide +kernel
theorem dX12_rankOf_23 : decode cX12_rankOf 23 = .ok (.ireturn, 1) := by decide +kernel
theorem dX12_isBarred_0 : decode cX12_isBarred 0 = .ok (.aload_n 0, 1) := by decide +kernel
theorem dX12_isBarred_1 : decode cX12_isBarred 1 = .ok (.iload_n 1, 1) := by decide +kernel
theorem dX12_isBarred_2 : decode cX12_isBarred 2 = .ok (.iload_n 2, 1) := by decide +kernel
theorem dX12_isBarred_3 : decode cX12_isBarred 3 = .ok (.invokevirtual 326, 3) := by decide +kernel
theorem dX12_isBarred_6 : decode cX12_isBarred 6 = .ok (.aload_n 0, 1) := by decide +kernel
theorem dX12_isBarred_7 : decode cX12_isBarred 7 = .ok (.iconst 3, 1) := by decide +kernel
theorem dX12_isBarred_8 : decode cX12_isBarred 8 = .ok (.iconst 0, 1) := by decide +kernel
theorem dX12_isBarred_9 : decode cX12_isBarred 9 = .ok (.iconst 1, 1) := by decide +kernel
theorem dX12_isBarred_10 : decode cX12_isBarred 10 = .ok (.iconst 0, 1) := by decide +kernel
theorem dX12_isBarred_11 : decode cX12_isBarred 11 = .ok (.invokevirtual 323, 3) := by decide +kernel
theorem dX12_isBarred_14 : decode cX12_isBarred 14 = .ok (.iconst 1, 1) := by decide +kernel
theorem dX12_isBarred_15 : decode cX12_isBarred 15 = .ok (.if_icmp .ne 7, 3) := by decide +kernel
theorem dX12_isBarred_18 : decode cX12_isBarred 18 = .ok (.iconst 1, 1) := by decide +kernel
theorem dX12_isBarred_19 : decode cX12_isBarred 19 = .ok (.goto 4, 3) := by decide +kernel
theorem dX12_isBarred_22 : decode cX12_isBarred 22 = .ok (.iconst 0, 1) := by decide +kernel
theorem dX12_isBarred_23 : decode cX12_isBarred 23 = .ok (.ireturn, 1) := by decide +kernel
theorem dX12_longOf_0 : decode cX12_longOf 0 = .ok (.iload_n 1, 1) := by decide +kernel
theorem dX12_longOf_1 : decode cX12_longOf 1 = .ok (.iconst (-1), 1) := by decide +kernel
theorem dX12_longOf_2 : decode cX12_longOf 2 = .ok (.if_icmp .ne 7, 3) := by decide +kernel
theorem dX12_longOf_5 : decode cX12_longOf 5 = .ok (.iconst 0, 1) := by decide +kernel
theorem dX12_longOf_6 : decode cX12_longOf 6 = .ok (.goto 31, 3) := by decide +kernel
theorem dX12_longOf_9 : decode cX12_longOf 9 = .ok (.iload_n 1, 1) := by decide +kernel
theorem dX12_longOf_10 : decode cX12_longOf 10 = .ok (.bipush 10, 2) := by decide +kernel
theorem dX12_longOf_12 : decode cX12_longOf 12 = .ok (.if_icmp .ge 16, 3) := by decide +kernel
theorem dX12_longOf_15 : decode cX12_longOf 15 = .ok (.aload_n 0, 1) := by decide +kernel
theorem dX12_longOf_16 : decode cX12_longOf 16 = .ok (.getfield 24, 3) := by decide +kernel
theorem dX12_longOf_19 : decode cX12_longOf 19 = .ok (.sipush 170, 3) := by decide +kernel
theorem dX12_longOf_22 : decode cX12_longOf 22 = .ok (.iload_n 1, 1) := by decide +kernel
theorem dX12_longOf_23 : decode cX12_longOf 23 = .ok (.iadd, 1) := by decide +kernel
theorem dX12_longOf_24 : decode cX12_longOf 24 = .ok (.iaload, 1) := by decide +kernel
theorem dX12_longOf_25 : decode cX12_longOf 25 = .ok (.goto 12, 3) := by decide +kernel
theorem dX12_longOf_28 : decode cX12_longOf 28 = .ok (.aload_n 0, 1) := by decide +kernel
theorem dX12_longOf_29 : decode cX12_longOf 29 = .ok (.getfield 68, 3) := by decide +kernel
theorem dX12_longOf_32 : decode cX12_longOf 32 = .ok (.iload_n 1, 1) := by decide +kernel
theorem dX12_longOf_33 : decode cX12_longOf 33 = .ok (.bipush 10, 2) := by decide +kernel
theorem dX12_longOf_35 : decode cX12_longOf 35 = .ok (.isub, 1) := by decide +kernel
theorem dX12_longOf_36 : decode cX12_longOf 36 = .ok (.iaload, 1) := by decide +kernel
theorem dX12_longOf_37 : decode cX12_longOf 37 = .ok (.ireturn, 1) := by decide +kernel
theorem dX12_takesOf_0 : decode cX12_takesOf 0 = .ok (.iload_n 1, 1) := by decide +kernel
theorem dX12_takesOf_1 : decode cX12_takesOf 1 = .ok (.bipush 10, 2) := by decide +kernel
theorem dX12_takesOf_3 : decode cX12_takesOf 3 = .ok (.if_icmp .ge 7, 3) := by decide +kernel
theorem dX12_takesOf_6 : decode cX12_takesOf 6 = .ok (.iconst 0, 1) := by decide +kernel
theorem dX12_takesOf_7 : decode cX12_takesOf 7 = .ok (.goto 12, 3) := by decide +kernel
theorem dX12_takesOf_10 : decode cX12_takesOf 10 = .ok (.aload_n 0, 1) := by decide +kernel
theorem dX12_takesOf_11 : decode cX12_takesOf 11 = .ok (.getfield 71, 3) := by decide +kernel
theorem dX12_takesOf_14 : decode cX12_takesOf 14 = .ok (.iload_n 1, 1) := by decide +kernel
theorem dX12_takesOf_15 : decode cX12_takesOf 15 = .ok (.bipush 10, 2) := by decide +kernel
theorem dX12_takesOf_17 : decode cX12_takesOf 17 = .ok (.isub, 1) := by decide +kernel
theorem dX12_takesOf_18 : decode cX12_takesOf 18 = .ok (.iaload, 1) := by decide +kernel
theorem dX12_takesOf_19 : decode cX12_takesOf 19 = .ok (.ireturn, 1) := by decide +kernel
theorem dX12_wordsOf_0 : decode cX12_wordsOf 0 = .ok (.iload_n 1, 1) := by decide +kernel
theorem dX12_wordsOf_1 : decode cX12_wordsOf 1 = .ok (.iconst (-1), 1) := by decide +kernel
theorem dX12_wordsOf_2 : decode cX12_wordsOf 2 = .ok (.if_icmp .ne 7, 3) := by decide +kernel
theorem dX12_wordsOf_5 : decode cX12_wordsOf 5 = .ok (.iconst 0, 1) := by decide +kernel
theorem dX12_wordsOf_6 : decode cX12_wordsOf 6 = .ok (.goto 22, 3) := by decide +kernel
theorem dX12_wordsOf_9 : decode cX12_wordsOf 9 = .ok (.iload_n 1, 1) := by decide +kernel
theorem dX12_wordsOf_10 : decode cX12_wordsOf 10 = .ok (.bipush 10, 2) := by decide +kernel
theorem dX12_wordsOf_12 : decode cX12_wordsOf 12 = .ok (.if_icmp .ge 7, 3) := by decide +kernel
theorem dX12_wordsOf_15 : decode cX12_wordsOf 15 = .ok (.iconst 1, 1) := by decide +kernel
theorem dX12_wordsOf_16 : decode cX12_wordsOf 16 = .ok (.goto 12, 3) := by decide +kernel
theorem dX12_wordsOf_19 : decode cX12_wordsOf 19 = .ok (.aload_n 0, 1) := by decide +kernel
theorem dX12_wordsOf_20 : decode cX12_wordsOf 20 = .ok (.getfield 77, 3) := by decide +kernel
theorem dX12_wordsOf_23 : decode cX12_wordsOf 23 = .ok (.iload_n 1, 1) := by decide +kernel
theorem dX12_wordsOf_24 : decode cX12_wordsOf 24 = .ok (.bipush 10, 2) := by decide +kernel
theorem dX12_wordsOf_26 : decode cX12_wordsOf 26 = .ok (.isub, 1) := by decide +kernel
theorem dX12_wordsOf_27 : decode cX12_wordsOf 27 = .ok (.iaload, 1) := by decide +kernel
theorem dX12_wordsOf_28 : decode cX12_wordsOf 28 = .ok (.ireturn, 1) := by decide +kernel
theorem dX12_wordings_0 : decode cX12_wordings 0 = .ok (.iconst 0, 1) := by decide +kernel
theorem dX12_wordings_1 : decode cX12_wordings 1 = .ok (.istore_n 1, 1) := by decide +kernel
theorem dX12_wordings_2 : decode cX12_wordings 2 = .ok (.iload_n 1, 1) := by decide +kernel
theorem dX12_wordings_3 : decode cX12_wordings 3 = .ok (.bipush 8, 2) := by decide +kernel
theorem dX12_wordings_5 : decode cX12_wordings 5 = .ok (.if_icmp .ge 39, 3) := by decide +kernel
theorem dX12_wordings_8 : decode cX12_wordings 8 = .ok (.aload_n 0, 1) := by decide +kernel
theorem dX12_wordings_9 : decode cX12_wordings 9 = .ok (.getfield 68, 3) := by decide +kernel
theorem dX12_wordings_12 : decode cX12_wordings 12 = .ok (.iload_n 1, 1) := by decide +kernel
theorem dX12_wordings_13 : decode cX12_wordings 13 = .ok (.ldc_w 329, 3) := by decide +kernel
theorem dX12_wordings_16 : decode cX12_wordings 16 = .ok (.iastore, 1) := by decide +kernel
theorem dX12_wordings_17 : decode cX12_wordings 17 = .ok (.aload_n 0, 1) := by decide +kernel
theorem dX12_wordings_18 : decode cX12_wordings 18 = .ok (.getfield 71, 3) := by decide +kernel
theorem dX12_wordings_21 : decode cX12_wordings 21 = .ok (.iload_n 1, 1) := by decide +kernel
theorem dX12_wordings_22 : decode cX12_wordings 22 = .ok (.iconst 0, 1) := by decide +kernel
theorem dX12_wordings_23 : decode cX12_wordings 23 = .ok (.iastore, 1) := by decide +kernel
theorem dX12_wordings_24 : decode cX12_wordings 24 = .ok (.aload_n 0, 1) := by decide +kernel
theorem dX12_wordings_25 : decode cX12_wordings 25 = .ok (.getfield 74, 3) := by decide +kernel
theorem dX12_wordings_28 : decode cX12_wordings 28 = .ok (.iload_n 1, 1) := by decide +kernel
theorem dX12_wordings_29 : decode cX12_wordings 29 = .ok (.iconst (-1), 1) := by decide +kernel
theorem dX12_wordings_30 : decode cX12_wordings 30 = .ok (.iastore, 1) := by decide +kernel
theorem dX12_wordings_31 : decode cX12_wordings 31 = .ok (.aload_n 0, 1) := by decide +kernel
theorem dX12_wordings_32 : decode cX12_wordings 32 = .ok (.getfield 77, 3) := by decide +kernel
theorem dX12_wordings_35 : decode cX12_wordings 35 = .ok (.iload_n 1, 1) := by decide +kernel
theorem dX12_wordings_36 : decode cX12_wordings 36 = .ok (.iconst 0, 1) := by decide +kernel
theorem dX12_wordings_37 : decode cX12_wordings 37 = .ok (.iastore, 1) := by decide +kernel
theorem dX12_wordings_38 : decode cX12_wordings 38 = .ok (.iinc 1 1, 3) := by decide +kernel
theorem dX12_wordings_41 : decode cX12_wordings 41 = .ok (.goto (-39), 3) := by decide +kernel
theorem dX12_wordings_44 : decode cX12_wordings 44 = .ok (.iconst 1, 1) := by decide +kernel
theorem dX12_wordings_45 : decode cX12_wordings 45 = .ok (.istore_n 1, 1) := by decide +kernel
theorem dX12_wordings_46 : decode cX12_wordings 46 = .ok (.iload_n 1, 1) := by decide +kernel
theorem dX12_wordings_47 : decode cX12_wordings 47 = .ok (.ifCond .eq 46, 3) := by decide +kernel
theorem dX12_wordings_50 : decode cX12_wordings 50 = .ok (.iconst 0, 1) := by decide +kernel
theorem dX12_wordings_51 : decode cX12_wordings 51 = .ok (.istore_n 1, 1) := by decide +kernel
theorem dX12_wordings_52 : decode cX12_wordings 52 = .ok (.iconst 0, 1) := by decide +kernel
theorem dX12_wordings_53 : decode cX12_wordings 53 = .ok (.istore_n 2, 1) := by decide +kernel
theorem dX12_wordings_54 : decode cX12_wordings 54 = .ok (.iload_n 2, 1) := by decide +kernel
theorem dX12_wordings_55 : decode cX12_wordings 55 = .ok (.aload_n 0, 1) := by decide +kernel
theorem dX12_wordings_56 : decode cX12_wordings 56 = .ok (.getfield 24, 3) := by decide +kernel
theorem dX12_wordings_59 : decode cX12_wordings 59 = .ok (.sipush 364, 3) := by decide +kernel
theorem dX12_wordings_62 : decode cX12_wordings 62 = .ok (.iaload, 1) := by decide +kernel
theorem dX12_wordings_63 : decode cX12_wordings 63 = .ok (.if_icmp .ge 27, 3) := by decide +kernel
theorem dX12_wordings_66 : decode cX12_wordings 66 = .ok (.aload_n 0, 1) := by decide +kernel
theorem dX12_wordings_67 : decode cX12_wordings 67 = .ok (.iload_n 2, 1) := by decide +kernel
theorem dX12_wordings_68 : decode cX12_wordings 68 = .ok (.invokevirtual 330, 3) := by decide +kernel
theorem dX12_wordings_71 : decode cX12_wordings 71 = .ok (.ifCond .ne 7, 3) := by decide +kernel
theorem dX12_wordings_74 : decode cX12_wordings 74 = .ok (.iload_n 1, 1) := by decide +kernel
theorem dX12_wordings_75 : decode cX12_wordings 75 = .ok (.ifCond .eq 7, 3) := by decide +kernel
theorem dX12_wordings_78 : decode cX12_wordings 78 = .ok (.iconst 1, 1) := by decide +kernel
theorem dX12_wordings_79 : decode cX12_wordings 79 = .ok (.goto 4, 3) := by decide +kernel
theorem dX12_wordings_82 : decode cX12_wordings 82 = .ok (.iconst 0, 1) := by decide +kernel
theorem dX12_wordings_83 : decode cX12_wordings 83 = .ok (.istore_n 1, 1) := by decide +kernel
theorem dX12_wordings_84 : decode cX12_wordings 84 = .ok (.iinc 2 1, 3) := by decide +kernel
theorem dX12_wordings_87 : decode cX12_wordings 87 = .ok (.goto (-33), 3) := by decide +kernel
theorem dX12_wordings_90 : decode cX12_wordings 90 = .ok (.goto (-44), 3) := by decide +kernel
theorem dX12_wordings_93 : decode cX12_wordings 93 = .ok (.iconst 0, 1) := by decide +kernel
theorem dX12_wordings_94 : decode cX12_wordings 94 = .ok (.istore_n 2, 1) := by decide +kernel
theorem dX12_wordings_95 : decode cX12_wordings 95 = .ok (.iload_n 2, 1) := by decide +kernel
theorem dX12_wordings_96 : decode cX12_wordings 96 = .ok (.bipush 8, 2) := by decide +kernel
theorem dX12_wordings_98 : decode cX12_wordings 98 = .ok (.if_icmp .ge 93, 3) := by decide +kernel
theorem dX12_wordings_101 : decode cX12_wordings 101 = .ok (.aload_n 0, 1) := by decide +kernel
theorem dX12_wordings_102 : decode cX12_wordings 102 = .ok (.getfield 24, 3) := by decide +kernel
theorem dX12_wordings_105 : decode cX12_wordings 105 = .ok (.sipush 364, 3) := by decide +kernel
theorem dX12_wordings_108 : decode cX12_wordings 108 = .ok (.iaload, 1) := by decide +kernel
theorem dX12_wordings_109 : decode cX12_wordings 109 = .ok (.iconst 1, 1) := by decide +kernel
theorem dX12_wordings_110 : decode cX12_wordings 110 = .ok (.isub, 1) := by decide +kernel
theorem dX12_wordings_111 : decode cX12_wordings 111 = .ok (.istore_n 3, 1) := by decide +kernel
theorem dX12_wordings_112 : decode cX12_wordings 112 = .ok (.iload_n 3, 1) := by decide +kernel
theorem dX12_wordings_113 : decode cX12_wordings 113 = .ok (.ifCond .lt 72, 3) := by decide +kernel
theorem dX12_wordings_116 : decode cX12_wordings 116 = .ok (.aload_n 0, 1) := by decide +kernel
theorem dX12_wordings_117 : decode cX12_wordings 117 = .ok (.getfield 24, 3) := by decide +kernel
theorem dX12_wordings_120 : decode cX12_wordings 120 = .ok (.sipush 180, 3) := by decide +kernel
theorem dX12_wordings_123 : decode cX12_wordings 123 = .ok (.iconst 4, 1) := by decide +kernel
theorem dX12_wordings_124 : decode cX12_wordings 124 = .ok (.iload_n 3, 1) := by decide +kernel
theorem dX12_wordings_125 : decode cX12_wordings 125 = .ok (.imul, 1) := by decide +kernel
theorem dX12_wordings_126 : decode cX12_wordings 126 = .ok (.iadd, 1) := by decide +kernel
theorem dX12_wordings_127 : decode cX12_wordings 127 = .ok (.iaload, 1) := by decide +kernel
theorem dX12_wordings_128 : decode cX12_wordings 128 = .ok (.iload_n 2, 1) := by decide +kernel
theorem dX12_wordings_129 : decode cX12_wordings 129 = .ok (.if_icmp .ne 50, 3) := by decide +kernel
theorem dX12_wordings_132 : decode cX12_wordings 132 = .ok (.aload_n 0, 1) := by decide +kernel
theorem dX12_wordings_133 : decode cX12_wordings 133 = .ok (.getfield 68, 3) := by decide +kernel
theorem dX12_wordings_136 : decode cX12_wordings 136 = .ok (.iload_n 2, 1) := by decide +kernel
theorem dX12_wordings_137 : decode cX12_wordings 137 = .ok (.iaload, 1) := by decide +kernel
theorem dX12_wordings_138 : decode cX12_wordings 138 = .ok (.ldc_w 329, 3) := by decide +kernel
theorem dX12_wordings_141 : decode cX12_wordings 141 = .ok (.if_icmp .ge 38, 3) := by decide +kernel
theorem dX12_wordings_144 : decode cX12_wordings 144 = .ok (.aload_n 0, 1) := by decide +kernel
theorem dX12_wordings_145 : decode cX12_wordings 145 = .ok (.iload_n 3, 1) := by decide +kernel
theorem dX12_wordings_146 : decode cX12_wordings 146 = .ok (.invokevirtual 333, 3) := by decide +kernel
theorem dX12_wordings_149 : decode cX12_wordings 149 = .ok (.aload_n 0, 1) := by decide +kernel
theorem dX12_wordings_150 : decode cX12_wordings 150 = .ok (.getfield 68, 3) := by decide +kernel
theorem dX12_wordings_153 : decode cX12_wordings 153 = .ok (.iload_n 2, 1) := by decide +kernel
theorem dX12_wordings_154 : decode cX12_wordings 154 = .ok (.iaload, 1) := by decide +kernel
theorem dX12_wordings_155 : decode cX12_wordings 155 = .ok (.if_icmp .ne 24, 3) := by decide +kernel
theorem dX12_wordings_158 : decode cX12_wordings 158 = .ok (.aload_n 0, 1) := by decide +kernel
theorem dX12_wordings_159 : decode cX12_wordings 159 = .ok (.iload_n 3, 1) := by decide +kernel
theorem dX12_wordings_160 : decode cX12_wordings 160 = .ok (.invokevirtual 336, 3) := by decide +kernel
theorem dX12_wordings_163 : decode cX12_wordings 163 = .ok (.aload_n 0, 1) := by decide +kernel
theorem dX12_wordings_164 : decode cX12_wordings 164 = .ok (.getfield 71, 3) := by decide +kernel
theorem dX12_wordings_167 : decode cX12_wordings 167 = .ok (.iload_n 2, 1) := by decide +kernel
theorem dX12_wordings_168 : decode cX12_wordings 168 = .ok (.iaload, 1) := by decide +kernel
theorem dX12_wordings_169 : decode cX12_wordings 169 = .ok (.if_icmp .ne 10, 3) := by decide +kernel
theorem dX12_wordings_172 : decode cX12_wordings 172 = .ok (.aload_n 0, 1) := by decide +kernel
theorem dX12_wordings_173 : decode cX12_wordings 173 = .ok (.getfield 74, 3) := by decide +kernel
theorem dX12_wordings_176 : decode cX12_wordings 176 = .ok (.iload_n 2, 1) := by decide +kernel
theorem dX12_wordings_177 : decode cX12_wordings 177 = .ok (.iload_n 3, 1) := by decide +kernel
theorem dX12_wordings_178 : decode cX12_wordings 178 = .ok (.iastore, 1) := by decide +kernel
theorem dX12_wordings_179 : decode cX12_wordings 179 = .ok (.iinc 3 (-1), 3) := by decide +kernel
theorem dX12_wordings_182 : decode cX12_wordings 182 = .ok (.goto (-70), 3) := by decide +kernel
theorem dX12_wordings_185 : decode cX12_wordings 185 = .ok (.iinc 2 1, 3) := by decide +kernel
theorem dX12_wordings_188 : decode cX12_wordings 188 = .ok (.goto (-93), 3) := by decide +kernel
theorem dX12_wordings_191 : decode cX12_wordings 191 = .ok (.iconst 0, 1) := by decide +kernel
theorem dX12_wordings_192 : decode cX12_wordings 192 = .ok (.istore_n 2, 1) := by decide +kernel
theorem dX12_wordings_193 : decode cX12_wordings 193 = .ok (.iload_n 2, 1) := by decide +kernel
theorem dX12_wordings_194 : decode cX12_wordings 194 = .ok (.bipush 8, 2) := by decide +kernel
theorem dX12_wordings_196 : decode cX12_wordings 196 = .ok (.if_icmp .ge 102, 3) := by decide +kernel
theorem dX12_wordings_199 : decode cX12_wordings 199 = .ok (.iconst 0, 1) := by decide +kernel
theorem dX12_wordings_200 : decode cX12_wordings 200 = .ok (.istore_n 3, 1) := by decide +kernel
theorem dX12_wordings_201 : decode cX12_wordings 201 = .ok (.iload_n 3, 1) := by decide +kernel
theorem dX12_wordings_202 : decode cX12_wordings 202 = .ok (.bipush 8, 2) := by decide +kernel
theorem dX12_wordings_204 : decode cX12_wordings 204 = .ok (.if_icmp .ge 88, 3) := by decide +kernel
theorem dX12_wordings_207 : decode cX12_wordings 207 = .ok (.aload_n 0, 1) := by decide +kernel
theorem dX12_wordings_208 : decode cX12_wordings 208 = .ok (.getfield 74, 3) := by decide +kernel
theorem dX12_wordings_211 : decode cX12_wordings 211 = .ok (.iload_n 3, 1) := by decide +kernel
theorem dX12_wordings_212 : decode cX12_wordings 212 = .ok (.iaload, 1) := by decide +kernel
theorem dX12_wordings_213 : decode cX12_wordings 213 = .ok (.istore 4, 2) := by decide +kernel
theorem dX12_wordings_215 : decode cX12_wordings 215 = .ok (.iload 4, 2) := by decide +kernel
theorem dX12_wordings_217 : decode cX12_wordings 217 = .ok (.iconst (-1), 1) := by decide +kernel
theorem dX12_wordings_218 : decode cX12_wordings 218 = .ok (.if_icmp .eq 68, 3) := by decide +kernel
theorem dX12_wordings_221 : decode cX12_wordings 221 = .ok (.aload_n 0, 1) := by decide +kernel
theorem dX12_wordings_222 : decode cX12_wordings 222 = .ok (.getfield 77, 3) := by decide +kernel
theorem dX12_wordings_225 : decode cX12_wordings 225 = .ok (.iload_n 3, 1) := by decide +kernel
theorem dX12_wordings_226 : decode cX12_wordings 226 = .ok (.aload_n 0, 1) := by decide +kernel
theorem dX12_wordings_227 : decode cX12_wordings 227 = .ok (.aload_n 0, 1) := by decide +kernel
theorem dX12_wordings_228 : decode cX12_wordings 228 = .ok (.getfield 24, 3) := by decide +kernel
theorem dX12_wordings_231 : decode cX12_wordings 231 = .ok (.sipush 180, 3) := by decide +kernel
theorem dX12_wordings_234 : decode cX12_wordings 234 = .ok (.iconst 4, 1) := by decide +kernel
theorem dX12_wordings_235 : decode cX12_wordings 235 = .ok (.iload 4, 2) := by decide +kernel
theorem dX12_wordings_237 : decode cX12_wordings 237 = .ok (.imul, 1) := by decide +kernel
theorem dX12_wordings_238 : decode cX12_wordings 238 = .ok (.iadd, 1) := by decide +kernel
theorem dX12_wordings_239 : decode cX12_wordings 239 = .ok (.iconst 1, 1) := by decide +kernel
theorem dX12_wordings_240 : decode cX12_wordings 240 = .ok (.iadd, 1) := by decide +kernel
theorem dX12_wordings_241 : decode cX12_wordings 241 = .ok (.iaload, 1) := by decide +kernel
theorem dX12_wordings_242 : decode cX12_wordings 242 = .ok (.invokevirtual 339, 3) := by decide +kernel
theorem dX12_wordings_245 : decode cX12_wordings 245 = .ok (.aload_n 0, 1) := by decide +kernel
theorem dX12_wordings_246 : decode cX12_wordings 246 = .ok (.aload_n 0, 1) := by decide +kernel
theorem dX12_wordings_247 : decode cX12_wordings 247 = .ok (.getfield 24, 3) := by decide +kernel
theorem dX12_wordings_250 : decode cX12_wordings 250 = .ok (.sipush 180, 3) := by decide +kernel
theorem dX12_wordings_253 : decode cX12_wordings 253 = .ok (.iconst 4, 1) := by decide +kernel
theorem dX12_wordings_254 : decode cX12_wordings 254 = .ok (.iload 4, 2) := by decide +kernel
theorem dX12_wordings_256 : decode cX12_wordings 256 = .ok (.imul, 1) := by decide +kernel
theorem dX12_wordings_257 : decode cX12_wordings 257 = .ok (.iadd, 1) := by decide +kernel
theorem dX12_wordings_258 : decode cX12_wordings 258 = .ok (.iconst 2, 1) := by decide +kernel
theorem dX12_wordings_259 : decode cX12_wordings 259 = .ok (.iadd, 1) := by decide +kernel
theorem dX12_wordings_260 : decode cX12_wordings 260 = .ok (.iaload, 1) := by decide +kernel
theorem dX12_wordings_261 : decode cX12_wordings 261 = .ok (.invokevirtual 339, 3) := by decide +kernel
theorem dX12_wordings_264 : decode cX12_wordings 264 = .ok (.iadd, 1) := by decide +kernel
theorem dX12_wordings_265 : decode cX12_wordings 265 = .ok (.aload_n 0, 1) := by decide +kernel
theorem dX12_wordings_266 : decode cX12_wordings 266 = .ok (.aload_n 0, 1) := by decide +kernel
theorem dX12_wordings_267 : decode cX12_wordings 267 = .ok (.getfield 24, 3) := by decide +kernel
theorem dX12_wordings_270 : decode cX12_wordings 270 = .ok (.sipush 180, 3) := by decide +kernel
theorem dX12_wordings_273 : decode cX12_wordings 273 = .ok (.iconst 4, 1) := by decide +kernel
theorem dX12_wordings_274 : decode cX12_wordings 274 = .ok (.iload 4, 2) := by decide +kernel
theorem dX12_wordings_276 : decode cX12_wordings 276 = .ok (.imul, 1) := by decide +kernel
theorem dX12_wordings_277 : decode cX12_wordings 277 = .ok (.iadd, 1) := by decide +kernel
theorem dX12_wordings_278 : decode cX12_wordings 278 = .ok (.iconst 3, 1) := by decide +kernel
theorem dX12_wordings_279 : decode cX12_wordings 279 = .ok (.iadd, 1) := by decide +kernel
theorem dX12_wordings_280 : decode cX12_wordings 280 = .ok (.iaload, 1) := by decide +kernel
theorem dX12_wordings_281 : decode cX12_wordings 281 = .ok (.invokevirtual 339, 3) := by decide +kernel
theorem dX12_wordings_284 : decode cX12_wordings 284 = .ok (.iadd, 1) := by decide +kernel
theorem dX12_wordings_285 : decode cX12_wordings 285 = .ok (.iastore, 1) := by decide +kernel
theorem dX12_wordings_286 : decode cX12_wordings 286 = .ok (.iinc 3 1, 3) := by decide +kernel
theorem dX12_wordings_289 : decode cX12_wordings 289 = .ok (.goto (-88), 3) := by decide +kernel
theorem dX12_wordings_292 : decode cX12_wordings 292 = .ok (.iinc 2 1, 3) := by decide +kernel
theorem dX12_wordings_295 : decode cX12_wordings 295 = .ok (.goto (-102), 3) := by decide +kernel
theorem dX12_wordings_298 : decode cX12_wordings 298 = .ok (.return_, 1) := by decide +kernel
theorem dX12_sum_0 : decode cX12_sum 0 = .ok (.iconst 0, 1) := by decide +kernel
theorem dX12_sum_1 : decode cX12_sum 1 = .ok (.istore_n 2, 1) := by decide +kernel
theorem dX12_sum_2 : decode cX12_sum 2 = .ok (.iconst 1, 1) := by decide +kernel
theorem dX12_sum_3 : decode cX12_sum 3 = .ok (.istore_n 3, 1) := by decide +kernel
theorem dX12_sum_4 : decode cX12_sum 4 = .ok (.iload_n 3, 1) := by decide +kernel
theorem dX12_sum_5 : decode cX12_sum 5 = .ok (.iconst 4, 1) := by decide +kernel
theorem dX12_sum_6 : decode cX12_sum 6 = .ok (.if_icmp .ge 55, 3) := by decide +kernel
theorem dX12_sum_9 : decode cX12_sum 9 = .ok (.aload_n 0, 1) := by decide +kernel
theorem dX12_sum_10 : decode cX12_sum 10 = .ok (.aload_n 0, 1) := by decide +kernel
theorem dX12_sum_11 : decode cX12_sum 11 = .ok (.getfield 24, 3) := by decide +kernel
theorem dX12_sum_14 : decode cX12_sum 14 = .ok (.sipush 180, 3) := by decide +kernel
theorem dX12_sum_17 : decode cX12_sum 17 = .ok (.iconst 4, 1) := by decide +kernel
theorem dX12_sum_18 : decode cX12_sum 18 = .ok (.iload_n 1, 1) := by decide +kernel
theorem dX12_sum_19 : decode cX12_sum 19 = .ok (.imul, 1) := by decide +kernel
theorem dX12_sum_20 : decode cX12_sum 20 = .ok (.iadd, 1) := by decide +kernel
theorem dX12_sum_21 : decode cX12_sum 21 = .ok (.iload_n 3, 1) := by decide +kernel
theorem dX12_sum_22 : decode cX12_sum 22 = .ok (.iadd, 1) := by decide +kernel
theorem dX12_sum_23 : decode cX12_sum 23 = .ok (.iaload, 1) := by decide +kernel
theorem dX12_sum_24 : decode cX12_sum 24 = .ok (.invokevirtual 342, 3) := by decide +kernel
theorem dX12_sum_27 : decode cX12_sum 27 = .ok (.istore 4, 2) := by decide +kernel
theorem dX12_sum_29 : decode cX12_sum 29 = .ok (.iload 4, 2) := by decide +kernel
theorem dX12_sum_31 : decode cX12_sum 31 = .ok (.ldc_w 329, 3) := by decide +kernel
theorem dX12_sum_34 : decode cX12_sum 34 = .ok (.if_icmp .ge 10, 3) := by decide +kernel
theorem dX12_sum_37 : decode cX12_sum 37 = .ok (.iload_n 2, 1) := by decide +kernel
theorem dX12_sum_38 : decode cX12_sum 38 = .ok (.ldc_w 329, 3) := by decide +kernel
theorem dX12_sum_41 : decode cX12_sum 41 = .ok (.if_icmp .lt 9, 3) := by decide +kernel
theorem dX12_sum_44 : decode cX12_sum 44 = .ok (.ldc_w 329, 3) := by decide +kernel
theorem dX12_sum_47 : decode cX12_sum 47 = .ok (.goto 7, 3) := by decide +kernel
theorem dX12_sum_50 : decode cX12_sum 50 = .ok (.iload_n 2, 1) := by decide +kernel
theorem dX12_sum_51 : decode cX12_sum 51 = .ok (.iload 4, 2) := by decide +kernel
theorem dX12_sum_53 : decode cX12_sum 53 = .ok (.iadd, 1) := by decide +kernel
theorem dX12_sum_54 : decode cX12_sum 54 = .ok (.istore_n 2, 1) := by decide +kernel
theorem dX12_sum_55 : decode cX12_sum 55 = .ok (.iinc 3 1, 3) := by decide +kernel
theorem dX12_sum_58 : decode cX12_sum 58 = .ok (.goto (-54), 3) := by decide +kernel
theorem dX12_sum_61 : decode cX12_sum 61 = .ok (.iload_n 2, 1) := by decide +kernel
theorem dX12_sum_62 : decode cX12_sum 62 = .ok (.ireturn, 1) := by decide +kernel
theorem dX12_rulesOf_0 : decode cX12_rulesOf 0 = .ok (.iconst 1, 1) := by decide +kernel
theorem dX12_rulesOf_1 : decode cX12_rulesOf 1 = .ok (.aload_n 0, 1) := by decide +kernel
theorem dX12_rulesOf_2 : decode cX12_rulesOf 2 = .ok (.aload_n 0, 1) := by decide +kernel
theorem dX12_rulesOf_3 : decode cX12_rulesOf 3 = .ok (.getfield 24, 3) := by decide +kernel
theorem dX12_rulesOf_6 : decode cX12_rulesOf 6 = .ok (.sipush 180, 3) := by decide +kernel
theorem dX12_rulesOf_9 : decode cX12_rulesOf 9 = .ok (.iconst 4, 1) := by decide +kernel
theorem dX12_rulesOf_10 : decode cX12_rulesOf 10 = .ok (.iload_n 1, 1) := by decide +kernel
theorem dX12_rulesOf_11 : decode cX12_rulesOf 11 = .ok (.imul, 1) := by decide +kernel
theorem dX12_rulesOf_12 : decode cX12_rulesOf 12 = .ok (.iadd, 1) := by decide +kernel
theorem dX12_rulesOf_13 : decode cX12_rulesOf 13 = .ok (.iconst 1, 1) := by decide +kernel
theorem dX12_rulesOf_14 : decode cX12_rulesOf 14 = .ok (.iadd, 1) := by decide +kernel
theorem dX12_rulesOf_15 : decode cX12_rulesOf 15 = .ok (.iaload, 1) := by decide +kernel
theorem dX12_rulesOf_16 : decode cX12_rulesOf 16 = .ok (.invokevirtual 345, 3) := by decide +kernel
theorem dX12_rulesOf_19 : decode cX12_rulesOf 19 = .ok (.iadd, 1) := by decide +kernel
theorem dX12_rulesOf_20 : decode cX12_rulesOf 20 = .ok (.aload_n 0, 1) := by decide +kernel
theorem dX12_rulesOf_21 : decode cX12_rulesOf 21 = .ok (.aload_n 0, 1) := by decide +kernel
theorem dX12_rulesOf_22 : decode cX12_rulesOf 22 = .ok (.getfield 24, 3) := by decide +kernel
theorem dX12_rulesOf_25 : decode cX12_rulesOf 25 = .ok (.sipush 180, 3) := by decide +kernel
theorem dX12_rulesOf_28 : decode cX12_rulesOf 28 = .ok (.iconst 4, 1) := by decide +kernel
theorem dX12_rulesOf_29 : decode cX12_rulesOf 29 = .ok (.iload_n 1, 1) := by decide +kernel
theorem dX12_rulesOf_30 : decode cX12_rulesOf 30 = .ok (.imul, 1) := by decide +kernel
theorem dX12_rulesOf_31 : decode cX12_rulesOf 31 = .ok (.iadd, 1) := by decide +kernel
theorem dX12_rulesOf_32 : decode cX12_rulesOf 32 = .ok (.iconst 2, 1) := by decide +kernel
theorem dX12_rulesOf_33 : decode cX12_rulesOf 33 = .ok (.iadd, 1) := by decide +kernel
theorem dX12_rulesOf_34 : decode cX12_rulesOf 34 = .ok (.iaload, 1) := by decide +kernel
theorem dX12_rulesOf_35 : decode cX12_rulesOf 35 = .ok (.invokevirtual 345, 3) := by decide +kernel
theorem dX12_rulesOf_38 : decode cX12_rulesOf 38 = .ok (.iadd, 1) := by decide +kernel
theorem dX12_rulesOf_39 : decode cX12_rulesOf 39 = .ok (.aload_n 0, 1) := by decide +kernel
theorem dX12_rulesOf_40 : decode cX12_rulesOf 40 = .ok (.aload_n 0, 1) := by decide +kernel
theorem dX12_rulesOf_41 : decode cX12_rulesOf 41 = .ok (.getfield 24, 3) := by decide +kernel
theorem dX12_rulesOf_44 : decode cX12_rulesOf 44 = .ok (.sipush 180, 3) := by decide +kernel
theorem dX12_rulesOf_47 : decode cX12_rulesOf 47 = .ok (.iconst 4, 1) := by decide +kernel
theorem dX12_rulesOf_48 : decode cX12_rulesOf 48 = .ok (.iload_n 1, 1) := by decide +kernel
theorem dX12_rulesOf_49 : decode cX12_rulesOf 49 = .ok (.imul, 1) := by decide +kernel
theorem dX12_rulesOf_50 : decode cX12_rulesOf 50 = .ok (.iadd, 1) := by decide +kernel
theorem dX12_rulesOf_51 : decode cX12_rulesOf 51 = .ok (.iconst 3, 1) := by decide +kernel
theorem dX12_rulesOf_52 : decode cX12_rulesOf 52 = .ok (.iadd, 1) := by decide +kernel
theorem dX12_rulesOf_53 : decode cX12_rulesOf 53 = .ok (.iaload, 1) := by decide +kernel
theorem dX12_rulesOf_54 : decode cX12_rulesOf 54 = .ok (.invokevirtual 345, 3) := by decide +kernel
theorem dX12_rulesOf_57 : decode cX12_rulesOf 57 = .ok (.iadd, 1) := by decide +kernel
theorem dX12_rulesOf_58 : decode cX12_rulesOf 58 = .ok (.ireturn, 1) := by decide +kernel
theorem dX12_shortens_0 : decode cX12_shortens 0 = .ok (.aload_n 0, 1) := by decide +kernel
theorem dX12_shortens_1 : decode cX12_shortens 1 = .ok (.getfield 24, 3) := by decide +kernel
theorem dX12_shortens_4 : decode cX12_shortens 4 = .ok (.sipush 180, 3) := by decide +kernel
theorem dX12_shortens_7 : decode cX12_shortens 7 = .ok (.iconst 4, 1) := by decide +kernel
theorem dX12_shortens_8 : decode cX12_shortens 8 = .ok (.iload_n 1, 1) := by decide +kernel
theorem dX12_shortens_9 : decode cX12_shortens 9 = .ok (.imul, 1) := by decide +kernel
theorem dX12_shortens_10 : decode cX12_shortens 10 = .ok (.iadd, 1) := by decide +kernel
theorem dX12_shortens_11 : decode cX12_shortens 11 = .ok (.iaload, 1) := by decide +kernel
theorem dX12_shortens_12 : decode cX12_shortens 12 = .ok (.istore_n 2, 1) := by decide +kernel
theorem dX12_shortens_13 : decode cX12_shortens 13 = .ok (.aload_n 0, 1) := by decide +kernel
theorem dX12_shortens_14 : decode cX12_shortens 14 = .ok (.iload_n 1, 1) := by decide +kernel
theorem dX12_shortens_15 : decode cX12_shortens 15 = .ok (.invokevirtual 333, 3) := by decide +kernel
theorem dX12_shortens_18 : decode cX12_shortens 18 = .ok (.istore_n 3, 1) := by decide +kernel
theorem dX12_shortens_19 : decode cX12_shortens 19 = .ok (.iload_n 3, 1) := by decide +kernel
theorem dX12_shortens_20 : decode cX12_shortens 20 = .ok (.ldc_w 329, 3) := by decide +kernel
theorem dX12_shortens_23 : decode cX12_shortens 23 = .ok (.if_icmp .ge 37, 3) := by decide +kernel
theorem dX12_shortens_26 : decode cX12_shortens 26 = .ok (.iload_n 3, 1) := by decide +kernel
theorem dX12_shortens_27 : decode cX12_shortens 27 = .ok (.aload_n 0, 1) := by decide +kernel
theorem dX12_shortens_28 : decode cX12_shortens 28 = .ok (.getfield 68, 3) := by decide +kernel
theorem dX12_shortens_31 : decode cX12_shortens 31 = .ok (.iload_n 2, 1) := by decide +kernel
theorem dX12_shortens_32 : decode cX12_shortens 32 = .ok (.iaload, 1) := by decide +kernel
theorem dX12_shortens_33 : decode cX12_shortens 33 = .ok (.if_icmp .gt 27, 3) := by decide +kernel
theorem dX12_shortens_36 : decode cX12_shortens 36 = .ok (.iload_n 3, 1) := by decide +kernel
theorem dX12_shortens_37 : decode cX12_shortens 37 = .ok (.aload_n 0, 1) := by decide +kernel
theorem dX12_shortens_38 : decode cX12_shortens 38 = .ok (.getfield 68, 3) := by decide +kernel
theorem dX12_shortens_41 : decode cX12_shortens 41 = .ok (.iload_n 2, 1) := by decide +kernel
theorem dX12_shortens_42 : decode cX12_shortens 42 = .ok (.iaload, 1) := by decide +kernel
theorem dX12_shortens_43 : decode cX12_shortens 43 = .ok (.if_icmp .ne 19, 3) := by decide +kernel
theorem dX12_shortens_46 : decode cX12_shortens 46 = .ok (.aload_n 0, 1) := by decide +kernel
theorem dX12_shortens_47 : decode cX12_shortens 47 = .ok (.iload_n 1, 1) := by decide +kernel
theorem dX12_shortens_48 : decode cX12_shortens 48 = .ok (.invokevirtual 336, 3) := by decide +kernel
theorem dX12_shortens_51 : decode cX12_shortens 51 = .ok (.aload_n 0, 1) := by decide +kernel
theorem dX12_shortens_52 : decode cX12_shortens 52 = .ok (.getfield 71, 3) := by decide +kernel
theorem dX12_shortens_55 : decode cX12_shortens 55 = .ok (.iload_n 2, 1) := by decide +kernel
theorem dX12_shortens_56 : decode cX12_shortens 56 = .ok (.iaload, 1) := by decide +kernel
theorem dX12_shortens_57 : decode cX12_shortens 57 = .ok (.if_icmp .lt 5, 3) := by decide +kernel
theorem dX12_shortens_60 : decode cX12_shortens 60 = .ok (.iconst 0, 1) := by decide +kernel
theorem dX12_shortens_61 : decode cX12_shortens 61 = .ok (.ireturn, 1) := by decide +kernel
theorem dX12_shortens_62 : decode cX12_shortens 62 = .ok (.aload_n 0, 1) := by decide +kernel
theorem dX12_shortens_63 : decode cX12_shortens 63 = .ok (.getfield 68, 3) := by decide +kernel
theorem dX12_shortens_66 : decode cX12_shortens 66 = .ok (.iload_n 2, 1) := by decide +kernel
theorem dX12_shortens_67 : decode cX12_shortens 67 = .ok (.iload_n 3, 1) := by decide +kernel
theorem dX12_shortens_68 : decode cX12_shortens 68 = .ok (.iastore, 1) := by decide +kernel
theorem dX12_shortens_69 : decode cX12_shortens 69 = .ok (.aload_n 0, 1) := by decide +kernel
theorem dX12_shortens_70 : decode cX12_shortens 70 = .ok (.getfield 71, 3) := by decide +kernel
theorem dX12_shortens_73 : decode cX12_shortens 73 = .ok (.iload_n 2, 1) := by decide +kernel
theorem dX12_shortens_74 : decode cX12_shortens 74 = .ok (.aload_n 0, 1) := by decide +kernel
theorem dX12_shortens_75 : decode cX12_shortens 75 = .ok (.iload_n 1, 1) := by decide +kernel
theorem dX12_shortens_76 : decode cX12_shortens 76 = .ok (.invokevirtual 336, 3) := by decide +kernel
theorem dX12_shortens_79 : decode cX12_shortens 79 = .ok (.iastore, 1) := by decide +kernel
theorem dX12_shortens_80 : decode cX12_shortens 80 = .ok (.iconst 1, 1) := by decide +kernel
theorem dX12_shortens_81 : decode cX12_shortens 81 = .ok (.ireturn, 1) := by decide +kernel
theorem dX12_wordIn_0 : decode cX12_wordIn 0 = .ok (.iload_n 1, 1) := by decide +kernel
theorem dX12_wordIn_1 : decode cX12_wordIn 1 = .ok (.istore_n 3, 1) := by decide +kernel
theorem dX12_wordIn_2 : decode cX12_wordIn 2 = .ok (.iload_n 2, 1) := by decide +kernel
theorem dX12_wordIn_3 : decode cX12_wordIn 3 = .ok (.istore 4, 2) := by decide +kernel
theorem dX12_wordIn_5 : decode cX12_wordIn 5 = .ok (.sipush 180, 3) := by decide +kernel
theorem dX12_wordIn_8 : decode cX12_wordIn 8 = .ok (.iconst 4, 1) := by decide +kernel
theorem dX12_wordIn_9 : decode cX12_wordIn 9 = .ok (.aload_n 0, 1) := by decide +kernel
theorem dX12_wordIn_10 : decode cX12_wordIn 10 = .ok (.getfield 74, 3) := by decide +kernel
theorem dX12_wordIn_13 : decode cX12_wordIn 13 = .ok (.iload_n 3, 1) := by decide +kernel
theorem dX12_wordIn_14 : decode cX12_wordIn 14 = .ok (.iaload, 1) := by decide +kernel
theorem dX12_wordIn_15 : decode cX12_wordIn 15 = .ok (.imul, 1) := by decide +kernel
theorem dX12_wordIn_16 : decode cX12_wordIn 16 = .ok (.iadd, 1) := by decide +kernel
theorem dX12_wordIn_17 : decode cX12_wordIn 17 = .ok (.iconst 1, 1) := by decide +kernel
theorem dX12_wordIn_18 : decode cX12_wordIn 18 = .ok (.iadd, 1) := by decide +kernel
theorem dX12_wordIn_19 : decode cX12_wordIn 19 = .ok (.istore 5, 2) := by decide +kernel
theorem dX12_wordIn_21 : decode cX12_wordIn 21 = .ok (.iload 4, 2) := by decide +kernel
theorem dX12_wordIn_23 : decode cX12_wordIn 23 = .ok (.aload_n 0, 1) := by decide +kernel
theorem dX12_wordIn_24 : decode cX12_wordIn 24 = .ok (.aload_n 0, 1) := by decide +kernel
theorem dX12_wordIn_25 : decode cX12_wordIn 25 = .ok (.getfield 24, 3) := by decide +kernel
theorem dX12_wordIn_28 : decode cX12_wordIn 28 = .ok (.iload 5, 2) := by decide +kernel
theorem dX12_wordIn_30 : decode cX12_wordIn 30 = .ok (.iaload, 1) := by decide +kernel
theorem dX12_wordIn_31 : decode cX12_wordIn 31 = .ok (.invokevirtual 339, 3) := by decide +kernel
theorem dX12_wordIn_34 : decode cX12_wordIn 34 = .ok (.if_icmp .lt 25, 3) := by decide +kernel
theorem dX12_wordIn_37 : decode cX12_wordIn 37 = .ok (.iload 4, 2) := by decide +kernel
theorem dX12_wordIn_39 : decode cX12_wordIn 39 = .ok (.aload_n 0, 1) := by decide +kernel
theorem dX12_wordIn_40 : decode cX12_wordIn 40 = .ok (.aload_n 0, 1) := by decide +kernel
theorem dX12_wordIn_41 : decode cX12_wordIn 41 = .ok (.getfield 24, 3) := by decide +kernel
theorem dX12_wordIn_44 : decode cX12_wordIn 44 = .ok (.iload 5, 2) := by decide +kernel
theorem dX12_wordIn_46 : decode cX12_wordIn 46 = .ok (.iaload, 1) := by decide +kernel
theorem dX12_wordIn_47 : decode cX12_wordIn 47 = .ok (.invokevirtual 339, 3) := by decide +kernel
theorem dX12_wordIn_50 : decode cX12_wordIn 50 = .ok (.isub, 1) := by decide +kernel
theorem dX12_wordIn_51 : decode cX12_wordIn 51 = .ok (.istore 4, 2) := by decide +kernel
theorem dX12_wordIn_53 : decode cX12_wordIn 53 = .ok (.iinc 5 1, 3) := by decide +kernel
theorem dX12_wordIn_56 : decode cX12_wordIn 56 = .ok (.goto (-35), 3) := by decide +kernel
theorem dX12_wordIn_59 : decode cX12_wordIn 59 = .ok (.aload_n 0, 1) := by decide +kernel
theorem dX12_wordIn_60 : decode cX12_wordIn 60 = .ok (.getfield 24, 3) := by decide +kernel
theorem dX12_wordIn_63 : decode cX12_wordIn 63 = .ok (.iload 5, 2) := by decide +kernel
theorem dX12_wordIn_65 : decode cX12_wordIn 65 = .ok (.iaload, 1) := by decide +kernel
theorem dX12_wordIn_66 : decode cX12_wordIn 66 = .ok (.bipush 10, 2) := by decide +kernel
theorem dX12_wordIn_68 : decode cX12_wordIn 68 = .ok (.if_icmp .ge 11, 3) := by decide +kernel
theorem dX12_wordIn_71 : decode cX12_wordIn 71 = .ok (.aload_n 0, 1) := by decide +kernel
theorem dX12_wordIn_72 : decode cX12_wordIn 72 = .ok (.getfield 24, 3) := by decide +kernel
theorem dX12_wordIn_75 : decode cX12_wordIn 75 = .ok (.iload 5, 2) := by decide +kernel
theorem dX12_wordIn_77 : decode cX12_wordIn 77 = .ok (.iaload, 1) := by decide +kernel
theorem dX12_wordIn_78 : decode cX12_wordIn 78 = .ok (.ireturn, 1) := by decide +kernel
theorem dX12_wordIn_79 : decode cX12_wordIn 79 = .ok (.aload_n 0, 1) := by decide +kernel
theorem dX12_wordIn_80 : decode cX12_wordIn 80 = .ok (.getfield 24, 3) := by decide +kernel
theorem dX12_wordIn_83 : decode cX12_wordIn 83 = .ok (.iload 5, 2) := by decide +kernel
theorem dX12_wordIn_85 : decode cX12_wordIn 85 = .ok (.iaload, 1) := by decide +kernel
theorem dX12_wordIn_86 : decode cX12_wordIn 86 = .ok (.bipush 10, 2) := by decide +kernel
theorem dX12_wordIn_88 : decode cX12_wordIn 88 = .ok (.isub, 1) := by decide +kernel
theorem dX12_wordIn_89 : decode cX12_wordIn 89 = .ok (.istore_n 3, 1) := by decide +kernel
theorem dX12_wordIn_90 : decode cX12_wordIn 90 = .ok (.goto (-85), 3) := by decide +kernel
theorem dX12_say_0 : decode cX12_say 0 = .ok (.iload_n 1, 1) := by decide +kernel
theorem dX12_say_1 : decode cX12_say 1 = .ok (.invokestatic 148, 3) := by decide +kernel
theorem dX12_say_4 : decode cX12_say 4 = .ok (.ifCond .eq 7, 3) := by decide +kernel
theorem dX12_say_7 : decode cX12_say 7 = .ok (.iload_n 2, 1) := by decide +kernel
theorem dX12_say_8 : decode cX12_say 8 = .ok (.ifCond .ge 5, 3) := by decide +kernel
theorem dX12_say_11 : decode cX12_say 11 = .ok (.iconst (-1), 1) := by decide +kernel
theorem dX12_say_12 : decode cX12_say 12 = .ok (.ireturn, 1) := by decide +kernel
theorem dX12_say_13 : decode cX12_say 13 = .ok (.aload_n 0, 1) := by decide +kernel
theorem dX12_say_14 : decode cX12_say 14 = .ok (.invokevirtual 348, 3) := by decide +kernel
theorem dX12_say_17 : decode cX12_say 17 = .ok (.aload_n 0, 1) := by decide +kernel
theorem dX12_say_18 : decode cX12_say 18 = .ok (.getfield 68, 3) := by decide +kernel
theorem dX12_say_21 : decode cX12_say 21 = .ok (.iload_n 1, 1) := by decide +kernel
theorem dX12_say_22 : decode cX12_say 22 = .ok (.iaload, 1) := by decide +kernel
theorem dX12_say_23 : decode cX12_say 23 = .ok (.ldc_w 329, 3) := by decide +kernel
theorem dX12_say_26 : decode cX12_say 26 = .ok (.if_icmp .lt 5, 3) := by decide +kernel
theorem dX12_say_29 : decode cX12_say 29 = .ok (.iconst (-1), 1) := by decide +kernel
theorem dX12_say_30 : decode cX12_say 30 = .ok (.ireturn, 1) := by decide +kernel
theorem dX12_say_31 : decode cX12_say 31 = .ok (.iload_n 2, 1) := by decide +kernel
theorem dX12_say_32 : decode cX12_say 32 = .ok (.iconst 3, 1) := by decide +kernel
theorem dX12_say_33 : decode cX12_say 33 = .ok (.if_icmp .ge 37, 3) := by decide +kernel
theorem dX12_say_36 : decode cX12_say 36 = .ok (.iload_n 2, 1) := by decide +kernel
theorem dX12_say_37 : decode cX12_say 37 = .ok (.ifCond .ne 12, 3) := by decide +kernel
theorem dX12_say_40 : decode cX12_say 40 = .ok (.aload_n 0, 1) := by decide +kernel
theorem dX12_say_41 : decode cX12_say 41 = .ok (.getfield 68, 3) := by decide +kernel
theorem dX12_say_44 : decode cX12_say 44 = .ok (.iload_n 1, 1) := by decide +kernel
theorem dX12_say_45 : decode cX12_say 45 = .ok (.iaload, 1) := by decide +kernel
theorem dX12_say_46 : decode cX12_say 46 = .ok (.goto 23, 3) := by decide +kernel
theorem dX12_say_49 : decode cX12_say 49 = .ok (.iload_n 2, 1) := by decide +kernel
theorem dX12_say_50 : decode cX12_say 50 = .ok (.iconst 1, 1) := by decide +kernel
theorem dX12_say_51 : decode cX12_say 51 = .ok (.if_icmp .ne 12, 3) := by decide +kernel
theorem dX12_say_54 : decode cX12_say 54 = .ok (.aload_n 0, 1) := by decide +kernel
theorem dX12_say_55 : decode cX12_say 55 = .ok (.getfield 77, 3) := by decide +kernel
theorem dX12_say_58 : decode cX12_say 58 = .ok (.iload_n 1, 1) := by decide +kernel
theorem dX12_say_59 : decode cX12_say 59 = .ok (.iaload, 1) := by decide +kernel
theorem dX12_say_60 : decode cX12_say 60 = .ok (.goto 9, 3) := by decide +kernel
theorem dX12_say_63 : decode cX12_say 63 = .ok (.aload_n 0, 1) := by decide +kernel
theorem dX12_say_64 : decode cX12_say 64 = .ok (.getfield 71, 3) := by decide +kernel
theorem dX12_say_67 : decode cX12_say 67 = .ok (.iload_n 1, 1) := by decide +kernel
theorem dX12_say_68 : decode cX12_say 68 = .ok (.iaload, 1) := by decide +kernel
theorem dX12_say_69 : decode cX12_say 69 = .ok (.ireturn, 1) := by decide +kernel
theorem dX12_say_70 : decode cX12_say 70 = .ok (.iload_n 2, 1) := by decide +kernel
theorem dX12_say_71 : decode cX12_say 71 = .ok (.iconst 3, 1) := by decide +kernel
theorem dX12_say_72 : decode cX12_say 72 = .ok (.isub, 1) := by decide +kernel
theorem dX12_say_73 : decode cX12_say 73 = .ok (.aload_n 0, 1) := by decide +kernel
theorem dX12_say_74 : decode cX12_say 74 = .ok (.getfield 77, 3) := by decide +kernel
theorem dX12_say_77 : decode cX12_say 77 = .ok (.iload_n 1, 1) := by decide +kernel
theorem dX12_say_78 : decode cX12_say 78 = .ok (.iaload, 1) := by decide +kernel
theorem dX12_say_79 : decode cX12_say 79 = .ok (.if_icmp .ge 14, 3) := by decide +kernel
theorem dX12_say_82 : decode cX12_say 82 = .ok (.aload_n 0, 1) := by decide +kernel
theorem dX12_say_83 : decode cX12_say 83 = .ok (.iload_n 1, 1) := by decide +kernel
theorem dX12_say_84 : decode cX12_say 84 = .ok (.iload_n 2, 1) := by decide +kernel
theorem dX12_say_85 : decode cX12_say 85 = .ok (.iconst 3, 1) := by decide +kernel
theorem dX12_say_86 : decode cX12_say 86 = .ok (.isub, 1) := by decide +kernel
theorem dX12_say_87 : decode cX12_say 87 = .ok (.invokevirtual 351, 3) := by decide +kernel
theorem dX12_say_90 : decode cX12_say 90 = .ok (.goto 4, 3) := by decide +kernel
theorem dX12_say_93 : decode cX12_say 93 = .ok (.iconst (-1), 1) := by decide +kernel
theorem dX12_say_94 : decode cX12_say 94 = .ok (.ireturn, 1) := by decide +kernel
theorem dX12_queues_0 : decode cX12_queues 0 = .ok (.aload_n 0, 1) := by decide +kernel
theorem dX12_queues_1 : decode cX12_queues 1 = .ok (.iconst 0, 1) := by decide +kernel
theorem dX12_queues_2 : decode cX12_queues 2 = .ok (.putfield 354, 3) := by decide +kernel
theorem dX12_queues_5 : decode cX12_queues 5 = .ok (.iconst 0, 1) := by decide +kernel
theorem dX12_queues_6 : decode cX12_queues 6 = .ok (.istore_n 2, 1) := by decide +kernel
theorem dX12_queues_7 : decode cX12_queues 7 = .ok (.iload_n 2, 1) := by decide +kernel
theorem dX12_queues_8 : decode cX12_queues 8 = .ok (.aload_n 0, 1) := by decide +kernel
theorem dX12_queues_9 : decode cX12_queues 9 = .ok (.invokevirtual 133, 3) := by decide +kernel
theorem dX12_queues_12 : decode cX12_queues 12 = .ok (.if_icmp .ge 125, 3) := by decide +kernel
theorem dX12_queues_15 : decode cX12_queues 15 = .ok (.aload_n 0, 1) := by decide +kernel
theorem dX12_queues_16 : decode cX12_queues 16 = .ok (.iload_n 2, 1) := by decide +kernel
theorem dX12_queues_17 : decode cX12_queues 17 = .ok (.iconst 5, 1) := by decide +kernel
theorem dX12_queues_18 : decode cX12_queues 18 = .ok (.invokevirtual 141, 3) := by decide +kernel
theorem dX12_queues_21 : decode cX12_queues 21 = .ok (.ifCond .ne 110, 3) := by decide +kernel
theorem dX12_queues_24 : decode cX12_queues 24 = .ok (.aload_n 0, 1) := by decide +kernel
theorem dX12_queues_25 : decode cX12_queues 25 = .ok (.iload_n 2, 1) := by decide +kernel
theorem dX12_queues_26 : decode cX12_queues 26 = .ok (.iload_n 1, 1) := by decide +kernel
theorem dX12_queues_27 : decode cX12_queues 27 = .ok (.invokevirtual 357, 3) := by decide +kernel
theorem dX12_queues_30 : decode cX12_queues 30 = .ok (.ifCond .eq 6, 3) := by decide +kernel
theorem dX12_queues_33 : decode cX12_queues 33 = .ok (.goto 98, 3) := by decide +kernel
theorem dX12_queues_36 : decode cX12_queues 36 = .ok (.aload_n 0, 1) := by decide +kernel
theorem dX12_queues_37 : decode cX12_queues 37 = .ok (.iload_n 2, 1) := by decide +kernel
theorem dX12_queues_38 : decode cX12_queues 38 = .ok (.iload_n 1, 1) := by decide +kernel
theorem dX12_queues_39 : decode cX12_queues 39 = .ok (.invokevirtual 360, 3) := by decide +kernel
theorem dX12_queues_42 : decode cX12_queues 42 = .ok (.istore_n 3, 1) := by decide +kernel
theorem dX12_queues_43 : decode cX12_queues 43 = .ok (.aload_n 0, 1) := by decide +kernel
theorem dX12_queues_44 : decode cX12_queues 44 = .ok (.getfield 354, 3) := by decide +kernel
theorem dX12_queues_47 : decode cX12_queues 47 = .ok (.istore 4, 2) := by decide +kernel
theorem dX12_queues_49 : decode cX12_queues 49 = .ok (.iload 4, 2) := by decide +kernel
theorem dX12_queues_51 : decode cX12_queues 51 = .ok (.ifCond .le 54, 3) := by decide +kernel
theorem dX12_queues_54 : decode cX12_queues 54 = .ok (.aload_n 0, 1) := by decide +kernel
theorem dX12_queues_55 : decode cX12_queues 55 = .ok (.getfield 83, 3) := by decide +kernel
theorem dX12_queues_58 : decode cX12_queues 58 = .ok (.iload 4, 2) := by decide +kernel
theorem dX12_queues_60 : decode cX12_queues 60 = .ok (.iconst 1, 1) := by decide +kernel
theorem dX12_queues_61 : decode cX12_queues 61 = .ok (.isub, 1) := by decide +kernel
theorem dX12_queues_62 : decode cX12_queues 62 = .ok (.iaload, 1) := by decide +kernel
theorem dX12_queues_63 : decode cX12_queues 63 = .ok (.iload_n 3, 1) := by decide +kernel
theorem dX12_queues_64 : decode cX12_queues 64 = .ok (.if_icmp .le 41, 3) := by decide +kernel
theorem dX12_queues_67 : decode cX12_queues 67 = .ok (.aload_n 0, 1) := by decide +kernel
theorem dX12_queues_68 : decode cX12_queues 68 = .ok (.getfield 80, 3) := by decide +kernel
theorem dX12_queues_71 : decode cX12_queues 71 = .ok (.iload 4, 2) := by decide +kernel
theorem dX12_queues_73 : decode cX12_queues 73 = .ok (.aload_n 0, 1) := by decide +kernel
theorem dX12_queues_74 : decode cX12_queues 74 = .ok (.getfield 80, 3) := by decide +kernel
theorem dX12_queues_77 : decode cX12_queues 77 = .ok (.iload 4, 2) := by decide +kernel
theorem dX12_queues_79 : decode cX12_queues 79 = .ok (.iconst 1, 1) := by decide +kernel
theorem dX12_queues_80 : decode cX12_queues 80 = .ok (.isub, 1) := by decide +kernel
theorem dX12_queues_81 : decode cX12_queues 81 = .ok (.iaload, 1) := by decide +kernel
theorem dX12_queues_82 : decode cX12_queues 82 = .ok (.iastore, 1) := by decide +kernel
theorem dX12_queues_83 : decode cX12_queues 83 = .ok (.aload_n 0, 1) := by decide +kernel
theorem dX12_queues_84 : decode cX12_queues 84 = .ok (.getfield 83, 3) := by decide +kernel
theorem dX12_queues_87 : decode cX12_queues 87 = .ok (.iload 4, 2) := by decide +kernel
theorem dX12_queues_89 : decode cX12_queues 89 = .ok (.aload_n 0, 1) := by decide +kernel
theorem dX12_queues_90 : decode cX12_queues 90 = .ok (.getfield 83, 3) := by decide +kernel
theorem dX12_queues_93 : decode cX12_queues 93 = .ok (.iload 4, 2) := by decide +kernel
theorem dX12_queues_95 : decode cX12_queues 95 = .ok (.iconst 1, 1) := by decide +kernel
theorem dX12_queues_96 : decode cX12_queues 96 = .ok (.isub, 1) := by decide +kernel
theorem dX12_queues_97 : decode cX12_queues 97 = .ok (.iaload, 1) := by decide +kernel
theorem dX12_queues_98 : decode cX12_queues 98 = .ok (.iastore, 1) := by decide +kernel
theorem dX12_queues_99 : decode cX12_queues 99 = .ok (.iinc 4 (-1), 3) := by decide +kernel
theorem dX12_queues_102 : decode cX12_queues 102 = .ok (.goto (-53), 3) := by decide +kernel
theorem dX12_queues_105 : decode cX12_queues 105 = .ok (.aload_n 0, 1) := by decide +kernel
theorem dX12_queues_106 : decode cX12_queues 106 = .ok (.getfield 80, 3) := by decide +kernel
theorem dX12_queues_109 : decode cX12_queues 109 = .ok (.iload 4, 2) := by decide +kernel
theorem dX12_queues_111 : decode cX12_queues 111 = .ok (.iload_n 2, 1) := by decide +kernel
theorem dX12_queues_112 : decode cX12_queues 112 = .ok (.iastore, 1) := by decide +kernel
theorem dX12_queues_113 : decode cX12_queues 113 = .ok (.aload_n 0, 1) := by decide +kernel
theorem dX12_queues_114 : decode cX12_queues 114 = .ok (.getfield 83, 3) := by decide +kernel
theorem dX12_queues_117 : decode cX12_queues 117 = .ok (.iload 4, 2) := by decide +kernel
theorem dX12_queues_119 : decode cX12_queues 119 = .ok (.iload_n 3, 1) := by decide +kernel
theorem dX12_queues_120 : decode cX12_queues 120 = .ok (.iastore, 1) := by decide +kernel
theorem dX12_queues_121 : decode cX12_queues 121 = .ok (.aload_n 0, 1) := by decide +kernel
theorem dX12_queues_122 : decode cX12_queues 122 = .ok (.dup, 1) := by decide +kernel
theorem dX12_queues_123 : decode cX12_queues 123 = .ok (.getfield 354, 3) := by decide +kernel
theorem dX12_queues_126 : decode cX12_queues 126 = .ok (.iconst 1, 1) := by decide +kernel
theorem dX12_queues_127 : decode cX12_queues 127 = .ok (.iadd, 1) := by decide +kernel
theorem dX12_queues_128 : decode cX12_queues 128 = .ok (.putfield 354, 3) := by decide +kernel
theorem dX12_queues_131 : decode cX12_queues 131 = .ok (.iinc 2 1, 3) := by decide +kernel
theorem dX12_queues_134 : decode cX12_queues 134 = .ok (.goto (-127), 3) := by decide +kernel
theorem dX12_queues_137 : decode cX12_queues 137 = .ok (.return_, 1) := by decide +kernel
theorem dX12_isDenied_0 : decode cX12_isDenied 0 = .ok (.iconst 0, 1) := by decide +kernel
theorem dX12_isDenied_1 : decode cX12_isDenied 1 = .ok (.istore_n 2, 1) := by decide +kernel
theorem dX12_isDenied_2 : decode cX12_isDenied 2 = .ok (.iload_n 2, 1) := by decide +kernel
theorem dX12_isDenied_3 : decode cX12_isDenied 3 = .ok (.aload_n 0, 1) := by decide +kernel
theorem dX12_isDenied_4 : decode cX12_isDenied 4 = .ok (.invokevirtual 133, 3) := by decide +kernel
theorem dX12_isDenied_7 : decode cX12_isDenied 7 = .ok (.if_icmp .ge 95, 3) := by decide +kernel
theorem dX12_isDenied_10 : decode cX12_isDenied 10 = .ok (.aload_n 0, 1) := by decide +kernel
theorem dX12_isDenied_11 : decode cX12_isDenied 11 = .ok (.iload_n 2, 1) := by decide +kernel
theorem dX12_isDenied_12 : decode cX12_isDenied 12 = .ok (.iconst 5, 1) := by decide +kernel
theorem dX12_isDenied_13 : decode cX12_isDenied 13 = .ok (.invokevirtual 141, 3) := by decide +kernel
theorem dX12_isDenied_16 : decode cX12_isDenied 16 = .ok (.iconst 1, 1) := by decide +kernel
theorem dX12_isDenied_17 : decode cX12_isDenied 17 = .ok (.if_icmp .ne 79, 3) := by decide +kernel
theorem dX12_isDenied_20 : decode cX12_isDenied 20 = .ok (.aload_n 0, 1) := by decide +kernel
theorem dX12_isDenied_21 : decode cX12_isDenied 21 = .ok (.getfield 24, 3) := by decide +kernel
theorem dX12_isDenied_24 : decode cX12_isDenied 24 = .ok (.sipush 169, 3) := by decide +kernel
theorem dX12_isDenied_27 : decode cX12_isDenied 27 = .ok (.iaload, 1) := by decide +kernel
theorem dX12_isDenied_28 : decode cX12_isDenied 28 = .ok (.aload_n 0, 1) := by decide +kernel
theorem dX12_isDenied_29 : decode cX12_isDenied 29 = .ok (.iload_n 2, 1) := by decide +kernel
theorem dX12_isDenied_30 : decode cX12_isDenied 30 = .ok (.bipush 6, 2) := by decide +kernel
theorem dX12_isDenied_32 : decode cX12_isDenied 32 = .ok (.invokevirtual 141, 3) := by decide +kernel
theorem dX12_isDenied_35 : decode cX12_isDenied 35 = .ok (.isub, 1) := by decide +kernel
theorem dX12_isDenied_36 : decode cX12_isDenied 36 = .ok (.aload_n 0, 1) := by decide +kernel
theorem dX12_isDenied_37 : decode cX12_isDenied 37 = .ok (.getfield 24, 3) := by decide +kernel
theorem dX12_isDenied_40 : decode cX12_isDenied 40 = .ok (.sipush 361, 3) := by decide +kernel
theorem dX12_isDenied_43 : decode cX12_isDenied 43 = .ok (.iaload, 1) := by decide +kernel
theorem dX12_isDenied_44 : decode cX12_isDenied 44 = .ok (.if_icmp .lt 6, 3) := by decide +kernel
theorem dX12_isDenied_47 : decode cX12_isDenied 47 = .ok (.goto 49, 3) := by decide +kernel
theorem dX12_isDenied_50 : decode cX12_isDenied 50 = .ok (.aload_n 0, 1) := by decide +kernel
theorem dX12_isDenied_51 : decode cX12_isDenied 51 = .ok (.iload_n 2, 1) := by decide +kernel
theorem dX12_isDenied_52 : decode cX12_isDenied 52 = .ok (.iconst 1, 1) := by decide +kernel
theorem dX12_isDenied_53 : decode cX12_isDenied 53 = .ok (.invokevirtual 141, 3) := by decide +kernel
theorem dX12_isDenied_56 : decode cX12_isDenied 56 = .ok (.aload_n 0, 1) := by decide +kernel
theorem dX12_isDenied_57 : decode cX12_isDenied 57 = .ok (.iload_n 1, 1) := by decide +kernel
theorem dX12_isDenied_58 : decode cX12_isDenied 58 = .ok (.iconst 1, 1) := by decide +kernel
theorem dX12_isDenied_59 : decode cX12_isDenied 59 = .ok (.invokevirtual 141, 3) := by decide +kernel
theorem dX12_isDenied_62 : decode cX12_isDenied 62 = .ok (.if_icmp .eq 32, 3) := by decide +kernel
theorem dX12_isDenied_65 : decode cX12_isDenied 65 = .ok (.aload_n 0, 1) := by decide +kernel
theorem dX12_isDenied_66 : decode cX12_isDenied 66 = .ok (.getfield 24, 3) := by decide +kernel
theorem dX12_isDenied_69 : decode cX12_isDenied 69 = .ok (.sipush 244, 3) := by decide +kernel
theorem dX12_isDenied_72 : decode cX12_isDenied 72 = .ok (.bipush 8, 2) := by decide +kernel
theorem dX12_isDenied_74 : decode cX12_isDenied 74 = .ok (.aload_n 0, 1) := by decide +kernel
theorem dX12_isDenied_75 : decode cX12_isDenied 75 = .ok (.iload_n 2, 1) := by decide +kernel
theorem dX12_isDenied_76 : decode cX12_isDenied 76 = .ok (.iconst 1, 1) := by decide +kernel
theorem dX12_isDenied_77 : decode cX12_isDenied 77 = .ok (.invokevirtual 141, 3) := by decide +kernel
theorem dX12_isDenied_80 : decode cX12_isDenied 80 = .ok (.imul, 1) := by decide +kernel
theorem dX12_isDenied_81 : decode cX12_isDenied 81 = .ok (.iadd, 1) := by decide +kernel
theorem dX12_isDenied_82 : decode cX12_isDenied 82 = .ok (.aload_n 0, 1) := by decide +kernel
theorem dX12_isDenied_83 : decode cX12_isDenied 83 = .ok (.iload_n 1, 1) := by decide +kernel
theorem dX12_isDenied_84 : decode cX12_isDenied 84 = .ok (.iconst 1, 1) := by decide +kernel
theorem dX12_isDenied_85 : decode cX12_isDenied 85 = .ok (.invokevirtual 141, 3) := by decide +kernel
theorem dX12_isDenied_88 : decode cX12_isDenied 88 = .ok (.iadd, 1) := by decide +kernel
theorem dX12_isDenied_89 : decode cX12_isDenied 89 = .ok (.iaload, 1) := by decide +kernel
theorem dX12_isDenied_90 : decode cX12_isDenied 90 = .ok (.iconst 1, 1) := by decide +kernel
theorem dX12_isDenied_91 : decode cX12_isDenied 91 = .ok (.if_icmp .ne 5, 3) := by decide +kernel
theorem dX12_isDenied_94 : decode cX12_isDenied 94 = .ok (.iconst 1, 1) := by decide +kernel
theorem dX12_isDenied_95 : decode cX12_isDenied 95 = .ok (.ireturn, 1) := by decide +kernel
theorem dX12_isDenied_96 : decode cX12_isDenied 96 = .ok (.iinc 2 1, 3) := by decide +kernel
theorem dX12_isDenied_99 : decode cX12_isDenied 99 = .ok (.goto (-97), 3) := by decide +kernel
theorem dX12_isDenied_102 : decode cX12_isDenied 102 = .ok (.iconst 0, 1) := by decide +kernel
theorem dX12_isDenied_103 : decode cX12_isDenied 103 = .ok (.ireturn, 1) := by decide +kernel
theorem dX12_dawns_0 : decode cX12_dawns 0 = .ok (.aload_n 0, 1) := by decide +kernel
theorem dX12_dawns_1 : decode cX12_dawns 1 = .ok (.getfield 24, 3) := by decide +kernel
theorem dX12_dawns_4 : decode cX12_dawns 4 = .ok (.sipush 169, 3) := by decide +kernel
theorem dX12_dawns_7 : decode cX12_dawns 7 = .ok (.dup2, 1) := by decide +kernel
theorem dX12_dawns_8 : decode cX12_dawns 8 = .ok (.iaload, 1) := by decide +kernel
theorem dX12_dawns_9 : decode cX12_dawns 9 = .ok (.iconst 1, 1) := by decide +kernel
theorem dX12_dawns_10 : decode cX12_dawns 10 = .ok (.iadd, 1) := by decide +kernel
theorem dX12_dawns_11 : decode cX12_dawns 11 = .ok (.iastore, 1) := by decide +kernel
theorem dX12_dawns_12 : decode cX12_dawns 12 = .ok (.aload_n 0, 1) := by decide +kernel
theorem dX12_dawns_13 : decode cX12_dawns 13 = .ok (.aload_n 0, 1) := by decide +kernel
theorem dX12_dawns_14 : decode cX12_dawns 14 = .ok (.getfield 24, 3) := by decide +kernel
theorem dX12_dawns_17 : decode cX12_dawns 17 = .ok (.sipush 169, 3) := by decide +kernel
theorem dX12_dawns_20 : decode cX12_dawns 20 = .ok (.iaload, 1) := by decide +kernel
theorem dX12_dawns_21 : decode cX12_dawns 21 = .ok (.invokevirtual 363, 3) := by decide +kernel
theorem dX12_dawns_24 : decode cX12_dawns 24 = .ok (.aload_n 0, 1) := by decide +kernel
theorem dX12_dawns_25 : decode cX12_dawns 25 = .ok (.iconst 0, 1) := by decide +kernel
theorem dX12_dawns_26 : decode cX12_dawns 26 = .ok (.putfield 366, 3) := by decide +kernel
theorem dX12_dawns_29 : decode cX12_dawns 29 = .ok (.iconst 0, 1) := by decide +kernel
theorem dX12_dawns_30 : decode cX12_dawns 30 = .ok (.istore_n 1, 1) := by decide +kernel
theorem dX12_dawns_31 : decode cX12_dawns 31 = .ok (.iconst 0, 1) := by decide +kernel
theorem dX12_dawns_32 : decode cX12_dawns 32 = .ok (.istore_n 2, 1) := by decide +kernel
theorem dX12_dawns_33 : decode cX12_dawns 33 = .ok (.iload_n 2, 1) := by decide +kernel
theorem dX12_dawns_34 : decode cX12_dawns 34 = .ok (.aload_n 0, 1) := by decide +kernel
theorem dX12_dawns_35 : decode cX12_dawns 35 = .ok (.getfield 354, 3) := by decide +kernel
theorem dX12_dawns_38 : decode cX12_dawns 38 = .ok (.if_icmp .ge 132, 3) := by decide +kernel
theorem dX12_dawns_41 : decode cX12_dawns 41 = .ok (.iload_n 2, 1) := by decide +kernel
theorem dX12_dawns_42 : decode cX12_dawns 42 = .ok (.aload_n 0, 1) := by decide +kernel
theorem dX12_dawns_43 : decode cX12_dawns 43 = .ok (.getfield 24, 3) := by decide +kernel
theorem dX12_dawns_46 : decode cX12_dawns 46 = .ok (.sipush 360, 3) := by decide +kernel
theorem dX12_dawns_49 : decode cX12_dawns 49 = .ok (.iaload, 1) := by decide +kernel
theorem dX12_dawns_50 : decode cX12_dawns 50 = .ok (.if_icmp .ge 120, 3) := by decide +kernel
theorem dX12_dawns_53 : decode cX12_dawns 53 = .ok (.iconst 0, 1) := by decide +kernel
theorem dX12_dawns_54 : decode cX12_dawns 54 = .ok (.bipush 7, 2) := by decide +kernel
theorem dX12_dawns_56 : decode cX12_dawns 56 = .ok (.aload_n 0, 1) := by decide +kernel
theorem dX12_dawns_57 : decode cX12_dawns 57 = .ok (.getfield 80, 3) := by decide +kernel
theorem dX12_dawns_60 : decode cX12_dawns 60 = .ok (.iload_n 2, 1) := by decide +kernel
theorem dX12_dawns_61 : decode cX12_dawns 61 = .ok (.iaload, 1) := by decide +kernel
theorem dX12_dawns_62 : decode cX12_dawns 62 = .ok (.imul, 1) := by decide +kernel
theorem dX12_dawns_63 : decode cX12_dawns 63 = .ok (.iadd, 1) := by decide +kernel
theorem dX12_dawns_64 : decode cX12_dawns 64 = .ok (.istore_n 3, 1) := by decide +kernel
theorem dX12_dawns_65 : decode cX12_dawns 65 = .ok (.aload_n 0, 1) := by decide +kernel
theorem dX12_dawns_66 : decode cX12_dawns 66 = .ok (.aload_n 0, 1) := by decide +kernel
theorem dX12_dawns_67 : decode cX12_dawns 67 = .ok (.getfield 80, 3) := by decide +kernel
theorem dX12_dawns_70 : decode cX12_dawns 70 = .ok (.iload_n 2, 1) := by decide +kernel
theorem dX12_dawns_71 : decode cX12_dawns 71 = .ok (.iaload, 1) := by decide +kernel
theorem dX12_dawns_72 : decode cX12_dawns 72 = .ok (.invokevirtual 369, 3) := by decide +kernel
theorem dX12_dawns_75 : decode cX12_dawns 75 = .ok (.ifCond .ne 7, 3) := by decide +kernel
theorem dX12_dawns_78 : decode cX12_dawns 78 = .ok (.iconst 1, 1) := by decide +kernel
theorem dX12_dawns_79 : decode cX12_dawns 79 = .ok (.goto 4, 3) := by decide +kernel
theorem dX12_dawns_82 : decode cX12_dawns 82 = .ok (.iconst 0, 1) := by decide +kernel
theorem dX12_dawns_83 : decode cX12_dawns 83 = .ok (.istore 4, 2) := by decide +kernel
theorem dX12_dawns_85 : decode cX12_dawns 85 = .ok (.aload_n 0, 1) := by decide +kernel
theorem dX12_dawns_86 : decode cX12_dawns 86 = .ok (.getfield 24, 3) := by decide +kernel
theorem dX12_dawns_89 : decode cX12_dawns 89 = .ok (.iload_n 3, 1) := by decide +kernel
theorem dX12_dawns_90 : decode cX12_dawns 90 = .ok (.iconst 5, 1) := by decide +kernel
theorem dX12_dawns_91 : decode cX12_dawns 91 = .ok (.iadd, 1) := by decide +kernel
theorem dX12_dawns_92 : decode cX12_dawns 92 = .ok (.iload 4, 2) := by decide +kernel
theorem dX12_dawns_94 : decode cX12_dawns 94 = .ok (.ifCond .eq 7, 3) := by decide +kernel
theorem dX12_dawns_97 : decode cX12_dawns 97 = .ok (.iconst 1, 1) := by decide +kernel
theorem dX12_dawns_98 : decode cX12_dawns 98 = .ok (.goto 4, 3) := by decide +kernel
theorem dX12_dawns_101 : decode cX12_dawns 101 = .ok (.iconst 2, 1) := by decide +kernel
theorem dX12_dawns_102 : decode cX12_dawns 102 = .ok (.iastore, 1) := by decide +kernel
theorem dX12_dawns_103 : decode cX12_dawns 103 = .ok (.aload_n 0, 1) := by decide +kernel
theorem dX12_dawns_104 : decode cX12_dawns 104 = .ok (.getfield 24, 3) := by decide +kernel
theorem dX12_dawns_107 : decode cX12_dawns 107 = .ok (.iload_n 3, 1) := by decide +kernel
theorem dX12_dawns_108 : decode cX12_dawns 108 = .ok (.bipush 6, 2) := by decide +kernel
theorem dX12_dawns_110 : decode cX12_dawns 110 = .ok (.iadd, 1) := by decide +kernel
theorem dX12_dawns_111 : decode cX12_dawns 111 = .ok (.aload_n 0, 1) := by decide +kernel
theorem dX12_dawns_112 : decode cX12_dawns 112 = .ok (.getfield 24, 3) := by decide +kernel
theorem dX12_dawns_115 : decode cX12_dawns 115 = .ok (.sipush 169, 3) := by decide +kernel
theorem dX12_dawns_118 : decode cX12_dawns 118 = .ok (.iaload, 1) := by decide +kernel
theorem dX12_dawns_119 : decode cX12_dawns 119 = .ok (.iastore, 1) := by decide +kernel
theorem dX12_dawns_120 : decode cX12_dawns 120 = .ok (.aload_n 0, 1) := by decide +kernel
theorem dX12_dawns_121 : decode cX12_dawns 121 = .ok (.dup, 1) := by decide +kernel
theorem dX12_dawns_122 : decode cX12_dawns 122 = .ok (.getfield 366, 3) := by decide +kernel
theorem dX12_dawns_125 : decode cX12_dawns 125 = .ok (.iload 4, 2) := by decide +kernel
theorem dX12_dawns_127 : decode cX12_dawns 127 = .ok (.ifCond .eq 19, 3) := by decide +kernel
theorem dX12_dawns_130 : decode cX12_dawns 130 = .ok (.iconst 1, 1) := by decide +kernel
theorem dX12_dawns_131 : decode cX12_dawns 131 = .ok (.aload_n 0, 1) := by decide +kernel
theorem dX12_dawns_132 : decode cX12_dawns 132 = .ok (.aload_n 0, 1) := by decide +kernel
theorem dX12_dawns_133 : decode cX12_dawns 133 = .ok (.getfield 80, 3) := by decide +kernel
theorem dX12_dawns_136 : decode cX12_dawns 136 = .ok (.iload_n 2, 1) := by decide +kernel
theorem dX12_dawns_137 : decode cX12_dawns 137 = .ok (.iaload, 1) := by decide +kernel
theorem dX12_dawns_138 : decode cX12_dawns 138 = .ok (.iconst 1, 1) := by decide +kernel
theorem dX12_dawns_139 : decode cX12_dawns 139 = .ok (.invokevirtual 141, 3) := by decide +kernel
theorem dX12_dawns_142 : decode cX12_dawns 142 = .ok (.ishl, 1) := by decide +kernel
theorem dX12_dawns_143 : decode cX12_dawns 143 = .ok (.goto 4, 3) := by decide +kernel
theorem dX12_dawns_146 : decode cX12_dawns 146 = .ok (.iconst 0, 1) := by decide +kernel
theorem dX12_dawns_147 : decode cX12_dawns 147 = .ok (.ior, 1) := by decide +kernel
theorem dX12_dawns_148 : decode cX12_dawns 148 = .ok (.putfield 366, 3) := by decide +kernel
theorem dX12_dawns_151 : decode cX12_dawns 151 = .ok (.iload_n 1, 1) := by decide +kernel
theorem dX12_dawns_152 : decode cX12_dawns 152 = .ok (.iload 4, 2) := by decide +kernel
theorem dX12_dawns_154 : decode cX12_dawns 154 = .ok (.ifCond .eq 7, 3) := by decide +kernel
theorem dX12_dawns_157 : decode cX12_dawns 157 = .ok (.iconst 1, 1) := by decide +kernel
theorem dX12_dawns_158 : decode cX12_dawns 158 = .ok (.goto 4, 3) := by decide +kernel
theorem dX12_dawns_161 : decode cX12_dawns 161 = .ok (.iconst 0, 1) := by decide +kernel
theorem dX12_dawns_162 : decode cX12_dawns 162 = .ok (.iadd, 1) := by decide +kernel
theorem dX12_dawns_163 : decode cX12_dawns 163 = .ok (.istore_n 1, 1) := by decide +kernel
theorem dX12_dawns_164 : decode cX12_dawns 164 = .ok (.iinc 2 1, 3) := by decide +kernel
theorem dX12_dawns_167 : decode cX12_dawns 167 = .ok (.goto (-134), 3) := by decide +kernel
theorem dX12_dawns_170 : decode cX12_dawns 170 = .ok (.iload_n 1, 1) := by decide +kernel
theorem dX12_dawns_171 : decode cX12_dawns 171 = .ok (.ireturn, 1) := by decide +kernel
theorem dX12_at_0 : decode cX12_at 0 = .ok (.aload_n 0, 1) := by decide +kernel
theorem dX12_at_1 : decode cX12_at 1 = .ok (.iload_n 1, 1) := by decide +kernel
theorem dX12_at_2 : decode cX12_at 2 = .ok (.invokevirtual 137, 3) := by decide +kernel
theorem dX12_at_5 : decode cX12_at 5 = .ok (.ifCond .eq 22, 3) := by decide +kernel
theorem dX12_at_8 : decode cX12_at 8 = .ok (.iload_n 2, 1) := by decide +kernel
theorem dX12_at_9 : decode cX12_at 9 = .ok (.iconst 0, 1) := by decide +kernel
theorem dX12_at_10 : decode cX12_at 10 = .ok (.bipush 6, 2) := by decide +kernel
theorem dX12_at_12 : decode cX12_at 12 = .ok (.invokestatic 123, 3) := by decide +kernel
theorem dX12_at_15 : decode cX12_at 15 = .ok (.ifCond .eq 12, 3) := by decide +kernel
theorem dX12_at_18 : decode cX12_at 18 = .ok (.aload_n 0, 1) := by decide +kernel
theorem dX12_at_19 : decode cX12_at 19 = .ok (.iload_n 1, 1) := by decide +kernel
theorem dX12_at_20 : decode cX12_at 20 = .ok (.iload_n 2, 1) := by decide +kernel
theorem dX12_at_21 : decode cX12_at 21 = .ok (.invokevirtual 141, 3) := by decide +kernel
theorem dX12_at_24 : decode cX12_at 24 = .ok (.goto 4, 3) := by decide +kernel
theorem dX12_at_27 : decode cX12_at 27 = .ok (.iconst (-1), 1) := by decide +kernel
theorem dX12_at_28 : decode cX12_at 28 = .ok (.ireturn, 1) := by decide +kernel
theorem dX12_rank_0 : decode cX12_rank 0 = .ok (.aload_n 0, 1) := by decide +kernel
theorem dX12_rank_1 : decode cX12_rank 1 = .ok (.iload_n 1, 1) := by decide +kernel
theorem dX12_rank_2 : decode cX12_rank 2 = .ok (.invokevirtual 372, 3) := by decide +kernel
theorem dX12_rank_5 : decode cX12_rank 5 = .ok (.ifCond .eq 12, 3) := by decide +kernel
theorem dX12_rank_8 : decode cX12_rank 8 = .ok (.iload_n 2, 1) := by decide +kernel
theorem dX12_rank_9 : decode cX12_rank 9 = .ok (.iconst 0, 1) := by decide +kernel
theorem dX12_rank_10 : decode cX12_rank 10 = .ok (.iconst 1, 1) := by decide +kernel
theorem dX12_rank_11 : decode cX12_rank 11 = .ok (.invokestatic 123, 3) := by decide +kernel
theorem dX12_rank_14 : decode cX12_rank 14 = .ok (.ifCond .ne 7, 3) := by decide +kernel
theorem dX12_rank_17 : decode cX12_rank 17 = .ok (.ldc_w 375, 3) := by decide +kernel
theorem dX12_rank_20 : decode cX12_rank 20 = .ok (.ireturn, 1) := by decide +kernel
theorem dX12_rank_21 : decode cX12_rank 21 = .ok (.iload_n 2, 1) := by decide +kernel
theorem dX12_rank_22 : decode cX12_rank 22 = .ok (.ifCond .ne 21, 3) := by decide +kernel
theorem dX12_rank_25 : decode cX12_rank 25 = .ok (.aload_n 0, 1) := by decide +kernel
theorem dX12_rank_26 : decode cX12_rank 26 = .ok (.iload_n 1, 1) := by decide +kernel
theorem dX12_rank_27 : decode cX12_rank 27 = .ok (.aload_n 0, 1) := by decide +kernel
theorem dX12_rank_28 : decode cX12_rank 28 = .ok (.getfield 24, 3) := by decide +kernel
theorem dX12_rank_31 : decode cX12_rank 31 = .ok (.sipush 169, 3) := by decide +kernel
theorem dX12_rank_34 : decode cX12_rank 34 = .ok (.iaload, 1) := by decide +kernel
theorem dX12_rank_35 : decode cX12_rank 35 = .ok (.iconst 1, 1) := by decide +kernel
theorem dX12_rank_36 : decode cX12_rank 36 = .ok (.iadd, 1) := by decide +kernel
theorem dX12_rank_37 : decode cX12_rank 37 = .ok (.invokevirtual 360, 3) := by decide +kernel
theorem dX12_rank_40 : decode cX12_rank 40 = .ok (.goto 26, 3) := by decide +kernel
theorem dX12_rank_43 : decode cX12_rank 43 = .ok (.aload_n 0, 1) := by decide +kernel
theorem dX12_rank_44 : decode cX12_rank 44 = .ok (.iload_n 1, 1) := by decide +kernel
theorem dX12_rank_45 : decode cX12_rank 45 = .ok (.aload_n 0, 1) := by decide +kernel
theorem dX12_rank_46 : decode cX12_rank 46 = .ok (.getfield 24, 3) := by decide +kernel
theorem dX12_rank_49 : decode cX12_rank 49 = .ok (.sipush 169, 3) := by decide +kernel
theorem dX12_rank_52 : decode cX12_rank 52 = .ok (.iaload, 1) := by decide +kernel
theorem dX12_rank_53 : decode cX12_rank 53 = .ok (.iconst 1, 1) := by decide +kernel
theorem dX12_rank_54 : decode cX12_rank 54 = .ok (.iadd, 1) := by decide +kernel
theorem dX12_rank_55 : decode cX12_rank 55 = .ok (.invokevirtual 357, 3) := by decide +kernel
theorem dX12_rank_58 : decode cX12_rank 58 = .ok (.ifCond .eq 7, 3) := by decide +kernel
theorem dX12_rank_61 : decode cX12_rank 61 = .ok (.iconst 1, 1) := by decide +kernel
theorem dX12_rank_62 : decode cX12_rank 62 = .ok (.goto 4, 3) := by decide +kernel
theorem dX12_rank_65 : decode cX12_rank 65 = .ok (.iconst 0, 1) := by decide +kernel
theorem dX12_rank_66 : decode cX12_rank 66 = .ok (.ireturn, 1) := by decide +kernel
theorem dX12_order_0 : decode cX12_order 0 = .ok (.aload_n 0, 1) := by decide +kernel
theorem dX12_order_1 : decode cX12_order 1 = .ok (.aload_n 0, 1) := by decide +kernel
theorem dX12_order_2 : decode cX12_order 2 = .ok (.getfield 24, 3) := by decide +kernel
theorem dX12_order_5 : decode cX12_order 5 = .ok (.sipush 169, 3) := by decide +kernel
theorem dX12_order_8 : decode cX12_order 8 = .ok (.iaload, 1) := by decide +kernel
theorem dX12_order_9 : decode cX12_order 9 = .ok (.iconst 1, 1) := by decide +kernel
theorem dX12_order_10 : decode cX12_order 10 = .ok (.iadd, 1) := by decide +kernel
theorem dX12_order_11 : decode cX12_order 11 = .ok (.invokevirtual 363, 3) := by decide +kernel
theorem dX12_order_14 : decode cX12_order 14 = .ok (.iload_n 1, 1) := by decide +kernel
theorem dX12_order_15 : decode cX12_order 15 = .ok (.iconst (-1), 1) := by decide +kernel
theorem dX12_order_16 : decode cX12_order 16 = .ok (.if_icmp .ne 10, 3) := by decide +kernel
theorem dX12_order_19 : decode cX12_order 19 = .ok (.aload_n 0, 1) := by decide +kernel
theorem dX12_order_20 : decode cX12_order 20 = .ok (.getfield 354, 3) := by decide +kernel
theorem dX12_order_23 : decode cX12_order 23 = .ok (.goto 27, 3) := by decide +kernel
theorem dX12_order_26 : decode cX12_order 26 = .ok (.iload_n 1, 1) := by decide +kernel
theorem dX12_order_27 : decode cX12_order 27 = .ok (.iconst 0, 1) := by decide +kernel
theorem dX12_order_28 : decode cX12_order 28 = .ok (.aload_n 0, 1) := by decide +kernel
theorem dX12_order_29 : decode cX12_order 29 = .ok (.getfield 354, 3) := by decide +kernel
theorem dX12_order_32 : decode cX12_order 32 = .ok (.iconst 1, 1) := by decide +kernel
theorem dX12_order_33 : decode cX12_order 33 = .ok (.isub, 1) := by decide +kernel
theorem dX12_order_34 : decode cX12_order 34 = .ok (.invokestatic 123, 3) := by decide +kernel
theorem dX12_order_37 : decode cX12_order 37 = .ok (.ifCond .eq 12, 3) := by decide +kernel
theorem dX12_order_40 : decode cX12_order 40 = .ok (.aload_n 0, 1) := by decide +kernel
theorem dX12_order_41 : decode cX12_order 41 = .ok (.getfield 80, 3) := by decide +kernel
theorem dX12_order_44 : decode cX12_order 44 = .ok (.iload_n 1, 1) := by decide +kernel
theorem dX12_order_45 : decode cX12_order 45 = .ok (.iaload, 1) := by decide +kernel
theorem dX12_order_46 : decode cX12_order 46 = .ok (.goto 4, 3) := by decide +kernel
theorem dX12_order_49 : decode cX12_order 49 = .ok (.iconst (-1), 1) := by decide +kernel
theorem dX12_order_50 : decode cX12_order 50 = .ok (.ireturn, 1) := by decide +kernel
theorem dX12_keeps_0 : decode cX12_keeps 0 = .ok (.sipush 171, 3) := by decide +kernel
theorem dX12_keeps_3 : decode cX12_keeps 3 = .ok (.istore_n 2, 1) := by decide +kernel
theorem dX12_keeps_4 : decode cX12_keeps 4 = .ok (.aload_n 0, 1) := by decide +kernel
theorem dX12_keeps_5 : decode cX12_keeps 5 = .ok (.getfield 11, 3) := by decide +kernel
theorem dX12_keeps_8 : decode cX12_keeps 8 = .ok (.bipush 16, 2) := by decide +kernel
theorem dX12_keeps_10 : decode cX12_keeps 10 = .ok (.if_icmp .ne 43, 3) := by decide +kernel
theorem dX12_keeps_13 : decode cX12_keeps 13 = .ok (.iconst 0, 1) := by decide +kernel
theorem dX12_keeps_14 : decode cX12_keeps 14 = .ok (.istore_n 3, 1) := by decide +kernel
theorem dX12_keeps_15 : decode cX12_keeps 15 = .ok (.iload_n 3, 1) := by decide +kernel
theorem dX12_keeps_16 : decode cX12_keeps 16 = .ok (.bipush 15, 2) := by decide +kernel
theorem dX12_keeps_18 : decode cX12_keeps 18 = .ok (.iload_n 2, 1) := by decide +kernel
theorem dX12_keeps_19 : decode cX12_keeps 19 = .ok (.imul, 1) := by decide +kernel
theorem dX12_keeps_20 : decode cX12_keeps 20 = .ok (.if_icmp .ge 23, 3) := by decide +kernel
theorem dX12_keeps_23 : decode cX12_keeps 23 = .ok (.aload_n 0, 1) := by decide +kernel
theorem dX12_keeps_24 : decode cX12_keeps 24 = .ok (.getfield 86, 3) := by decide +kernel
theorem dX12_keeps_27 : decode cX12_keeps 27 = .ok (.iload_n 3, 1) := by decide +kernel
theorem dX12_keeps_28 : decode cX12_keeps 28 = .ok (.aload_n 0, 1) := by decide +kernel
theorem dX12_keeps_29 : decode cX12_keeps 29 = .ok (.getfield 86, 3) := by decide +kernel
theorem dX12_keeps_32 : decode cX12_keeps 32 = .ok (.iload_n 3, 1) := by decide +kernel
theorem dX12_keeps_33 : decode cX12_keeps 33 = .ok (.iload_n 2, 1) := by decide +kernel
theorem dX12_keeps_34 : decode cX12_keeps 34 = .ok (.iadd, 1) := by decide +kernel
theorem dX12_keeps_35 : decode cX12_keeps 35 = .ok (.iaload, 1) := by decide +kernel
theorem dX12_keeps_36 : decode cX12_keeps 36 = .ok (.iastore, 1) := by decide +kernel
theorem dX12_keeps_37 : decode cX12_keeps 37 = .ok (.iinc 3 1, 3) := by decide +kernel
theorem dX12_keeps_40 : decode cX12_keeps 40 = .ok (.goto (-25), 3) := by decide +kernel
theorem dX12_keeps_43 : decode cX12_keeps 43 = .ok (.aload_n 0, 1) := by decide +kernel
theorem dX12_keeps_44 : decode cX12_keeps 44 = .ok (.dup, 1) := by decide +kernel
theorem dX12_keeps_45 : decode cX12_keeps 45 = .ok (.getfield 11, 3) := by decide +kernel
theorem dX12_keeps_48 : decode cX12_keeps 48 = .ok (.iconst 1, 1) := by decide +kernel
theorem dX12_keeps_49 : decode cX12_keeps 49 = .ok (.isub, 1) := by decide +kernel
theorem dX12_keeps_50 : decode cX12_keeps 50 = .ok (.putfield 11, 3) := by decide +kernel
theorem dX12_keeps_53 : decode cX12_keeps 53 = .ok (.iconst 0, 1) := by decide +kernel
theorem dX12_keeps_54 : decode cX12_keeps 54 = .ok (.istore_n 3, 1) := by decide +kernel
theorem dX12_keeps_55 : decode cX12_keeps 55 = .ok (.iload_n 3, 1) := by decide +kernel
theorem dX12_keeps_56 : decode cX12_keeps 56 = .ok (.sipush 170, 3) := by decide +kernel
theorem dX12_keeps_59 : decode cX12_keeps 59 = .ok (.if_icmp .ge 28, 3) := by decide +kernel
theorem dX12_keeps_62 : decode cX12_keeps 62 = .ok (.aload_n 0, 1) := by decide +kernel
theorem dX12_keeps_63 : decode cX12_keeps 63 = .ok (.getfield 86, 3) := by decide +kernel
theorem dX12_keeps_66 : decode cX12_keeps 66 = .ok (.iload_n 2, 1) := by decide +kernel
theorem dX12_keeps_67 : decode cX12_keeps 67 = .ok (.aload_n 0, 1) := by decide +kernel
theorem dX12_keeps_68 : decode cX12_keeps 68 = .ok (.getfield 11, 3) := by decide +kernel
theorem dX12_keeps_71 : decode cX12_keeps 71 = .ok (.imul, 1) := by decide +kernel
theorem dX12_keeps_72 : decode cX12_keeps 72 = .ok (.iload_n 3, 1) := by decide +kernel
theorem dX12_keeps_73 : decode cX12_keeps 73 = .ok (.iadd, 1) := by decide +kernel
theorem dX12_keeps_74 : decode cX12_keeps 74 = .ok (.aload_n 0, 1) := by decide +kernel
theorem dX12_keeps_75 : decode cX12_keeps 75 = .ok (.getfield 24, 3) := by decide +kernel
theorem dX12_keeps_78 : decode cX12_keeps 78 = .ok (.iload_n 3, 1) := by decide +kernel
theorem dX12_keeps_79 : decode cX12_keeps 79 = .ok (.iaload, 1) := by decide +kernel
theorem dX12_keeps_80 : decode cX12_keeps 80 = .ok (.iastore, 1) := by decide +kernel
theorem dX12_keeps_81 : decode cX12_keeps 81 = .ok (.iinc 3 1, 3) := by decide +kernel
theorem dX12_keeps_84 : decode cX12_keeps 84 = .ok (.goto (-29), 3) := by decide +kernel
theorem dX12_keeps_87 : decode cX12_keeps 87 = .ok (.aload_n 0, 1) := by decide +kernel
theorem dX12_keeps_88 : decode cX12_keeps 88 = .ok (.getfield 86, 3) := by decide +kernel
theorem dX12_keeps_91 : decode cX12_keeps 91 = .ok (.iload_n 2, 1) := by decide +kernel
theorem dX12_keeps_92 : decode cX12_keeps 92 = .ok (.aload_n 0, 1) := by decide +kernel
theorem dX12_keeps_93 : decode cX12_keeps 93 = .ok (.getfield 11, 3) := by decide +kernel
theorem dX12_keeps_96 : decode cX12_keeps 96 = .ok (.imul, 1) := by decide +kernel
theorem dX12_keeps_97 : decode cX12_keeps 97 = .ok (.sipush 170, 3) := by decide +kernel
theorem dX12_keeps_100 : decode cX12_keeps 100 = .ok (.iadd, 1) := by decide +kernel
theorem dX12_keeps_101 : decode cX12_keeps 101 = .ok (.iload_n 1, 1) := by decide +kernel
theorem dX12_keeps_102 : decode cX12_keeps 102 = .ok (.iastore, 1) := by decide +kernel
theorem dX12_keeps_103 : decode cX12_keeps 103 = .ok (.aload_n 0, 1) := by decide +kernel
theorem dX12_keeps_104 : decode cX12_keeps 104 = .ok (.dup, 1) := by decide +kernel
theorem dX12_keeps_105 : decode cX12_keeps 105 = .ok (.getfield 11, 3) := by decide +kernel
theorem dX12_keeps_108 : decode cX12_keeps 108 = .ok (.iconst 1, 1) := by decide +kernel
theorem dX12_keeps_109 : decode cX12_keeps 109 = .ok (.iadd, 1) := by decide +kernel
theorem dX12_keeps_110 : decode cX12_keeps 110 = .ok (.putfield 11, 3) := by decide +kernel
theorem dX12_keeps_113 : decode cX12_keeps 113 = .ok (.return_, 1) := by decide +kernel
theorem dX12_undo_0 : decode cX12_undo 0 = .ok (.aload_n 0, 1) := by decide +kernel
theorem dX12_undo_1 : decode cX12_undo 1 = .ok (.getfield 11, 3) := by decide +kernel
theorem dX12_undo_4 : decode cX12_undo 4 = .ok (.ifCond .ne 10, 3) := by decide +kernel
theorem dX12_undo_7 : decode cX12_undo 7 = .ok (.aload_n 0, 1) := by decide +kernel
theorem dX12_undo_8 : decode cX12_undo 8 = .ok (.bipush (-3), 2) := by decide +kernel
theorem dX12_undo_10 : decode cX12_undo 10 = .ok (.invokevirtual 127, 3) := by decide +kernel
theorem dX12_undo_13 : decode cX12_undo 13 = .ok (.ireturn, 1) := by decide +kernel
theorem dX12_undo_14 : decode cX12_undo 14 = .ok (.aload_n 0, 1) := by decide +kernel
theorem dX12_undo_15 : decode cX12_undo 15 = .ok (.dup, 1) := by decide +kernel
theorem dX12_undo_16 : decode cX12_undo 16 = .ok (.getfield 11, 3) := by decide +kernel
theorem dX12_undo_19 : decode cX12_undo 19 = .ok (.iconst 1, 1) := by decide +kernel
theorem dX12_undo_20 : decode cX12_undo 20 = .ok (.isub, 1) := by decide +kernel
theorem dX12_undo_21 : decode cX12_undo 21 = .ok (.putfield 11, 3) := by decide +kernel
theorem dX12_undo_24 : decode cX12_undo 24 = .ok (.sipush 171, 3) := by decide +kernel
theorem dX12_undo_27 : decode cX12_undo 27 = .ok (.aload_n 0, 1) := by decide +kernel
theorem dX12_undo_28 : decode cX12_undo 28 = .ok (.getfield 11, 3) := by decide +kernel
theorem dX12_undo_31 : decode cX12_undo 31 = .ok (.imul, 1) := by decide +kernel
theorem dX12_undo_32 : decode cX12_undo 32 = .ok (.istore_n 1, 1) := by decide +kernel
theorem dX12_undo_33 : decode cX12_undo 33 = .ok (.iconst 0, 1) := by decide +kernel
theorem dX12_undo_34 : decode cX12_undo 34 = .ok (.istore_n 2, 1) := by decide +kernel
theorem dX12_undo_35 : decode cX12_undo 35 = .ok (.iload_n 2, 1) := by decide +kernel
theorem dX12_undo_36 : decode cX12_undo 36 = .ok (.sipush 170, 3) := by decide +kernel
theorem dX12_undo_39 : decode cX12_undo 39 = .ok (.if_icmp .ge 23, 3) := by decide +kernel
theorem dX12_undo_42 : decode cX12_undo 42 = .ok (.aload_n 0, 1) := by decide +kernel
theorem dX12_undo_43 : decode cX12_undo 43 = .ok (.getfield 24, 3) := by decide +kernel
theorem dX12_undo_46 : decode cX12_undo 46 = .ok (.iload_n 2, 1) := by decide +kernel
theorem dX12_undo_47 : decode cX12_undo 47 = .ok (.aload_n 0, 1) := by decide +kernel
theorem dX12_undo_48 : decode cX12_undo 48 = .ok (.getfield 86, 3) := by decide +kernel
theorem dX12_undo_51 : decode cX12_undo 51 = .ok (.iload_n 1, 1) := by decide +kernel
theorem dX12_undo_52 : decode cX12_undo 52 = .ok (.iload_n 2, 1) := by decide +kernel
theorem dX12_undo_53 : decode cX12_undo 53 = .ok (.iadd, 1) := by decide +kernel
theorem dX12_undo_54 : decode cX12_undo 54 = .ok (.iaload, 1) := by decide +kernel
theorem dX12_undo_55 : decode cX12_undo 55 = .ok (.iastore, 1) := by decide +kernel
theorem dX12_undo_56 : decode cX12_undo 56 = .ok (.iinc 2 1, 3) := by decide +kernel
theorem dX12_undo_59 : decode cX12_undo 59 = .ok (.goto (-24), 3) := by decide +kernel
theorem dX12_undo_62 : decode cX12_undo 62 = .ok (.aload_n 0, 1) := by decide +kernel
theorem dX12_undo_63 : decode cX12_undo 63 = .ok (.aload_n 0, 1) := by decide +kernel
theorem dX12_undo_64 : decode cX12_undo 64 = .ok (.getfield 86, 3) := by decide +kernel
theorem dX12_undo_67 : decode cX12_undo 67 = .ok (.iload_n 1, 1) := by decide +kernel
theorem dX12_undo_68 : decode cX12_undo 68 = .ok (.sipush 170, 3) := by decide +kernel
theorem dX12_undo_71 : decode cX12_undo 71 = .ok (.iadd, 1) := by decide +kernel
theorem dX12_undo_72 : decode cX12_undo 72 = .ok (.iaload, 1) := by decide +kernel
theorem dX12_undo_73 : decode cX12_undo 73 = .ok (.invokevirtual 14, 3) := by decide +kernel
theorem dX12_undo_76 : decode cX12_undo 76 = .ok (.ireturn, 1) := by decide +kernel
theorem dX12_praysKept_0 : decode cX12_praysKept 0 = .ok (.aload_n 0, 1) := by decide +kernel
theorem dX12_praysKept_1 : decode cX12_praysKept 1 = .ok (.iload_n 1, 1) := by decide +kernel
theorem dX12_praysKept_2 : decode cX12_praysKept 2 = .ok (.iload_n 2, 1) := by decide +kernel
theorem dX12_praysKept_3 : decode cX12_praysKept 3 = .ok (.iload_n 3, 1) := by decide +kernel
theorem dX12_praysKept_4 : decode cX12_praysKept 4 = .ok (.iload 4, 2) := by decide +kernel
theorem dX12_praysKept_6 : decode cX12_praysKept 6 = .ok (.invokevirtual 173, 3) := by decide +kernel
theorem dX12_praysKept_9 : decode cX12_praysKept 9 = .ok (.istore 5, 2) := by decide +kernel
theorem dX12_praysKept_11 : decode cX12_praysKept 11 = .ok (.iload 5, 2) := by decide +kernel
theorem dX12_praysKept_13 : decode cX12_praysKept 13 = .ok (.ifCond .ge 6, 3) := by decide +kernel
theorem dX12_praysKept_16 : decode cX12_praysKept 16 = .ok (.iload 5, 2) := by decide +kernel
theorem dX12_praysKept_18 : decode cX12_praysKept 18 = .ok (.ireturn, 1) := by decide +kernel
theorem dX12_praysKept_19 : decode cX12_praysKept 19 = .ok (.aload_n 0, 1) := by decide +kernel
theorem dX12_praysKept_20 : decode cX12_praysKept 20 = .ok (.iconst 0, 1) := by decide +kernel
theorem dX12_praysKept_21 : decode cX12_praysKept 21 = .ok (.invokevirtual 376, 3) := by decide +kernel
theorem dX12_praysKept_24 : decode cX12_praysKept 24 = .ok (.aload_n 0, 1) := by decide +kernel
theorem dX12_praysKept_25 : decode cX12_praysKept 25 = .ok (.iload_n 1, 1) := by decide +kernel
theorem dX12_praysKept_26 : decode cX12_praysKept 26 = .ok (.iload_n 2, 1) := by decide +kernel
theorem dX12_praysKept_27 : decode cX12_praysKept 27 = .ok (.iload_n 3, 1) := by decide +kernel
theorem dX12_praysKept_28 : decode cX12_praysKept 28 = .ok (.iload 4, 2) := by decide +kernel
theorem dX12_praysKept_30 : decode cX12_praysKept 30 = .ok (.invokevirtual 177, 3) := by decide +kernel
theorem dX12_praysKept_33 : decode cX12_praysKept 33 = .ok (.aload_n 0, 1) := by decide +kernel
theorem dX12_praysKept_34 : decode cX12_praysKept 34 = .ok (.invokevirtual 133, 3) := by decide +kernel
theorem dX12_praysKept_37 : decode cX12_praysKept 37 = .ok (.iconst 1, 1) := by decide +kernel
theorem dX12_praysKept_38 : decode cX12_praysKept 38 = .ok (.isub, 1) := by decide +kernel
theorem dX12_praysKept_39 : decode cX12_praysKept 39 = .ok (.ireturn, 1) := by decide +kernel
theorem dX12_dawnsKept_0 : decode cX12_dawnsKept 0 = .ok (.aload_n 0, 1) := by decide +kernel
theorem dX12_dawnsKept_1 : decode cX12_dawnsKept 1 = .ok (.getfield 24, 3) := by decide +kernel
theorem dX12_dawnsKept_4 : decode cX12_dawnsKept 4 = .ok (.sipush 169, 3) := by decide +kernel
theorem dX12_dawnsKept_7 : decode cX12_dawnsKept 7 = .ok (.iaload, 1) := by decide +kernel
theorem dX12_dawnsKept_8 : decode cX12_dawnsKept 8 = .ok (.sipush 999, 3) := by decide +kernel
theorem dX12_dawnsKept_11 : decode cX12_dawnsKept 11 = .ok (.if_icmp .ne 6, 3) := by decide +kernel
theorem dX12_dawnsKept_14 : decode cX12_dawnsKept 14 = .ok (.bipush (-3), 2) := by decide +kernel
theorem dX12_dawnsKept_16 : decode cX12_dawnsKept 16 = .ok (.ireturn, 1) := by decide +kernel
theorem dX12_dawnsKept_17 : decode cX12_dawnsKept 17 = .ok (.aload_n 0, 1) := by decide +kernel
theorem dX12_dawnsKept_18 : decode cX12_dawnsKept 18 = .ok (.iconst 1, 1) := by decide +kernel
theorem dX12_dawnsKept_19 : decode cX12_dawnsKept 19 = .ok (.invokevirtual 376, 3) := by decide +kernel
theorem dX12_dawnsKept_22 : decode cX12_dawnsKept 22 = .ok (.aload_n 0, 1) := by decide +kernel
theorem dX12_dawnsKept_23 : decode cX12_dawnsKept 23 = .ok (.invokevirtual 379, 3) := by decide +kernel
theorem dX12_dawnsKept_26 : decode cX12_dawnsKept 26 = .ok (.ireturn, 1) := by decide +kernel
theorem dX12_goodOr_0 : decode cX12_goodOr 0 = .ok (.iload_n 1, 1) := by decide +kernel
theorem dX12_goodOr_1 : decode cX12_goodOr 1 = .ok (.ifCond .ge 11, 3) := by decide +kernel
theorem dX12_goodOr_4 : decode cX12_goodOr 4 = .ok (.aload_n 0, 1) := by decide +kernel
theorem dX12_goodOr_5 : decode cX12_goodOr 5 = .ok (.iload_n 1, 1) := by decide +kernel
theorem dX12_goodOr_6 : decode cX12_goodOr 6 = .ok (.invokevirtual 127, 3) := by decide +kernel
theorem dX12_goodOr_9 : decode cX12_goodOr 9 = .ok (.goto 8, 3) := by decide +kernel
theorem dX12_goodOr_12 : decode cX12_goodOr 12 = .ok (.aload_n 0, 1) := by decide +kernel
theorem dX12_goodOr_13 : decode cX12_goodOr 13 = .ok (.iload_n 1, 1) := by decide +kernel
theorem dX12_goodOr_14 : decode cX12_goodOr 14 = .ok (.invokevirtual 14, 3) := by decide +kernel
theorem dX12_goodOr_17 : decode cX12_goodOr 17 = .ok (.ireturn, 1) := by decide +kernel
theorem dX12_pray_0 : decode cX12_pray 0 = .ok (.aload_n 0, 1) := by decide +kernel
theorem dX12_pray_1 : decode cX12_pray 1 = .ok (.aload_n 0, 1) := by decide +kernel
theorem dX12_pray_2 : decode cX12_pray 2 = .ok (.iload_n 1, 1) := by decide +kernel
theorem dX12_pray_3 : decode cX12_pray 3 = .ok (.iload_n 2, 1) := by decide +kernel
theorem dX12_pray_4 : decode cX12_pray 4 = .ok (.iload_n 3, 1) := by decide +kernel
theorem dX12_pray_5 : decode cX12_pray 5 = .ok (.iload 4, 2) := by decide +kernel
theorem dX12_pray_7 : decode cX12_pray 7 = .ok (.invokevirtual 382, 3) := by decide +kernel
theorem dX12_pray_10 : decode cX12_pray 10 = .ok (.invokevirtual 385, 3) := by decide +kernel
theorem dX12_pray_13 : decode cX12_pray 13 = .ok (.ireturn, 1) := by decide +kernel
theorem dX12_dawn_0 : decode cX12_dawn 0 = .ok (.aload_n 0, 1) := by decide +kernel
theorem dX12_dawn_1 : decode cX12_dawn 1 = .ok (.aload_n 0, 1) := by decide +kernel
theorem dX12_dawn_2 : decode cX12_dawn 2 = .ok (.invokevirtual 388, 3) := by decide +kernel
theorem dX12_dawn_5 : decode cX12_dawn 5 = .ok (.invokevirtual 385, 3) := by decide +kernel
theorem dX12_dawn_8 : decode cX12_dawn 8 = .ok (.ireturn, 1) := by decide +kernel
theorem dX12_sweep_0 : decode cX12_sweep 0 = .ok (.iconst 0, 1) := by decide +kernel
theorem dX12_sweep_1 : decode cX12_sweep 1 = .ok (.istore_n 1, 1) := by decide +kernel
theorem dX12_sweep_2 : decode cX12_sweep 2 = .ok (.iconst 0, 1) := by decide +kernel
theorem dX12_sweep_3 : decode cX12_sweep 3 = .ok (.istore_n 2, 1) := by decide +kernel
theorem dX12_sweep_4 : decode cX12_sweep 4 = .ok (.iconst 0, 1) := by decide +kernel
theorem dX12_sweep_5 : decode cX12_sweep 5 = .ok (.istore_n 3, 1) := by decide +kernel
theorem dX12_sweep_6 : decode cX12_sweep 6 = .ok (.iload_n 3, 1) := by decide +kernel
theorem dX12_sweep_7 : decode cX12_sweep 7 = .ok (.aload_n 0, 1) := by decide +kernel
theorem dX12_sweep_8 : decode cX12_sweep 8 = .ok (.invokevirtual 133, 3) := by decide +kernel
theorem dX12_sweep_11 : decode cX12_sweep 11 = .ok (.if_icmp .ge 64, 3) := by decide +kernel
theorem dX12_sweep_14 : decode cX12_sweep 14 = .ok (.aload_n 0, 1) := by decide +kernel
theorem dX12_sweep_15 : decode cX12_sweep 15 = .ok (.iload_n 3, 1) := by decide +kernel
theorem dX12_sweep_16 : decode cX12_sweep 16 = .ok (.iconst 5, 1) := by decide +kernel
theorem dX12_sweep_17 : decode cX12_sweep 17 = .ok (.invokevirtual 141, 3) := by decide +kernel
theorem dX12_sweep_20 : decode cX12_sweep 20 = .ok (.ifCond .eq 9, 3) := by decide +kernel
theorem dX12_sweep_23 : decode cX12_sweep 23 = .ok (.iinc 1 1, 3) := by decide +kernel
theorem dX12_sweep_26 : decode cX12_sweep 26 = .ok (.goto 43, 3) := by decide +kernel
theorem dX12_sweep_29 : decode cX12_sweep 29 = .ok (.iconst 0, 1) := by decide +kernel
theorem dX12_sweep_30 : decode cX12_sweep 30 = .ok (.istore 4, 2) := by decide +kernel
theorem dX12_sweep_32 : decode cX12_sweep 32 = .ok (.iload 4, 2) := by decide +kernel
theorem dX12_sweep_34 : decode cX12_sweep 34 = .ok (.bipush 7, 2) := by decide +kernel
theorem dX12_sweep_36 : decode cX12_sweep 36 = .ok (.if_icmp .ge 30, 3) := by decide +kernel
theorem dX12_sweep_39 : decode cX12_sweep 39 = .ok (.aload_n 0, 1) := by decide +kernel
theorem dX12_sweep_40 : decode cX12_sweep 40 = .ok (.getfield 24, 3) := by decide +kernel
theorem dX12_sweep_43 : decode cX12_sweep 43 = .ok (.iconst 0, 1) := by decide +kernel
theorem dX12_sweep_44 : decode cX12_sweep 44 = .ok (.bipush 7, 2) := by decide +kernel
theorem dX12_sweep_46 : decode cX12_sweep 46 = .ok (.iload_n 2, 1) := by decide +kernel
theorem dX12_sweep_47 : decode cX12_sweep 47 = .ok (.imul, 1) := by decide +kernel
theorem dX12_sweep_48 : decode cX12_sweep 48 = .ok (.iadd, 1) := by decide +kernel
theorem dX12_sweep_49 : decode cX12_sweep 49 = .ok (.iload 4, 2) := by decide +kernel
theorem dX12_sweep_51 : decode cX12_sweep 51 = .ok (.iadd, 1) := by decide +kernel
theorem dX12_sweep_52 : decode cX12_sweep 52 = .ok (.aload_n 0, 1) := by decide +kernel
theorem dX12_sweep_53 : decode cX12_sweep 53 = .ok (.iload_n 3, 1) := by decide +kernel
theorem dX12_sweep_54 : decode cX12_sweep 54 = .ok (.iload 4, 2) := by decide +kernel
theorem dX12_sweep_56 : decode cX12_sweep 56 = .ok (.invokevirtual 141, 3) := by decide +kernel
theorem dX12_sweep_59 : decode cX12_sweep 59 = .ok (.iastore, 1) := by decide +kernel
theorem dX12_sweep_60 : decode cX12_sweep 60 = .ok (.iinc 4 1, 3) := by decide +kernel
theorem dX12_sweep_63 : decode cX12_sweep 63 = .ok (.goto (-31), 3) := by decide +kernel
theorem dX12_sweep_66 : decode cX12_sweep 66 = .ok (.iinc 2 1, 3) := by decide +kernel
theorem dX12_sweep_69 : decode cX12_sweep 69 = .ok (.iinc 3 1, 3) := by decide +kernel
theorem dX12_sweep_72 : decode cX12_sweep 72 = .ok (.goto (-66), 3) := by decide +kernel
theorem dX12_sweep_75 : decode cX12_sweep 75 = .ok (.aload_n 0, 1) := by decide +kernel
theorem dX12_sweep_76 : decode cX12_sweep 76 = .ok (.getfield 24, 3) := by decide +kernel
theorem dX12_sweep_79 : decode cX12_sweep 79 = .ok (.sipush 168, 3) := by decide +kernel
theorem dX12_sweep_82 : decode cX12_sweep 82 = .ok (.iload_n 2, 1) := by decide +kernel
theorem dX12_sweep_83 : decode cX12_sweep 83 = .ok (.iastore, 1) := by decide +kernel
theorem dX12_sweep_84 : decode cX12_sweep 84 = .ok (.aload_n 0, 1) := by decide +kernel
theorem dX12_sweep_85 : decode cX12_sweep 85 = .ok (.iconst 0, 1) := by decide +kernel
theorem dX12_sweep_86 : decode cX12_sweep 86 = .ok (.putfield 11, 3) := by decide +kernel
theorem dX12_sweep_89 : decode cX12_sweep 89 = .ok (.iload_n 1, 1) := by decide +kernel
theorem dX12_sweep_90 : decode cX12_sweep 90 = .ok (.ireturn, 1) := by decide +kernel
theorem dX12_parts_0 : decode cX12_parts 0 = .ok (.iload_n 2, 1) := by decide +kernel
theorem dX12_parts_1 : decode cX12_parts 1 = .ok (.aload_n 0, 1) := by decide +kernel
theorem dX12_parts_2 : decode cX12_parts 2 = .ok (.getfield 391, 3) := by decide +kernel
theorem dX12_parts_5 : decode cX12_parts 5 = .ok (.if_icmp .ne 9, 3) := by decide +kernel
theorem dX12_parts_8 : decode cX12_parts 8 = .ok (.aload_n 0, 1) := by decide +kernel
theorem dX12_parts_9 : decode cX12_parts 9 = .ok (.iload_n 1, 1) := by decide +kernel
theorem dX12_parts_10 : decode cX12_parts 10 = .ok (.invokevirtual 394, 3) := by decide +kernel
theorem dX12_parts_13 : decode cX12_parts 13 = .ok (.return_, 1) := by decide +kernel
theorem dX12_parts_14 : decode cX12_parts 14 = .ok (.iconst 0, 1) := by decide +kernel
theorem dX12_parts_15 : decode cX12_parts 15 = .ok (.istore_n 3, 1) := by decide +kernel
theorem dX12_parts_16 : decode cX12_parts 16 = .ok (.iload_n 3, 1) := by decide +kernel
theorem dX12_parts_17 : decode cX12_parts 17 = .ok (.iload_n 2, 1) := by decide +kernel
theorem dX12_parts_18 : decode cX12_parts 18 = .ok (.if_icmp .ge 169, 3) := by decide +kernel
theorem dX12_parts_21 : decode cX12_parts 21 = .ok (.iconst 2, 1) := by decide +kernel
theorem dX12_parts_22 : decode cX12_parts 22 = .ok (.istore 4, 2) := by decide +kernel
theorem dX12_parts_24 : decode cX12_parts 24 = .ok (.iload 4, 2) := by decide +kernel
theorem dX12_parts_26 : decode cX12_parts 26 = .ok (.aload_n 0, 1) := by decide +kernel
theorem dX12_parts_27 : decode cX12_parts 27 = .ok (.getfield 397, 3) := by decide +kernel
theorem dX12_parts_30 : decode cX12_parts 30 = .ok (.if_icmp .gt 151, 3) := by decide +kernel
theorem dX12_parts_33 : decode cX12_parts 33 = .ok (.iload_n 2, 1) := by decide +kernel
theorem dX12_parts_34 : decode cX12_parts 34 = .ok (.iconst 1, 1) := by decide +kernel
theorem dX12_parts_35 : decode cX12_parts 35 = .ok (.isub, 1) := by decide +kernel
theorem dX12_parts_36 : decode cX12_parts 36 = .ok (.iload 4, 2) := by decide +kernel
theorem dX12_parts_38 : decode cX12_parts 38 = .ok (.iadd, 1) := by decide +kernel
theorem dX12_parts_39 : decode cX12_parts 39 = .ok (.aload_n 0, 1) := by decide +kernel
theorem dX12_parts_40 : decode cX12_parts 40 = .ok (.getfield 391, 3) := by decide +kernel
theorem dX12_parts_43 : decode cX12_parts 43 = .ok (.if_icmp .gt 138, 3) := by decide +kernel
theorem dX12_parts_46 : decode cX12_parts 46 = .ok (.bipush 6, 2) := by decide +kernel
theorem dX12_parts_48 : decode cX12_parts 48 = .ok (.iload_n 1, 1) := by decide +kernel
theorem dX12_parts_49 : decode cX12_parts 49 = .ok (.iconst 1, 1) := by decide +kernel
theorem dX12_parts_50 : decode cX12_parts 50 = .ok (.iadd, 1) := by decide +kernel
theorem dX12_parts_51 : decode cX12_parts 51 = .ok (.imul, 1) := by decide +kernel
theorem dX12_parts_52 : decode cX12_parts 52 = .ok (.istore 5, 2) := by decide +kernel
theorem dX12_parts_54 : decode cX12_parts 54 = .ok (.iconst 0, 1) := by decide +kernel
theorem dX12_parts_55 : decode cX12_parts 55 = .ok (.istore 6, 2) := by decide +kernel
theorem dX12_parts_57 : decode cX12_parts 57 = .ok (.iload 6, 2) := by decide +kernel
theorem dX12_parts_59 : decode cX12_parts 59 = .ok (.iload_n 2, 1) := by decide +kernel
theorem dX12_parts_60 : decode cX12_parts 60 = .ok (.if_icmp .ge 31, 3) := by decide +kernel
theorem dX12_parts_63 : decode cX12_parts 63 = .ok (.aload_n 0, 1) := by decide +kernel
theorem dX12_parts_64 : decode cX12_parts 64 = .ok (.getfield 98, 3) := by decide +kernel
theorem dX12_parts_67 : decode cX12_parts 67 = .ok (.iload 5, 2) := by decide +kernel
theorem dX12_parts_69 : decode cX12_parts 69 = .ok (.iload 6, 2) := by decide +kernel
theorem dX12_parts_71 : decode cX12_parts 71 = .ok (.iadd, 1) := by decide +kernel
theorem dX12_parts_72 : decode cX12_parts 72 = .ok (.aload_n 0, 1) := by decide +kernel
theorem dX12_parts_73 : decode cX12_parts 73 = .ok (.getfield 98, 3) := by decide +kernel
theorem dX12_parts_76 : decode cX12_parts 76 = .ok (.bipush 6, 2) := by decide +kernel
theorem dX12_parts_78 : decode cX12_parts 78 = .ok (.iload_n 1, 1) := by decide +kernel
theorem dX12_parts_79 : decode cX12_parts 79 = .ok (.imul, 1) := by decide +kernel
theorem dX12_parts_80 : decode cX12_parts 80 = .ok (.iload 6, 2) := by decide +kernel
theorem dX12_parts_82 : decode cX12_parts 82 = .ok (.iadd, 1) := by decide +kernel
theorem dX12_parts_83 : decode cX12_parts 83 = .ok (.iaload, 1) := by decide +kernel
theorem dX12_parts_84 : decode cX12_parts 84 = .ok (.iastore, 1) := by decide +kernel
theorem dX12_parts_85 : decode cX12_parts 85 = .ok (.iinc 6 1, 3) := by decide +kernel
theorem dX12_parts_88 : decode cX12_parts 88 = .ok (.goto (-31), 3) := by decide +kernel
theorem dX12_parts_91 : decode cX12_parts 91 = .ok (.aload_n 0, 1) := by decide +kernel
theorem dX12_parts_92 : decode cX12_parts 92 = .ok (.getfield 98, 3) := by decide +kernel
theorem dX12_parts_95 : decode cX12_parts 95 = .ok (.bipush 6, 2) := by decide +kernel
theorem dX12_parts_97 : decode cX12_parts 97 = .ok (.iload_n 1, 1) := by decide +kernel
theorem dX12_parts_98 : decode cX12_parts 98 = .ok (.imul, 1) := by decide +kernel
theorem dX12_parts_99 : decode cX12_parts 99 = .ok (.iload_n 3, 1) := by decide +kernel
theorem dX12_parts_100 : decode cX12_parts 100 = .ok (.iadd, 1) := by decide +kernel
theorem dX12_parts_101 : decode cX12_parts 101 = .ok (.iaload, 1) := by decide +kernel
theorem dX12_parts_102 : decode cX12_parts 102 = .ok (.istore 6, 2) := by decide +kernel
theorem dX12_parts_104 : decode cX12_parts 104 = .ok (.aload_n 0, 1) := by decide +kernel
theorem dX12_parts_105 : decode cX12_parts 105 = .ok (.getfield 98, 3) := by decide +kernel
theorem dX12_parts_108 : decode cX12_parts 108 = .ok (.iload 5, 2) := by decide +kernel
theorem dX12_parts_110 : decode cX12_parts 110 = .ok (.iload_n 3, 1) := by decide +kernel
theorem dX12_parts_111 : decode cX12_parts 111 = .ok (.iadd, 1) := by decide +kernel
theorem dX12_parts_112 : decode cX12_parts 112 = .ok (.iload 6, 2) := by decide +kernel
theorem dX12_parts_114 : decode cX12_parts 114 = .ok (.aload_n 0, 1) := by decide +kernel
theorem dX12_parts_115 : decode cX12_parts 115 = .ok (.getfield 92, 3) := by decide +kernel
theorem dX12_parts_118 : decode cX12_parts 118 = .ok (.iconst 0, 1) := by decide +kernel
theorem dX12_parts_119 : decode cX12_parts 119 = .ok (.iaload, 1) := by decide +kernel
theorem dX12_parts_120 : decode cX12_parts 120 = .ok (.iadd, 1) := by decide +kernel
theorem dX12_parts_121 : decode cX12_parts 121 = .ok (.iastore, 1) := by decide +kernel
theorem dX12_parts_122 : decode cX12_parts 122 = .ok (.iconst 1, 1) := by decide +kernel
theorem dX12_parts_123 : decode cX12_parts 123 = .ok (.istore 7, 2) := by decide +kernel
theorem dX12_parts_125 : decode cX12_parts 125 = .ok (.iload 7, 2) := by decide +kernel
theorem dX12_parts_127 : decode cX12_parts 127 = .ok (.iload 4, 2) := by decide +kernel
theorem dX12_parts_129 : decode cX12_parts 129 = .ok (.if_icmp .ge 33, 3) := by decide +kernel
theorem dX12_parts_132 : decode cX12_parts 132 = .ok (.aload_n 0, 1) := by decide +kernel
theorem dX12_parts_133 : decode cX12_parts 133 = .ok (.getfield 98, 3) := by decide +kernel
theorem dX12_parts_136 : decode cX12_parts 136 = .ok (.iload 5, 2) := by decide +kernel
theorem dX12_parts_138 : decode cX12_parts 138 = .ok (.iload_n 2, 1) := by decide +kernel
theorem dX12_parts_139 : decode cX12_parts 139 = .ok (.iadd, 1) := by decide +kernel
theorem dX12_parts_140 : decode cX12_parts 140 = .ok (.iconst 1, 1) := by decide +kernel
theorem dX12_parts_141 : decode cX12_parts 141 = .ok (.isub, 1) := by decide +kernel
theorem dX12_parts_142 : decode cX12_parts 142 = .ok (.iload 7, 2) := by decide +kernel
theorem dX12_parts_144 : decode cX12_parts 144 = .ok (.iadd, 1) := by decide +kernel
theorem dX12_parts_145 : decode cX12_parts 145 = .ok (.iload 6, 2) := by decide +kernel
theorem dX12_parts_147 : decode cX12_parts 147 = .ok (.aload_n 0, 1) := by decide +kernel
theorem dX12_parts_148 : decode cX12_parts 148 = .ok (.getfield 92, 3) := by decide +kernel
theorem dX12_parts_151 : decode cX12_parts 151 = .ok (.iload 7, 2) := by decide +kernel
theorem dX12_parts_153 : decode cX12_parts 153 = .ok (.iaload, 1) := by decide +kernel
theorem dX12_parts_154 : decode cX12_parts 154 = .ok (.iadd, 1) := by decide +kernel
theorem dX12_parts_155 : decode cX12_parts 155 = .ok (.iastore, 1) := by decide +kernel
theorem dX12_parts_156 : decode cX12_parts 156 = .ok (.iinc 7 1, 3) := by decide +kernel
theorem dX12_parts_159 : decode cX12_parts 159 = .ok (.goto (-34), 3) := by decide +kernel
theorem dX12_parts_162 : decode cX12_parts 162 = .ok (.aload_n 0, 1) := by decide +kernel
theorem dX12_parts_163 : decode cX12_parts 163 = .ok (.iload_n 1, 1) := by decide +kernel
theorem dX12_parts_164 : decode cX12_parts 164 = .ok (.iconst 1, 1) := by decide +kernel
theorem dX12_parts_165 : decode cX12_parts 165 = .ok (.iadd, 1) := by decide +kernel
theorem dX12_parts_166 : decode cX12_parts 166 = .ok (.iload_n 2, 1) := by decide +kernel
theorem dX12_parts_167 : decode cX12_parts 167 = .ok (.iconst 1, 1) := by decide +kernel
theorem dX12_parts_168 : decode cX12_parts 168 = .ok (.isub, 1) := by decide +kernel
theorem dX12_parts_169 : decode cX12_parts 169 = .ok (.iload 4, 2) := by decide +kernel
theorem dX12_parts_171 : decode cX12_parts 171 = .ok (.iadd, 1) := by decide +kernel
theorem dX12_parts_172 : decode cX12_parts 172 = .ok (.invokevirtual 400, 3) := by decide +kernel
theorem dX12_parts_175 : decode cX12_parts 175 = .ok (.iinc 4 1, 3) := by decide +kernel
theorem dX12_parts_178 : decode cX12_parts 178 = .ok (.goto (-154), 3) := by decide +kernel
theorem dX12_parts_181 : decode cX12_parts 181 = .ok (.iinc 3 1, 3) := by decide +kernel
theorem dX12_parts_184 : decode cX12_parts 184 = .ok (.goto (-168), 3) := by decide +kernel
theorem dX12_parts_187 : decode cX12_parts 187 = .ok (.return_, 1) := by decide +kernel
theorem dX12_looksAt_0 : decode cX12_looksAt 0 = .ok (.iconst 0, 1) := by decide +kernel
theorem dX12_looksAt_1 : decode cX12_looksAt 1 = .ok (.istore_n 2, 1) := by decide +kernel
theorem dX12_looksAt_2 : decode cX12_looksAt 2 = .ok (.iload_n 2, 1) := by decide +kernel
theorem dX12_looksAt_3 : decode cX12_looksAt 3 = .ok (.aload_n 0, 1) := by decide +kernel
theorem dX12_looksAt_4 : decode cX12_looksAt 4 = .ok (.getfield 391, 3) := by decide +kernel
theorem dX12_looksAt_7 : decode cX12_looksAt 7 = .ok (.if_icmp .ge 69, 3) := by decide +kernel
theorem dX12_looksAt_10 : decode cX12_looksAt 10 = .ok (.iload_n 2, 1) := by decide +kernel
theorem dX12_looksAt_11 : decode cX12_looksAt 11 = .ok (.istore_n 3, 1) := by decide +kernel
theorem dX12_looksAt_12 : decode cX12_looksAt 12 = .ok (.aload_n 0, 1) := by decide +kernel
theorem dX12_looksAt_13 : decode cX12_looksAt 13 = .ok (.getfield 98, 3) := by decide +kernel
theorem dX12_looksAt_16 : decode cX12_looksAt 16 = .ok (.bipush 6, 2) := by decide +kernel
theorem dX12_looksAt_18 : decode cX12_looksAt 18 = .ok (.iload_n 1, 1) := by decide +kernel
theorem dX12_looksAt_19 : decode cX12_looksAt 19 = .ok (.imul, 1) := by decide +kernel
theorem dX12_looksAt_20 : decode cX12_looksAt 20 = .ok (.iload_n 2, 1) := by decide +kernel
theorem dX12_looksAt_21 : decode cX12_looksAt 21 = .ok (.iadd, 1) := by decide +kernel
theorem dX12_looksAt_22 : decode cX12_looksAt 22 = .ok (.iaload, 1) := by decide +kernel
theorem dX12_looksAt_23 : decode cX12_looksAt 23 = .ok (.istore 4, 2) := by decide +kernel
theorem dX12_looksAt_25 : decode cX12_looksAt 25 = .ok (.iload_n 3, 1) := by decide +kernel
theorem dX12_looksAt_26 : decode cX12_looksAt 26 = .ok (.ifCond .le 36, 3) := by decide +kernel
theorem dX12_looksAt_29 : decode cX12_looksAt 29 = .ok (.aload_n 0, 1) := by decide +kernel
theorem dX12_looksAt_30 : decode cX12_looksAt 30 = .ok (.getfield 101, 3) := by decide +kernel
theorem dX12_looksAt_33 : decode cX12_looksAt 33 = .ok (.iload_n 3, 1) := by decide +kernel
theorem dX12_looksAt_34 : decode cX12_looksAt 34 = .ok (.iconst 1, 1) := by decide +kernel
theorem dX12_looksAt_35 : decode cX12_looksAt 35 = .ok (.isub, 1) := by decide +kernel
theorem dX12_looksAt_36 : decode cX12_looksAt 36 = .ok (.iaload, 1) := by decide +kernel
theorem dX12_looksAt_37 : decode cX12_looksAt 37 = .ok (.iload 4, 2) := by decide +kernel
theorem dX12_looksAt_39 : decode cX12_looksAt 39 = .ok (.if_icmp .le 23, 3) := by decide +kernel
theorem dX12_looksAt_42 : decode cX12_looksAt 42 = .ok (.aload_n 0, 1) := by decide +kernel
theorem dX12_looksAt_43 : decode cX12_looksAt 43 = .ok (.getfield 101, 3) := by decide +kernel
theorem dX12_looksAt_46 : decode cX12_looksAt 46 = .ok (.iload_n 3, 1) := by decide +kernel
theorem dX12_looksAt_47 : decode cX12_looksAt 47 = .ok (.aload_n 0, 1) := by decide +kernel
theorem dX12_looksAt_48 : decode cX12_looksAt 48 = .ok (.getfield 101, 3) := by decide +kernel
theorem dX12_looksAt_51 : decode cX12_looksAt 51 = .ok (.iload_n 3, 1) := by decide +kernel
theorem dX12_looksAt_52 : decode cX12_looksAt 52 = .ok (.iconst 1, 1) := by decide +kernel
theorem dX12_looksAt_53 : decode cX12_looksAt 53 = .ok (.isub, 1) := by decide +kernel
theorem dX12_looksAt_54 : decode cX12_looksAt 54 = .ok (.iaload, 1) := by decide +kernel
theorem dX12_looksAt_55 : decode cX12_looksAt 55 = .ok (.iastore, 1) := by decide +kernel
theorem dX12_looksAt_56 : decode cX12_looksAt 56 = .ok (.iinc 3 (-1), 3) := by decide +kernel
theorem dX12_looksAt_59 : decode cX12_looksAt 59 = .ok (.goto (-34), 3) := by decide +kernel
theorem dX12_looksAt_62 : decode cX12_looksAt 62 = .ok (.aload_n 0, 1) := by decide +kernel
theorem dX12_looksAt_63 : decode cX12_looksAt 63 = .ok (.getfield 101, 3) := by decide +kernel
theorem dX12_looksAt_66 : decode cX12_looksAt 66 = .ok (.iload_n 3, 1) := by decide +kernel
theorem dX12_looksAt_67 : decode cX12_looksAt 67 = .ok (.iload 4, 2) := by decide +kernel
theorem dX12_looksAt_69 : decode cX12_looksAt 69 = .ok (.iastore, 1) := by decide +kernel
theorem dX12_looksAt_70 : decode cX12_looksAt 70 = .ok (.iinc 2 1, 3) := by decide +kernel
theorem dX12_looksAt_73 : decode cX12_looksAt 73 = .ok (.goto (-71), 3) := by decide +kernel
theorem dX12_looksAt_76 : decode cX12_looksAt 76 = .ok (.iconst 0, 1) := by decide +kernel
theorem dX12_looksAt_77 : decode cX12_looksAt 77 = .ok (.istore_n 2, 1) := by decide +kernel
theorem dX12_looksAt_78 : decode cX12_looksAt 78 = .ok (.iconst 0, 1) := by decide +kernel
theorem dX12_looksAt_79 : decode cX12_looksAt 79 = .ok (.istore_n 3, 1) := by decide +kernel
theorem dX12_looksAt_80 : decode cX12_looksAt 80 = .ok (.iload_n 3, 1) := by decide +kernel
theorem dX12_looksAt_81 : decode cX12_looksAt 81 = .ok (.aload_n 0, 1) := by decide +kernel
theorem dX12_looksAt_82 : decode cX12_looksAt 82 = .ok (.getfield 391, 3) := by decide +kernel
theorem dX12_looksAt_85 : decode cX12_looksAt 85 = .ok (.if_icmp .ge 133, 3) := by decide +kernel
theorem dX12_looksAt_88 : decode cX12_looksAt 88 = .ok (.iconst 0, 1) := by decide +kernel
theorem dX12_looksAt_89 : decode cX12_looksAt 89 = .ok (.istore 4, 2) := by decide +kernel
theorem dX12_looksAt_91 : decode cX12_looksAt 91 = .ok (.iconst 0, 1) := by decide +kernel
theorem dX12_looksAt_92 : decode cX12_looksAt 92 = .ok (.istore 5, 2) := by decide +kernel
theorem dX12_looksAt_94 : decode cX12_looksAt 94 = .ok (.iload 5, 2) := by decide +kernel
theorem dX12_looksAt_96 : decode cX12_looksAt 96 = .ok (.aload_n 0, 1) := by decide +kernel
theorem dX12_looksAt_97 : decode cX12_looksAt 97 = .ok (.getfield 391, 3) := by decide +kernel
theorem dX12_looksAt_100 : decode cX12_looksAt 100 = .ok (.if_icmp .ge 74, 3) := by decide +kernel
theorem dX12_looksAt_103 : decode cX12_looksAt 103 = .ok (.aload_n 0, 1) := by decide +kernel
theorem dX12_looksAt_104 : decode cX12_looksAt 104 = .ok (.getfield 24, 3) := by decide +kernel
theorem dX12_looksAt_107 : decode cX12_looksAt 107 = .ok (.sipush 308, 3) := by decide +kernel
theorem dX12_looksAt_110 : decode cX12_looksAt 110 = .ok (.aload_n 0, 1) := by decide +kernel
theorem dX12_looksAt_111 : decode cX12_looksAt 111 = .ok (.getfield 95, 3) := by decide +kernel
theorem dX12_looksAt_114 : decode cX12_looksAt 114 = .ok (.iload 5, 2) := by decide +kernel
theorem dX12_looksAt_116 : decode cX12_looksAt 116 = .ok (.iaload, 1) := by decide +kernel
theorem dX12_looksAt_117 : decode cX12_looksAt 117 = .ok (.iadd, 1) := by decide +kernel
theorem dX12_looksAt_118 : decode cX12_looksAt 118 = .ok (.iaload, 1) := by decide +kernel
theorem dX12_looksAt_119 : decode cX12_looksAt 119 = .ok (.istore 6, 2) := by decide +kernel
theorem dX12_looksAt_121 : decode cX12_looksAt 121 = .ok (.aload_n 0, 1) := by decide +kernel
theorem dX12_looksAt_122 : decode cX12_looksAt 122 = .ok (.getfield 24, 3) := by decide +kernel
theorem dX12_looksAt_125 : decode cX12_looksAt 125 = .ok (.sipush 308, 3) := by decide +kernel
theorem dX12_looksAt_128 : decode cX12_looksAt 128 = .ok (.aload_n 0, 1) := by decide +kernel
theorem dX12_looksAt_129 : decode cX12_looksAt 129 = .ok (.getfield 95, 3) := by decide +kernel
theorem dX12_looksAt_132 : decode cX12_looksAt 132 = .ok (.iload_n 3, 1) := by decide +kernel
theorem dX12_looksAt_133 : decode cX12_looksAt 133 = .ok (.iaload, 1) := by decide +kernel
theorem dX12_looksAt_134 : decode cX12_looksAt 134 = .ok (.iadd, 1) := by decide +kernel
theorem dX12_looksAt_135 : decode cX12_looksAt 135 = .ok (.iaload, 1) := by decide +kernel
theorem dX12_looksAt_136 : decode cX12_looksAt 136 = .ok (.istore 7, 2) := by decide +kernel
theorem dX12_looksAt_138 : decode cX12_looksAt 138 = .ok (.iload 4, 2) := by decide +kernel
theorem dX12_looksAt_140 : decode cX12_looksAt 140 = .ok (.iload 6, 2) := by decide +kernel
theorem dX12_looksAt_142 : decode cX12_looksAt 142 = .ok (.iload 7, 2) := by decide +kernel
theorem dX12_looksAt_144 : decode cX12_looksAt 144 = .ok (.if_icmp .gt 16, 3) := by decide +kernel
theorem dX12_looksAt_147 : decode cX12_looksAt 147 = .ok (.iload 6, 2) := by decide +kernel
theorem dX12_looksAt_149 : decode cX12_looksAt 149 = .ok (.iload 7, 2) := by decide +kernel
theorem dX12_looksAt_151 : decode cX12_looksAt 151 = .ok (.if_icmp .ne 13, 3) := by decide +kernel
theorem dX12_looksAt_154 : decode cX12_looksAt 154 = .ok (.iload 5, 2) := by decide +kernel
theorem dX12_looksAt_156 : decode cX12_looksAt 156 = .ok (.iload_n 3, 1) := by decide +kernel
theorem dX12_looksAt_157 : decode cX12_looksAt 157 = .ok (.if_icmp .ge 7, 3) := by decide +kernel
theorem dX12_looksAt_160 : decode cX12_looksAt 160 = .ok (.iconst 1, 1) := by decide +kernel
theorem dX12_looksAt_161 : decode cX12_looksAt 161 = .ok (.goto 4, 3) := by decide +kernel
theorem dX12_looksAt_164 : decode cX12_looksAt 164 = .ok (.iconst 0, 1) := by decide +kernel
theorem dX12_looksAt_165 : decode cX12_looksAt 165 = .ok (.iadd, 1) := by decide +kernel
theorem dX12_looksAt_166 : decode cX12_looksAt 166 = .ok (.istore 4, 2) := by decide +kernel
theorem dX12_looksAt_168 : decode cX12_looksAt 168 = .ok (.iinc 5 1, 3) := by decide +kernel
theorem dX12_looksAt_171 : decode cX12_looksAt 171 = .ok (.goto (-77), 3) := by decide +kernel
theorem dX12_looksAt_174 : decode cX12_looksAt 174 = .ok (.aload_n 0, 1) := by decide +kernel
theorem dX12_looksAt_175 : decode cX12_looksAt 175 = .ok (.getfield 104, 3) := by decide +kernel
theorem dX12_looksAt_178 : decode cX12_looksAt 178 = .ok (.iload_n 3, 1) := by decide +kernel
theorem dX12_looksAt_179 : decode cX12_looksAt 179 = .ok (.aload_n 0, 1) := by decide +kernel
theorem dX12_looksAt_180 : decode cX12_looksAt 180 = .ok (.getfield 101, 3) := by decide +kernel
theorem dX12_looksAt_183 : decode cX12_looksAt 183 = .ok (.iload 4, 2) := by decide +kernel
theorem dX12_looksAt_185 : decode cX12_looksAt 185 = .ok (.iaload, 1) := by decide +kernel
theorem dX12_looksAt_186 : decode cX12_looksAt 186 = .ok (.iastore, 1) := by decide +kernel
theorem dX12_looksAt_187 : decode cX12_looksAt 187 = .ok (.iload_n 2, 1) := by decide +kernel
theorem dX12_looksAt_188 : decode cX12_looksAt 188 = .ok (.aload_n 0, 1) := by decide +kernel
theorem dX12_looksAt_189 : decode cX12_looksAt 189 = .ok (.getfield 104, 3) := by decide +kernel
theorem dX12_looksAt_192 : decode cX12_looksAt 192 = .ok (.iload_n 3, 1) := by decide +kernel
theorem dX12_looksAt_193 : decode cX12_looksAt 193 = .ok (.iaload, 1) := by decide +kernel
theorem dX12_looksAt_194 : decode cX12_looksAt 194 = .ok (.aload_n 0, 1) := by decide +kernel
theorem dX12_looksAt_195 : decode cX12_looksAt 195 = .ok (.getfield 24, 3) := by decide +kernel
theorem dX12_looksAt_198 : decode cX12_looksAt 198 = .ok (.sipush 308, 3) := by decide +kernel
theorem dX12_looksAt_201 : decode cX12_looksAt 201 = .ok (.aload_n 0, 1) := by decide +kernel
theorem dX12_looksAt_202 : decode cX12_looksAt 202 = .ok (.getfield 95, 3) := by decide +kernel
theorem dX12_looksAt_205 : decode cX12_looksAt 205 = .ok (.iload_n 3, 1) := by decide +kernel
theorem dX12_looksAt_206 : decode cX12_looksAt 206 = .ok (.iaload, 1) := by decide +kernel
theorem dX12_looksAt_207 : decode cX12_looksAt 207 = .ok (.iadd, 1) := by decide +kernel
theorem dX12_looksAt_208 : decode cX12_looksAt 208 = .ok (.iaload, 1) := by decide +kernel
theorem dX12_looksAt_209 : decode cX12_looksAt 209 = .ok (.imul, 1) := by decide +kernel
theorem dX12_looksAt_210 : decode cX12_looksAt 210 = .ok (.iadd, 1) := by decide +kernel
theorem dX12_looksAt_211 : decode cX12_looksAt 211 = .ok (.istore_n 2, 1) := by decide +kernel
theorem dX12_looksAt_212 : decode cX12_looksAt 212 = .ok (.iinc 3 1, 3) := by decide +kernel
theorem dX12_looksAt_215 : decode cX12_looksAt 215 = .ok (.goto (-135), 3) := by decide +kernel
theorem dX12_looksAt_218 : decode cX12_looksAt 218 = .ok (.iload_n 2, 1) := by decide +kernel
theorem dX12_looksAt_219 : decode cX12_looksAt 219 = .ok (.aload_n 0, 1) := by decide +kernel
theorem dX12_looksAt_220 : decode cX12_looksAt 220 = .ok (.getfield 403, 3) := by decide +kernel
theorem dX12_looksAt_223 : decode cX12_looksAt 223 = .ok (.if_icmp .ge 7, 3) := by decide +kernel
theorem dX12_looksAt_226 : decode cX12_looksAt 226 = .ok (.iconst 1, 1) := by decide +kernel
theorem dX12_looksAt_227 : decode cX12_looksAt 227 = .ok (.goto 4, 3) := by decide +kernel
theorem dX12_looksAt_230 : decode cX12_looksAt 230 = .ok (.iconst 0, 1) := by decide +kernel
theorem dX12_looksAt_231 : decode cX12_looksAt 231 = .ok (.istore_n 3, 1) := by decide +kernel
theorem dX12_looksAt_232 : decode cX12_looksAt 232 = .ok (.iconst 0, 1) := by decide +kernel
theorem dX12_looksAt_233 : decode cX12_looksAt 233 = .ok (.istore 4, 2) := by decide +kernel
theorem dX12_looksAt_235 : decode cX12_looksAt 235 = .ok (.iload 4, 2) := by decide +kernel
theorem dX12_looksAt_237 : decode cX12_looksAt 237 = .ok (.aload_n 0, 1) := by decide +kernel
theorem dX12_looksAt_238 : decode cX12_looksAt 238 = .ok (.getfield 391, 3) := by decide +kernel
theorem dX12_looksAt_241 : decode cX12_looksAt 241 = .ok (.if_icmp .ge 63, 3) := by decide +kernel
theorem dX12_looksAt_244 : decode cX12_looksAt 244 = .ok (.iload_n 2, 1) := by decide +kernel
theorem dX12_looksAt_245 : decode cX12_looksAt 245 = .ok (.aload_n 0, 1) := by decide +kernel
theorem dX12_looksAt_246 : decode cX12_looksAt 246 = .ok (.getfield 403, 3) := by decide +kernel
theorem dX12_looksAt_249 : decode cX12_looksAt 249 = .ok (.if_icmp .ne 55, 3) := by decide +kernel
theorem dX12_looksAt_252 : decode cX12_looksAt 252 = .ok (.aload_n 0, 1) := by decide +kernel
theorem dX12_looksAt_253 : decode cX12_looksAt 253 = .ok (.getfield 104, 3) := by decide +kernel
theorem dX12_looksAt_256 : decode cX12_looksAt 256 = .ok (.iload 4, 2) := by decide +kernel
theorem dX12_looksAt_258 : decode cX12_looksAt 258 = .ok (.iaload, 1) := by decide +kernel
theorem dX12_looksAt_259 : decode cX12_looksAt 259 = .ok (.aload_n 0, 1) := by decide +kernel
theorem dX12_looksAt_260 : decode cX12_looksAt 260 = .ok (.getfield 107, 3) := by decide +kernel
theorem dX12_looksAt_263 : decode cX12_looksAt 263 = .ok (.iload 4, 2) := by decide +kernel
theorem dX12_looksAt_265 : decode cX12_looksAt 265 = .ok (.iaload, 1) := by decide +kernel
theorem dX12_looksAt_266 : decode cX12_looksAt 266 = .ok (.if_icmp .ne 6, 3) := by decide +kernel
theorem dX12_looksAt_269 : decode cX12_looksAt 269 = .ok (.goto 29, 3) := by decide +kernel
theorem dX12_looksAt_272 : decode cX12_looksAt 272 = .ok (.aload_n 0, 1) := by decide +kernel
theorem dX12_looksAt_273 : decode cX12_looksAt 273 = .ok (.getfield 104, 3) := by decide +kernel
theorem dX12_looksAt_276 : decode cX12_looksAt 276 = .ok (.iload 4, 2) := by decide +kernel
theorem dX12_looksAt_278 : decode cX12_looksAt 278 = .ok (.iaload, 1) := by decide +kernel
theorem dX12_looksAt_279 : decode cX12_looksAt 279 = .ok (.aload_n 0, 1) := by decide +kernel
theorem dX12_looksAt_280 : decode cX12_looksAt 280 = .ok (.getfield 107, 3) := by decide +kernel
theorem dX12_looksAt_283 : decode cX12_looksAt 283 = .ok (.iload 4, 2) := by decide +kernel
theorem dX12_looksAt_285 : decode cX12_looksAt 285 = .ok (.iaload, 1) := by decide +kernel
theorem dX12_looksAt_286 : decode cX12_looksAt 286 = .ok (.if_icmp .ge 7, 3) := by decide +kernel
theorem dX12_looksAt_289 : decode cX12_looksAt 289 = .ok (.iconst 1, 1) := by decide +kernel
theorem dX12_looksAt_290 : decode cX12_looksAt 290 = .ok (.goto 4, 3) := by decide +kernel
theorem dX12_looksAt_293 : decode cX12_looksAt 293 = .ok (.iconst 0, 1) := by decide +kernel
theorem dX12_looksAt_294 : decode cX12_looksAt 294 = .ok (.istore_n 3, 1) := by decide +kernel
theorem dX12_looksAt_295 : decode cX12_looksAt 295 = .ok (.goto 9, 3) := by decide +kernel
theorem dX12_looksAt_298 : decode cX12_looksAt 298 = .ok (.iinc 4 1, 3) := by decide +kernel
theorem dX12_looksAt_301 : decode cX12_looksAt 301 = .ok (.goto (-66), 3) := by decide +kernel
theorem dX12_looksAt_304 : decode cX12_looksAt 304 = .ok (.iload_n 3, 1) := by decide +kernel
theorem dX12_looksAt_305 : decode cX12_looksAt 305 = .ok (.ifCond .ne 4, 3) := by decide +kernel
theorem dX12_looksAt_308 : decode cX12_looksAt 308 = .ok (.return_, 1) := by decide +kernel
theorem dX12_looksAt_309 : decode cX12_looksAt 309 = .ok (.aload_n 0, 1) := by decide +kernel
theorem dX12_looksAt_310 : decode cX12_looksAt 310 = .ok (.iload_n 2, 1) := by decide +kernel
theorem dX12_looksAt_311 : decode cX12_looksAt 311 = .ok (.putfield 403, 3) := by decide +kernel
theorem dX12_looksAt_314 : decode cX12_looksAt 314 = .ok (.iconst 0, 1) := by decide +kernel
theorem dX12_looksAt_315 : decode cX12_looksAt 315 = .ok (.istore 4, 2) := by decide +kernel
theorem dX12_looksAt_317 : decode cX12_looksAt 317 = .ok (.iload 4, 2) := by decide +kernel
theorem dX12_looksAt_319 : decode cX12_looksAt 319 = .ok (.aload_n 0, 1) := by decide +kernel
theorem dX12_looksAt_320 : decode cX12_looksAt 320 = .ok (.getfield 391, 3) := by decide +kernel
theorem dX12_looksAt_323 : decode cX12_looksAt 323 = .ok (.if_icmp .ge 23, 3) := by decide +kernel
theorem dX12_looksAt_326 : decode cX12_looksAt 326 = .ok (.aload_n 0, 1) := by decide +kernel
theorem dX12_looksAt_327 : decode cX12_looksAt 327 = .ok (.getfield 107, 3) := by decide +kernel
theorem dX12_looksAt_330 : decode cX12_looksAt 330 = .ok (.iload 4, 2) := by decide +kernel
theorem dX12_looksAt_332 : decode cX12_looksAt 332 = .ok (.aload_n 0, 1) := by decide +kernel
theorem dX12_looksAt_333 : decode cX12_looksAt 333 = .ok (.getfield 104, 3) := by decide +kernel
theorem dX12_looksAt_336 : decode cX12_looksAt 336 = .ok (.iload 4, 2) := by decide +kernel
theorem dX12_looksAt_338 : decode cX12_looksAt 338 = .ok (.iaload, 1) := by decide +kernel
theorem dX12_looksAt_339 : decode cX12_looksAt 339 = .ok (.iastore, 1) := by decide +kernel
theorem dX12_looksAt_340 : decode cX12_looksAt 340 = .ok (.iinc 4 1, 3) := by decide +kernel
theorem dX12_looksAt_343 : decode cX12_looksAt 343 = .ok (.goto (-26), 3) := by decide +kernel
theorem dX12_looksAt_346 : decode cX12_looksAt 346 = .ok (.return_, 1) := by decide +kernel
theorem dX12_listsLetters_0 : decode cX12_listsLetters 0 = .ok (.aload_n 0, 1) := by decide +kernel
theorem dX12_listsLetters_1 : decode cX12_listsLetters 1 = .ok (.iconst 0, 1) := by decide +kernel
theorem dX12_listsLetters_2 : decode cX12_listsLetters 2 = .ok (.putfield 397, 3) := by decide +kernel
theorem dX12_listsLetters_5 : decode cX12_listsLetters 5 = .ok (.iload_n 1, 1) := by decide +kernel
theorem dX12_listsLetters_6 : decode cX12_listsLetters 6 = .ok (.iconst 1, 1) := by decide +kernel
theorem dX12_listsLetters_7 : decode cX12_listsLetters 7 = .ok (.iconst 1, 1) := by decide +kernel
theorem dX12_listsLetters_8 : decode cX12_listsLetters 8 = .ok (.aload_n 0, 1) := by decide +kernel
theorem dX12_listsLetters_9 : decode cX12_listsLetters 9 = .ok (.getfield 24, 3) := by decide +kernel
theorem dX12_listsLetters_12 : decode cX12_listsLetters 12 = .ok (.sipush 363, 3) := by decide +kernel
theorem dX12_listsLetters_15 : decode cX12_listsLetters 15 = .ok (.iaload, 1) := by decide +kernel
theorem dX12_listsLetters_16 : decode cX12_listsLetters 16 = .ok (.ishl, 1) := by decide +kernel
theorem dX12_listsLetters_17 : decode cX12_listsLetters 17 = .ok (.iconst 1, 1) := by decide +kernel
theorem dX12_listsLetters_18 : decode cX12_listsLetters 18 = .ok (.isub, 1) := by decide +kernel
theorem dX12_listsLetters_19 : decode cX12_listsLetters 19 = .ok (.invokestatic 123, 3) := by decide +kernel
theorem dX12_listsLetters_22 : decode cX12_listsLetters 22 = .ok (.ifCond .ne 5, 3) := by decide +kernel
theorem dX12_listsLetters_25 : decode cX12_listsLetters 25 = .ok (.iconst 0, 1) := by decide +kernel
theorem dX12_listsLetters_26 : decode cX12_listsLetters 26 = .ok (.ireturn, 1) := by decide +kernel
theorem dX12_listsLetters_27 : decode cX12_listsLetters 27 = .ok (.iconst 0, 1) := by decide +kernel
theorem dX12_listsLetters_28 : decode cX12_listsLetters 28 = .ok (.istore_n 2, 1) := by decide +kernel
theorem dX12_listsLetters_29 : decode cX12_listsLetters 29 = .ok (.iload_n 2, 1) := by decide +kernel
theorem dX12_listsLetters_30 : decode cX12_listsLetters 30 = .ok (.aload_n 0, 1) := by decide +kernel
theorem dX12_listsLetters_31 : decode cX12_listsLetters 31 = .ok (.getfield 24, 3) := by decide +kernel
theorem dX12_listsLetters_34 : decode cX12_listsLetters 34 = .ok (.sipush 363, 3) := by decide +kernel
theorem dX12_listsLetters_37 : decode cX12_listsLetters 37 = .ok (.iaload, 1) := by decide +kernel
theorem dX12_listsLetters_38 : decode cX12_listsLetters 38 = .ok (.if_icmp .ge 106, 3) := by decide +kernel
theorem dX12_listsLetters_41 : decode cX12_listsLetters 41 = .ok (.iload_n 1, 1) := by decide +kernel
theorem dX12_listsLetters_42 : decode cX12_listsLetters 42 = .ok (.iload_n 2, 1) := by decide +kernel
theorem dX12_listsLetters_43 : decode cX12_listsLetters 43 = .ok (.invokestatic 406, 3) := by decide +kernel
theorem dX12_listsLetters_46 : decode cX12_listsLetters 46 = .ok (.ifCond .ne 6, 3) := by decide +kernel
theorem dX12_listsLetters_49 : decode cX12_listsLetters 49 = .ok (.goto 89, 3) := by decide +kernel
theorem dX12_listsLetters_52 : decode cX12_listsLetters 52 = .ok (.aload_n 0, 1) := by decide +kernel
theorem dX12_listsLetters_53 : decode cX12_listsLetters 53 = .ok (.getfield 397, 3) := by decide +kernel
theorem dX12_listsLetters_56 : decode cX12_listsLetters 56 = .ok (.iconst 3, 1) := by decide +kernel
theorem dX12_listsLetters_57 : decode cX12_listsLetters 57 = .ok (.if_icmp .ne 5, 3) := by decide +kernel
theorem dX12_listsLetters_60 : decode cX12_listsLetters 60 = .ok (.iconst 0, 1) := by decide +kernel
theorem dX12_listsLetters_61 : decode cX12_listsLetters 61 = .ok (.ireturn, 1) := by decide +kernel
theorem dX12_listsLetters_62 : decode cX12_listsLetters 62 = .ok (.aload_n 0, 1) := by decide +kernel
theorem dX12_listsLetters_63 : decode cX12_listsLetters 63 = .ok (.getfield 397, 3) := by decide +kernel
theorem dX12_listsLetters_66 : decode cX12_listsLetters 66 = .ok (.istore_n 3, 1) := by decide +kernel
theorem dX12_listsLetters_67 : decode cX12_listsLetters 67 = .ok (.iload_n 3, 1) := by decide +kernel
theorem dX12_listsLetters_68 : decode cX12_listsLetters 68 = .ok (.ifCond .le 44, 3) := by decide +kernel
theorem dX12_listsLetters_71 : decode cX12_listsLetters 71 = .ok (.aload_n 0, 1) := by decide +kernel
theorem dX12_listsLetters_72 : decode cX12_listsLetters 72 = .ok (.getfield 92, 3) := by decide +kernel
theorem dX12_listsLetters_75 : decode cX12_listsLetters 75 = .ok (.iload_n 3, 1) := by decide +kernel
theorem dX12_listsLetters_76 : decode cX12_listsLetters 76 = .ok (.iconst 1, 1) := by decide +kernel
theorem dX12_listsLetters_77 : decode cX12_listsLetters 77 = .ok (.isub, 1) := by decide +kernel
theorem dX12_listsLetters_78 : decode cX12_listsLetters 78 = .ok (.iaload, 1) := by decide +kernel
theorem dX12_listsLetters_79 : decode cX12_listsLetters 79 = .ok (.aload_n 0, 1) := by decide +kernel
theorem dX12_listsLetters_80 : decode cX12_listsLetters 80 = .ok (.getfield 24, 3) := by decide +kernel
theorem dX12_listsLetters_83 : decode cX12_listsLetters 83 = .ok (.sipush 170, 3) := by decide +kernel
theorem dX12_listsLetters_86 : decode cX12_listsLetters 86 = .ok (.iload_n 2, 1) := by decide +kernel
theorem dX12_listsLetters_87 : decode cX12_listsLetters 87 = .ok (.iadd, 1) := by decide +kernel
theorem dX12_listsLetters_88 : decode cX12_listsLetters 88 = .ok (.iaload, 1) := by decide +kernel
theorem dX12_listsLetters_89 : decode cX12_listsLetters 89 = .ok (.if_icmp .le 23, 3) := by decide +kernel
theorem dX12_listsLetters_92 : decode cX12_listsLetters 92 = .ok (.aload_n 0, 1) := by decide +kernel
theorem dX12_listsLetters_93 : decode cX12_listsLetters 93 = .ok (.getfield 92, 3) := by decide +kernel
theorem dX12_listsLetters_96 : decode cX12_listsLetters 96 = .ok (.iload_n 3, 1) := by decide +kernel
theorem dX12_listsLetters_97 : decode cX12_listsLetters 97 = .ok (.aload_n 0, 1) := by decide +kernel
theorem dX12_listsLetters_98 : decode cX12_listsLetters 98 = .ok (.getfield 92, 3) := by decide +kernel
theorem dX12_listsLetters_101 : decode cX12_listsLetters 101 = .ok (.iload_n 3, 1) := by decide +kernel
theorem dX12_listsLetters_102 : decode cX12_listsLetters 102 = .ok (.iconst 1, 1) := by decide +kernel
theorem dX12_listsLetters_103 : decode cX12_listsLetters 103 = .ok (.isub, 1) := by decide +kernel
theorem dX12_listsLetters_104 : decode cX12_listsLetters 104 = .ok (.iaload, 1) := by decide +kernel
theorem dX12_listsLetters_105 : decode cX12_listsLetters 105 = .ok (.iastore, 1) := by decide +kernel
theorem dX12_listsLetters_106 : decode cX12_listsLetters 106 = .ok (.iinc 3 (-1), 3) := by decide +kernel
theorem dX12_listsLetters_109 : decode cX12_listsLetters 109 = .ok (.goto (-42), 3) := by decide +kernel
theorem dX12_listsLetters_112 : decode cX12_listsLetters 112 = .ok (.aload_n 0, 1) := by decide +kernel
theorem dX12_listsLetters_113 : decode cX12_listsLetters 113 = .ok (.getfield 92, 3) := by decide +kernel
theorem dX12_listsLetters_116 : decode cX12_listsLetters 116 = .ok (.iload_n 3, 1) := by decide +kernel
theorem dX12_listsLetters_117 : decode cX12_listsLetters 117 = .ok (.aload_n 0, 1) := by decide +kernel
theorem dX12_listsLetters_118 : decode cX12_listsLetters 118 = .ok (.getfield 24, 3) := by decide +kernel
theorem dX12_listsLetters_121 : decode cX12_listsLetters 121 = .ok (.sipush 170, 3) := by decide +kernel
theorem dX12_listsLetters_124 : decode cX12_listsLetters 124 = .ok (.iload_n 2, 1) := by decide +kernel
theorem dX12_listsLetters_125 : decode cX12_listsLetters 125 = .ok (.iadd, 1) := by decide +kernel
theorem dX12_listsLetters_126 : decode cX12_listsLetters 126 = .ok (.iaload, 1) := by decide +kernel
theorem dX12_listsLetters_127 : decode cX12_listsLetters 127 = .ok (.iastore, 1) := by decide +kernel
theorem dX12_listsLetters_128 : decode cX12_listsLetters 128 = .ok (.aload_n 0, 1) := by decide +kernel
theorem dX12_listsLetters_129 : decode cX12_listsLetters 129 = .ok (.dup, 1) := by decide +kernel
theorem dX12_listsLetters_130 : decode cX12_listsLetters 130 = .ok (.getfield 397, 3) := by decide +kernel
theorem dX12_listsLetters_133 : decode cX12_listsLetters 133 = .ok (.iconst 1, 1) := by decide +kernel
theorem dX12_listsLetters_134 : decode cX12_listsLetters 134 = .ok (.iadd, 1) := by decide +kernel
theorem dX12_listsLetters_135 : decode cX12_listsLetters 135 = .ok (.putfield 397, 3) := by decide +kernel
theorem dX12_listsLetters_138 : decode cX12_listsLetters 138 = .ok (.iinc 2 1, 3) := by decide +kernel
theorem dX12_listsLetters_141 : decode cX12_listsLetters 141 = .ok (.goto (-112), 3) := by decide +kernel
theorem dX12_listsLetters_144 : decode cX12_listsLetters 144 = .ok (.aload_n 0, 1) := by decide +kernel
theorem dX12_listsLetters_145 : decode cX12_listsLetters 145 = .ok (.getfield 397, 3) := by decide +kernel
theorem dX12_listsLetters_148 : decode cX12_listsLetters 148 = .ok (.iconst 1, 1) := by decide +kernel
theorem dX12_listsLetters_149 : decode cX12_listsLetters 149 = .ok (.if_icmp .le 7, 3) := by decide +kernel
theorem dX12_listsLetters_152 : decode cX12_listsLetters 152 = .ok (.iconst 1, 1) := by decide +kernel
theorem dX12_listsLetters_153 : decode cX12_listsLetters 153 = .ok (.goto 4, 3) := by decide +kernel
theorem dX12_listsLetters_156 : decode cX12_listsLetters 156 = .ok (.iconst 0, 1) := by decide +kernel
theorem dX12_listsLetters_157 : decode cX12_listsLetters 157 = .ok (.ireturn, 1) := by decide +kernel
theorem dX12_code_0 : decode cX12_code 0 = .ok (.aload_n 0, 1) := by decide +kernel
theorem dX12_code_1 : decode cX12_code 1 = .ok (.iload_n 1, 1) := by decide +kernel
theorem dX12_code_2 : decode cX12_code 2 = .ok (.invokevirtual 409, 3) := by decide +kernel
theorem dX12_code_5 : decode cX12_code 5 = .ok (.ifCond .eq 13, 3) := by decide +kernel
theorem dX12_code_8 : decode cX12_code 8 = .ok (.iload_n 2, 1) := by decide +kernel
theorem dX12_code_9 : decode cX12_code 9 = .ok (.iconst 0, 1) := by decide +kernel
theorem dX12_code_10 : decode cX12_code 10 = .ok (.bipush 8, 2) := by decide +kernel
theorem dX12_code_12 : decode cX12_code 12 = .ok (.invokestatic 123, 3) := by decide +kernel
theorem dX12_code_15 : decode cX12_code 15 = .ok (.ifCond .ne 5, 3) := by decide +kernel
theorem dX12_code_18 : decode cX12_code 18 = .ok (.iconst (-1), 1) := by decide +kernel
theorem dX12_code_19 : decode cX12_code 19 = .ok (.ireturn, 1) := by decide +kernel
theorem dX12_code_20 : decode cX12_code 20 = .ok (.aload_n 0, 1) := by decide +kernel
theorem dX12_code_21 : decode cX12_code 21 = .ok (.iconst 0, 1) := by decide +kernel
theorem dX12_code_22 : decode cX12_code 22 = .ok (.putfield 391, 3) := by decide +kernel
theorem dX12_code_25 : decode cX12_code 25 = .ok (.iconst 0, 1) := by decide +kernel
theorem dX12_code_26 : decode cX12_code 26 = .ok (.istore_n 3, 1) := by decide +kernel
theorem dX12_code_27 : decode cX12_code 27 = .ok (.iload_n 3, 1) := by decide +kernel
theorem dX12_code_28 : decode cX12_code 28 = .ok (.bipush 8, 2) := by decide +kernel
theorem dX12_code_30 : decode cX12_code 30 = .ok (.if_icmp .ge 56, 3) := by decide +kernel
theorem dX12_code_33 : decode cX12_code 33 = .ok (.aload_n 0, 1) := by decide +kernel
theorem dX12_code_34 : decode cX12_code 34 = .ok (.getfield 24, 3) := by decide +kernel
theorem dX12_code_37 : decode cX12_code 37 = .ok (.sipush 308, 3) := by decide +kernel
theorem dX12_code_40 : decode cX12_code 40 = .ok (.iload_n 3, 1) := by decide +kernel
