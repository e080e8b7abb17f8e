/-! decode rows -/
theorem dX0_init_0 : decode cX0_init 0 = .ok (.aload_n 0, 1) := by decide +kernel
theorem dX0_init_1 : decode cX0_init 1 = .ok (.invokespecial 3, 3) := by decide +kernel
theorem dX0_init_4 : decode cX0_init 4 = .ok (.aload_n 0, 1) := by decide +kernel
theorem dX0_init_5 : decode cX0_init 5 = .ok (.new 9, 3) := by decide +kernel
theorem dX0_init_8 : decode cX0_init 8 = .ok (.dup, 1) := by decide +kernel
theorem dX0_init_9 : decode cX0_init 9 = .ok (.bipush 10, 2) := by decide +kernel
theorem dX0_init_11 : decode cX0_init 11 = .ok (.iconst 1, 1) := by decide +kernel
theorem dX0_init_12 : decode cX0_init 12 = .ok (.invokespecial 11, 3) := by decide +kernel
theorem dX0_init_15 : decode cX0_init 15 = .ok (.putfield 14, 3) := by decide +kernel
theorem dX0_init_18 : decode cX0_init 18 = .ok (.aload_n 0, 1) := by decide +kernel
theorem dX0_init_19 : decode cX0_init 19 = .ok (.new 9, 3) := by decide +kernel
theorem dX0_init_22 : decode cX0_init 22 = .ok (.dup, 1) := by decide +kernel
theorem dX0_init_23 : decode cX0_init 23 = .ok (.bipush 16, 2) := by decide +kernel
theorem dX0_init_25 : decode cX0_init 25 = .ok (.iconst 4, 1) := by decide +kernel
theorem dX0_init_26 : decode cX0_init 26 = .ok (.invokespecial 11, 3) := by decide +kernel
theorem dX0_init_29 : decode cX0_init 29 = .ok (.putfield 20, 3) := by decide +kernel
theorem dX0_init_32 : decode cX0_init 32 = .ok (.aload_n 0, 1) := by decide +kernel
theorem dX0_init_33 : decode cX0_init 33 = .ok (.new 9, 3) := by decide +kernel
theorem dX0_init_36 : decode cX0_init 36 = .ok (.dup, 1) := by decide +kernel
theorem dX0_init_37 : decode cX0_init 37 = .ok (.bipush 6, 2) := by decide +kernel
theorem dX0_init_39 : decode cX0_init 39 = .ok (.iconst 1, 1) := by decide +kernel
theorem dX0_init_40 : decode cX0_init 40 = .ok (.invokespecial 11, 3) := by decide +kernel
theorem dX0_init_43 : decode cX0_init 43 = .ok (.putfield 23, 3) := by decide +kernel
theorem dX0_init_46 : decode cX0_init 46 = .ok (.aload_n 0, 1) := by decide +kernel
theorem dX0_init_47 : decode cX0_init 47 = .ok (.new 9, 3) := by decide +kernel
theorem dX0_init_50 : decode cX0_init 50 = .ok (.dup, 1) := by decide +kernel
theorem dX0_init_51 : decode cX0_init 51 = .ok (.bipush 10, 2) := by decide +kernel
theorem dX0_init_53 : decode cX0_init 53 = .ok (.iconst 2, 1) := by decide +kernel
theorem dX0_init_54 : decode cX0_init 54 = .ok (.invokespecial 11, 3) := by decide +kernel
theorem dX0_init_57 : decode cX0_init 57 = .ok (.putfield 26, 3) := by decide +kernel
theorem dX0_init_60 : decode cX0_init 60 = .ok (.aload_n 0, 1) := by decide +kernel
theorem dX0_init_61 : decode cX0_init 61 = .ok (.new 9, 3) := by decide +kernel
theorem dX0_init_64 : decode cX0_init 64 = .ok (.dup, 1) := by decide +kernel
theorem dX0_init_65 : decode cX0_init 65 = .ok (.bipush 6, 2) := by decide +kernel
theorem dX0_init_67 : decode cX0_init 67 = .ok (.iconst 3, 1) := by decide +kernel
theorem dX0_init_68 : decode cX0_init 68 = .ok (.invokespecial 11, 3) := by decide +kernel
theorem dX0_init_71 : decode cX0_init 71 = .ok (.putfield 29, 3) := by decide +kernel
theorem dX0_init_74 : decode cX0_init 74 = .ok (.aload_n 0, 1) := by decide +kernel
theorem dX0_init_75 : decode cX0_init 75 = .ok (.new 32, 3) := by decide +kernel
theorem dX0_init_78 : decode cX0_init 78 = .ok (.dup, 1) := by decide +kernel
theorem dX0_init_79 : decode cX0_init 79 = .ok (.invokespecial 34, 3) := by decide +kernel
theorem dX0_init_82 : decode cX0_init 82 = .ok (.putfield 35, 3) := by decide +kernel
theorem dX0_init_85 : decode cX0_init 85 = .ok (.aload_n 0, 1) := by decide +kernel
theorem dX0_init_86 : decode cX0_init 86 = .ok (.bipush 8, 2) := by decide +kernel
theorem dX0_init_88 : decode cX0_init 88 = .ok (.newarray .int, 2) := by decide +kernel
theorem dX0_init_90 : decode cX0_init 90 = .ok (.putfield 39, 3) := by decide +kernel
theorem dX0_init_93 : decode cX0_init 93 = .ok (.aload_n 0, 1) := by decide +kernel
theorem dX0_init_94 : decode cX0_init 94 = .ok (.bipush 8, 2) := by decide +kernel
theorem dX0_init_96 : decode cX0_init 96 = .ok (.newarray .int, 2) := by decide +kernel
theorem dX0_init_98 : decode cX0_init 98 = .ok (.putfield 43, 3) := by decide +kernel
theorem dX0_init_101 : decode cX0_init 101 = .ok (.aload_n 0, 1) := by decide +kernel
theorem dX0_init_102 : decode cX0_init 102 = .ok (.iconst 4, 1) := by decide +kernel
theorem dX0_init_103 : decode cX0_init 103 = .ok (.newarray .int, 2) := by decide +kernel
theorem dX0_init_105 : decode cX0_init 105 = .ok (.dup, 1) := by decide +kernel
theorem dX0_init_106 : decode cX0_init 106 = .ok (.iconst 0, 1) := by decide +kernel
theorem dX0_init_107 : decode cX0_init 107 = .ok (.iconst 0, 1) := by decide +kernel
theorem dX0_init_108 : decode cX0_init 108 = .ok (.iastore, 1) := by decide +kernel
theorem dX0_init_109 : decode cX0_init 109 = .ok (.dup, 1) := by decide +kernel
theorem dX0_init_110 : decode cX0_init 110 = .ok (.iconst 1, 1) := by decide +kernel
theorem dX0_init_111 : decode cX0_init 111 = .ok (.iconst 1, 1) := by decide +kernel
theorem dX0_init_112 : decode cX0_init 112 = .ok (.iastore, 1) := by decide +kernel
theorem dX0_init_113 : decode cX0_init 113 = .ok (.dup, 1) := by decide +kernel
theorem dX0_init_114 : decode cX0_init 114 = .ok (.iconst 2, 1) := by decide +kernel
theorem dX0_init_115 : decode cX0_init 115 = .ok (.iconst 3, 1) := by decide +kernel
theorem dX0_init_116 : decode cX0_init 116 = .ok (.iastore, 1) := by decide +kernel
theorem dX0_init_117 : decode cX0_init 117 = .ok (.dup, 1) := by decide +kernel
theorem dX0_init_118 : decode cX0_init 118 = .ok (.iconst 3, 1) := by decide +kernel
theorem dX0_init_119 : decode cX0_init 119 = .ok (.iconst 0, 1) := by decide +kernel
theorem dX0_init_120 : decode cX0_init 120 = .ok (.iastore, 1) := by decide +kernel
theorem dX0_init_121 : decode cX0_init 121 = .ok (.putfield 46, 3) := by decide +kernel
theorem dX0_init_124 : decode cX0_init 124 = .ok (.aload_n 0, 1) := by decide +kernel
theorem dX0_init_125 : decode cX0_init 125 = .ok (.bipush 6, 2) := by decide +kernel
theorem dX0_init_127 : decode cX0_init 127 = .ok (.anewarray 49, 3) := by decide +kernel
theorem dX0_init_130 : decode cX0_init 130 = .ok (.dup, 1) := by decide +kernel
theorem dX0_init_131 : decode cX0_init 131 = .ok (.iconst 0, 1) := by decide +kernel
theorem dX0_init_132 : decode cX0_init 132 = .ok (.new 49, 3) := by decide +kernel
theorem dX0_init_135 : decode cX0_init 135 = .ok (.dup, 1) := by decide +kernel
theorem dX0_init_136 : decode cX0_init 136 = .ok (.invokespecial 51, 3) := by decide +kernel
theorem dX0_init_139 : decode cX0_init 139 = .ok (.aastore, 1) := by decide +kernel
theorem dX0_init_140 : decode cX0_init 140 = .ok (.dup, 1) := by decide +kernel
theorem dX0_init_141 : decode cX0_init 141 = .ok (.iconst 1, 1) := by decide +kernel
theorem dX0_init_142 : decode cX0_init 142 = .ok (.new 49, 3) := by decide +kernel
theorem dX0_init_145 : decode cX0_init 145 = .ok (.dup, 1) := by decide +kernel
theorem dX0_init_146 : decode cX0_init 146 = .ok (.invokespecial 51, 3) := by decide +kernel
theorem dX0_init_149 : decode cX0_init 149 = .ok (.aastore, 1) := by decide +kernel
theorem dX0_init_150 : decode cX0_init 150 = .ok (.dup, 1) := by decide +kernel
theorem dX0_init_151 : decode cX0_init 151 = .ok (.iconst 2, 1) := by decide +kernel
theorem dX0_init_152 : decode cX0_init 152 = .ok (.new 49, 3) := by decide +kernel
theorem dX0_init_155 : decode cX0_init 155 = .ok (.dup, 1) := by decide +kernel
theorem dX0_init_156 : decode cX0_init 156 = .ok (.invokespecial 51, 3) := by decide +kernel
theorem dX0_init_159 : decode cX0_init 159 = .ok (.aastore, 1) := by decide +kernel
theorem dX0_init_160 : decode cX0_init 160 = .ok (.dup, 1) := by decide +kernel
theorem dX0_init_161 : decode cX0_init 161 = .ok (.iconst 3, 1) := by decide +kernel
theorem dX0_init_162 : decode cX0_init 162 = .ok (.new 49, 3) := by decide +kernel
theorem dX0_init_165 : decode cX0_init 165 = .ok (.dup, 1) := by decide +kernel
theorem dX0_init_166 : decode cX0_init 166 = .ok (.invokespecial 51, 3) := by decide +kernel
theorem dX0_init_169 : decode cX0_init 169 = .ok (.aastore, 1) := by decide +kernel
theorem dX0_init_170 : decode cX0_init 170 = .ok (.dup, 1) := by decide +kernel
theorem dX0_init_171 : decode cX0_init 171 = .ok (.iconst 4, 1) := by decide +kernel
theorem dX0_init_172 : decode cX0_init 172 = .ok (.new 49, 3) := by decide +kernel
theorem dX0_init_175 : decode cX0_init 175 = .ok (.dup, 1) := by decide +kernel
theorem dX0_init_176 : decode cX0_init 176 = .ok (.invokespecial 51, 3) := by decide +kernel
theorem dX0_init_179 : decode cX0_init 179 = .ok (.aastore, 1) := by decide +kernel
theorem dX0_init_180 : decode cX0_init 180 = .ok (.dup, 1) := by decide +kernel
theorem dX0_init_181 : decode cX0_init 181 = .ok (.iconst 5, 1) := by decide +kernel
theorem dX0_init_182 : decode cX0_init 182 = .ok (.new 49, 3) := by decide +kernel
theorem dX0_init_185 : decode cX0_init 185 = .ok (.dup, 1) := by decide +kernel
theorem dX0_init_186 : decode cX0_init 186 = .ok (.invokespecial 51, 3) := by decide +kernel
theorem dX0_init_189 : decode cX0_init 189 = .ok (.aastore, 1) := by decide +kernel
theorem dX0_init_190 : decode cX0_init 190 = .ok (.putfield 52, 3) := by decide +kernel
theorem dX0_init_193 : decode cX0_init 193 = .ok (.aload_n 0, 1) := by decide +kernel
theorem dX0_init_194 : decode cX0_init 194 = .ok (.iconst (-1), 1) := by decide +kernel
theorem dX0_init_195 : decode cX0_init 195 = .ok (.putfield 56, 3) := by decide +kernel
theorem dX0_init_198 : decode cX0_init 198 = .ok (.return_, 1) := by decide +kernel
theorem dX0_term_0 : decode cX0_term 0 = .ok (.iload_n 1, 1) := by decide +kernel
theorem dX0_term_1 : decode cX0_term 1 = .ok (.ifCond .ne 11, 3) := by decide +kernel
theorem dX0_term_4 : decode cX0_term 4 = .ok (.aload_n 0, 1) := by decide +kernel
theorem dX0_term_5 : decode cX0_term 5 = .ok (.getfield 35, 3) := by decide +kernel
theorem dX0_term_8 : decode cX0_term 8 = .ok (.getfield 60, 3) := by decide +kernel
theorem dX0_term_11 : decode cX0_term 11 = .ok (.ireturn, 1) := by decide +kernel
theorem dX0_term_12 : decode cX0_term 12 = .ok (.iload_n 1, 1) := by decide +kernel
theorem dX0_term_13 : decode cX0_term 13 = .ok (.ifCond .le 21, 3) := by decide +kernel
theorem dX0_term_16 : decode cX0_term 16 = .ok (.iload_n 1, 1) := by decide +kernel
theorem dX0_term_17 : decode cX0_term 17 = .ok (.aload_n 0, 1) := by decide +kernel
theorem dX0_term_18 : decode cX0_term 18 = .ok (.getfield 46, 3) := by decide +kernel
theorem dX0_term_21 : decode cX0_term 21 = .ok (.arraylength, 1) := by decide +kernel
theorem dX0_term_22 : decode cX0_term 22 = .ok (.if_icmp .ge 12, 3) := by decide +kernel
theorem dX0_term_25 : decode cX0_term 25 = .ok (.aload_n 0, 1) := by decide +kernel
theorem dX0_term_26 : decode cX0_term 26 = .ok (.getfield 46, 3) := by decide +kernel
theorem dX0_term_29 : decode cX0_term 29 = .ok (.iload_n 1, 1) := by decide +kernel
theorem dX0_term_30 : decode cX0_term 30 = .ok (.iaload, 1) := by decide +kernel
theorem dX0_term_31 : decode cX0_term 31 = .ok (.goto 4, 3) := by decide +kernel
theorem dX0_term_34 : decode cX0_term 34 = .ok (.iconst (-1), 1) := by decide +kernel
theorem dX0_term_35 : decode cX0_term 35 = .ok (.ireturn, 1) := by decide +kernel
theorem dX0_setTerm_0 : decode cX0_setTerm 0 = .ok (.iload_n 1, 1) := by decide +kernel
theorem dX0_setTerm_1 : decode cX0_setTerm 1 = .ok (.ifCond .ne 14, 3) := by decide +kernel
theorem dX0_setTerm_4 : decode cX0_setTerm 4 = .ok (.aload_n 0, 1) := by decide +kernel
theorem dX0_setTerm_5 : decode cX0_setTerm 5 = .ok (.getfield 35, 3) := by decide +kernel
theorem dX0_setTerm_8 : decode cX0_setTerm 8 = .ok (.iload_n 2, 1) := by decide +kernel
theorem dX0_setTerm_9 : decode cX0_setTerm 9 = .ok (.putfield 60, 3) := by decide +kernel
theorem dX0_setTerm_12 : decode cX0_setTerm 12 = .ok (.goto 23, 3) := by decide +kernel
theorem dX0_setTerm_15 : decode cX0_setTerm 15 = .ok (.iload_n 1, 1) := by decide +kernel
theorem dX0_setTerm_16 : decode cX0_setTerm 16 = .ok (.ifCond .le 19, 3) := by decide +kernel
theorem dX0_setTerm_19 : decode cX0_setTerm 19 = .ok (.iload_n 1, 1) := by decide +kernel
theorem dX0_setTerm_20 : decode cX0_setTerm 20 = .ok (.aload_n 0, 1) := by decide +kernel
theorem dX0_setTerm_21 : decode cX0_setTerm 21 = .ok (.getfield 46, 3) := by decide +kernel
theorem dX0_setTerm_24 : decode cX0_setTerm 24 = .ok (.arraylength, 1) := by decide +kernel
theorem dX0_setTerm_25 : decode cX0_setTerm 25 = .ok (.if_icmp .ge 10, 3) := by decide +kernel
theorem dX0_setTerm_28 : decode cX0_setTerm 28 = .ok (.aload_n 0, 1) := by decide +kernel
theorem dX0_setTerm_29 : decode cX0_setTerm 29 = .ok (.getfield 46, 3) := by decide +kernel
theorem dX0_setTerm_32 : decode cX0_setTerm 32 = .ok (.iload_n 1, 1) := by decide +kernel
theorem dX0_setTerm_33 : decode cX0_setTerm 33 = .ok (.iload_n 2, 1) := by decide +kernel
theorem dX0_setTerm_34 : decode cX0_setTerm 34 = .ok (.iastore, 1) := by decide +kernel
theorem dX0_setTerm_35 : decode cX0_setTerm 35 = .ok (.return_, 1) := by decide +kernel
theorem dX0_setClash_0 : decode cX0_setClash 0 = .ok (.iload_n 1, 1) := by decide +kernel
theorem dX0_setClash_1 : decode cX0_setClash 1 = .ok (.invokestatic 63, 3) := by decide +kernel
theorem dX0_setClash_4 : decode cX0_setClash 4 = .ok (.ifCond .eq 10, 3) := by decide +kernel
theorem dX0_setClash_7 : decode cX0_setClash 7 = .ok (.iload_n 2, 1) := by decide +kernel
theorem dX0_setClash_8 : decode cX0_setClash 8 = .ok (.invokestatic 63, 3) := by decide +kernel
theorem dX0_setClash_11 : decode cX0_setClash 11 = .ok (.ifCond .ne 5, 3) := by decide +kernel
theorem dX0_setClash_14 : decode cX0_setClash 14 = .ok (.iconst (-1), 1) := by decide +kernel
theorem dX0_setClash_15 : decode cX0_setClash 15 = .ok (.ireturn, 1) := by decide +kernel
theorem dX0_setClash_16 : decode cX0_setClash 16 = .ok (.aload_n 0, 1) := by decide +kernel
theorem dX0_setClash_17 : decode cX0_setClash 17 = .ok (.getfield 39, 3) := by decide +kernel
theorem dX0_setClash_20 : decode cX0_setClash 20 = .ok (.iload_n 1, 1) := by decide +kernel
theorem dX0_setClash_21 : decode cX0_setClash 21 = .ok (.iaload, 1) := by decide +kernel
theorem dX0_setClash_22 : decode cX0_setClash 22 = .ok (.iload_n 2, 1) := by decide +kernel
theorem dX0_setClash_23 : decode cX0_setClash 23 = .ok (.ishr, 1) := by decide +kernel
theorem dX0_setClash_24 : decode cX0_setClash 24 = .ok (.iconst 1, 1) := by decide +kernel
theorem dX0_setClash_25 : decode cX0_setClash 25 = .ok (.iand, 1) := by decide +kernel
theorem dX0_setClash_26 : decode cX0_setClash 26 = .ok (.istore 4, 2) := by decide +kernel
theorem dX0_setClash_28 : decode cX0_setClash 28 = .ok (.iload 4, 2) := by decide +kernel
theorem dX0_setClash_30 : decode cX0_setClash 30 = .ok (.iload_n 3, 1) := by decide +kernel
theorem dX0_setClash_31 : decode cX0_setClash 31 = .ok (.if_icmp .eq 27, 3) := by decide +kernel
theorem dX0_setClash_34 : decode cX0_setClash 34 = .ok (.aload_n 0, 1) := by decide +kernel
theorem dX0_setClash_35 : decode cX0_setClash 35 = .ok (.getfield 39, 3) := by decide +kernel
theorem dX0_setClash_38 : decode cX0_setClash 38 = .ok (.iload_n 1, 1) := by decide +kernel
theorem dX0_setClash_39 : decode cX0_setClash 39 = .ok (.dup2, 1) := by decide +kernel
theorem dX0_setClash_40 : decode cX0_setClash 40 = .ok (.iaload, 1) := by decide +kernel
theorem dX0_setClash_41 : decode cX0_setClash 41 = .ok (.iconst 1, 1) := by decide +kernel
theorem dX0_setClash_42 : decode cX0_setClash 42 = .ok (.iload_n 2, 1) := by decide +kernel
theorem dX0_setClash_43 : decode cX0_setClash 43 = .ok (.ishl, 1) := by decide +kernel
theorem dX0_setClash_44 : decode cX0_setClash 44 = .ok (.ixor, 1) := by decide +kernel
theorem dX0_setClash_45 : decode cX0_setClash 45 = .ok (.iastore, 1) := by decide +kernel
theorem dX0_setClash_46 : decode cX0_setClash 46 = .ok (.aload_n 0, 1) := by decide +kernel
theorem dX0_setClash_47 : decode cX0_setClash 47 = .ok (.getfield 39, 3) := by decide +kernel
theorem dX0_setClash_50 : decode cX0_setClash 50 = .ok (.iload_n 2, 1) := by decide +kernel
theorem dX0_setClash_51 : decode cX0_setClash 51 = .ok (.dup2, 1) := by decide +kernel
theorem dX0_setClash_52 : decode cX0_setClash 52 = .ok (.iaload, 1) := by decide +kernel
theorem dX0_setClash_53 : decode cX0_setClash 53 = .ok (.iconst 1, 1) := by decide +kernel
theorem dX0_setClash_54 : decode cX0_setClash 54 = .ok (.iload_n 1, 1) := by decide +kernel
theorem dX0_setClash_55 : decode cX0_setClash 55 = .ok (.ishl, 1) := by decide +kernel
theorem dX0_setClash_56 : decode cX0_setClash 56 = .ok (.ixor, 1) := by decide +kernel
theorem dX0_setClash_57 : decode cX0_setClash 57 = .ok (.iastore, 1) := by decide +kernel
theorem dX0_setClash_58 : decode cX0_setClash 58 = .ok (.iload 4, 2) := by decide +kernel
theorem dX0_setClash_60 : decode cX0_setClash 60 = .ok (.ireturn, 1) := by decide +kernel
theorem dX0_keptOffBy_0 : decode cX0_keptOffBy 0 = .ok (.iload_n 1, 1) := by decide +kernel
theorem dX0_keptOffBy_1 : decode cX0_keptOffBy 1 = .ok (.invokestatic 63, 3) := by decide +kernel
theorem dX0_keptOffBy_4 : decode cX0_keptOffBy 4 = .ok (.ifCond .eq 16, 3) := by decide +kernel
theorem dX0_keptOffBy_7 : decode cX0_keptOffBy 7 = .ok (.aload_n 0, 1) := by decide +kernel
theorem dX0_keptOffBy_8 : decode cX0_keptOffBy 8 = .ok (.getfield 39, 3) := by decide +kernel
theorem dX0_keptOffBy_11 : decode cX0_keptOffBy 11 = .ok (.iload_n 1, 1) := by decide +kernel
theorem dX0_keptOffBy_12 : decode cX0_keptOffBy 12 = .ok (.iaload, 1) := by decide +kernel
theorem dX0_keptOffBy_13 : decode cX0_keptOffBy 13 = .ok (.iconst 1, 1) := by decide +kernel
theorem dX0_keptOffBy_14 : decode cX0_keptOffBy 14 = .ok (.iload_n 1, 1) := by decide +kernel
theorem dX0_keptOffBy_15 : decode cX0_keptOffBy 15 = .ok (.ishl, 1) := by decide +kernel
theorem dX0_keptOffBy_16 : decode cX0_keptOffBy 16 = .ok (.ior, 1) := by decide +kernel
theorem dX0_keptOffBy_17 : decode cX0_keptOffBy 17 = .ok (.goto 4, 3) := by decide +kernel
theorem dX0_keptOffBy_20 : decode cX0_keptOffBy 20 = .ok (.iconst 0, 1) := by decide +kernel
theorem dX0_keptOffBy_21 : decode cX0_keptOffBy 21 = .ok (.ireturn, 1) := by decide +kernel
theorem dX0_addLaw_0 : decode cX0_addLaw 0 = .ok (.aload_n 0, 1) := by decide +kernel
theorem dX0_addLaw_1 : decode cX0_addLaw 1 = .ok (.getfield 67, 3) := by decide +kernel
theorem dX0_addLaw_4 : decode cX0_addLaw 4 = .ok (.aload_n 0, 1) := by decide +kernel
theorem dX0_addLaw_5 : decode cX0_addLaw 5 = .ok (.getfield 52, 3) := by decide +kernel
theorem dX0_addLaw_8 : decode cX0_addLaw 8 = .ok (.arraylength, 1) := by decide +kernel
theorem dX0_addLaw_9 : decode cX0_addLaw 9 = .ok (.if_icmp .lt 5, 3) := by decide +kernel
theorem dX0_addLaw_12 : decode cX0_addLaw 12 = .ok (.iconst (-1), 1) := by decide +kernel
theorem dX0_addLaw_13 : decode cX0_addLaw 13 = .ok (.ireturn, 1) := by decide +kernel
theorem dX0_addLaw_14 : decode cX0_addLaw 14 = .ok (.aload_n 0, 1) := by decide +kernel
theorem dX0_addLaw_15 : decode cX0_addLaw 15 = .ok (.getfield 52, 3) := by decide +kernel
theorem dX0_addLaw_18 : decode cX0_addLaw 18 = .ok (.aload_n 0, 1) := by decide +kernel
theorem dX0_addLaw_19 : decode cX0_addLaw 19 = .ok (.getfield 67, 3) := by decide +kernel
theorem dX0_addLaw_22 : decode cX0_addLaw 22 = .ok (.aaload, 1) := by decide +kernel
theorem dX0_addLaw_23 : decode cX0_addLaw 23 = .ok (.aload_n 1, 1) := by decide +kernel
theorem dX0_addLaw_24 : decode cX0_addLaw 24 = .ok (.invokevirtual 70, 3) := by decide +kernel
theorem dX0_addLaw_27 : decode cX0_addLaw 27 = .ok (.aload_n 0, 1) := by decide +kernel
theorem dX0_addLaw_28 : decode cX0_addLaw 28 = .ok (.dup, 1) := by decide +kernel
theorem dX0_addLaw_29 : decode cX0_addLaw 29 = .ok (.getfield 67, 3) := by decide +kernel
theorem dX0_addLaw_32 : decode cX0_addLaw 32 = .ok (.iconst 1, 1) := by decide +kernel
theorem dX0_addLaw_33 : decode cX0_addLaw 33 = .ok (.iadd, 1) := by decide +kernel
theorem dX0_addLaw_34 : decode cX0_addLaw 34 = .ok (.putfield 67, 3) := by decide +kernel
theorem dX0_addLaw_37 : decode cX0_addLaw 37 = .ok (.aload_n 0, 1) := by decide +kernel
theorem dX0_addLaw_38 : decode cX0_addLaw 38 = .ok (.getfield 67, 3) := by decide +kernel
theorem dX0_addLaw_41 : decode cX0_addLaw 41 = .ok (.iconst 1, 1) := by decide +kernel
theorem dX0_addLaw_42 : decode cX0_addLaw 42 = .ok (.isub, 1) := by decide +kernel
theorem dX0_addLaw_43 : decode cX0_addLaw 43 = .ok (.ireturn, 1) := by decide +kernel
theorem dX0_ruling_0 : decode cX0_ruling 0 = .ok (.aload_n 0, 1) := by decide +kernel
theorem dX0_ruling_1 : decode cX0_ruling 1 = .ok (.getfield 56, 3) := by decide +kernel
theorem dX0_ruling_4 : decode cX0_ruling 4 = .ok (.ifCond .lt 38, 3) := by decide +kernel
theorem dX0_ruling_7 : decode cX0_ruling 7 = .ok (.aload_n 0, 1) := by decide +kernel
theorem dX0_ruling_8 : decode cX0_ruling 8 = .ok (.getfield 56, 3) := by decide +kernel
theorem dX0_ruling_11 : decode cX0_ruling 11 = .ok (.aload_n 0, 1) := by decide +kernel
theorem dX0_ruling_12 : decode cX0_ruling 12 = .ok (.getfield 67, 3) := by decide +kernel
theorem dX0_ruling_15 : decode cX0_ruling 15 = .ok (.if_icmp .ge 27, 3) := by decide +kernel
theorem dX0_ruling_18 : decode cX0_ruling 18 = .ok (.aload_n 0, 1) := by decide +kernel
theorem dX0_ruling_19 : decode cX0_ruling 19 = .ok (.getfield 56, 3) := by decide +kernel
theorem dX0_ruling_22 : decode cX0_ruling 22 = .ok (.aload_n 0, 1) := by decide +kernel
theorem dX0_ruling_23 : decode cX0_ruling 23 = .ok (.getfield 52, 3) := by decide +kernel
theorem dX0_ruling_26 : decode cX0_ruling 26 = .ok (.arraylength, 1) := by decide +kernel
theorem dX0_ruling_27 : decode cX0_ruling 27 = .ok (.if_icmp .ge 15, 3) := by decide +kernel
theorem dX0_ruling_30 : decode cX0_ruling 30 = .ok (.aload_n 0, 1) := by decide +kernel
theorem dX0_ruling_31 : decode cX0_ruling 31 = .ok (.getfield 52, 3) := by decide +kernel
theorem dX0_ruling_34 : decode cX0_ruling 34 = .ok (.aload_n 0, 1) := by decide +kernel
theorem dX0_ruling_35 : decode cX0_ruling 35 = .ok (.getfield 56, 3) := by decide +kernel
theorem dX0_ruling_38 : decode cX0_ruling 38 = .ok (.aaload, 1) := by decide +kernel
theorem dX0_ruling_39 : decode cX0_ruling 39 = .ok (.goto 4, 3) := by decide +kernel
theorem dX0_ruling_42 : decode cX0_ruling 42 = .ok (.aconst_null, 1) := by decide +kernel
theorem dX0_ruling_43 : decode cX0_ruling 43 = .ok (.areturn, 1) := by decide +kernel
theorem dX0_coverCost_0 : decode cX0_coverCost 0 = .ok (.iconst 0, 1) := by decide +kernel
theorem dX0_coverCost_1 : decode cX0_coverCost 1 = .ok (.istore_n 3, 1) := by decide +kernel
theorem dX0_coverCost_2 : decode cX0_coverCost 2 = .ok (.iconst 0, 1) := by decide +kernel
theorem dX0_coverCost_3 : decode cX0_coverCost 3 = .ok (.istore 4, 2) := by decide +kernel
theorem dX0_coverCost_5 : decode cX0_coverCost 5 = .ok (.iconst 0, 1) := by decide +kernel
theorem dX0_coverCost_6 : decode cX0_coverCost 6 = .ok (.istore 5, 2) := by decide +kernel
theorem dX0_coverCost_8 : decode cX0_coverCost 8 = .ok (.iload 5, 2) := by decide +kernel
theorem dX0_coverCost_10 : decode cX0_coverCost 10 = .ok (.aload_n 0, 1) := by decide +kernel
theorem dX0_coverCost_11 : decode cX0_coverCost 11 = .ok (.getfield 26, 3) := by decide +kernel
theorem dX0_coverCost_14 : decode cX0_coverCost 14 = .ok (.getfield 74, 3) := by decide +kernel
theorem dX0_coverCost_17 : decode cX0_coverCost 17 = .ok (.if_icmp .ge 52, 3) := by decide +kernel
theorem dX0_coverCost_20 : decode cX0_coverCost 20 = .ok (.iload_n 1, 1) := by decide +kernel
theorem dX0_coverCost_21 : decode cX0_coverCost 21 = .ok (.iload 5, 2) := by decide +kernel
theorem dX0_coverCost_23 : decode cX0_coverCost 23 = .ok (.ishr, 1) := by decide +kernel
theorem dX0_coverCost_24 : decode cX0_coverCost 24 = .ok (.iconst 1, 1) := by decide +kernel
theorem dX0_coverCost_25 : decode cX0_coverCost 25 = .ok (.iand, 1) := by decide +kernel
theorem dX0_coverCost_26 : decode cX0_coverCost 26 = .ok (.iconst 1, 1) := by decide +kernel
theorem dX0_coverCost_27 : decode cX0_coverCost 27 = .ok (.if_icmp .ne 36, 3) := by decide +kernel
theorem dX0_coverCost_30 : decode cX0_coverCost 30 = .ok (.iload_n 3, 1) := by decide +kernel
theorem dX0_coverCost_31 : decode cX0_coverCost 31 = .ok (.aload_n 0, 1) := by decide +kernel
theorem dX0_coverCost_32 : decode cX0_coverCost 32 = .ok (.getfield 26, 3) := by decide +kernel
theorem dX0_coverCost_35 : decode cX0_coverCost 35 = .ok (.iload 5, 2) := by decide +kernel
theorem dX0_coverCost_37 : decode cX0_coverCost 37 = .ok (.iconst 0, 1) := by decide +kernel
theorem dX0_coverCost_38 : decode cX0_coverCost 38 = .ok (.invokevirtual 77, 3) := by decide +kernel
theorem dX0_coverCost_41 : decode cX0_coverCost 41 = .ok (.ior, 1) := by decide +kernel
theorem dX0_coverCost_42 : decode cX0_coverCost 42 = .ok (.istore_n 3, 1) := by decide +kernel
theorem dX0_coverCost_43 : decode cX0_coverCost 43 = .ok (.iload 4, 2) := by decide +kernel
theorem dX0_coverCost_45 : decode cX0_coverCost 45 = .ok (.aload_n 0, 1) := by decide +kernel
theorem dX0_coverCost_46 : decode cX0_coverCost 46 = .ok (.getfield 26, 3) := by decide +kernel
theorem dX0_coverCost_49 : decode cX0_coverCost 49 = .ok (.iload 5, 2) := by decide +kernel
theorem dX0_coverCost_51 : decode cX0_coverCost 51 = .ok (.iconst 1, 1) := by decide +kernel
theorem dX0_coverCost_52 : decode cX0_coverCost 52 = .ok (.invokevirtual 77, 3) := by decide +kernel
theorem dX0_coverCost_55 : decode cX0_coverCost 55 = .ok (.bipush 16, 2) := by decide +kernel
theorem dX0_coverCost_57 : decode cX0_coverCost 57 = .ok (.imul, 1) := by decide +kernel
theorem dX0_coverCost_58 : decode cX0_coverCost 58 = .ok (.iconst 1, 1) := by decide +kernel
theorem dX0_coverCost_59 : decode cX0_coverCost 59 = .ok (.iadd, 1) := by decide +kernel
theorem dX0_coverCost_60 : decode cX0_coverCost 60 = .ok (.iadd, 1) := by decide +kernel
theorem dX0_coverCost_61 : decode cX0_coverCost 61 = .ok (.istore 4, 2) := by decide +kernel
theorem dX0_coverCost_63 : decode cX0_coverCost 63 = .ok (.iinc 5 1, 3) := by decide +kernel
theorem dX0_coverCost_66 : decode cX0_coverCost 66 = .ok (.goto (-58), 3) := by decide +kernel
theorem dX0_coverCost_69 : decode cX0_coverCost 69 = .ok (.iload_n 3, 1) := by decide +kernel
theorem dX0_coverCost_70 : decode cX0_coverCost 70 = .ok (.iload_n 2, 1) := by decide +kernel
theorem dX0_coverCost_71 : decode cX0_coverCost 71 = .ok (.iand, 1) := by decide +kernel
theorem dX0_coverCost_72 : decode cX0_coverCost 72 = .ok (.iload_n 2, 1) := by decide +kernel
theorem dX0_coverCost_73 : decode cX0_coverCost 73 = .ok (.if_icmp .ne 8, 3) := by decide +kernel
theorem dX0_coverCost_76 : decode cX0_coverCost 76 = .ok (.iload 4, 2) := by decide +kernel
theorem dX0_coverCost_78 : decode cX0_coverCost 78 = .ok (.goto 4, 3) := by decide +kernel
theorem dX0_coverCost_81 : decode cX0_coverCost 81 = .ok (.iconst (-1), 1) := by decide +kernel
theorem dX0_coverCost_82 : decode cX0_coverCost 82 = .ok (.ireturn, 1) := by decide +kernel
theorem dX0_farthestAnswer_0 : decode cX0_farthestAnswer 0 = .ok (.iconst 0, 1) := by decide +kernel
theorem dX0_farthestAnswer_1 : decode cX0_farthestAnswer 1 = .ok (.istore_n 1, 1) := by decide +kernel
theorem dX0_farthestAnswer_2 : decode cX0_farthestAnswer 2 = .ok (.iconst 0, 1) := by decide +kernel
theorem dX0_farthestAnswer_3 : decode cX0_farthestAnswer 3 = .ok (.istore_n 2, 1) := by decide +kernel
theorem dX0_farthestAnswer_4 : decode cX0_farthestAnswer 4 = .ok (.iload_n 2, 1) := by decide +kernel
theorem dX0_farthestAnswer_5 : decode cX0_farthestAnswer 5 = .ok (.aload_n 0, 1) := by decide +kernel
theorem dX0_farthestAnswer_6 : decode cX0_farthestAnswer 6 = .ok (.getfield 29, 3) := by decide +kernel
theorem dX0_farthestAnswer_9 : decode cX0_farthestAnswer 9 = .ok (.getfield 74, 3) := by decide +kernel
theorem dX0_farthestAnswer_12 : decode cX0_farthestAnswer 12 = .ok (.if_icmp .ge 23, 3) := by decide +kernel
theorem dX0_farthestAnswer_15 : decode cX0_farthestAnswer 15 = .ok (.iload_n 1, 1) := by decide +kernel
theorem dX0_farthestAnswer_16 : decode cX0_farthestAnswer 16 = .ok (.aload_n 0, 1) := by decide +kernel
theorem dX0_farthestAnswer_17 : decode cX0_farthestAnswer 17 = .ok (.getfield 29, 3) := by decide +kernel
theorem dX0_farthestAnswer_20 : decode cX0_farthestAnswer 20 = .ok (.iload_n 2, 1) := by decide +kernel
theorem dX0_farthestAnswer_21 : decode cX0_farthestAnswer 21 = .ok (.iconst 0, 1) := by decide +kernel
theorem dX0_farthestAnswer_22 : decode cX0_farthestAnswer 22 = .ok (.invokevirtual 77, 3) := by decide +kernel
theorem dX0_farthestAnswer_25 : decode cX0_farthestAnswer 25 = .ok (.invokestatic 81, 3) := by decide +kernel
theorem dX0_farthestAnswer_28 : decode cX0_farthestAnswer 28 = .ok (.istore_n 1, 1) := by decide +kernel
theorem dX0_farthestAnswer_29 : decode cX0_farthestAnswer 29 = .ok (.iinc 2 1, 3) := by decide +kernel
theorem dX0_farthestAnswer_32 : decode cX0_farthestAnswer 32 = .ok (.goto (-28), 3) := by decide +kernel
theorem dX0_farthestAnswer_35 : decode cX0_farthestAnswer 35 = .ok (.iload_n 1, 1) := by decide +kernel
theorem dX0_farthestAnswer_36 : decode cX0_farthestAnswer 36 = .ok (.ireturn, 1) := by decide +kernel
theorem dX0_answersAre_0 : decode cX0_answersAre 0 = .ok (.iconst 0, 1) := by decide +kernel
theorem dX0_answersAre_1 : decode cX0_answersAre 1 = .ok (.istore_n 3, 1) := by decide +kernel
theorem dX0_answersAre_2 : decode cX0_answersAre 2 = .ok (.iload_n 3, 1) := by decide +kernel
theorem dX0_answersAre_3 : decode cX0_answersAre 3 = .ok (.aload_n 0, 1) := by decide +kernel
theorem dX0_answersAre_4 : decode cX0_answersAre 4 = .ok (.getfield 29, 3) := by decide +kernel
theorem dX0_answersAre_7 : decode cX0_answersAre 7 = .ok (.getfield 74, 3) := by decide +kernel
theorem dX0_answersAre_10 : decode cX0_answersAre 10 = .ok (.if_icmp .ge 49, 3) := by decide +kernel
theorem dX0_answersAre_13 : decode cX0_answersAre 13 = .ok (.aload_n 0, 1) := by decide +kernel
theorem dX0_answersAre_14 : decode cX0_answersAre 14 = .ok (.getfield 29, 3) := by decide +kernel
theorem dX0_answersAre_17 : decode cX0_answersAre 17 = .ok (.iload_n 3, 1) := by decide +kernel
theorem dX0_answersAre_18 : decode cX0_answersAre 18 = .ok (.iconst 0, 1) := by decide +kernel
theorem dX0_answersAre_19 : decode cX0_answersAre 19 = .ok (.invokevirtual 77, 3) := by decide +kernel
theorem dX0_answersAre_22 : decode cX0_answersAre 22 = .ok (.iload_n 1, 1) := by decide +kernel
theorem dX0_answersAre_23 : decode cX0_answersAre 23 = .ok (.if_icmp .ne 30, 3) := by decide +kernel
theorem dX0_answersAre_26 : decode cX0_answersAre 26 = .ok (.iload_n 2, 1) := by decide +kernel
theorem dX0_answersAre_27 : decode cX0_answersAre 27 = .ok (.aload_n 0, 1) := by decide +kernel
theorem dX0_answersAre_28 : decode cX0_answersAre 28 = .ok (.getfield 29, 3) := by decide +kernel
theorem dX0_answersAre_31 : decode cX0_answersAre 31 = .ok (.iload_n 3, 1) := by decide +kernel
theorem dX0_answersAre_32 : decode cX0_answersAre 32 = .ok (.iconst 1, 1) := by decide +kernel
theorem dX0_answersAre_33 : decode cX0_answersAre 33 = .ok (.invokevirtual 77, 3) := by decide +kernel
theorem dX0_answersAre_36 : decode cX0_answersAre 36 = .ok (.ishr, 1) := by decide +kernel
theorem dX0_answersAre_37 : decode cX0_answersAre 37 = .ok (.iconst 1, 1) := by decide +kernel
theorem dX0_answersAre_38 : decode cX0_answersAre 38 = .ok (.iand, 1) := by decide +kernel
theorem dX0_answersAre_39 : decode cX0_answersAre 39 = .ok (.aload_n 0, 1) := by decide +kernel
theorem dX0_answersAre_40 : decode cX0_answersAre 40 = .ok (.getfield 29, 3) := by decide +kernel
theorem dX0_answersAre_43 : decode cX0_answersAre 43 = .ok (.iload_n 3, 1) := by decide +kernel
theorem dX0_answersAre_44 : decode cX0_answersAre 44 = .ok (.iconst 2, 1) := by decide +kernel
theorem dX0_answersAre_45 : decode cX0_answersAre 45 = .ok (.invokevirtual 77, 3) := by decide +kernel
theorem dX0_answersAre_48 : decode cX0_answersAre 48 = .ok (.if_icmp .eq 5, 3) := by decide +kernel
theorem dX0_answersAre_51 : decode cX0_answersAre 51 = .ok (.iconst 0, 1) := by decide +kernel
theorem dX0_answersAre_52 : decode cX0_answersAre 52 = .ok (.ireturn, 1) := by decide +kernel
theorem dX0_answersAre_53 : decode cX0_answersAre 53 = .ok (.iinc 3 1, 3) := by decide +kernel
theorem dX0_answersAre_56 : decode cX0_answersAre 56 = .ok (.goto (-54), 3) := by decide +kernel
theorem dX0_answersAre_59 : decode cX0_answersAre 59 = .ok (.iconst 1, 1) := by decide +kernel
theorem dX0_answersAre_60 : decode cX0_answersAre 60 = .ok (.ireturn, 1) := by decide +kernel
theorem dX0_takeFrom_0 : decode cX0_takeFrom 0 = .ok (.aload_n 0, 1) := by decide +kernel
theorem dX0_takeFrom_1 : decode cX0_takeFrom 1 = .ok (.getfield 14, 3) := by decide +kernel
theorem dX0_takeFrom_4 : decode cX0_takeFrom 4 = .ok (.aload_n 1, 1) := by decide +kernel
theorem dX0_takeFrom_5 : decode cX0_takeFrom 5 = .ok (.getfield 14, 3) := by decide +kernel
theorem dX0_takeFrom_8 : decode cX0_takeFrom 8 = .ok (.invokevirtual 86, 3) := by decide +kernel
theorem dX0_takeFrom_11 : decode cX0_takeFrom 11 = .ok (.aload_n 0, 1) := by decide +kernel
theorem dX0_takeFrom_12 : decode cX0_takeFrom 12 = .ok (.getfield 20, 3) := by decide +kernel
theorem dX0_takeFrom_15 : decode cX0_takeFrom 15 = .ok (.aload_n 1, 1) := by decide +kernel
theorem dX0_takeFrom_16 : decode cX0_takeFrom 16 = .ok (.getfield 20, 3) := by decide +kernel
theorem dX0_takeFrom_19 : decode cX0_takeFrom 19 = .ok (.invokevirtual 86, 3) := by decide +kernel
theorem dX0_takeFrom_22 : decode cX0_takeFrom 22 = .ok (.aload_n 0, 1) := by decide +kernel
theorem dX0_takeFrom_23 : decode cX0_takeFrom 23 = .ok (.getfield 23, 3) := by decide +kernel
theorem dX0_takeFrom_26 : decode cX0_takeFrom 26 = .ok (.aload_n 1, 1) := by decide +kernel
theorem dX0_takeFrom_27 : decode cX0_takeFrom 27 = .ok (.getfield 23, 3) := by decide +kernel
theorem dX0_takeFrom_30 : decode cX0_takeFrom 30 = .ok (.invokevirtual 86, 3) := by decide +kernel
theorem dX0_takeFrom_33 : decode cX0_takeFrom 33 = .ok (.aload_n 0, 1) := by decide +kernel
theorem dX0_takeFrom_34 : decode cX0_takeFrom 34 = .ok (.getfield 26, 3) := by decide +kernel
theorem dX0_takeFrom_37 : decode cX0_takeFrom 37 = .ok (.aload_n 1, 1) := by decide +kernel
theorem dX0_takeFrom_38 : decode cX0_takeFrom 38 = .ok (.getfield 26, 3) := by decide +kernel
theorem dX0_takeFrom_41 : decode cX0_takeFrom 41 = .ok (.invokevirtual 86, 3) := by decide +kernel
theorem dX0_takeFrom_44 : decode cX0_takeFrom 44 = .ok (.aload_n 0, 1) := by decide +kernel
theorem dX0_takeFrom_45 : decode cX0_takeFrom 45 = .ok (.getfield 29, 3) := by decide +kernel
theorem dX0_takeFrom_48 : decode cX0_takeFrom 48 = .ok (.aload_n 1, 1) := by decide +kernel
theorem dX0_takeFrom_49 : decode cX0_takeFrom 49 = .ok (.getfield 29, 3) := by decide +kernel
theorem dX0_takeFrom_52 : decode cX0_takeFrom 52 = .ok (.invokevirtual 86, 3) := by decide +kernel
theorem dX0_takeFrom_55 : decode cX0_takeFrom 55 = .ok (.aload_n 0, 1) := by decide +kernel
theorem dX0_takeFrom_56 : decode cX0_takeFrom 56 = .ok (.getfield 35, 3) := by decide +kernel
theorem dX0_takeFrom_59 : decode cX0_takeFrom 59 = .ok (.aload_n 1, 1) := by decide +kernel
theorem dX0_takeFrom_60 : decode cX0_takeFrom 60 = .ok (.getfield 35, 3) := by decide +kernel
theorem dX0_takeFrom_63 : decode cX0_takeFrom 63 = .ok (.invokevirtual 89, 3) := by decide +kernel
theorem dX0_takeFrom_66 : decode cX0_takeFrom 66 = .ok (.aload_n 1, 1) := by decide +kernel
theorem dX0_takeFrom_67 : decode cX0_takeFrom 67 = .ok (.getfield 39, 3) := by decide +kernel
theorem dX0_takeFrom_70 : decode cX0_takeFrom 70 = .ok (.iconst 0, 1) := by decide +kernel
theorem dX0_takeFrom_71 : decode cX0_takeFrom 71 = .ok (.aload_n 0, 1) := by decide +kernel
theorem dX0_takeFrom_72 : decode cX0_takeFrom 72 = .ok (.getfield 39, 3) := by decide +kernel
theorem dX0_takeFrom_75 : decode cX0_takeFrom 75 = .ok (.iconst 0, 1) := by decide +kernel
theorem dX0_takeFrom_76 : decode cX0_takeFrom 76 = .ok (.bipush 8, 2) := by decide +kernel
theorem dX0_takeFrom_78 : decode cX0_takeFrom 78 = .ok (.invokestatic 92, 3) := by decide +kernel
theorem dX0_takeFrom_81 : decode cX0_takeFrom 81 = .ok (.aload_n 1, 1) := by decide +kernel
theorem dX0_takeFrom_82 : decode cX0_takeFrom 82 = .ok (.getfield 43, 3) := by decide +kernel
theorem dX0_takeFrom_85 : decode cX0_takeFrom 85 = .ok (.iconst 0, 1) := by decide +kernel
theorem dX0_takeFrom_86 : decode cX0_takeFrom 86 = .ok (.aload_n 0, 1) := by decide +kernel
theorem dX0_takeFrom_87 : decode cX0_takeFrom 87 = .ok (.getfield 43, 3) := by decide +kernel
theorem dX0_takeFrom_90 : decode cX0_takeFrom 90 = .ok (.iconst 0, 1) := by decide +kernel
theorem dX0_takeFrom_91 : decode cX0_takeFrom 91 = .ok (.bipush 8, 2) := by decide +kernel
theorem dX0_takeFrom_93 : decode cX0_takeFrom 93 = .ok (.invokestatic 92, 3) := by decide +kernel
theorem dX0_takeFrom_96 : decode cX0_takeFrom 96 = .ok (.aload_n 1, 1) := by decide +kernel
theorem dX0_takeFrom_97 : decode cX0_takeFrom 97 = .ok (.getfield 46, 3) := by decide +kernel
theorem dX0_takeFrom_100 : decode cX0_takeFrom 100 = .ok (.iconst 0, 1) := by decide +kernel
theorem dX0_takeFrom_101 : decode cX0_takeFrom 101 = .ok (.aload_n 0, 1) := by decide +kernel
theorem dX0_takeFrom_102 : decode cX0_takeFrom 102 = .ok (.getfield 46, 3) := by decide +kernel
theorem dX0_takeFrom_105 : decode cX0_takeFrom 105 = .ok (.iconst 0, 1) := by decide +kernel
theorem dX0_takeFrom_106 : decode cX0_takeFrom 106 = .ok (.aload_n 0, 1) := by decide +kernel
theorem dX0_takeFrom_107 : decode cX0_takeFrom 107 = .ok (.getfield 46, 3) := by decide +kernel
theorem dX0_takeFrom_110 : decode cX0_takeFrom 110 = .ok (.arraylength, 1) := by decide +kernel
theorem dX0_takeFrom_111 : decode cX0_takeFrom 111 = .ok (.invokestatic 92, 3) := by decide +kernel
theorem dX0_takeFrom_114 : decode cX0_takeFrom 114 = .ok (.aload_n 0, 1) := by decide +kernel
theorem dX0_takeFrom_115 : decode cX0_takeFrom 115 = .ok (.aload_n 1, 1) := by decide +kernel
theorem dX0_takeFrom_116 : decode cX0_takeFrom 116 = .ok (.getfield 67, 3) := by decide +kernel
theorem dX0_takeFrom_119 : decode cX0_takeFrom 119 = .ok (.aload_n 0, 1) := by decide +kernel
theorem dX0_takeFrom_120 : decode cX0_takeFrom 120 = .ok (.getfield 52, 3) := by decide +kernel
theorem dX0_takeFrom_123 : decode cX0_takeFrom 123 = .ok (.arraylength, 1) := by decide +kernel
theorem dX0_takeFrom_124 : decode cX0_takeFrom 124 = .ok (.invokestatic 98, 3) := by decide +kernel
theorem dX0_takeFrom_127 : decode cX0_takeFrom 127 = .ok (.putfield 67, 3) := by decide +kernel
theorem dX0_takeFrom_130 : decode cX0_takeFrom 130 = .ok (.iconst 0, 1) := by decide +kernel
theorem dX0_takeFrom_131 : decode cX0_takeFrom 131 = .ok (.istore_n 2, 1) := by decide +kernel
theorem dX0_takeFrom_132 : decode cX0_takeFrom 132 = .ok (.iload_n 2, 1) := by decide +kernel
theorem dX0_takeFrom_133 : decode cX0_takeFrom 133 = .ok (.aload_n 0, 1) := by decide +kernel
theorem dX0_takeFrom_134 : decode cX0_takeFrom 134 = .ok (.getfield 67, 3) := by decide +kernel
theorem dX0_takeFrom_137 : decode cX0_takeFrom 137 = .ok (.if_icmp .ge 24, 3) := by decide +kernel
theorem dX0_takeFrom_140 : decode cX0_takeFrom 140 = .ok (.aload_n 0, 1) := by decide +kernel
theorem dX0_takeFrom_141 : decode cX0_takeFrom 141 = .ok (.getfield 52, 3) := by decide +kernel
theorem dX0_takeFrom_144 : decode cX0_takeFrom 144 = .ok (.iload_n 2, 1) := by decide +kernel
theorem dX0_takeFrom_145 : decode cX0_takeFrom 145 = .ok (.aaload, 1) := by decide +kernel
theorem dX0_takeFrom_146 : decode cX0_takeFrom 146 = .ok (.aload_n 1, 1) := by decide +kernel
theorem dX0_takeFrom_147 : decode cX0_takeFrom 147 = .ok (.getfield 52, 3) := by decide +kernel
theorem dX0_takeFrom_150 : decode cX0_takeFrom 150 = .ok (.iload_n 2, 1) := by decide +kernel
theorem dX0_takeFrom_151 : decode cX0_takeFrom 151 = .ok (.aaload, 1) := by decide +kernel
theorem dX0_takeFrom_152 : decode cX0_takeFrom 152 = .ok (.invokevirtual 70, 3) := by decide +kernel
theorem dX0_takeFrom_155 : decode cX0_takeFrom 155 = .ok (.iinc 2 1, 3) := by decide +kernel
theorem dX0_takeFrom_158 : decode cX0_takeFrom 158 = .ok (.goto (-26), 3) := by decide +kernel
theorem dX0_takeFrom_161 : decode cX0_takeFrom 161 = .ok (.aload_n 0, 1) := by decide +kernel
theorem dX0_takeFrom_162 : decode cX0_takeFrom 162 = .ok (.aload_n 1, 1) := by decide +kernel
theorem dX0_takeFrom_163 : decode cX0_takeFrom 163 = .ok (.getfield 56, 3) := by decide +kernel
theorem dX0_takeFrom_166 : decode cX0_takeFrom 166 = .ok (.putfield 56, 3) := by decide +kernel
theorem dX0_takeFrom_169 : decode cX0_takeFrom 169 = .ok (.return_, 1) := by decide +kernel
theorem dX1_init_0 : decode cX1_init 0 = .ok (.aload_n 0, 1) := by decide +kernel
theorem dX1_init_1 : decode cX1_init 1 = .ok (.invokespecial 5, 3) := by decide +kernel
theorem dX1_init_4 : decode cX1_init 4 = .ok (.aload_n 0, 1) := by decide +kernel
theorem dX1_init_5 : decode cX1_init 5 = .ok (.bipush 6, 2) := by decide +kernel
theorem dX1_init_7 : decode cX1_init 7 = .ok (.newarray .int, 2) := by decide +kernel
theorem dX1_init_9 : decode cX1_init 9 = .ok (.putfield 11, 3) := by decide +kernel
theorem dX1_init_12 : decode cX1_init 12 = .ok (.aload_n 0, 1) := by decide +kernel
theorem dX1_init_13 : decode cX1_init 13 = .ok (.iconst 3, 1) := by decide +kernel
theorem dX1_init_14 : decode cX1_init 14 = .ok (.newarray .int, 2) := by decide +kernel
theorem dX1_init_16 : decode cX1_init 16 = .ok (.putfield 15, 3) := by decide +kernel
theorem dX1_init_19 : decode cX1_init 19 = .ok (.aload_n 0, 1) := by decide +kernel
theorem dX1_init_20 : decode cX1_init 20 = .ok (.bipush 64, 2) := by decide +kernel
theorem dX1_init_22 : decode cX1_init 22 = .ok (.newarray .int, 2) := by decide +kernel
theorem dX1_init_24 : decode cX1_init 24 = .ok (.putfield 18, 3) := by decide +kernel
theorem dX1_init_27 : decode cX1_init 27 = .ok (.aload_n 0, 1) := by decide +kernel
theorem dX1_init_28 : decode cX1_init 28 = .ok (.bipush 64, 2) := by decide +kernel
theorem dX1_init_30 : decode cX1_init 30 = .ok (.newarray .int, 2) := by decide +kernel
theorem dX1_init_32 : decode cX1_init 32 = .ok (.putfield 21, 3) := by decide +kernel
theorem dX1_init_35 : decode cX1_init 35 = .ok (.aload_n 0, 1) := by decide +kernel
theorem dX1_init_36 : decode cX1_init 36 = .ok (.sipush 384, 3) := by decide +kernel
theorem dX1_init_39 : decode cX1_init 39 = .ok (.newarray .int, 2) := by decide +kernel
theorem dX1_init_41 : decode cX1_init 41 = .ok (.putfield 24, 3) := by decide +kernel
theorem dX1_init_44 : decode cX1_init 44 = .ok (.aload_n 0, 1) := by decide +kernel
theorem dX1_init_45 : decode cX1_init 45 = .ok (.bipush 6, 2) := by decide +kernel
theorem dX1_init_47 : decode cX1_init 47 = .ok (.newarray .int, 2) := by decide +kernel
theorem dX1_init_49 : decode cX1_init 49 = .ok (.putfield 27, 3) := by decide +kernel
theorem dX1_init_52 : decode cX1_init 52 = .ok (.return_, 1) := by decide +kernel
theorem dX1_find_0 : decode cX1_find 0 = .ok (.aload_n 0, 1) := by decide +kernel
theorem dX1_find_1 : decode cX1_find 1 = .ok (.aload_n 1, 1) := by decide +kernel
theorem dX1_find_2 : decode cX1_find 2 = .ok (.iload_n 2, 1) := by decide +kernel
theorem dX1_find_3 : decode cX1_find 3 = .ok (.invokevirtual 30, 3) := by decide +kernel
theorem dX1_find_6 : decode cX1_find 6 = .ok (.ifCond .eq 11, 3) := by decide +kernel
theorem dX1_find_9 : decode cX1_find 9 = .ok (.aload_n 0, 1) := by decide +kernel
theorem dX1_find_10 : decode cX1_find 10 = .ok (.aload_n 1, 1) := by decide +kernel
theorem dX1_find_11 : decode cX1_find 11 = .ok (.invokevirtual 34, 3) := by decide +kernel
theorem dX1_find_14 : decode cX1_find 14 = .ok (.ifCond .ne 5, 3) := by decide +kernel
theorem dX1_find_17 : decode cX1_find 17 = .ok (.iconst 0, 1) := by decide +kernel
theorem dX1_find_18 : decode cX1_find 18 = .ok (.ireturn, 1) := by decide +kernel
theorem dX1_find_19 : decode cX1_find 19 = .ok (.iconst 0, 1) := by decide +kernel
theorem dX1_find_20 : decode cX1_find 20 = .ok (.istore_n 3, 1) := by decide +kernel
theorem dX1_find_21 : decode cX1_find 21 = .ok (.iload_n 3, 1) := by decide +kernel
theorem dX1_find_22 : decode cX1_find 22 = .ok (.iconst 1, 1) := by decide +kernel
theorem dX1_find_23 : decode cX1_find 23 = .ok (.aload_n 0, 1) := by decide +kernel
theorem dX1_find_24 : decode cX1_find 24 = .ok (.getfield 38, 3) := by decide +kernel
theorem dX1_find_27 : decode cX1_find 27 = .ok (.ishl, 1) := by decide +kernel
theorem dX1_find_28 : decode cX1_find 28 = .ok (.if_icmp .ge 52, 3) := by decide +kernel
theorem dX1_find_31 : decode cX1_find 31 = .ok (.iload_n 3, 1) := by decide +kernel
theorem dX1_find_32 : decode cX1_find 32 = .ok (.bipush 64, 2) := by decide +kernel
theorem dX1_find_34 : decode cX1_find 34 = .ok (.if_icmp .ge 46, 3) := by decide +kernel
theorem dX1_find_37 : decode cX1_find 37 = .ok (.aload_n 0, 1) := by decide +kernel
theorem dX1_find_38 : decode cX1_find 38 = .ok (.getfield 18, 3) := by decide +kernel
theorem dX1_find_41 : decode cX1_find 41 = .ok (.iload_n 3, 1) := by decide +kernel
theorem dX1_find_42 : decode cX1_find 42 = .ok (.aload_n 0, 1) := by decide +kernel
theorem dX1_find_43 : decode cX1_find 43 = .ok (.aload_n 1, 1) := by decide +kernel
theorem dX1_find_44 : decode cX1_find 44 = .ok (.iload_n 3, 1) := by decide +kernel
theorem dX1_find_45 : decode cX1_find 45 = .ok (.invokevirtual 42, 3) := by decide +kernel
theorem dX1_find_48 : decode cX1_find 48 = .ok (.iastore, 1) := by decide +kernel
theorem dX1_find_49 : decode cX1_find 49 = .ok (.aload_n 0, 1) := by decide +kernel
theorem dX1_find_50 : decode cX1_find 50 = .ok (.getfield 21, 3) := by decide +kernel
theorem dX1_find_53 : decode cX1_find 53 = .ok (.iload_n 3, 1) := by decide +kernel
theorem dX1_find_54 : decode cX1_find 54 = .ok (.iconst 0, 1) := by decide +kernel
theorem dX1_find_55 : decode cX1_find 55 = .ok (.iastore, 1) := by decide +kernel
theorem dX1_find_56 : decode cX1_find 56 = .ok (.aload_n 0, 1) := by decide +kernel
theorem dX1_find_57 : decode cX1_find 57 = .ok (.iload_n 3, 1) := by decide +kernel
theorem dX1_find_58 : decode cX1_find 58 = .ok (.invokevirtual 46, 3) := by decide +kernel
theorem dX1_find_61 : decode cX1_find 61 = .ok (.iload_n 3, 1) := by decide +kernel
theorem dX1_find_62 : decode cX1_find 62 = .ok (.invokestatic 50, 3) := by decide +kernel
theorem dX1_find_65 : decode cX1_find 65 = .ok (.iconst 1, 1) := by decide +kernel
theorem dX1_find_66 : decode cX1_find 66 = .ok (.if_icmp .le 8, 3) := by decide +kernel
theorem dX1_find_69 : decode cX1_find 69 = .ok (.aload_n 0, 1) := by decide +kernel
theorem dX1_find_70 : decode cX1_find 70 = .ok (.iload_n 3, 1) := by decide +kernel
theorem dX1_find_71 : decode cX1_find 71 = .ok (.invokevirtual 56, 3) := by decide +kernel
theorem dX1_find_74 : decode cX1_find 74 = .ok (.iinc 3 1, 3) := by decide +kernel
theorem dX1_find_77 : decode cX1_find 77 = .ok (.goto (-56), 3) := by decide +kernel
theorem dX1_find_80 : decode cX1_find 80 = .ok (.aload_n 0, 1) := by decide +kernel
theorem dX1_find_81 : decode cX1_find 81 = .ok (.getfield 38, 3) := by decide +kernel
theorem dX1_find_84 : decode cX1_find 84 = .ok (.iconst 1, 1) := by decide +kernel
theorem dX1_find_85 : decode cX1_find 85 = .ok (.if_icmp .ne 31, 3) := by decide +kernel
theorem dX1_find_88 : decode cX1_find 88 = .ok (.aload_n 0, 1) := by decide +kernel
theorem dX1_find_89 : decode cX1_find 89 = .ok (.getfield 24, 3) := by decide +kernel
theorem dX1_find_92 : decode cX1_find 92 = .ok (.bipush 6, 2) := by decide +kernel
theorem dX1_find_94 : decode cX1_find 94 = .ok (.aload_n 0, 1) := by decide +kernel
theorem dX1_find_95 : decode cX1_find 95 = .ok (.invokevirtual 59, 3) := by decide +kernel
theorem dX1_find_98 : decode cX1_find 98 = .ok (.iastore, 1) := by decide +kernel
theorem dX1_find_99 : decode cX1_find 99 = .ok (.aload_n 0, 1) := by decide +kernel
theorem dX1_find_100 : decode cX1_find 100 = .ok (.getfield 21, 3) := by decide +kernel
theorem dX1_find_103 : decode cX1_find 103 = .ok (.iconst 1, 1) := by decide +kernel
theorem dX1_find_104 : decode cX1_find 104 = .ok (.aload_n 0, 1) := by decide +kernel
theorem dX1_find_105 : decode cX1_find 105 = .ok (.getfield 18, 3) := by decide +kernel
theorem dX1_find_108 : decode cX1_find 108 = .ok (.iconst 1, 1) := by decide +kernel
theorem dX1_find_109 : decode cX1_find 109 = .ok (.iaload, 1) := by decide +kernel
theorem dX1_find_110 : decode cX1_find 110 = .ok (.aload_n 0, 1) := by decide +kernel
theorem dX1_find_111 : decode cX1_find 111 = .ok (.invokevirtual 59, 3) := by decide +kernel
theorem dX1_find_114 : decode cX1_find 114 = .ok (.imul, 1) := by decide +kernel
theorem dX1_find_115 : decode cX1_find 115 = .ok (.iastore, 1) := by decide +kernel
theorem dX1_find_116 : decode cX1_find 116 = .ok (.iconst 1, 1) := by decide +kernel
theorem dX1_find_117 : decode cX1_find 117 = .ok (.ireturn, 1) := by decide +kernel
theorem dX1_total_0 : decode cX1_total 0 = .ok (.aload_n 0, 1) := by decide +kernel
theorem dX1_total_1 : decode cX1_total 1 = .ok (.getfield 38, 3) := by decide +kernel
theorem dX1_total_4 : decode cX1_total 4 = .ok (.iconst 0, 1) := by decide +kernel
theorem dX1_total_5 : decode cX1_total 5 = .ok (.bipush 6, 2) := by decide +kernel
theorem dX1_total_7 : decode cX1_total 7 = .ok (.invokestatic 63, 3) := by decide +kernel
theorem dX1_total_10 : decode cX1_total 10 = .ok (.ifCond .eq 19, 3) := by decide +kernel
theorem dX1_total_13 : decode cX1_total 13 = .ok (.aload_n 0, 1) := by decide +kernel
theorem dX1_total_14 : decode cX1_total 14 = .ok (.getfield 21, 3) := by decide +kernel
theorem dX1_total_17 : decode cX1_total 17 = .ok (.iconst 1, 1) := by decide +kernel
theorem dX1_total_18 : decode cX1_total 18 = .ok (.aload_n 0, 1) := by decide +kernel
theorem dX1_total_19 : decode cX1_total 19 = .ok (.getfield 38, 3) := by decide +kernel
theorem dX1_total_22 : decode cX1_total 22 = .ok (.ishl, 1) := by decide +kernel
theorem dX1_total_23 : decode cX1_total 23 = .ok (.iconst 1, 1) := by decide +kernel
theorem dX1_total_24 : decode cX1_total 24 = .ok (.isub, 1) := by decide +kernel
theorem dX1_total_25 : decode cX1_total 25 = .ok (.iaload, 1) := by decide +kernel
theorem dX1_total_26 : decode cX1_total 26 = .ok (.goto 4, 3) := by decide +kernel
theorem dX1_total_29 : decode cX1_total 29 = .ok (.iconst (-1), 1) := by decide +kernel
theorem dX1_total_30 : decode cX1_total 30 = .ok (.ireturn, 1) := by decide +kernel
theorem dX1_lengthFor_0 : decode cX1_lengthFor 0 = .ok (.iconst 0, 1) := by decide +kernel
theorem dX1_lengthFor_1 : decode cX1_lengthFor 1 = .ok (.istore_n 2, 1) := by decide +kernel
theorem dX1_lengthFor_2 : decode cX1_lengthFor 2 = .ok (.iload_n 2, 1) := by decide +kernel
theorem dX1_lengthFor_3 : decode cX1_lengthFor 3 = .ok (.aload_n 0, 1) := by decide +kernel
theorem dX1_lengthFor_4 : decode cX1_lengthFor 4 = .ok (.getfield 38, 3) := by decide +kernel
theorem dX1_lengthFor_7 : decode cX1_lengthFor 7 = .ok (.if_icmp .ge 47, 3) := by decide +kernel
theorem dX1_lengthFor_10 : decode cX1_lengthFor 10 = .ok (.aload_n 0, 1) := by decide +kernel
theorem dX1_lengthFor_11 : decode cX1_lengthFor 11 = .ok (.getfield 38, 3) := by decide +kernel
theorem dX1_lengthFor_14 : decode cX1_lengthFor 14 = .ok (.bipush 6, 2) := by decide +kernel
theorem dX1_lengthFor_16 : decode cX1_lengthFor 16 = .ok (.if_icmp .gt 38, 3) := by decide +kernel
theorem dX1_lengthFor_19 : decode cX1_lengthFor 19 = .ok (.aload_n 0, 1) := by decide +kernel
theorem dX1_lengthFor_20 : decode cX1_lengthFor 20 = .ok (.getfield 11, 3) := by decide +kernel
theorem dX1_lengthFor_23 : decode cX1_lengthFor 23 = .ok (.iload_n 2, 1) := by decide +kernel
theorem dX1_lengthFor_24 : decode cX1_lengthFor 24 = .ok (.iaload, 1) := by decide +kernel
theorem dX1_lengthFor_25 : decode cX1_lengthFor 25 = .ok (.iload_n 1, 1) := by decide +kernel
theorem dX1_lengthFor_26 : decode cX1_lengthFor 26 = .ok (.if_icmp .ne 22, 3) := by decide +kernel
theorem dX1_lengthFor_29 : decode cX1_lengthFor 29 = .ok (.aload_n 0, 1) := by decide +kernel
theorem dX1_lengthFor_30 : decode cX1_lengthFor 30 = .ok (.getfield 24, 3) := by decide +kernel
theorem dX1_lengthFor_33 : decode cX1_lengthFor 33 = .ok (.iconst 1, 1) := by decide +kernel
theorem dX1_lengthFor_34 : decode cX1_lengthFor 34 = .ok (.aload_n 0, 1) := by decide +kernel
theorem dX1_lengthFor_35 : decode cX1_lengthFor 35 = .ok (.getfield 38, 3) := by decide +kernel
theorem dX1_lengthFor_38 : decode cX1_lengthFor 38 = .ok (.ishl, 1) := by decide +kernel
theorem dX1_lengthFor_39 : decode cX1_lengthFor 39 = .ok (.iconst 1, 1) := by decide +kernel
theorem dX1_lengthFor_40 : decode cX1_lengthFor 40 = .ok (.isub, 1) := by decide +kernel
theorem dX1_lengthFor_41 : decode cX1_lengthFor 41 = .ok (.bipush 6, 2) := by decide +kernel
theorem dX1_lengthFor_43 : decode cX1_lengthFor 43 = .ok (.imul, 1) := by decide +kernel
theorem dX1_lengthFor_44 : decode cX1_lengthFor 44 = .ok (.iload_n 2, 1) := by decide +kernel
theorem dX1_lengthFor_45 : decode cX1_lengthFor 45 = .ok (.iadd, 1) := by decide +kernel
theorem dX1_lengthFor_46 : decode cX1_lengthFor 46 = .ok (.iaload, 1) := by decide +kernel
theorem dX1_lengthFor_47 : decode cX1_lengthFor 47 = .ok (.ireturn, 1) := by decide +kernel
theorem dX1_lengthFor_48 : decode cX1_lengthFor 48 = .ok (.iinc 2 1, 3) := by decide +kernel
theorem dX1_lengthFor_51 : decode cX1_lengthFor 51 = .ok (.goto (-49), 3) := by decide +kernel
theorem dX1_lengthFor_54 : decode cX1_lengthFor 54 = .ok (.iconst (-1), 1) := by decide +kernel
theorem dX1_lengthFor_55 : decode cX1_lengthFor 55 = .ok (.ireturn, 1) := by decide +kernel
theorem dX1_takeLetters_0 : decode cX1_takeLetters 0 = .ok (.aload_n 0, 1) := by decide +kernel
theorem dX1_takeLetters_1 : decode cX1_takeLetters 1 = .ok (.iconst 0, 1) := by decide +kernel
theorem dX1_takeLetters_2 : decode cX1_takeLetters 2 = .ok (.putfield 67, 3) := by decide +kernel
theorem dX1_takeLetters_5 : decode cX1_takeLetters 5 = .ok (.iload_n 2, 1) := by decide +kernel
theorem dX1_takeLetters_6 : decode cX1_takeLetters 6 = .ok (.ifCond .lt 28, 3) := by decide +kernel
theorem dX1_takeLetters_9 : decode cX1_takeLetters 9 = .ok (.iload_n 2, 1) := by decide +kernel
theorem dX1_takeLetters_10 : decode cX1_takeLetters 10 = .ok (.iconst 1, 1) := by decide +kernel
theorem dX1_takeLetters_11 : decode cX1_takeLetters 11 = .ok (.aload_n 1, 1) := by decide +kernel
theorem dX1_takeLetters_12 : decode cX1_takeLetters 12 = .ok (.getfield 70, 3) := by decide +kernel
theorem dX1_takeLetters_15 : decode cX1_takeLetters 15 = .ok (.getfield 76, 3) := by decide +kernel
theorem dX1_takeLetters_18 : decode cX1_takeLetters 18 = .ok (.ishl, 1) := by decide +kernel
theorem dX1_takeLetters_19 : decode cX1_takeLetters 19 = .ok (.if_icmp .ge 15, 3) := by decide +kernel
theorem dX1_takeLetters_22 : decode cX1_takeLetters 22 = .ok (.iload_n 2, 1) := by decide +kernel
theorem dX1_takeLetters_23 : decode cX1_takeLetters 23 = .ok (.invokestatic 50, 3) := by decide +kernel
theorem dX1_takeLetters_26 : decode cX1_takeLetters 26 = .ok (.iconst 2, 1) := by decide +kernel
theorem dX1_takeLetters_27 : decode cX1_takeLetters 27 = .ok (.iconst 3, 1) := by decide +kernel
theorem dX1_takeLetters_28 : decode cX1_takeLetters 28 = .ok (.invokestatic 63, 3) := by decide +kernel
theorem dX1_takeLetters_31 : decode cX1_takeLetters 31 = .ok (.ifCond .ne 5, 3) := by decide +kernel
theorem dX1_takeLetters_34 : decode cX1_takeLetters 34 = .ok (.iconst 0, 1) := by decide +kernel
theorem dX1_takeLetters_35 : decode cX1_takeLetters 35 = .ok (.ireturn, 1) := by decide +kernel
theorem dX1_takeLetters_36 : decode cX1_takeLetters 36 = .ok (.iconst 0, 1) := by decide +kernel
theorem dX1_takeLetters_37 : decode cX1_takeLetters 37 = .ok (.istore_n 3, 1) := by decide +kernel
theorem dX1_takeLetters_38 : decode cX1_takeLetters 38 = .ok (.iload_n 3, 1) := by decide +kernel
theorem dX1_takeLetters_39 : decode cX1_takeLetters 39 = .ok (.aload_n 1, 1) := by decide +kernel
theorem dX1_takeLetters_40 : decode cX1_takeLetters 40 = .ok (.getfield 70, 3) := by decide +kernel
theorem dX1_takeLetters_43 : decode cX1_takeLetters 43 = .ok (.getfield 76, 3) := by decide +kernel
theorem dX1_takeLetters_46 : decode cX1_takeLetters 46 = .ok (.if_icmp .ge 58, 3) := by decide +kernel
theorem dX1_takeLetters_49 : decode cX1_takeLetters 49 = .ok (.iload_n 2, 1) := by decide +kernel
theorem dX1_takeLetters_50 : decode cX1_takeLetters 50 = .ok (.iload_n 3, 1) := by decide +kernel
theorem dX1_takeLetters_51 : decode cX1_takeLetters 51 = .ok (.ishr, 1) := by decide +kernel
theorem dX1_takeLetters_52 : decode cX1_takeLetters 52 = .ok (.iconst 1, 1) := by decide +kernel
theorem dX1_takeLetters_53 : decode cX1_takeLetters 53 = .ok (.iand, 1) := by decide +kernel
theorem dX1_takeLetters_54 : decode cX1_takeLetters 54 = .ok (.iconst 1, 1) := by decide +kernel
theorem dX1_takeLetters_55 : decode cX1_takeLetters 55 = .ok (.if_icmp .ne 43, 3) := by decide +kernel
theorem dX1_takeLetters_58 : decode cX1_takeLetters 58 = .ok (.aload_n 0, 1) := by decide +kernel
theorem dX1_takeLetters_59 : decode cX1_takeLetters 59 = .ok (.getfield 67, 3) := by decide +kernel
theorem dX1_takeLetters_62 : decode cX1_takeLetters 62 = .ok (.aload_n 0, 1) := by decide +kernel
theorem dX1_takeLetters_63 : decode cX1_takeLetters 63 = .ok (.getfield 15, 3) := by decide +kernel
theorem dX1_takeLetters_66 : decode cX1_takeLetters 66 = .ok (.arraylength, 1) := by decide +kernel
theorem dX1_takeLetters_67 : decode cX1_takeLetters 67 = .ok (.if_icmp .ge 31, 3) := by decide +kernel
theorem dX1_takeLetters_70 : decode cX1_takeLetters 70 = .ok (.aload_n 0, 1) := by decide +kernel
theorem dX1_takeLetters_71 : decode cX1_takeLetters 71 = .ok (.getfield 15, 3) := by decide +kernel
theorem dX1_takeLetters_74 : decode cX1_takeLetters 74 = .ok (.aload_n 0, 1) := by decide +kernel
theorem dX1_takeLetters_75 : decode cX1_takeLetters 75 = .ok (.getfield 67, 3) := by decide +kernel
theorem dX1_takeLetters_78 : decode cX1_takeLetters 78 = .ok (.aload_n 1, 1) := by decide +kernel
theorem dX1_takeLetters_79 : decode cX1_takeLetters 79 = .ok (.getfield 70, 3) := by decide +kernel
theorem dX1_takeLetters_82 : decode cX1_takeLetters 82 = .ok (.iload_n 3, 1) := by decide +kernel
theorem dX1_takeLetters_83 : decode cX1_takeLetters 83 = .ok (.iconst 0, 1) := by decide +kernel
theorem dX1_takeLetters_84 : decode cX1_takeLetters 84 = .ok (.invokevirtual 81, 3) := by decide +kernel
theorem dX1_takeLetters_87 : decode cX1_takeLetters 87 = .ok (.iastore, 1) := by decide +kernel
theorem dX1_takeLetters_88 : decode cX1_takeLetters 88 = .ok (.aload_n 0, 1) := by decide +kernel
theorem dX1_takeLetters_89 : decode cX1_takeLetters 89 = .ok (.dup, 1) := by decide +kernel
theorem dX1_takeLetters_90 : decode cX1_takeLetters 90 = .ok (.getfield 67, 3) := by decide +kernel
theorem dX1_takeLetters_93 : decode cX1_takeLetters 93 = .ok (.iconst 1, 1) := by decide +kernel
theorem dX1_takeLetters_94 : decode cX1_takeLetters 94 = .ok (.iadd, 1) := by decide +kernel
theorem dX1_takeLetters_95 : decode cX1_takeLetters 95 = .ok (.putfield 67, 3) := by decide +kernel
theorem dX1_takeLetters_98 : decode cX1_takeLetters 98 = .ok (.iinc 3 1, 3) := by decide +kernel
theorem dX1_takeLetters_101 : decode cX1_takeLetters 101 = .ok (.goto (-63), 3) := by decide +kernel
theorem dX1_takeLetters_104 : decode cX1_takeLetters 104 = .ok (.iconst 1, 1) := by decide +kernel
theorem dX1_takeLetters_105 : decode cX1_takeLetters 105 = .ok (.ireturn, 1) := by decide +kernel
theorem dX1_takeAsked_0 : decode cX1_takeAsked 0 = .ok (.aload_n 0, 1) := by decide +kernel
theorem dX1_takeAsked_1 : decode cX1_takeAsked 1 = .ok (.iconst 0, 1) := by decide +kernel
theorem dX1_takeAsked_2 : decode cX1_takeAsked 2 = .ok (.putfield 38, 3) := by decide +kernel
theorem dX1_takeAsked_5 : decode cX1_takeAsked 5 = .ok (.iconst 0, 1) := by decide +kernel
theorem dX1_takeAsked_6 : decode cX1_takeAsked 6 = .ok (.istore_n 2, 1) := by decide +kernel
theorem dX1_takeAsked_7 : decode cX1_takeAsked 7 = .ok (.iload_n 2, 1) := by decide +kernel
theorem dX1_takeAsked_8 : decode cX1_takeAsked 8 = .ok (.bipush 8, 2) := by decide +kernel
theorem dX1_takeAsked_10 : decode cX1_takeAsked 10 = .ok (.if_icmp .ge 49, 3) := by decide +kernel
theorem dX1_takeAsked_13 : decode cX1_takeAsked 13 = .ok (.aload_n 1, 1) := by decide +kernel
theorem dX1_takeAsked_14 : decode cX1_takeAsked 14 = .ok (.getfield 85, 3) := by decide +kernel
theorem dX1_takeAsked_17 : decode cX1_takeAsked 17 = .ok (.iload_n 2, 1) := by decide +kernel
theorem dX1_takeAsked_18 : decode cX1_takeAsked 18 = .ok (.iaload, 1) := by decide +kernel
theorem dX1_takeAsked_19 : decode cX1_takeAsked 19 = .ok (.ifCond .le 34, 3) := by decide +kernel
theorem dX1_takeAsked_22 : decode cX1_takeAsked 22 = .ok (.aload_n 0, 1) := by decide +kernel
theorem dX1_takeAsked_23 : decode cX1_takeAsked 23 = .ok (.getfield 38, 3) := by decide +kernel
theorem dX1_takeAsked_26 : decode cX1_takeAsked 26 = .ok (.bipush 6, 2) := by decide +kernel
theorem dX1_takeAsked_28 : decode cX1_takeAsked 28 = .ok (.if_icmp .lt 5, 3) := by decide +kernel
theorem dX1_takeAsked_31 : decode cX1_takeAsked 31 = .ok (.iconst 0, 1) := by decide +kernel
theorem dX1_takeAsked_32 : decode cX1_takeAsked 32 = .ok (.ireturn, 1) := by decide +kernel
theorem dX1_takeAsked_33 : decode cX1_takeAsked 33 = .ok (.aload_n 0, 1) := by decide +kernel
theorem dX1_takeAsked_34 : decode cX1_takeAsked 34 = .ok (.getfield 11, 3) := by decide +kernel
theorem dX1_takeAsked_37 : decode cX1_takeAsked 37 = .ok (.aload_n 0, 1) := by decide +kernel
theorem dX1_takeAsked_38 : decode cX1_takeAsked 38 = .ok (.getfield 38, 3) := by decide +kernel
theorem dX1_takeAsked_41 : decode cX1_takeAsked 41 = .ok (.iload_n 2, 1) := by decide +kernel
theorem dX1_takeAsked_42 : decode cX1_takeAsked 42 = .ok (.iastore, 1) := by decide +kernel
theorem dX1_takeAsked_43 : decode cX1_takeAsked 43 = .ok (.aload_n 0, 1) := by decide +kernel
theorem dX1_takeAsked_44 : decode cX1_takeAsked 44 = .ok (.dup, 1) := by decide +kernel
theorem dX1_takeAsked_45 : decode cX1_takeAsked 45 = .ok (.getfield 38, 3) := by decide +kernel
theorem dX1_takeAsked_48 : decode cX1_takeAsked 48 = .ok (.iconst 1, 1) := by decide +kernel
theorem dX1_takeAsked_49 : decode cX1_takeAsked 49 = .ok (.iadd, 1) := by decide +kernel
theorem dX1_takeAsked_50 : decode cX1_takeAsked 50 = .ok (.putfield 38, 3) := by decide +kernel
theorem dX1_takeAsked_53 : decode cX1_takeAsked 53 = .ok (.iinc 2 1, 3) := by decide +kernel
theorem dX1_takeAsked_56 : decode cX1_takeAsked 56 = .ok (.goto (-49), 3) := by decide +kernel
theorem dX1_takeAsked_59 : decode cX1_takeAsked 59 = .ok (.iconst 1, 1) := by decide +kernel
theorem dX1_takeAsked_60 : decode cX1_takeAsked 60 = .ok (.ireturn, 1) := by decide +kernel
theorem dX1_weightOf_0 : decode cX1_weightOf 0 = .ok (.iconst 0, 1) := by decide +kernel
theorem dX1_weightOf_1 : decode cX1_weightOf 1 = .ok (.istore_n 3, 1) := by decide +kernel
theorem dX1_weightOf_2 : decode cX1_weightOf 2 = .ok (.iconst 0, 1) := by decide +kernel
theorem dX1_weightOf_3 : decode cX1_weightOf 3 = .ok (.istore 4, 2) := by decide +kernel
theorem dX1_weightOf_5 : decode cX1_weightOf 5 = .ok (.iload 4, 2) := by decide +kernel
theorem dX1_weightOf_7 : decode cX1_weightOf 7 = .ok (.aload_n 0, 1) := by decide +kernel
theorem dX1_weightOf_8 : decode cX1_weightOf 8 = .ok (.getfield 38, 3) := by decide +kernel
theorem dX1_weightOf_11 : decode cX1_weightOf 11 = .ok (.if_icmp .ge 54, 3) := by decide +kernel
theorem dX1_weightOf_14 : decode cX1_weightOf 14 = .ok (.iload 4, 2) := by decide +kernel
theorem dX1_weightOf_16 : decode cX1_weightOf 16 = .ok (.bipush 6, 2) := by decide +kernel
theorem dX1_weightOf_18 : decode cX1_weightOf 18 = .ok (.if_icmp .ge 47, 3) := by decide +kernel
theorem dX1_weightOf_21 : decode cX1_weightOf 21 = .ok (.iload_n 2, 1) := by decide +kernel
theorem dX1_weightOf_22 : decode cX1_weightOf 22 = .ok (.iload 4, 2) := by decide +kernel
theorem dX1_weightOf_24 : decode cX1_weightOf 24 = .ok (.ishr, 1) := by decide +kernel
theorem dX1_weightOf_25 : decode cX1_weightOf 25 = .ok (.iconst 1, 1) := by decide +kernel
theorem dX1_weightOf_26 : decode cX1_weightOf 26 = .ok (.iand, 1) := by decide +kernel
theorem dX1_weightOf_27 : decode cX1_weightOf 27 = .ok (.iconst 1, 1) := by decide +kernel
theorem dX1_weightOf_28 : decode cX1_weightOf 28 = .ok (.if_icmp .ne 31, 3) := by decide +kernel
theorem dX1_weightOf_31 : decode cX1_weightOf 31 = .ok (.aload_n 0, 1) := by decide +kernel
theorem dX1_weightOf_32 : decode cX1_weightOf 32 = .ok (.getfield 11, 3) := by decide +kernel
theorem dX1_weightOf_35 : decode cX1_weightOf 35 = .ok (.iload 4, 2) := by decide +kernel
theorem dX1_weightOf_37 : decode cX1_weightOf 37 = .ok (.iaload, 1) := by decide +kernel
theorem dX1_weightOf_38 : decode cX1_weightOf 38 = .ok (.invokestatic 88, 3) := by decide +kernel
theorem dX1_weightOf_41 : decode cX1_weightOf 41 = .ok (.ifCond .eq 18, 3) := by decide +kernel
theorem dX1_weightOf_44 : decode cX1_weightOf 44 = .ok (.iload_n 3, 1) := by decide +kernel
theorem dX1_weightOf_45 : decode cX1_weightOf 45 = .ok (.aload_n 1, 1) := by decide +kernel
theorem dX1_weightOf_46 : decode cX1_weightOf 46 = .ok (.getfield 85, 3) := by decide +kernel
theorem dX1_weightOf_49 : decode cX1_weightOf 49 = .ok (.aload_n 0, 1) := by decide +kernel
theorem dX1_weightOf_50 : decode cX1_weightOf 50 = .ok (.getfield 11, 3) := by decide +kernel
theorem dX1_weightOf_53 : decode cX1_weightOf 53 = .ok (.iload 4, 2) := by decide +kernel
theorem dX1_weightOf_55 : decode cX1_weightOf 55 = .ok (.iaload, 1) := by decide +kernel
theorem dX1_weightOf_56 : decode cX1_weightOf 56 = .ok (.iaload, 1) := by decide +kernel
theorem dX1_weightOf_57 : decode cX1_weightOf 57 = .ok (.iadd, 1) := by decide +kernel
theorem dX1_weightOf_58 : decode cX1_weightOf 58 = .ok (.istore_n 3, 1) := by decide +kernel
theorem dX1_weightOf_59 : decode cX1_weightOf 59 = .ok (.iinc 4 1, 3) := by decide +kernel
theorem dX1_weightOf_62 : decode cX1_weightOf 62 = .ok (.goto (-57), 3) := by decide +kernel
theorem dX1_weightOf_65 : decode cX1_weightOf 65 = .ok (.iload_n 3, 1) := by decide +kernel
theorem dX1_weightOf_66 : decode cX1_weightOf 66 = .ok (.ireturn, 1) := by decide +kernel
theorem dX1_clearLengths_0 : decode cX1_clearLengths 0 = .ok (.iconst 0, 1) := by decide +kernel
theorem dX1_clearLengths_1 : decode cX1_clearLengths 1 = .ok (.istore_n 2, 1) := by decide +kernel
theorem dX1_clearLengths_2 : decode cX1_clearLengths 2 = .ok (.iload_n 2, 1) := by decide +kernel
theorem dX1_clearLengths_3 : decode cX1_clearLengths 3 = .ok (.bipush 6, 2) := by decide +kernel
theorem dX1_clearLengths_5 : decode cX1_clearLengths 5 = .ok (.if_icmp .ge 21, 3) := by decide +kernel
theorem dX1_clearLengths_8 : decode cX1_clearLengths 8 = .ok (.aload_n 0, 1) := by decide +kernel
theorem dX1_clearLengths_9 : decode cX1_clearLengths 9 = .ok (.getfield 24, 3) := by decide +kernel
theorem dX1_clearLengths_12 : decode cX1_clearLengths 12 = .ok (.iload_n 1, 1) := by decide +kernel
theorem dX1_clearLengths_13 : decode cX1_clearLengths 13 = .ok (.bipush 6, 2) := by decide +kernel
theorem dX1_clearLengths_15 : decode cX1_clearLengths 15 = .ok (.imul, 1) := by decide +kernel
theorem dX1_clearLengths_16 : decode cX1_clearLengths 16 = .ok (.iload_n 2, 1) := by decide +kernel
theorem dX1_clearLengths_17 : decode cX1_clearLengths 17 = .ok (.iadd, 1) := by decide +kernel
theorem dX1_clearLengths_18 : decode cX1_clearLengths 18 = .ok (.iconst 0, 1) := by decide +kernel
theorem dX1_clearLengths_19 : decode cX1_clearLengths 19 = .ok (.iastore, 1) := by decide +kernel
theorem dX1_clearLengths_20 : decode cX1_clearLengths 20 = .ok (.iinc 2 1, 3) := by decide +kernel
theorem dX1_clearLengths_23 : decode cX1_clearLengths 23 = .ok (.goto (-21), 3) := by decide +kernel
theorem dX1_clearLengths_26 : decode cX1_clearLengths 26 = .ok (.return_, 1) := by decide +kernel
theorem dX1_shortestLetter_0 : decode cX1_shortestLetter 0 = .ok (.aload_n 0, 1) := by decide +kernel
theorem dX1_shortestLetter_1 : decode cX1_shortestLetter 1 = .ok (.getfield 15, 3) := by decide +kernel
theorem dX1_shortestLetter_4 : decode cX1_shortestLetter 4 = .ok (.iconst 0, 1) := by decide +kernel
theorem dX1_shortestLetter_5 : decode cX1_shortestLetter 5 = .ok (.iaload, 1) := by decide +kernel
theorem dX1_shortestLetter_6 : decode cX1_shortestLetter 6 = .ok (.istore_n 1, 1) := by decide +kernel
theorem dX1_shortestLetter_7 : decode cX1_shortestLetter 7 = .ok (.iconst 1, 1) := by decide +kernel
theorem dX1_shortestLetter_8 : decode cX1_shortestLetter 8 = .ok (.istore_n 2, 1) := by decide +kernel
theorem dX1_shortestLetter_9 : decode cX1_shortestLetter 9 = .ok (.iload_n 2, 1) := by decide +kernel
theorem dX1_shortestLetter_10 : decode cX1_shortestLetter 10 = .ok (.aload_n 0, 1) := by decide +kernel
theorem dX1_shortestLetter_11 : decode cX1_shortestLetter 11 = .ok (.getfield 67, 3) := by decide +kernel
theorem dX1_shortestLetter_14 : decode cX1_shortestLetter 14 = .ok (.if_icmp .ge 29, 3) := by decide +kernel
theorem dX1_shortestLetter_17 : decode cX1_shortestLetter 17 = .ok (.iload_n 2, 1) := by decide +kernel
theorem dX1_shortestLetter_18 : decode cX1_shortestLetter 18 = .ok (.aload_n 0, 1) := by decide +kernel
theorem dX1_shortestLetter_19 : decode cX1_shortestLetter 19 = .ok (.getfield 15, 3) := by decide +kernel
theorem dX1_shortestLetter_22 : decode cX1_shortestLetter 22 = .ok (.arraylength, 1) := by decide +kernel
theorem dX1_shortestLetter_23 : decode cX1_shortestLetter 23 = .ok (.if_icmp .ge 20, 3) := by decide +kernel
theorem dX1_shortestLetter_26 : decode cX1_shortestLetter 26 = .ok (.iload_n 1, 1) := by decide +kernel
theorem dX1_shortestLetter_27 : decode cX1_shortestLetter 27 = .ok (.aload_n 0, 1) := by decide +kernel
theorem dX1_shortestLetter_28 : decode cX1_shortestLetter 28 = .ok (.getfield 15, 3) := by decide +kernel
theorem dX1_shortestLetter_31 : decode cX1_shortestLetter 31 = .ok (.iload_n 2, 1) := by decide +kernel
theorem dX1_shortestLetter_32 : decode cX1_shortestLetter 32 = .ok (.iaload, 1) := by decide +kernel
theorem dX1_shortestLetter_33 : decode cX1_shortestLetter 33 = .ok (.invokestatic 92, 3) := by decide +kernel
theorem dX1_shortestLetter_36 : decode cX1_shortestLetter 36 = .ok (.istore_n 1, 1) := by decide +kernel
theorem dX1_shortestLetter_37 : decode cX1_shortestLetter 37 = .ok (.iinc 2 1, 3) := by decide +kernel
theorem dX1_shortestLetter_40 : decode cX1_shortestLetter 40 = .ok (.goto (-31), 3) := by decide +kernel
theorem dX1_shortestLetter_43 : decode cX1_shortestLetter 43 = .ok (.iload_n 1, 1) := by decide +kernel
theorem dX1_shortestLetter_44 : decode cX1_shortestLetter 44 = .ok (.ireturn, 1) := by decide +kernel
theorem dX1_share_0 : decode cX1_share 0 = .ok (.aload_n 0, 1) := by decide +kernel
theorem dX1_share_1 : decode cX1_share 1 = .ok (.getfield 21, 3) := by decide +kernel
theorem dX1_share_4 : decode cX1_share 4 = .ok (.iload_n 1, 1) := by decide +kernel
theorem dX1_share_5 : decode cX1_share 5 = .ok (.iconst (-1), 1) := by decide +kernel
theorem dX1_share_6 : decode cX1_share 6 = .ok (.iastore, 1) := by decide +kernel
theorem dX1_share_7 : decode cX1_share 7 = .ok (.iconst 0, 1) := by decide +kernel
theorem dX1_share_8 : decode cX1_share 8 = .ok (.istore_n 2, 1) := by decide +kernel
theorem dX1_share_9 : decode cX1_share 9 = .ok (.iload_n 2, 1) := by decide +kernel
theorem dX1_share_10 : decode cX1_share 10 = .ok (.iload_n 1, 1) := by decide +kernel
theorem dX1_share_11 : decode cX1_share 11 = .ok (.if_icmp .ge 81, 3) := by decide +kernel
theorem dX1_share_14 : decode cX1_share 14 = .ok (.iconst 0, 1) := by decide +kernel
theorem dX1_share_15 : decode cX1_share 15 = .ok (.istore_n 3, 1) := by decide +kernel
theorem dX1_share_16 : decode cX1_share 16 = .ok (.iload_n 3, 1) := by decide +kernel
theorem dX1_share_17 : decode cX1_share 17 = .ok (.iload_n 1, 1) := by decide +kernel
theorem dX1_share_18 : decode cX1_share 18 = .ok (.if_icmp .ge 68, 3) := by decide +kernel
theorem dX1_share_21 : decode cX1_share 21 = .ok (.iload_n 2, 1) := by decide +kernel
theorem dX1_share_22 : decode cX1_share 22 = .ok (.iload_n 1, 1) := by decide +kernel
theorem dX1_share_23 : decode cX1_share 23 = .ok (.invokestatic 97, 3) := by decide +kernel
theorem dX1_share_26 : decode cX1_share 26 = .ok (.ifCond .eq 60, 3) := by decide +kernel
theorem dX1_share_29 : decode cX1_share 29 = .ok (.iload_n 1, 1) := by decide +kernel
theorem dX1_share_30 : decode cX1_share 30 = .ok (.iload_n 2, 1) := by decide +kernel
theorem dX1_share_31 : decode cX1_share 31 = .ok (.iconst (-1), 1) := by decide +kernel
theorem dX1_share_32 : decode cX1_share 32 = .ok (.ixor, 1) := by decide +kernel
theorem dX1_share_33 : decode cX1_share 33 = .ok (.iand, 1) := by decide +kernel
theorem dX1_share_34 : decode cX1_share 34 = .ok (.iload_n 3, 1) := by decide +kernel
theorem dX1_share_35 : decode cX1_share 35 = .ok (.iconst (-1), 1) := by decide +kernel
theorem dX1_share_36 : decode cX1_share 36 = .ok (.ixor, 1) := by decide +kernel
theorem dX1_share_37 : decode cX1_share 37 = .ok (.iand, 1) := by decide +kernel
theorem dX1_share_38 : decode cX1_share 38 = .ok (.istore 4, 2) := by decide +kernel
theorem dX1_share_40 : decode cX1_share 40 = .ok (.iload_n 3, 1) := by decide +kernel
theorem dX1_share_41 : decode cX1_share 41 = .ok (.iload_n 1, 1) := by decide +kernel
theorem dX1_share_42 : decode cX1_share 42 = .ok (.iload_n 2, 1) := by decide +kernel
theorem dX1_share_43 : decode cX1_share 43 = .ok (.iconst (-1), 1) := by decide +kernel
theorem dX1_share_44 : decode cX1_share 44 = .ok (.ixor, 1) := by decide +kernel
theorem dX1_share_45 : decode cX1_share 45 = .ok (.iand, 1) := by decide +kernel
theorem dX1_share_46 : decode cX1_share 46 = .ok (.invokestatic 97, 3) := by decide +kernel
theorem dX1_share_49 : decode cX1_share 49 = .ok (.ifCond .eq 31, 3) := by decide +kernel
theorem dX1_share_52 : decode cX1_share 52 = .ok (.iload 4, 2) := by decide +kernel
theorem dX1_share_54 : decode cX1_share 54 = .ok (.iload_n 1, 1) := by decide +kernel
theorem dX1_share_55 : decode cX1_share 55 = .ok (.if_icmp .eq 25, 3) := by decide +kernel
theorem dX1_share_58 : decode cX1_share 58 = .ok (.iload 4, 2) := by decide +kernel
theorem dX1_share_60 : decode cX1_share 60 = .ok (.ifCond .eq 11, 3) := by decide +kernel
theorem dX1_share_63 : decode cX1_share 63 = .ok (.aload_n 0, 1) := by decide +kernel
theorem dX1_share_64 : decode cX1_share 64 = .ok (.getfield 67, 3) := by decide +kernel
theorem dX1_share_67 : decode cX1_share 67 = .ok (.iconst 3, 1) := by decide +kernel
theorem dX1_share_68 : decode cX1_share 68 = .ok (.if_icmp .ne 12, 3) := by decide +kernel
theorem dX1_share_71 : decode cX1_share 71 = .ok (.aload_n 0, 1) := by decide +kernel
theorem dX1_share_72 : decode cX1_share 72 = .ok (.iload_n 1, 1) := by decide +kernel
theorem dX1_share_73 : decode cX1_share 73 = .ok (.iload_n 2, 1) := by decide +kernel
theorem dX1_share_74 : decode cX1_share 74 = .ok (.iload_n 3, 1) := by decide +kernel
theorem dX1_share_75 : decode cX1_share 75 = .ok (.iload 4, 2) := by decide +kernel
theorem dX1_share_77 : decode cX1_share 77 = .ok (.invokevirtual 101, 3) := by decide +kernel
theorem dX1_share_80 : decode cX1_share 80 = .ok (.iinc 3 1, 3) := by decide +kernel
theorem dX1_share_83 : decode cX1_share 83 = .ok (.goto (-67), 3) := by decide +kernel
theorem dX1_share_86 : decode cX1_share 86 = .ok (.iinc 2 1, 3) := by decide +kernel
theorem dX1_share_89 : decode cX1_share 89 = .ok (.goto (-80), 3) := by decide +kernel
theorem dX1_share_92 : decode cX1_share 92 = .ok (.return_, 1) := by decide +kernel
theorem dX1_isPartOf_0 : decode cX1_isPartOf 0 = .ok (.iload_n 0, 1) := by decide +kernel
theorem dX1_isPartOf_1 : decode cX1_isPartOf 1 = .ok (.iload_n 1, 1) := by decide +kernel
theorem dX1_isPartOf_2 : decode cX1_isPartOf 2 = .ok (.iconst (-1), 1) := by decide +kernel
theorem dX1_isPartOf_3 : decode cX1_isPartOf 3 = .ok (.ixor, 1) := by decide +kernel
theorem dX1_isPartOf_4 : decode cX1_isPartOf 4 = .ok (.iand, 1) := by decide +kernel
theorem dX1_isPartOf_5 : decode cX1_isPartOf 5 = .ok (.ifCond .ne 7, 3) := by decide +kernel
theorem dX1_isPartOf_8 : decode cX1_isPartOf 8 = .ok (.iconst 1, 1) := by decide +kernel
theorem dX1_isPartOf_9 : decode cX1_isPartOf 9 = .ok (.goto 4, 3) := by decide +kernel
theorem dX1_isPartOf_12 : decode cX1_isPartOf 12 = .ok (.iconst 0, 1) := by decide +kernel
theorem dX1_isPartOf_13 : decode cX1_isPartOf 13 = .ok (.ireturn, 1) := by decide +kernel
theorem dX1_isSet_0 : decode cX1_isSet 0 = .ok (.iload_n 0, 1) := by decide +kernel
theorem dX1_isSet_1 : decode cX1_isSet 1 = .ok (.iconst 0, 1) := by decide +kernel
theorem dX1_isSet_2 : decode cX1_isSet 2 = .ok (.bipush 63, 2) := by decide +kernel
theorem dX1_isSet_4 : decode cX1_isSet 4 = .ok (.invokestatic 63, 3) := by decide +kernel
theorem dX1_isSet_7 : decode cX1_isSet 7 = .ok (.ireturn, 1) := by decide +kernel
theorem dX1_tryShares_0 : decode cX1_tryShares 0 = .ok (.iload_n 1, 1) := by decide +kernel
theorem dX1_tryShares_1 : decode cX1_tryShares 1 = .ok (.invokestatic 105, 3) := by decide +kernel
theorem dX1_tryShares_4 : decode cX1_tryShares 4 = .ok (.ifCond .eq 25, 3) := by decide +kernel
theorem dX1_tryShares_7 : decode cX1_tryShares 7 = .ok (.iload_n 2, 1) := by decide +kernel
theorem dX1_tryShares_8 : decode cX1_tryShares 8 = .ok (.invokestatic 105, 3) := by decide +kernel
theorem dX1_tryShares_11 : decode cX1_tryShares 11 = .ok (.ifCond .eq 18, 3) := by decide +kernel
theorem dX1_tryShares_14 : decode cX1_tryShares 14 = .ok (.iload_n 3, 1) := by decide +kernel
theorem dX1_tryShares_15 : decode cX1_tryShares 15 = .ok (.invokestatic 105, 3) := by decide +kernel
theorem dX1_tryShares_18 : decode cX1_tryShares 18 = .ok (.ifCond .eq 11, 3) := by decide +kernel
theorem dX1_tryShares_21 : decode cX1_tryShares 21 = .ok (.iload 4, 2) := by decide +kernel
theorem dX1_tryShares_23 : decode cX1_tryShares 23 = .ok (.invokestatic 105, 3) := by decide +kernel
theorem dX1_tryShares_26 : decode cX1_tryShares 26 = .ok (.ifCond .ne 4, 3) := by decide +kernel
theorem dX1_tryShares_29 : decode cX1_tryShares 29 = .ok (.return_, 1) := by decide +kernel
theorem dX1_tryShares_30 : decode cX1_tryShares 30 = .ok (.aload_n 0, 1) := by decide +kernel
theorem dX1_tryShares_31 : decode cX1_tryShares 31 = .ok (.getfield 21, 3) := by decide +kernel
theorem dX1_tryShares_34 : decode cX1_tryShares 34 = .ok (.iload_n 2, 1) := by decide +kernel
theorem dX1_tryShares_35 : decode cX1_tryShares 35 = .ok (.iaload, 1) := by decide +kernel
theorem dX1_tryShares_36 : decode cX1_tryShares 36 = .ok (.aload_n 0, 1) := by decide +kernel
theorem dX1_tryShares_37 : decode cX1_tryShares 37 = .ok (.getfield 15, 3) := by decide +kernel
theorem dX1_tryShares_40 : decode cX1_tryShares 40 = .ok (.iconst 0, 1) := by decide +kernel
theorem dX1_tryShares_41 : decode cX1_tryShares 41 = .ok (.iaload, 1) := by decide +kernel
theorem dX1_tryShares_42 : decode cX1_tryShares 42 = .ok (.aload_n 0, 1) := by decide +kernel
theorem dX1_tryShares_43 : decode cX1_tryShares 43 = .ok (.getfield 18, 3) := by decide +kernel
theorem dX1_tryShares_46 : decode cX1_tryShares 46 = .ok (.iload_n 2, 1) := by decide +kernel
theorem dX1_tryShares_47 : decode cX1_tryShares 47 = .ok (.iaload, 1) := by decide +kernel
theorem dX1_tryShares_48 : decode cX1_tryShares 48 = .ok (.imul, 1) := by decide +kernel
theorem dX1_tryShares_49 : decode cX1_tryShares 49 = .ok (.iadd, 1) := by decide +kernel
theorem dX1_tryShares_50 : decode cX1_tryShares 50 = .ok (.aload_n 0, 1) := by decide +kernel
theorem dX1_tryShares_51 : decode cX1_tryShares 51 = .ok (.getfield 21, 3) := by decide +kernel
theorem dX1_tryShares_54 : decode cX1_tryShares 54 = .ok (.iload_n 3, 1) := by decide +kernel
theorem dX1_tryShares_55 : decode cX1_tryShares 55 = .ok (.iaload, 1) := by decide +kernel
theorem dX1_tryShares_56 : decode cX1_tryShares 56 = .ok (.iadd, 1) := by decide +kernel
theorem dX1_tryShares_57 : decode cX1_tryShares 57 = .ok (.aload_n 0, 1) := by decide +kernel
theorem dX1_tryShares_58 : decode cX1_tryShares 58 = .ok (.getfield 15, 3) := by decide +kernel
theorem dX1_tryShares_61 : decode cX1_tryShares 61 = .ok (.iconst 1, 1) := by decide +kernel
theorem dX1_tryShares_62 : decode cX1_tryShares 62 = .ok (.iaload, 1) := by decide +kernel
theorem dX1_tryShares_63 : decode cX1_tryShares 63 = .ok (.aload_n 0, 1) := by decide +kernel
theorem dX1_tryShares_64 : decode cX1_tryShares 64 = .ok (.getfield 18, 3) := by decide +kernel
theorem dX1_tryShares_67 : decode cX1_tryShares 67 = .ok (.iload_n 3, 1) := by decide +kernel
theorem dX1_tryShares_68 : decode cX1_tryShares 68 = .ok (.iaload, 1) := by decide +kernel
theorem dX1_tryShares_69 : decode cX1_tryShares 69 = .ok (.imul, 1) := by decide +kernel
theorem dX1_tryShares_70 : decode cX1_tryShares 70 = .ok (.iadd, 1) := by decide +kernel
theorem dX1_tryShares_71 : decode cX1_tryShares 71 = .ok (.aload_n 0, 1) := by decide +kernel
theorem dX1_tryShares_72 : decode cX1_tryShares 72 = .ok (.getfield 21, 3) := by decide +kernel
theorem dX1_tryShares_75 : decode cX1_tryShares 75 = .ok (.iload 4, 2) := by decide +kernel
theorem dX1_tryShares_77 : decode cX1_tryShares 77 = .ok (.iaload, 1) := by decide +kernel
theorem dX1_tryShares_78 : decode cX1_tryShares 78 = .ok (.iadd, 1) := by decide +kernel
theorem dX1_tryShares_79 : decode cX1_tryShares 79 = .ok (.iload 4, 2) := by decide +kernel
theorem dX1_tryShares_81 : decode cX1_tryShares 81 = .ok (.ifCond .ne 7, 3) := by decide +kernel
theorem dX1_tryShares_84 : decode cX1_tryShares 84 = .ok (.iconst 0, 1) := by decide +kernel
theorem dX1_tryShares_85 : decode cX1_tryShares 85 = .ok (.goto 17, 3) := by decide +kernel
theorem dX1_tryShares_88 : decode cX1_tryShares 88 = .ok (.aload_n 0, 1) := by decide +kernel
theorem dX1_tryShares_89 : decode cX1_tryShares 89 = .ok (.getfield 15, 3) := by decide +kernel
theorem dX1_tryShares_92 : decode cX1_tryShares 92 = .ok (.iconst 2, 1) := by decide +kernel
theorem dX1_tryShares_93 : decode cX1_tryShares 93 = .ok (.iaload, 1) := by decide +kernel
theorem dX1_tryShares_94 : decode cX1_tryShares 94 = .ok (.aload_n 0, 1) := by decide +kernel
theorem dX1_tryShares_95 : decode cX1_tryShares 95 = .ok (.getfield 18, 3) := by decide +kernel
theorem dX1_tryShares_98 : decode cX1_tryShares 98 = .ok (.iload 4, 2) := by decide +kernel
theorem dX1_tryShares_100 : decode cX1_tryShares 100 = .ok (.iaload, 1) := by decide +kernel
theorem dX1_tryShares_101 : decode cX1_tryShares 101 = .ok (.imul, 1) := by decide +kernel
theorem dX1_tryShares_102 : decode cX1_tryShares 102 = .ok (.iadd, 1) := by decide +kernel
theorem dX1_tryShares_103 : decode cX1_tryShares 103 = .ok (.istore 5, 2) := by decide +kernel
theorem dX1_tryShares_105 : decode cX1_tryShares 105 = .ok (.aload_n 0, 1) := by decide +kernel
theorem dX1_tryShares_106 : decode cX1_tryShares 106 = .ok (.getfield 21, 3) := by decide +kernel
theorem dX1_tryShares_109 : decode cX1_tryShares 109 = .ok (.iload_n 1, 1) := by decide +kernel
theorem dX1_tryShares_110 : decode cX1_tryShares 110 = .ok (.iaload, 1) := by decide +kernel
theorem dX1_tryShares_111 : decode cX1_tryShares 111 = .ok (.iconst (-1), 1) := by decide +kernel
theorem dX1_tryShares_112 : decode cX1_tryShares 112 = .ok (.if_icmp .eq 15, 3) := by decide +kernel
theorem dX1_tryShares_115 : decode cX1_tryShares 115 = .ok (.iload 5, 2) := by decide +kernel
theorem dX1_tryShares_117 : decode cX1_tryShares 117 = .ok (.aload_n 0, 1) := by decide +kernel
theorem dX1_tryShares_118 : decode cX1_tryShares 118 = .ok (.getfield 21, 3) := by decide +kernel
theorem dX1_tryShares_121 : decode cX1_tryShares 121 = .ok (.iload_n 1, 1) := by decide +kernel
theorem dX1_tryShares_122 : decode cX1_tryShares 122 = .ok (.iaload, 1) := by decide +kernel
theorem dX1_tryShares_123 : decode cX1_tryShares 123 = .ok (.if_icmp .le 4, 3) := by decide +kernel
theorem dX1_tryShares_126 : decode cX1_tryShares 126 = .ok (.return_, 1) := by decide +kernel
theorem dX1_tryShares_127 : decode cX1_tryShares 127 = .ok (.iconst 0, 1) := by decide +kernel
theorem dX1_tryShares_128 : decode cX1_tryShares 128 = .ok (.istore 6, 2) := by decide +kernel
theorem dX1_tryShares_130 : decode cX1_tryShares 130 = .ok (.iload 6, 2) := by decide +kernel
theorem dX1_tryShares_132 : decode cX1_tryShares 132 = .ok (.bipush 6, 2) := by decide +kernel
theorem dX1_tryShares_134 : decode cX1_tryShares 134 = .ok (.if_icmp .ge 117, 3) := by decide +kernel
theorem dX1_tryShares_137 : decode cX1_tryShares 137 = .ok (.iload_n 2, 1) := by decide +kernel
theorem dX1_tryShares_138 : decode cX1_tryShares 138 = .ok (.iload 6, 2) := by decide +kernel
theorem dX1_tryShares_140 : decode cX1_tryShares 140 = .ok (.ishr, 1) := by decide +kernel
theorem dX1_tryShares_141 : decode cX1_tryShares 141 = .ok (.iconst 1, 1) := by decide +kernel
theorem dX1_tryShares_142 : decode cX1_tryShares 142 = .ok (.iand, 1) := by decide +kernel
theorem dX1_tryShares_143 : decode cX1_tryShares 143 = .ok (.iconst 1, 1) := by decide +kernel
theorem dX1_tryShares_144 : decode cX1_tryShares 144 = .ok (.if_icmp .ne 7, 3) := by decide +kernel
theorem dX1_tryShares_147 : decode cX1_tryShares 147 = .ok (.iconst 0, 1) := by decide +kernel
theorem dX1_tryShares_148 : decode cX1_tryShares 148 = .ok (.goto 18, 3) := by decide +kernel
theorem dX1_tryShares_151 : decode cX1_tryShares 151 = .ok (.iload_n 3, 1) := by decide +kernel
theorem dX1_tryShares_152 : decode cX1_tryShares 152 = .ok (.iload 6, 2) := by decide +kernel
theorem dX1_tryShares_154 : decode cX1_tryShares 154 = .ok (.ishr, 1) := by decide +kernel
theorem dX1_tryShares_155 : decode cX1_tryShares 155 = .ok (.iconst 1, 1) := by decide +kernel
theorem dX1_tryShares_156 : decode cX1_tryShares 156 = .ok (.iand, 1) := by decide +kernel
theorem dX1_tryShares_157 : decode cX1_tryShares 157 = .ok (.iconst 1, 1) := by decide +kernel
theorem dX1_tryShares_158 : decode cX1_tryShares 158 = .ok (.if_icmp .ne 7, 3) := by decide +kernel
theorem dX1_tryShares_161 : decode cX1_tryShares 161 = .ok (.iconst 1, 1) := by decide +kernel
theorem dX1_tryShares_162 : decode cX1_tryShares 162 = .ok (.goto 4, 3) := by decide +kernel
theorem dX1_tryShares_165 : decode cX1_tryShares 165 = .ok (.iconst 2, 1) := by decide +kernel
theorem dX1_tryShares_166 : decode cX1_tryShares 166 = .ok (.istore 7, 2) := by decide +kernel
theorem dX1_tryShares_168 : decode cX1_tryShares 168 = .ok (.iload 7, 2) := by decide +kernel
theorem dX1_tryShares_170 : decode cX1_tryShares 170 = .ok (.ifCond .ne 7, 3) := by decide +kernel
theorem dX1_tryShares_173 : decode cX1_tryShares 173 = .ok (.iload_n 2, 1) := by decide +kernel
theorem dX1_tryShares_174 : decode cX1_tryShares 174 = .ok (.goto 15, 3) := by decide +kernel
theorem dX1_tryShares_177 : decode cX1_tryShares 177 = .ok (.iload 7, 2) := by decide +kernel
theorem dX1_tryShares_179 : decode cX1_tryShares 179 = .ok (.iconst 1, 1) := by decide +kernel
theorem dX1_tryShares_180 : decode cX1_tryShares 180 = .ok (.if_icmp .ne 7, 3) := by decide +kernel
theorem dX1_tryShares_183 : decode cX1_tryShares 183 = .ok (.iload_n 3, 1) := by decide +kernel
theorem dX1_tryShares_184 : decode cX1_tryShares 184 = .ok (.goto 5, 3) := by decide +kernel
theorem dX1_tryShares_187 : decode cX1_tryShares 187 = .ok (.iload 4, 2) := by decide +kernel
theorem dX1_tryShares_189 : decode cX1_tryShares 189 = .ok (.istore 8, 2) := by decide +kernel
theorem dX1_tryShares_191 : decode cX1_tryShares 191 = .ok (.iload_n 1, 1) := by decide +kernel
theorem dX1_tryShares_192 : decode cX1_tryShares 192 = .ok (.iload 6, 2) := by decide +kernel
theorem dX1_tryShares_194 : decode cX1_tryShares 194 = .ok (.ishr, 1) := by decide +kernel
theorem dX1_tryShares_195 : decode cX1_tryShares 195 = .ok (.iconst 1, 1) := by decide +kernel
theorem dX1_tryShares_196 : decode cX1_tryShares 196 = .ok (.iand, 1) := by decide +kernel
theorem dX1_tryShares_197 : decode cX1_tryShares 197 = .ok (.iconst 1, 1) := by decide +kernel
theorem dX1_tryShares_198 : decode cX1_tryShares 198 = .ok (.if_icmp .ne 7, 3) := by decide +kernel
theorem dX1_tryShares_201 : decode cX1_tryShares 201 = .ok (.iconst 1, 1) := by decide +kernel
theorem dX1_tryShares_202 : decode cX1_tryShares 202 = .ok (.goto 4, 3) := by decide +kernel
theorem dX1_tryShares_205 : decode cX1_tryShares 205 = .ok (.iconst 0, 1) := by decide +kernel
theorem dX1_tryShares_206 : decode cX1_tryShares 206 = .ok (.istore 9, 2) := by decide +kernel
theorem dX1_tryShares_208 : decode cX1_tryShares 208 = .ok (.aload_n 0, 1) := by decide +kernel
theorem dX1_tryShares_209 : decode cX1_tryShares 209 = .ok (.getfield 27, 3) := by decide +kernel
theorem dX1_tryShares_212 : decode cX1_tryShares 212 = .ok (.iload 6, 2) := by decide +kernel
theorem dX1_tryShares_214 : decode cX1_tryShares 214 = .ok (.iload 9, 2) := by decide +kernel
theorem dX1_tryShares_216 : decode cX1_tryShares 216 = .ok (.ifCond .eq 27, 3) := by decide +kernel
theorem dX1_tryShares_219 : decode cX1_tryShares 219 = .ok (.aload_n 0, 1) := by decide +kernel
theorem dX1_tryShares_220 : decode cX1_tryShares 220 = .ok (.getfield 24, 3) := by decide +kernel
theorem dX1_tryShares_223 : decode cX1_tryShares 223 = .ok (.iload 8, 2) := by decide +kernel
theorem dX1_tryShares_225 : decode cX1_tryShares 225 = .ok (.bipush 6, 2) := by decide +kernel
theorem dX1_tryShares_227 : decode cX1_tryShares 227 = .ok (.imul, 1) := by decide +kernel
theorem dX1_tryShares_228 : decode cX1_tryShares 228 = .ok (.iload 6, 2) := by decide +kernel
theorem dX1_tryShares_230 : decode cX1_tryShares 230 = .ok (.iadd, 1) := by decide +kernel
theorem dX1_tryShares_231 : decode cX1_tryShares 231 = .ok (.iaload, 1) := by decide +kernel
theorem dX1_tryShares_232 : decode cX1_tryShares 232 = .ok (.aload_n 0, 1) := by decide +kernel
theorem dX1_tryShares_233 : decode cX1_tryShares 233 = .ok (.getfield 15, 3) := by decide +kernel
theorem dX1_tryShares_236 : decode cX1_tryShares 236 = .ok (.iload 7, 2) := by decide +kernel
theorem dX1_tryShares_238 : decode cX1_tryShares 238 = .ok (.iaload, 1) := by decide +kernel
theorem dX1_tryShares_239 : decode cX1_tryShares 239 = .ok (.iadd, 1) := by decide +kernel
theorem dX1_tryShares_240 : decode cX1_tryShares 240 = .ok (.goto 4, 3) := by decide +kernel
theorem dX1_tryShares_243 : decode cX1_tryShares 243 = .ok (.iconst 0, 1) := by decide +kernel
theorem dX1_tryShares_244 : decode cX1_tryShares 244 = .ok (.iastore, 1) := by decide +kernel
theorem dX1_tryShares_245 : decode cX1_tryShares 245 = .ok (.iinc 6 1, 3) := by decide +kernel
theorem dX1_tryShares_248 : decode cX1_tryShares 248 = .ok (.goto (-118), 3) := by decide +kernel
theorem dX1_tryShares_251 : decode cX1_tryShares 251 = .ok (.aload_n 0, 1) := by decide +kernel
theorem dX1_tryShares_252 : decode cX1_tryShares 252 = .ok (.getfield 21, 3) := by decide +kernel
theorem dX1_tryShares_255 : decode cX1_tryShares 255 = .ok (.iload_n 1, 1) := by decide +kernel
theorem dX1_tryShares_256 : decode cX1_tryShares 256 = .ok (.iaload, 1) := by decide +kernel
theorem dX1_tryShares_257 : decode cX1_tryShares 257 = .ok (.iconst (-1), 1) := by decide +kernel
theorem dX1_tryShares_258 : decode cX1_tryShares 258 = .ok (.if_icmp .eq 22, 3) := by decide +kernel
theorem dX1_tryShares_261 : decode cX1_tryShares 261 = .ok (.iload 5, 2) := by decide +kernel
theorem dX1_tryShares_263 : decode cX1_tryShares 263 = .ok (.aload_n 0, 1) := by decide +kernel
theorem dX1_tryShares_264 : decode cX1_tryShares 264 = .ok (.getfield 21, 3) := by decide +kernel
theorem dX1_tryShares_267 : decode cX1_tryShares 267 = .ok (.iload_n 1, 1) := by decide +kernel
theorem dX1_tryShares_268 : decode cX1_tryShares 268 = .ok (.iaload, 1) := by decide +kernel
theorem dX1_tryShares_269 : decode cX1_tryShares 269 = .ok (.if_icmp .lt 11, 3) := by decide +kernel
theorem dX1_tryShares_272 : decode cX1_tryShares 272 = .ok (.aload_n 0, 1) := by decide +kernel
theorem dX1_tryShares_273 : decode cX1_tryShares 273 = .ok (.iload_n 1, 1) := by decide +kernel
theorem dX1_tryShares_274 : decode cX1_tryShares 274 = .ok (.invokevirtual 108, 3) := by decide +kernel
theorem dX1_tryShares_277 : decode cX1_tryShares 277 = .ok (.ifCond .eq 29, 3) := by decide +kernel
theorem dX1_tryShares_280 : decode cX1_tryShares 280 = .ok (.aload_n 0, 1) := by decide +kernel
theorem dX1_tryShares_281 : decode cX1_tryShares 281 = .ok (.getfield 21, 3) := by decide +kernel
theorem dX1_tryShares_284 : decode cX1_tryShares 284 = .ok (.iload_n 1, 1) := by decide +kernel
theorem dX1_tryShares_285 : decode cX1_tryShares 285 = .ok (.iload 5, 2) := by decide +kernel
theorem dX1_tryShares_287 : decode cX1_tryShares 287 = .ok (.iastore, 1) := by decide +kernel
theorem dX1_tryShares_288 : decode cX1_tryShares 288 = .ok (.aload_n 0, 1) := by decide +kernel
theorem dX1_tryShares_289 : decode cX1_tryShares 289 = .ok (.getfield 27, 3) := by decide +kernel
theorem dX1_tryShares_292 : decode cX1_tryShares 292 = .ok (.iconst 0, 1) := by decide +kernel
theorem dX1_tryShares_293 : decode cX1_tryShares 293 = .ok (.aload_n 0, 1) := by decide +kernel
theorem dX1_tryShares_294 : decode cX1_tryShares 294 = .ok (.getfield 24, 3) := by decide +kernel
theorem dX1_tryShares_297 : decode cX1_tryShares 297 = .ok (.iload_n 1, 1) := by decide +kernel
theorem dX1_tryShares_298 : decode cX1_tryShares 298 = .ok (.bipush 6, 2) := by decide +kernel
theorem dX1_tryShares_300 : decode cX1_tryShares 300 = .ok (.imul, 1) := by decide +kernel
theorem dX1_tryShares_301 : decode cX1_tryShares 301 = .ok (.bipush 6, 2) := by decide +kernel
theorem dX1_tryShares_303 : decode cX1_tryShares 303 = .ok (.invokestatic 111, 3) := by decide +kernel
theorem dX1_tryShares_306 : decode cX1_tryShares 306 = .ok (.return_, 1) := by decide +kernel
theorem dX1_isTrialAhead_0 : decode cX1_isTrialAhead 0 = .ok (.iconst 0, 1) := by decide +kernel
theorem dX1_isTrialAhead_1 : decode cX1_isTrialAhead 1 = .ok (.istore_n 2, 1) := by decide +kernel
theorem dX1_isTrialAhead_2 : decode cX1_isTrialAhead 2 = .ok (.iload_n 2, 1) := by decide +kernel
theorem dX1_isTrialAhead_3 : decode cX1_isTrialAhead 3 = .ok (.bipush 6, 2) := by decide +kernel
theorem dX1_isTrialAhead_5 : decode cX1_isTrialAhead 5 = .ok (.if_icmp .ge 55, 3) := by decide +kernel
theorem dX1_isTrialAhead_8 : decode cX1_isTrialAhead 8 = .ok (.aload_n 0, 1) := by decide +kernel
theorem dX1_isTrialAhead_9 : decode cX1_isTrialAhead 9 = .ok (.getfield 27, 3) := by decide +kernel
theorem dX1_isTrialAhead_12 : decode cX1_isTrialAhead 12 = .ok (.iload_n 2, 1) := by decide +kernel
theorem dX1_isTrialAhead_13 : decode cX1_isTrialAhead 13 = .ok (.iaload, 1) := by decide +kernel
theorem dX1_isTrialAhead_14 : decode cX1_isTrialAhead 14 = .ok (.aload_n 0, 1) := by decide +kernel
theorem dX1_isTrialAhead_15 : decode cX1_isTrialAhead 15 = .ok (.getfield 24, 3) := by decide +kernel
theorem dX1_isTrialAhead_18 : decode cX1_isTrialAhead 18 = .ok (.iload_n 1, 1) := by decide +kernel
theorem dX1_isTrialAhead_19 : decode cX1_isTrialAhead 19 = .ok (.bipush 6, 2) := by decide +kernel
theorem dX1_isTrialAhead_21 : decode cX1_isTrialAhead 21 = .ok (.imul, 1) := by decide +kernel
theorem dX1_isTrialAhead_22 : decode cX1_isTrialAhead 22 = .ok (.iload_n 2, 1) := by decide +kernel
theorem dX1_isTrialAhead_23 : decode cX1_isTrialAhead 23 = .ok (.iadd, 1) := by decide +kernel
theorem dX1_isTrialAhead_24 : decode cX1_isTrialAhead 24 = .ok (.iaload, 1) := by decide +kernel
theorem dX1_isTrialAhead_25 : decode cX1_isTrialAhead 25 = .ok (.if_icmp .eq 29, 3) := by decide +kernel
theorem dX1_isTrialAhead_28 : decode cX1_isTrialAhead 28 = .ok (.aload_n 0, 1) := by decide +kernel
theorem dX1_isTrialAhead_29 : decode cX1_isTrialAhead 29 = .ok (.getfield 27, 3) := by decide +kernel
theorem dX1_isTrialAhead_32 : decode cX1_isTrialAhead 32 = .ok (.iload_n 2, 1) := by decide +kernel
theorem dX1_isTrialAhead_33 : decode cX1_isTrialAhead 33 = .ok (.iaload, 1) := by decide +kernel
theorem dX1_isTrialAhead_34 : decode cX1_isTrialAhead 34 = .ok (.aload_n 0, 1) := by decide +kernel
theorem dX1_isTrialAhead_35 : decode cX1_isTrialAhead 35 = .ok (.getfield 24, 3) := by decide +kernel
theorem dX1_isTrialAhead_38 : decode cX1_isTrialAhead 38 = .ok (.iload_n 1, 1) := by decide +kernel
theorem dX1_isTrialAhead_39 : decode cX1_isTrialAhead 39 = .ok (.bipush 6, 2) := by decide +kernel
theorem dX1_isTrialAhead_41 : decode cX1_isTrialAhead 41 = .ok (.imul, 1) := by decide +kernel
theorem dX1_isTrialAhead_42 : decode cX1_isTrialAhead 42 = .ok (.iload_n 2, 1) := by decide +kernel
theorem dX1_isTrialAhead_43 : decode cX1_isTrialAhead 43 = .ok (.iadd, 1) := by decide +kernel
theorem dX1_isTrialAhead_44 : decode cX1_isTrialAhead 44 = .ok (.iaload, 1) := by decide +kernel
theorem dX1_isTrialAhead_45 : decode cX1_isTrialAhead 45 = .ok (.if_icmp .ge 7, 3) := by decide +kernel
theorem dX1_isTrialAhead_48 : decode cX1_isTrialAhead 48 = .ok (.iconst 1, 1) := by decide +kernel
theorem dX1_isTrialAhead_49 : decode cX1_isTrialAhead 49 = .ok (.goto 4, 3) := by decide +kernel
theorem dX1_isTrialAhead_52 : decode cX1_isTrialAhead 52 = .ok (.iconst 0, 1) := by decide +kernel
theorem dX1_isTrialAhead_53 : decode cX1_isTrialAhead 53 = .ok (.ireturn, 1) := by decide +kernel
theorem dX1_isTrialAhead_54 : decode cX1_isTrialAhead 54 = .ok (.iinc 2 1, 3) := by decide +kernel
theorem dX1_isTrialAhead_57 : decode cX1_isTrialAhead 57 = .ok (.goto (-55), 3) := by decide +kernel
theorem dX1_isTrialAhead_60 : decode cX1_isTrialAhead 60 = .ok (.iconst 0, 1) := by decide +kernel
theorem dX1_isTrialAhead_61 : decode cX1_isTrialAhead 61 = .ok (.ireturn, 1) := by decide +kernel
theorem dX2_init_0 : decode cX2_init 0 = .ok (.aload_n 0, 1) := by decide +kernel
theorem dX2_init_1 : decode cX2_init 1 = .ok (.invokespecial 3, 3) := by decide +kernel
theorem dX2_init_4 : decode cX2_init 4 = .ok (.aload_n 0, 1) := by decide +kernel
theorem dX2_init_5 : decode cX2_init 5 = .ok (.sipush 504, 3) := by decide +kernel
theorem dX2_init_8 : decode cX2_init 8 = .ok (.newarray .int, 2) := by decide +kernel
theorem dX2_init_10 : decode cX2_init 10 = .ok (.putfield 13, 3) := by decide +kernel
theorem dX2_init_13 : decode cX2_init 13 = .ok (.aload_n 0, 1) := by decide +kernel
theorem dX2_init_14 : decode cX2_init 14 = .ok (.aload_n 1, 1) := by decide +kernel
theorem dX2_init_15 : decode cX2_init 15 = .ok (.putfield 17, 3) := by decide +kernel
theorem dX2_init_18 : decode cX2_init 18 = .ok (.return_, 1) := by decide +kernel
theorem dX2_foreseeAll_0 : decode cX2_foreseeAll 0 = .ok (.iconst 1, 1) := by decide +kernel
theorem dX2_foreseeAll_1 : decode cX2_foreseeAll 1 = .ok (.istore 4, 2) := by decide +kernel
theorem dX2_foreseeAll_3 : decode cX2_foreseeAll 3 = .ok (.iload 4, 2) := by decide +kernel
theorem dX2_foreseeAll_5 : decode cX2_foreseeAll 5 = .ok (.iload_n 3, 1) := by decide +kernel
theorem dX2_foreseeAll_6 : decode cX2_foreseeAll 6 = .ok (.if_icmp .gt 56, 3) := by decide +kernel
theorem dX2_foreseeAll_9 : decode cX2_foreseeAll 9 = .ok (.iconst 0, 1) := by decide +kernel
theorem dX2_foreseeAll_10 : decode cX2_foreseeAll 10 = .ok (.istore 5, 2) := by decide +kernel
theorem dX2_foreseeAll_12 : decode cX2_foreseeAll 12 = .ok (.iload 5, 2) := by decide +kernel
theorem dX2_foreseeAll_14 : decode cX2_foreseeAll 14 = .ok (.aload_n 2, 1) := by decide +kernel
theorem dX2_foreseeAll_15 : decode cX2_foreseeAll 15 = .ok (.getfield 21, 3) := by decide +kernel
theorem dX2_foreseeAll_18 : decode cX2_foreseeAll 18 = .ok (.getfield 25, 3) := by decide +kernel
theorem dX2_foreseeAll_21 : decode cX2_foreseeAll 21 = .ok (.if_icmp .ge 35, 3) := by decide +kernel
theorem dX2_foreseeAll_24 : decode cX2_foreseeAll 24 = .ok (.aload_n 2, 1) := by decide +kernel
theorem dX2_foreseeAll_25 : decode cX2_foreseeAll 25 = .ok (.iload 5, 2) := by decide +kernel
theorem dX2_foreseeAll_27 : decode cX2_foreseeAll 27 = .ok (.invokevirtual 31, 3) := by decide +kernel
theorem dX2_foreseeAll_30 : decode cX2_foreseeAll 30 = .ok (.ifCond .eq 20, 3) := by decide +kernel
theorem dX2_foreseeAll_33 : decode cX2_foreseeAll 33 = .ok (.aload_n 0, 1) := by decide +kernel
theorem dX2_foreseeAll_34 : decode cX2_foreseeAll 34 = .ok (.aload_n 1, 1) := by decide +kernel
theorem dX2_foreseeAll_35 : decode cX2_foreseeAll 35 = .ok (.aload_n 2, 1) := by decide +kernel
theorem dX2_foreseeAll_36 : decode cX2_foreseeAll 36 = .ok (.iload 5, 2) := by decide +kernel
theorem dX2_foreseeAll_38 : decode cX2_foreseeAll 38 = .ok (.iload 4, 2) := by decide +kernel
theorem dX2_foreseeAll_40 : decode cX2_foreseeAll 40 = .ok (.aload_n 2, 1) := by decide +kernel
theorem dX2_foreseeAll_41 : decode cX2_foreseeAll 41 = .ok (.getfield 35, 3) := by decide +kernel
theorem dX2_foreseeAll_44 : decode cX2_foreseeAll 44 = .ok (.iload 4, 2) := by decide +kernel
theorem dX2_foreseeAll_46 : decode cX2_foreseeAll 46 = .ok (.iadd, 1) := by decide +kernel
theorem dX2_foreseeAll_47 : decode cX2_foreseeAll 47 = .ok (.invokevirtual 38, 3) := by decide +kernel
theorem dX2_foreseeAll_50 : decode cX2_foreseeAll 50 = .ok (.iinc 5 1, 3) := by decide +kernel
theorem dX2_foreseeAll_53 : decode cX2_foreseeAll 53 = .ok (.goto (-41), 3) := by decide +kernel
theorem dX2_foreseeAll_56 : decode cX2_foreseeAll 56 = .ok (.iinc 4 1, 3) := by decide +kernel
theorem dX2_foreseeAll_59 : decode cX2_foreseeAll 59 = .ok (.goto (-56), 3) := by decide +kernel
theorem dX2_foreseeAll_62 : decode cX2_foreseeAll 62 = .ok (.return_, 1) := by decide +kernel
theorem dX2_foresee_0 : decode cX2_foresee 0 = .ok (.iload_n 3, 1) := by decide +kernel
theorem dX2_foresee_1 : decode cX2_foresee 1 = .ok (.iload 4, 2) := by decide +kernel
theorem dX2_foresee_3 : decode cX2_foresee 3 = .ok (.invokestatic 42, 3) := by decide +kernel
theorem dX2_foresee_6 : decode cX2_foresee 6 = .ok (.ifCond .ne 4, 3) := by decide +kernel
theorem dX2_foresee_9 : decode cX2_foresee 9 = .ok (.return_, 1) := by decide +kernel
theorem dX2_foresee_10 : decode cX2_foresee 10 = .ok (.aload_n 0, 1) := by decide +kernel
theorem dX2_foresee_11 : decode cX2_foresee 11 = .ok (.getfield 17, 3) := by decide +kernel
theorem dX2_foresee_14 : decode cX2_foresee 14 = .ok (.aload_n 1, 1) := by decide +kernel
theorem dX2_foresee_15 : decode cX2_foresee 15 = .ok (.aload_n 2, 1) := by decide +kernel
theorem dX2_foresee_16 : decode cX2_foresee 16 = .ok (.iload_n 3, 1) := by decide +kernel
theorem dX2_foresee_17 : decode cX2_foresee 17 = .ok (.iload 5, 2) := by decide +kernel
theorem dX2_foresee_19 : decode cX2_foresee 19 = .ok (.invokevirtual 46, 3) := by decide +kernel
theorem dX2_foresee_22 : decode cX2_foresee 22 = .ok (.aload_n 0, 1) := by decide +kernel
theorem dX2_foresee_23 : decode cX2_foresee 23 = .ok (.getfield 17, 3) := by decide +kernel
theorem dX2_foresee_26 : decode cX2_foresee 26 = .ok (.aload_n 1, 1) := by decide +kernel
theorem dX2_foresee_27 : decode cX2_foresee 27 = .ok (.iconst 2, 1) := by decide +kernel
theorem dX2_foresee_28 : decode cX2_foresee 28 = .ok (.iconst 0, 1) := by decide +kernel
theorem dX2_foresee_29 : decode cX2_foresee 29 = .ok (.iconst 0, 1) := by decide +kernel
theorem dX2_foresee_30 : decode cX2_foresee 30 = .ok (.iconst 1, 1) := by decide +kernel
theorem dX2_foresee_31 : decode cX2_foresee 31 = .ok (.invokevirtual 52, 3) := by decide +kernel
theorem dX2_foresee_34 : decode cX2_foresee 34 = .ok (.iconst 1, 1) := by decide +kernel
theorem dX2_foresee_35 : decode cX2_foresee 35 = .ok (.if_icmp .ne 7, 3) := by decide +kernel
theorem dX2_foresee_38 : decode cX2_foresee 38 = .ok (.iconst 1, 1) := by decide +kernel
theorem dX2_foresee_39 : decode cX2_foresee 39 = .ok (.goto 4, 3) := by decide +kernel
theorem dX2_foresee_42 : decode cX2_foresee 42 = .ok (.iconst 0, 1) := by decide +kernel
theorem dX2_foresee_43 : decode cX2_foresee 43 = .ok (.istore 6, 2) := by decide +kernel
theorem dX2_foresee_45 : decode cX2_foresee 45 = .ok (.aload_n 2, 1) := by decide +kernel
theorem dX2_foresee_46 : decode cX2_foresee 46 = .ok (.getfield 21, 3) := by decide +kernel
theorem dX2_foresee_49 : decode cX2_foresee 49 = .ok (.iload_n 3, 1) := by decide +kernel
theorem dX2_foresee_50 : decode cX2_foresee 50 = .ok (.iconst 2, 1) := by decide +kernel
theorem dX2_foresee_51 : decode cX2_foresee 51 = .ok (.invokevirtual 56, 3) := by decide +kernel
theorem dX2_foresee_54 : decode cX2_foresee 54 = .ok (.istore 7, 2) := by decide +kernel
theorem dX2_foresee_56 : decode cX2_foresee 56 = .ok (.aload_n 0, 1) := by decide +kernel
theorem dX2_foresee_57 : decode cX2_foresee 57 = .ok (.getfield 13, 3) := by decide +kernel
theorem dX2_foresee_60 : decode cX2_foresee 60 = .ok (.iload 4, 2) := by decide +kernel
theorem dX2_foresee_62 : decode cX2_foresee 62 = .ok (.bipush 24, 2) := by decide +kernel
theorem dX2_foresee_64 : decode cX2_foresee 64 = .ok (.imul, 1) := by decide +kernel
theorem dX2_foresee_65 : decode cX2_foresee 65 = .ok (.iload_n 3, 1) := by decide +kernel
theorem dX2_foresee_66 : decode cX2_foresee 66 = .ok (.iadd, 1) := by decide +kernel
theorem dX2_foresee_67 : decode cX2_foresee 67 = .ok (.iload 6, 2) := by decide +kernel
theorem dX2_foresee_69 : decode cX2_foresee 69 = .ok (.ifCond .eq 8, 3) := by decide +kernel
theorem dX2_foresee_72 : decode cX2_foresee 72 = .ok (.ldc 60, 2) := by decide +kernel
theorem dX2_foresee_74 : decode cX2_foresee 74 = .ok (.goto 20, 3) := by decide +kernel
theorem dX2_foresee_77 : decode cX2_foresee 77 = .ok (.aload_n 0, 1) := by decide +kernel
theorem dX2_foresee_78 : decode cX2_foresee 78 = .ok (.getfield 17, 3) := by decide +kernel
theorem dX2_foresee_81 : decode cX2_foresee 81 = .ok (.aload_n 1, 1) := by decide +kernel
theorem dX2_foresee_82 : decode cX2_foresee 82 = .ok (.iconst 0, 1) := by decide +kernel
theorem dX2_foresee_83 : decode cX2_foresee 83 = .ok (.iload 7, 2) := by decide +kernel
theorem dX2_foresee_85 : decode cX2_foresee 85 = .ok (.sipush (-9999), 3) := by decide +kernel
theorem dX2_foresee_88 : decode cX2_foresee 88 = .ok (.sipush 9999, 3) := by decide +kernel
theorem dX2_foresee_91 : decode cX2_foresee 91 = .ok (.invokevirtual 52, 3) := by decide +kernel
theorem dX2_foresee_94 : decode cX2_foresee 94 = .ok (.iastore, 1) := by decide +kernel
theorem dX2_foresee_95 : decode cX2_foresee 95 = .ok (.return_, 1) := by decide +kernel
theorem dX2_isForeseen_0 : decode cX2_isForeseen 0 = .ok (.iload_n 0, 1) := by decide +kernel
theorem dX2_isForeseen_1 : decode cX2_isForeseen 1 = .ok (.iconst 0, 1) := by decide +kernel
theorem dX2_isForeseen_2 : decode cX2_isForeseen 2 = .ok (.bipush 23, 2) := by decide +kernel
theorem dX2_isForeseen_4 : decode cX2_isForeseen 4 = .ok (.invokestatic 61, 3) := by decide +kernel
theorem dX2_isForeseen_7 : decode cX2_isForeseen 7 = .ok (.ifCond .eq 17, 3) := by decide +kernel
theorem dX2_isForeseen_10 : decode cX2_isForeseen 10 = .ok (.iload_n 1, 1) := by decide +kernel
theorem dX2_isForeseen_11 : decode cX2_isForeseen 11 = .ok (.iconst 0, 1) := by decide +kernel
theorem dX2_isForeseen_12 : decode cX2_isForeseen 12 = .ok (.bipush 20, 2) := by decide +kernel
theorem dX2_isForeseen_14 : decode cX2_isForeseen 14 = .ok (.invokestatic 61, 3) := by decide +kernel
theorem dX2_isForeseen_17 : decode cX2_isForeseen 17 = .ok (.ifCond .eq 7, 3) := by decide +kernel
theorem dX2_isForeseen_20 : decode cX2_isForeseen 20 = .ok (.iconst 1, 1) := by decide +kernel
theorem dX2_isForeseen_21 : decode cX2_isForeseen 21 = .ok (.goto 4, 3) := by decide +kernel
theorem dX2_isForeseen_24 : decode cX2_isForeseen 24 = .ok (.iconst 0, 1) := by decide +kernel
theorem dX2_isForeseen_25 : decode cX2_isForeseen 25 = .ok (.ireturn, 1) := by decide +kernel
theorem dX2_lowest_0 : decode cX2_lowest 0 = .ok (.iconst (-1), 1) := by decide +kernel
theorem dX2_lowest_1 : decode cX2_lowest 1 = .ok (.istore_n 3, 1) := by decide +kernel
theorem dX2_lowest_2 : decode cX2_lowest 2 = .ok (.ldc 60, 2) := by decide +kernel
theorem dX2_lowest_4 : decode cX2_lowest 4 = .ok (.istore 4, 2) := by decide +kernel
theorem dX2_lowest_6 : decode cX2_lowest 6 = .ok (.iconst 0, 1) := by decide +kernel
theorem dX2_lowest_7 : decode cX2_lowest 7 = .ok (.istore 5, 2) := by decide +kernel
theorem dX2_lowest_9 : decode cX2_lowest 9 = .ok (.iload 5, 2) := by decide +kernel
theorem dX2_lowest_11 : decode cX2_lowest 11 = .ok (.aload_n 1, 1) := by decide +kernel
theorem dX2_lowest_12 : decode cX2_lowest 12 = .ok (.getfield 21, 3) := by decide +kernel
theorem dX2_lowest_15 : decode cX2_lowest 15 = .ok (.getfield 25, 3) := by decide +kernel
theorem dX2_lowest_18 : decode cX2_lowest 18 = .ok (.if_icmp .ge 55, 3) := by decide +kernel
theorem dX2_lowest_21 : decode cX2_lowest 21 = .ok (.iload 5, 2) := by decide +kernel
theorem dX2_lowest_23 : decode cX2_lowest 23 = .ok (.iload_n 2, 1) := by decide +kernel
theorem dX2_lowest_24 : decode cX2_lowest 24 = .ok (.invokestatic 42, 3) := by decide +kernel
theorem dX2_lowest_27 : decode cX2_lowest 27 = .ok (.ifCond .eq 46, 3) := by decide +kernel
theorem dX2_lowest_30 : decode cX2_lowest 30 = .ok (.aload_n 0, 1) := by decide +kernel
theorem dX2_lowest_31 : decode cX2_lowest 31 = .ok (.getfield 13, 3) := by decide +kernel
theorem dX2_lowest_34 : decode cX2_lowest 34 = .ok (.iload_n 2, 1) := by decide +kernel
theorem dX2_lowest_35 : decode cX2_lowest 35 = .ok (.bipush 24, 2) := by decide +kernel
theorem dX2_lowest_37 : decode cX2_lowest 37 = .ok (.imul, 1) := by decide +kernel
theorem dX2_lowest_38 : decode cX2_lowest 38 = .ok (.iload 5, 2) := by decide +kernel
theorem dX2_lowest_40 : decode cX2_lowest 40 = .ok (.iadd, 1) := by decide +kernel
theorem dX2_lowest_41 : decode cX2_lowest 41 = .ok (.iaload, 1) := by decide +kernel
theorem dX2_lowest_42 : decode cX2_lowest 42 = .ok (.istore 6, 2) := by decide +kernel
theorem dX2_lowest_44 : decode cX2_lowest 44 = .ok (.iload 6, 2) := by decide +kernel
theorem dX2_lowest_46 : decode cX2_lowest 46 = .ok (.iload 4, 2) := by decide +kernel
theorem dX2_lowest_48 : decode cX2_lowest 48 = .ok (.if_icmp .ge 19, 3) := by decide +kernel
theorem dX2_lowest_51 : decode cX2_lowest 51 = .ok (.aload_n 1, 1) := by decide +kernel
theorem dX2_lowest_52 : decode cX2_lowest 52 = .ok (.iload 5, 2) := by decide +kernel
theorem dX2_lowest_54 : decode cX2_lowest 54 = .ok (.invokevirtual 31, 3) := by decide +kernel
theorem dX2_lowest_57 : decode cX2_lowest 57 = .ok (.ifCond .eq 10, 3) := by decide +kernel
theorem dX2_lowest_60 : decode cX2_lowest 60 = .ok (.iload 5, 2) := by decide +kernel
theorem dX2_lowest_62 : decode cX2_lowest 62 = .ok (.istore_n 3, 1) := by decide +kernel
theorem dX2_lowest_63 : decode cX2_lowest 63 = .ok (.iload 6, 2) := by decide +kernel
theorem dX2_lowest_65 : decode cX2_lowest 65 = .ok (.istore 4, 2) := by decide +kernel
theorem dX2_lowest_67 : decode cX2_lowest 67 = .ok (.iinc 5 1, 3) := by decide +kernel
theorem dX2_lowest_70 : decode cX2_lowest 70 = .ok (.goto (-61), 3) := by decide +kernel
theorem dX2_lowest_73 : decode cX2_lowest 73 = .ok (.iload_n 3, 1) := by decide +kernel
theorem dX2_lowest_74 : decode cX2_lowest 74 = .ok (.ireturn, 1) := by decide +kernel
theorem dX2_hear_0 : decode cX2_hear 0 = .ok (.iconst 0, 1) := by decide +kernel
theorem dX2_hear_1 : decode cX2_hear 1 = .ok (.istore 4, 2) := by decide +kernel
theorem dX2_hear_3 : decode cX2_hear 3 = .ok (.aload_n 0, 1) := by decide +kernel
theorem dX2_hear_4 : decode cX2_hear 4 = .ok (.iconst 0, 1) := by decide +kernel
theorem dX2_hear_5 : decode cX2_hear 5 = .ok (.putfield 65, 3) := by decide +kernel
theorem dX2_hear_8 : decode cX2_hear 8 = .ok (.aload_n 0, 1) := by decide +kernel
theorem dX2_hear_9 : decode cX2_hear 9 = .ok (.iconst 0, 1) := by decide +kernel
theorem dX2_hear_10 : decode cX2_hear 10 = .ok (.putfield 68, 3) := by decide +kernel
theorem dX2_hear_13 : decode cX2_hear 13 = .ok (.aload_n 2, 1) := by decide +kernel
theorem dX2_hear_14 : decode cX2_hear 14 = .ok (.dup, 1) := by decide +kernel
theorem dX2_hear_15 : decode cX2_hear 15 = .ok (.getfield 35, 3) := by decide +kernel
theorem dX2_hear_18 : decode cX2_hear 18 = .ok (.iconst 1, 1) := by decide +kernel
theorem dX2_hear_19 : decode cX2_hear 19 = .ok (.iadd, 1) := by decide +kernel
theorem dX2_hear_20 : decode cX2_hear 20 = .ok (.putfield 35, 3) := by decide +kernel
theorem dX2_hear_23 : decode cX2_hear 23 = .ok (.iconst 0, 1) := by decide +kernel
theorem dX2_hear_24 : decode cX2_hear 24 = .ok (.istore 5, 2) := by decide +kernel
theorem dX2_hear_26 : decode cX2_hear 26 = .ok (.iload 5, 2) := by decide +kernel
theorem dX2_hear_28 : decode cX2_hear 28 = .ok (.aload_n 1, 1) := by decide +kernel
theorem dX2_hear_29 : decode cX2_hear 29 = .ok (.iconst 1, 1) := by decide +kernel
theorem dX2_hear_30 : decode cX2_hear 30 = .ok (.invokevirtual 71, 3) := by decide +kernel
theorem dX2_hear_33 : decode cX2_hear 33 = .ok (.if_icmp .ge 112, 3) := by decide +kernel
theorem dX2_hear_36 : decode cX2_hear 36 = .ok (.aload_n 0, 1) := by decide +kernel
theorem dX2_hear_37 : decode cX2_hear 37 = .ok (.aload_n 2, 1) := by decide +kernel
theorem dX2_hear_38 : decode cX2_hear 38 = .ok (.iload_n 3, 1) := by decide +kernel
theorem dX2_hear_39 : decode cX2_hear 39 = .ok (.invokevirtual 77, 3) := by decide +kernel
theorem dX2_hear_42 : decode cX2_hear 42 = .ok (.istore 6, 2) := by decide +kernel
theorem dX2_hear_44 : decode cX2_hear 44 = .ok (.iload 6, 2) := by decide +kernel
theorem dX2_hear_46 : decode cX2_hear 46 = .ok (.iconst (-1), 1) := by decide +kernel
theorem dX2_hear_47 : decode cX2_hear 47 = .ok (.if_icmp .ne 6, 3) := by decide +kernel
theorem dX2_hear_50 : decode cX2_hear 50 = .ok (.goto 95, 3) := by decide +kernel
theorem dX2_hear_53 : decode cX2_hear 53 = .ok (.aload_n 1, 1) := by decide +kernel
theorem dX2_hear_54 : decode cX2_hear 54 = .ok (.aload_n 2, 1) := by decide +kernel
theorem dX2_hear_55 : decode cX2_hear 55 = .ok (.iload 6, 2) := by decide +kernel
theorem dX2_hear_57 : decode cX2_hear 57 = .ok (.invokestatic 81, 3) := by decide +kernel
theorem dX2_hear_60 : decode cX2_hear 60 = .ok (.istore 7, 2) := by decide +kernel
theorem dX2_hear_62 : decode cX2_hear 62 = .ok (.aload_n 2, 1) := by decide +kernel
theorem dX2_hear_63 : decode cX2_hear 63 = .ok (.getfield 21, 3) := by decide +kernel
theorem dX2_hear_66 : decode cX2_hear 66 = .ok (.iload 6, 2) := by decide +kernel
theorem dX2_hear_68 : decode cX2_hear 68 = .ok (.iconst 5, 1) := by decide +kernel
theorem dX2_hear_69 : decode cX2_hear 69 = .ok (.iload 7, 2) := by decide +kernel
theorem dX2_hear_71 : decode cX2_hear 71 = .ok (.ifCond .eq 7, 3) := by decide +kernel
theorem dX2_hear_74 : decode cX2_hear 74 = .ok (.iconst 2, 1) := by decide +kernel
theorem dX2_hear_75 : decode cX2_hear 75 = .ok (.goto 4, 3) := by decide +kernel
theorem dX2_hear_78 : decode cX2_hear 78 = .ok (.iconst 1, 1) := by decide +kernel
theorem dX2_hear_79 : decode cX2_hear 79 = .ok (.invokevirtual 85, 3) := by decide +kernel
theorem dX2_hear_82 : decode cX2_hear 82 = .ok (.aload_n 2, 1) := by decide +kernel
theorem dX2_hear_83 : decode cX2_hear 83 = .ok (.getfield 21, 3) := by decide +kernel
theorem dX2_hear_86 : decode cX2_hear 86 = .ok (.iload 6, 2) := by decide +kernel
theorem dX2_hear_88 : decode cX2_hear 88 = .ok (.bipush 6, 2) := by decide +kernel
theorem dX2_hear_90 : decode cX2_hear 90 = .ok (.aload_n 2, 1) := by decide +kernel
theorem dX2_hear_91 : decode cX2_hear 91 = .ok (.getfield 35, 3) := by decide +kernel
theorem dX2_hear_94 : decode cX2_hear 94 = .ok (.invokevirtual 85, 3) := by decide +kernel
theorem dX2_hear_97 : decode cX2_hear 97 = .ok (.aload_n 0, 1) := by decide +kernel
theorem dX2_hear_98 : decode cX2_hear 98 = .ok (.dup, 1) := by decide +kernel
theorem dX2_hear_99 : decode cX2_hear 99 = .ok (.getfield 65, 3) := by decide +kernel
theorem dX2_hear_102 : decode cX2_hear 102 = .ok (.iconst 1, 1) := by decide +kernel
theorem dX2_hear_103 : decode cX2_hear 103 = .ok (.iload 6, 2) := by decide +kernel
theorem dX2_hear_105 : decode cX2_hear 105 = .ok (.ishl, 1) := by decide +kernel
theorem dX2_hear_106 : decode cX2_hear 106 = .ok (.ior, 1) := by decide +kernel
theorem dX2_hear_107 : decode cX2_hear 107 = .ok (.putfield 65, 3) := by decide +kernel
theorem dX2_hear_110 : decode cX2_hear 110 = .ok (.iload 7, 2) := by decide +kernel
theorem dX2_hear_112 : decode cX2_hear 112 = .ok (.ifCond .ne 27, 3) := by decide +kernel
theorem dX2_hear_115 : decode cX2_hear 115 = .ok (.iinc 4 1, 3) := by decide +kernel
theorem dX2_hear_118 : decode cX2_hear 118 = .ok (.aload_n 0, 1) := by decide +kernel
theorem dX2_hear_119 : decode cX2_hear 119 = .ok (.dup, 1) := by decide +kernel
theorem dX2_hear_120 : decode cX2_hear 120 = .ok (.getfield 68, 3) := by decide +kernel
theorem dX2_hear_123 : decode cX2_hear 123 = .ok (.iconst 1, 1) := by decide +kernel
theorem dX2_hear_124 : decode cX2_hear 124 = .ok (.aload_n 2, 1) := by decide +kernel
theorem dX2_hear_125 : decode cX2_hear 125 = .ok (.getfield 21, 3) := by decide +kernel
theorem dX2_hear_128 : decode cX2_hear 128 = .ok (.iload 6, 2) := by decide +kernel
theorem dX2_hear_130 : decode cX2_hear 130 = .ok (.iconst 1, 1) := by decide +kernel
theorem dX2_hear_131 : decode cX2_hear 131 = .ok (.invokevirtual 56, 3) := by decide +kernel
theorem dX2_hear_134 : decode cX2_hear 134 = .ok (.ishl, 1) := by decide +kernel
theorem dX2_hear_135 : decode cX2_hear 135 = .ok (.ior, 1) := by decide +kernel
theorem dX2_hear_136 : decode cX2_hear 136 = .ok (.putfield 68, 3) := by decide +kernel
theorem dX2_hear_139 : decode cX2_hear 139 = .ok (.iinc 5 1, 3) := by decide +kernel
theorem dX2_hear_142 : decode cX2_hear 142 = .ok (.goto (-116), 3) := by decide +kernel
theorem dX2_hear_145 : decode cX2_hear 145 = .ok (.iload 4, 2) := by decide +kernel
theorem dX2_hear_147 : decode cX2_hear 147 = .ok (.ireturn, 1) := by decide +kernel
theorem dX2_isKeptOff_0 : decode cX2_isKeptOff 0 = .ok (.aload_n 0, 1) := by decide +kernel
theorem dX2_isKeptOff_1 : decode cX2_isKeptOff 1 = .ok (.aload_n 1, 1) := by decide +kernel
theorem dX2_isKeptOff_2 : decode cX2_isKeptOff 2 = .ok (.getfield 21, 3) := by decide +kernel
theorem dX2_isKeptOff_5 : decode cX2_isKeptOff 5 = .ok (.iload_n 2, 1) := by decide +kernel
theorem dX2_isKeptOff_6 : decode cX2_isKeptOff 6 = .ok (.iconst 1, 1) := by decide +kernel
theorem dX2_isKeptOff_7 : decode cX2_isKeptOff 7 = .ok (.invokevirtual 56, 3) := by decide +kernel
theorem dX2_isKeptOff_10 : decode cX2_isKeptOff 10 = .ok (.invokevirtual 89, 3) := by decide +kernel
theorem dX2_isKeptOff_13 : decode cX2_isKeptOff 13 = .ok (.istore_n 3, 1) := by decide +kernel
theorem dX2_isKeptOff_14 : decode cX2_isKeptOff 14 = .ok (.iconst 0, 1) := by decide +kernel
theorem dX2_isKeptOff_15 : decode cX2_isKeptOff 15 = .ok (.istore 4, 2) := by decide +kernel
theorem dX2_isKeptOff_17 : decode cX2_isKeptOff 17 = .ok (.iload 4, 2) := by decide +kernel
theorem dX2_isKeptOff_19 : decode cX2_isKeptOff 19 = .ok (.aload_n 1, 1) := by decide +kernel
theorem dX2_isKeptOff_20 : decode cX2_isKeptOff 20 = .ok (.getfield 21, 3) := by decide +kernel
theorem dX2_isKeptOff_23 : decode cX2_isKeptOff 23 = .ok (.getfield 25, 3) := by decide +kernel
theorem dX2_isKeptOff_26 : decode cX2_isKeptOff 26 = .ok (.if_icmp .ge 67, 3) := by decide +kernel
theorem dX2_isKeptOff_29 : decode cX2_isKeptOff 29 = .ok (.aload_n 1, 1) := by decide +kernel
theorem dX2_isKeptOff_30 : decode cX2_isKeptOff 30 = .ok (.getfield 21, 3) := by decide +kernel
theorem dX2_isKeptOff_33 : decode cX2_isKeptOff 33 = .ok (.iload 4, 2) := by decide +kernel
theorem dX2_isKeptOff_35 : decode cX2_isKeptOff 35 = .ok (.iconst 5, 1) := by decide +kernel
theorem dX2_isKeptOff_36 : decode cX2_isKeptOff 36 = .ok (.invokevirtual 56, 3) := by decide +kernel
theorem dX2_isKeptOff_39 : decode cX2_isKeptOff 39 = .ok (.iconst 1, 1) := by decide +kernel
theorem dX2_isKeptOff_40 : decode cX2_isKeptOff 40 = .ok (.if_icmp .ne 47, 3) := by decide +kernel
theorem dX2_isKeptOff_43 : decode cX2_isKeptOff 43 = .ok (.iload_n 3, 1) := by decide +kernel
theorem dX2_isKeptOff_44 : decode cX2_isKeptOff 44 = .ok (.aload_n 1, 1) := by decide +kernel
theorem dX2_isKeptOff_45 : decode cX2_isKeptOff 45 = .ok (.getfield 21, 3) := by decide +kernel
theorem dX2_isKeptOff_48 : decode cX2_isKeptOff 48 = .ok (.iload 4, 2) := by decide +kernel
theorem dX2_isKeptOff_50 : decode cX2_isKeptOff 50 = .ok (.iconst 1, 1) := by decide +kernel
theorem dX2_isKeptOff_51 : decode cX2_isKeptOff 51 = .ok (.invokevirtual 56, 3) := by decide +kernel
theorem dX2_isKeptOff_54 : decode cX2_isKeptOff 54 = .ok (.ishr, 1) := by decide +kernel
theorem dX2_isKeptOff_55 : decode cX2_isKeptOff 55 = .ok (.iconst 1, 1) := by decide +kernel
theorem dX2_isKeptOff_56 : decode cX2_isKeptOff 56 = .ok (.iand, 1) := by decide +kernel
theorem dX2_isKeptOff_57 : decode cX2_isKeptOff 57 = .ok (.iconst 1, 1) := by decide +kernel
theorem dX2_isKeptOff_58 : decode cX2_isKeptOff 58 = .ok (.if_icmp .ne 29, 3) := by decide +kernel
theorem dX2_isKeptOff_61 : decode cX2_isKeptOff 61 = .ok (.aload_n 1, 1) := by decide +kernel
theorem dX2_isKeptOff_62 : decode cX2_isKeptOff 62 = .ok (.getfield 35, 3) := by decide +kernel
theorem dX2_isKeptOff_65 : decode cX2_isKeptOff 65 = .ok (.aload_n 1, 1) := by decide +kernel
theorem dX2_isKeptOff_66 : decode cX2_isKeptOff 66 = .ok (.getfield 21, 3) := by decide +kernel
theorem dX2_isKeptOff_69 : decode cX2_isKeptOff 69 = .ok (.iload 4, 2) := by decide +kernel
theorem dX2_isKeptOff_71 : decode cX2_isKeptOff 71 = .ok (.bipush 6, 2) := by decide +kernel
theorem dX2_isKeptOff_73 : decode cX2_isKeptOff 73 = .ok (.invokevirtual 56, 3) := by decide +kernel
theorem dX2_isKeptOff_76 : decode cX2_isKeptOff 76 = .ok (.isub, 1) := by decide +kernel
theorem dX2_isKeptOff_77 : decode cX2_isKeptOff 77 = .ok (.aload_n 0, 1) := by decide +kernel
theorem dX2_isKeptOff_78 : decode cX2_isKeptOff 78 = .ok (.iconst 2, 1) := by decide +kernel
theorem dX2_isKeptOff_79 : decode cX2_isKeptOff 79 = .ok (.invokevirtual 71, 3) := by decide +kernel
theorem dX2_isKeptOff_82 : decode cX2_isKeptOff 82 = .ok (.if_icmp .ge 5, 3) := by decide +kernel
theorem dX2_isKeptOff_85 : decode cX2_isKeptOff 85 = .ok (.iconst 1, 1) := by decide +kernel
theorem dX2_isKeptOff_86 : decode cX2_isKeptOff 86 = .ok (.ireturn, 1) := by decide +kernel
theorem dX2_isKeptOff_87 : decode cX2_isKeptOff 87 = .ok (.iinc 4 1, 3) := by decide +kernel
theorem dX2_isKeptOff_90 : decode cX2_isKeptOff 90 = .ok (.goto (-73), 3) := by decide +kernel
theorem dX2_isKeptOff_93 : decode cX2_isKeptOff 93 = .ok (.iconst 0, 1) := by decide +kernel
theorem dX2_isKeptOff_94 : decode cX2_isKeptOff 94 = .ok (.ireturn, 1) := by decide +kernel
theorem dX3_init_0 : decode cX3_init 0 = .ok (.aload_n 0, 1) := by decide +kernel
theorem dX3_init_1 : decode cX3_init 1 = .ok (.invokespecial 3, 3) := by decide +kernel
theorem dX3_init_4 : decode cX3_init 4 = .ok (.aload_n 0, 1) := by decide +kernel
theorem dX3_init_5 : decode cX3_init 5 = .ok (.bipush 8, 2) := by decide +kernel
theorem dX3_init_7 : decode cX3_init 7 = .ok (.newarray .int, 2) := by decide +kernel
theorem dX3_init_9 : decode cX3_init 9 = .ok (.putfield 9, 3) := by decide +kernel
theorem dX3_init_12 : decode cX3_init 12 = .ok (.aload_n 0, 1) := by decide +kernel
theorem dX3_init_13 : decode cX3_init 13 = .ok (.new 15, 3) := by decide +kernel
theorem dX3_init_16 : decode cX3_init 16 = .ok (.dup, 1) := by decide +kernel
theorem dX3_init_17 : decode cX3_init 17 = .ok (.invokespecial 17, 3) := by decide +kernel
theorem dX3_init_20 : decode cX3_init 20 = .ok (.putfield 18, 3) := by decide +kernel
theorem dX3_init_23 : decode cX3_init 23 = .ok (.return_, 1) := by decide +kernel
theorem dX3_look_0 : decode cX3_look 0 = .ok (.aload_n 0, 1) := by decide +kernel
theorem dX3_look_1 : decode cX3_look 1 = .ok (.getfield 9, 3) := by decide +kernel
theorem dX3_look_4 : decode cX3_look 4 = .ok (.iconst 0, 1) := by decide +kernel
theorem dX3_look_5 : decode cX3_look 5 = .ok (.aload_n 2, 1) := by decide +kernel
theorem dX3_look_6 : decode cX3_look 6 = .ok (.getfield 22, 3) := by decide +kernel
theorem dX3_look_9 : decode cX3_look 9 = .ok (.iload_n 3, 1) := by decide +kernel
theorem dX3_look_10 : decode cX3_look 10 = .ok (.iconst 2, 1) := by decide +kernel
theorem dX3_look_11 : decode cX3_look 11 = .ok (.invokevirtual 28, 3) := by decide +kernel
theorem dX3_look_14 : decode cX3_look 14 = .ok (.iastore, 1) := by decide +kernel
theorem dX3_look_15 : decode cX3_look 15 = .ok (.aload_n 0, 1) := by decide +kernel
theorem dX3_look_16 : decode cX3_look 16 = .ok (.getfield 9, 3) := by decide +kernel
theorem dX3_look_19 : decode cX3_look 19 = .ok (.iconst 1, 1) := by decide +kernel
theorem dX3_look_20 : decode cX3_look 20 = .ok (.aload_n 2, 1) := by decide +kernel
theorem dX3_look_21 : decode cX3_look 21 = .ok (.getfield 22, 3) := by decide +kernel
theorem dX3_look_24 : decode cX3_look 24 = .ok (.iload_n 3, 1) := by decide +kernel
theorem dX3_look_25 : decode cX3_look 25 = .ok (.iconst 3, 1) := by decide +kernel
theorem dX3_look_26 : decode cX3_look 26 = .ok (.invokevirtual 28, 3) := by decide +kernel
theorem dX3_look_29 : decode cX3_look 29 = .ok (.iastore, 1) := by decide +kernel
theorem dX3_look_30 : decode cX3_look 30 = .ok (.aload_n 0, 1) := by decide +kernel
theorem dX3_look_31 : decode cX3_look 31 = .ok (.getfield 9, 3) := by decide +kernel
theorem dX3_look_34 : decode cX3_look 34 = .ok (.iconst 2, 1) := by decide +kernel
theorem dX3_look_35 : decode cX3_look 35 = .ok (.aload_n 2, 1) := by decide +kernel
theorem dX3_look_36 : decode cX3_look 36 = .ok (.getfield 22, 3) := by decide +kernel
theorem dX3_look_39 : decode cX3_look 39 = .ok (.iload_n 3, 1) := by decide +kernel
theorem dX3_look_40 : decode cX3_look 40 = .ok (.iconst 0, 1) := by decide +kernel
theorem dX3_look_41 : decode cX3_look 41 = .ok (.invokevirtual 28, 3) := by decide +kernel
theorem dX3_look_44 : decode cX3_look 44 = .ok (.iastore, 1) := by decide +kernel
theorem dX3_look_45 : decode cX3_look 45 = .ok (.aload_n 0, 1) := by decide +kernel
theorem dX3_look_46 : decode cX3_look 46 = .ok (.getfield 9, 3) := by decide +kernel
theorem dX3_look_49 : decode cX3_look 49 = .ok (.iconst 3, 1) := by decide +kernel
theorem dX3_look_50 : decode cX3_look 50 = .ok (.aload_n 1, 1) := by decide +kernel
theorem dX3_look_51 : decode cX3_look 51 = .ok (.getfield 34, 3) := by decide +kernel
theorem dX3_look_54 : decode cX3_look 54 = .ok (.aload_n 0, 1) := by decide +kernel
theorem dX3_look_55 : decode cX3_look 55 = .ok (.getfield 9, 3) := by decide +kernel
theorem dX3_look_58 : decode cX3_look 58 = .ok (.iconst 2, 1) := by decide +kernel
theorem dX3_look_59 : decode cX3_look 59 = .ok (.iaload, 1) := by decide +kernel
theorem dX3_look_60 : decode cX3_look 60 = .ok (.iconst 0, 1) := by decide +kernel
theorem dX3_look_61 : decode cX3_look 61 = .ok (.invokevirtual 28, 3) := by decide +kernel
theorem dX3_look_64 : decode cX3_look 64 = .ok (.iastore, 1) := by decide +kernel
theorem dX3_look_65 : decode cX3_look 65 = .ok (.aload_n 0, 1) := by decide +kernel
theorem dX3_look_66 : decode cX3_look 66 = .ok (.getfield 9, 3) := by decide +kernel
theorem dX3_look_69 : decode cX3_look 69 = .ok (.iconst 4, 1) := by decide +kernel
theorem dX3_look_70 : decode cX3_look 70 = .ok (.aload_n 2, 1) := by decide +kernel
theorem dX3_look_71 : decode cX3_look 71 = .ok (.getfield 22, 3) := by decide +kernel
theorem dX3_look_74 : decode cX3_look 74 = .ok (.iload_n 3, 1) := by decide +kernel
theorem dX3_look_75 : decode cX3_look 75 = .ok (.iconst 1, 1) := by decide +kernel
theorem dX3_look_76 : decode cX3_look 76 = .ok (.invokevirtual 28, 3) := by decide +kernel
theorem dX3_look_79 : decode cX3_look 79 = .ok (.iastore, 1) := by decide +kernel
theorem dX3_look_80 : decode cX3_look 80 = .ok (.aload_n 0, 1) := by decide +kernel
theorem dX3_look_81 : decode cX3_look 81 = .ok (.getfield 9, 3) := by decide +kernel
theorem dX3_look_84 : decode cX3_look 84 = .ok (.iconst 5, 1) := by decide +kernel
theorem dX3_look_85 : decode cX3_look 85 = .ok (.iload 4, 2) := by decide +kernel
theorem dX3_look_87 : decode cX3_look 87 = .ok (.aload_n 2, 1) := by decide +kernel
theorem dX3_look_88 : decode cX3_look 88 = .ok (.getfield 22, 3) := by decide +kernel
theorem dX3_look_91 : decode cX3_look 91 = .ok (.iload_n 3, 1) := by decide +kernel
theorem dX3_look_92 : decode cX3_look 92 = .ok (.iconst 4, 1) := by decide +kernel
theorem dX3_look_93 : decode cX3_look 93 = .ok (.invokevirtual 28, 3) := by decide +kernel
theorem dX3_look_96 : decode cX3_look 96 = .ok (.isub, 1) := by decide +kernel
theorem dX3_look_97 : decode cX3_look 97 = .ok (.iastore, 1) := by decide +kernel
theorem dX3_look_98 : decode cX3_look 98 = .ok (.aload_n 0, 1) := by decide +kernel
theorem dX3_look_99 : decode cX3_look 99 = .ok (.getfield 9, 3) := by decide +kernel
theorem dX3_look_102 : decode cX3_look 102 = .ok (.bipush 6, 2) := by decide +kernel
theorem dX3_look_104 : decode cX3_look 104 = .ok (.iload 4, 2) := by decide +kernel
theorem dX3_look_106 : decode cX3_look 106 = .ok (.iastore, 1) := by decide +kernel
theorem dX3_look_107 : decode cX3_look 107 = .ok (.aload_n 0, 1) := by decide +kernel
theorem dX3_look_108 : decode cX3_look 108 = .ok (.getfield 9, 3) := by decide +kernel
theorem dX3_look_111 : decode cX3_look 111 = .ok (.bipush 7, 2) := by decide +kernel
theorem dX3_look_113 : decode cX3_look 113 = .ok (.aload_n 1, 1) := by decide +kernel
theorem dX3_look_114 : decode cX3_look 114 = .ok (.iconst 3, 1) := by decide +kernel
theorem dX3_look_115 : decode cX3_look 115 = .ok (.invokevirtual 39, 3) := by decide +kernel
theorem dX3_look_118 : decode cX3_look 118 = .ok (.iastore, 1) := by decide +kernel
theorem dX3_look_119 : decode cX3_look 119 = .ok (.return_, 1) := by decide +kernel
theorem dX3_rankTold_0 : decode cX3_rankTold 0 = .ok (.aload_n 0, 1) := by decide +kernel
theorem dX3_rankTold_1 : decode cX3_rankTold 1 = .ok (.aload_n 1, 1) := by decide +kernel
theorem dX3_rankTold_2 : decode cX3_rankTold 2 = .ok (.iconst 0, 1) := by decide +kernel
theorem dX3_rankTold_3 : decode cX3_rankTold 3 = .ok (.aload_n 0, 1) := by decide +kernel
theorem dX3_rankTold_4 : decode cX3_rankTold 4 = .ok (.getfield 9, 3) := by decide +kernel
theorem dX3_rankTold_7 : decode cX3_rankTold 7 = .ok (.iconst 0, 1) := by decide +kernel
theorem dX3_rankTold_8 : decode cX3_rankTold 8 = .ok (.iaload, 1) := by decide +kernel
theorem dX3_rankTold_9 : decode cX3_rankTold 9 = .ok (.sipush (-9999), 3) := by decide +kernel
theorem dX3_rankTold_12 : decode cX3_rankTold 12 = .ok (.sipush 9999, 3) := by decide +kernel
theorem dX3_rankTold_15 : decode cX3_rankTold 15 = .ok (.invokevirtual 43, 3) := by decide +kernel
theorem dX3_rankTold_18 : decode cX3_rankTold 18 = .ok (.ireturn, 1) := by decide +kernel
theorem dX3_breathOf_0 : decode cX3_breathOf 0 = .ok (.aload_n 0, 1) := by decide +kernel
theorem dX3_breathOf_1 : decode cX3_breathOf 1 = .ok (.getfield 9, 3) := by decide +kernel
theorem dX3_breathOf_4 : decode cX3_breathOf 4 = .ok (.iconst 0, 1) := by decide +kernel
theorem dX3_breathOf_5 : decode cX3_breathOf 5 = .ok (.iconst (-1), 1) := by decide +kernel
theorem dX3_breathOf_6 : decode cX3_breathOf 6 = .ok (.iastore, 1) := by decide +kernel
theorem dX3_breathOf_7 : decode cX3_breathOf 7 = .ok (.aload_n 0, 1) := by decide +kernel
theorem dX3_breathOf_8 : decode cX3_breathOf 8 = .ok (.getfield 9, 3) := by decide +kernel
theorem dX3_breathOf_11 : decode cX3_breathOf 11 = .ok (.iconst 1, 1) := by decide +kernel
theorem dX3_breathOf_12 : decode cX3_breathOf 12 = .ok (.iconst (-1), 1) := by decide +kernel
theorem dX3_breathOf_13 : decode cX3_breathOf 13 = .ok (.iastore, 1) := by decide +kernel
theorem dX3_breathOf_14 : decode cX3_breathOf 14 = .ok (.aload_n 0, 1) := by decide +kernel
theorem dX3_breathOf_15 : decode cX3_breathOf 15 = .ok (.getfield 9, 3) := by decide +kernel
theorem dX3_breathOf_18 : decode cX3_breathOf 18 = .ok (.iconst 2, 1) := by decide +kernel
theorem dX3_breathOf_19 : decode cX3_breathOf 19 = .ok (.iload_n 2, 1) := by decide +kernel
theorem dX3_breathOf_20 : decode cX3_breathOf 20 = .ok (.iastore, 1) := by decide +kernel
theorem dX3_breathOf_21 : decode cX3_breathOf 21 = .ok (.aload_n 0, 1) := by decide +kernel
theorem dX3_breathOf_22 : decode cX3_breathOf 22 = .ok (.getfield 9, 3) := by decide +kernel
theorem dX3_breathOf_25 : decode cX3_breathOf 25 = .ok (.iconst 3, 1) := by decide +kernel
theorem dX3_breathOf_26 : decode cX3_breathOf 26 = .ok (.aload_n 1, 1) := by decide +kernel
theorem dX3_breathOf_27 : decode cX3_breathOf 27 = .ok (.getfield 34, 3) := by decide +kernel
theorem dX3_breathOf_30 : decode cX3_breathOf 30 = .ok (.iload_n 2, 1) := by decide +kernel
theorem dX3_breathOf_31 : decode cX3_breathOf 31 = .ok (.iconst 0, 1) := by decide +kernel
theorem dX3_breathOf_32 : decode cX3_breathOf 32 = .ok (.invokevirtual 28, 3) := by decide +kernel
theorem dX3_breathOf_35 : decode cX3_breathOf 35 = .ok (.iastore, 1) := by decide +kernel
theorem dX3_breathOf_36 : decode cX3_breathOf 36 = .ok (.aload_n 0, 1) := by decide +kernel
theorem dX3_breathOf_37 : decode cX3_breathOf 37 = .ok (.getfield 9, 3) := by decide +kernel
theorem dX3_breathOf_40 : decode cX3_breathOf 40 = .ok (.iconst 4, 1) := by decide +kernel
theorem dX3_breathOf_41 : decode cX3_breathOf 41 = .ok (.iconst (-1), 1) := by decide +kernel
theorem dX3_breathOf_42 : decode cX3_breathOf 42 = .ok (.iastore, 1) := by decide +kernel
theorem dX3_breathOf_43 : decode cX3_breathOf 43 = .ok (.aload_n 0, 1) := by decide +kernel
theorem dX3_breathOf_44 : decode cX3_breathOf 44 = .ok (.getfield 9, 3) := by decide +kernel
theorem dX3_breathOf_47 : decode cX3_breathOf 47 = .ok (.iconst 5, 1) := by decide +kernel
theorem dX3_breathOf_48 : decode cX3_breathOf 48 = .ok (.iconst (-1), 1) := by decide +kernel
theorem dX3_breathOf_49 : decode cX3_breathOf 49 = .ok (.iastore, 1) := by decide +kernel
theorem dX3_breathOf_50 : decode cX3_breathOf 50 = .ok (.aload_n 0, 1) := by decide +kernel
theorem dX3_breathOf_51 : decode cX3_breathOf 51 = .ok (.getfield 9, 3) := by decide +kernel
theorem dX3_breathOf_54 : decode cX3_breathOf 54 = .ok (.bipush 6, 2) := by decide +kernel
theorem dX3_breathOf_56 : decode cX3_breathOf 56 = .ok (.iload_n 3, 1) := by decide +kernel
theorem dX3_breathOf_57 : decode cX3_breathOf 57 = .ok (.iastore, 1) := by decide +kernel
theorem dX3_breathOf_58 : decode cX3_breathOf 58 = .ok (.aload_n 0, 1) := by decide +kernel
theorem dX3_breathOf_59 : decode cX3_breathOf 59 = .ok (.getfield 9, 3) := by decide +kernel
theorem dX3_breathOf_62 : decode cX3_breathOf 62 = .ok (.bipush 7, 2) := by decide +kernel
theorem dX3_breathOf_64 : decode cX3_breathOf 64 = .ok (.aload_n 1, 1) := by decide +kernel
theorem dX3_breathOf_65 : decode cX3_breathOf 65 = .ok (.iconst 3, 1) := by decide +kernel
theorem dX3_breathOf_66 : decode cX3_breathOf 66 = .ok (.invokevirtual 39, 3) := by decide +kernel
theorem dX3_breathOf_69 : decode cX3_breathOf 69 = .ok (.iastore, 1) := by decide +kernel
theorem dX3_breathOf_70 : decode cX3_breathOf 70 = .ok (.aload_n 0, 1) := by decide +kernel
theorem dX3_breathOf_71 : decode cX3_breathOf 71 = .ok (.aload_n 1, 1) := by decide +kernel
theorem dX3_breathOf_72 : decode cX3_breathOf 72 = .ok (.iconst 1, 1) := by decide +kernel
theorem dX3_breathOf_73 : decode cX3_breathOf 73 = .ok (.bipush 99, 2) := by decide +kernel
theorem dX3_breathOf_75 : decode cX3_breathOf 75 = .ok (.iconst 0, 1) := by decide +kernel
theorem dX3_breathOf_76 : decode cX3_breathOf 76 = .ok (.bipush 99, 2) := by decide +kernel
theorem dX3_breathOf_78 : decode cX3_breathOf 78 = .ok (.invokevirtual 43, 3) := by decide +kernel
theorem dX3_breathOf_81 : decode cX3_breathOf 81 = .ok (.ireturn, 1) := by decide +kernel
theorem dX3_tells_0 : decode cX3_tells 0 = .ok (.aload_n 1, 1) := by decide +kernel
theorem dX3_tells_1 : decode cX3_tells 1 = .ok (.invokevirtual 47, 3) := by decide +kernel
theorem dX3_tells_4 : decode cX3_tells 4 = .ok (.astore 6, 2) := by decide +kernel
theorem dX3_tells_6 : decode cX3_tells 6 = .ok (.aload 6, 2) := by decide +kernel
theorem dX3_tells_8 : decode cX3_tells 8 = .ok (.ifnonnull 5, 3) := by decide +kernel
theorem dX3_tells_11 : decode cX3_tells 11 = .ok (.iload_n 3, 1) := by decide +kernel
theorem dX3_tells_12 : decode cX3_tells 12 = .ok (.ireturn, 1) := by decide +kernel
theorem dX3_tells_13 : decode cX3_tells 13 = .ok (.aload 6, 2) := by decide +kernel
theorem dX3_tells_15 : decode cX3_tells 15 = .ok (.getfield 51, 3) := by decide +kernel
theorem dX3_tells_18 : decode cX3_tells 18 = .ok (.getfield 56, 3) := by decide +kernel
theorem dX3_tells_21 : decode cX3_tells 21 = .ok (.iconst 1, 1) := by decide +kernel
