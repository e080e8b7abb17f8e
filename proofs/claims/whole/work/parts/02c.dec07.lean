/-! decode rows -/
theorem dX12_code_41 : decode cX12_code 41 = .ok (.iadd, 1) := by decide +kernel
theorem dX12_code_42 : decode cX12_code 42 = .ok (.iaload, 1) := by decide +kernel
theorem dX12_code_43 : decode cX12_code 43 = .ok (.ifCond .ne 6, 3) := by decide +kernel
theorem dX12_code_46 : decode cX12_code 46 = .ok (.goto 34, 3) := by decide +kernel
theorem dX12_code_49 : decode cX12_code 49 = .ok (.aload_n 0, 1) := by decide +kernel
theorem dX12_code_50 : decode cX12_code 50 = .ok (.getfield 391, 3) := by decide +kernel
theorem dX12_code_53 : decode cX12_code 53 = .ok (.bipush 6, 2) := by decide +kernel
theorem dX12_code_55 : decode cX12_code 55 = .ok (.if_icmp .ne 5, 3) := by decide +kernel
theorem dX12_code_58 : decode cX12_code 58 = .ok (.iconst (-1), 1) := by decide +kernel
theorem dX12_code_59 : decode cX12_code 59 = .ok (.ireturn, 1) := by decide +kernel
theorem dX12_code_60 : decode cX12_code 60 = .ok (.aload_n 0, 1) := by decide +kernel
theorem dX12_code_61 : decode cX12_code 61 = .ok (.getfield 95, 3) := by decide +kernel
theorem dX12_code_64 : decode cX12_code 64 = .ok (.aload_n 0, 1) := by decide +kernel
theorem dX12_code_65 : decode cX12_code 65 = .ok (.getfield 391, 3) := by decide +kernel
theorem dX12_code_68 : decode cX12_code 68 = .ok (.iload_n 3, 1) := by decide +kernel
theorem dX12_code_69 : decode cX12_code 69 = .ok (.iastore, 1) := by decide +kernel
theorem dX12_code_70 : decode cX12_code 70 = .ok (.aload_n 0, 1) := by decide +kernel
theorem dX12_code_71 : decode cX12_code 71 = .ok (.dup, 1) := by decide +kernel
theorem dX12_code_72 : decode cX12_code 72 = .ok (.getfield 391, 3) := by decide +kernel
theorem dX12_code_75 : decode cX12_code 75 = .ok (.iconst 1, 1) := by decide +kernel
theorem dX12_code_76 : decode cX12_code 76 = .ok (.iadd, 1) := by decide +kernel
theorem dX12_code_77 : decode cX12_code 77 = .ok (.putfield 391, 3) := by decide +kernel
theorem dX12_code_80 : decode cX12_code 80 = .ok (.iinc 3 1, 3) := by decide +kernel
theorem dX12_code_83 : decode cX12_code 83 = .ok (.goto (-56), 3) := by decide +kernel
theorem dX12_code_86 : decode cX12_code 86 = .ok (.aload_n 0, 1) := by decide +kernel
theorem dX12_code_87 : decode cX12_code 87 = .ok (.ldc_w 329, 3) := by decide +kernel
theorem dX12_code_90 : decode cX12_code 90 = .ok (.putfield 403, 3) := by decide +kernel
theorem dX12_code_93 : decode cX12_code 93 = .ok (.aload_n 0, 1) := by decide +kernel
theorem dX12_code_94 : decode cX12_code 94 = .ok (.getfield 391, 3) := by decide +kernel
theorem dX12_code_97 : decode cX12_code 97 = .ok (.ifCond .ne 8, 3) := by decide +kernel
theorem dX12_code_100 : decode cX12_code 100 = .ok (.aload_n 0, 1) := by decide +kernel
theorem dX12_code_101 : decode cX12_code 101 = .ok (.iconst 0, 1) := by decide +kernel
theorem dX12_code_102 : decode cX12_code 102 = .ok (.putfield 403, 3) := by decide +kernel
theorem dX12_code_105 : decode cX12_code 105 = .ok (.aload_n 0, 1) := by decide +kernel
theorem dX12_code_106 : decode cX12_code 106 = .ok (.getfield 391, 3) := by decide +kernel
theorem dX12_code_109 : decode cX12_code 109 = .ok (.iconst 1, 1) := by decide +kernel
theorem dX12_code_110 : decode cX12_code 110 = .ok (.if_icmp .ne 41, 3) := by decide +kernel
theorem dX12_code_113 : decode cX12_code 113 = .ok (.aload_n 0, 1) := by decide +kernel
theorem dX12_code_114 : decode cX12_code 114 = .ok (.getfield 107, 3) := by decide +kernel
theorem dX12_code_117 : decode cX12_code 117 = .ok (.iconst 0, 1) := by decide +kernel
theorem dX12_code_118 : decode cX12_code 118 = .ok (.aload_n 0, 1) := by decide +kernel
theorem dX12_code_119 : decode cX12_code 119 = .ok (.getfield 92, 3) := by decide +kernel
theorem dX12_code_122 : decode cX12_code 122 = .ok (.iconst 0, 1) := by decide +kernel
theorem dX12_code_123 : decode cX12_code 123 = .ok (.iaload, 1) := by decide +kernel
theorem dX12_code_124 : decode cX12_code 124 = .ok (.iastore, 1) := by decide +kernel
theorem dX12_code_125 : decode cX12_code 125 = .ok (.aload_n 0, 1) := by decide +kernel
theorem dX12_code_126 : decode cX12_code 126 = .ok (.aload_n 0, 1) := by decide +kernel
theorem dX12_code_127 : decode cX12_code 127 = .ok (.getfield 92, 3) := by decide +kernel
theorem dX12_code_130 : decode cX12_code 130 = .ok (.iconst 0, 1) := by decide +kernel
theorem dX12_code_131 : decode cX12_code 131 = .ok (.iaload, 1) := by decide +kernel
theorem dX12_code_132 : decode cX12_code 132 = .ok (.aload_n 0, 1) := by decide +kernel
theorem dX12_code_133 : decode cX12_code 133 = .ok (.getfield 24, 3) := by decide +kernel
theorem dX12_code_136 : decode cX12_code 136 = .ok (.sipush 308, 3) := by decide +kernel
theorem dX12_code_139 : decode cX12_code 139 = .ok (.aload_n 0, 1) := by decide +kernel
theorem dX12_code_140 : decode cX12_code 140 = .ok (.getfield 95, 3) := by decide +kernel
theorem dX12_code_143 : decode cX12_code 143 = .ok (.iconst 0, 1) := by decide +kernel
theorem dX12_code_144 : decode cX12_code 144 = .ok (.iaload, 1) := by decide +kernel
theorem dX12_code_145 : decode cX12_code 145 = .ok (.iadd, 1) := by decide +kernel
theorem dX12_code_146 : decode cX12_code 146 = .ok (.iaload, 1) := by decide +kernel
theorem dX12_code_147 : decode cX12_code 147 = .ok (.imul, 1) := by decide +kernel
theorem dX12_code_148 : decode cX12_code 148 = .ok (.putfield 403, 3) := by decide +kernel
theorem dX12_code_151 : decode cX12_code 151 = .ok (.aload_n 0, 1) := by decide +kernel
theorem dX12_code_152 : decode cX12_code 152 = .ok (.getfield 98, 3) := by decide +kernel
theorem dX12_code_155 : decode cX12_code 155 = .ok (.iconst 0, 1) := by decide +kernel
theorem dX12_code_156 : decode cX12_code 156 = .ok (.iconst 0, 1) := by decide +kernel
theorem dX12_code_157 : decode cX12_code 157 = .ok (.iastore, 1) := by decide +kernel
theorem dX12_code_158 : decode cX12_code 158 = .ok (.aload_n 0, 1) := by decide +kernel
theorem dX12_code_159 : decode cX12_code 159 = .ok (.getfield 391, 3) := by decide +kernel
theorem dX12_code_162 : decode cX12_code 162 = .ok (.iconst 1, 1) := by decide +kernel
theorem dX12_code_163 : decode cX12_code 163 = .ok (.if_icmp .le 9, 3) := by decide +kernel
theorem dX12_code_166 : decode cX12_code 166 = .ok (.aload_n 0, 1) := by decide +kernel
theorem dX12_code_167 : decode cX12_code 167 = .ok (.iconst 0, 1) := by decide +kernel
theorem dX12_code_168 : decode cX12_code 168 = .ok (.iconst 1, 1) := by decide +kernel
theorem dX12_code_169 : decode cX12_code 169 = .ok (.invokevirtual 400, 3) := by decide +kernel
theorem dX12_code_172 : decode cX12_code 172 = .ok (.iload_n 2, 1) := by decide +kernel
theorem dX12_code_173 : decode cX12_code 173 = .ok (.ifCond .ne 8, 3) := by decide +kernel
theorem dX12_code_176 : decode cX12_code 176 = .ok (.aload_n 0, 1) := by decide +kernel
theorem dX12_code_177 : decode cX12_code 177 = .ok (.getfield 403, 3) := by decide +kernel
theorem dX12_code_180 : decode cX12_code 180 = .ok (.ireturn, 1) := by decide +kernel
theorem dX12_code_181 : decode cX12_code 181 = .ok (.iconst 0, 1) := by decide +kernel
theorem dX12_code_182 : decode cX12_code 182 = .ok (.istore_n 3, 1) := by decide +kernel
theorem dX12_code_183 : decode cX12_code 183 = .ok (.iload_n 3, 1) := by decide +kernel
theorem dX12_code_184 : decode cX12_code 184 = .ok (.aload_n 0, 1) := by decide +kernel
theorem dX12_code_185 : decode cX12_code 185 = .ok (.getfield 391, 3) := by decide +kernel
theorem dX12_code_188 : decode cX12_code 188 = .ok (.if_icmp .ge 28, 3) := by decide +kernel
theorem dX12_code_191 : decode cX12_code 191 = .ok (.aload_n 0, 1) := by decide +kernel
theorem dX12_code_192 : decode cX12_code 192 = .ok (.getfield 95, 3) := by decide +kernel
theorem dX12_code_195 : decode cX12_code 195 = .ok (.iload_n 3, 1) := by decide +kernel
theorem dX12_code_196 : decode cX12_code 196 = .ok (.iaload, 1) := by decide +kernel
theorem dX12_code_197 : decode cX12_code 197 = .ok (.iload_n 2, 1) := by decide +kernel
theorem dX12_code_198 : decode cX12_code 198 = .ok (.iconst 1, 1) := by decide +kernel
theorem dX12_code_199 : decode cX12_code 199 = .ok (.isub, 1) := by decide +kernel
theorem dX12_code_200 : decode cX12_code 200 = .ok (.if_icmp .ne 10, 3) := by decide +kernel
theorem dX12_code_203 : decode cX12_code 203 = .ok (.aload_n 0, 1) := by decide +kernel
theorem dX12_code_204 : decode cX12_code 204 = .ok (.getfield 107, 3) := by decide +kernel
theorem dX12_code_207 : decode cX12_code 207 = .ok (.iload_n 3, 1) := by decide +kernel
theorem dX12_code_208 : decode cX12_code 208 = .ok (.iaload, 1) := by decide +kernel
theorem dX12_code_209 : decode cX12_code 209 = .ok (.ireturn, 1) := by decide +kernel
theorem dX12_code_210 : decode cX12_code 210 = .ok (.iinc 3 1, 3) := by decide +kernel
theorem dX12_code_213 : decode cX12_code 213 = .ok (.goto (-30), 3) := by decide +kernel
theorem dX12_code_216 : decode cX12_code 216 = .ok (.iconst (-1), 1) := by decide +kernel
theorem dX12_code_217 : decode cX12_code 217 = .ok (.ireturn, 1) := by decide +kernel
theorem dX12_bundle_0 : decode cX12_bundle 0 = .ok (.iload_n 1, 1) := by decide +kernel
theorem dX12_bundle_1 : decode cX12_bundle 1 = .ok (.iconst 1, 1) := by decide +kernel
theorem dX12_bundle_2 : decode cX12_bundle 2 = .ok (.sipush 255, 3) := by decide +kernel
theorem dX12_bundle_5 : decode cX12_bundle 5 = .ok (.invokestatic 123, 3) := by decide +kernel
theorem dX12_bundle_8 : decode cX12_bundle 8 = .ok (.ifCond .eq 13, 3) := by decide +kernel
theorem dX12_bundle_11 : decode cX12_bundle 11 = .ok (.iload_n 2, 1) := by decide +kernel
theorem dX12_bundle_12 : decode cX12_bundle 12 = .ok (.iconst 1, 1) := by decide +kernel
theorem dX12_bundle_13 : decode cX12_bundle 13 = .ok (.bipush 99, 2) := by decide +kernel
theorem dX12_bundle_15 : decode cX12_bundle 15 = .ok (.invokestatic 123, 3) := by decide +kernel
theorem dX12_bundle_18 : decode cX12_bundle 18 = .ok (.ifCond .ne 9, 3) := by decide +kernel
theorem dX12_bundle_21 : decode cX12_bundle 21 = .ok (.aload_n 0, 1) := by decide +kernel
theorem dX12_bundle_22 : decode cX12_bundle 22 = .ok (.iconst (-1), 1) := by decide +kernel
theorem dX12_bundle_23 : decode cX12_bundle 23 = .ok (.invokevirtual 127, 3) := by decide +kernel
theorem dX12_bundle_26 : decode cX12_bundle 26 = .ok (.ireturn, 1) := by decide +kernel
theorem dX12_bundle_27 : decode cX12_bundle 27 = .ok (.aload_n 0, 1) := by decide +kernel
theorem dX12_bundle_28 : decode cX12_bundle 28 = .ok (.getfield 24, 3) := by decide +kernel
theorem dX12_bundle_31 : decode cX12_bundle 31 = .ok (.sipush 366, 3) := by decide +kernel
theorem dX12_bundle_34 : decode cX12_bundle 34 = .ok (.iaload, 1) := by decide +kernel
theorem dX12_bundle_35 : decode cX12_bundle 35 = .ok (.istore_n 3, 1) := by decide +kernel
theorem dX12_bundle_36 : decode cX12_bundle 36 = .ok (.iload_n 3, 1) := by decide +kernel
theorem dX12_bundle_37 : decode cX12_bundle 37 = .ok (.bipush 10, 2) := by decide +kernel
theorem dX12_bundle_39 : decode cX12_bundle 39 = .ok (.if_icmp .ne 10, 3) := by decide +kernel
theorem dX12_bundle_42 : decode cX12_bundle 42 = .ok (.aload_n 0, 1) := by decide +kernel
theorem dX12_bundle_43 : decode cX12_bundle 43 = .ok (.bipush (-5), 2) := by decide +kernel
theorem dX12_bundle_45 : decode cX12_bundle 45 = .ok (.invokevirtual 127, 3) := by decide +kernel
theorem dX12_bundle_48 : decode cX12_bundle 48 = .ok (.ireturn, 1) := by decide +kernel
theorem dX12_bundle_49 : decode cX12_bundle 49 = .ok (.aload_n 0, 1) := by decide +kernel
theorem dX12_bundle_50 : decode cX12_bundle 50 = .ok (.getfield 24, 3) := by decide +kernel
theorem dX12_bundle_53 : decode cX12_bundle 53 = .ok (.sipush 322, 3) := by decide +kernel
theorem dX12_bundle_56 : decode cX12_bundle 56 = .ok (.iconst 2, 1) := by decide +kernel
theorem dX12_bundle_57 : decode cX12_bundle 57 = .ok (.iload_n 3, 1) := by decide +kernel
theorem dX12_bundle_58 : decode cX12_bundle 58 = .ok (.imul, 1) := by decide +kernel
theorem dX12_bundle_59 : decode cX12_bundle 59 = .ok (.iadd, 1) := by decide +kernel
theorem dX12_bundle_60 : decode cX12_bundle 60 = .ok (.iload_n 1, 1) := by decide +kernel
theorem dX12_bundle_61 : decode cX12_bundle 61 = .ok (.iastore, 1) := by decide +kernel
theorem dX12_bundle_62 : decode cX12_bundle 62 = .ok (.aload_n 0, 1) := by decide +kernel
theorem dX12_bundle_63 : decode cX12_bundle 63 = .ok (.getfield 24, 3) := by decide +kernel
theorem dX12_bundle_66 : decode cX12_bundle 66 = .ok (.sipush 322, 3) := by decide +kernel
theorem dX12_bundle_69 : decode cX12_bundle 69 = .ok (.iconst 2, 1) := by decide +kernel
theorem dX12_bundle_70 : decode cX12_bundle 70 = .ok (.iload_n 3, 1) := by decide +kernel
theorem dX12_bundle_71 : decode cX12_bundle 71 = .ok (.imul, 1) := by decide +kernel
theorem dX12_bundle_72 : decode cX12_bundle 72 = .ok (.iadd, 1) := by decide +kernel
theorem dX12_bundle_73 : decode cX12_bundle 73 = .ok (.iconst 1, 1) := by decide +kernel
theorem dX12_bundle_74 : decode cX12_bundle 74 = .ok (.iadd, 1) := by decide +kernel
theorem dX12_bundle_75 : decode cX12_bundle 75 = .ok (.iload_n 2, 1) := by decide +kernel
theorem dX12_bundle_76 : decode cX12_bundle 76 = .ok (.iastore, 1) := by decide +kernel
theorem dX12_bundle_77 : decode cX12_bundle 77 = .ok (.aload_n 0, 1) := by decide +kernel
theorem dX12_bundle_78 : decode cX12_bundle 78 = .ok (.getfield 24, 3) := by decide +kernel
theorem dX12_bundle_81 : decode cX12_bundle 81 = .ok (.sipush 366, 3) := by decide +kernel
theorem dX12_bundle_84 : decode cX12_bundle 84 = .ok (.dup2, 1) := by decide +kernel
theorem dX12_bundle_85 : decode cX12_bundle 85 = .ok (.iaload, 1) := by decide +kernel
theorem dX12_bundle_86 : decode cX12_bundle 86 = .ok (.iconst 1, 1) := by decide +kernel
theorem dX12_bundle_87 : decode cX12_bundle 87 = .ok (.iadd, 1) := by decide +kernel
theorem dX12_bundle_88 : decode cX12_bundle 88 = .ok (.iastore, 1) := by decide +kernel
theorem dX12_bundle_89 : decode cX12_bundle 89 = .ok (.aload_n 0, 1) := by decide +kernel
theorem dX12_bundle_90 : decode cX12_bundle 90 = .ok (.iload_n 3, 1) := by decide +kernel
theorem dX12_bundle_91 : decode cX12_bundle 91 = .ok (.invokevirtual 14, 3) := by decide +kernel
theorem dX12_bundle_94 : decode cX12_bundle 94 = .ok (.ireturn, 1) := by decide +kernel
theorem dX12_cover_0 : decode cX12_cover 0 = .ok (.iload_n 1, 1) := by decide +kernel
theorem dX12_cover_1 : decode cX12_cover 1 = .ok (.iconst 1, 1) := by decide +kernel
theorem dX12_cover_2 : decode cX12_cover 2 = .ok (.sipush 255, 3) := by decide +kernel
theorem dX12_cover_5 : decode cX12_cover 5 = .ok (.invokestatic 123, 3) := by decide +kernel
theorem dX12_cover_8 : decode cX12_cover 8 = .ok (.ifCond .eq 12, 3) := by decide +kernel
theorem dX12_cover_11 : decode cX12_cover 11 = .ok (.iload_n 2, 1) := by decide +kernel
theorem dX12_cover_12 : decode cX12_cover 12 = .ok (.iconst 0, 1) := by decide +kernel
theorem dX12_cover_13 : decode cX12_cover 13 = .ok (.iconst 1, 1) := by decide +kernel
theorem dX12_cover_14 : decode cX12_cover 14 = .ok (.invokestatic 123, 3) := by decide +kernel
theorem dX12_cover_17 : decode cX12_cover 17 = .ok (.ifCond .ne 5, 3) := by decide +kernel
theorem dX12_cover_20 : decode cX12_cover 20 = .ok (.iconst (-1), 1) := by decide +kernel
theorem dX12_cover_21 : decode cX12_cover 21 = .ok (.ireturn, 1) := by decide +kernel
theorem dX12_cover_22 : decode cX12_cover 22 = .ok (.iconst (-1), 1) := by decide +kernel
theorem dX12_cover_23 : decode cX12_cover 23 = .ok (.istore_n 3, 1) := by decide +kernel
theorem dX12_cover_24 : decode cX12_cover 24 = .ok (.iconst 0, 1) := by decide +kernel
theorem dX12_cover_25 : decode cX12_cover 25 = .ok (.istore 4, 2) := by decide +kernel
theorem dX12_cover_27 : decode cX12_cover 27 = .ok (.iconst 0, 1) := by decide +kernel
theorem dX12_cover_28 : decode cX12_cover 28 = .ok (.istore 5, 2) := by decide +kernel
theorem dX12_cover_30 : decode cX12_cover 30 = .ok (.iload 5, 2) := by decide +kernel
theorem dX12_cover_32 : decode cX12_cover 32 = .ok (.iconst 1, 1) := by decide +kernel
theorem dX12_cover_33 : decode cX12_cover 33 = .ok (.aload_n 0, 1) := by decide +kernel
theorem dX12_cover_34 : decode cX12_cover 34 = .ok (.getfield 24, 3) := by decide +kernel
theorem dX12_cover_37 : decode cX12_cover 37 = .ok (.sipush 366, 3) := by decide +kernel
theorem dX12_cover_40 : decode cX12_cover 40 = .ok (.iaload, 1) := by decide +kernel
theorem dX12_cover_41 : decode cX12_cover 41 = .ok (.ishl, 1) := by decide +kernel
theorem dX12_cover_42 : decode cX12_cover 42 = .ok (.if_icmp .ge 153, 3) := by decide +kernel
theorem dX12_cover_45 : decode cX12_cover 45 = .ok (.iconst 0, 1) := by decide +kernel
theorem dX12_cover_46 : decode cX12_cover 46 = .ok (.istore 6, 2) := by decide +kernel
theorem dX12_cover_48 : decode cX12_cover 48 = .ok (.iconst 0, 1) := by decide +kernel
theorem dX12_cover_49 : decode cX12_cover 49 = .ok (.istore 7, 2) := by decide +kernel
theorem dX12_cover_51 : decode cX12_cover 51 = .ok (.iconst 0, 1) := by decide +kernel
theorem dX12_cover_52 : decode cX12_cover 52 = .ok (.istore 8, 2) := by decide +kernel
theorem dX12_cover_54 : decode cX12_cover 54 = .ok (.iload 8, 2) := by decide +kernel
theorem dX12_cover_56 : decode cX12_cover 56 = .ok (.aload_n 0, 1) := by decide +kernel
theorem dX12_cover_57 : decode cX12_cover 57 = .ok (.getfield 24, 3) := by decide +kernel
theorem dX12_cover_60 : decode cX12_cover 60 = .ok (.sipush 366, 3) := by decide +kernel
theorem dX12_cover_63 : decode cX12_cover 63 = .ok (.iaload, 1) := by decide +kernel
theorem dX12_cover_64 : decode cX12_cover 64 = .ok (.if_icmp .ge 75, 3) := by decide +kernel
theorem dX12_cover_67 : decode cX12_cover 67 = .ok (.iload 6, 2) := by decide +kernel
theorem dX12_cover_69 : decode cX12_cover 69 = .ok (.iload 5, 2) := by decide +kernel
theorem dX12_cover_71 : decode cX12_cover 71 = .ok (.iload 8, 2) := by decide +kernel
theorem dX12_cover_73 : decode cX12_cover 73 = .ok (.invokestatic 406, 3) := by decide +kernel
theorem dX12_cover_76 : decode cX12_cover 76 = .ok (.ifCond .eq 19, 3) := by decide +kernel
theorem dX12_cover_79 : decode cX12_cover 79 = .ok (.aload_n 0, 1) := by decide +kernel
theorem dX12_cover_80 : decode cX12_cover 80 = .ok (.getfield 24, 3) := by decide +kernel
theorem dX12_cover_83 : decode cX12_cover 83 = .ok (.sipush 322, 3) := by decide +kernel
theorem dX12_cover_86 : decode cX12_cover 86 = .ok (.iconst 2, 1) := by decide +kernel
theorem dX12_cover_87 : decode cX12_cover 87 = .ok (.iload 8, 2) := by decide +kernel
theorem dX12_cover_89 : decode cX12_cover 89 = .ok (.imul, 1) := by decide +kernel
theorem dX12_cover_90 : decode cX12_cover 90 = .ok (.iadd, 1) := by decide +kernel
theorem dX12_cover_91 : decode cX12_cover 91 = .ok (.iaload, 1) := by decide +kernel
theorem dX12_cover_92 : decode cX12_cover 92 = .ok (.goto 4, 3) := by decide +kernel
theorem dX12_cover_95 : decode cX12_cover 95 = .ok (.iconst 0, 1) := by decide +kernel
theorem dX12_cover_96 : decode cX12_cover 96 = .ok (.ior, 1) := by decide +kernel
theorem dX12_cover_97 : decode cX12_cover 97 = .ok (.istore 6, 2) := by decide +kernel
theorem dX12_cover_99 : decode cX12_cover 99 = .ok (.iload 7, 2) := by decide +kernel
theorem dX12_cover_101 : decode cX12_cover 101 = .ok (.iload 5, 2) := by decide +kernel
theorem dX12_cover_103 : decode cX12_cover 103 = .ok (.iload 8, 2) := by decide +kernel
theorem dX12_cover_105 : decode cX12_cover 105 = .ok (.invokestatic 406, 3) := by decide +kernel
theorem dX12_cover_108 : decode cX12_cover 108 = .ok (.ifCond .eq 21, 3) := by decide +kernel
theorem dX12_cover_111 : decode cX12_cover 111 = .ok (.aload_n 0, 1) := by decide +kernel
theorem dX12_cover_112 : decode cX12_cover 112 = .ok (.getfield 24, 3) := by decide +kernel
theorem dX12_cover_115 : decode cX12_cover 115 = .ok (.sipush 322, 3) := by decide +kernel
theorem dX12_cover_118 : decode cX12_cover 118 = .ok (.iconst 2, 1) := by decide +kernel
theorem dX12_cover_119 : decode cX12_cover 119 = .ok (.iload 8, 2) := by decide +kernel
theorem dX12_cover_121 : decode cX12_cover 121 = .ok (.imul, 1) := by decide +kernel
theorem dX12_cover_122 : decode cX12_cover 122 = .ok (.iadd, 1) := by decide +kernel
theorem dX12_cover_123 : decode cX12_cover 123 = .ok (.iconst 1, 1) := by decide +kernel
theorem dX12_cover_124 : decode cX12_cover 124 = .ok (.iadd, 1) := by decide +kernel
theorem dX12_cover_125 : decode cX12_cover 125 = .ok (.iaload, 1) := by decide +kernel
theorem dX12_cover_126 : decode cX12_cover 126 = .ok (.goto 4, 3) := by decide +kernel
theorem dX12_cover_129 : decode cX12_cover 129 = .ok (.iconst 0, 1) := by decide +kernel
theorem dX12_cover_130 : decode cX12_cover 130 = .ok (.iadd, 1) := by decide +kernel
theorem dX12_cover_131 : decode cX12_cover 131 = .ok (.istore 7, 2) := by decide +kernel
theorem dX12_cover_133 : decode cX12_cover 133 = .ok (.iinc 8 1, 3) := by decide +kernel
theorem dX12_cover_136 : decode cX12_cover 136 = .ok (.goto (-82), 3) := by decide +kernel
theorem dX12_cover_139 : decode cX12_cover 139 = .ok (.iload_n 1, 1) := by decide +kernel
theorem dX12_cover_140 : decode cX12_cover 140 = .ok (.iload 6, 2) := by decide +kernel
theorem dX12_cover_142 : decode cX12_cover 142 = .ok (.iconst (-1), 1) := by decide +kernel
theorem dX12_cover_143 : decode cX12_cover 143 = .ok (.ixor, 1) := by decide +kernel
theorem dX12_cover_144 : decode cX12_cover 144 = .ok (.iand, 1) := by decide +kernel
theorem dX12_cover_145 : decode cX12_cover 145 = .ok (.ifCond .ne 44, 3) := by decide +kernel
theorem dX12_cover_148 : decode cX12_cover 148 = .ok (.iload_n 3, 1) := by decide +kernel
theorem dX12_cover_149 : decode cX12_cover 149 = .ok (.iconst (-1), 1) := by decide +kernel
theorem dX12_cover_150 : decode cX12_cover 150 = .ok (.if_icmp .eq 32, 3) := by decide +kernel
theorem dX12_cover_153 : decode cX12_cover 153 = .ok (.iload 7, 2) := by decide +kernel
theorem dX12_cover_155 : decode cX12_cover 155 = .ok (.iload 4, 2) := by decide +kernel
theorem dX12_cover_157 : decode cX12_cover 157 = .ok (.if_icmp .gt 32, 3) := by decide +kernel
theorem dX12_cover_160 : decode cX12_cover 160 = .ok (.iload 7, 2) := by decide +kernel
theorem dX12_cover_162 : decode cX12_cover 162 = .ok (.iload 4, 2) := by decide +kernel
theorem dX12_cover_164 : decode cX12_cover 164 = .ok (.if_icmp .ne 18, 3) := by decide +kernel
theorem dX12_cover_167 : decode cX12_cover 167 = .ok (.iload 5, 2) := by decide +kernel
theorem dX12_cover_169 : decode cX12_cover 169 = .ok (.invokestatic 412, 3) := by decide +kernel
theorem dX12_cover_172 : decode cX12_cover 172 = .ok (.iload_n 3, 1) := by decide +kernel
theorem dX12_cover_173 : decode cX12_cover 173 = .ok (.invokestatic 412, 3) := by decide +kernel
theorem dX12_cover_176 : decode cX12_cover 176 = .ok (.if_icmp .lt 6, 3) := by decide +kernel
theorem dX12_cover_179 : decode cX12_cover 179 = .ok (.goto 10, 3) := by decide +kernel
theorem dX12_cover_182 : decode cX12_cover 182 = .ok (.iload 5, 2) := by decide +kernel
theorem dX12_cover_184 : decode cX12_cover 184 = .ok (.istore_n 3, 1) := by decide +kernel
theorem dX12_cover_185 : decode cX12_cover 185 = .ok (.iload 7, 2) := by decide +kernel
theorem dX12_cover_187 : decode cX12_cover 187 = .ok (.istore 4, 2) := by decide +kernel
theorem dX12_cover_189 : decode cX12_cover 189 = .ok (.iinc 5 1, 3) := by decide +kernel
theorem dX12_cover_192 : decode cX12_cover 192 = .ok (.goto (-162), 3) := by decide +kernel
theorem dX12_cover_195 : decode cX12_cover 195 = .ok (.iload_n 3, 1) := by decide +kernel
theorem dX12_cover_196 : decode cX12_cover 196 = .ok (.iconst (-1), 1) := by decide +kernel
theorem dX12_cover_197 : decode cX12_cover 197 = .ok (.if_icmp .ne 7, 3) := by decide +kernel
theorem dX12_cover_200 : decode cX12_cover 200 = .ok (.iconst (-1), 1) := by decide +kernel
theorem dX12_cover_201 : decode cX12_cover 201 = .ok (.goto 13, 3) := by decide +kernel
theorem dX12_cover_204 : decode cX12_cover 204 = .ok (.iload_n 2, 1) := by decide +kernel
theorem dX12_cover_205 : decode cX12_cover 205 = .ok (.ifCond .ne 8, 3) := by decide +kernel
theorem dX12_cover_208 : decode cX12_cover 208 = .ok (.iload 4, 2) := by decide +kernel
theorem dX12_cover_210 : decode cX12_cover 210 = .ok (.goto 4, 3) := by decide +kernel
theorem dX12_cover_213 : decode cX12_cover 213 = .ok (.iload_n 3, 1) := by decide +kernel
theorem dX12_cover_214 : decode cX12_cover 214 = .ok (.ireturn, 1) := by decide +kernel
theorem dX12_when_0 : decode cX12_when 0 = .ok (.aload_n 0, 1) := by decide +kernel
theorem dX12_when_1 : decode cX12_when 1 = .ok (.iload_n 1, 1) := by decide +kernel
theorem dX12_when_2 : decode cX12_when 2 = .ok (.invokevirtual 372, 3) := by decide +kernel
theorem dX12_when_5 : decode cX12_when 5 = .ok (.ifCond .eq 22, 3) := by decide +kernel
theorem dX12_when_8 : decode cX12_when 8 = .ok (.iload_n 2, 1) := by decide +kernel
theorem dX12_when_9 : decode cX12_when 9 = .ok (.iconst 1, 1) := by decide +kernel
theorem dX12_when_10 : decode cX12_when 10 = .ok (.bipush 50, 2) := by decide +kernel
theorem dX12_when_12 : decode cX12_when 12 = .ok (.invokestatic 123, 3) := by decide +kernel
theorem dX12_when_15 : decode cX12_when 15 = .ok (.ifCond .eq 12, 3) := by decide +kernel
theorem dX12_when_18 : decode cX12_when 18 = .ok (.iload_n 3, 1) := by decide +kernel
theorem dX12_when_19 : decode cX12_when 19 = .ok (.iconst 0, 1) := by decide +kernel
theorem dX12_when_20 : decode cX12_when 20 = .ok (.iconst 1, 1) := by decide +kernel
theorem dX12_when_21 : decode cX12_when 21 = .ok (.invokestatic 123, 3) := by decide +kernel
theorem dX12_when_24 : decode cX12_when 24 = .ok (.ifCond .ne 5, 3) := by decide +kernel
theorem dX12_when_27 : decode cX12_when 27 = .ok (.iconst (-1), 1) := by decide +kernel
theorem dX12_when_28 : decode cX12_when 28 = .ok (.ireturn, 1) := by decide +kernel
theorem dX12_when_29 : decode cX12_when 29 = .ok (.aload_n 0, 1) := by decide +kernel
theorem dX12_when_30 : decode cX12_when 30 = .ok (.iconst 0, 1) := by decide +kernel
theorem dX12_when_31 : decode cX12_when 31 = .ok (.invokevirtual 415, 3) := by decide +kernel
theorem dX12_when_34 : decode cX12_when 34 = .ok (.iconst 0, 1) := by decide +kernel
theorem dX12_when_35 : decode cX12_when 35 = .ok (.istore 4, 2) := by decide +kernel
theorem dX12_when_37 : decode cX12_when 37 = .ok (.iload 4, 2) := by decide +kernel
theorem dX12_when_39 : decode cX12_when 39 = .ok (.iload_n 2, 1) := by decide +kernel
theorem dX12_when_40 : decode cX12_when 40 = .ok (.if_icmp .ge 37, 3) := by decide +kernel
theorem dX12_when_43 : decode cX12_when 43 = .ok (.aload_n 0, 1) := by decide +kernel
theorem dX12_when_44 : decode cX12_when 44 = .ok (.iload_n 1, 1) := by decide +kernel
theorem dX12_when_45 : decode cX12_when 45 = .ok (.iconst 5, 1) := by decide +kernel
theorem dX12_when_46 : decode cX12_when 46 = .ok (.invokevirtual 141, 3) := by decide +kernel
theorem dX12_when_49 : decode cX12_when 49 = .ok (.ifCond .ne 28, 3) := by decide +kernel
theorem dX12_when_52 : decode cX12_when 52 = .ok (.aload_n 0, 1) := by decide +kernel
theorem dX12_when_53 : decode cX12_when 53 = .ok (.getfield 24, 3) := by decide +kernel
theorem dX12_when_56 : decode cX12_when 56 = .ok (.sipush 169, 3) := by decide +kernel
theorem dX12_when_59 : decode cX12_when 59 = .ok (.iaload, 1) := by decide +kernel
theorem dX12_when_60 : decode cX12_when 60 = .ok (.sipush 999, 3) := by decide +kernel
theorem dX12_when_63 : decode cX12_when 63 = .ok (.if_icmp .ge 14, 3) := by decide +kernel
theorem dX12_when_66 : decode cX12_when 66 = .ok (.aload_n 0, 1) := by decide +kernel
theorem dX12_when_67 : decode cX12_when 67 = .ok (.invokevirtual 379, 3) := by decide +kernel
theorem dX12_when_70 : decode cX12_when 70 = .ok (.pop, 1) := by decide +kernel
theorem dX12_when_71 : decode cX12_when 71 = .ok (.iinc 4 1, 3) := by decide +kernel
theorem dX12_when_74 : decode cX12_when 74 = .ok (.goto (-37), 3) := by decide +kernel
theorem dX12_when_77 : decode cX12_when 77 = .ok (.aload_n 0, 1) := by decide +kernel
theorem dX12_when_78 : decode cX12_when 78 = .ok (.iload_n 1, 1) := by decide +kernel
theorem dX12_when_79 : decode cX12_when 79 = .ok (.iconst 5, 1) := by decide +kernel
theorem dX12_when_80 : decode cX12_when 80 = .ok (.invokevirtual 141, 3) := by decide +kernel
theorem dX12_when_83 : decode cX12_when 83 = .ok (.ifCond .ne 7, 3) := by decide +kernel
theorem dX12_when_86 : decode cX12_when 86 = .ok (.iconst (-1), 1) := by decide +kernel
theorem dX12_when_87 : decode cX12_when 87 = .ok (.goto 32, 3) := by decide +kernel
theorem dX12_when_90 : decode cX12_when 90 = .ok (.iload_n 3, 1) := by decide +kernel
theorem dX12_when_91 : decode cX12_when 91 = .ok (.ifCond .ne 13, 3) := by decide +kernel
theorem dX12_when_94 : decode cX12_when 94 = .ok (.aload_n 0, 1) := by decide +kernel
theorem dX12_when_95 : decode cX12_when 95 = .ok (.iload_n 1, 1) := by decide +kernel
theorem dX12_when_96 : decode cX12_when 96 = .ok (.bipush 6, 2) := by decide +kernel
theorem dX12_when_98 : decode cX12_when 98 = .ok (.invokevirtual 141, 3) := by decide +kernel
theorem dX12_when_101 : decode cX12_when 101 = .ok (.goto 18, 3) := by decide +kernel
theorem dX12_when_104 : decode cX12_when 104 = .ok (.aload_n 0, 1) := by decide +kernel
theorem dX12_when_105 : decode cX12_when 105 = .ok (.iload_n 1, 1) := by decide +kernel
theorem dX12_when_106 : decode cX12_when 106 = .ok (.iconst 5, 1) := by decide +kernel
theorem dX12_when_107 : decode cX12_when 107 = .ok (.invokevirtual 141, 3) := by decide +kernel
theorem dX12_when_110 : decode cX12_when 110 = .ok (.iconst 1, 1) := by decide +kernel
theorem dX12_when_111 : decode cX12_when 111 = .ok (.if_icmp .ne 7, 3) := by decide +kernel
theorem dX12_when_114 : decode cX12_when 114 = .ok (.iconst 1, 1) := by decide +kernel
theorem dX12_when_115 : decode cX12_when 115 = .ok (.goto 4, 3) := by decide +kernel
theorem dX12_when_118 : decode cX12_when 118 = .ok (.iconst 0, 1) := by decide +kernel
theorem dX12_when_119 : decode cX12_when 119 = .ok (.istore 4, 2) := by decide +kernel
theorem dX12_when_121 : decode cX12_when 121 = .ok (.aload_n 0, 1) := by decide +kernel
theorem dX12_when_122 : decode cX12_when 122 = .ok (.iconst 0, 1) := by decide +kernel
theorem dX12_when_123 : decode cX12_when 123 = .ok (.invokevirtual 418, 3) := by decide +kernel
theorem dX12_when_126 : decode cX12_when 126 = .ok (.iload 4, 2) := by decide +kernel
theorem dX12_when_128 : decode cX12_when 128 = .ok (.ireturn, 1) := by decide +kernel
theorem dX12_longest_0 : decode cX12_longest 0 = .ok (.aload_n 0, 1) := by decide +kernel
theorem dX12_longest_1 : decode cX12_longest 1 = .ok (.iload_n 1, 1) := by decide +kernel
theorem dX12_longest_2 : decode cX12_longest 2 = .ok (.invokevirtual 161, 3) := by decide +kernel
theorem dX12_longest_5 : decode cX12_longest 5 = .ok (.ifCond .eq 34, 3) := by decide +kernel
theorem dX12_longest_8 : decode cX12_longest 8 = .ok (.iload_n 2, 1) := by decide +kernel
theorem dX12_longest_9 : decode cX12_longest 9 = .ok (.invokestatic 148, 3) := by decide +kernel
theorem dX12_longest_12 : decode cX12_longest 12 = .ok (.ifCond .eq 27, 3) := by decide +kernel
theorem dX12_longest_15 : decode cX12_longest 15 = .ok (.iload_n 3, 1) := by decide +kernel
theorem dX12_longest_16 : decode cX12_longest 16 = .ok (.iconst 1, 1) := by decide +kernel
theorem dX12_longest_17 : decode cX12_longest 17 = .ok (.bipush 6, 2) := by decide +kernel
theorem dX12_longest_19 : decode cX12_longest 19 = .ok (.invokestatic 123, 3) := by decide +kernel
theorem dX12_longest_22 : decode cX12_longest 22 = .ok (.ifCond .eq 17, 3) := by decide +kernel
theorem dX12_longest_25 : decode cX12_longest 25 = .ok (.aload_n 0, 1) := by decide +kernel
theorem dX12_longest_26 : decode cX12_longest 26 = .ok (.getfield 24, 3) := by decide +kernel
theorem dX12_longest_29 : decode cX12_longest 29 = .ok (.sipush 169, 3) := by decide +kernel
theorem dX12_longest_32 : decode cX12_longest 32 = .ok (.iaload, 1) := by decide +kernel
theorem dX12_longest_33 : decode cX12_longest 33 = .ok (.sipush 999, 3) := by decide +kernel
theorem dX12_longest_36 : decode cX12_longest 36 = .ok (.if_icmp .ne 5, 3) := by decide +kernel
theorem dX12_longest_39 : decode cX12_longest 39 = .ok (.iconst (-1), 1) := by decide +kernel
theorem dX12_longest_40 : decode cX12_longest 40 = .ok (.ireturn, 1) := by decide +kernel
theorem dX12_longest_41 : decode cX12_longest 41 = .ok (.aload_n 0, 1) := by decide +kernel
theorem dX12_longest_42 : decode cX12_longest 42 = .ok (.iconst 0, 1) := by decide +kernel
theorem dX12_longest_43 : decode cX12_longest 43 = .ok (.invokevirtual 415, 3) := by decide +kernel
theorem dX12_longest_46 : decode cX12_longest 46 = .ok (.iconst (-1), 1) := by decide +kernel
theorem dX12_longest_47 : decode cX12_longest 47 = .ok (.istore 4, 2) := by decide +kernel
theorem dX12_longest_49 : decode cX12_longest 49 = .ok (.aload_n 0, 1) := by decide +kernel
theorem dX12_longest_50 : decode cX12_longest 50 = .ok (.iload_n 1, 1) := by decide +kernel
theorem dX12_longest_51 : decode cX12_longest 51 = .ok (.invokevirtual 164, 3) := by decide +kernel
theorem dX12_longest_54 : decode cX12_longest 54 = .ok (.istore 5, 2) := by decide +kernel
theorem dX12_longest_56 : decode cX12_longest 56 = .ok (.iload 5, 2) := by decide +kernel
theorem dX12_longest_58 : decode cX12_longest 58 = .ok (.ifCond .le 59, 3) := by decide +kernel
theorem dX12_longest_61 : decode cX12_longest 61 = .ok (.iload 4, 2) := by decide +kernel
theorem dX12_longest_63 : decode cX12_longest 63 = .ok (.iconst (-1), 1) := by decide +kernel
theorem dX12_longest_64 : decode cX12_longest 64 = .ok (.if_icmp .ne 53, 3) := by decide +kernel
theorem dX12_longest_67 : decode cX12_longest 67 = .ok (.aload_n 0, 1) := by decide +kernel
theorem dX12_longest_68 : decode cX12_longest 68 = .ok (.invokevirtual 133, 3) := by decide +kernel
theorem dX12_longest_71 : decode cX12_longest 71 = .ok (.istore 6, 2) := by decide +kernel
theorem dX12_longest_73 : decode cX12_longest 73 = .ok (.aload_n 0, 1) := by decide +kernel
theorem dX12_longest_74 : decode cX12_longest 74 = .ok (.iload_n 1, 1) := by decide +kernel
theorem dX12_longest_75 : decode cX12_longest 75 = .ok (.iload_n 2, 1) := by decide +kernel
theorem dX12_longest_76 : decode cX12_longest 76 = .ok (.iload 5, 2) := by decide +kernel
theorem dX12_longest_78 : decode cX12_longest 78 = .ok (.iload_n 3, 1) := by decide +kernel
theorem dX12_longest_79 : decode cX12_longest 79 = .ok (.invokevirtual 177, 3) := by decide +kernel
theorem dX12_longest_82 : decode cX12_longest 82 = .ok (.aload_n 0, 1) := by decide +kernel
theorem dX12_longest_83 : decode cX12_longest 83 = .ok (.invokevirtual 379, 3) := by decide +kernel
theorem dX12_longest_86 : decode cX12_longest 86 = .ok (.pop, 1) := by decide +kernel
theorem dX12_longest_87 : decode cX12_longest 87 = .ok (.aload_n 0, 1) := by decide +kernel
theorem dX12_longest_88 : decode cX12_longest 88 = .ok (.iload 6, 2) := by decide +kernel
theorem dX12_longest_90 : decode cX12_longest 90 = .ok (.iconst 5, 1) := by decide +kernel
theorem dX12_longest_91 : decode cX12_longest 91 = .ok (.invokevirtual 141, 3) := by decide +kernel
theorem dX12_longest_94 : decode cX12_longest 94 = .ok (.iconst 1, 1) := by decide +kernel
theorem dX12_longest_95 : decode cX12_longest 95 = .ok (.if_icmp .ne 8, 3) := by decide +kernel
theorem dX12_longest_98 : decode cX12_longest 98 = .ok (.iload 5, 2) := by decide +kernel
theorem dX12_longest_100 : decode cX12_longest 100 = .ok (.goto 4, 3) := by decide +kernel
theorem dX12_longest_103 : decode cX12_longest 103 = .ok (.iconst (-1), 1) := by decide +kernel
theorem dX12_longest_104 : decode cX12_longest 104 = .ok (.istore 4, 2) := by decide +kernel
theorem dX12_longest_106 : decode cX12_longest 106 = .ok (.aload_n 0, 1) := by decide +kernel
theorem dX12_longest_107 : decode cX12_longest 107 = .ok (.iconst 0, 1) := by decide +kernel
theorem dX12_longest_108 : decode cX12_longest 108 = .ok (.invokevirtual 418, 3) := by decide +kernel
theorem dX12_longest_111 : decode cX12_longest 111 = .ok (.iinc 5 (-1), 3) := by decide +kernel
theorem dX12_longest_114 : decode cX12_longest 114 = .ok (.goto (-58), 3) := by decide +kernel
theorem dX12_longest_117 : decode cX12_longest 117 = .ok (.iload 4, 2) := by decide +kernel
theorem dX12_longest_119 : decode cX12_longest 119 = .ok (.ireturn, 1) := by decide +kernel
theorem dX12_keep_0 : decode cX12_keep 0 = .ok (.aload_n 0, 1) := by decide +kernel
theorem dX12_keep_1 : decode cX12_keep 1 = .ok (.iload_n 1, 1) := by decide +kernel
theorem dX12_keep_2 : decode cX12_keep 2 = .ok (.invokevirtual 372, 3) := by decide +kernel
theorem dX12_keep_5 : decode cX12_keep 5 = .ok (.ifCond .eq 50, 3) := by decide +kernel
theorem dX12_keep_8 : decode cX12_keep 8 = .ok (.iload_n 2, 1) := by decide +kernel
theorem dX12_keep_9 : decode cX12_keep 9 = .ok (.iconst 1, 1) := by decide +kernel
theorem dX12_keep_10 : decode cX12_keep 10 = .ok (.bipush 20, 2) := by decide +kernel
theorem dX12_keep_12 : decode cX12_keep 12 = .ok (.invokestatic 123, 3) := by decide +kernel
theorem dX12_keep_15 : decode cX12_keep 15 = .ok (.ifCond .eq 40, 3) := by decide +kernel
theorem dX12_keep_18 : decode cX12_keep 18 = .ok (.aload_n 0, 1) := by decide +kernel
theorem dX12_keep_19 : decode cX12_keep 19 = .ok (.iload_n 3, 1) := by decide +kernel
theorem dX12_keep_20 : decode cX12_keep 20 = .ok (.invokevirtual 161, 3) := by decide +kernel
theorem dX12_keep_23 : decode cX12_keep 23 = .ok (.ifCond .eq 32, 3) := by decide +kernel
theorem dX12_keep_26 : decode cX12_keep 26 = .ok (.iload 4, 2) := by decide +kernel
theorem dX12_keep_28 : decode cX12_keep 28 = .ok (.invokestatic 148, 3) := by decide +kernel
theorem dX12_keep_31 : decode cX12_keep 31 = .ok (.ifCond .eq 24, 3) := by decide +kernel
theorem dX12_keep_34 : decode cX12_keep 34 = .ok (.iload 5, 2) := by decide +kernel
theorem dX12_keep_36 : decode cX12_keep 36 = .ok (.iconst 1, 1) := by decide +kernel
theorem dX12_keep_37 : decode cX12_keep 37 = .ok (.bipush 99, 2) := by decide +kernel
theorem dX12_keep_39 : decode cX12_keep 39 = .ok (.invokestatic 123, 3) := by decide +kernel
theorem dX12_keep_42 : decode cX12_keep 42 = .ok (.ifCond .eq 13, 3) := by decide +kernel
theorem dX12_keep_45 : decode cX12_keep 45 = .ok (.iload 5, 2) := by decide +kernel
theorem dX12_keep_47 : decode cX12_keep 47 = .ok (.aload_n 0, 1) := by decide +kernel
theorem dX12_keep_48 : decode cX12_keep 48 = .ok (.iload_n 3, 1) := by decide +kernel
theorem dX12_keep_49 : decode cX12_keep 49 = .ok (.invokevirtual 164, 3) := by decide +kernel
theorem dX12_keep_52 : decode cX12_keep 52 = .ok (.if_icmp .le 5, 3) := by decide +kernel
theorem dX12_keep_55 : decode cX12_keep 55 = .ok (.iconst (-1), 1) := by decide +kernel
theorem dX12_keep_56 : decode cX12_keep 56 = .ok (.ireturn, 1) := by decide +kernel
theorem dX12_keep_57 : decode cX12_keep 57 = .ok (.aload_n 0, 1) := by decide +kernel
theorem dX12_keep_58 : decode cX12_keep 58 = .ok (.iconst 0, 1) := by decide +kernel
theorem dX12_keep_59 : decode cX12_keep 59 = .ok (.invokevirtual 415, 3) := by decide +kernel
theorem dX12_keep_62 : decode cX12_keep 62 = .ok (.iconst (-1), 1) := by decide +kernel
theorem dX12_keep_63 : decode cX12_keep 63 = .ok (.istore 6, 2) := by decide +kernel
theorem dX12_keep_65 : decode cX12_keep 65 = .ok (.iconst 0, 1) := by decide +kernel
theorem dX12_keep_66 : decode cX12_keep 66 = .ok (.istore 7, 2) := by decide +kernel
theorem dX12_keep_68 : decode cX12_keep 68 = .ok (.iload 7, 2) := by decide +kernel
theorem dX12_keep_70 : decode cX12_keep 70 = .ok (.bipush 8, 2) := by decide +kernel
theorem dX12_keep_72 : decode cX12_keep 72 = .ok (.if_icmp .gt 98, 3) := by decide +kernel
theorem dX12_keep_75 : decode cX12_keep 75 = .ok (.iload 6, 2) := by decide +kernel
theorem dX12_keep_77 : decode cX12_keep 77 = .ok (.iconst (-1), 1) := by decide +kernel
theorem dX12_keep_78 : decode cX12_keep 78 = .ok (.if_icmp .ne 92, 3) := by decide +kernel
theorem dX12_keep_81 : decode cX12_keep 81 = .ok (.iconst 0, 1) := by decide +kernel
theorem dX12_keep_82 : decode cX12_keep 82 = .ok (.istore 8, 2) := by decide +kernel
theorem dX12_keep_84 : decode cX12_keep 84 = .ok (.iload 8, 2) := by decide +kernel
theorem dX12_keep_86 : decode cX12_keep 86 = .ok (.iload 7, 2) := by decide +kernel
theorem dX12_keep_88 : decode cX12_keep 88 = .ok (.if_icmp .ge 19, 3) := by decide +kernel
theorem dX12_keep_91 : decode cX12_keep 91 = .ok (.aload_n 0, 1) := by decide +kernel
theorem dX12_keep_92 : decode cX12_keep 92 = .ok (.iload_n 3, 1) := by decide +kernel
theorem dX12_keep_93 : decode cX12_keep 93 = .ok (.iload 4, 2) := by decide +kernel
theorem dX12_keep_95 : decode cX12_keep 95 = .ok (.iload 5, 2) := by decide +kernel
theorem dX12_keep_97 : decode cX12_keep 97 = .ok (.iconst 1, 1) := by decide +kernel
theorem dX12_keep_98 : decode cX12_keep 98 = .ok (.invokevirtual 177, 3) := by decide +kernel
theorem dX12_keep_101 : decode cX12_keep 101 = .ok (.iinc 8 1, 3) := by decide +kernel
theorem dX12_keep_104 : decode cX12_keep 104 = .ok (.goto (-20), 3) := by decide +kernel
theorem dX12_keep_107 : decode cX12_keep 107 = .ok (.iconst 0, 1) := by decide +kernel
theorem dX12_keep_108 : decode cX12_keep 108 = .ok (.istore 8, 2) := by decide +kernel
theorem dX12_keep_110 : decode cX12_keep 110 = .ok (.iload 8, 2) := by decide +kernel
theorem dX12_keep_112 : decode cX12_keep 112 = .ok (.iload_n 2, 1) := by decide +kernel
theorem dX12_keep_113 : decode cX12_keep 113 = .ok (.if_icmp .ge 28, 3) := by decide +kernel
theorem dX12_keep_116 : decode cX12_keep 116 = .ok (.aload_n 0, 1) := by decide +kernel
theorem dX12_keep_117 : decode cX12_keep 117 = .ok (.getfield 24, 3) := by decide +kernel
theorem dX12_keep_120 : decode cX12_keep 120 = .ok (.sipush 169, 3) := by decide +kernel
theorem dX12_keep_123 : decode cX12_keep 123 = .ok (.iaload, 1) := by decide +kernel
theorem dX12_keep_124 : decode cX12_keep 124 = .ok (.sipush 999, 3) := by decide +kernel
theorem dX12_keep_127 : decode cX12_keep 127 = .ok (.if_icmp .ge 14, 3) := by decide +kernel
theorem dX12_keep_130 : decode cX12_keep 130 = .ok (.aload_n 0, 1) := by decide +kernel
theorem dX12_keep_131 : decode cX12_keep 131 = .ok (.invokevirtual 379, 3) := by decide +kernel
theorem dX12_keep_134 : decode cX12_keep 134 = .ok (.pop, 1) := by decide +kernel
theorem dX12_keep_135 : decode cX12_keep 135 = .ok (.iinc 8 1, 3) := by decide +kernel
theorem dX12_keep_138 : decode cX12_keep 138 = .ok (.goto (-28), 3) := by decide +kernel
theorem dX12_keep_141 : decode cX12_keep 141 = .ok (.aload_n 0, 1) := by decide +kernel
theorem dX12_keep_142 : decode cX12_keep 142 = .ok (.iload_n 1, 1) := by decide +kernel
theorem dX12_keep_143 : decode cX12_keep 143 = .ok (.iconst 5, 1) := by decide +kernel
theorem dX12_keep_144 : decode cX12_keep 144 = .ok (.invokevirtual 141, 3) := by decide +kernel
theorem dX12_keep_147 : decode cX12_keep 147 = .ok (.iconst 1, 1) := by decide +kernel
theorem dX12_keep_148 : decode cX12_keep 148 = .ok (.if_icmp .ne 7, 3) := by decide +kernel
theorem dX12_keep_151 : decode cX12_keep 151 = .ok (.iconst (-1), 1) := by decide +kernel
theorem dX12_keep_152 : decode cX12_keep 152 = .ok (.goto 5, 3) := by decide +kernel
theorem dX12_keep_155 : decode cX12_keep 155 = .ok (.iload 7, 2) := by decide +kernel
theorem dX12_keep_157 : decode cX12_keep 157 = .ok (.istore 6, 2) := by decide +kernel
theorem dX12_keep_159 : decode cX12_keep 159 = .ok (.aload_n 0, 1) := by decide +kernel
theorem dX12_keep_160 : decode cX12_keep 160 = .ok (.iconst 0, 1) := by decide +kernel
theorem dX12_keep_161 : decode cX12_keep 161 = .ok (.invokevirtual 418, 3) := by decide +kernel
theorem dX12_keep_164 : decode cX12_keep 164 = .ok (.iinc 7 1, 3) := by decide +kernel
theorem dX12_keep_167 : decode cX12_keep 167 = .ok (.goto (-99), 3) := by decide +kernel
theorem dX12_keep_170 : decode cX12_keep 170 = .ok (.iload 6, 2) := by decide +kernel
theorem dX12_keep_172 : decode cX12_keep 172 = .ok (.ireturn, 1) := by decide +kernel
theorem dX12_answer_0 : decode cX12_answer 0 = .ok (.iload_n 1, 1) := by decide +kernel
theorem dX12_answer_1 : decode cX12_answer 1 = .ok (.iconst 1, 1) := by decide +kernel
theorem dX12_answer_2 : decode cX12_answer 2 = .ok (.bipush 9, 2) := by decide +kernel
theorem dX12_answer_4 : decode cX12_answer 4 = .ok (.invokestatic 123, 3) := by decide +kernel
theorem dX12_answer_7 : decode cX12_answer 7 = .ok (.ifCond .eq 19, 3) := by decide +kernel
theorem dX12_answer_10 : decode cX12_answer 10 = .ok (.iload_n 2, 1) := by decide +kernel
theorem dX12_answer_11 : decode cX12_answer 11 = .ok (.invokestatic 148, 3) := by decide +kernel
theorem dX12_answer_14 : decode cX12_answer 14 = .ok (.ifCond .eq 12, 3) := by decide +kernel
theorem dX12_answer_17 : decode cX12_answer 17 = .ok (.iload_n 3, 1) := by decide +kernel
theorem dX12_answer_18 : decode cX12_answer 18 = .ok (.iconst 0, 1) := by decide +kernel
theorem dX12_answer_19 : decode cX12_answer 19 = .ok (.iconst 1, 1) := by decide +kernel
theorem dX12_answer_20 : decode cX12_answer 20 = .ok (.invokestatic 123, 3) := by decide +kernel
theorem dX12_answer_23 : decode cX12_answer 23 = .ok (.ifCond .ne 9, 3) := by decide +kernel
theorem dX12_answer_26 : decode cX12_answer 26 = .ok (.aload_n 0, 1) := by decide +kernel
theorem dX12_answer_27 : decode cX12_answer 27 = .ok (.iconst (-1), 1) := by decide +kernel
theorem dX12_answer_28 : decode cX12_answer 28 = .ok (.invokevirtual 127, 3) := by decide +kernel
theorem dX12_answer_31 : decode cX12_answer 31 = .ok (.ireturn, 1) := by decide +kernel
theorem dX12_answer_32 : decode cX12_answer 32 = .ok (.aload_n 0, 1) := by decide +kernel
theorem dX12_answer_33 : decode cX12_answer 33 = .ok (.getfield 24, 3) := by decide +kernel
theorem dX12_answer_36 : decode cX12_answer 36 = .ok (.sipush 367, 3) := by decide +kernel
theorem dX12_answer_39 : decode cX12_answer 39 = .ok (.iaload, 1) := by decide +kernel
theorem dX12_answer_40 : decode cX12_answer 40 = .ok (.istore 4, 2) := by decide +kernel
theorem dX12_answer_42 : decode cX12_answer 42 = .ok (.iload 4, 2) := by decide +kernel
theorem dX12_answer_44 : decode cX12_answer 44 = .ok (.bipush 6, 2) := by decide +kernel
theorem dX12_answer_46 : decode cX12_answer 46 = .ok (.if_icmp .ne 10, 3) := by decide +kernel
theorem dX12_answer_49 : decode cX12_answer 49 = .ok (.aload_n 0, 1) := by decide +kernel
theorem dX12_answer_50 : decode cX12_answer 50 = .ok (.bipush (-5), 2) := by decide +kernel
theorem dX12_answer_52 : decode cX12_answer 52 = .ok (.invokevirtual 127, 3) := by decide +kernel
theorem dX12_answer_55 : decode cX12_answer 55 = .ok (.ireturn, 1) := by decide +kernel
theorem dX12_answer_56 : decode cX12_answer 56 = .ok (.aload_n 0, 1) := by decide +kernel
theorem dX12_answer_57 : decode cX12_answer 57 = .ok (.getfield 24, 3) := by decide +kernel
theorem dX12_answer_60 : decode cX12_answer 60 = .ok (.sipush 342, 3) := by decide +kernel
theorem dX12_answer_63 : decode cX12_answer 63 = .ok (.iconst 3, 1) := by decide +kernel
theorem dX12_answer_64 : decode cX12_answer 64 = .ok (.iload 4, 2) := by decide +kernel
theorem dX12_answer_66 : decode cX12_answer 66 = .ok (.imul, 1) := by decide +kernel
theorem dX12_answer_67 : decode cX12_answer 67 = .ok (.iadd, 1) := by decide +kernel
theorem dX12_answer_68 : decode cX12_answer 68 = .ok (.iload_n 1, 1) := by decide +kernel
theorem dX12_answer_69 : decode cX12_answer 69 = .ok (.iastore, 1) := by decide +kernel
theorem dX12_answer_70 : decode cX12_answer 70 = .ok (.aload_n 0, 1) := by decide +kernel
theorem dX12_answer_71 : decode cX12_answer 71 = .ok (.getfield 24, 3) := by decide +kernel
theorem dX12_answer_74 : decode cX12_answer 74 = .ok (.sipush 342, 3) := by decide +kernel
theorem dX12_answer_77 : decode cX12_answer 77 = .ok (.iconst 3, 1) := by decide +kernel
theorem dX12_answer_78 : decode cX12_answer 78 = .ok (.iload 4, 2) := by decide +kernel
theorem dX12_answer_80 : decode cX12_answer 80 = .ok (.imul, 1) := by decide +kernel
theorem dX12_answer_81 : decode cX12_answer 81 = .ok (.iadd, 1) := by decide +kernel
theorem dX12_answer_82 : decode cX12_answer 82 = .ok (.iconst 1, 1) := by decide +kernel
theorem dX12_answer_83 : decode cX12_answer 83 = .ok (.iadd, 1) := by decide +kernel
theorem dX12_answer_84 : decode cX12_answer 84 = .ok (.iload_n 2, 1) := by decide +kernel
theorem dX12_answer_85 : decode cX12_answer 85 = .ok (.iastore, 1) := by decide +kernel
theorem dX12_answer_86 : decode cX12_answer 86 = .ok (.aload_n 0, 1) := by decide +kernel
theorem dX12_answer_87 : decode cX12_answer 87 = .ok (.getfield 24, 3) := by decide +kernel
theorem dX12_answer_90 : decode cX12_answer 90 = .ok (.sipush 342, 3) := by decide +kernel
theorem dX12_answer_93 : decode cX12_answer 93 = .ok (.iconst 3, 1) := by decide +kernel
theorem dX12_answer_94 : decode cX12_answer 94 = .ok (.iload 4, 2) := by decide +kernel
theorem dX12_answer_96 : decode cX12_answer 96 = .ok (.imul, 1) := by decide +kernel
theorem dX12_answer_97 : decode cX12_answer 97 = .ok (.iadd, 1) := by decide +kernel
theorem dX12_answer_98 : decode cX12_answer 98 = .ok (.iconst 2, 1) := by decide +kernel
theorem dX12_answer_99 : decode cX12_answer 99 = .ok (.iadd, 1) := by decide +kernel
theorem dX12_answer_100 : decode cX12_answer 100 = .ok (.iload_n 3, 1) := by decide +kernel
theorem dX12_answer_101 : decode cX12_answer 101 = .ok (.iastore, 1) := by decide +kernel
theorem dX12_answer_102 : decode cX12_answer 102 = .ok (.aload_n 0, 1) := by decide +kernel
theorem dX12_answer_103 : decode cX12_answer 103 = .ok (.getfield 24, 3) := by decide +kernel
theorem dX12_answer_106 : decode cX12_answer 106 = .ok (.sipush 367, 3) := by decide +kernel
theorem dX12_answer_109 : decode cX12_answer 109 = .ok (.dup2, 1) := by decide +kernel
theorem dX12_answer_110 : decode cX12_answer 110 = .ok (.iaload, 1) := by decide +kernel
theorem dX12_answer_111 : decode cX12_answer 111 = .ok (.iconst 1, 1) := by decide +kernel
theorem dX12_answer_112 : decode cX12_answer 112 = .ok (.iadd, 1) := by decide +kernel
theorem dX12_answer_113 : decode cX12_answer 113 = .ok (.iastore, 1) := by decide +kernel
theorem dX12_answer_114 : decode cX12_answer 114 = .ok (.aload_n 0, 1) := by decide +kernel
theorem dX12_answer_115 : decode cX12_answer 115 = .ok (.iload 4, 2) := by decide +kernel
theorem dX12_answer_117 : decode cX12_answer 117 = .ok (.iconst 1, 1) := by decide +kernel
theorem dX12_answer_118 : decode cX12_answer 118 = .ok (.iadd, 1) := by decide +kernel
theorem dX12_answer_119 : decode cX12_answer 119 = .ok (.invokevirtual 14, 3) := by decide +kernel
theorem dX12_answer_122 : decode cX12_answer 122 = .ok (.ireturn, 1) := by decide +kernel
theorem dX12_forget_0 : decode cX12_forget 0 = .ok (.aload_n 0, 1) := by decide +kernel
theorem dX12_forget_1 : decode cX12_forget 1 = .ok (.getfield 24, 3) := by decide +kernel
theorem dX12_forget_4 : decode cX12_forget 4 = .ok (.sipush 367, 3) := by decide +kernel
theorem dX12_forget_7 : decode cX12_forget 7 = .ok (.iaload, 1) := by decide +kernel
theorem dX12_forget_8 : decode cX12_forget 8 = .ok (.istore_n 1, 1) := by decide +kernel
theorem dX12_forget_9 : decode cX12_forget 9 = .ok (.aload_n 0, 1) := by decide +kernel
theorem dX12_forget_10 : decode cX12_forget 10 = .ok (.getfield 24, 3) := by decide +kernel
theorem dX12_forget_13 : decode cX12_forget 13 = .ok (.sipush 367, 3) := by decide +kernel
theorem dX12_forget_16 : decode cX12_forget 16 = .ok (.iconst 0, 1) := by decide +kernel
theorem dX12_forget_17 : decode cX12_forget 17 = .ok (.iastore, 1) := by decide +kernel
theorem dX12_forget_18 : decode cX12_forget 18 = .ok (.iload_n 1, 1) := by decide +kernel
theorem dX12_forget_19 : decode cX12_forget 19 = .ok (.ireturn, 1) := by decide +kernel
theorem dX12_lastAnswer_0 : decode cX12_lastAnswer 0 = .ok (.iconst 0, 1) := by decide +kernel
theorem dX12_lastAnswer_1 : decode cX12_lastAnswer 1 = .ok (.istore_n 1, 1) := by decide +kernel
theorem dX12_lastAnswer_2 : decode cX12_lastAnswer 2 = .ok (.iconst 0, 1) := by decide +kernel
theorem dX12_lastAnswer_3 : decode cX12_lastAnswer 3 = .ok (.istore_n 2, 1) := by decide +kernel
theorem dX12_lastAnswer_4 : decode cX12_lastAnswer 4 = .ok (.iload_n 2, 1) := by decide +kernel
theorem dX12_lastAnswer_5 : decode cX12_lastAnswer 5 = .ok (.aload_n 0, 1) := by decide +kernel
theorem dX12_lastAnswer_6 : decode cX12_lastAnswer 6 = .ok (.getfield 24, 3) := by decide +kernel
theorem dX12_lastAnswer_9 : decode cX12_lastAnswer 9 = .ok (.sipush 367, 3) := by decide +kernel
theorem dX12_lastAnswer_12 : decode cX12_lastAnswer 12 = .ok (.iaload, 1) := by decide +kernel
theorem dX12_lastAnswer_13 : decode cX12_lastAnswer 13 = .ok (.if_icmp .ge 42, 3) := by decide +kernel
theorem dX12_lastAnswer_16 : decode cX12_lastAnswer 16 = .ok (.aload_n 0, 1) := by decide +kernel
theorem dX12_lastAnswer_17 : decode cX12_lastAnswer 17 = .ok (.getfield 24, 3) := by decide +kernel
theorem dX12_lastAnswer_20 : decode cX12_lastAnswer 20 = .ok (.sipush 342, 3) := by decide +kernel
theorem dX12_lastAnswer_23 : decode cX12_lastAnswer 23 = .ok (.iconst 3, 1) := by decide +kernel
theorem dX12_lastAnswer_24 : decode cX12_lastAnswer 24 = .ok (.iload_n 2, 1) := by decide +kernel
theorem dX12_lastAnswer_25 : decode cX12_lastAnswer 25 = .ok (.imul, 1) := by decide +kernel
theorem dX12_lastAnswer_26 : decode cX12_lastAnswer 26 = .ok (.iadd, 1) := by decide +kernel
theorem dX12_lastAnswer_27 : decode cX12_lastAnswer 27 = .ok (.iaload, 1) := by decide +kernel
theorem dX12_lastAnswer_28 : decode cX12_lastAnswer 28 = .ok (.iload_n 1, 1) := by decide +kernel
theorem dX12_lastAnswer_29 : decode cX12_lastAnswer 29 = .ok (.if_icmp .le 18, 3) := by decide +kernel
theorem dX12_lastAnswer_32 : decode cX12_lastAnswer 32 = .ok (.aload_n 0, 1) := by decide +kernel
theorem dX12_lastAnswer_33 : decode cX12_lastAnswer 33 = .ok (.getfield 24, 3) := by decide +kernel
theorem dX12_lastAnswer_36 : decode cX12_lastAnswer 36 = .ok (.sipush 342, 3) := by decide +kernel
theorem dX12_lastAnswer_39 : decode cX12_lastAnswer 39 = .ok (.iconst 3, 1) := by decide +kernel
theorem dX12_lastAnswer_40 : decode cX12_lastAnswer 40 = .ok (.iload_n 2, 1) := by decide +kernel
theorem dX12_lastAnswer_41 : decode cX12_lastAnswer 41 = .ok (.imul, 1) := by decide +kernel
theorem dX12_lastAnswer_42 : decode cX12_lastAnswer 42 = .ok (.iadd, 1) := by decide +kernel
theorem dX12_lastAnswer_43 : decode cX12_lastAnswer 43 = .ok (.iaload, 1) := by decide +kernel
theorem dX12_lastAnswer_44 : decode cX12_lastAnswer 44 = .ok (.goto 4, 3) := by decide +kernel
theorem dX12_lastAnswer_47 : decode cX12_lastAnswer 47 = .ok (.iload_n 1, 1) := by decide +kernel
theorem dX12_lastAnswer_48 : decode cX12_lastAnswer 48 = .ok (.istore_n 1, 1) := by decide +kernel
theorem dX12_lastAnswer_49 : decode cX12_lastAnswer 49 = .ok (.iinc 2 1, 3) := by decide +kernel
theorem dX12_lastAnswer_52 : decode cX12_lastAnswer 52 = .ok (.goto (-48), 3) := by decide +kernel
theorem dX12_lastAnswer_55 : decode cX12_lastAnswer 55 = .ok (.iload_n 1, 1) := by decide +kernel
theorem dX12_lastAnswer_56 : decode cX12_lastAnswer 56 = .ok (.ireturn, 1) := by decide +kernel
theorem dX12_areSo_0 : decode cX12_areSo 0 = .ok (.aload_n 0, 1) := by decide +kernel
theorem dX12_areSo_1 : decode cX12_areSo 1 = .ok (.invokevirtual 421, 3) := by decide +kernel
theorem dX12_areSo_4 : decode cX12_areSo 4 = .ok (.istore_n 1, 1) := by decide +kernel
theorem dX12_areSo_5 : decode cX12_areSo 5 = .ok (.iconst 1, 1) := by decide +kernel
theorem dX12_areSo_6 : decode cX12_areSo 6 = .ok (.istore_n 2, 1) := by decide +kernel
theorem dX12_areSo_7 : decode cX12_areSo 7 = .ok (.iload_n 2, 1) := by decide +kernel
theorem dX12_areSo_8 : decode cX12_areSo 8 = .ok (.iload_n 1, 1) := by decide +kernel
theorem dX12_areSo_9 : decode cX12_areSo 9 = .ok (.if_icmp .gt 122, 3) := by decide +kernel
theorem dX12_areSo_12 : decode cX12_areSo 12 = .ok (.iconst 0, 1) := by decide +kernel
theorem dX12_areSo_13 : decode cX12_areSo 13 = .ok (.istore_n 3, 1) := by decide +kernel
theorem dX12_areSo_14 : decode cX12_areSo 14 = .ok (.aload_n 0, 1) := by decide +kernel
theorem dX12_areSo_15 : decode cX12_areSo 15 = .ok (.getfield 24, 3) := by decide +kernel
theorem dX12_areSo_18 : decode cX12_areSo 18 = .ok (.sipush 169, 3) := by decide +kernel
theorem dX12_areSo_21 : decode cX12_areSo 21 = .ok (.iaload, 1) := by decide +kernel
theorem dX12_areSo_22 : decode cX12_areSo 22 = .ok (.sipush 999, 3) := by decide +kernel
theorem dX12_areSo_25 : decode cX12_areSo 25 = .ok (.if_icmp .ge 13, 3) := by decide +kernel
theorem dX12_areSo_28 : decode cX12_areSo 28 = .ok (.aload_n 0, 1) := by decide +kernel
theorem dX12_areSo_29 : decode cX12_areSo 29 = .ok (.invokevirtual 379, 3) := by decide +kernel
theorem dX12_areSo_32 : decode cX12_areSo 32 = .ok (.pop, 1) := by decide +kernel
theorem dX12_areSo_33 : decode cX12_areSo 33 = .ok (.aload_n 0, 1) := by decide +kernel
theorem dX12_areSo_34 : decode cX12_areSo 34 = .ok (.getfield 366, 3) := by decide +kernel
theorem dX12_areSo_37 : decode cX12_areSo 37 = .ok (.istore_n 3, 1) := by decide +kernel
theorem dX12_areSo_38 : decode cX12_areSo 38 = .ok (.iconst 0, 1) := by decide +kernel
theorem dX12_areSo_39 : decode cX12_areSo 39 = .ok (.istore 4, 2) := by decide +kernel
theorem dX12_areSo_41 : decode cX12_areSo 41 = .ok (.iload 4, 2) := by decide +kernel
theorem dX12_areSo_43 : decode cX12_areSo 43 = .ok (.aload_n 0, 1) := by decide +kernel
theorem dX12_areSo_44 : decode cX12_areSo 44 = .ok (.getfield 24, 3) := by decide +kernel
theorem dX12_areSo_47 : decode cX12_areSo 47 = .ok (.sipush 367, 3) := by decide +kernel
theorem dX12_areSo_50 : decode cX12_areSo 50 = .ok (.iaload, 1) := by decide +kernel
theorem dX12_areSo_51 : decode cX12_areSo 51 = .ok (.if_icmp .ge 74, 3) := by decide +kernel
theorem dX12_areSo_54 : decode cX12_areSo 54 = .ok (.aload_n 0, 1) := by decide +kernel
theorem dX12_areSo_55 : decode cX12_areSo 55 = .ok (.getfield 24, 3) := by decide +kernel
theorem dX12_areSo_58 : decode cX12_areSo 58 = .ok (.sipush 342, 3) := by decide +kernel
theorem dX12_areSo_61 : decode cX12_areSo 61 = .ok (.iconst 3, 1) := by decide +kernel
theorem dX12_areSo_62 : decode cX12_areSo 62 = .ok (.iload 4, 2) := by decide +kernel
theorem dX12_areSo_64 : decode cX12_areSo 64 = .ok (.imul, 1) := by decide +kernel
theorem dX12_areSo_65 : decode cX12_areSo 65 = .ok (.iadd, 1) := by decide +kernel
theorem dX12_areSo_66 : decode cX12_areSo 66 = .ok (.iaload, 1) := by decide +kernel
theorem dX12_areSo_67 : decode cX12_areSo 67 = .ok (.iload_n 2, 1) := by decide +kernel
theorem dX12_areSo_68 : decode cX12_areSo 68 = .ok (.if_icmp .ne 51, 3) := by decide +kernel
theorem dX12_areSo_71 : decode cX12_areSo 71 = .ok (.iload_n 3, 1) := by decide +kernel
theorem dX12_areSo_72 : decode cX12_areSo 72 = .ok (.aload_n 0, 1) := by decide +kernel
theorem dX12_areSo_73 : decode cX12_areSo 73 = .ok (.getfield 24, 3) := by decide +kernel
theorem dX12_areSo_76 : decode cX12_areSo 76 = .ok (.sipush 342, 3) := by decide +kernel
theorem dX12_areSo_79 : decode cX12_areSo 79 = .ok (.iconst 3, 1) := by decide +kernel
theorem dX12_areSo_80 : decode cX12_areSo 80 = .ok (.iload 4, 2) := by decide +kernel
theorem dX12_areSo_82 : decode cX12_areSo 82 = .ok (.imul, 1) := by decide +kernel
theorem dX12_areSo_83 : decode cX12_areSo 83 = .ok (.iadd, 1) := by decide +kernel
theorem dX12_areSo_84 : decode cX12_areSo 84 = .ok (.iconst 1, 1) := by decide +kernel
theorem dX12_areSo_85 : decode cX12_areSo 85 = .ok (.iadd, 1) := by decide +kernel
theorem dX12_areSo_86 : decode cX12_areSo 86 = .ok (.iaload, 1) := by decide +kernel
theorem dX12_areSo_87 : decode cX12_areSo 87 = .ok (.invokestatic 406, 3) := by decide +kernel
theorem dX12_areSo_90 : decode cX12_areSo 90 = .ok (.aload_n 0, 1) := by decide +kernel
theorem dX12_areSo_91 : decode cX12_areSo 91 = .ok (.getfield 24, 3) := by decide +kernel
theorem dX12_areSo_94 : decode cX12_areSo 94 = .ok (.sipush 342, 3) := by decide +kernel
theorem dX12_areSo_97 : decode cX12_areSo 97 = .ok (.iconst 3, 1) := by decide +kernel
theorem dX12_areSo_98 : decode cX12_areSo 98 = .ok (.iload 4, 2) := by decide +kernel
theorem dX12_areSo_100 : decode cX12_areSo 100 = .ok (.imul, 1) := by decide +kernel
theorem dX12_areSo_101 : decode cX12_areSo 101 = .ok (.iadd, 1) := by decide +kernel
theorem dX12_areSo_102 : decode cX12_areSo 102 = .ok (.iconst 2, 1) := by decide +kernel
theorem dX12_areSo_103 : decode cX12_areSo 103 = .ok (.iadd, 1) := by decide +kernel
theorem dX12_areSo_104 : decode cX12_areSo 104 = .ok (.iaload, 1) := by decide +kernel
theorem dX12_areSo_105 : decode cX12_areSo 105 = .ok (.iconst 1, 1) := by decide +kernel
theorem dX12_areSo_106 : decode cX12_areSo 106 = .ok (.if_icmp .ne 7, 3) := by decide +kernel
theorem dX12_areSo_109 : decode cX12_areSo 109 = .ok (.iconst 1, 1) := by decide +kernel
theorem dX12_areSo_110 : decode cX12_areSo 110 = .ok (.goto 4, 3) := by decide +kernel
theorem dX12_areSo_113 : decode cX12_areSo 113 = .ok (.iconst 0, 1) := by decide +kernel
theorem dX12_areSo_114 : decode cX12_areSo 114 = .ok (.if_icmp .eq 5, 3) := by decide +kernel
theorem dX12_areSo_117 : decode cX12_areSo 117 = .ok (.iconst 0, 1) := by decide +kernel
theorem dX12_areSo_118 : decode cX12_areSo 118 = .ok (.ireturn, 1) := by decide +kernel
theorem dX12_areSo_119 : decode cX12_areSo 119 = .ok (.iinc 4 1, 3) := by decide +kernel
theorem dX12_areSo_122 : decode cX12_areSo 122 = .ok (.goto (-81), 3) := by decide +kernel
theorem dX12_areSo_125 : decode cX12_areSo 125 = .ok (.iinc 2 1, 3) := by decide +kernel
theorem dX12_areSo_128 : decode cX12_areSo 128 = .ok (.goto (-121), 3) := by decide +kernel
theorem dX12_areSo_131 : decode cX12_areSo 131 = .ok (.iconst 1, 1) := by decide +kernel
theorem dX12_areSo_132 : decode cX12_areSo 132 = .ok (.ireturn, 1) := by decide +kernel
theorem dX12_hidden_0 : decode cX12_hidden 0 = .ok (.iload_n 1, 1) := by decide +kernel
theorem dX12_hidden_1 : decode cX12_hidden 1 = .ok (.iconst (-1), 1) := by decide +kernel
theorem dX12_hidden_2 : decode cX12_hidden 2 = .ok (.if_icmp .ge 5, 3) := by decide +kernel
theorem dX12_hidden_5 : decode cX12_hidden 5 = .ok (.iconst (-1), 1) := by decide +kernel
theorem dX12_hidden_6 : decode cX12_hidden 6 = .ok (.ireturn, 1) := by decide +kernel
theorem dX12_hidden_7 : decode cX12_hidden 7 = .ok (.aload_n 0, 1) := by decide +kernel
theorem dX12_hidden_8 : decode cX12_hidden 8 = .ok (.iconst 0, 1) := by decide +kernel
theorem dX12_hidden_9 : decode cX12_hidden 9 = .ok (.invokevirtual 415, 3) := by decide +kernel
theorem dX12_hidden_12 : decode cX12_hidden 12 = .ok (.iconst 0, 1) := by decide +kernel
theorem dX12_hidden_13 : decode cX12_hidden 13 = .ok (.istore_n 2, 1) := by decide +kernel
theorem dX12_hidden_14 : decode cX12_hidden 14 = .ok (.iconst (-1), 1) := by decide +kernel
theorem dX12_hidden_15 : decode cX12_hidden 15 = .ok (.istore_n 3, 1) := by decide +kernel
theorem dX12_hidden_16 : decode cX12_hidden 16 = .ok (.iconst 0, 1) := by decide +kernel
theorem dX12_hidden_17 : decode cX12_hidden 17 = .ok (.istore 4, 2) := by decide +kernel
theorem dX12_hidden_19 : decode cX12_hidden 19 = .ok (.iload 4, 2) := by decide +kernel
theorem dX12_hidden_21 : decode cX12_hidden 21 = .ok (.aload_n 0, 1) := by decide +kernel
theorem dX12_hidden_22 : decode cX12_hidden 22 = .ok (.getfield 24, 3) := by decide +kernel
theorem dX12_hidden_25 : decode cX12_hidden 25 = .ok (.sipush 365, 3) := by decide +kernel
theorem dX12_hidden_28 : decode cX12_hidden 28 = .ok (.iaload, 1) := by decide +kernel
theorem dX12_hidden_29 : decode cX12_hidden 29 = .ok (.bipush 8, 2) := by decide +kernel
theorem dX12_hidden_31 : decode cX12_hidden 31 = .ok (.imul, 1) := by decide +kernel
theorem dX12_hidden_32 : decode cX12_hidden 32 = .ok (.bipush 30, 2) := by decide +kernel
theorem dX12_hidden_34 : decode cX12_hidden 34 = .ok (.imul, 1) := by decide +kernel
theorem dX12_hidden_35 : decode cX12_hidden 35 = .ok (.if_icmp .ge 70, 3) := by decide +kernel
theorem dX12_hidden_38 : decode cX12_hidden 38 = .ok (.iload_n 3, 1) := by decide +kernel
theorem dX12_hidden_39 : decode cX12_hidden 39 = .ok (.iconst (-1), 1) := by decide +kernel
theorem dX12_hidden_40 : decode cX12_hidden 40 = .ok (.if_icmp .ne 65, 3) := by decide +kernel
theorem dX12_hidden_43 : decode cX12_hidden 43 = .ok (.aload_n 0, 1) := by decide +kernel
theorem dX12_hidden_44 : decode cX12_hidden 44 = .ok (.iload 4, 2) := by decide +kernel
theorem dX12_hidden_46 : decode cX12_hidden 46 = .ok (.sipush 240, 3) := by decide +kernel
theorem dX12_hidden_49 : decode cX12_hidden 49 = .ok (.idiv, 1) := by decide +kernel
theorem dX12_hidden_50 : decode cX12_hidden 50 = .ok (.iload 4, 2) := by decide +kernel
theorem dX12_hidden_52 : decode cX12_hidden 52 = .ok (.bipush 30, 2) := by decide +kernel
theorem dX12_hidden_54 : decode cX12_hidden 54 = .ok (.idiv, 1) := by decide +kernel
theorem dX12_hidden_55 : decode cX12_hidden 55 = .ok (.bipush 8, 2) := by decide +kernel
theorem dX12_hidden_57 : decode cX12_hidden 57 = .ok (.irem, 1) := by decide +kernel
theorem dX12_hidden_58 : decode cX12_hidden 58 = .ok (.iconst 1, 1) := by decide +kernel
theorem dX12_hidden_59 : decode cX12_hidden 59 = .ok (.iload 4, 2) := by decide +kernel
theorem dX12_hidden_61 : decode cX12_hidden 61 = .ok (.bipush 30, 2) := by decide +kernel
theorem dX12_hidden_63 : decode cX12_hidden 63 = .ok (.irem, 1) := by decide +kernel
theorem dX12_hidden_64 : decode cX12_hidden 64 = .ok (.iadd, 1) := by decide +kernel
theorem dX12_hidden_65 : decode cX12_hidden 65 = .ok (.iconst 1, 1) := by decide +kernel
theorem dX12_hidden_66 : decode cX12_hidden 66 = .ok (.invokevirtual 177, 3) := by decide +kernel
theorem dX12_hidden_69 : decode cX12_hidden 69 = .ok (.aload_n 0, 1) := by decide +kernel
theorem dX12_hidden_70 : decode cX12_hidden 70 = .ok (.invokevirtual 424, 3) := by decide +kernel
theorem dX12_hidden_73 : decode cX12_hidden 73 = .ok (.istore 5, 2) := by decide +kernel
theorem dX12_hidden_75 : decode cX12_hidden 75 = .ok (.aload_n 0, 1) := by decide +kernel
theorem dX12_hidden_76 : decode cX12_hidden 76 = .ok (.iconst 0, 1) := by decide +kernel
theorem dX12_hidden_77 : decode cX12_hidden 77 = .ok (.invokevirtual 418, 3) := by decide +kernel
theorem dX12_hidden_80 : decode cX12_hidden 80 = .ok (.iload 5, 2) := by decide +kernel
theorem dX12_hidden_82 : decode cX12_hidden 82 = .ok (.ifCond .ne 6, 3) := by decide +kernel
theorem dX12_hidden_85 : decode cX12_hidden 85 = .ok (.goto 14, 3) := by decide +kernel
theorem dX12_hidden_88 : decode cX12_hidden 88 = .ok (.iload_n 2, 1) := by decide +kernel
theorem dX12_hidden_89 : decode cX12_hidden 89 = .ok (.iload_n 1, 1) := by decide +kernel
theorem dX12_hidden_90 : decode cX12_hidden 90 = .ok (.if_icmp .ne 6, 3) := by decide +kernel
theorem dX12_hidden_93 : decode cX12_hidden 93 = .ok (.iload 4, 2) := by decide +kernel
theorem dX12_hidden_95 : decode cX12_hidden 95 = .ok (.istore_n 3, 1) := by decide +kernel
theorem dX12_hidden_96 : decode cX12_hidden 96 = .ok (.iinc 2 1, 3) := by decide +kernel
theorem dX12_hidden_99 : decode cX12_hidden 99 = .ok (.iinc 4 1, 3) := by decide +kernel
theorem dX12_hidden_102 : decode cX12_hidden 102 = .ok (.goto (-83), 3) := by decide +kernel
theorem dX12_hidden_105 : decode cX12_hidden 105 = .ok (.iload_n 1, 1) := by decide +kernel
theorem dX12_hidden_106 : decode cX12_hidden 106 = .ok (.iconst (-1), 1) := by decide +kernel
theorem dX12_hidden_107 : decode cX12_hidden 107 = .ok (.if_icmp .ne 7, 3) := by decide +kernel
theorem dX12_hidden_110 : decode cX12_hidden 110 = .ok (.iload_n 2, 1) := by decide +kernel
theorem dX12_hidden_111 : decode cX12_hidden 111 = .ok (.goto 4, 3) := by decide +kernel
theorem dX12_hidden_114 : decode cX12_hidden 114 = .ok (.iload_n 3, 1) := by decide +kernel
theorem dX12_hidden_115 : decode cX12_hidden 115 = .ok (.ireturn, 1) := by decide +kernel
theorem dX12_stopped_0 : decode cX12_stopped 0 = .ok (.aload_n 0, 1) := by decide +kernel
theorem dX12_stopped_1 : decode cX12_stopped 1 = .ok (.getfield 110, 3) := by decide +kernel
theorem dX12_stopped_4 : decode cX12_stopped 4 = .ok (.ireturn, 1) := by decide +kernel
theorem dX12_orders_0 : decode cX12_orders 0 = .ok (.aload_n 0, 1) := by decide +kernel
theorem dX12_orders_1 : decode cX12_orders 1 = .ok (.iconst (-1), 1) := by decide +kernel
theorem dX12_orders_2 : decode cX12_orders 2 = .ok (.putfield 110, 3) := by decide +kernel
theorem dX12_orders_5 : decode cX12_orders 5 = .ok (.aload_n 0, 1) := by decide +kernel
theorem dX12_orders_6 : decode cX12_orders 6 = .ok (.iconst 1, 1) := by decide +kernel
theorem dX12_orders_7 : decode cX12_orders 7 = .ok (.invokevirtual 271, 3) := by decide +kernel
theorem dX12_orders_10 : decode cX12_orders 10 = .ok (.ifCond .ne 10, 3) := by decide +kernel
theorem dX12_orders_13 : decode cX12_orders 13 = .ok (.aload_n 0, 1) := by decide +kernel
theorem dX12_orders_14 : decode cX12_orders 14 = .ok (.bipush (-6), 2) := by decide +kernel
theorem dX12_orders_16 : decode cX12_orders 16 = .ok (.invokevirtual 127, 3) := by decide +kernel
theorem dX12_orders_19 : decode cX12_orders 19 = .ok (.ireturn, 1) := by decide +kernel
theorem dX12_orders_20 : decode cX12_orders 20 = .ok (.aload_n 0, 1) := by decide +kernel
theorem dX12_orders_21 : decode cX12_orders 21 = .ok (.iconst 1, 1) := by decide +kernel
theorem dX12_orders_22 : decode cX12_orders 22 = .ok (.invokevirtual 415, 3) := by decide +kernel
theorem dX12_orders_25 : decode cX12_orders 25 = .ok (.iconst 0, 1) := by decide +kernel
theorem dX12_orders_26 : decode cX12_orders 26 = .ok (.istore_n 1, 1) := by decide +kernel
theorem dX12_orders_27 : decode cX12_orders 27 = .ok (.iload_n 1, 1) := by decide +kernel
theorem dX12_orders_28 : decode cX12_orders 28 = .ok (.sipush 2736, 3) := by decide +kernel
theorem dX12_orders_31 : decode cX12_orders 31 = .ok (.if_icmp .ge 21, 3) := by decide +kernel
theorem dX12_orders_34 : decode cX12_orders 34 = .ok (.aload_n 0, 1) := by decide +kernel
theorem dX12_orders_35 : decode cX12_orders 35 = .ok (.getfield 89, 3) := by decide +kernel
theorem dX12_orders_38 : decode cX12_orders 38 = .ok (.iload_n 1, 1) := by decide +kernel
theorem dX12_orders_39 : decode cX12_orders 39 = .ok (.aload_n 0, 1) := by decide +kernel
theorem dX12_orders_40 : decode cX12_orders 40 = .ok (.getfield 86, 3) := by decide +kernel
theorem dX12_orders_43 : decode cX12_orders 43 = .ok (.iload_n 1, 1) := by decide +kernel
theorem dX12_orders_44 : decode cX12_orders 44 = .ok (.iaload, 1) := by decide +kernel
theorem dX12_orders_45 : decode cX12_orders 45 = .ok (.iastore, 1) := by decide +kernel
theorem dX12_orders_46 : decode cX12_orders 46 = .ok (.iinc 1 1, 3) := by decide +kernel
theorem dX12_orders_49 : decode cX12_orders 49 = .ok (.goto (-22), 3) := by decide +kernel
theorem dX12_orders_52 : decode cX12_orders 52 = .ok (.aload_n 0, 1) := by decide +kernel
theorem dX12_orders_53 : decode cX12_orders 53 = .ok (.getfield 11, 3) := by decide +kernel
theorem dX12_orders_56 : decode cX12_orders 56 = .ok (.istore_n 1, 1) := by decide +kernel
theorem dX12_orders_57 : decode cX12_orders 57 = .ok (.aload_n 0, 1) := by decide +kernel
theorem dX12_orders_58 : decode cX12_orders 58 = .ok (.bipush 6, 2) := by decide +kernel
theorem dX12_orders_60 : decode cX12_orders 60 = .ok (.invokevirtual 275, 3) := by decide +kernel
theorem dX12_orders_63 : decode cX12_orders 63 = .ok (.aload_n 0, 1) := by decide +kernel
theorem dX12_orders_64 : decode cX12_orders 64 = .ok (.invokevirtual 348, 3) := by decide +kernel
theorem dX12_orders_67 : decode cX12_orders 67 = .ok (.iconst 0, 1) := by decide +kernel
theorem dX12_orders_68 : decode cX12_orders 68 = .ok (.istore_n 2, 1) := by decide +kernel
theorem dX12_orders_69 : decode cX12_orders 69 = .ok (.iload_n 2, 1) := by decide +kernel
theorem dX12_orders_70 : decode cX12_orders 70 = .ok (.bipush 8, 2) := by decide +kernel
theorem dX12_orders_72 : decode cX12_orders 72 = .ok (.if_icmp .ge 37, 3) := by decide +kernel
theorem dX12_orders_75 : decode cX12_orders 75 = .ok (.aload_n 0, 1) := by decide +kernel
theorem dX12_orders_76 : decode cX12_orders 76 = .ok (.getfield 62, 3) := by decide +kernel
theorem dX12_orders_79 : decode cX12_orders 79 = .ok (.iload_n 2, 1) := by decide +kernel
theorem dX12_orders_80 : decode cX12_orders 80 = .ok (.aload_n 0, 1) := by decide +kernel
theorem dX12_orders_81 : decode cX12_orders 81 = .ok (.getfield 68, 3) := by decide +kernel
theorem dX12_orders_84 : decode cX12_orders 84 = .ok (.iload_n 2, 1) := by decide +kernel
theorem dX12_orders_85 : decode cX12_orders 85 = .ok (.iaload, 1) := by decide +kernel
theorem dX12_orders_86 : decode cX12_orders 86 = .ok (.ldc_w 329, 3) := by decide +kernel
theorem dX12_orders_89 : decode cX12_orders 89 = .ok (.if_icmp .lt 7, 3) := by decide +kernel
theorem dX12_orders_92 : decode cX12_orders 92 = .ok (.iconst (-1), 1) := by decide +kernel
theorem dX12_orders_93 : decode cX12_orders 93 = .ok (.goto 9, 3) := by decide +kernel
theorem dX12_orders_96 : decode cX12_orders 96 = .ok (.aload_n 0, 1) := by decide +kernel
theorem dX12_orders_97 : decode cX12_orders 97 = .ok (.getfield 68, 3) := by decide +kernel
theorem dX12_orders_100 : decode cX12_orders 100 = .ok (.iload_n 2, 1) := by decide +kernel
theorem dX12_orders_101 : decode cX12_orders 101 = .ok (.iaload, 1) := by decide +kernel
theorem dX12_orders_102 : decode cX12_orders 102 = .ok (.iastore, 1) := by decide +kernel
theorem dX12_orders_103 : decode cX12_orders 103 = .ok (.iinc 2 1, 3) := by decide +kernel
theorem dX12_orders_106 : decode cX12_orders 106 = .ok (.goto (-37), 3) := by decide +kernel
theorem dX12_orders_109 : decode cX12_orders 109 = .ok (.aload_n 0, 1) := by decide +kernel
theorem dX12_orders_110 : decode cX12_orders 110 = .ok (.iconst 0, 1) := by decide +kernel
theorem dX12_orders_111 : decode cX12_orders 111 = .ok (.putfield 427, 3) := by decide +kernel
theorem dX12_orders_114 : decode cX12_orders 114 = .ok (.aload_n 0, 1) := by decide +kernel
theorem dX12_orders_115 : decode cX12_orders 115 = .ok (.sipush 2400, 3) := by decide +kernel
theorem dX12_orders_118 : decode cX12_orders 118 = .ok (.putfield 430, 3) := by decide +kernel
theorem dX12_orders_121 : decode cX12_orders 121 = .ok (.aload_n 0, 1) := by decide +kernel
theorem dX12_orders_122 : decode cX12_orders 122 = .ok (.getfield 430, 3) := by decide +kernel
theorem dX12_orders_125 : decode cX12_orders 125 = .ok (.aload_n 0, 1) := by decide +kernel
theorem dX12_orders_126 : decode cX12_orders 126 = .ok (.getfield 24, 3) := by decide +kernel
theorem dX12_orders_129 : decode cX12_orders 129 = .ok (.sipush 376, 3) := by decide +kernel
theorem dX12_orders_132 : decode cX12_orders 132 = .ok (.iaload, 1) := by decide +kernel
theorem dX12_orders_133 : decode cX12_orders 133 = .ok (.iadd, 1) := by decide +kernel
theorem dX12_orders_134 : decode cX12_orders 134 = .ok (.istore_n 2, 1) := by decide +kernel
theorem dX12_orders_135 : decode cX12_orders 135 = .ok (.iconst 0, 1) := by decide +kernel
theorem dX12_orders_136 : decode cX12_orders 136 = .ok (.istore_n 3, 1) := by decide +kernel
theorem dX12_orders_137 : decode cX12_orders 137 = .ok (.aload_n 0, 1) := by decide +kernel
theorem dX12_orders_138 : decode cX12_orders 138 = .ok (.getfield 430, 3) := by decide +kernel
theorem dX12_orders_141 : decode cX12_orders 141 = .ok (.iload_n 2, 1) := by decide +kernel
theorem dX12_orders_142 : decode cX12_orders 142 = .ok (.if_icmp .ge 89, 3) := by decide +kernel
theorem dX12_orders_145 : decode cX12_orders 145 = .ok (.aload_n 0, 1) := by decide +kernel
theorem dX12_orders_146 : decode cX12_orders 146 = .ok (.iload_n 2, 1) := by decide +kernel
theorem dX12_orders_147 : decode cX12_orders 147 = .ok (.invokevirtual 433, 3) := by decide +kernel
theorem dX12_orders_150 : decode cX12_orders 150 = .ok (.istore 4, 2) := by decide +kernel
theorem dX12_orders_152 : decode cX12_orders 152 = .ok (.iload 4, 2) := by decide +kernel
theorem dX12_orders_154 : decode cX12_orders 154 = .ok (.ifCond .ne 6, 3) := by decide +kernel
theorem dX12_orders_157 : decode cX12_orders 157 = .ok (.goto 68, 3) := by decide +kernel
theorem dX12_orders_160 : decode cX12_orders 160 = .ok (.aload_n 0, 1) := by decide +kernel
theorem dX12_orders_161 : decode cX12_orders 161 = .ok (.iconst 1, 1) := by decide +kernel
theorem dX12_orders_162 : decode cX12_orders 162 = .ok (.invokevirtual 418, 3) := by decide +kernel
theorem dX12_orders_165 : decode cX12_orders 165 = .ok (.iconst 0, 1) := by decide +kernel
theorem dX12_orders_166 : decode cX12_orders 166 = .ok (.istore 5, 2) := by decide +kernel
theorem dX12_orders_168 : decode cX12_orders 168 = .ok (.iload 5, 2) := by decide +kernel
theorem dX12_orders_170 : decode cX12_orders 170 = .ok (.sipush 2736, 3) := by decide +kernel
theorem dX12_orders_173 : decode cX12_orders 173 = .ok (.if_icmp .ge 23, 3) := by decide +kernel
theorem dX12_orders_176 : decode cX12_orders 176 = .ok (.aload_n 0, 1) := by decide +kernel
theorem dX12_orders_177 : decode cX12_orders 177 = .ok (.getfield 86, 3) := by decide +kernel
theorem dX12_orders_180 : decode cX12_orders 180 = .ok (.iload 5, 2) := by decide +kernel
theorem dX12_orders_182 : decode cX12_orders 182 = .ok (.aload_n 0, 1) := by decide +kernel
theorem dX12_orders_183 : decode cX12_orders 183 = .ok (.getfield 89, 3) := by decide +kernel
theorem dX12_orders_186 : decode cX12_orders 186 = .ok (.iload 5, 2) := by decide +kernel
theorem dX12_orders_188 : decode cX12_orders 188 = .ok (.iaload, 1) := by decide +kernel
theorem dX12_orders_189 : decode cX12_orders 189 = .ok (.iastore, 1) := by decide +kernel
theorem dX12_orders_190 : decode cX12_orders 190 = .ok (.iinc 5 1, 3) := by decide +kernel
theorem dX12_orders_193 : decode cX12_orders 193 = .ok (.goto (-25), 3) := by decide +kernel
theorem dX12_orders_196 : decode cX12_orders 196 = .ok (.aload_n 0, 1) := by decide +kernel
theorem dX12_orders_197 : decode cX12_orders 197 = .ok (.iload_n 1, 1) := by decide +kernel
theorem dX12_orders_198 : decode cX12_orders 198 = .ok (.putfield 11, 3) := by decide +kernel
theorem dX12_orders_201 : decode cX12_orders 201 = .ok (.aload_n 0, 1) := by decide +kernel
theorem dX12_orders_202 : decode cX12_orders 202 = .ok (.iload_n 3, 1) := by decide +kernel
theorem dX12_orders_203 : decode cX12_orders 203 = .ok (.putfield 110, 3) := by decide +kernel
theorem dX12_orders_206 : decode cX12_orders 206 = .ok (.aload_n 0, 1) := by decide +kernel
theorem dX12_orders_207 : decode cX12_orders 207 = .ok (.iload 4, 2) := by decide +kernel
theorem dX12_orders_209 : decode cX12_orders 209 = .ok (.bipush (-5), 2) := by decide +kernel
theorem dX12_orders_211 : decode cX12_orders 211 = .ok (.if_icmp .ne 8, 3) := by decide +kernel
theorem dX12_orders_214 : decode cX12_orders 214 = .ok (.bipush (-5), 2) := by decide +kernel
theorem dX12_orders_216 : decode cX12_orders 216 = .ok (.goto 5, 3) := by decide +kernel
theorem dX12_orders_219 : decode cX12_orders 219 = .ok (.bipush (-3), 2) := by decide +kernel
theorem dX12_orders_221 : decode cX12_orders 221 = .ok (.invokevirtual 127, 3) := by decide +kernel
theorem dX12_orders_224 : decode cX12_orders 224 = .ok (.ireturn, 1) := by decide +kernel
theorem dX12_orders_225 : decode cX12_orders 225 = .ok (.iinc 3 1, 3) := by decide +kernel
theorem dX12_orders_228 : decode cX12_orders 228 = .ok (.goto (-91), 3) := by decide +kernel
theorem dX12_orders_231 : decode cX12_orders 231 = .ok (.aload_n 0, 1) := by decide +kernel
theorem dX12_orders_232 : decode cX12_orders 232 = .ok (.aload_n 0, 1) := by decide +kernel
theorem dX12_orders_233 : decode cX12_orders 233 = .ok (.getfield 427, 3) := by decide +kernel
theorem dX12_orders_236 : decode cX12_orders 236 = .ok (.invokevirtual 14, 3) := by decide +kernel
theorem dX12_orders_239 : decode cX12_orders 239 = .ok (.ireturn, 1) := by decide +kernel
theorem dX12_waiting_0 : decode cX12_waiting 0 = .ok (.iconst 0, 1) := by decide +kernel
theorem dX12_waiting_1 : decode cX12_waiting 1 = .ok (.istore_n 1, 1) := by decide +kernel
theorem dX12_waiting_2 : decode cX12_waiting 2 = .ok (.iconst 0, 1) := by decide +kernel
theorem dX12_waiting_3 : decode cX12_waiting 3 = .ok (.istore_n 2, 1) := by decide +kernel
theorem dX12_waiting_4 : decode cX12_waiting 4 = .ok (.iload_n 2, 1) := by decide +kernel
theorem dX12_waiting_5 : decode cX12_waiting 5 = .ok (.aload_n 0, 1) := by decide +kernel
theorem dX12_waiting_6 : decode cX12_waiting 6 = .ok (.invokevirtual 133, 3) := by decide +kernel
theorem dX12_waiting_9 : decode cX12_waiting 9 = .ok (.if_icmp .ge 26, 3) := by decide +kernel
theorem dX12_waiting_12 : decode cX12_waiting 12 = .ok (.iload_n 1, 1) := by decide +kernel
theorem dX12_waiting_13 : decode cX12_waiting 13 = .ok (.aload_n 0, 1) := by decide +kernel
theorem dX12_waiting_14 : decode cX12_waiting 14 = .ok (.iload_n 2, 1) := by decide +kernel
theorem dX12_waiting_15 : decode cX12_waiting 15 = .ok (.iconst 5, 1) := by decide +kernel
theorem dX12_waiting_16 : decode cX12_waiting 16 = .ok (.invokevirtual 141, 3) := by decide +kernel
theorem dX12_waiting_19 : decode cX12_waiting 19 = .ok (.ifCond .ne 7, 3) := by decide +kernel
theorem dX12_waiting_22 : decode cX12_waiting 22 = .ok (.iconst 1, 1) := by decide +kernel
theorem dX12_waiting_23 : decode cX12_waiting 23 = .ok (.goto 4, 3) := by decide +kernel
theorem dX12_waiting_26 : decode cX12_waiting 26 = .ok (.iconst 0, 1) := by decide +kernel
theorem dX12_waiting_27 : decode cX12_waiting 27 = .ok (.iadd, 1) := by decide +kernel
theorem dX12_waiting_28 : decode cX12_waiting 28 = .ok (.istore_n 1, 1) := by decide +kernel
theorem dX12_waiting_29 : decode cX12_waiting 29 = .ok (.iinc 2 1, 3) := by decide +kernel
theorem dX12_waiting_32 : decode cX12_waiting 32 = .ok (.goto (-28), 3) := by decide +kernel
theorem dX12_waiting_35 : decode cX12_waiting 35 = .ok (.iload_n 1, 1) := by decide +kernel
theorem dX12_waiting_36 : decode cX12_waiting 36 = .ok (.ireturn, 1) := by decide +kernel
theorem dX12_goesAlong_0 : decode cX12_goesAlong 0 = .ok (.aload_n 0, 1) := by decide +kernel
theorem dX12_goesAlong_1 : decode cX12_goesAlong 1 = .ok (.bipush 15, 2) := by decide +kernel
theorem dX12_goesAlong_3 : decode cX12_goesAlong 3 = .ok (.putfield 253, 3) := by decide +kernel
theorem dX12_goesAlong_6 : decode cX12_goesAlong 6 = .ok (.aload_n 0, 1) := by decide +kernel
theorem dX12_goesAlong_7 : decode cX12_goesAlong 7 = .ok (.iload_n 1, 1) := by decide +kernel
theorem dX12_goesAlong_8 : decode cX12_goesAlong 8 = .ok (.putfield 278, 3) := by decide +kernel
theorem dX12_goesAlong_11 : decode cX12_goesAlong 11 = .ok (.iconst 0, 1) := by decide +kernel
theorem dX12_goesAlong_12 : decode cX12_goesAlong 12 = .ok (.istore_n 3, 1) := by decide +kernel
theorem dX12_goesAlong_13 : decode cX12_goesAlong 13 = .ok (.iload_n 3, 1) := by decide +kernel
theorem dX12_goesAlong_14 : decode cX12_goesAlong 14 = .ok (.bipush 8, 2) := by decide +kernel
theorem dX12_goesAlong_16 : decode cX12_goesAlong 16 = .ok (.if_icmp .ge 16, 3) := by decide +kernel
theorem dX12_goesAlong_19 : decode cX12_goesAlong 19 = .ok (.aload_n 0, 1) := by decide +kernel
theorem dX12_goesAlong_20 : decode cX12_goesAlong 20 = .ok (.getfield 65, 3) := by decide +kernel
theorem dX12_goesAlong_23 : decode cX12_goesAlong 23 = .ok (.iload_n 3, 1) := by decide +kernel
theorem dX12_goesAlong_24 : decode cX12_goesAlong 24 = .ok (.iconst 0, 1) := by decide +kernel
theorem dX12_goesAlong_25 : decode cX12_goesAlong 25 = .ok (.iastore, 1) := by decide +kernel
theorem dX12_goesAlong_26 : decode cX12_goesAlong 26 = .ok (.iinc 3 1, 3) := by decide +kernel
theorem dX12_goesAlong_29 : decode cX12_goesAlong 29 = .ok (.goto (-16), 3) := by decide +kernel
theorem dX12_goesAlong_32 : decode cX12_goesAlong 32 = .ok (.iconst 0, 1) := by decide +kernel
theorem dX12_goesAlong_33 : decode cX12_goesAlong 33 = .ok (.istore_n 3, 1) := by decide +kernel
theorem dX12_goesAlong_34 : decode cX12_goesAlong 34 = .ok (.iload_n 3, 1) := by decide +kernel
theorem dX12_goesAlong_35 : decode cX12_goesAlong 35 = .ok (.aload_n 0, 1) := by decide +kernel
theorem dX12_goesAlong_36 : decode cX12_goesAlong 36 = .ok (.invokevirtual 133, 3) := by decide +kernel
theorem dX12_goesAlong_39 : decode cX12_goesAlong 39 = .ok (.if_icmp .ge 34, 3) := by decide +kernel
theorem dX12_goesAlong_42 : decode cX12_goesAlong 42 = .ok (.aload_n 0, 1) := by decide +kernel
theorem dX12_goesAlong_43 : decode cX12_goesAlong 43 = .ok (.iload_n 3, 1) := by decide +kernel
theorem dX12_goesAlong_44 : decode cX12_goesAlong 44 = .ok (.iconst 5, 1) := by decide +kernel
theorem dX12_goesAlong_45 : decode cX12_goesAlong 45 = .ok (.invokevirtual 141, 3) := by decide +kernel
theorem dX12_goesAlong_48 : decode cX12_goesAlong 48 = .ok (.iconst 1, 1) := by decide +kernel
theorem dX12_goesAlong_49 : decode cX12_goesAlong 49 = .ok (.if_icmp .ne 18, 3) := by decide +kernel
theorem dX12_goesAlong_52 : decode cX12_goesAlong 52 = .ok (.aload_n 0, 1) := by decide +kernel
theorem dX12_goesAlong_53 : decode cX12_goesAlong 53 = .ok (.getfield 65, 3) := by decide +kernel
theorem dX12_goesAlong_56 : decode cX12_goesAlong 56 = .ok (.aload_n 0, 1) := by decide +kernel
theorem dX12_goesAlong_57 : decode cX12_goesAlong 57 = .ok (.iload_n 3, 1) := by decide +kernel
theorem dX12_goesAlong_58 : decode cX12_goesAlong 58 = .ok (.iconst 1, 1) := by decide +kernel
theorem dX12_goesAlong_59 : decode cX12_goesAlong 59 = .ok (.invokevirtual 141, 3) := by decide +kernel
theorem dX12_goesAlong_62 : decode cX12_goesAlong 62 = .ok (.dup2, 1) := by decide +kernel
theorem dX12_goesAlong_63 : decode cX12_goesAlong 63 = .ok (.iaload, 1) := by decide +kernel
theorem dX12_goesAlong_64 : decode cX12_goesAlong 64 = .ok (.iconst 1, 1) := by decide +kernel
theorem dX12_goesAlong_65 : decode cX12_goesAlong 65 = .ok (.iadd, 1) := by decide +kernel
theorem dX12_goesAlong_66 : decode cX12_goesAlong 66 = .ok (.iastore, 1) := by decide +kernel
theorem dX12_goesAlong_67 : decode cX12_goesAlong 67 = .ok (.iinc 3 1, 3) := by decide +kernel
theorem dX12_goesAlong_70 : decode cX12_goesAlong 70 = .ok (.goto (-36), 3) := by decide +kernel
theorem dX12_goesAlong_73 : decode cX12_goesAlong 73 = .ok (.aload_n 0, 1) := by decide +kernel
theorem dX12_goesAlong_74 : decode cX12_goesAlong 74 = .ok (.getfield 59, 3) := by decide +kernel
theorem dX12_goesAlong_77 : decode cX12_goesAlong 77 = .ok (.iconst 0, 1) := by decide +kernel
theorem dX12_goesAlong_78 : decode cX12_goesAlong 78 = .ok (.aload_n 0, 1) := by decide +kernel
theorem dX12_goesAlong_79 : decode cX12_goesAlong 79 = .ok (.getfield 24, 3) := by decide +kernel
theorem dX12_goesAlong_82 : decode cX12_goesAlong 82 = .ok (.sipush 169, 3) := by decide +kernel
theorem dX12_goesAlong_85 : decode cX12_goesAlong 85 = .ok (.iaload, 1) := by decide +kernel
theorem dX12_goesAlong_86 : decode cX12_goesAlong 86 = .ok (.iastore, 1) := by decide +kernel
theorem dX12_goesAlong_87 : decode cX12_goesAlong 87 = .ok (.aload_n 0, 1) := by decide +kernel
theorem dX12_goesAlong_88 : decode cX12_goesAlong 88 = .ok (.getfield 59, 3) := by decide +kernel
theorem dX12_goesAlong_91 : decode cX12_goesAlong 91 = .ok (.iconst 1, 1) := by decide +kernel
theorem dX12_goesAlong_92 : decode cX12_goesAlong 92 = .ok (.aload_n 0, 1) := by decide +kernel
theorem dX12_goesAlong_93 : decode cX12_goesAlong 93 = .ok (.invokevirtual 133, 3) := by decide +kernel
theorem dX12_goesAlong_96 : decode cX12_goesAlong 96 = .ok (.iastore, 1) := by decide +kernel
theorem dX12_goesAlong_97 : decode cX12_goesAlong 97 = .ok (.aload_n 0, 1) := by decide +kernel
theorem dX12_goesAlong_98 : decode cX12_goesAlong 98 = .ok (.getfield 59, 3) := by decide +kernel
theorem dX12_goesAlong_101 : decode cX12_goesAlong 101 = .ok (.iconst 2, 1) := by decide +kernel
theorem dX12_goesAlong_102 : decode cX12_goesAlong 102 = .ok (.aload_n 0, 1) := by decide +kernel
theorem dX12_goesAlong_103 : decode cX12_goesAlong 103 = .ok (.invokevirtual 436, 3) := by decide +kernel
theorem dX12_goesAlong_106 : decode cX12_goesAlong 106 = .ok (.iastore, 1) := by decide +kernel
theorem dX12_goesAlong_107 : decode cX12_goesAlong 107 = .ok (.aload_n 0, 1) := by decide +kernel
theorem dX12_goesAlong_108 : decode cX12_goesAlong 108 = .ok (.getfield 59, 3) := by decide +kernel
theorem dX12_goesAlong_111 : decode cX12_goesAlong 111 = .ok (.iconst 3, 1) := by decide +kernel
theorem dX12_goesAlong_112 : decode cX12_goesAlong 112 = .ok (.aload_n 0, 1) := by decide +kernel
theorem dX12_goesAlong_113 : decode cX12_goesAlong 113 = .ok (.getfield 427, 3) := by decide +kernel
theorem dX12_goesAlong_116 : decode cX12_goesAlong 116 = .ok (.iastore, 1) := by decide +kernel
theorem dX12_goesAlong_117 : decode cX12_goesAlong 117 = .ok (.aload_n 0, 1) := by decide +kernel
theorem dX12_goesAlong_118 : decode cX12_goesAlong 118 = .ok (.aload_n 0, 1) := by decide +kernel
theorem dX12_goesAlong_119 : decode cX12_goesAlong 119 = .ok (.getfield 430, 3) := by decide +kernel
theorem dX12_goesAlong_122 : decode cX12_goesAlong 122 = .ok (.putfield 281, 3) := by decide +kernel
theorem dX12_goesAlong_125 : decode cX12_goesAlong 125 = .ok (.aload_n 0, 1) := by decide +kernel
theorem dX12_goesAlong_126 : decode cX12_goesAlong 126 = .ok (.aload_n 0, 1) := by decide +kernel
theorem dX12_goesAlong_127 : decode cX12_goesAlong 127 = .ok (.aload_n 0, 1) := by decide +kernel
theorem dX12_goesAlong_128 : decode cX12_goesAlong 128 = .ok (.getfield 281, 3) := by decide +kernel
theorem dX12_goesAlong_131 : decode cX12_goesAlong 131 = .ok (.invokevirtual 284, 3) := by decide +kernel
theorem dX12_goesAlong_134 : decode cX12_goesAlong 134 = .ok (.putfield 439, 3) := by decide +kernel
theorem dX12_goesAlong_137 : decode cX12_goesAlong 137 = .ok (.aload_n 0, 1) := by decide +kernel
theorem dX12_goesAlong_138 : decode cX12_goesAlong 138 = .ok (.dup, 1) := by decide +kernel
theorem dX12_goesAlong_139 : decode cX12_goesAlong 139 = .ok (.getfield 281, 3) := by decide +kernel
theorem dX12_goesAlong_142 : decode cX12_goesAlong 142 = .ok (.iconst 1, 1) := by decide +kernel
theorem dX12_goesAlong_143 : decode cX12_goesAlong 143 = .ok (.iadd, 1) := by decide +kernel
theorem dX12_goesAlong_144 : decode cX12_goesAlong 144 = .ok (.putfield 281, 3) := by decide +kernel
theorem dX12_goesAlong_147 : decode cX12_goesAlong 147 = .ok (.aload_n 0, 1) := by decide +kernel
theorem dX12_goesAlong_148 : decode cX12_goesAlong 148 = .ok (.iconst 1, 1) := by decide +kernel
theorem dX12_goesAlong_149 : decode cX12_goesAlong 149 = .ok (.putfield 442, 3) := by decide +kernel
theorem dX12_goesAlong_152 : decode cX12_goesAlong 152 = .ok (.aload_n 0, 1) := by decide +kernel
theorem dX12_goesAlong_153 : decode cX12_goesAlong 153 = .ok (.getfield 439, 3) := by decide +kernel
theorem dX12_goesAlong_156 : decode cX12_goesAlong 156 = .ok (.bipush 24, 2) := by decide +kernel
theorem dX12_goesAlong_158 : decode cX12_goesAlong 158 = .ok (.if_icmp .ne 7, 3) := by decide +kernel
theorem dX12_goesAlong_161 : decode cX12_goesAlong 161 = .ok (.iconst 0, 1) := by decide +kernel
theorem dX12_goesAlong_162 : decode cX12_goesAlong 162 = .ok (.goto 4, 3) := by decide +kernel
theorem dX12_goesAlong_165 : decode cX12_goesAlong 165 = .ok (.iconst 3, 1) := by decide +kernel
theorem dX12_goesAlong_166 : decode cX12_goesAlong 166 = .ok (.istore_n 3, 1) := by decide +kernel
theorem dX12_goesAlong_167 : decode cX12_goesAlong 167 = .ok (.iconst 0, 1) := by decide +kernel
theorem dX12_goesAlong_168 : decode cX12_goesAlong 168 = .ok (.istore 4, 2) := by decide +kernel
theorem dX12_goesAlong_170 : decode cX12_goesAlong 170 = .ok (.iload 4, 2) := by decide +kernel
theorem dX12_goesAlong_172 : decode cX12_goesAlong 172 = .ok (.iload_n 3, 1) := by decide +kernel
theorem dX12_goesAlong_173 : decode cX12_goesAlong 173 = .ok (.if_icmp .ge 64, 3) := by decide +kernel
theorem dX12_goesAlong_176 : decode cX12_goesAlong 176 = .ok (.iload 4, 2) := by decide +kernel
theorem dX12_goesAlong_178 : decode cX12_goesAlong 178 = .ok (.ifCond .le 13, 3) := by decide +kernel
theorem dX12_goesAlong_181 : decode cX12_goesAlong 181 = .ok (.aload_n 0, 1) := by decide +kernel
theorem dX12_goesAlong_182 : decode cX12_goesAlong 182 = .ok (.dup, 1) := by decide +kernel
theorem dX12_goesAlong_183 : decode cX12_goesAlong 183 = .ok (.getfield 281, 3) := by decide +kernel
theorem dX12_goesAlong_186 : decode cX12_goesAlong 186 = .ok (.iconst 1, 1) := by decide +kernel
theorem dX12_goesAlong_187 : decode cX12_goesAlong 187 = .ok (.iadd, 1) := by decide +kernel
theorem dX12_goesAlong_188 : decode cX12_goesAlong 188 = .ok (.putfield 281, 3) := by decide +kernel
theorem dX12_goesAlong_191 : decode cX12_goesAlong 191 = .ok (.aload_n 0, 1) := by decide +kernel
theorem dX12_goesAlong_192 : decode cX12_goesAlong 192 = .ok (.iconst 0, 1) := by decide +kernel
theorem dX12_goesAlong_193 : decode cX12_goesAlong 193 = .ok (.putfield 291, 3) := by decide +kernel
theorem dX12_goesAlong_196 : decode cX12_goesAlong 196 = .ok (.aload_n 0, 1) := by decide +kernel
theorem dX12_goesAlong_197 : decode cX12_goesAlong 197 = .ok (.getfield 113, 3) := by decide +kernel
theorem dX12_goesAlong_200 : decode cX12_goesAlong 200 = .ok (.iload 4, 2) := by decide +kernel
theorem dX12_goesAlong_202 : decode cX12_goesAlong 202 = .ok (.aload_n 0, 1) := by decide +kernel
theorem dX12_goesAlong_203 : decode cX12_goesAlong 203 = .ok (.iload_n 2, 1) := by decide +kernel
theorem dX12_goesAlong_204 : decode cX12_goesAlong 204 = .ok (.invokevirtual 308, 3) := by decide +kernel
theorem dX12_goesAlong_207 : decode cX12_goesAlong 207 = .ok (.lastore, 1) := by decide +kernel
theorem dX12_goesAlong_208 : decode cX12_goesAlong 208 = .ok (.aload_n 0, 1) := by decide +kernel
theorem dX12_goesAlong_209 : decode cX12_goesAlong 209 = .ok (.aload_n 0, 1) := by decide +kernel
theorem dX12_goesAlong_210 : decode cX12_goesAlong 210 = .ok (.getfield 442, 3) := by decide +kernel
theorem dX12_goesAlong_213 : decode cX12_goesAlong 213 = .ok (.ifCond .eq 14, 3) := by decide +kernel
theorem dX12_goesAlong_216 : decode cX12_goesAlong 216 = .ok (.aload_n 0, 1) := by decide +kernel
theorem dX12_goesAlong_217 : decode cX12_goesAlong 217 = .ok (.getfield 291, 3) := by decide +kernel
theorem dX12_goesAlong_220 : decode cX12_goesAlong 220 = .ok (.ifCond .ne 7, 3) := by decide +kernel
theorem dX12_goesAlong_223 : decode cX12_goesAlong 223 = .ok (.iconst 1, 1) := by decide +kernel
theorem dX12_goesAlong_224 : decode cX12_goesAlong 224 = .ok (.goto 4, 3) := by decide +kernel
theorem dX12_goesAlong_227 : decode cX12_goesAlong 227 = .ok (.iconst 0, 1) := by decide +kernel
theorem dX12_goesAlong_228 : decode cX12_goesAlong 228 = .ok (.putfield 442, 3) := by decide +kernel
theorem dX12_goesAlong_231 : decode cX12_goesAlong 231 = .ok (.iinc 4 1, 3) := by decide +kernel
theorem dX12_goesAlong_234 : decode cX12_goesAlong 234 = .ok (.goto (-64), 3) := by decide +kernel
theorem dX12_goesAlong_237 : decode cX12_goesAlong 237 = .ok (.aload_n 0, 1) := by decide +kernel
theorem dX12_goesAlong_238 : decode cX12_goesAlong 238 = .ok (.iconst 1, 1) := by decide +kernel
theorem dX12_goesAlong_239 : decode cX12_goesAlong 239 = .ok (.putfield 445, 3) := by decide +kernel
theorem dX12_goesAlong_242 : decode cX12_goesAlong 242 = .ok (.aload_n 0, 1) := by decide +kernel
theorem dX12_goesAlong_243 : decode cX12_goesAlong 243 = .ok (.bipush 25, 2) := by decide +kernel
theorem dX12_goesAlong_245 : decode cX12_goesAlong 245 = .ok (.invokevirtual 305, 3) := by decide +kernel
theorem dX12_goesAlong_248 : decode cX12_goesAlong 248 = .ok (.ifCond .eq 30, 3) := by decide +kernel
theorem dX12_goesAlong_251 : decode cX12_goesAlong 251 = .ok (.aload_n 0, 1) := by decide +kernel
theorem dX12_goesAlong_252 : decode cX12_goesAlong 252 = .ok (.aload_n 0, 1) := by decide +kernel
theorem dX12_goesAlong_253 : decode cX12_goesAlong 253 = .ok (.getfield 24, 3) := by decide +kernel
theorem dX12_goesAlong_256 : decode cX12_goesAlong 256 = .ok (.sipush 3177, 3) := by decide +kernel
theorem dX12_goesAlong_259 : decode cX12_goesAlong 259 = .ok (.aload_n 0, 1) := by decide +kernel
theorem dX12_goesAlong_260 : decode cX12_goesAlong 260 = .ok (.getfield 281, 3) := by decide +kernel
theorem dX12_goesAlong_263 : decode cX12_goesAlong 263 = .ok (.iadd, 1) := by decide +kernel
theorem dX12_goesAlong_264 : decode cX12_goesAlong 264 = .ok (.iaload, 1) := by decide +kernel
theorem dX12_goesAlong_265 : decode cX12_goesAlong 265 = .ok (.putfield 445, 3) := by decide +kernel
theorem dX12_goesAlong_268 : decode cX12_goesAlong 268 = .ok (.aload_n 0, 1) := by decide +kernel
theorem dX12_goesAlong_269 : decode cX12_goesAlong 269 = .ok (.dup, 1) := by decide +kernel
theorem dX12_goesAlong_270 : decode cX12_goesAlong 270 = .ok (.getfield 281, 3) := by decide +kernel
theorem dX12_goesAlong_273 : decode cX12_goesAlong 273 = .ok (.iconst 1, 1) := by decide +kernel
theorem dX12_goesAlong_274 : decode cX12_goesAlong 274 = .ok (.iadd, 1) := by decide +kernel
theorem dX12_goesAlong_275 : decode cX12_goesAlong 275 = .ok (.putfield 281, 3) := by decide +kernel
theorem dX12_goesAlong_278 : decode cX12_goesAlong 278 = .ok (.aload_n 0, 1) := by decide +kernel
theorem dX12_goesAlong_279 : decode cX12_goesAlong 279 = .ok (.iconst 0, 1) := by decide +kernel
theorem dX12_goesAlong_280 : decode cX12_goesAlong 280 = .ok (.putfield 291, 3) := by decide +kernel
theorem dX12_goesAlong_283 : decode cX12_goesAlong 283 = .ok (.aload_n 0, 1) := by decide +kernel
theorem dX12_goesAlong_284 : decode cX12_goesAlong 284 = .ok (.aload_n 0, 1) := by decide +kernel
theorem dX12_goesAlong_285 : decode cX12_goesAlong 285 = .ok (.iconst 4, 1) := by decide +kernel
theorem dX12_goesAlong_286 : decode cX12_goesAlong 286 = .ok (.invokevirtual 305, 3) := by decide +kernel
theorem dX12_goesAlong_289 : decode cX12_goesAlong 289 = .ok (.ifCond .eq 11, 3) := by decide +kernel
theorem dX12_goesAlong_292 : decode cX12_goesAlong 292 = .ok (.aload_n 0, 1) := by decide +kernel
theorem dX12_goesAlong_293 : decode cX12_goesAlong 293 = .ok (.iload_n 2, 1) := by decide +kernel
theorem dX12_goesAlong_294 : decode cX12_goesAlong 294 = .ok (.invokevirtual 320, 3) := by decide +kernel
theorem dX12_goesAlong_297 : decode cX12_goesAlong 297 = .ok (.ifCond .eq 7, 3) := by decide +kernel
theorem dX12_goesAlong_300 : decode cX12_goesAlong 300 = .ok (.iconst 1, 1) := by decide +kernel
theorem dX12_goesAlong_301 : decode cX12_goesAlong 301 = .ok (.goto 4, 3) := by decide +kernel
theorem dX12_goesAlong_304 : decode cX12_goesAlong 304 = .ok (.iconst 0, 1) := by decide +kernel
theorem dX12_goesAlong_305 : decode cX12_goesAlong 305 = .ok (.putfield 448, 3) := by decide +kernel
theorem dX12_goesAlong_308 : decode cX12_goesAlong 308 = .ok (.aload_n 0, 1) := by decide +kernel
theorem dX12_goesAlong_309 : decode cX12_goesAlong 309 = .ok (.aload_n 0, 1) := by decide +kernel
theorem dX12_goesAlong_310 : decode cX12_goesAlong 310 = .ok (.getfield 448, 3) := by decide +kernel
theorem dX12_goesAlong_313 : decode cX12_goesAlong 313 = .ok (.ifCond .eq 14, 3) := by decide +kernel
theorem dX12_goesAlong_316 : decode cX12_goesAlong 316 = .ok (.aload_n 0, 1) := by decide +kernel
theorem dX12_goesAlong_317 : decode cX12_goesAlong 317 = .ok (.getfield 291, 3) := by decide +kernel
theorem dX12_goesAlong_320 : decode cX12_goesAlong 320 = .ok (.ifCond .ne 7, 3) := by decide +kernel
theorem dX12_goesAlong_323 : decode cX12_goesAlong 323 = .ok (.iconst 1, 1) := by decide +kernel
theorem dX12_goesAlong_324 : decode cX12_goesAlong 324 = .ok (.goto 4, 3) := by decide +kernel
theorem dX12_goesAlong_327 : decode cX12_goesAlong 327 = .ok (.iconst 0, 1) := by decide +kernel
theorem dX12_goesAlong_328 : decode cX12_goesAlong 328 = .ok (.putfield 448, 3) := by decide +kernel
theorem dX12_goesAlong_331 : decode cX12_goesAlong 331 = .ok (.aload_n 0, 1) := by decide +kernel
theorem dX12_goesAlong_332 : decode cX12_goesAlong 332 = .ok (.dup, 1) := by decide +kernel
theorem dX12_goesAlong_333 : decode cX12_goesAlong 333 = .ok (.getfield 281, 3) := by decide +kernel
theorem dX12_goesAlong_336 : decode cX12_goesAlong 336 = .ok (.iconst 1, 1) := by decide +kernel
theorem dX12_goesAlong_337 : decode cX12_goesAlong 337 = .ok (.iadd, 1) := by decide +kernel
theorem dX12_goesAlong_338 : decode cX12_goesAlong 338 = .ok (.putfield 281, 3) := by decide +kernel
theorem dX12_goesAlong_341 : decode cX12_goesAlong 341 = .ok (.return_, 1) := by decide +kernel
theorem dX12_small_0 : decode cX12_small 0 = .ok (.lload_n 0, 1) := by decide +kernel
theorem dX12_small_1 : decode cX12_small 1 = .ok (.lconst 0, 1) := by decide +kernel
theorem dX12_small_2 : decode cX12_small 2 = .ok (.lcmp, 1) := by decide +kernel
theorem dX12_small_3 : decode cX12_small 3 = .ok (.ifCond .lt 11, 3) := by decide +kernel
theorem dX12_small_6 : decode cX12_small 6 = .ok (.lload_n 0, 1) := by decide +kernel
theorem dX12_small_7 : decode cX12_small 7 = .ok (.ldc2_w 451, 3) := by decide +kernel
theorem dX12_small_10 : decode cX12_small 10 = .ok (.lcmp, 1) := by decide +kernel
theorem dX12_small_11 : decode cX12_small 11 = .ok (.ifCond .le 7, 3) := by decide +kernel
theorem dX12_small_14 : decode cX12_small 14 = .ok (.iconst (-1), 1) := by decide +kernel
theorem dX12_small_15 : decode cX12_small 15 = .ok (.goto 5, 3) := by decide +kernel
theorem dX12_small_18 : decode cX12_small 18 = .ok (.lload_n 0, 1) := by decide +kernel
theorem dX12_small_19 : decode cX12_small 19 = .ok (.l2i, 1) := by decide +kernel
theorem dX12_small_20 : decode cX12_small 20 = .ok (.ireturn, 1) := by decide +kernel
theorem dX12_runs_0 : decode cX12_runs 0 = .ok (.aload_n 0, 1) := by decide +kernel
theorem dX12_runs_1 : decode cX12_runs 1 = .ok (.iload_n 1, 1) := by decide +kernel
theorem dX12_runs_2 : decode cX12_runs 2 = .ok (.iconst 0, 1) := by decide +kernel
theorem dX12_runs_3 : decode cX12_runs 3 = .ok (.invokevirtual 453, 3) := by decide +kernel
theorem dX12_runs_6 : decode cX12_runs 6 = .ok (.aload_n 0, 1) := by decide +kernel
theorem dX12_runs_7 : decode cX12_runs 7 = .ok (.getfield 445, 3) := by decide +kernel
theorem dX12_runs_10 : decode cX12_runs 10 = .ok (.istore_n 2, 1) := by decide +kernel
theorem dX12_runs_11 : decode cX12_runs 11 = .ok (.aload_n 0, 1) := by decide +kernel
theorem dX12_runs_12 : decode cX12_runs 12 = .ok (.getfield 281, 3) := by decide +kernel
theorem dX12_runs_15 : decode cX12_runs 15 = .ok (.istore_n 3, 1) := by decide +kernel
theorem dX12_runs_16 : decode cX12_runs 16 = .ok (.iconst 0, 1) := by decide +kernel
theorem dX12_runs_17 : decode cX12_runs 17 = .ok (.istore 4, 2) := by decide +kernel
theorem dX12_runs_19 : decode cX12_runs 19 = .ok (.iload 4, 2) := by decide +kernel
theorem dX12_runs_21 : decode cX12_runs 21 = .ok (.iload_n 2, 1) := by decide +kernel
theorem dX12_runs_22 : decode cX12_runs 22 = .ok (.if_icmp .ge 103, 3) := by decide +kernel
theorem dX12_runs_25 : decode cX12_runs 25 = .ok (.aload_n 0, 1) := by decide +kernel
theorem dX12_runs_26 : decode cX12_runs 26 = .ok (.iload_n 1, 1) := by decide +kernel
theorem dX12_runs_27 : decode cX12_runs 27 = .ok (.iconst 1, 1) := by decide +kernel
theorem dX12_runs_28 : decode cX12_runs 28 = .ok (.invokevirtual 453, 3) := by decide +kernel
theorem dX12_runs_31 : decode cX12_runs 31 = .ok (.aload_n 0, 1) := by decide +kernel
theorem dX12_runs_32 : decode cX12_runs 32 = .ok (.getfield 448, 3) := by decide +kernel
theorem dX12_runs_35 : decode cX12_runs 35 = .ok (.ifCond .ne 6, 3) := by decide +kernel
theorem dX12_runs_38 : decode cX12_runs 38 = .ok (.goto 81, 3) := by decide +kernel
theorem dX12_runs_41 : decode cX12_runs 41 = .ok (.aload_n 0, 1) := by decide +kernel
theorem dX12_runs_42 : decode cX12_runs 42 = .ok (.getfield 442, 3) := by decide +kernel
theorem dX12_runs_45 : decode cX12_runs 45 = .ok (.ifCond .ne 6, 3) := by decide +kernel
theorem dX12_runs_48 : decode cX12_runs 48 = .ok (.bipush (-3), 2) := by decide +kernel
theorem dX12_runs_50 : decode cX12_runs 50 = .ok (.ireturn, 1) := by decide +kernel
theorem dX12_runs_51 : decode cX12_runs 51 = .ok (.aload_n 0, 1) := by decide +kernel
theorem dX12_runs_52 : decode cX12_runs 52 = .ok (.getfield 439, 3) := by decide +kernel
theorem dX12_runs_55 : decode cX12_runs 55 = .ok (.bipush 24, 2) := by decide +kernel
theorem dX12_runs_57 : decode cX12_runs 57 = .ok (.if_icmp .ne 10, 3) := by decide +kernel
theorem dX12_runs_60 : decode cX12_runs 60 = .ok (.aload_n 0, 1) := by decide +kernel
theorem dX12_runs_61 : decode cX12_runs 61 = .ok (.invokevirtual 388, 3) := by decide +kernel
theorem dX12_runs_64 : decode cX12_runs 64 = .ok (.goto 35, 3) := by decide +kernel
theorem dX12_runs_67 : decode cX12_runs 67 = .ok (.aload_n 0, 1) := by decide +kernel
theorem dX12_runs_68 : decode cX12_runs 68 = .ok (.aload_n 0, 1) := by decide +kernel
theorem dX12_runs_69 : decode cX12_runs 69 = .ok (.getfield 113, 3) := by decide +kernel
theorem dX12_runs_72 : decode cX12_runs 72 = .ok (.iconst 0, 1) := by decide +kernel
theorem dX12_runs_73 : decode cX12_runs 73 = .ok (.laload, 1) := by decide +kernel
theorem dX12_runs_74 : decode cX12_runs 74 = .ok (.invokestatic 457, 3) := by decide +kernel
theorem dX12_runs_77 : decode cX12_runs 77 = .ok (.aload_n 0, 1) := by decide +kernel
theorem dX12_runs_78 : decode cX12_runs 78 = .ok (.getfield 113, 3) := by decide +kernel
theorem dX12_runs_81 : decode cX12_runs 81 = .ok (.iconst 1, 1) := by decide +kernel
theorem dX12_runs_82 : decode cX12_runs 82 = .ok (.laload, 1) := by decide +kernel
theorem dX12_runs_83 : decode cX12_runs 83 = .ok (.invokestatic 457, 3) := by decide +kernel
theorem dX12_runs_86 : decode cX12_runs 86 = .ok (.aload_n 0, 1) := by decide +kernel
theorem dX12_runs_87 : decode cX12_runs 87 = .ok (.getfield 113, 3) := by decide +kernel
theorem dX12_runs_90 : decode cX12_runs 90 = .ok (.iconst 2, 1) := by decide +kernel
theorem dX12_runs_91 : decode cX12_runs 91 = .ok (.laload, 1) := by decide +kernel
theorem dX12_runs_92 : decode cX12_runs 92 = .ok (.invokestatic 457, 3) := by decide +kernel
theorem dX12_runs_95 : decode cX12_runs 95 = .ok (.iconst 1, 1) := by decide +kernel
theorem dX12_runs_96 : decode cX12_runs 96 = .ok (.invokevirtual 382, 3) := by decide +kernel
theorem dX12_runs_99 : decode cX12_runs 99 = .ok (.istore 5, 2) := by decide +kernel
theorem dX12_runs_101 : decode cX12_runs 101 = .ok (.iload 5, 2) := by decide +kernel
theorem dX12_runs_103 : decode cX12_runs 103 = .ok (.ifCond .ge 6, 3) := by decide +kernel
theorem dX12_runs_106 : decode cX12_runs 106 = .ok (.iload 5, 2) := by decide +kernel
theorem dX12_runs_108 : decode cX12_runs 108 = .ok (.ireturn, 1) := by decide +kernel
theorem dX12_runs_109 : decode cX12_runs 109 = .ok (.aload_n 0, 1) := by decide +kernel
theorem dX12_runs_110 : decode cX12_runs 110 = .ok (.dup, 1) := by decide +kernel
theorem dX12_runs_111 : decode cX12_runs 111 = .ok (.getfield 427, 3) := by decide +kernel
theorem dX12_runs_114 : decode cX12_runs 114 = .ok (.iconst 1, 1) := by decide +kernel
theorem dX12_runs_115 : decode cX12_runs 115 = .ok (.iadd, 1) := by decide +kernel
theorem dX12_runs_116 : decode cX12_runs 116 = .ok (.putfield 427, 3) := by decide +kernel
theorem dX12_runs_119 : decode cX12_runs 119 = .ok (.iinc 4 1, 3) := by decide +kernel
theorem dX12_runs_122 : decode cX12_runs 122 = .ok (.goto (-103), 3) := by decide +kernel
theorem dX12_runs_125 : decode cX12_runs 125 = .ok (.aload_n 0, 1) := by decide +kernel
theorem dX12_runs_126 : decode cX12_runs 126 = .ok (.iload_n 3, 1) := by decide +kernel
theorem dX12_runs_127 : decode cX12_runs 127 = .ok (.putfield 430, 3) := by decide +kernel
theorem dX12_runs_130 : decode cX12_runs 130 = .ok (.iconst 0, 1) := by decide +kernel
theorem dX12_runs_131 : decode cX12_runs 131 = .ok (.ireturn, 1) := by decide +kernel
theorem dX12_draws_0 : decode cX12_draws 0 = .ok (.aload_n 0, 1) := by decide +kernel
theorem dX12_draws_1 : decode cX12_draws 1 = .ok (.ldc2_w 461, 3) := by decide +kernel
theorem dX12_draws_4 : decode cX12_draws 4 = .ok (.aload_n 0, 1) := by decide +kernel
theorem dX12_draws_5 : decode cX12_draws 5 = .ok (.getfield 463, 3) := by decide +kernel
theorem dX12_draws_8 : decode cX12_draws 8 = .ok (.i2l, 1) := by decide +kernel
theorem dX12_draws_9 : decode cX12_draws 9 = .ok (.lmul, 1) := by decide +kernel
theorem dX12_draws_10 : decode cX12_draws 10 = .ok (.ldc2_w 466, 3) := by decide +kernel
theorem dX12_draws_13 : decode cX12_draws 13 = .ok (.ladd, 1) := by decide +kernel
theorem dX12_draws_14 : decode cX12_draws 14 = .ok (.ldc2_w 468, 3) := by decide +kernel
theorem dX12_draws_17 : decode cX12_draws 17 = .ok (.lrem, 1) := by decide +kernel
theorem dX12_draws_18 : decode cX12_draws 18 = .ok (.l2i, 1) := by decide +kernel
theorem dX12_draws_19 : decode cX12_draws 19 = .ok (.putfield 463, 3) := by decide +kernel
theorem dX12_draws_22 : decode cX12_draws 22 = .ok (.aload_n 0, 1) := by decide +kernel
theorem dX12_draws_23 : decode cX12_draws 23 = .ok (.getfield 463, 3) := by decide +kernel
theorem dX12_draws_26 : decode cX12_draws 26 = .ok (.iload_n 1, 1) := by decide +kernel
theorem dX12_draws_27 : decode cX12_draws 27 = .ok (.irem, 1) := by decide +kernel
theorem dX12_draws_28 : decode cX12_draws 28 = .ok (.ireturn, 1) := by decide +kernel
theorem dX12_season_0 : decode cX12_season 0 = .ok (.iload_n 1, 1) := by decide +kernel
theorem dX12_season_1 : decode cX12_season 1 = .ok (.iconst 0, 1) := by decide +kernel
theorem dX12_season_2 : decode cX12_season 2 = .ok (.ldc 193, 2) := by decide +kernel
theorem dX12_season_4 : decode cX12_season 4 = .ok (.invokestatic 123, 3) := by decide +kernel
theorem dX12_season_7 : decode cX12_season 7 = .ok (.ifCond .eq 13, 3) := by decide +kernel
theorem dX12_season_10 : decode cX12_season 10 = .ok (.iload_n 2, 1) := by decide +kernel
theorem dX12_season_11 : decode cX12_season 11 = .ok (.iconst 1, 1) := by decide +kernel
theorem dX12_season_12 : decode cX12_season 12 = .ok (.bipush 60, 2) := by decide +kernel
theorem dX12_season_14 : decode cX12_season 14 = .ok (.invokestatic 123, 3) := by decide +kernel
theorem dX12_season_17 : decode cX12_season 17 = .ok (.ifCond .ne 9, 3) := by decide +kernel
theorem dX12_season_20 : decode cX12_season 20 = .ok (.aload_n 0, 1) := by decide +kernel
theorem dX12_season_21 : decode cX12_season 21 = .ok (.iconst (-1), 1) := by decide +kernel
theorem dX12_season_22 : decode cX12_season 22 = .ok (.invokevirtual 127, 3) := by decide +kernel
theorem dX12_season_25 : decode cX12_season 25 = .ok (.ireturn, 1) := by decide +kernel
theorem dX12_season_26 : decode cX12_season 26 = .ok (.aload_n 0, 1) := by decide +kernel
theorem dX12_season_27 : decode cX12_season 27 = .ok (.getfield 24, 3) := by decide +kernel
theorem dX12_season_30 : decode cX12_season 30 = .ok (.sipush 365, 3) := by decide +kernel
theorem dX12_season_33 : decode cX12_season 33 = .ok (.iaload, 1) := by decide +kernel
theorem dX12_season_34 : decode cX12_season 34 = .ok (.ifCond .ne 10, 3) := by decide +kernel
theorem dX12_season_37 : decode cX12_season 37 = .ok (.aload_n 0, 1) := by decide +kernel
theorem dX12_season_38 : decode cX12_season 38 = .ok (.bipush (-3), 2) := by decide +kernel
theorem dX12_season_40 : decode cX12_season 40 = .ok (.invokevirtual 127, 3) := by decide +kernel
theorem dX12_season_43 : decode cX12_season 43 = .ok (.ireturn, 1) := by decide +kernel
theorem dX12_season_44 : decode cX12_season 44 = .ok (.aload_n 0, 1) := by decide +kernel
theorem dX12_season_45 : decode cX12_season 45 = .ok (.iload_n 1, 1) := by decide +kernel
theorem dX12_season_46 : decode cX12_season 46 = .ok (.putfield 463, 3) := by decide +kernel
theorem dX12_season_49 : decode cX12_season 49 = .ok (.aload_n 0, 1) := by decide +kernel
theorem dX12_season_50 : decode cX12_season 50 = .ok (.aload_n 0, 1) := by decide +kernel
theorem dX12_season_51 : decode cX12_season 51 = .ok (.getfield 24, 3) := by decide +kernel
theorem dX12_season_54 : decode cX12_season 54 = .ok (.sipush 365, 3) := by decide +kernel
theorem dX12_season_57 : decode cX12_season 57 = .ok (.iaload, 1) := by decide +kernel
theorem dX12_season_58 : decode cX12_season 58 = .ok (.putfield 470, 3) := by decide +kernel
theorem dX12_season_61 : decode cX12_season 61 = .ok (.iconst 0, 1) := by decide +kernel
theorem dX12_season_62 : decode cX12_season 62 = .ok (.istore_n 3, 1) := by decide +kernel
theorem dX12_season_63 : decode cX12_season 63 = .ok (.iload_n 3, 1) := by decide +kernel
theorem dX12_season_64 : decode cX12_season 64 = .ok (.bipush 6, 2) := by decide +kernel
theorem dX12_season_66 : decode cX12_season 66 = .ok (.if_icmp .ge 16, 3) := by decide +kernel
theorem dX12_season_69 : decode cX12_season 69 = .ok (.aload_n 0, 1) := by decide +kernel
theorem dX12_season_70 : decode cX12_season 70 = .ok (.getfield 117, 3) := by decide +kernel
theorem dX12_season_73 : decode cX12_season 73 = .ok (.iload_n 3, 1) := by decide +kernel
theorem dX12_season_74 : decode cX12_season 74 = .ok (.iconst 0, 1) := by decide +kernel
theorem dX12_season_75 : decode cX12_season 75 = .ok (.iastore, 1) := by decide +kernel
theorem dX12_season_76 : decode cX12_season 76 = .ok (.iinc 3 1, 3) := by decide +kernel
theorem dX12_season_79 : decode cX12_season 79 = .ok (.goto (-16), 3) := by decide +kernel
theorem dX12_season_82 : decode cX12_season 82 = .ok (.iconst 0, 1) := by decide +kernel
theorem dX12_season_83 : decode cX12_season 83 = .ok (.istore_n 3, 1) := by decide +kernel
theorem dX12_season_84 : decode cX12_season 84 = .ok (.iload_n 3, 1) := by decide +kernel
theorem dX12_season_85 : decode cX12_season 85 = .ok (.bipush 18, 2) := by decide +kernel
theorem dX12_season_87 : decode cX12_season 87 = .ok (.if_icmp .ge 16, 3) := by decide +kernel
theorem dX12_season_90 : decode cX12_season 90 = .ok (.aload_n 0, 1) := by decide +kernel
theorem dX12_season_91 : decode cX12_season 91 = .ok (.getfield 120, 3) := by decide +kernel
theorem dX12_season_94 : decode cX12_season 94 = .ok (.iload_n 3, 1) := by decide +kernel
theorem dX12_season_95 : decode cX12_season 95 = .ok (.iconst 0, 1) := by decide +kernel
theorem dX12_season_96 : decode cX12_season 96 = .ok (.iastore, 1) := by decide +kernel
theorem dX12_season_97 : decode cX12_season 97 = .ok (.iinc 3 1, 3) := by decide +kernel
theorem dX12_season_100 : decode cX12_season 100 = .ok (.goto (-16), 3) := by decide +kernel
theorem dX12_season_103 : decode cX12_season 103 = .ok (.aload_n 0, 1) := by decide +kernel
theorem dX12_season_104 : decode cX12_season 104 = .ok (.iconst 0, 1) := by decide +kernel
theorem dX12_season_105 : decode cX12_season 105 = .ok (.invokevirtual 415, 3) := by decide +kernel
theorem dX12_season_108 : decode cX12_season 108 = .ok (.iconst 0, 1) := by decide +kernel
theorem dX12_season_109 : decode cX12_season 109 = .ok (.istore_n 3, 1) := by decide +kernel
theorem dX12_season_110 : decode cX12_season 110 = .ok (.iconst 1, 1) := by decide +kernel
theorem dX12_season_111 : decode cX12_season 111 = .ok (.istore 4, 2) := by decide +kernel
theorem dX12_season_113 : decode cX12_season 113 = .ok (.iconst 0, 1) := by decide +kernel
theorem dX12_season_114 : decode cX12_season 114 = .ok (.istore 5, 2) := by decide +kernel
theorem dX12_season_116 : decode cX12_season 116 = .ok (.iload 5, 2) := by decide +kernel
theorem dX12_season_118 : decode cX12_season 118 = .ok (.iload_n 2, 1) := by decide +kernel
theorem dX12_season_119 : decode cX12_season 119 = .ok (.if_icmp .ge 111, 3) := by decide +kernel
theorem dX12_season_122 : decode cX12_season 122 = .ok (.iload 4, 2) := by decide +kernel
theorem dX12_season_124 : decode cX12_season 124 = .ok (.ifCond .eq 106, 3) := by decide +kernel
theorem dX12_season_127 : decode cX12_season 127 = .ok (.aload_n 0, 1) := by decide +kernel
theorem dX12_season_128 : decode cX12_season 128 = .ok (.aload_n 0, 1) := by decide +kernel
theorem dX12_season_129 : decode cX12_season 129 = .ok (.getfield 470, 3) := by decide +kernel
theorem dX12_season_132 : decode cX12_season 132 = .ok (.invokevirtual 473, 3) := by decide +kernel
theorem dX12_season_135 : decode cX12_season 135 = .ok (.istore 6, 2) := by decide +kernel
theorem dX12_season_137 : decode cX12_season 137 = .ok (.aload_n 0, 1) := by decide +kernel
theorem dX12_season_138 : decode cX12_season 138 = .ok (.bipush 8, 2) := by decide +kernel
theorem dX12_season_140 : decode cX12_season 140 = .ok (.invokevirtual 473, 3) := by decide +kernel
theorem dX12_season_143 : decode cX12_season 143 = .ok (.istore 7, 2) := by decide +kernel
theorem dX12_season_145 : decode cX12_season 145 = .ok (.aload_n 0, 1) := by decide +kernel
theorem dX12_season_146 : decode cX12_season 146 = .ok (.bipush 40, 2) := by decide +kernel
theorem dX12_season_148 : decode cX12_season 148 = .ok (.invokevirtual 473, 3) := by decide +kernel
theorem dX12_season_151 : decode cX12_season 151 = .ok (.iconst 1, 1) := by decide +kernel
theorem dX12_season_152 : decode cX12_season 152 = .ok (.iadd, 1) := by decide +kernel
theorem dX12_season_153 : decode cX12_season 153 = .ok (.istore 8, 2) := by decide +kernel
theorem dX12_season_155 : decode cX12_season 155 = .ok (.aload_n 0, 1) := by decide +kernel
theorem dX12_season_156 : decode cX12_season 156 = .ok (.iload 6, 2) := by decide +kernel
theorem dX12_season_158 : decode cX12_season 158 = .ok (.iload 7, 2) := by decide +kernel
theorem dX12_season_160 : decode cX12_season 160 = .ok (.iload 8, 2) := by decide +kernel
theorem dX12_season_162 : decode cX12_season 162 = .ok (.iconst 1, 1) := by decide +kernel
theorem dX12_season_163 : decode cX12_season 163 = .ok (.invokevirtual 173, 3) := by decide +kernel
theorem dX12_season_166 : decode cX12_season 166 = .ok (.ifCond .ne 25, 3) := by decide +kernel
theorem dX12_season_169 : decode cX12_season 169 = .ok (.aload_n 0, 1) := by decide +kernel
theorem dX12_season_170 : decode cX12_season 170 = .ok (.iload 6, 2) := by decide +kernel
theorem dX12_season_172 : decode cX12_season 172 = .ok (.iload 7, 2) := by decide +kernel
theorem dX12_season_174 : decode cX12_season 174 = .ok (.iload 8, 2) := by decide +kernel
theorem dX12_season_176 : decode cX12_season 176 = .ok (.iconst 1, 1) := by decide +kernel
theorem dX12_season_177 : decode cX12_season 177 = .ok (.invokevirtual 177, 3) := by decide +kernel
theorem dX12_season_180 : decode cX12_season 180 = .ok (.aload_n 0, 1) := by decide +kernel
theorem dX12_season_181 : decode cX12_season 181 = .ok (.getfield 117, 3) := by decide +kernel
theorem dX12_season_184 : decode cX12_season 184 = .ok (.iload 6, 2) := by decide +kernel
theorem dX12_season_186 : decode cX12_season 186 = .ok (.dup2, 1) := by decide +kernel
theorem dX12_season_187 : decode cX12_season 187 = .ok (.iaload, 1) := by decide +kernel
theorem dX12_season_188 : decode cX12_season 188 = .ok (.iconst 1, 1) := by decide +kernel
theorem dX12_season_189 : decode cX12_season 189 = .ok (.iadd, 1) := by decide +kernel
theorem dX12_season_190 : decode cX12_season 190 = .ok (.iastore, 1) := by decide +kernel
theorem dX12_season_191 : decode cX12_season 191 = .ok (.aload_n 0, 1) := by decide +kernel
theorem dX12_season_192 : decode cX12_season 192 = .ok (.getfield 24, 3) := by decide +kernel
theorem dX12_season_195 : decode cX12_season 195 = .ok (.sipush 169, 3) := by decide +kernel
theorem dX12_season_198 : decode cX12_season 198 = .ok (.iaload, 1) := by decide +kernel
theorem dX12_season_199 : decode cX12_season 199 = .ok (.sipush 999, 3) := by decide +kernel
theorem dX12_season_202 : decode cX12_season 202 = .ok (.if_icmp .ge 7, 3) := by decide +kernel
theorem dX12_season_205 : decode cX12_season 205 = .ok (.iconst 1, 1) := by decide +kernel
theorem dX12_season_206 : decode cX12_season 206 = .ok (.goto 4, 3) := by decide +kernel
theorem dX12_season_209 : decode cX12_season 209 = .ok (.iconst 0, 1) := by decide +kernel
theorem dX12_season_210 : decode cX12_season 210 = .ok (.istore 4, 2) := by decide +kernel
theorem dX12_season_212 : decode cX12_season 212 = .ok (.iload 4, 2) := by decide +kernel
theorem dX12_season_214 : decode cX12_season 214 = .ok (.ifCond .eq 10, 3) := by decide +kernel
theorem dX12_season_217 : decode cX12_season 217 = .ok (.iload_n 3, 1) := by decide +kernel
theorem dX12_season_218 : decode cX12_season 218 = .ok (.aload_n 0, 1) := by decide +kernel
theorem dX12_season_219 : decode cX12_season 219 = .ok (.invokevirtual 379, 3) := by decide +kernel
theorem dX12_season_222 : decode cX12_season 222 = .ok (.iadd, 1) := by decide +kernel
theorem dX12_season_223 : decode cX12_season 223 = .ok (.istore_n 3, 1) := by decide +kernel
theorem dX12_season_224 : decode cX12_season 224 = .ok (.iinc 5 1, 3) := by decide +kernel
theorem dX12_season_227 : decode cX12_season 227 = .ok (.goto (-111), 3) := by decide +kernel
theorem dX12_season_230 : decode cX12_season 230 = .ok (.iconst 0, 1) := by decide +kernel
theorem dX12_season_231 : decode cX12_season 231 = .ok (.istore 5, 2) := by decide +kernel
theorem dX12_season_233 : decode cX12_season 233 = .ok (.iload 5, 2) := by decide +kernel
theorem dX12_season_235 : decode cX12_season 235 = .ok (.aload_n 0, 1) := by decide +kernel
theorem dX12_season_236 : decode cX12_season 236 = .ok (.invokevirtual 133, 3) := by decide +kernel
theorem dX12_season_239 : decode cX12_season 239 = .ok (.if_icmp .ge 35, 3) := by decide +kernel
theorem dX12_season_242 : decode cX12_season 242 = .ok (.aload_n 0, 1) := by decide +kernel
theorem dX12_season_243 : decode cX12_season 243 = .ok (.getfield 120, 3) := by decide +kernel
theorem dX12_season_246 : decode cX12_season 246 = .ok (.iconst 3, 1) := by decide +kernel
theorem dX12_season_247 : decode cX12_season 247 = .ok (.aload_n 0, 1) := by decide +kernel
theorem dX12_season_248 : decode cX12_season 248 = .ok (.iload 5, 2) := by decide +kernel
theorem dX12_season_250 : decode cX12_season 250 = .ok (.iconst 0, 1) := by decide +kernel
theorem dX12_season_251 : decode cX12_season 251 = .ok (.invokevirtual 141, 3) := by decide +kernel
theorem dX12_season_254 : decode cX12_season 254 = .ok (.imul, 1) := by decide +kernel
theorem dX12_season_255 : decode cX12_season 255 = .ok (.aload_n 0, 1) := by decide +kernel
theorem dX12_season_256 : decode cX12_season 256 = .ok (.iload 5, 2) := by decide +kernel
theorem dX12_season_258 : decode cX12_season 258 = .ok (.iconst 5, 1) := by decide +kernel
theorem dX12_season_259 : decode cX12_season 259 = .ok (.invokevirtual 141, 3) := by decide +kernel
theorem dX12_season_262 : decode cX12_season 262 = .ok (.iadd, 1) := by decide +kernel
theorem dX12_season_263 : decode cX12_season 263 = .ok (.dup2, 1) := by decide +kernel
theorem dX12_season_264 : decode cX12_season 264 = .ok (.iaload, 1) := by decide +kernel
theorem dX12_season_265 : decode cX12_season 265 = .ok (.iconst 1, 1) := by decide +kernel
theorem dX12_season_266 : decode cX12_season 266 = .ok (.iadd, 1) := by decide +kernel
theorem dX12_season_267 : decode cX12_season 267 = .ok (.iastore, 1) := by decide +kernel
theorem dX12_season_268 : decode cX12_season 268 = .ok (.iinc 5 1, 3) := by decide +kernel
theorem dX12_season_271 : decode cX12_season 271 = .ok (.goto (-38), 3) := by decide +kernel
theorem dX12_season_274 : decode cX12_season 274 = .ok (.aload_n 0, 1) := by decide +kernel
theorem dX12_season_275 : decode cX12_season 275 = .ok (.iconst 0, 1) := by decide +kernel
theorem dX12_season_276 : decode cX12_season 276 = .ok (.invokevirtual 418, 3) := by decide +kernel
theorem dX12_season_279 : decode cX12_season 279 = .ok (.aload_n 0, 1) := by decide +kernel
theorem dX12_season_280 : decode cX12_season 280 = .ok (.iload_n 3, 1) := by decide +kernel
theorem dX12_season_281 : decode cX12_season 281 = .ok (.invokevirtual 14, 3) := by decide +kernel
theorem dX12_season_284 : decode cX12_season 284 = .ok (.ireturn, 1) := by decide +kernel
theorem dX12_drawn_0 : decode cX12_drawn 0 = .ok (.iload_n 1, 1) := by decide +kernel
theorem dX12_drawn_1 : decode cX12_drawn 1 = .ok (.iconst 0, 1) := by decide +kernel
theorem dX12_drawn_2 : decode cX12_drawn 2 = .ok (.aload_n 0, 1) := by decide +kernel
theorem dX12_drawn_3 : decode cX12_drawn 3 = .ok (.getfield 470, 3) := by decide +kernel
theorem dX12_drawn_6 : decode cX12_drawn 6 = .ok (.iconst 1, 1) := by decide +kernel
theorem dX12_drawn_7 : decode cX12_drawn 7 = .ok (.isub, 1) := by decide +kernel
theorem dX12_drawn_8 : decode cX12_drawn 8 = .ok (.invokestatic 123, 3) := by decide +kernel
theorem dX12_drawn_11 : decode cX12_drawn 11 = .ok (.ifCond .ne 5, 3) := by decide +kernel
theorem dX12_drawn_14 : decode cX12_drawn 14 = .ok (.iconst (-1), 1) := by decide +kernel
theorem dX12_drawn_15 : decode cX12_drawn 15 = .ok (.ireturn, 1) := by decide +kernel
theorem dX12_drawn_16 : decode cX12_drawn 16 = .ok (.iload_n 2, 1) := by decide +kernel
theorem dX12_drawn_17 : decode cX12_drawn 17 = .ok (.tableswitch 69 0 3 #[31, 38, 49, 60], 31) := by decide +kernel
theorem dX12_drawn_48 : decode cX12_drawn 48 = .ok (.aload_n 0, 1) := by decide +kernel
theorem dX12_drawn_49 : decode cX12_drawn 49 = .ok (.getfield 117, 3) := by decide +kernel
theorem dX12_drawn_52 : decode cX12_drawn 52 = .ok (.iload_n 1, 1) := by decide +kernel
theorem dX12_drawn_53 : decode cX12_drawn 53 = .ok (.iaload, 1) := by decide +kernel
theorem dX12_drawn_54 : decode cX12_drawn 54 = .ok (.ireturn, 1) := by decide +kernel
theorem dX12_drawn_55 : decode cX12_drawn 55 = .ok (.aload_n 0, 1) := by decide +kernel
theorem dX12_drawn_56 : decode cX12_drawn 56 = .ok (.getfield 120, 3) := by decide +kernel
theorem dX12_drawn_59 : decode cX12_drawn 59 = .ok (.iconst 3, 1) := by decide +kernel
theorem dX12_drawn_60 : decode cX12_drawn 60 = .ok (.iload_n 1, 1) := by decide +kernel
theorem dX12_drawn_61 : decode cX12_drawn 61 = .ok (.imul, 1) := by decide +kernel
theorem dX12_drawn_62 : decode cX12_drawn 62 = .ok (.iconst 1, 1) := by decide +kernel
theorem dX12_drawn_63 : decode cX12_drawn 63 = .ok (.iadd, 1) := by decide +kernel
theorem dX12_drawn_64 : decode cX12_drawn 64 = .ok (.iaload, 1) := by decide +kernel
theorem dX12_drawn_65 : decode cX12_drawn 65 = .ok (.ireturn, 1) := by decide +kernel
theorem dX12_drawn_66 : decode cX12_drawn 66 = .ok (.aload_n 0, 1) := by decide +kernel
theorem dX12_drawn_67 : decode cX12_drawn 67 = .ok (.getfield 120, 3) := by decide +kernel
theorem dX12_drawn_70 : decode cX12_drawn 70 = .ok (.iconst 3, 1) := by decide +kernel
theorem dX12_drawn_71 : decode cX12_drawn 71 = .ok (.iload_n 1, 1) := by decide +kernel
theorem dX12_drawn_72 : decode cX12_drawn 72 = .ok (.imul, 1) := by decide +kernel
theorem dX12_drawn_73 : decode cX12_drawn 73 = .ok (.iconst 2, 1) := by decide +kernel
theorem dX12_drawn_74 : decode cX12_drawn 74 = .ok (.iadd, 1) := by decide +kernel
theorem dX12_drawn_75 : decode cX12_drawn 75 = .ok (.iaload, 1) := by decide +kernel
theorem dX12_drawn_76 : decode cX12_drawn 76 = .ok (.ireturn, 1) := by decide +kernel
theorem dX12_drawn_77 : decode cX12_drawn 77 = .ok (.aload_n 0, 1) := by decide +kernel
theorem dX12_drawn_78 : decode cX12_drawn 78 = .ok (.getfield 120, 3) := by decide +kernel
theorem dX12_drawn_81 : decode cX12_drawn 81 = .ok (.iconst 3, 1) := by decide +kernel
theorem dX12_drawn_82 : decode cX12_drawn 82 = .ok (.iload_n 1, 1) := by decide +kernel
theorem dX12_drawn_83 : decode cX12_drawn 83 = .ok (.imul, 1) := by decide +kernel
theorem dX12_drawn_84 : decode cX12_drawn 84 = .ok (.iaload, 1) := by decide +kernel
theorem dX12_drawn_85 : decode cX12_drawn 85 = .ok (.ireturn, 1) := by decide +kernel
theorem dX12_drawn_86 : decode cX12_drawn 86 = .ok (.iconst (-1), 1) := by decide +kernel
theorem dX12_drawn_87 : decode cX12_drawn 87 = .ok (.ireturn, 1) := by decide +kernel
theorem dX12_count_0 : decode cX12_count 0 = .ok (.iload_n 1, 1) := by decide +kernel
theorem dX12_count_1 : decode cX12_count 1 = .ok (.tableswitch 226 0 19 #[95, 104, 113, 122, 127, 132, 141, 150, 159, 164, 169, 169, 169, 179, 186, 194, 203, 212, 212, 212], 95) := by decide +kernel
theorem dX12_count_96 : decode cX12_count 96 = .ok (.aload_n 0, 1) := by decide +kernel
theorem dX12_count_97 : decode cX12_count 97 = .ok (.getfield 24, 3) := by decide +kernel
theorem dX12_count_100 : decode cX12_count 100 = .ok (.sipush 363, 3) := by decide +kernel
theorem dX12_count_103 : decode cX12_count 103 = .ok (.iaload, 1) := by decide +kernel
theorem dX12_count_104 : decode cX12_count 104 = .ok (.ireturn, 1) := by decide +kernel
theorem dX12_count_105 : decode cX12_count 105 = .ok (.aload_n 0, 1) := by decide +kernel
theorem dX12_count_106 : decode cX12_count 106 = .ok (.getfield 24, 3) := by decide +kernel
theorem dX12_count_109 : decode cX12_count 109 = .ok (.sipush 364, 3) := by decide +kernel
theorem dX12_count_112 : decode cX12_count 112 = .ok (.iaload, 1) := by decide +kernel
theorem dX12_count_113 : decode cX12_count 113 = .ok (.ireturn, 1) := by decide +kernel
theorem dX12_count_114 : decode cX12_count 114 = .ok (.aload_n 0, 1) := by decide +kernel
theorem dX12_count_115 : decode cX12_count 115 = .ok (.getfield 24, 3) := by decide +kernel
theorem dX12_count_118 : decode cX12_count 118 = .ok (.sipush 365, 3) := by decide +kernel
theorem dX12_count_121 : decode cX12_count 121 = .ok (.iaload, 1) := by decide +kernel
theorem dX12_count_122 : decode cX12_count 122 = .ok (.ireturn, 1) := by decide +kernel
theorem dX12_count_123 : decode cX12_count 123 = .ok (.aload_n 0, 1) := by decide +kernel
theorem dX12_count_124 : decode cX12_count 124 = .ok (.invokevirtual 133, 3) := by decide +kernel
theorem dX12_count_127 : decode cX12_count 127 = .ok (.ireturn, 1) := by decide +kernel
theorem dX12_count_128 : decode cX12_count 128 = .ok (.aload_n 0, 1) := by decide +kernel
theorem dX12_count_129 : decode cX12_count 129 = .ok (.invokevirtual 436, 3) := by decide +kernel
theorem dX12_count_132 : decode cX12_count 132 = .ok (.ireturn, 1) := by decide +kernel
theorem dX12_count_133 : decode cX12_count 133 = .ok (.aload_n 0, 1) := by decide +kernel
theorem dX12_count_134 : decode cX12_count 134 = .ok (.getfield 24, 3) := by decide +kernel
theorem dX12_count_137 : decode cX12_count 137 = .ok (.sipush 366, 3) := by decide +kernel
theorem dX12_count_140 : decode cX12_count 140 = .ok (.iaload, 1) := by decide +kernel
theorem dX12_count_141 : decode cX12_count 141 = .ok (.ireturn, 1) := by decide +kernel
theorem dX12_count_142 : decode cX12_count 142 = .ok (.aload_n 0, 1) := by decide +kernel
theorem dX12_count_143 : decode cX12_count 143 = .ok (.getfield 24, 3) := by decide +kernel
theorem dX12_count_146 : decode cX12_count 146 = .ok (.sipush 367, 3) := by decide +kernel
theorem dX12_count_149 : decode cX12_count 149 = .ok (.iaload, 1) := by decide +kernel
theorem dX12_count_150 : decode cX12_count 150 = .ok (.ireturn, 1) := by decide +kernel
theorem dX12_count_151 : decode cX12_count 151 = .ok (.aload_n 0, 1) := by decide +kernel
theorem dX12_count_152 : decode cX12_count 152 = .ok (.getfield 24, 3) := by decide +kernel
theorem dX12_count_155 : decode cX12_count 155 = .ok (.sipush 368, 3) := by decide +kernel
theorem dX12_count_158 : decode cX12_count 158 = .ok (.iaload, 1) := by decide +kernel
theorem dX12_count_159 : decode cX12_count 159 = .ok (.ireturn, 1) := by decide +kernel
theorem dX12_count_160 : decode cX12_count 160 = .ok (.aload_n 0, 1) := by decide +kernel
theorem dX12_count_161 : decode cX12_count 161 = .ok (.getfield 11, 3) := by decide +kernel
theorem dX12_count_164 : decode cX12_count 164 = .ok (.ireturn, 1) := by decide +kernel
theorem dX12_count_165 : decode cX12_count 165 = .ok (.aload_n 0, 1) := by decide +kernel
theorem dX12_count_166 : decode cX12_count 166 = .ok (.getfield 167, 3) := by decide +kernel
theorem dX12_count_169 : decode cX12_count 169 = .ok (.ireturn, 1) := by decide +kernel
theorem dX12_count_170 : decode cX12_count 170 = .ok (.aload_n 0, 1) := by decide +kernel
theorem dX12_count_171 : decode cX12_count 171 = .ok (.getfield 7, 3) := by decide +kernel
theorem dX12_count_174 : decode cX12_count 174 = .ok (.iload_n 1, 1) := by decide +kernel
theorem dX12_count_175 : decode cX12_count 175 = .ok (.bipush 9, 2) := by decide +kernel
theorem dX12_count_177 : decode cX12_count 177 = .ok (.isub, 1) := by decide +kernel
theorem dX12_count_178 : decode cX12_count 178 = .ok (.iaload, 1) := by decide +kernel
theorem dX12_count_179 : decode cX12_count 179 = .ok (.ireturn, 1) := by decide +kernel
theorem dX12_count_180 : decode cX12_count 180 = .ok (.aload_n 0, 1) := by decide +kernel
theorem dX12_count_181 : decode cX12_count 181 = .ok (.getfield 7, 3) := by decide +kernel
theorem dX12_count_184 : decode cX12_count 184 = .ok (.iconst 5, 1) := by decide +kernel
theorem dX12_count_185 : decode cX12_count 185 = .ok (.iaload, 1) := by decide +kernel
theorem dX12_count_186 : decode cX12_count 186 = .ok (.ireturn, 1) := by decide +kernel
theorem dX12_count_187 : decode cX12_count 187 = .ok (.aload_n 0, 1) := by decide +kernel
theorem dX12_count_188 : decode cX12_count 188 = .ok (.getfield 7, 3) := by decide +kernel
theorem dX12_count_191 : decode cX12_count 191 = .ok (.bipush 6, 2) := by decide +kernel
theorem dX12_count_193 : decode cX12_count 193 = .ok (.iaload, 1) := by decide +kernel
theorem dX12_count_194 : decode cX12_count 194 = .ok (.ireturn, 1) := by decide +kernel
theorem dX12_count_195 : decode cX12_count 195 = .ok (.aload_n 0, 1) := by decide +kernel
theorem dX12_count_196 : decode cX12_count 196 = .ok (.getfield 24, 3) := by decide +kernel
theorem dX12_count_199 : decode cX12_count 199 = .ok (.sipush 369, 3) := by decide +kernel
theorem dX12_count_202 : decode cX12_count 202 = .ok (.iaload, 1) := by decide +kernel
theorem dX12_count_203 : decode cX12_count 203 = .ok (.ireturn, 1) := by decide +kernel
theorem dX12_count_204 : decode cX12_count 204 = .ok (.aload_n 0, 1) := by decide +kernel
theorem dX12_count_205 : decode cX12_count 205 = .ok (.getfield 24, 3) := by decide +kernel
theorem dX12_count_208 : decode cX12_count 208 = .ok (.sipush 169, 3) := by decide +kernel
theorem dX12_count_211 : decode cX12_count 211 = .ok (.iaload, 1) := by decide +kernel
theorem dX12_count_212 : decode cX12_count 212 = .ok (.ireturn, 1) := by decide +kernel
theorem dX12_count_213 : decode cX12_count 213 = .ok (.aload_n 0, 1) := by decide +kernel
theorem dX12_count_214 : decode cX12_count 214 = .ok (.getfield 24, 3) := by decide +kernel
theorem dX12_count_217 : decode cX12_count 217 = .ok (.sipush 360, 3) := by decide +kernel
theorem dX12_count_220 : decode cX12_count 220 = .ok (.iload_n 1, 1) := by decide +kernel
theorem dX12_count_221 : decode cX12_count 221 = .ok (.iadd, 1) := by decide +kernel
theorem dX12_count_222 : decode cX12_count 222 = .ok (.bipush 17, 2) := by decide +kernel
theorem dX12_count_224 : decode cX12_count 224 = .ok (.isub, 1) := by decide +kernel
theorem dX12_count_225 : decode cX12_count 225 = .ok (.iaload, 1) := by decide +kernel
theorem dX12_count_226 : decode cX12_count 226 = .ok (.ireturn, 1) := by decide +kernel
theorem dX12_count_227 : decode cX12_count 227 = .ok (.iconst (-1), 1) := by decide +kernel
theorem dX12_count_228 : decode cX12_count 228 = .ok (.ireturn, 1) := by decide +kernel
theorem dX12_status_0 : decode cX12_status 0 = .ok (.aload_n 0, 1) := by decide +kernel
theorem dX12_status_1 : decode cX12_status 1 = .ok (.getfield 3, 3) := by decide +kernel
theorem dX12_status_4 : decode cX12_status 4 = .ok (.ireturn, 1) := by decide +kernel
theorem dJ6_bitCount_0f7a4_0 : decode cJ6_bitCount_0f7a4 0 = .ok (.iload_n 0, 1) := by decide +kernel
theorem dJ6_bitCount_0f7a4_1 : decode cJ6_bitCount_0f7a4 1 = .ok (.iload_n 0, 1) := by decide +kernel
theorem dJ6_bitCount_0f7a4_2 : decode cJ6_bitCount_0f7a4 2 = .ok (.iconst 1, 1) := by decide +kernel
theorem dJ6_bitCount_0f7a4_3 : decode cJ6_bitCount_0f7a4 3 = .ok (.iushr, 1) := by decide +kernel
theorem dJ6_bitCount_0f7a4_4 : decode cJ6_bitCount_0f7a4 4 = .ok (.ldc_w 265, 3) := by decide +kernel
theorem dJ6_bitCount_0f7a4_7 : decode cJ6_bitCount_0f7a4 7 = .ok (.iand, 1) := by decide +kernel
theorem dJ6_bitCount_0f7a4_8 : decode cJ6_bitCount_0f7a4 8 = .ok (.isub, 1) := by decide +kernel
theorem dJ6_bitCount_0f7a4_9 : decode cJ6_bitCount_0f7a4 9 = .ok (.istore_n 0, 1) := by decide +kernel
theorem dJ6_bitCount_0f7a4_10 : decode cJ6_bitCount_0f7a4 10 = .ok (.iload_n 0, 1) := by decide +kernel
theorem dJ6_bitCount_0f7a4_11 : decode cJ6_bitCount_0f7a4 11 = .ok (.ldc_w 266, 3) := by decide +kernel
theorem dJ6_bitCount_0f7a4_14 : decode cJ6_bitCount_0f7a4 14 = .ok (.iand, 1) := by decide +kernel
theorem dJ6_bitCount_0f7a4_15 : decode cJ6_bitCount_0f7a4 15 = .ok (.iload_n 0, 1) := by decide +kernel
theorem dJ6_bitCount_0f7a4_16 : decode cJ6_bitCount_0f7a4 16 = .ok (.iconst 2, 1) := by decide +kernel
theorem dJ6_bitCount_0f7a4_17 : decode cJ6_bitCount_0f7a4 17 = .ok (.iushr, 1) := by decide +kernel
