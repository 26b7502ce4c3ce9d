theorem dX12_isSolution_49 : decode cX12_isSolution 49 = .ok (.iload_n 2, 1) := by decide +kernel
theorem dX12_isSolution_50 : decode cX12_isSolution 50 = .ok (.ifCond .eq 159, 3) := by decide +kernel
theorem dX12_isSolution_53 : decode cX12_isSolution 53 = .ok (.aload_n 0, 1) := by decide +kernel
theorem dX12_isSolution_54 : decode cX12_isSolution 54 = .ok (.getfield 41, 3) := by decide +kernel
theorem dX12_isSolution_57 : decode cX12_isSolution 57 = .ok (.iload_n 3, 1) := by decide +kernel
theorem dX12_isSolution_58 : decode cX12_isSolution 58 = .ok (.iconst 0, 1) := by decide +kernel
theorem dX12_isSolution_59 : decode cX12_isSolution 59 = .ok (.iastore, 1) := by decide +kernel
theorem dX12_isSolution_60 : decode cX12_isSolution 60 = .ok (.iconst 0, 1) := by decide +kernel
theorem dX12_isSolution_61 : decode cX12_isSolution 61 = .ok (.istore 4, 2) := by decide +kernel
theorem dX12_isSolution_63 : decode cX12_isSolution 63 = .ok (.iload 4, 2) := by decide +kernel
theorem dX12_isSolution_65 : decode cX12_isSolution 65 = .ok (.aload_n 1, 1) := by decide +kernel
theorem dX12_isSolution_66 : decode cX12_isSolution 66 = .ok (.iload_n 3, 1) := by decide +kernel
theorem dX12_isSolution_67 : decode cX12_isSolution 67 = .ok (.iaload, 1) := by decide +kernel
theorem dX12_isSolution_68 : decode cX12_isSolution 68 = .ok (.if_icmp .ge 135, 3) := by decide +kernel
theorem dX12_isSolution_71 : decode cX12_isSolution 71 = .ok (.aload_n 1, 1) := by decide +kernel
theorem dX12_isSolution_72 : decode cX12_isSolution 72 = .ok (.iload_n 3, 1) := by decide +kernel
theorem dX12_isSolution_73 : decode cX12_isSolution 73 = .ok (.iload 4, 2) := by decide +kernel
theorem dX12_isSolution_75 : decode cX12_isSolution 75 = .ok (.invokestatic 111, 3) := by decide +kernel
theorem dX12_isSolution_78 : decode cX12_isSolution 78 = .ok (.iaload, 1) := by decide +kernel
theorem dX12_isSolution_79 : decode cX12_isSolution 79 = .ok (.istore 5, 2) := by decide +kernel
theorem dX12_isSolution_81 : decode cX12_isSolution 81 = .ok (.iload 5, 2) := by decide +kernel
theorem dX12_isSolution_83 : decode cX12_isSolution 83 = .ok (.iconst 2, 1) := by decide +kernel
theorem dX12_isSolution_84 : decode cX12_isSolution 84 = .ok (.if_icmp .ge 34, 3) := by decide +kernel
theorem dX12_isSolution_87 : decode cX12_isSolution 87 = .ok (.aload_n 0, 1) := by decide +kernel
theorem dX12_isSolution_88 : decode cX12_isSolution 88 = .ok (.getfield 38, 3) := by decide +kernel
theorem dX12_isSolution_91 : decode cX12_isSolution 91 = .ok (.bipush 60, 2) := by decide +kernel
theorem dX12_isSolution_93 : decode cX12_isSolution 93 = .ok (.iload_n 3, 1) := by decide +kernel
theorem dX12_isSolution_94 : decode cX12_isSolution 94 = .ok (.imul, 1) := by decide +kernel
theorem dX12_isSolution_95 : decode cX12_isSolution 95 = .ok (.aload_n 0, 1) := by decide +kernel
theorem dX12_isSolution_96 : decode cX12_isSolution 96 = .ok (.getfield 41, 3) := by decide +kernel
theorem dX12_isSolution_99 : decode cX12_isSolution 99 = .ok (.iload_n 3, 1) := by decide +kernel
theorem dX12_isSolution_100 : decode cX12_isSolution 100 = .ok (.iaload, 1) := by decide +kernel
theorem dX12_isSolution_101 : decode cX12_isSolution 101 = .ok (.iadd, 1) := by decide +kernel
theorem dX12_isSolution_102 : decode cX12_isSolution 102 = .ok (.iload 5, 2) := by decide +kernel
theorem dX12_isSolution_104 : decode cX12_isSolution 104 = .ok (.iastore, 1) := by decide +kernel
theorem dX12_isSolution_105 : decode cX12_isSolution 105 = .ok (.aload_n 0, 1) := by decide +kernel
theorem dX12_isSolution_106 : decode cX12_isSolution 106 = .ok (.getfield 41, 3) := by decide +kernel
theorem dX12_isSolution_109 : decode cX12_isSolution 109 = .ok (.iload_n 3, 1) := by decide +kernel
theorem dX12_isSolution_110 : decode cX12_isSolution 110 = .ok (.dup2, 1) := by decide +kernel
theorem dX12_isSolution_111 : decode cX12_isSolution 111 = .ok (.iaload, 1) := by decide +kernel
theorem dX12_isSolution_112 : decode cX12_isSolution 112 = .ok (.iconst 1, 1) := by decide +kernel
theorem dX12_isSolution_113 : decode cX12_isSolution 113 = .ok (.iadd, 1) := by decide +kernel
theorem dX12_isSolution_114 : decode cX12_isSolution 114 = .ok (.iastore, 1) := by decide +kernel
theorem dX12_isSolution_115 : decode cX12_isSolution 115 = .ok (.goto 82, 3) := by decide +kernel
theorem dX12_isSolution_118 : decode cX12_isSolution 118 = .ok (.aload_n 0, 1) := by decide +kernel
theorem dX12_isSolution_119 : decode cX12_isSolution 119 = .ok (.getfield 44, 3) := by decide +kernel
theorem dX12_isSolution_122 : decode cX12_isSolution 122 = .ok (.iload 5, 2) := by decide +kernel
theorem dX12_isSolution_124 : decode cX12_isSolution 124 = .ok (.iconst 2, 1) := by decide +kernel
theorem dX12_isSolution_125 : decode cX12_isSolution 125 = .ok (.isub, 1) := by decide +kernel
theorem dX12_isSolution_126 : decode cX12_isSolution 126 = .ok (.iaload, 1) := by decide +kernel
theorem dX12_isSolution_127 : decode cX12_isSolution 127 = .ok (.istore 6, 2) := by decide +kernel
theorem dX12_isSolution_129 : decode cX12_isSolution 129 = .ok (.iload 6, 2) := by decide +kernel
theorem dX12_isSolution_131 : decode cX12_isSolution 131 = .ok (.invokestatic 166, 3) := by decide +kernel
theorem dX12_isSolution_134 : decode cX12_isSolution 134 = .ok (.istore 7, 2) := by decide +kernel
theorem dX12_isSolution_136 : decode cX12_isSolution 136 = .ok (.iload 6, 2) := by decide +kernel
theorem dX12_isSolution_138 : decode cX12_isSolution 138 = .ok (.iconst 1, 1) := by decide +kernel
theorem dX12_isSolution_139 : decode cX12_isSolution 139 = .ok (.iadd, 1) := by decide +kernel
theorem dX12_isSolution_140 : decode cX12_isSolution 140 = .ok (.iconst 1, 1) := by decide +kernel
theorem dX12_isSolution_141 : decode cX12_isSolution 141 = .ok (.iload 7, 2) := by decide +kernel
theorem dX12_isSolution_143 : decode cX12_isSolution 143 = .ok (.ishl, 1) := by decide +kernel
theorem dX12_isSolution_144 : decode cX12_isSolution 144 = .ok (.isub, 1) := by decide +kernel
theorem dX12_isSolution_145 : decode cX12_isSolution 145 = .ok (.istore 8, 2) := by decide +kernel
theorem dX12_isSolution_147 : decode cX12_isSolution 147 = .ok (.iload 7, 2) := by decide +kernel
theorem dX12_isSolution_149 : decode cX12_isSolution 149 = .ok (.iconst 1, 1) := by decide +kernel
theorem dX12_isSolution_150 : decode cX12_isSolution 150 = .ok (.isub, 1) := by decide +kernel
theorem dX12_isSolution_151 : decode cX12_isSolution 151 = .ok (.istore 9, 2) := by decide +kernel
theorem dX12_isSolution_153 : decode cX12_isSolution 153 = .ok (.iload 9, 2) := by decide +kernel
theorem dX12_isSolution_155 : decode cX12_isSolution 155 = .ok (.ifCond .lt 42, 3) := by decide +kernel
theorem dX12_isSolution_158 : decode cX12_isSolution 158 = .ok (.aload_n 0, 1) := by decide +kernel
theorem dX12_isSolution_159 : decode cX12_isSolution 159 = .ok (.getfield 38, 3) := by decide +kernel
theorem dX12_isSolution_162 : decode cX12_isSolution 162 = .ok (.bipush 60, 2) := by decide +kernel
theorem dX12_isSolution_164 : decode cX12_isSolution 164 = .ok (.iload_n 3, 1) := by decide +kernel
theorem dX12_isSolution_165 : decode cX12_isSolution 165 = .ok (.imul, 1) := by decide +kernel
theorem dX12_isSolution_166 : decode cX12_isSolution 166 = .ok (.aload_n 0, 1) := by decide +kernel
theorem dX12_isSolution_167 : decode cX12_isSolution 167 = .ok (.getfield 41, 3) := by decide +kernel
theorem dX12_isSolution_170 : decode cX12_isSolution 170 = .ok (.iload_n 3, 1) := by decide +kernel
theorem dX12_isSolution_171 : decode cX12_isSolution 171 = .ok (.iaload, 1) := by decide +kernel
theorem dX12_isSolution_172 : decode cX12_isSolution 172 = .ok (.iadd, 1) := by decide +kernel
theorem dX12_isSolution_173 : decode cX12_isSolution 173 = .ok (.iload 8, 2) := by decide +kernel
theorem dX12_isSolution_175 : decode cX12_isSolution 175 = .ok (.iload 9, 2) := by decide +kernel
theorem dX12_isSolution_177 : decode cX12_isSolution 177 = .ok (.ishr, 1) := by decide +kernel
theorem dX12_isSolution_178 : decode cX12_isSolution 178 = .ok (.iconst 1, 1) := by decide +kernel
theorem dX12_isSolution_179 : decode cX12_isSolution 179 = .ok (.iand, 1) := by decide +kernel
theorem dX12_isSolution_180 : decode cX12_isSolution 180 = .ok (.iastore, 1) := by decide +kernel
theorem dX12_isSolution_181 : decode cX12_isSolution 181 = .ok (.aload_n 0, 1) := by decide +kernel
theorem dX12_isSolution_182 : decode cX12_isSolution 182 = .ok (.getfield 41, 3) := by decide +kernel
theorem dX12_isSolution_185 : decode cX12_isSolution 185 = .ok (.iload_n 3, 1) := by decide +kernel
theorem dX12_isSolution_186 : decode cX12_isSolution 186 = .ok (.dup2, 1) := by decide +kernel
theorem dX12_isSolution_187 : decode cX12_isSolution 187 = .ok (.iaload, 1) := by decide +kernel
theorem dX12_isSolution_188 : decode cX12_isSolution 188 = .ok (.iconst 1, 1) := by decide +kernel
theorem dX12_isSolution_189 : decode cX12_isSolution 189 = .ok (.iadd, 1) := by decide +kernel
theorem dX12_isSolution_190 : decode cX12_isSolution 190 = .ok (.iastore, 1) := by decide +kernel
theorem dX12_isSolution_191 : decode cX12_isSolution 191 = .ok (.iinc 9 (-1), 3) := by decide +kernel
theorem dX12_isSolution_194 : decode cX12_isSolution 194 = .ok (.goto (-41), 3) := by decide +kernel
theorem dX12_isSolution_197 : decode cX12_isSolution 197 = .ok (.iinc 4 1, 3) := by decide +kernel
theorem dX12_isSolution_200 : decode cX12_isSolution 200 = .ok (.goto (-137), 3) := by decide +kernel
theorem dX12_isSolution_203 : decode cX12_isSolution 203 = .ok (.iinc 3 1, 3) := by decide +kernel
theorem dX12_isSolution_206 : decode cX12_isSolution 206 = .ok (.goto (-162), 3) := by decide +kernel
theorem dX12_isSolution_209 : decode cX12_isSolution 209 = .ok (.iload_n 2, 1) := by decide +kernel
theorem dX12_isSolution_210 : decode cX12_isSolution 210 = .ok (.ifCond .eq 22, 3) := by decide +kernel
theorem dX12_isSolution_213 : decode cX12_isSolution 213 = .ok (.aload_n 0, 1) := by decide +kernel
theorem dX12_isSolution_214 : decode cX12_isSolution 214 = .ok (.getfield 41, 3) := by decide +kernel
theorem dX12_isSolution_217 : decode cX12_isSolution 217 = .ok (.iconst 0, 1) := by decide +kernel
theorem dX12_isSolution_218 : decode cX12_isSolution 218 = .ok (.iaload, 1) := by decide +kernel
theorem dX12_isSolution_219 : decode cX12_isSolution 219 = .ok (.aload_n 0, 1) := by decide +kernel
theorem dX12_isSolution_220 : decode cX12_isSolution 220 = .ok (.getfield 41, 3) := by decide +kernel
theorem dX12_isSolution_223 : decode cX12_isSolution 223 = .ok (.iconst 1, 1) := by decide +kernel
theorem dX12_isSolution_224 : decode cX12_isSolution 224 = .ok (.iaload, 1) := by decide +kernel
theorem dX12_isSolution_225 : decode cX12_isSolution 225 = .ok (.if_icmp .ne 7, 3) := by decide +kernel
theorem dX12_isSolution_228 : decode cX12_isSolution 228 = .ok (.iconst 1, 1) := by decide +kernel
theorem dX12_isSolution_229 : decode cX12_isSolution 229 = .ok (.goto 4, 3) := by decide +kernel
theorem dX12_isSolution_232 : decode cX12_isSolution 232 = .ok (.iconst 0, 1) := by decide +kernel
theorem dX12_isSolution_233 : decode cX12_isSolution 233 = .ok (.istore_n 2, 1) := by decide +kernel
theorem dX12_isSolution_234 : decode cX12_isSolution 234 = .ok (.iconst 0, 1) := by decide +kernel
theorem dX12_isSolution_235 : decode cX12_isSolution 235 = .ok (.istore_n 3, 1) := by decide +kernel
theorem dX12_isSolution_236 : decode cX12_isSolution 236 = .ok (.iload_n 2, 1) := by decide +kernel
theorem dX12_isSolution_237 : decode cX12_isSolution 237 = .ok (.ifCond .eq 43, 3) := by decide +kernel
theorem dX12_isSolution_240 : decode cX12_isSolution 240 = .ok (.iload_n 3, 1) := by decide +kernel
theorem dX12_isSolution_241 : decode cX12_isSolution 241 = .ok (.aload_n 0, 1) := by decide +kernel
theorem dX12_isSolution_242 : decode cX12_isSolution 242 = .ok (.getfield 41, 3) := by decide +kernel
theorem dX12_isSolution_245 : decode cX12_isSolution 245 = .ok (.iconst 0, 1) := by decide +kernel
theorem dX12_isSolution_246 : decode cX12_isSolution 246 = .ok (.iaload, 1) := by decide +kernel
theorem dX12_isSolution_247 : decode cX12_isSolution 247 = .ok (.if_icmp .ge 33, 3) := by decide +kernel
theorem dX12_isSolution_250 : decode cX12_isSolution 250 = .ok (.aload_n 0, 1) := by decide +kernel
theorem dX12_isSolution_251 : decode cX12_isSolution 251 = .ok (.getfield 38, 3) := by decide +kernel
theorem dX12_isSolution_254 : decode cX12_isSolution 254 = .ok (.iload_n 3, 1) := by decide +kernel
theorem dX12_isSolution_255 : decode cX12_isSolution 255 = .ok (.iaload, 1) := by decide +kernel
theorem dX12_isSolution_256 : decode cX12_isSolution 256 = .ok (.aload_n 0, 1) := by decide +kernel
theorem dX12_isSolution_257 : decode cX12_isSolution 257 = .ok (.getfield 38, 3) := by decide +kernel
theorem dX12_isSolution_260 : decode cX12_isSolution 260 = .ok (.bipush 60, 2) := by decide +kernel
theorem dX12_isSolution_262 : decode cX12_isSolution 262 = .ok (.iload_n 3, 1) := by decide +kernel
theorem dX12_isSolution_263 : decode cX12_isSolution 263 = .ok (.iadd, 1) := by decide +kernel
theorem dX12_isSolution_264 : decode cX12_isSolution 264 = .ok (.iaload, 1) := by decide +kernel
theorem dX12_isSolution_265 : decode cX12_isSolution 265 = .ok (.if_icmp .ne 7, 3) := by decide +kernel
theorem dX12_isSolution_268 : decode cX12_isSolution 268 = .ok (.iconst 1, 1) := by decide +kernel
theorem dX12_isSolution_269 : decode cX12_isSolution 269 = .ok (.goto 4, 3) := by decide +kernel
theorem dX12_isSolution_272 : decode cX12_isSolution 272 = .ok (.iconst 0, 1) := by decide +kernel
theorem dX12_isSolution_273 : decode cX12_isSolution 273 = .ok (.istore_n 2, 1) := by decide +kernel
theorem dX12_isSolution_274 : decode cX12_isSolution 274 = .ok (.iinc 3 1, 3) := by decide +kernel
theorem dX12_isSolution_277 : decode cX12_isSolution 277 = .ok (.goto (-41), 3) := by decide +kernel
theorem dX12_isSolution_280 : decode cX12_isSolution 280 = .ok (.iload_n 2, 1) := by decide +kernel
theorem dX12_isSolution_281 : decode cX12_isSolution 281 = .ok (.ireturn, 1) := by decide +kernel
theorem dX12_satisfies_0 : decode cX12_satisfies 0 = .ok (.iload_n 1, 1) := by decide +kernel
theorem dX12_satisfies_1 : decode cX12_satisfies 1 = .ok (.i2l, 1) := by decide +kernel
theorem dX12_satisfies_2 : decode cX12_satisfies 2 = .ok (.lconst 0, 1) := by decide +kernel
theorem dX12_satisfies_3 : decode cX12_satisfies 3 = .ok (.ldc2_w 101, 3) := by decide +kernel
theorem dX12_satisfies_6 : decode cX12_satisfies 6 = .ok (.invokestatic 85, 3) := by decide +kernel
theorem dX12_satisfies_9 : decode cX12_satisfies 9 = .ok (.ifCond .eq 40, 3) := by decide +kernel
theorem dX12_satisfies_12 : decode cX12_satisfies 12 = .ok (.iload_n 2, 1) := by decide +kernel
theorem dX12_satisfies_13 : decode cX12_satisfies 13 = .ok (.i2l, 1) := by decide +kernel
theorem dX12_satisfies_14 : decode cX12_satisfies 14 = .ok (.lconst 0, 1) := by decide +kernel
theorem dX12_satisfies_15 : decode cX12_satisfies 15 = .ok (.ldc2_w 101, 3) := by decide +kernel
theorem dX12_satisfies_18 : decode cX12_satisfies 18 = .ok (.invokestatic 85, 3) := by decide +kernel
theorem dX12_satisfies_21 : decode cX12_satisfies 21 = .ok (.ifCond .eq 28, 3) := by decide +kernel
theorem dX12_satisfies_24 : decode cX12_satisfies 24 = .ok (.iload_n 3, 1) := by decide +kernel
theorem dX12_satisfies_25 : decode cX12_satisfies 25 = .ok (.i2l, 1) := by decide +kernel
theorem dX12_satisfies_26 : decode cX12_satisfies 26 = .ok (.lconst 0, 1) := by decide +kernel
theorem dX12_satisfies_27 : decode cX12_satisfies 27 = .ok (.ldc2_w 101, 3) := by decide +kernel
theorem dX12_satisfies_30 : decode cX12_satisfies 30 = .ok (.invokestatic 85, 3) := by decide +kernel
theorem dX12_satisfies_33 : decode cX12_satisfies 33 = .ok (.ifCond .eq 16, 3) := by decide +kernel
theorem dX12_satisfies_36 : decode cX12_satisfies 36 = .ok (.iload 4, 2) := by decide +kernel
theorem dX12_satisfies_38 : decode cX12_satisfies 38 = .ok (.i2l, 1) := by decide +kernel
theorem dX12_satisfies_39 : decode cX12_satisfies 39 = .ok (.lconst 0, 1) := by decide +kernel
theorem dX12_satisfies_40 : decode cX12_satisfies 40 = .ok (.ldc2_w 101, 3) := by decide +kernel
theorem dX12_satisfies_43 : decode cX12_satisfies 43 = .ok (.invokestatic 85, 3) := by decide +kernel
theorem dX12_satisfies_46 : decode cX12_satisfies 46 = .ok (.ifCond .ne 6, 3) := by decide +kernel
theorem dX12_satisfies_49 : decode cX12_satisfies 49 = .ok (.bipush (-2), 2) := by decide +kernel
theorem dX12_satisfies_51 : decode cX12_satisfies 51 = .ok (.ireturn, 1) := by decide +kernel
theorem dX12_satisfies_52 : decode cX12_satisfies 52 = .ok (.aload_n 0, 1) := by decide +kernel
theorem dX12_satisfies_53 : decode cX12_satisfies 53 = .ok (.getfield 44, 3) := by decide +kernel
theorem dX12_satisfies_56 : decode cX12_satisfies 56 = .ok (.iconst 0, 1) := by decide +kernel
theorem dX12_satisfies_57 : decode cX12_satisfies 57 = .ok (.iload_n 1, 1) := by decide +kernel
theorem dX12_satisfies_58 : decode cX12_satisfies 58 = .ok (.iastore, 1) := by decide +kernel
theorem dX12_satisfies_59 : decode cX12_satisfies 59 = .ok (.aload_n 0, 1) := by decide +kernel
theorem dX12_satisfies_60 : decode cX12_satisfies 60 = .ok (.getfield 44, 3) := by decide +kernel
theorem dX12_satisfies_63 : decode cX12_satisfies 63 = .ok (.iconst 1, 1) := by decide +kernel
theorem dX12_satisfies_64 : decode cX12_satisfies 64 = .ok (.iload_n 2, 1) := by decide +kernel
theorem dX12_satisfies_65 : decode cX12_satisfies 65 = .ok (.iastore, 1) := by decide +kernel
theorem dX12_satisfies_66 : decode cX12_satisfies 66 = .ok (.aload_n 0, 1) := by decide +kernel
theorem dX12_satisfies_67 : decode cX12_satisfies 67 = .ok (.getfield 44, 3) := by decide +kernel
theorem dX12_satisfies_70 : decode cX12_satisfies 70 = .ok (.iconst 2, 1) := by decide +kernel
theorem dX12_satisfies_71 : decode cX12_satisfies 71 = .ok (.iload_n 3, 1) := by decide +kernel
theorem dX12_satisfies_72 : decode cX12_satisfies 72 = .ok (.iastore, 1) := by decide +kernel
theorem dX12_satisfies_73 : decode cX12_satisfies 73 = .ok (.aload_n 0, 1) := by decide +kernel
theorem dX12_satisfies_74 : decode cX12_satisfies 74 = .ok (.getfield 44, 3) := by decide +kernel
theorem dX12_satisfies_77 : decode cX12_satisfies 77 = .ok (.iconst 3, 1) := by decide +kernel
theorem dX12_satisfies_78 : decode cX12_satisfies 78 = .ok (.iload 4, 2) := by decide +kernel
theorem dX12_satisfies_80 : decode cX12_satisfies 80 = .ok (.iastore, 1) := by decide +kernel
theorem dX12_satisfies_81 : decode cX12_satisfies 81 = .ok (.aload_n 0, 1) := by decide +kernel
theorem dX12_satisfies_82 : decode cX12_satisfies 82 = .ok (.aload_n 0, 1) := by decide +kernel
theorem dX12_satisfies_83 : decode cX12_satisfies 83 = .ok (.getfield 13, 3) := by decide +kernel
theorem dX12_satisfies_86 : decode cX12_satisfies 86 = .ok (.invokevirtual 172, 3) := by decide +kernel
theorem dX12_satisfies_89 : decode cX12_satisfies 89 = .ok (.ifCond .eq 7, 3) := by decide +kernel
theorem dX12_satisfies_92 : decode cX12_satisfies 92 = .ok (.iconst 1, 1) := by decide +kernel
theorem dX12_satisfies_93 : decode cX12_satisfies 93 = .ok (.goto 4, 3) := by decide +kernel
theorem dX12_satisfies_96 : decode cX12_satisfies 96 = .ok (.iconst 0, 1) := by decide +kernel
theorem dX12_satisfies_97 : decode cX12_satisfies 97 = .ok (.ireturn, 1) := by decide +kernel
theorem dX12_isUsed_0 : decode cX12_isUsed 0 = .ok (.aload_n 0, 1) := by decide +kernel
theorem dX12_isUsed_1 : decode cX12_isUsed 1 = .ok (.iconst 0, 1) := by decide +kernel
theorem dX12_isUsed_2 : decode cX12_isUsed 2 = .ok (.iload_n 1, 1) := by decide +kernel
theorem dX12_isUsed_3 : decode cX12_isUsed 3 = .ok (.iconst 2, 1) := by decide +kernel
theorem dX12_isUsed_4 : decode cX12_isUsed 4 = .ok (.iadd, 1) := by decide +kernel
theorem dX12_isUsed_5 : decode cX12_isUsed 5 = .ok (.invokestatic 137, 3) := by decide +kernel
theorem dX12_isUsed_8 : decode cX12_isUsed 8 = .ok (.aload_n 0, 1) := by decide +kernel
theorem dX12_isUsed_9 : decode cX12_isUsed 9 = .ok (.iconst 1, 1) := by decide +kernel
theorem dX12_isUsed_10 : decode cX12_isUsed 10 = .ok (.iload_n 1, 1) := by decide +kernel
theorem dX12_isUsed_11 : decode cX12_isUsed 11 = .ok (.iconst 2, 1) := by decide +kernel
theorem dX12_isUsed_12 : decode cX12_isUsed 12 = .ok (.iadd, 1) := by decide +kernel
theorem dX12_isUsed_13 : decode cX12_isUsed 13 = .ok (.invokestatic 137, 3) := by decide +kernel
theorem dX12_isUsed_16 : decode cX12_isUsed 16 = .ok (.iadd, 1) := by decide +kernel
theorem dX12_isUsed_17 : decode cX12_isUsed 17 = .ok (.ifCond .le 7, 3) := by decide +kernel
theorem dX12_isUsed_20 : decode cX12_isUsed 20 = .ok (.iconst 1, 1) := by decide +kernel
theorem dX12_isUsed_21 : decode cX12_isUsed 21 = .ok (.goto 4, 3) := by decide +kernel
theorem dX12_isUsed_24 : decode cX12_isUsed 24 = .ok (.iconst 0, 1) := by decide +kernel
theorem dX12_isUsed_25 : decode cX12_isUsed 25 = .ok (.ireturn, 1) := by decide +kernel
theorem dX12_goOn_0 : decode cX12_goOn 0 = .ok (.iconst 3, 1) := by decide +kernel
theorem dX12_goOn_1 : decode cX12_goOn 1 = .ok (.istore_n 3, 1) := by decide +kernel
theorem dX12_goOn_2 : decode cX12_goOn 2 = .ok (.iload_n 3, 1) := by decide +kernel
theorem dX12_goOn_3 : decode cX12_goOn 3 = .ok (.ifCond .lt 36, 3) := by decide +kernel
theorem dX12_goOn_6 : decode cX12_goOn 6 = .ok (.aload_n 1, 1) := by decide +kernel
theorem dX12_goOn_7 : decode cX12_goOn 7 = .ok (.iload_n 3, 1) := by decide +kernel
theorem dX12_goOn_8 : decode cX12_goOn 8 = .ok (.invokestatic 176, 3) := by decide +kernel
theorem dX12_goOn_11 : decode cX12_goOn 11 = .ok (.ifCond .eq 15, 3) := by decide +kernel
theorem dX12_goOn_14 : decode cX12_goOn 14 = .ok (.aload_n 0, 1) := by decide +kernel
theorem dX12_goOn_15 : decode cX12_goOn 15 = .ok (.getfield 44, 3) := by decide +kernel
theorem dX12_goOn_18 : decode cX12_goOn 18 = .ok (.iload_n 3, 1) := by decide +kernel
theorem dX12_goOn_19 : decode cX12_goOn 19 = .ok (.iaload, 1) := by decide +kernel
theorem dX12_goOn_20 : decode cX12_goOn 20 = .ok (.iload_n 2, 1) := by decide +kernel
theorem dX12_goOn_21 : decode cX12_goOn 21 = .ok (.iconst 1, 1) := by decide +kernel
theorem dX12_goOn_22 : decode cX12_goOn 22 = .ok (.isub, 1) := by decide +kernel
theorem dX12_goOn_23 : decode cX12_goOn 23 = .ok (.if_icmp .ne 16, 3) := by decide +kernel
theorem dX12_goOn_26 : decode cX12_goOn 26 = .ok (.aload_n 0, 1) := by decide +kernel
theorem dX12_goOn_27 : decode cX12_goOn 27 = .ok (.getfield 44, 3) := by decide +kernel
theorem dX12_goOn_30 : decode cX12_goOn 30 = .ok (.iload_n 3, 1) := by decide +kernel
theorem dX12_goOn_31 : decode cX12_goOn 31 = .ok (.iconst 0, 1) := by decide +kernel
theorem dX12_goOn_32 : decode cX12_goOn 32 = .ok (.iastore, 1) := by decide +kernel
theorem dX12_goOn_33 : decode cX12_goOn 33 = .ok (.iinc 3 (-1), 3) := by decide +kernel
theorem dX12_goOn_36 : decode cX12_goOn 36 = .ok (.goto (-34), 3) := by decide +kernel
theorem dX12_goOn_39 : decode cX12_goOn 39 = .ok (.iload_n 3, 1) := by decide +kernel
theorem dX12_goOn_40 : decode cX12_goOn 40 = .ok (.ifCond .lt 13, 3) := by decide +kernel
theorem dX12_goOn_43 : decode cX12_goOn 43 = .ok (.aload_n 0, 1) := by decide +kernel
theorem dX12_goOn_44 : decode cX12_goOn 44 = .ok (.getfield 44, 3) := by decide +kernel
theorem dX12_goOn_47 : decode cX12_goOn 47 = .ok (.iload_n 3, 1) := by decide +kernel
theorem dX12_goOn_48 : decode cX12_goOn 48 = .ok (.dup2, 1) := by decide +kernel
theorem dX12_goOn_49 : decode cX12_goOn 49 = .ok (.iaload, 1) := by decide +kernel
theorem dX12_goOn_50 : decode cX12_goOn 50 = .ok (.iconst 1, 1) := by decide +kernel
theorem dX12_goOn_51 : decode cX12_goOn 51 = .ok (.iadd, 1) := by decide +kernel
theorem dX12_goOn_52 : decode cX12_goOn 52 = .ok (.iastore, 1) := by decide +kernel
theorem dX12_goOn_53 : decode cX12_goOn 53 = .ok (.iload_n 3, 1) := by decide +kernel
theorem dX12_goOn_54 : decode cX12_goOn 54 = .ok (.ifCond .lt 7, 3) := by decide +kernel
theorem dX12_goOn_57 : decode cX12_goOn 57 = .ok (.iconst 1, 1) := by decide +kernel
theorem dX12_goOn_58 : decode cX12_goOn 58 = .ok (.goto 4, 3) := by decide +kernel
theorem dX12_goOn_61 : decode cX12_goOn 61 = .ok (.iconst 0, 1) := by decide +kernel
theorem dX12_goOn_62 : decode cX12_goOn 62 = .ok (.ireturn, 1) := by decide +kernel
theorem dX12_lookThrough_0 : decode cX12_lookThrough 0 = .ok (.aload_n 0, 1) := by decide +kernel
theorem dX12_lookThrough_1 : decode cX12_lookThrough 1 = .ok (.iconst 0, 1) := by decide +kernel
theorem dX12_lookThrough_2 : decode cX12_lookThrough 2 = .ok (.putfield 180, 3) := by decide +kernel
theorem dX12_lookThrough_5 : decode cX12_lookThrough 5 = .ok (.aload_n 0, 1) := by decide +kernel
theorem dX12_lookThrough_6 : decode cX12_lookThrough 6 = .ok (.bipush (-9), 2) := by decide +kernel
theorem dX12_lookThrough_8 : decode cX12_lookThrough 8 = .ok (.putfield 183, 3) := by decide +kernel
theorem dX12_lookThrough_11 : decode cX12_lookThrough 11 = .ok (.iconst 0, 1) := by decide +kernel
theorem dX12_lookThrough_12 : decode cX12_lookThrough 12 = .ok (.istore_n 3, 1) := by decide +kernel
theorem dX12_lookThrough_13 : decode cX12_lookThrough 13 = .ok (.iload_n 3, 1) := by decide +kernel
theorem dX12_lookThrough_14 : decode cX12_lookThrough 14 = .ok (.iconst 4, 1) := by decide +kernel
theorem dX12_lookThrough_15 : decode cX12_lookThrough 15 = .ok (.if_icmp .ge 16, 3) := by decide +kernel
theorem dX12_lookThrough_18 : decode cX12_lookThrough 18 = .ok (.aload_n 0, 1) := by decide +kernel
theorem dX12_lookThrough_19 : decode cX12_lookThrough 19 = .ok (.getfield 44, 3) := by decide +kernel
theorem dX12_lookThrough_22 : decode cX12_lookThrough 22 = .ok (.iload_n 3, 1) := by decide +kernel
theorem dX12_lookThrough_23 : decode cX12_lookThrough 23 = .ok (.iconst 0, 1) := by decide +kernel
theorem dX12_lookThrough_24 : decode cX12_lookThrough 24 = .ok (.iastore, 1) := by decide +kernel
theorem dX12_lookThrough_25 : decode cX12_lookThrough 25 = .ok (.iinc 3 1, 3) := by decide +kernel
theorem dX12_lookThrough_28 : decode cX12_lookThrough 28 = .ok (.goto (-15), 3) := by decide +kernel
theorem dX12_lookThrough_31 : decode cX12_lookThrough 31 = .ok (.iconst 1, 1) := by decide +kernel
theorem dX12_lookThrough_32 : decode cX12_lookThrough 32 = .ok (.istore_n 3, 1) := by decide +kernel
theorem dX12_lookThrough_33 : decode cX12_lookThrough 33 = .ok (.iload_n 3, 1) := by decide +kernel
theorem dX12_lookThrough_34 : decode cX12_lookThrough 34 = .ok (.ifCond .eq 128, 3) := by decide +kernel
theorem dX12_lookThrough_37 : decode cX12_lookThrough 37 = .ok (.aload_n 0, 1) := by decide +kernel
theorem dX12_lookThrough_38 : decode cX12_lookThrough 38 = .ok (.aload_n 1, 1) := by decide +kernel
theorem dX12_lookThrough_39 : decode cX12_lookThrough 39 = .ok (.invokevirtual 172, 3) := by decide +kernel
theorem dX12_lookThrough_42 : decode cX12_lookThrough 42 = .ok (.ifCond .eq 106, 3) := by decide +kernel
theorem dX12_lookThrough_45 : decode cX12_lookThrough 45 = .ok (.iconst 0, 1) := by decide +kernel
theorem dX12_lookThrough_46 : decode cX12_lookThrough 46 = .ok (.istore 4, 2) := by decide +kernel
theorem dX12_lookThrough_48 : decode cX12_lookThrough 48 = .ok (.iconst 0, 1) := by decide +kernel
theorem dX12_lookThrough_49 : decode cX12_lookThrough 49 = .ok (.istore 5, 2) := by decide +kernel
theorem dX12_lookThrough_51 : decode cX12_lookThrough 51 = .ok (.iload 5, 2) := by decide +kernel
theorem dX12_lookThrough_53 : decode cX12_lookThrough 53 = .ok (.iconst 4, 1) := by decide +kernel
theorem dX12_lookThrough_54 : decode cX12_lookThrough 54 = .ok (.if_icmp .ge 55, 3) := by decide +kernel
theorem dX12_lookThrough_57 : decode cX12_lookThrough 57 = .ok (.iload 4, 2) := by decide +kernel
theorem dX12_lookThrough_59 : decode cX12_lookThrough 59 = .ok (.aload_n 0, 1) := by decide +kernel
theorem dX12_lookThrough_60 : decode cX12_lookThrough 60 = .ok (.getfield 44, 3) := by decide +kernel
theorem dX12_lookThrough_63 : decode cX12_lookThrough 63 = .ok (.iload 5, 2) := by decide +kernel
theorem dX12_lookThrough_65 : decode cX12_lookThrough 65 = .ok (.iaload, 1) := by decide +kernel
theorem dX12_lookThrough_66 : decode cX12_lookThrough 66 = .ok (.invokestatic 166, 3) := by decide +kernel
theorem dX12_lookThrough_69 : decode cX12_lookThrough 69 = .ok (.iadd, 1) := by decide +kernel
theorem dX12_lookThrough_70 : decode cX12_lookThrough 70 = .ok (.istore 4, 2) := by decide +kernel
theorem dX12_lookThrough_72 : decode cX12_lookThrough 72 = .ok (.aload_n 0, 1) := by decide +kernel
theorem dX12_lookThrough_73 : decode cX12_lookThrough 73 = .ok (.getfield 47, 3) := by decide +kernel
theorem dX12_lookThrough_76 : decode cX12_lookThrough 76 = .ok (.iload 5, 2) := by decide +kernel
theorem dX12_lookThrough_78 : decode cX12_lookThrough 78 = .ok (.aload_n 0, 1) := by decide +kernel
theorem dX12_lookThrough_79 : decode cX12_lookThrough 79 = .ok (.getfield 180, 3) := by decide +kernel
theorem dX12_lookThrough_82 : decode cX12_lookThrough 82 = .ok (.ifCond .ne 13, 3) := by decide +kernel
theorem dX12_lookThrough_85 : decode cX12_lookThrough 85 = .ok (.aload_n 0, 1) := by decide +kernel
theorem dX12_lookThrough_86 : decode cX12_lookThrough 86 = .ok (.getfield 44, 3) := by decide +kernel
theorem dX12_lookThrough_89 : decode cX12_lookThrough 89 = .ok (.iload 5, 2) := by decide +kernel
theorem dX12_lookThrough_91 : decode cX12_lookThrough 91 = .ok (.iaload, 1) := by decide +kernel
theorem dX12_lookThrough_92 : decode cX12_lookThrough 92 = .ok (.goto 10, 3) := by decide +kernel
theorem dX12_lookThrough_95 : decode cX12_lookThrough 95 = .ok (.aload_n 0, 1) := by decide +kernel
theorem dX12_lookThrough_96 : decode cX12_lookThrough 96 = .ok (.getfield 47, 3) := by decide +kernel
theorem dX12_lookThrough_99 : decode cX12_lookThrough 99 = .ok (.iload 5, 2) := by decide +kernel
theorem dX12_lookThrough_101 : decode cX12_lookThrough 101 = .ok (.iaload, 1) := by decide +kernel
theorem dX12_lookThrough_102 : decode cX12_lookThrough 102 = .ok (.iastore, 1) := by decide +kernel
theorem dX12_lookThrough_103 : decode cX12_lookThrough 103 = .ok (.iinc 5 1, 3) := by decide +kernel
theorem dX12_lookThrough_106 : decode cX12_lookThrough 106 = .ok (.goto (-55), 3) := by decide +kernel
theorem dX12_lookThrough_109 : decode cX12_lookThrough 109 = .ok (.aload_n 0, 1) := by decide +kernel
theorem dX12_lookThrough_110 : decode cX12_lookThrough 110 = .ok (.aload_n 0, 1) := by decide +kernel
theorem dX12_lookThrough_111 : decode cX12_lookThrough 111 = .ok (.getfield 180, 3) := by decide +kernel
theorem dX12_lookThrough_114 : decode cX12_lookThrough 114 = .ok (.ifCond .eq 12, 3) := by decide +kernel
theorem dX12_lookThrough_117 : decode cX12_lookThrough 117 = .ok (.iload 4, 2) := by decide +kernel
theorem dX12_lookThrough_119 : decode cX12_lookThrough 119 = .ok (.aload_n 0, 1) := by decide +kernel
theorem dX12_lookThrough_120 : decode cX12_lookThrough 120 = .ok (.getfield 183, 3) := by decide +kernel
theorem dX12_lookThrough_123 : decode cX12_lookThrough 123 = .ok (.if_icmp .ge 8, 3) := by decide +kernel
theorem dX12_lookThrough_126 : decode cX12_lookThrough 126 = .ok (.iload 4, 2) := by decide +kernel
theorem dX12_lookThrough_128 : decode cX12_lookThrough 128 = .ok (.goto 7, 3) := by decide +kernel
theorem dX12_lookThrough_131 : decode cX12_lookThrough 131 = .ok (.aload_n 0, 1) := by decide +kernel
theorem dX12_lookThrough_132 : decode cX12_lookThrough 132 = .ok (.getfield 183, 3) := by decide +kernel
theorem dX12_lookThrough_135 : decode cX12_lookThrough 135 = .ok (.putfield 183, 3) := by decide +kernel
theorem dX12_lookThrough_138 : decode cX12_lookThrough 138 = .ok (.aload_n 0, 1) := by decide +kernel
theorem dX12_lookThrough_139 : decode cX12_lookThrough 139 = .ok (.dup, 1) := by decide +kernel
theorem dX12_lookThrough_140 : decode cX12_lookThrough 140 = .ok (.getfield 180, 3) := by decide +kernel
theorem dX12_lookThrough_143 : decode cX12_lookThrough 143 = .ok (.iconst 1, 1) := by decide +kernel
theorem dX12_lookThrough_144 : decode cX12_lookThrough 144 = .ok (.iadd, 1) := by decide +kernel
theorem dX12_lookThrough_145 : decode cX12_lookThrough 145 = .ok (.putfield 180, 3) := by decide +kernel
theorem dX12_lookThrough_148 : decode cX12_lookThrough 148 = .ok (.aload_n 0, 1) := by decide +kernel
theorem dX12_lookThrough_149 : decode cX12_lookThrough 149 = .ok (.aload_n 1, 1) := by decide +kernel
theorem dX12_lookThrough_150 : decode cX12_lookThrough 150 = .ok (.iconst 2, 1) := by decide +kernel
theorem dX12_lookThrough_151 : decode cX12_lookThrough 151 = .ok (.iload_n 2, 1) := by decide +kernel
theorem dX12_lookThrough_152 : decode cX12_lookThrough 152 = .ok (.ishl, 1) := by decide +kernel
theorem dX12_lookThrough_153 : decode cX12_lookThrough 153 = .ok (.iconst 1, 1) := by decide +kernel
theorem dX12_lookThrough_154 : decode cX12_lookThrough 154 = .ok (.isub, 1) := by decide +kernel
theorem dX12_lookThrough_155 : decode cX12_lookThrough 155 = .ok (.invokevirtual 186, 3) := by decide +kernel
theorem dX12_lookThrough_158 : decode cX12_lookThrough 158 = .ok (.istore_n 3, 1) := by decide +kernel
theorem dX12_lookThrough_159 : decode cX12_lookThrough 159 = .ok (.goto (-126), 3) := by decide +kernel
theorem dX12_lookThrough_162 : decode cX12_lookThrough 162 = .ok (.return_, 1) := by decide +kernel
theorem dX12_countSolutions_0 : decode cX12_countSolutions 0 = .ok (.iload_n 1, 1) := by decide +kernel
theorem dX12_countSolutions_1 : decode cX12_countSolutions 1 = .ok (.i2l, 1) := by decide +kernel
theorem dX12_countSolutions_2 : decode cX12_countSolutions 2 = .ok (.lconst 0, 1) := by decide +kernel
theorem dX12_countSolutions_3 : decode cX12_countSolutions 3 = .ok (.ldc2_w 89, 3) := by decide +kernel
theorem dX12_countSolutions_6 : decode cX12_countSolutions 6 = .ok (.invokestatic 85, 3) := by decide +kernel
theorem dX12_countSolutions_9 : decode cX12_countSolutions 9 = .ok (.ifCond .ne 6, 3) := by decide +kernel
theorem dX12_countSolutions_12 : decode cX12_countSolutions 12 = .ok (.bipush (-2), 2) := by decide +kernel
theorem dX12_countSolutions_14 : decode cX12_countSolutions 14 = .ok (.ireturn, 1) := by decide +kernel
theorem dX12_countSolutions_15 : decode cX12_countSolutions 15 = .ok (.aload_n 0, 1) := by decide +kernel
theorem dX12_countSolutions_16 : decode cX12_countSolutions 16 = .ok (.aload_n 0, 1) := by decide +kernel
theorem dX12_countSolutions_17 : decode cX12_countSolutions 17 = .ok (.getfield 13, 3) := by decide +kernel
theorem dX12_countSolutions_20 : decode cX12_countSolutions 20 = .ok (.iload_n 1, 1) := by decide +kernel
theorem dX12_countSolutions_21 : decode cX12_countSolutions 21 = .ok (.invokevirtual 189, 3) := by decide +kernel
theorem dX12_countSolutions_24 : decode cX12_countSolutions 24 = .ok (.aload_n 0, 1) := by decide +kernel
theorem dX12_countSolutions_25 : decode cX12_countSolutions 25 = .ok (.getfield 180, 3) := by decide +kernel
theorem dX12_countSolutions_28 : decode cX12_countSolutions 28 = .ok (.ireturn, 1) := by decide +kernel
theorem dX12_firstSolution_0 : decode cX12_firstSolution 0 = .ok (.iload_n 2, 1) := by decide +kernel
theorem dX12_firstSolution_1 : decode cX12_firstSolution 1 = .ok (.invokestatic 133, 3) := by decide +kernel
theorem dX12_firstSolution_4 : decode cX12_firstSolution 4 = .ok (.ifCond .ne 5, 3) := by decide +kernel
theorem dX12_firstSolution_7 : decode cX12_firstSolution 7 = .ok (.iconst (-1), 1) := by decide +kernel
theorem dX12_firstSolution_8 : decode cX12_firstSolution 8 = .ok (.ireturn, 1) := by decide +kernel
theorem dX12_firstSolution_9 : decode cX12_firstSolution 9 = .ok (.iload_n 1, 1) := by decide +kernel
theorem dX12_firstSolution_10 : decode cX12_firstSolution 10 = .ok (.i2l, 1) := by decide +kernel
theorem dX12_firstSolution_11 : decode cX12_firstSolution 11 = .ok (.lconst 0, 1) := by decide +kernel
theorem dX12_firstSolution_12 : decode cX12_firstSolution 12 = .ok (.ldc2_w 89, 3) := by decide +kernel
theorem dX12_firstSolution_15 : decode cX12_firstSolution 15 = .ok (.invokestatic 85, 3) := by decide +kernel
theorem dX12_firstSolution_18 : decode cX12_firstSolution 18 = .ok (.ifCond .ne 6, 3) := by decide +kernel
theorem dX12_firstSolution_21 : decode cX12_firstSolution 21 = .ok (.bipush (-2), 2) := by decide +kernel
theorem dX12_firstSolution_23 : decode cX12_firstSolution 23 = .ok (.ireturn, 1) := by decide +kernel
theorem dX12_firstSolution_24 : decode cX12_firstSolution 24 = .ok (.aload_n 0, 1) := by decide +kernel
theorem dX12_firstSolution_25 : decode cX12_firstSolution 25 = .ok (.aload_n 0, 1) := by decide +kernel
theorem dX12_firstSolution_26 : decode cX12_firstSolution 26 = .ok (.getfield 13, 3) := by decide +kernel
theorem dX12_firstSolution_29 : decode cX12_firstSolution 29 = .ok (.iload_n 1, 1) := by decide +kernel
theorem dX12_firstSolution_30 : decode cX12_firstSolution 30 = .ok (.invokevirtual 189, 3) := by decide +kernel
theorem dX12_firstSolution_33 : decode cX12_firstSolution 33 = .ok (.aload_n 0, 1) := by decide +kernel
theorem dX12_firstSolution_34 : decode cX12_firstSolution 34 = .ok (.getfield 180, 3) := by decide +kernel
theorem dX12_firstSolution_37 : decode cX12_firstSolution 37 = .ok (.ifCond .ne 8, 3) := by decide +kernel
theorem dX12_firstSolution_40 : decode cX12_firstSolution 40 = .ok (.bipush (-9), 2) := by decide +kernel
theorem dX12_firstSolution_42 : decode cX12_firstSolution 42 = .ok (.goto 9, 3) := by decide +kernel
theorem dX12_firstSolution_45 : decode cX12_firstSolution 45 = .ok (.aload_n 0, 1) := by decide +kernel
theorem dX12_firstSolution_46 : decode cX12_firstSolution 46 = .ok (.getfield 47, 3) := by decide +kernel
theorem dX12_firstSolution_49 : decode cX12_firstSolution 49 = .ok (.iload_n 2, 1) := by decide +kernel
theorem dX12_firstSolution_50 : decode cX12_firstSolution 50 = .ok (.iaload, 1) := by decide +kernel
theorem dX12_firstSolution_51 : decode cX12_firstSolution 51 = .ok (.ireturn, 1) := by decide +kernel
theorem dX12_leastTotalLength_0 : decode cX12_leastTotalLength 0 = .ok (.iload_n 1, 1) := by decide +kernel
theorem dX12_leastTotalLength_1 : decode cX12_leastTotalLength 1 = .ok (.i2l, 1) := by decide +kernel
theorem dX12_leastTotalLength_2 : decode cX12_leastTotalLength 2 = .ok (.lconst 0, 1) := by decide +kernel
theorem dX12_leastTotalLength_3 : decode cX12_leastTotalLength 3 = .ok (.ldc2_w 89, 3) := by decide +kernel
theorem dX12_leastTotalLength_6 : decode cX12_leastTotalLength 6 = .ok (.invokestatic 85, 3) := by decide +kernel
theorem dX12_leastTotalLength_9 : decode cX12_leastTotalLength 9 = .ok (.ifCond .ne 6, 3) := by decide +kernel
theorem dX12_leastTotalLength_12 : decode cX12_leastTotalLength 12 = .ok (.bipush (-2), 2) := by decide +kernel
theorem dX12_leastTotalLength_14 : decode cX12_leastTotalLength 14 = .ok (.ireturn, 1) := by decide +kernel
theorem dX12_leastTotalLength_15 : decode cX12_leastTotalLength 15 = .ok (.aload_n 0, 1) := by decide +kernel
theorem dX12_leastTotalLength_16 : decode cX12_leastTotalLength 16 = .ok (.aload_n 0, 1) := by decide +kernel
theorem dX12_leastTotalLength_17 : decode cX12_leastTotalLength 17 = .ok (.getfield 13, 3) := by decide +kernel
theorem dX12_leastTotalLength_20 : decode cX12_leastTotalLength 20 = .ok (.iload_n 1, 1) := by decide +kernel
theorem dX12_leastTotalLength_21 : decode cX12_leastTotalLength 21 = .ok (.invokevirtual 189, 3) := by decide +kernel
theorem dX12_leastTotalLength_24 : decode cX12_leastTotalLength 24 = .ok (.aload_n 0, 1) := by decide +kernel
theorem dX12_leastTotalLength_25 : decode cX12_leastTotalLength 25 = .ok (.getfield 183, 3) := by decide +kernel
theorem dX12_leastTotalLength_28 : decode cX12_leastTotalLength 28 = .ok (.ireturn, 1) := by decide +kernel
theorem dX12_countLengths_0 : decode cX12_countLengths 0 = .ok (.iload_n 1, 1) := by decide +kernel
theorem dX12_countLengths_1 : decode cX12_countLengths 1 = .ok (.i2l, 1) := by decide +kernel
theorem dX12_countLengths_2 : decode cX12_countLengths 2 = .ok (.lconst 0, 1) := by decide +kernel
theorem dX12_countLengths_3 : decode cX12_countLengths 3 = .ok (.ldc2_w 192, 3) := by decide +kernel
theorem dX12_countLengths_6 : decode cX12_countLengths 6 = .ok (.invokestatic 85, 3) := by decide +kernel
theorem dX12_countLengths_9 : decode cX12_countLengths 9 = .ok (.ifCond .ne 6, 3) := by decide +kernel
theorem dX12_countLengths_12 : decode cX12_countLengths 12 = .ok (.bipush (-2), 2) := by decide +kernel
theorem dX12_countLengths_14 : decode cX12_countLengths 14 = .ok (.ireturn, 1) := by decide +kernel
theorem dX12_countLengths_15 : decode cX12_countLengths 15 = .ok (.aload_n 0, 1) := by decide +kernel
theorem dX12_countLengths_16 : decode cX12_countLengths 16 = .ok (.getfield 13, 3) := by decide +kernel
theorem dX12_countLengths_19 : decode cX12_countLengths 19 = .ok (.iconst 0, 1) := by decide +kernel
theorem dX12_countLengths_20 : decode cX12_countLengths 20 = .ok (.iconst 0, 1) := by decide +kernel
theorem dX12_countLengths_21 : decode cX12_countLengths 21 = .ok (.invokestatic 137, 3) := by decide +kernel
theorem dX12_countLengths_24 : decode cX12_countLengths 24 = .ok (.aload_n 0, 1) := by decide +kernel
theorem dX12_countLengths_25 : decode cX12_countLengths 25 = .ok (.getfield 13, 3) := by decide +kernel
theorem dX12_countLengths_28 : decode cX12_countLengths 28 = .ok (.iconst 0, 1) := by decide +kernel
theorem dX12_countLengths_29 : decode cX12_countLengths 29 = .ok (.iconst 1, 1) := by decide +kernel
theorem dX12_countLengths_30 : decode cX12_countLengths 30 = .ok (.invokestatic 137, 3) := by decide +kernel
theorem dX12_countLengths_33 : decode cX12_countLengths 33 = .ok (.iadd, 1) := by decide +kernel
theorem dX12_countLengths_34 : decode cX12_countLengths 34 = .ok (.aload_n 0, 1) := by decide +kernel
theorem dX12_countLengths_35 : decode cX12_countLengths 35 = .ok (.getfield 13, 3) := by decide +kernel
theorem dX12_countLengths_38 : decode cX12_countLengths 38 = .ok (.iconst 1, 1) := by decide +kernel
theorem dX12_countLengths_39 : decode cX12_countLengths 39 = .ok (.iconst 0, 1) := by decide +kernel
theorem dX12_countLengths_40 : decode cX12_countLengths 40 = .ok (.invokestatic 137, 3) := by decide +kernel
theorem dX12_countLengths_43 : decode cX12_countLengths 43 = .ok (.isub, 1) := by decide +kernel
theorem dX12_countLengths_44 : decode cX12_countLengths 44 = .ok (.aload_n 0, 1) := by decide +kernel
theorem dX12_countLengths_45 : decode cX12_countLengths 45 = .ok (.getfield 13, 3) := by decide +kernel
theorem dX12_countLengths_48 : decode cX12_countLengths 48 = .ok (.iconst 1, 1) := by decide +kernel
theorem dX12_countLengths_49 : decode cX12_countLengths 49 = .ok (.iconst 1, 1) := by decide +kernel
theorem dX12_countLengths_50 : decode cX12_countLengths 50 = .ok (.invokestatic 137, 3) := by decide +kernel
theorem dX12_countLengths_53 : decode cX12_countLengths 53 = .ok (.isub, 1) := by decide +kernel
theorem dX12_countLengths_54 : decode cX12_countLengths 54 = .ok (.istore_n 2, 1) := by decide +kernel
theorem dX12_countLengths_55 : decode cX12_countLengths 55 = .ok (.iconst 0, 1) := by decide +kernel
theorem dX12_countLengths_56 : decode cX12_countLengths 56 = .ok (.istore_n 3, 1) := by decide +kernel
theorem dX12_countLengths_57 : decode cX12_countLengths 57 = .ok (.iload_n 3, 1) := by decide +kernel
theorem dX12_countLengths_58 : decode cX12_countLengths 58 = .ok (.iconst 4, 1) := by decide +kernel
theorem dX12_countLengths_59 : decode cX12_countLengths 59 = .ok (.if_icmp .ge 16, 3) := by decide +kernel
theorem dX12_countLengths_62 : decode cX12_countLengths 62 = .ok (.aload_n 0, 1) := by decide +kernel
theorem dX12_countLengths_63 : decode cX12_countLengths 63 = .ok (.getfield 44, 3) := by decide +kernel
theorem dX12_countLengths_66 : decode cX12_countLengths 66 = .ok (.iload_n 3, 1) := by decide +kernel
theorem dX12_countLengths_67 : decode cX12_countLengths 67 = .ok (.iconst 0, 1) := by decide +kernel
theorem dX12_countLengths_68 : decode cX12_countLengths 68 = .ok (.iastore, 1) := by decide +kernel
theorem dX12_countLengths_69 : decode cX12_countLengths 69 = .ok (.iinc 3 1, 3) := by decide +kernel
theorem dX12_countLengths_72 : decode cX12_countLengths 72 = .ok (.goto (-15), 3) := by decide +kernel
theorem dX12_countLengths_75 : decode cX12_countLengths 75 = .ok (.iconst 0, 1) := by decide +kernel
theorem dX12_countLengths_76 : decode cX12_countLengths 76 = .ok (.istore_n 3, 1) := by decide +kernel
theorem dX12_countLengths_77 : decode cX12_countLengths 77 = .ok (.iconst 1, 1) := by decide +kernel
theorem dX12_countLengths_78 : decode cX12_countLengths 78 = .ok (.istore 4, 2) := by decide +kernel
theorem dX12_countLengths_80 : decode cX12_countLengths 80 = .ok (.iload 4, 2) := by decide +kernel
theorem dX12_countLengths_82 : decode cX12_countLengths 82 = .ok (.ifCond .eq 124, 3) := by decide +kernel
theorem dX12_countLengths_85 : decode cX12_countLengths 85 = .ok (.iload_n 2, 1) := by decide +kernel
theorem dX12_countLengths_86 : decode cX12_countLengths 86 = .ok (.istore 5, 2) := by decide +kernel
theorem dX12_countLengths_88 : decode cX12_countLengths 88 = .ok (.iconst 1, 1) := by decide +kernel
theorem dX12_countLengths_89 : decode cX12_countLengths 89 = .ok (.istore 6, 2) := by decide +kernel
theorem dX12_countLengths_91 : decode cX12_countLengths 91 = .ok (.iconst 0, 1) := by decide +kernel
theorem dX12_countLengths_92 : decode cX12_countLengths 92 = .ok (.istore 7, 2) := by decide +kernel
theorem dX12_countLengths_94 : decode cX12_countLengths 94 = .ok (.iload 7, 2) := by decide +kernel
theorem dX12_countLengths_96 : decode cX12_countLengths 96 = .ok (.iconst 4, 1) := by decide +kernel
theorem dX12_countLengths_97 : decode cX12_countLengths 97 = .ok (.if_icmp .ge 75, 3) := by decide +kernel
theorem dX12_countLengths_100 : decode cX12_countLengths 100 = .ok (.iload 5, 2) := by decide +kernel
theorem dX12_countLengths_102 : decode cX12_countLengths 102 = .ok (.aload_n 0, 1) := by decide +kernel
theorem dX12_countLengths_103 : decode cX12_countLengths 103 = .ok (.getfield 44, 3) := by decide +kernel
theorem dX12_countLengths_106 : decode cX12_countLengths 106 = .ok (.iload 7, 2) := by decide +kernel
theorem dX12_countLengths_108 : decode cX12_countLengths 108 = .ok (.iaload, 1) := by decide +kernel
theorem dX12_countLengths_109 : decode cX12_countLengths 109 = .ok (.aload_n 0, 1) := by decide +kernel
theorem dX12_countLengths_110 : decode cX12_countLengths 110 = .ok (.getfield 13, 3) := by decide +kernel
theorem dX12_countLengths_113 : decode cX12_countLengths 113 = .ok (.iconst 0, 1) := by decide +kernel
theorem dX12_countLengths_114 : decode cX12_countLengths 114 = .ok (.iload 7, 2) := by decide +kernel
theorem dX12_countLengths_116 : decode cX12_countLengths 116 = .ok (.iconst 2, 1) := by decide +kernel
theorem dX12_countLengths_117 : decode cX12_countLengths 117 = .ok (.iadd, 1) := by decide +kernel
theorem dX12_countLengths_118 : decode cX12_countLengths 118 = .ok (.invokestatic 137, 3) := by decide +kernel
theorem dX12_countLengths_121 : decode cX12_countLengths 121 = .ok (.aload_n 0, 1) := by decide +kernel
theorem dX12_countLengths_122 : decode cX12_countLengths 122 = .ok (.getfield 13, 3) := by decide +kernel
theorem dX12_countLengths_125 : decode cX12_countLengths 125 = .ok (.iconst 1, 1) := by decide +kernel
theorem dX12_countLengths_126 : decode cX12_countLengths 126 = .ok (.iload 7, 2) := by decide +kernel
theorem dX12_countLengths_128 : decode cX12_countLengths 128 = .ok (.iconst 2, 1) := by decide +kernel
theorem dX12_countLengths_129 : decode cX12_countLengths 129 = .ok (.iadd, 1) := by decide +kernel
theorem dX12_countLengths_130 : decode cX12_countLengths 130 = .ok (.invokestatic 137, 3) := by decide +kernel
theorem dX12_countLengths_133 : decode cX12_countLengths 133 = .ok (.isub, 1) := by decide +kernel
theorem dX12_countLengths_134 : decode cX12_countLengths 134 = .ok (.imul, 1) := by decide +kernel
theorem dX12_countLengths_135 : decode cX12_countLengths 135 = .ok (.iadd, 1) := by decide +kernel
theorem dX12_countLengths_136 : decode cX12_countLengths 136 = .ok (.istore 5, 2) := by decide +kernel
theorem dX12_countLengths_138 : decode cX12_countLengths 138 = .ok (.iload 6, 2) := by decide +kernel
theorem dX12_countLengths_140 : decode cX12_countLengths 140 = .ok (.ifCond .eq 23, 3) := by decide +kernel
theorem dX12_countLengths_143 : decode cX12_countLengths 143 = .ok (.aload_n 0, 1) := by decide +kernel
theorem dX12_countLengths_144 : decode cX12_countLengths 144 = .ok (.iload 7, 2) := by decide +kernel
theorem dX12_countLengths_146 : decode cX12_countLengths 146 = .ok (.aload_n 0, 1) := by decide +kernel
theorem dX12_countLengths_147 : decode cX12_countLengths 147 = .ok (.getfield 44, 3) := by decide +kernel
theorem dX12_countLengths_150 : decode cX12_countLengths 150 = .ok (.iload 7, 2) := by decide +kernel
theorem dX12_countLengths_152 : decode cX12_countLengths 152 = .ok (.iaload, 1) := by decide +kernel
theorem dX12_countLengths_153 : decode cX12_countLengths 153 = .ok (.invokevirtual 169, 3) := by decide +kernel
theorem dX12_countLengths_156 : decode cX12_countLengths 156 = .ok (.ifCond .eq 7, 3) := by decide +kernel
theorem dX12_countLengths_159 : decode cX12_countLengths 159 = .ok (.iconst 1, 1) := by decide +kernel
theorem dX12_countLengths_160 : decode cX12_countLengths 160 = .ok (.goto 4, 3) := by decide +kernel
theorem dX12_countLengths_163 : decode cX12_countLengths 163 = .ok (.iconst 0, 1) := by decide +kernel
theorem dX12_countLengths_164 : decode cX12_countLengths 164 = .ok (.istore 6, 2) := by decide +kernel
theorem dX12_countLengths_166 : decode cX12_countLengths 166 = .ok (.iinc 7 1, 3) := by decide +kernel
theorem dX12_countLengths_169 : decode cX12_countLengths 169 = .ok (.goto (-75), 3) := by decide +kernel
theorem dX12_countLengths_172 : decode cX12_countLengths 172 = .ok (.iload_n 3, 1) := by decide +kernel
theorem dX12_countLengths_173 : decode cX12_countLengths 173 = .ok (.iload 6, 2) := by decide +kernel
theorem dX12_countLengths_175 : decode cX12_countLengths 175 = .ok (.ifCond .eq 12, 3) := by decide +kernel
theorem dX12_countLengths_178 : decode cX12_countLengths 178 = .ok (.iload 5, 2) := by decide +kernel
theorem dX12_countLengths_180 : decode cX12_countLengths 180 = .ok (.ifCond .ne 7, 3) := by decide +kernel
theorem dX12_countLengths_183 : decode cX12_countLengths 183 = .ok (.iconst 1, 1) := by decide +kernel
theorem dX12_countLengths_184 : decode cX12_countLengths 184 = .ok (.goto 4, 3) := by decide +kernel
theorem dX12_countLengths_187 : decode cX12_countLengths 187 = .ok (.iconst 0, 1) := by decide +kernel
theorem dX12_countLengths_188 : decode cX12_countLengths 188 = .ok (.iadd, 1) := by decide +kernel
theorem dX12_countLengths_189 : decode cX12_countLengths 189 = .ok (.istore_n 3, 1) := by decide +kernel
theorem dX12_countLengths_190 : decode cX12_countLengths 190 = .ok (.aload_n 0, 1) := by decide +kernel
theorem dX12_countLengths_191 : decode cX12_countLengths 191 = .ok (.aload_n 0, 1) := by decide +kernel
theorem dX12_countLengths_192 : decode cX12_countLengths 192 = .ok (.getfield 13, 3) := by decide +kernel
theorem dX12_countLengths_195 : decode cX12_countLengths 195 = .ok (.iload_n 1, 1) := by decide +kernel
theorem dX12_countLengths_196 : decode cX12_countLengths 196 = .ok (.iconst 1, 1) := by decide +kernel
theorem dX12_countLengths_197 : decode cX12_countLengths 197 = .ok (.iadd, 1) := by decide +kernel
theorem dX12_countLengths_198 : decode cX12_countLengths 198 = .ok (.invokevirtual 186, 3) := by decide +kernel
theorem dX12_countLengths_201 : decode cX12_countLengths 201 = .ok (.istore 4, 2) := by decide +kernel
theorem dX12_countLengths_203 : decode cX12_countLengths 203 = .ok (.goto (-123), 3) := by decide +kernel
theorem dX12_countLengths_206 : decode cX12_countLengths 206 = .ok (.iload_n 3, 1) := by decide +kernel
theorem dX12_countLengths_207 : decode cX12_countLengths 207 = .ok (.ireturn, 1) := by decide +kernel
theorem dX12_refutedByCounting_0 : decode cX12_refutedByCounting 0 = .ok (.iconst 1, 1) := by decide +kernel
theorem dX12_refutedByCounting_1 : decode cX12_refutedByCounting 1 = .ok (.istore_n 1, 1) := by decide +kernel
theorem dX12_refutedByCounting_2 : decode cX12_refutedByCounting 2 = .ok (.iconst 0, 1) := by decide +kernel
theorem dX12_refutedByCounting_3 : decode cX12_refutedByCounting 3 = .ok (.istore_n 2, 1) := by decide +kernel
theorem dX12_refutedByCounting_4 : decode cX12_refutedByCounting 4 = .ok (.iload_n 2, 1) := by decide +kernel
theorem dX12_refutedByCounting_5 : decode cX12_refutedByCounting 5 = .ok (.iconst 4, 1) := by decide +kernel
theorem dX12_refutedByCounting_6 : decode cX12_refutedByCounting 6 = .ok (.if_icmp .ge 44, 3) := by decide +kernel
theorem dX12_refutedByCounting_9 : decode cX12_refutedByCounting 9 = .ok (.iload_n 1, 1) := by decide +kernel
theorem dX12_refutedByCounting_10 : decode cX12_refutedByCounting 10 = .ok (.ifCond .eq 32, 3) := by decide +kernel
theorem dX12_refutedByCounting_13 : decode cX12_refutedByCounting 13 = .ok (.aload_n 0, 1) := by decide +kernel
theorem dX12_refutedByCounting_14 : decode cX12_refutedByCounting 14 = .ok (.getfield 13, 3) := by decide +kernel
theorem dX12_refutedByCounting_17 : decode cX12_refutedByCounting 17 = .ok (.iconst 0, 1) := by decide +kernel
theorem dX12_refutedByCounting_18 : decode cX12_refutedByCounting 18 = .ok (.iload_n 2, 1) := by decide +kernel
theorem dX12_refutedByCounting_19 : decode cX12_refutedByCounting 19 = .ok (.iconst 2, 1) := by decide +kernel
theorem dX12_refutedByCounting_20 : decode cX12_refutedByCounting 20 = .ok (.iadd, 1) := by decide +kernel
theorem dX12_refutedByCounting_21 : decode cX12_refutedByCounting 21 = .ok (.invokestatic 137, 3) := by decide +kernel
theorem dX12_refutedByCounting_24 : decode cX12_refutedByCounting 24 = .ok (.aload_n 0, 1) := by decide +kernel
theorem dX12_refutedByCounting_25 : decode cX12_refutedByCounting 25 = .ok (.getfield 13, 3) := by decide +kernel
theorem dX12_refutedByCounting_28 : decode cX12_refutedByCounting 28 = .ok (.iconst 1, 1) := by decide +kernel
theorem dX12_refutedByCounting_29 : decode cX12_refutedByCounting 29 = .ok (.iload_n 2, 1) := by decide +kernel
theorem dX12_refutedByCounting_30 : decode cX12_refutedByCounting 30 = .ok (.iconst 2, 1) := by decide +kernel
theorem dX12_refutedByCounting_31 : decode cX12_refutedByCounting 31 = .ok (.iadd, 1) := by decide +kernel
theorem dX12_refutedByCounting_32 : decode cX12_refutedByCounting 32 = .ok (.invokestatic 137, 3) := by decide +kernel
theorem dX12_refutedByCounting_35 : decode cX12_refutedByCounting 35 = .ok (.if_icmp .ne 7, 3) := by decide +kernel
theorem dX12_refutedByCounting_38 : decode cX12_refutedByCounting 38 = .ok (.iconst 1, 1) := by decide +kernel
theorem dX12_refutedByCounting_39 : decode cX12_refutedByCounting 39 = .ok (.goto 4, 3) := by decide +kernel
theorem dX12_refutedByCounting_42 : decode cX12_refutedByCounting 42 = .ok (.iconst 0, 1) := by decide +kernel
theorem dX12_refutedByCounting_43 : decode cX12_refutedByCounting 43 = .ok (.istore_n 1, 1) := by decide +kernel
theorem dX12_refutedByCounting_44 : decode cX12_refutedByCounting 44 = .ok (.iinc 2 1, 3) := by decide +kernel
theorem dX12_refutedByCounting_47 : decode cX12_refutedByCounting 47 = .ok (.goto (-43), 3) := by decide +kernel
theorem dX12_refutedByCounting_50 : decode cX12_refutedByCounting 50 = .ok (.aload_n 0, 1) := by decide +kernel
theorem dX12_refutedByCounting_51 : decode cX12_refutedByCounting 51 = .ok (.getfield 13, 3) := by decide +kernel
theorem dX12_refutedByCounting_54 : decode cX12_refutedByCounting 54 = .ok (.iconst 0, 1) := by decide +kernel
theorem dX12_refutedByCounting_55 : decode cX12_refutedByCounting 55 = .ok (.iconst 0, 1) := by decide +kernel
theorem dX12_refutedByCounting_56 : decode cX12_refutedByCounting 56 = .ok (.invokestatic 137, 3) := by decide +kernel
theorem dX12_refutedByCounting_59 : decode cX12_refutedByCounting 59 = .ok (.aload_n 0, 1) := by decide +kernel
theorem dX12_refutedByCounting_60 : decode cX12_refutedByCounting 60 = .ok (.getfield 13, 3) := by decide +kernel
theorem dX12_refutedByCounting_63 : decode cX12_refutedByCounting 63 = .ok (.iconst 1, 1) := by decide +kernel
theorem dX12_refutedByCounting_64 : decode cX12_refutedByCounting 64 = .ok (.iconst 0, 1) := by decide +kernel
theorem dX12_refutedByCounting_65 : decode cX12_refutedByCounting 65 = .ok (.invokestatic 137, 3) := by decide +kernel
theorem dX12_refutedByCounting_68 : decode cX12_refutedByCounting 68 = .ok (.if_icmp .ne 24, 3) := by decide +kernel
theorem dX12_refutedByCounting_71 : decode cX12_refutedByCounting 71 = .ok (.aload_n 0, 1) := by decide +kernel
theorem dX12_refutedByCounting_72 : decode cX12_refutedByCounting 72 = .ok (.getfield 13, 3) := by decide +kernel
theorem dX12_refutedByCounting_75 : decode cX12_refutedByCounting 75 = .ok (.iconst 0, 1) := by decide +kernel
theorem dX12_refutedByCounting_76 : decode cX12_refutedByCounting 76 = .ok (.iconst 1, 1) := by decide +kernel
theorem dX12_refutedByCounting_77 : decode cX12_refutedByCounting 77 = .ok (.invokestatic 137, 3) := by decide +kernel
theorem dX12_refutedByCounting_80 : decode cX12_refutedByCounting 80 = .ok (.aload_n 0, 1) := by decide +kernel
theorem dX12_refutedByCounting_81 : decode cX12_refutedByCounting 81 = .ok (.getfield 13, 3) := by decide +kernel
theorem dX12_refutedByCounting_84 : decode cX12_refutedByCounting 84 = .ok (.iconst 1, 1) := by decide +kernel
theorem dX12_refutedByCounting_85 : decode cX12_refutedByCounting 85 = .ok (.iconst 1, 1) := by decide +kernel
theorem dX12_refutedByCounting_86 : decode cX12_refutedByCounting 86 = .ok (.invokestatic 137, 3) := by decide +kernel
theorem dX12_refutedByCounting_89 : decode cX12_refutedByCounting 89 = .ok (.if_icmp .eq 7, 3) := by decide +kernel
theorem dX12_refutedByCounting_92 : decode cX12_refutedByCounting 92 = .ok (.iconst 1, 1) := by decide +kernel
theorem dX12_refutedByCounting_93 : decode cX12_refutedByCounting 93 = .ok (.goto 4, 3) := by decide +kernel
theorem dX12_refutedByCounting_96 : decode cX12_refutedByCounting 96 = .ok (.iconst 0, 1) := by decide +kernel
theorem dX12_refutedByCounting_97 : decode cX12_refutedByCounting 97 = .ok (.istore_n 2, 1) := by decide +kernel
theorem dX12_refutedByCounting_98 : decode cX12_refutedByCounting 98 = .ok (.iload_n 1, 1) := by decide +kernel
theorem dX12_refutedByCounting_99 : decode cX12_refutedByCounting 99 = .ok (.ifCond .eq 11, 3) := by decide +kernel
theorem dX12_refutedByCounting_102 : decode cX12_refutedByCounting 102 = .ok (.iload_n 2, 1) := by decide +kernel
theorem dX12_refutedByCounting_103 : decode cX12_refutedByCounting 103 = .ok (.ifCond .eq 7, 3) := by decide +kernel
theorem dX12_refutedByCounting_106 : decode cX12_refutedByCounting 106 = .ok (.iconst 1, 1) := by decide +kernel
theorem dX12_refutedByCounting_107 : decode cX12_refutedByCounting 107 = .ok (.goto 4, 3) := by decide +kernel
theorem dX12_refutedByCounting_110 : decode cX12_refutedByCounting 110 = .ok (.iconst 0, 1) := by decide +kernel
theorem dX12_refutedByCounting_111 : decode cX12_refutedByCounting 111 = .ok (.ireturn, 1) := by decide +kernel
theorem dX12_layNode_0 : decode cX12_layNode 0 = .ok (.iconst 0, 1) := by decide +kernel
theorem dX12_layNode_1 : decode cX12_layNode 1 = .ok (.istore_n 3, 1) := by decide +kernel
theorem dX12_layNode_2 : decode cX12_layNode 2 = .ok (.iload_n 3, 1) := by decide +kernel
theorem dX12_layNode_3 : decode cX12_layNode 3 = .ok (.bipush 26, 2) := by decide +kernel
theorem dX12_layNode_5 : decode cX12_layNode 5 = .ok (.if_icmp .ge 23, 3) := by decide +kernel
theorem dX12_layNode_8 : decode cX12_layNode 8 = .ok (.aload_n 2, 1) := by decide +kernel
theorem dX12_layNode_9 : decode cX12_layNode 9 = .ok (.iload_n 3, 1) := by decide +kernel
theorem dX12_layNode_10 : decode cX12_layNode 10 = .ok (.aload_n 0, 1) := by decide +kernel
theorem dX12_layNode_11 : decode cX12_layNode 11 = .ok (.getfield 50, 3) := by decide +kernel
theorem dX12_layNode_14 : decode cX12_layNode 14 = .ok (.bipush 26, 2) := by decide +kernel
theorem dX12_layNode_16 : decode cX12_layNode 16 = .ok (.iload_n 1, 1) := by decide +kernel
theorem dX12_layNode_17 : decode cX12_layNode 17 = .ok (.imul, 1) := by decide +kernel
theorem dX12_layNode_18 : decode cX12_layNode 18 = .ok (.iload_n 3, 1) := by decide +kernel
theorem dX12_layNode_19 : decode cX12_layNode 19 = .ok (.iadd, 1) := by decide +kernel
theorem dX12_layNode_20 : decode cX12_layNode 20 = .ok (.iaload, 1) := by decide +kernel
theorem dX12_layNode_21 : decode cX12_layNode 21 = .ok (.iastore, 1) := by decide +kernel
theorem dX12_layNode_22 : decode cX12_layNode 22 = .ok (.iinc 3 1, 3) := by decide +kernel
theorem dX12_layNode_25 : decode cX12_layNode 25 = .ok (.goto (-23), 3) := by decide +kernel
theorem dX12_layNode_28 : decode cX12_layNode 28 = .ok (.return_, 1) := by decide +kernel
theorem dX12_layChild_0 : decode cX12_layChild 0 = .ok (.iconst 0, 1) := by decide +kernel
theorem dX12_layChild_1 : decode cX12_layChild 1 = .ok (.istore_n 2, 1) := by decide +kernel
theorem dX12_layChild_2 : decode cX12_layChild 2 = .ok (.iload_n 2, 1) := by decide +kernel
theorem dX12_layChild_3 : decode cX12_layChild 3 = .ok (.bipush 26, 2) := by decide +kernel
theorem dX12_layChild_5 : decode cX12_layChild 5 = .ok (.if_icmp .ge 16, 3) := by decide +kernel
theorem dX12_layChild_8 : decode cX12_layChild 8 = .ok (.aload_n 0, 1) := by decide +kernel
theorem dX12_layChild_9 : decode cX12_layChild 9 = .ok (.getfield 59, 3) := by decide +kernel
theorem dX12_layChild_12 : decode cX12_layChild 12 = .ok (.iload_n 2, 1) := by decide +kernel
theorem dX12_layChild_13 : decode cX12_layChild 13 = .ok (.iconst 0, 1) := by decide +kernel
theorem dX12_layChild_14 : decode cX12_layChild 14 = .ok (.iastore, 1) := by decide +kernel
theorem dX12_layChild_15 : decode cX12_layChild 15 = .ok (.iinc 2 1, 3) := by decide +kernel
theorem dX12_layChild_18 : decode cX12_layChild 18 = .ok (.goto (-16), 3) := by decide +kernel
theorem dX12_layChild_21 : decode cX12_layChild 21 = .ok (.aload_n 0, 1) := by decide +kernel
theorem dX12_layChild_22 : decode cX12_layChild 22 = .ok (.iconst 1, 1) := by decide +kernel
theorem dX12_layChild_23 : decode cX12_layChild 23 = .ok (.putfield 194, 3) := by decide +kernel
theorem dX12_layChild_26 : decode cX12_layChild 26 = .ok (.aload_n 0, 1) := by decide +kernel
theorem dX12_layChild_27 : decode cX12_layChild 27 = .ok (.getfield 16, 3) := by decide +kernel
theorem dX12_layChild_30 : decode cX12_layChild 30 = .ok (.iconst 0, 1) := by decide +kernel
theorem dX12_layChild_31 : decode cX12_layChild 31 = .ok (.iaload, 1) := by decide +kernel
theorem dX12_layChild_32 : decode cX12_layChild 32 = .ok (.ifCond .le 16, 3) := by decide +kernel
theorem dX12_layChild_35 : decode cX12_layChild 35 = .ok (.aload_n 0, 1) := by decide +kernel
theorem dX12_layChild_36 : decode cX12_layChild 36 = .ok (.getfield 16, 3) := by decide +kernel
theorem dX12_layChild_39 : decode cX12_layChild 39 = .ok (.iconst 0, 1) := by decide +kernel
theorem dX12_layChild_40 : decode cX12_layChild 40 = .ok (.iconst 0, 1) := by decide +kernel
theorem dX12_layChild_41 : decode cX12_layChild 41 = .ok (.invokestatic 111, 3) := by decide +kernel
theorem dX12_layChild_44 : decode cX12_layChild 44 = .ok (.iaload, 1) := by decide +kernel
theorem dX12_layChild_45 : decode cX12_layChild 45 = .ok (.goto 5, 3) := by decide +kernel
theorem dX12_layChild_48 : decode cX12_layChild 48 = .ok (.bipush (-9), 2) := by decide +kernel
theorem dX12_layChild_50 : decode cX12_layChild 50 = .ok (.istore_n 2, 1) := by decide +kernel
theorem dX12_layChild_51 : decode cX12_layChild 51 = .ok (.aload_n 0, 1) := by decide +kernel
theorem dX12_layChild_52 : decode cX12_layChild 52 = .ok (.getfield 16, 3) := by decide +kernel
theorem dX12_layChild_55 : decode cX12_layChild 55 = .ok (.iconst 1, 1) := by decide +kernel
theorem dX12_layChild_56 : decode cX12_layChild 56 = .ok (.iaload, 1) := by decide +kernel
theorem dX12_layChild_57 : decode cX12_layChild 57 = .ok (.ifCond .le 16, 3) := by decide +kernel
theorem dX12_layChild_60 : decode cX12_layChild 60 = .ok (.aload_n 0, 1) := by decide +kernel
theorem dX12_layChild_61 : decode cX12_layChild 61 = .ok (.getfield 16, 3) := by decide +kernel
theorem dX12_layChild_64 : decode cX12_layChild 64 = .ok (.iconst 1, 1) := by decide +kernel
theorem dX12_layChild_65 : decode cX12_layChild 65 = .ok (.iconst 0, 1) := by decide +kernel
theorem dX12_layChild_66 : decode cX12_layChild 66 = .ok (.invokestatic 111, 3) := by decide +kernel
theorem dX12_layChild_69 : decode cX12_layChild 69 = .ok (.iaload, 1) := by decide +kernel
theorem dX12_layChild_70 : decode cX12_layChild 70 = .ok (.goto 5, 3) := by decide +kernel
theorem dX12_layChild_73 : decode cX12_layChild 73 = .ok (.bipush (-9), 2) := by decide +kernel
theorem dX12_layChild_75 : decode cX12_layChild 75 = .ok (.istore_n 3, 1) := by decide +kernel
theorem dX12_layChild_76 : decode cX12_layChild 76 = .ok (.iload_n 1, 1) := by decide +kernel
theorem dX12_layChild_77 : decode cX12_layChild 77 = .ok (.iconst 1, 1) := by decide +kernel
theorem dX12_layChild_78 : decode cX12_layChild 78 = .ok (.if_icmp .eq 8, 3) := by decide +kernel
theorem dX12_layChild_81 : decode cX12_layChild 81 = .ok (.iload_n 1, 1) := by decide +kernel
theorem dX12_layChild_82 : decode cX12_layChild 82 = .ok (.iconst 3, 1) := by decide +kernel
theorem dX12_layChild_83 : decode cX12_layChild 83 = .ok (.if_icmp .ne 7, 3) := by decide +kernel
theorem dX12_layChild_86 : decode cX12_layChild 86 = .ok (.iload_n 2, 1) := by decide +kernel
theorem dX12_layChild_87 : decode cX12_layChild 87 = .ok (.goto 4, 3) := by decide +kernel
theorem dX12_layChild_90 : decode cX12_layChild 90 = .ok (.iload_n 3, 1) := by decide +kernel
theorem dX12_layChild_91 : decode cX12_layChild 91 = .ok (.istore 4, 2) := by decide +kernel
theorem dX12_layChild_93 : decode cX12_layChild 93 = .ok (.iload_n 1, 1) := by decide +kernel
theorem dX12_layChild_94 : decode cX12_layChild 94 = .ok (.iconst 3, 1) := by decide +kernel
theorem dX12_layChild_95 : decode cX12_layChild 95 = .ok (.if_icmp .ne 7, 3) := by decide +kernel
theorem dX12_layChild_98 : decode cX12_layChild 98 = .ok (.iload_n 3, 1) := by decide +kernel
theorem dX12_layChild_99 : decode cX12_layChild 99 = .ok (.goto 4, 3) := by decide +kernel
theorem dX12_layChild_102 : decode cX12_layChild 102 = .ok (.iload_n 2, 1) := by decide +kernel
theorem dX12_layChild_103 : decode cX12_layChild 103 = .ok (.istore 5, 2) := by decide +kernel
theorem dX12_layChild_105 : decode cX12_layChild 105 = .ok (.iconst 0, 1) := by decide +kernel
theorem dX12_layChild_106 : decode cX12_layChild 106 = .ok (.istore 6, 2) := by decide +kernel
theorem dX12_layChild_108 : decode cX12_layChild 108 = .ok (.iload 6, 2) := by decide +kernel
theorem dX12_layChild_110 : decode cX12_layChild 110 = .ok (.iconst 2, 1) := by decide +kernel
theorem dX12_layChild_111 : decode cX12_layChild 111 = .ok (.if_icmp .ge 239, 3) := by decide +kernel
theorem dX12_layChild_114 : decode cX12_layChild 114 = .ok (.iconst 0, 1) := by decide +kernel
theorem dX12_layChild_115 : decode cX12_layChild 115 = .ok (.istore 7, 2) := by decide +kernel
theorem dX12_layChild_117 : decode cX12_layChild 117 = .ok (.iconst 0, 1) := by decide +kernel
theorem dX12_layChild_118 : decode cX12_layChild 118 = .ok (.istore 8, 2) := by decide +kernel
theorem dX12_layChild_120 : decode cX12_layChild 120 = .ok (.iload 8, 2) := by decide +kernel
theorem dX12_layChild_122 : decode cX12_layChild 122 = .ok (.aload_n 0, 1) := by decide +kernel
theorem dX12_layChild_123 : decode cX12_layChild 123 = .ok (.getfield 16, 3) := by decide +kernel
theorem dX12_layChild_126 : decode cX12_layChild 126 = .ok (.iload 6, 2) := by decide +kernel
theorem dX12_layChild_128 : decode cX12_layChild 128 = .ok (.iaload, 1) := by decide +kernel
theorem dX12_layChild_129 : decode cX12_layChild 129 = .ok (.if_icmp .ge 166, 3) := by decide +kernel
theorem dX12_layChild_132 : decode cX12_layChild 132 = .ok (.aload_n 0, 1) := by decide +kernel
theorem dX12_layChild_133 : decode cX12_layChild 133 = .ok (.getfield 16, 3) := by decide +kernel
theorem dX12_layChild_136 : decode cX12_layChild 136 = .ok (.iload 6, 2) := by decide +kernel
theorem dX12_layChild_138 : decode cX12_layChild 138 = .ok (.iload 8, 2) := by decide +kernel
theorem dX12_layChild_140 : decode cX12_layChild 140 = .ok (.invokestatic 111, 3) := by decide +kernel
theorem dX12_layChild_143 : decode cX12_layChild 143 = .ok (.iaload, 1) := by decide +kernel
theorem dX12_layChild_144 : decode cX12_layChild 144 = .ok (.istore 9, 2) := by decide +kernel
theorem dX12_layChild_146 : decode cX12_layChild 146 = .ok (.iload 9, 2) := by decide +kernel
theorem dX12_layChild_148 : decode cX12_layChild 148 = .ok (.iload 4, 2) := by decide +kernel
theorem dX12_layChild_150 : decode cX12_layChild 150 = .ok (.if_icmp .ne 7, 3) := by decide +kernel
theorem dX12_layChild_153 : decode cX12_layChild 153 = .ok (.iconst 1, 1) := by decide +kernel
theorem dX12_layChild_154 : decode cX12_layChild 154 = .ok (.goto 4, 3) := by decide +kernel
theorem dX12_layChild_157 : decode cX12_layChild 157 = .ok (.iconst 0, 1) := by decide +kernel
theorem dX12_layChild_158 : decode cX12_layChild 158 = .ok (.istore 10, 2) := by decide +kernel
theorem dX12_layChild_160 : decode cX12_layChild 160 = .ok (.iload_n 1, 1) := by decide +kernel
theorem dX12_layChild_161 : decode cX12_layChild 161 = .ok (.ifCond .ne 16, 3) := by decide +kernel
theorem dX12_layChild_164 : decode cX12_layChild 164 = .ok (.iload 8, 2) := by decide +kernel
theorem dX12_layChild_166 : decode cX12_layChild 166 = .ok (.ifCond .ne 7, 3) := by decide +kernel
theorem dX12_layChild_169 : decode cX12_layChild 169 = .ok (.iconst 0, 1) := by decide +kernel
theorem dX12_layChild_170 : decode cX12_layChild 170 = .ok (.goto 35, 3) := by decide +kernel
theorem dX12_layChild_173 : decode cX12_layChild 173 = .ok (.iconst 1, 1) := by decide +kernel
theorem dX12_layChild_174 : decode cX12_layChild 174 = .ok (.goto 31, 3) := by decide +kernel
theorem dX12_layChild_177 : decode cX12_layChild 177 = .ok (.iload_n 1, 1) := by decide +kernel
theorem dX12_layChild_178 : decode cX12_layChild 178 = .ok (.iconst 3, 1) := by decide +kernel
theorem dX12_layChild_179 : decode cX12_layChild 179 = .ok (.if_icmp .ge 16, 3) := by decide +kernel
theorem dX12_layChild_182 : decode cX12_layChild 182 = .ok (.iload 10, 2) := by decide +kernel
theorem dX12_layChild_184 : decode cX12_layChild 184 = .ok (.ifCond .eq 7, 3) := by decide +kernel
theorem dX12_layChild_187 : decode cX12_layChild 187 = .ok (.iconst 0, 1) := by decide +kernel
theorem dX12_layChild_188 : decode cX12_layChild 188 = .ok (.goto 17, 3) := by decide +kernel
theorem dX12_layChild_191 : decode cX12_layChild 191 = .ok (.iconst 1, 1) := by decide +kernel
theorem dX12_layChild_192 : decode cX12_layChild 192 = .ok (.goto 13, 3) := by decide +kernel
theorem dX12_layChild_195 : decode cX12_layChild 195 = .ok (.iload 10, 2) := by decide +kernel
theorem dX12_layChild_197 : decode cX12_layChild 197 = .ok (.ifCond .eq 7, 3) := by decide +kernel
theorem dX12_layChild_200 : decode cX12_layChild 200 = .ok (.iconst 2, 1) := by decide +kernel
theorem dX12_layChild_201 : decode cX12_layChild 201 = .ok (.goto 4, 3) := by decide +kernel
theorem dX12_layChild_204 : decode cX12_layChild 204 = .ok (.iconst 1, 1) := by decide +kernel
theorem dX12_layChild_205 : decode cX12_layChild 205 = .ok (.istore 11, 2) := by decide +kernel
theorem dX12_layChild_207 : decode cX12_layChild 207 = .ok (.iconst 0, 1) := by decide +kernel
theorem dX12_layChild_208 : decode cX12_layChild 208 = .ok (.istore 12, 2) := by decide +kernel
theorem dX12_layChild_210 : decode cX12_layChild 210 = .ok (.iload 12, 2) := by decide +kernel
theorem dX12_layChild_212 : decode cX12_layChild 212 = .ok (.iload 11, 2) := by decide +kernel
theorem dX12_layChild_214 : decode cX12_layChild 214 = .ok (.if_icmp .ge 75, 3) := by decide +kernel
theorem dX12_layChild_217 : decode cX12_layChild 217 = .ok (.iload_n 1, 1) := by decide +kernel
theorem dX12_layChild_218 : decode cX12_layChild 218 = .ok (.iconst 2, 1) := by decide +kernel
theorem dX12_layChild_219 : decode cX12_layChild 219 = .ok (.if_icmp .le 10, 3) := by decide +kernel
theorem dX12_layChild_222 : decode cX12_layChild 222 = .ok (.iload 7, 2) := by decide +kernel
theorem dX12_layChild_224 : decode cX12_layChild 224 = .ok (.iconst 1, 1) := by decide +kernel
theorem dX12_layChild_225 : decode cX12_layChild 225 = .ok (.isub, 1) := by decide +kernel
theorem dX12_layChild_226 : decode cX12_layChild 226 = .ok (.goto 5, 3) := by decide +kernel
theorem dX12_layChild_229 : decode cX12_layChild 229 = .ok (.iload 7, 2) := by decide +kernel
theorem dX12_layChild_231 : decode cX12_layChild 231 = .ok (.istore 13, 2) := by decide +kernel
theorem dX12_layChild_233 : decode cX12_layChild 233 = .ok (.iload 11, 2) := by decide +kernel
theorem dX12_layChild_235 : decode cX12_layChild 235 = .ok (.iconst 2, 1) := by decide +kernel
theorem dX12_layChild_236 : decode cX12_layChild 236 = .ok (.if_icmp .ne 13, 3) := by decide +kernel
theorem dX12_layChild_239 : decode cX12_layChild 239 = .ok (.iload 12, 2) := by decide +kernel
theorem dX12_layChild_241 : decode cX12_layChild 241 = .ok (.ifCond .ne 8, 3) := by decide +kernel
theorem dX12_layChild_244 : decode cX12_layChild 244 = .ok (.iload 5, 2) := by decide +kernel
theorem dX12_layChild_246 : decode cX12_layChild 246 = .ok (.goto 5, 3) := by decide +kernel
theorem dX12_layChild_249 : decode cX12_layChild 249 = .ok (.iload 9, 2) := by decide +kernel
theorem dX12_layChild_251 : decode cX12_layChild 251 = .ok (.istore 14, 2) := by decide +kernel
theorem dX12_layChild_253 : decode cX12_layChild 253 = .ok (.iload 13, 2) := by decide +kernel
theorem dX12_layChild_255 : decode cX12_layChild 255 = .ok (.i2l, 1) := by decide +kernel
theorem dX12_layChild_256 : decode cX12_layChild 256 = .ok (.lconst 0, 1) := by decide +kernel
theorem dX12_layChild_257 : decode cX12_layChild 257 = .ok (.ldc2_w 198, 3) := by decide +kernel
theorem dX12_layChild_260 : decode cX12_layChild 260 = .ok (.invokestatic 85, 3) := by decide +kernel
theorem dX12_layChild_263 : decode cX12_layChild 263 = .ok (.ifCond .eq 17, 3) := by decide +kernel
theorem dX12_layChild_266 : decode cX12_layChild 266 = .ok (.aload_n 0, 1) := by decide +kernel
theorem dX12_layChild_267 : decode cX12_layChild 267 = .ok (.getfield 59, 3) := by decide +kernel
theorem dX12_layChild_270 : decode cX12_layChild 270 = .ok (.iload 6, 2) := by decide +kernel
theorem dX12_layChild_272 : decode cX12_layChild 272 = .ok (.iload 13, 2) := by decide +kernel
theorem dX12_layChild_274 : decode cX12_layChild 274 = .ok (.invokestatic 111, 3) := by decide +kernel
theorem dX12_layChild_277 : decode cX12_layChild 277 = .ok (.iload 14, 2) := by decide +kernel
theorem dX12_layChild_279 : decode cX12_layChild 279 = .ok (.iastore, 1) := by decide +kernel
theorem dX12_layChild_280 : decode cX12_layChild 280 = .ok (.iinc 7 1, 3) := by decide +kernel
theorem dX12_layChild_283 : decode cX12_layChild 283 = .ok (.iinc 12 1, 3) := by decide +kernel
theorem dX12_layChild_286 : decode cX12_layChild 286 = .ok (.goto (-76), 3) := by decide +kernel
theorem dX12_layChild_289 : decode cX12_layChild 289 = .ok (.iinc 8 1, 3) := by decide +kernel
theorem dX12_layChild_292 : decode cX12_layChild 292 = .ok (.goto (-172), 3) := by decide +kernel
theorem dX12_layChild_295 : decode cX12_layChild 295 = .ok (.aload_n 0, 1) := by decide +kernel
theorem dX12_layChild_296 : decode cX12_layChild 296 = .ok (.getfield 59, 3) := by decide +kernel
theorem dX12_layChild_299 : decode cX12_layChild 299 = .ok (.iload 6, 2) := by decide +kernel
theorem dX12_layChild_301 : decode cX12_layChild 301 = .ok (.iload_n 1, 1) := by decide +kernel
theorem dX12_layChild_302 : decode cX12_layChild 302 = .ok (.iconst 2, 1) := by decide +kernel
theorem dX12_layChild_303 : decode cX12_layChild 303 = .ok (.if_icmp .le 10, 3) := by decide +kernel
theorem dX12_layChild_306 : decode cX12_layChild 306 = .ok (.iload 7, 2) := by decide +kernel
theorem dX12_layChild_308 : decode cX12_layChild 308 = .ok (.iconst 1, 1) := by decide +kernel
theorem dX12_layChild_309 : decode cX12_layChild 309 = .ok (.isub, 1) := by decide +kernel
theorem dX12_layChild_310 : decode cX12_layChild 310 = .ok (.goto 5, 3) := by decide +kernel
theorem dX12_layChild_313 : decode cX12_layChild 313 = .ok (.iload 7, 2) := by decide +kernel
theorem dX12_layChild_315 : decode cX12_layChild 315 = .ok (.iastore, 1) := by decide +kernel
theorem dX12_layChild_316 : decode cX12_layChild 316 = .ok (.aload_n 0, 1) := by decide +kernel
theorem dX12_layChild_317 : decode cX12_layChild 317 = .ok (.aload_n 0, 1) := by decide +kernel
theorem dX12_layChild_318 : decode cX12_layChild 318 = .ok (.getfield 194, 3) := by decide +kernel
theorem dX12_layChild_321 : decode cX12_layChild 321 = .ok (.ifCond .eq 19, 3) := by decide +kernel
theorem dX12_layChild_324 : decode cX12_layChild 324 = .ok (.aload_n 0, 1) := by decide +kernel
theorem dX12_layChild_325 : decode cX12_layChild 325 = .ok (.getfield 59, 3) := by decide +kernel
theorem dX12_layChild_328 : decode cX12_layChild 328 = .ok (.iload 6, 2) := by decide +kernel
theorem dX12_layChild_330 : decode cX12_layChild 330 = .ok (.iaload, 1) := by decide +kernel
theorem dX12_layChild_331 : decode cX12_layChild 331 = .ok (.bipush 12, 2) := by decide +kernel
theorem dX12_layChild_333 : decode cX12_layChild 333 = .ok (.if_icmp .gt 7, 3) := by decide +kernel
theorem dX12_layChild_336 : decode cX12_layChild 336 = .ok (.iconst 1, 1) := by decide +kernel
theorem dX12_layChild_337 : decode cX12_layChild 337 = .ok (.goto 4, 3) := by decide +kernel
theorem dX12_layChild_340 : decode cX12_layChild 340 = .ok (.iconst 0, 1) := by decide +kernel
theorem dX12_layChild_341 : decode cX12_layChild 341 = .ok (.putfield 194, 3) := by decide +kernel
theorem dX12_layChild_344 : decode cX12_layChild 344 = .ok (.iinc 6 1, 3) := by decide +kernel
theorem dX12_layChild_347 : decode cX12_layChild 347 = .ok (.goto (-239), 3) := by decide +kernel
theorem dX12_layChild_350 : decode cX12_layChild 350 = .ok (.return_, 1) := by decide +kernel
theorem dX12_sameNode_0 : decode cX12_sameNode 0 = .ok (.iconst 0, 1) := by decide +kernel
theorem dX12_sameNode_1 : decode cX12_sameNode 1 = .ok (.istore_n 1, 1) := by decide +kernel
theorem dX12_sameNode_2 : decode cX12_sameNode 2 = .ok (.iload_n 1, 1) := by decide +kernel
theorem dX12_sameNode_3 : decode cX12_sameNode 3 = .ok (.aload_n 0, 1) := by decide +kernel
theorem dX12_sameNode_4 : decode cX12_sameNode 4 = .ok (.getfield 200, 3) := by decide +kernel
theorem dX12_sameNode_7 : decode cX12_sameNode 7 = .ok (.if_icmp .ge 61, 3) := by decide +kernel
theorem dX12_sameNode_10 : decode cX12_sameNode 10 = .ok (.iconst 1, 1) := by decide +kernel
theorem dX12_sameNode_11 : decode cX12_sameNode 11 = .ok (.istore_n 2, 1) := by decide +kernel
theorem dX12_sameNode_12 : decode cX12_sameNode 12 = .ok (.iconst 0, 1) := by decide +kernel
theorem dX12_sameNode_13 : decode cX12_sameNode 13 = .ok (.istore_n 3, 1) := by decide +kernel
theorem dX12_sameNode_14 : decode cX12_sameNode 14 = .ok (.iload_n 3, 1) := by decide +kernel
theorem dX12_sameNode_15 : decode cX12_sameNode 15 = .ok (.bipush 26, 2) := by decide +kernel
theorem dX12_sameNode_17 : decode cX12_sameNode 17 = .ok (.if_icmp .ge 39, 3) := by decide +kernel
theorem dX12_sameNode_20 : decode cX12_sameNode 20 = .ok (.iload_n 2, 1) := by decide +kernel
theorem dX12_sameNode_21 : decode cX12_sameNode 21 = .ok (.ifCond .eq 35, 3) := by decide +kernel
theorem dX12_sameNode_24 : decode cX12_sameNode 24 = .ok (.aload_n 0, 1) := by decide +kernel
theorem dX12_sameNode_25 : decode cX12_sameNode 25 = .ok (.getfield 50, 3) := by decide +kernel
theorem dX12_sameNode_28 : decode cX12_sameNode 28 = .ok (.bipush 26, 2) := by decide +kernel
theorem dX12_sameNode_30 : decode cX12_sameNode 30 = .ok (.iload_n 1, 1) := by decide +kernel
theorem dX12_sameNode_31 : decode cX12_sameNode 31 = .ok (.imul, 1) := by decide +kernel
theorem dX12_sameNode_32 : decode cX12_sameNode 32 = .ok (.iload_n 3, 1) := by decide +kernel
theorem dX12_sameNode_33 : decode cX12_sameNode 33 = .ok (.iadd, 1) := by decide +kernel
theorem dX12_sameNode_34 : decode cX12_sameNode 34 = .ok (.iaload, 1) := by decide +kernel
theorem dX12_sameNode_35 : decode cX12_sameNode 35 = .ok (.aload_n 0, 1) := by decide +kernel
theorem dX12_sameNode_36 : decode cX12_sameNode 36 = .ok (.getfield 59, 3) := by decide +kernel
theorem dX12_sameNode_39 : decode cX12_sameNode 39 = .ok (.iload_n 3, 1) := by decide +kernel
theorem dX12_sameNode_40 : decode cX12_sameNode 40 = .ok (.iaload, 1) := by decide +kernel
theorem dX12_sameNode_41 : decode cX12_sameNode 41 = .ok (.if_icmp .ne 7, 3) := by decide +kernel
theorem dX12_sameNode_44 : decode cX12_sameNode 44 = .ok (.iconst 1, 1) := by decide +kernel
theorem dX12_sameNode_45 : decode cX12_sameNode 45 = .ok (.goto 4, 3) := by decide +kernel
theorem dX12_sameNode_48 : decode cX12_sameNode 48 = .ok (.iconst 0, 1) := by decide +kernel
theorem dX12_sameNode_49 : decode cX12_sameNode 49 = .ok (.istore_n 2, 1) := by decide +kernel
theorem dX12_sameNode_50 : decode cX12_sameNode 50 = .ok (.iinc 3 1, 3) := by decide +kernel
theorem dX12_sameNode_53 : decode cX12_sameNode 53 = .ok (.goto (-39), 3) := by decide +kernel
theorem dX12_sameNode_56 : decode cX12_sameNode 56 = .ok (.iload_n 2, 1) := by decide +kernel
theorem dX12_sameNode_57 : decode cX12_sameNode 57 = .ok (.ifCond .eq 5, 3) := by decide +kernel
theorem dX12_sameNode_60 : decode cX12_sameNode 60 = .ok (.iload_n 1, 1) := by decide +kernel
theorem dX12_sameNode_61 : decode cX12_sameNode 61 = .ok (.ireturn, 1) := by decide +kernel
theorem dX12_sameNode_62 : decode cX12_sameNode 62 = .ok (.iinc 1 1, 3) := by decide +kernel
theorem dX12_sameNode_65 : decode cX12_sameNode 65 = .ok (.goto (-63), 3) := by decide +kernel
theorem dX12_sameNode_68 : decode cX12_sameNode 68 = .ok (.bipush (-9), 2) := by decide +kernel
theorem dX12_sameNode_70 : decode cX12_sameNode 70 = .ok (.ireturn, 1) := by decide +kernel
theorem dX12_addChild_0 : decode cX12_addChild 0 = .ok (.aload_n 0, 1) := by decide +kernel
theorem dX12_addChild_1 : decode cX12_addChild 1 = .ok (.iload_n 2, 1) := by decide +kernel
theorem dX12_addChild_2 : decode cX12_addChild 2 = .ok (.invokevirtual 203, 3) := by decide +kernel
theorem dX12_addChild_5 : decode cX12_addChild 5 = .ok (.aload_n 0, 1) := by decide +kernel
theorem dX12_addChild_6 : decode cX12_addChild 6 = .ok (.getfield 194, 3) := by decide +kernel
theorem dX12_addChild_9 : decode cX12_addChild 9 = .ok (.ifCond .ne 11, 3) := by decide +kernel
theorem dX12_addChild_12 : decode cX12_addChild 12 = .ok (.aload_n 0, 1) := by decide +kernel
theorem dX12_addChild_13 : decode cX12_addChild 13 = .ok (.iconst 1, 1) := by decide +kernel
theorem dX12_addChild_14 : decode cX12_addChild 14 = .ok (.putfield 207, 3) := by decide +kernel
theorem dX12_addChild_17 : decode cX12_addChild 17 = .ok (.goto 125, 3) := by decide +kernel
theorem dX12_addChild_20 : decode cX12_addChild 20 = .ok (.aload_n 0, 1) := by decide +kernel
theorem dX12_addChild_21 : decode cX12_addChild 21 = .ok (.invokevirtual 210, 3) := by decide +kernel
theorem dX12_addChild_24 : decode cX12_addChild 24 = .ok (.bipush (-9), 2) := by decide +kernel
theorem dX12_addChild_26 : decode cX12_addChild 26 = .ok (.if_icmp .ne 116, 3) := by decide +kernel
theorem dX12_addChild_29 : decode cX12_addChild 29 = .ok (.aload_n 0, 1) := by decide +kernel
theorem dX12_addChild_30 : decode cX12_addChild 30 = .ok (.getfield 200, 3) := by decide +kernel
theorem dX12_addChild_33 : decode cX12_addChild 33 = .ok (.sipush 200, 3) := by decide +kernel
theorem dX12_addChild_36 : decode cX12_addChild 36 = .ok (.if_icmp .ne 11, 3) := by decide +kernel
theorem dX12_addChild_39 : decode cX12_addChild 39 = .ok (.aload_n 0, 1) := by decide +kernel
theorem dX12_addChild_40 : decode cX12_addChild 40 = .ok (.iconst 1, 1) := by decide +kernel
theorem dX12_addChild_41 : decode cX12_addChild 41 = .ok (.putfield 207, 3) := by decide +kernel
theorem dX12_addChild_44 : decode cX12_addChild 44 = .ok (.goto 98, 3) := by decide +kernel
theorem dX12_addChild_47 : decode cX12_addChild 47 = .ok (.iconst 0, 1) := by decide +kernel
theorem dX12_addChild_48 : decode cX12_addChild 48 = .ok (.istore_n 3, 1) := by decide +kernel
theorem dX12_addChild_49 : decode cX12_addChild 49 = .ok (.iload_n 3, 1) := by decide +kernel
theorem dX12_addChild_50 : decode cX12_addChild 50 = .ok (.bipush 26, 2) := by decide +kernel
theorem dX12_addChild_52 : decode cX12_addChild 52 = .ok (.if_icmp .ge 29, 3) := by decide +kernel
theorem dX12_addChild_55 : decode cX12_addChild 55 = .ok (.aload_n 0, 1) := by decide +kernel
theorem dX12_addChild_56 : decode cX12_addChild 56 = .ok (.getfield 50, 3) := by decide +kernel
theorem dX12_addChild_59 : decode cX12_addChild 59 = .ok (.bipush 26, 2) := by decide +kernel
theorem dX12_addChild_61 : decode cX12_addChild 61 = .ok (.aload_n 0, 1) := by decide +kernel
theorem dX12_addChild_62 : decode cX12_addChild 62 = .ok (.getfield 200, 3) := by decide +kernel
theorem dX12_addChild_65 : decode cX12_addChild 65 = .ok (.imul, 1) := by decide +kernel
theorem dX12_addChild_66 : decode cX12_addChild 66 = .ok (.iload_n 3, 1) := by decide +kernel
theorem dX12_addChild_67 : decode cX12_addChild 67 = .ok (.iadd, 1) := by decide +kernel
theorem dX12_addChild_68 : decode cX12_addChild 68 = .ok (.aload_n 0, 1) := by decide +kernel
theorem dX12_addChild_69 : decode cX12_addChild 69 = .ok (.getfield 59, 3) := by decide +kernel
theorem dX12_addChild_72 : decode cX12_addChild 72 = .ok (.iload_n 3, 1) := by decide +kernel
theorem dX12_addChild_73 : decode cX12_addChild 73 = .ok (.iaload, 1) := by decide +kernel
theorem dX12_addChild_74 : decode cX12_addChild 74 = .ok (.iastore, 1) := by decide +kernel
theorem dX12_addChild_75 : decode cX12_addChild 75 = .ok (.iinc 3 1, 3) := by decide +kernel
theorem dX12_addChild_78 : decode cX12_addChild 78 = .ok (.goto (-29), 3) := by decide +kernel
theorem dX12_addChild_81 : decode cX12_addChild 81 = .ok (.aload_n 0, 1) := by decide +kernel
theorem dX12_addChild_82 : decode cX12_addChild 82 = .ok (.getfield 53, 3) := by decide +kernel
theorem dX12_addChild_85 : decode cX12_addChild 85 = .ok (.aload_n 0, 1) := by decide +kernel
theorem dX12_addChild_86 : decode cX12_addChild 86 = .ok (.getfield 200, 3) := by decide +kernel
theorem dX12_addChild_89 : decode cX12_addChild 89 = .ok (.iload_n 1, 1) := by decide +kernel
theorem dX12_addChild_90 : decode cX12_addChild 90 = .ok (.iastore, 1) := by decide +kernel
theorem dX12_addChild_91 : decode cX12_addChild 91 = .ok (.aload_n 0, 1) := by decide +kernel
theorem dX12_addChild_92 : decode cX12_addChild 92 = .ok (.getfield 56, 3) := by decide +kernel
theorem dX12_addChild_95 : decode cX12_addChild 95 = .ok (.aload_n 0, 1) := by decide +kernel
theorem dX12_addChild_96 : decode cX12_addChild 96 = .ok (.getfield 200, 3) := by decide +kernel
theorem dX12_addChild_99 : decode cX12_addChild 99 = .ok (.iload_n 2, 1) := by decide +kernel
theorem dX12_addChild_100 : decode cX12_addChild 100 = .ok (.iastore, 1) := by decide +kernel
theorem dX12_addChild_101 : decode cX12_addChild 101 = .ok (.aload_n 0, 1) := by decide +kernel
theorem dX12_addChild_102 : decode cX12_addChild 102 = .ok (.aload_n 0, 1) := by decide +kernel
theorem dX12_addChild_103 : decode cX12_addChild 103 = .ok (.getfield 59, 3) := by decide +kernel
theorem dX12_addChild_106 : decode cX12_addChild 106 = .ok (.iconst 0, 1) := by decide +kernel
theorem dX12_addChild_107 : decode cX12_addChild 107 = .ok (.iaload, 1) := by decide +kernel
theorem dX12_addChild_108 : decode cX12_addChild 108 = .ok (.aload_n 0, 1) := by decide +kernel
theorem dX12_addChild_109 : decode cX12_addChild 109 = .ok (.getfield 59, 3) := by decide +kernel
theorem dX12_addChild_112 : decode cX12_addChild 112 = .ok (.iconst 1, 1) := by decide +kernel
theorem dX12_addChild_113 : decode cX12_addChild 113 = .ok (.iaload, 1) := by decide +kernel
theorem dX12_addChild_114 : decode cX12_addChild 114 = .ok (.iadd, 1) := by decide +kernel
theorem dX12_addChild_115 : decode cX12_addChild 115 = .ok (.ifCond .ne 10, 3) := by decide +kernel
theorem dX12_addChild_118 : decode cX12_addChild 118 = .ok (.aload_n 0, 1) := by decide +kernel
theorem dX12_addChild_119 : decode cX12_addChild 119 = .ok (.getfield 200, 3) := by decide +kernel
theorem dX12_addChild_122 : decode cX12_addChild 122 = .ok (.goto 7, 3) := by decide +kernel
theorem dX12_addChild_125 : decode cX12_addChild 125 = .ok (.aload_n 0, 1) := by decide +kernel
theorem dX12_addChild_126 : decode cX12_addChild 126 = .ok (.getfield 213, 3) := by decide +kernel
theorem dX12_addChild_129 : decode cX12_addChild 129 = .ok (.putfield 213, 3) := by decide +kernel
theorem dX12_addChild_132 : decode cX12_addChild 132 = .ok (.aload_n 0, 1) := by decide +kernel
theorem dX12_addChild_133 : decode cX12_addChild 133 = .ok (.dup, 1) := by decide +kernel
theorem dX12_addChild_134 : decode cX12_addChild 134 = .ok (.getfield 200, 3) := by decide +kernel
theorem dX12_addChild_137 : decode cX12_addChild 137 = .ok (.iconst 1, 1) := by decide +kernel
theorem dX12_addChild_138 : decode cX12_addChild 138 = .ok (.iadd, 1) := by decide +kernel
theorem dX12_addChild_139 : decode cX12_addChild 139 = .ok (.putfield 200, 3) := by decide +kernel
theorem dX12_addChild_142 : decode cX12_addChild 142 = .ok (.return_, 1) := by decide +kernel
theorem dX12_applies_0 : decode cX12_applies 0 = .ok (.aload_n 0, 1) := by decide +kernel
theorem dX12_applies_1 : decode cX12_applies 1 = .ok (.getfield 16, 3) := by decide +kernel
theorem dX12_applies_4 : decode cX12_applies 4 = .ok (.iconst 0, 1) := by decide +kernel
theorem dX12_applies_5 : decode cX12_applies 5 = .ok (.iaload, 1) := by decide +kernel
theorem dX12_applies_6 : decode cX12_applies 6 = .ok (.ifCond .le 16, 3) := by decide +kernel
theorem dX12_applies_9 : decode cX12_applies 9 = .ok (.aload_n 0, 1) := by decide +kernel
theorem dX12_applies_10 : decode cX12_applies 10 = .ok (.getfield 16, 3) := by decide +kernel
theorem dX12_applies_13 : decode cX12_applies 13 = .ok (.iconst 1, 1) := by decide +kernel
theorem dX12_applies_14 : decode cX12_applies 14 = .ok (.iaload, 1) := by decide +kernel
theorem dX12_applies_15 : decode cX12_applies 15 = .ok (.ifCond .le 7, 3) := by decide +kernel
theorem dX12_applies_18 : decode cX12_applies 18 = .ok (.iconst 1, 1) := by decide +kernel
theorem dX12_applies_19 : decode cX12_applies 19 = .ok (.goto 4, 3) := by decide +kernel
theorem dX12_applies_22 : decode cX12_applies 22 = .ok (.iconst 0, 1) := by decide +kernel
theorem dX12_applies_23 : decode cX12_applies 23 = .ok (.istore_n 2, 1) := by decide +kernel
theorem dX12_applies_24 : decode cX12_applies 24 = .ok (.iload_n 2, 1) := by decide +kernel
theorem dX12_applies_25 : decode cX12_applies 25 = .ok (.ifCond .eq 30, 3) := by decide +kernel
theorem dX12_applies_28 : decode cX12_applies 28 = .ok (.aload_n 0, 1) := by decide +kernel
theorem dX12_applies_29 : decode cX12_applies 29 = .ok (.getfield 16, 3) := by decide +kernel
theorem dX12_applies_32 : decode cX12_applies 32 = .ok (.iconst 0, 1) := by decide +kernel
theorem dX12_applies_33 : decode cX12_applies 33 = .ok (.iconst 0, 1) := by decide +kernel
theorem dX12_applies_34 : decode cX12_applies 34 = .ok (.invokestatic 111, 3) := by decide +kernel
theorem dX12_applies_37 : decode cX12_applies 37 = .ok (.iaload, 1) := by decide +kernel
theorem dX12_applies_38 : decode cX12_applies 38 = .ok (.aload_n 0, 1) := by decide +kernel
theorem dX12_applies_39 : decode cX12_applies 39 = .ok (.getfield 16, 3) := by decide +kernel
theorem dX12_applies_42 : decode cX12_applies 42 = .ok (.iconst 1, 1) := by decide +kernel
theorem dX12_applies_43 : decode cX12_applies 43 = .ok (.iconst 0, 1) := by decide +kernel
theorem dX12_applies_44 : decode cX12_applies 44 = .ok (.invokestatic 111, 3) := by decide +kernel
theorem dX12_applies_47 : decode cX12_applies 47 = .ok (.iaload, 1) := by decide +kernel
theorem dX12_applies_48 : decode cX12_applies 48 = .ok (.if_icmp .ne 7, 3) := by decide +kernel
theorem dX12_applies_51 : decode cX12_applies 51 = .ok (.iconst 1, 1) := by decide +kernel
theorem dX12_applies_52 : decode cX12_applies 52 = .ok (.goto 4, 3) := by decide +kernel
theorem dX12_applies_55 : decode cX12_applies 55 = .ok (.iconst 0, 1) := by decide +kernel
theorem dX12_applies_56 : decode cX12_applies 56 = .ok (.istore_n 3, 1) := by decide +kernel
theorem dX12_applies_57 : decode cX12_applies 57 = .ok (.aload_n 0, 1) := by decide +kernel
theorem dX12_applies_58 : decode cX12_applies 58 = .ok (.getfield 16, 3) := by decide +kernel
theorem dX12_applies_61 : decode cX12_applies 61 = .ok (.iconst 0, 1) := by decide +kernel
theorem dX12_applies_62 : decode cX12_applies 62 = .ok (.iaload, 1) := by decide +kernel
theorem dX12_applies_63 : decode cX12_applies 63 = .ok (.ifCond .le 21, 3) := by decide +kernel
theorem dX12_applies_66 : decode cX12_applies 66 = .ok (.aload_n 0, 1) := by decide +kernel
theorem dX12_applies_67 : decode cX12_applies 67 = .ok (.getfield 16, 3) := by decide +kernel
theorem dX12_applies_70 : decode cX12_applies 70 = .ok (.iconst 0, 1) := by decide +kernel
theorem dX12_applies_71 : decode cX12_applies 71 = .ok (.iconst 0, 1) := by decide +kernel
theorem dX12_applies_72 : decode cX12_applies 72 = .ok (.invokestatic 111, 3) := by decide +kernel
theorem dX12_applies_75 : decode cX12_applies 75 = .ok (.iaload, 1) := by decide +kernel
theorem dX12_applies_76 : decode cX12_applies 76 = .ok (.iconst 1, 1) := by decide +kernel
theorem dX12_applies_77 : decode cX12_applies 77 = .ok (.if_icmp .le 7, 3) := by decide +kernel
theorem dX12_applies_80 : decode cX12_applies 80 = .ok (.iconst 1, 1) := by decide +kernel
theorem dX12_applies_81 : decode cX12_applies 81 = .ok (.goto 4, 3) := by decide +kernel
theorem dX12_applies_84 : decode cX12_applies 84 = .ok (.iconst 0, 1) := by decide +kernel
theorem dX12_applies_85 : decode cX12_applies 85 = .ok (.istore 4, 2) := by decide +kernel
theorem dX12_applies_87 : decode cX12_applies 87 = .ok (.aload_n 0, 1) := by decide +kernel
theorem dX12_applies_88 : decode cX12_applies 88 = .ok (.getfield 16, 3) := by decide +kernel
theorem dX12_applies_91 : decode cX12_applies 91 = .ok (.iconst 1, 1) := by decide +kernel
theorem dX12_applies_92 : decode cX12_applies 92 = .ok (.iaload, 1) := by decide +kernel
theorem dX12_applies_93 : decode cX12_applies 93 = .ok (.ifCond .le 21, 3) := by decide +kernel
theorem dX12_applies_96 : decode cX12_applies 96 = .ok (.aload_n 0, 1) := by decide +kernel
theorem dX12_applies_97 : decode cX12_applies 97 = .ok (.getfield 16, 3) := by decide +kernel
theorem dX12_applies_100 : decode cX12_applies 100 = .ok (.iconst 1, 1) := by decide +kernel
theorem dX12_applies_101 : decode cX12_applies 101 = .ok (.iconst 0, 1) := by decide +kernel
theorem dX12_applies_102 : decode cX12_applies 102 = .ok (.invokestatic 111, 3) := by decide +kernel
theorem dX12_applies_105 : decode cX12_applies 105 = .ok (.iaload, 1) := by decide +kernel
theorem dX12_applies_106 : decode cX12_applies 106 = .ok (.iconst 1, 1) := by decide +kernel
theorem dX12_applies_107 : decode cX12_applies 107 = .ok (.if_icmp .le 7, 3) := by decide +kernel
theorem dX12_applies_110 : decode cX12_applies 110 = .ok (.iconst 1, 1) := by decide +kernel
theorem dX12_applies_111 : decode cX12_applies 111 = .ok (.goto 4, 3) := by decide +kernel
theorem dX12_applies_114 : decode cX12_applies 114 = .ok (.iconst 0, 1) := by decide +kernel
theorem dX12_applies_115 : decode cX12_applies 115 = .ok (.istore 5, 2) := by decide +kernel
theorem dX12_applies_117 : decode cX12_applies 117 = .ok (.iload_n 1, 1) := by decide +kernel
theorem dX12_applies_118 : decode cX12_applies 118 = .ok (.tableswitch 81 0 3 #[30, 32, 47, 62], 30) := by decide +kernel
theorem dX12_applies_148 : decode cX12_applies 148 = .ok (.iload_n 3, 1) := by decide +kernel
theorem dX12_applies_149 : decode cX12_applies 149 = .ok (.ireturn, 1) := by decide +kernel
theorem dX12_applies_150 : decode cX12_applies 150 = .ok (.iload_n 3, 1) := by decide +kernel
theorem dX12_applies_151 : decode cX12_applies 151 = .ok (.ifCond .ne 12, 3) := by decide +kernel
theorem dX12_applies_154 : decode cX12_applies 154 = .ok (.iload 4, 2) := by decide +kernel
theorem dX12_applies_156 : decode cX12_applies 156 = .ok (.ifCond .eq 7, 3) := by decide +kernel
theorem dX12_applies_159 : decode cX12_applies 159 = .ok (.iconst 1, 1) := by decide +kernel
theorem dX12_applies_160 : decode cX12_applies 160 = .ok (.goto 4, 3) := by decide +kernel
theorem dX12_applies_163 : decode cX12_applies 163 = .ok (.iconst 0, 1) := by decide +kernel
theorem dX12_applies_164 : decode cX12_applies 164 = .ok (.ireturn, 1) := by decide +kernel
theorem dX12_applies_165 : decode cX12_applies 165 = .ok (.iload_n 3, 1) := by decide +kernel
theorem dX12_applies_166 : decode cX12_applies 166 = .ok (.ifCond .ne 12, 3) := by decide +kernel
theorem dX12_applies_169 : decode cX12_applies 169 = .ok (.iload 5, 2) := by decide +kernel
theorem dX12_applies_171 : decode cX12_applies 171 = .ok (.ifCond .eq 7, 3) := by decide +kernel
theorem dX12_applies_174 : decode cX12_applies 174 = .ok (.iconst 1, 1) := by decide +kernel
theorem dX12_applies_175 : decode cX12_applies 175 = .ok (.goto 4, 3) := by decide +kernel
theorem dX12_applies_178 : decode cX12_applies 178 = .ok (.iconst 0, 1) := by decide +kernel
theorem dX12_applies_179 : decode cX12_applies 179 = .ok (.ireturn, 1) := by decide +kernel
theorem dX12_applies_180 : decode cX12_applies 180 = .ok (.iload_n 3, 1) := by decide +kernel
theorem dX12_applies_181 : decode cX12_applies 181 = .ok (.ifCond .ne 16, 3) := by decide +kernel
theorem dX12_applies_184 : decode cX12_applies 184 = .ok (.iload 4, 2) := by decide +kernel
theorem dX12_applies_186 : decode cX12_applies 186 = .ok (.ifCond .eq 11, 3) := by decide +kernel
theorem dX12_applies_189 : decode cX12_applies 189 = .ok (.iload_n 2, 1) := by decide +kernel
theorem dX12_applies_190 : decode cX12_applies 190 = .ok (.ifCond .eq 7, 3) := by decide +kernel
theorem dX12_applies_193 : decode cX12_applies 193 = .ok (.iconst 1, 1) := by decide +kernel
theorem dX12_applies_194 : decode cX12_applies 194 = .ok (.goto 4, 3) := by decide +kernel
theorem dX12_applies_197 : decode cX12_applies 197 = .ok (.iconst 0, 1) := by decide +kernel
theorem dX12_applies_198 : decode cX12_applies 198 = .ok (.ireturn, 1) := by decide +kernel
theorem dX12_applies_199 : decode cX12_applies 199 = .ok (.iload_n 3, 1) := by decide +kernel
theorem dX12_applies_200 : decode cX12_applies 200 = .ok (.ifCond .ne 16, 3) := by decide +kernel
theorem dX12_applies_203 : decode cX12_applies 203 = .ok (.iload 5, 2) := by decide +kernel
theorem dX12_applies_205 : decode cX12_applies 205 = .ok (.ifCond .eq 11, 3) := by decide +kernel
theorem dX12_applies_208 : decode cX12_applies 208 = .ok (.iload_n 2, 1) := by decide +kernel
theorem dX12_applies_209 : decode cX12_applies 209 = .ok (.ifCond .eq 7, 3) := by decide +kernel
theorem dX12_applies_212 : decode cX12_applies 212 = .ok (.iconst 1, 1) := by decide +kernel
theorem dX12_applies_213 : decode cX12_applies 213 = .ok (.goto 4, 3) := by decide +kernel
theorem dX12_applies_216 : decode cX12_applies 216 = .ok (.iconst 0, 1) := by decide +kernel
theorem dX12_applies_217 : decode cX12_applies 217 = .ok (.ireturn, 1) := by decide +kernel
theorem dX12_search_0 : decode cX12_search 0 = .ok (.iconst 0, 1) := by decide +kernel
theorem dX12_search_1 : decode cX12_search 1 = .ok (.istore_n 2, 1) := by decide +kernel
theorem dX12_search_2 : decode cX12_search 2 = .ok (.iload_n 2, 1) := by decide +kernel
theorem dX12_search_3 : decode cX12_search 3 = .ok (.bipush 26, 2) := by decide +kernel
theorem dX12_search_5 : decode cX12_search 5 = .ok (.if_icmp .ge 18, 3) := by decide +kernel
theorem dX12_search_8 : decode cX12_search 8 = .ok (.aload_n 0, 1) := by decide +kernel
theorem dX12_search_9 : decode cX12_search 9 = .ok (.getfield 50, 3) := by decide +kernel
theorem dX12_search_12 : decode cX12_search 12 = .ok (.iload_n 2, 1) := by decide +kernel
theorem dX12_search_13 : decode cX12_search 13 = .ok (.aload_n 1, 1) := by decide +kernel
theorem dX12_search_14 : decode cX12_search 14 = .ok (.iload_n 2, 1) := by decide +kernel
theorem dX12_search_15 : decode cX12_search 15 = .ok (.iaload, 1) := by decide +kernel
theorem dX12_search_16 : decode cX12_search 16 = .ok (.iastore, 1) := by decide +kernel
theorem dX12_search_17 : decode cX12_search 17 = .ok (.iinc 2 1, 3) := by decide +kernel
theorem dX12_search_20 : decode cX12_search 20 = .ok (.goto (-18), 3) := by decide +kernel
theorem dX12_search_23 : decode cX12_search 23 = .ok (.aload_n 0, 1) := by decide +kernel
theorem dX12_search_24 : decode cX12_search 24 = .ok (.iconst 1, 1) := by decide +kernel
theorem dX12_search_25 : decode cX12_search 25 = .ok (.putfield 200, 3) := by decide +kernel
theorem dX12_search_28 : decode cX12_search 28 = .ok (.aload_n 0, 1) := by decide +kernel
theorem dX12_search_29 : decode cX12_search 29 = .ok (.getfield 53, 3) := by decide +kernel
theorem dX12_search_32 : decode cX12_search 32 = .ok (.iconst 0, 1) := by decide +kernel
theorem dX12_search_33 : decode cX12_search 33 = .ok (.bipush (-9), 2) := by decide +kernel
theorem dX12_search_35 : decode cX12_search 35 = .ok (.iastore, 1) := by decide +kernel
theorem dX12_search_36 : decode cX12_search 36 = .ok (.aload_n 0, 1) := by decide +kernel
theorem dX12_search_37 : decode cX12_search 37 = .ok (.iconst 0, 1) := by decide +kernel
theorem dX12_search_38 : decode cX12_search 38 = .ok (.putfield 207, 3) := by decide +kernel
theorem dX12_search_41 : decode cX12_search 41 = .ok (.aload_n 0, 1) := by decide +kernel
theorem dX12_search_42 : decode cX12_search 42 = .ok (.aload_n 1, 1) := by decide +kernel
theorem dX12_search_43 : decode cX12_search 43 = .ok (.iconst 0, 1) := by decide +kernel
theorem dX12_search_44 : decode cX12_search 44 = .ok (.iaload, 1) := by decide +kernel
theorem dX12_search_45 : decode cX12_search 45 = .ok (.aload_n 1, 1) := by decide +kernel
theorem dX12_search_46 : decode cX12_search 46 = .ok (.iconst 1, 1) := by decide +kernel
theorem dX12_search_47 : decode cX12_search 47 = .ok (.iaload, 1) := by decide +kernel
theorem dX12_search_48 : decode cX12_search 48 = .ok (.iadd, 1) := by decide +kernel
theorem dX12_search_49 : decode cX12_search 49 = .ok (.ifCond .ne 7, 3) := by decide +kernel
theorem dX12_search_52 : decode cX12_search 52 = .ok (.iconst 0, 1) := by decide +kernel
theorem dX12_search_53 : decode cX12_search 53 = .ok (.goto 5, 3) := by decide +kernel
theorem dX12_search_56 : decode cX12_search 56 = .ok (.bipush (-9), 2) := by decide +kernel
theorem dX12_search_58 : decode cX12_search 58 = .ok (.putfield 213, 3) := by decide +kernel
theorem dX12_search_61 : decode cX12_search 61 = .ok (.iconst 0, 1) := by decide +kernel
theorem dX12_search_62 : decode cX12_search 62 = .ok (.istore_n 2, 1) := by decide +kernel
theorem dX12_search_63 : decode cX12_search 63 = .ok (.iload_n 2, 1) := by decide +kernel
theorem dX12_search_64 : decode cX12_search 64 = .ok (.aload_n 0, 1) := by decide +kernel
theorem dX12_search_65 : decode cX12_search 65 = .ok (.getfield 200, 3) := by decide +kernel
theorem dX12_search_68 : decode cX12_search 68 = .ok (.if_icmp .ge 63, 3) := by decide +kernel
theorem dX12_search_71 : decode cX12_search 71 = .ok (.aload_n 0, 1) := by decide +kernel
theorem dX12_search_72 : decode cX12_search 72 = .ok (.getfield 213, 3) := by decide +kernel
theorem dX12_search_75 : decode cX12_search 75 = .ok (.bipush (-9), 2) := by decide +kernel
theorem dX12_search_77 : decode cX12_search 77 = .ok (.if_icmp .ne 54, 3) := by decide +kernel
theorem dX12_search_80 : decode cX12_search 80 = .ok (.aload_n 0, 1) := by decide +kernel
theorem dX12_search_81 : decode cX12_search 81 = .ok (.iload_n 2, 1) := by decide +kernel
theorem dX12_search_82 : decode cX12_search 82 = .ok (.aload_n 0, 1) := by decide +kernel
theorem dX12_search_83 : decode cX12_search 83 = .ok (.getfield 16, 3) := by decide +kernel
theorem dX12_search_86 : decode cX12_search 86 = .ok (.invokevirtual 216, 3) := by decide +kernel
theorem dX12_search_89 : decode cX12_search 89 = .ok (.iconst 0, 1) := by decide +kernel
theorem dX12_search_90 : decode cX12_search 90 = .ok (.istore_n 3, 1) := by decide +kernel
theorem dX12_search_91 : decode cX12_search 91 = .ok (.iload_n 3, 1) := by decide +kernel
theorem dX12_search_92 : decode cX12_search 92 = .ok (.iconst 5, 1) := by decide +kernel
theorem dX12_search_93 : decode cX12_search 93 = .ok (.if_icmp .ge 32, 3) := by decide +kernel
theorem dX12_search_96 : decode cX12_search 96 = .ok (.aload_n 0, 1) := by decide +kernel
theorem dX12_search_97 : decode cX12_search 97 = .ok (.getfield 213, 3) := by decide +kernel
theorem dX12_search_100 : decode cX12_search 100 = .ok (.bipush (-9), 2) := by decide +kernel
theorem dX12_search_102 : decode cX12_search 102 = .ok (.if_icmp .ne 23, 3) := by decide +kernel
theorem dX12_search_105 : decode cX12_search 105 = .ok (.aload_n 0, 1) := by decide +kernel
theorem dX12_search_106 : decode cX12_search 106 = .ok (.iload_n 3, 1) := by decide +kernel
theorem dX12_search_107 : decode cX12_search 107 = .ok (.invokevirtual 220, 3) := by decide +kernel
theorem dX12_search_110 : decode cX12_search 110 = .ok (.ifCond .eq 9, 3) := by decide +kernel
theorem dX12_search_113 : decode cX12_search 113 = .ok (.aload_n 0, 1) := by decide +kernel
theorem dX12_search_114 : decode cX12_search 114 = .ok (.iload_n 2, 1) := by decide +kernel
theorem dX12_search_115 : decode cX12_search 115 = .ok (.iload_n 3, 1) := by decide +kernel
theorem dX12_search_116 : decode cX12_search 116 = .ok (.invokevirtual 223, 3) := by decide +kernel
theorem dX12_search_119 : decode cX12_search 119 = .ok (.iinc 3 1, 3) := by decide +kernel
theorem dX12_search_122 : decode cX12_search 122 = .ok (.goto (-31), 3) := by decide +kernel
theorem dX12_search_125 : decode cX12_search 125 = .ok (.iinc 2 1, 3) := by decide +kernel
theorem dX12_search_128 : decode cX12_search 128 = .ok (.goto (-65), 3) := by decide +kernel
theorem dX12_search_131 : decode cX12_search 131 = .ok (.aload_n 0, 1) := by decide +kernel
theorem dX12_search_132 : decode cX12_search 132 = .ok (.getfield 213, 3) := by decide +kernel
theorem dX12_search_135 : decode cX12_search 135 = .ok (.bipush (-9), 2) := by decide +kernel
theorem dX12_search_137 : decode cX12_search 137 = .ok (.if_icmp .eq 7, 3) := by decide +kernel
theorem dX12_search_140 : decode cX12_search 140 = .ok (.iconst 1, 1) := by decide +kernel
theorem dX12_search_141 : decode cX12_search 141 = .ok (.goto 15, 3) := by decide +kernel
theorem dX12_search_144 : decode cX12_search 144 = .ok (.aload_n 0, 1) := by decide +kernel
theorem dX12_search_145 : decode cX12_search 145 = .ok (.getfield 207, 3) := by decide +kernel
theorem dX12_search_148 : decode cX12_search 148 = .ok (.ifCond .eq 7, 3) := by decide +kernel
theorem dX12_search_151 : decode cX12_search 151 = .ok (.iconst 2, 1) := by decide +kernel
theorem dX12_search_152 : decode cX12_search 152 = .ok (.goto 4, 3) := by decide +kernel
theorem dX12_search_155 : decode cX12_search 155 = .ok (.iconst 0, 1) := by decide +kernel
theorem dX12_search_156 : decode cX12_search 156 = .ok (.ireturn, 1) := by decide +kernel
theorem dX12_decide_0 : decode cX12_decide 0 = .ok (.aload_n 0, 1) := by decide +kernel
theorem dX12_decide_1 : decode cX12_decide 1 = .ok (.aload_n 0, 1) := by decide +kernel
theorem dX12_decide_2 : decode cX12_decide 2 = .ok (.getfield 13, 3) := by decide +kernel
theorem dX12_decide_5 : decode cX12_decide 5 = .ok (.invokevirtual 227, 3) := by decide +kernel
theorem dX12_decide_8 : decode cX12_decide 8 = .ok (.ireturn, 1) := by decide +kernel
theorem dX12_nodeCount_0 : decode cX12_nodeCount 0 = .ok (.aload_n 0, 1) := by decide +kernel
theorem dX12_nodeCount_1 : decode cX12_nodeCount 1 = .ok (.aload_n 0, 1) := by decide +kernel
theorem dX12_nodeCount_2 : decode cX12_nodeCount 2 = .ok (.getfield 13, 3) := by decide +kernel
theorem dX12_nodeCount_5 : decode cX12_nodeCount 5 = .ok (.invokevirtual 227, 3) := by decide +kernel
theorem dX12_nodeCount_8 : decode cX12_nodeCount 8 = .ok (.istore_n 1, 1) := by decide +kernel
theorem dX12_nodeCount_9 : decode cX12_nodeCount 9 = .ok (.aload_n 0, 1) := by decide +kernel
theorem dX12_nodeCount_10 : decode cX12_nodeCount 10 = .ok (.getfield 200, 3) := by decide +kernel
theorem dX12_nodeCount_13 : decode cX12_nodeCount 13 = .ok (.ireturn, 1) := by decide +kernel
theorem dX12_layProof_0 : decode cX12_layProof 0 = .ok (.aload_n 0, 1) := by decide +kernel
theorem dX12_layProof_1 : decode cX12_layProof 1 = .ok (.aload_n 0, 1) := by decide +kernel
theorem dX12_layProof_2 : decode cX12_layProof 2 = .ok (.getfield 13, 3) := by decide +kernel
theorem dX12_layProof_5 : decode cX12_layProof 5 = .ok (.invokevirtual 227, 3) := by decide +kernel
theorem dX12_layProof_8 : decode cX12_layProof 8 = .ok (.iconst 1, 1) := by decide +kernel
theorem dX12_layProof_9 : decode cX12_layProof 9 = .ok (.if_icmp .eq 5, 3) := by decide +kernel
theorem dX12_layProof_12 : decode cX12_layProof 12 = .ok (.iconst 0, 1) := by decide +kernel
theorem dX12_layProof_13 : decode cX12_layProof 13 = .ok (.ireturn, 1) := by decide +kernel
theorem dX12_layProof_14 : decode cX12_layProof 14 = .ok (.aload_n 0, 1) := by decide +kernel
theorem dX12_layProof_15 : decode cX12_layProof 15 = .ok (.iconst 0, 1) := by decide +kernel
theorem dX12_layProof_16 : decode cX12_layProof 16 = .ok (.putfield 230, 3) := by decide +kernel
theorem dX12_layProof_19 : decode cX12_layProof 19 = .ok (.aload_n 0, 1) := by decide +kernel
theorem dX12_layProof_20 : decode cX12_layProof 20 = .ok (.getfield 213, 3) := by decide +kernel
theorem dX12_layProof_23 : decode cX12_layProof 23 = .ok (.istore_n 1, 1) := by decide +kernel
theorem dX12_layProof_24 : decode cX12_layProof 24 = .ok (.iload_n 1, 1) := by decide +kernel
theorem dX12_layProof_25 : decode cX12_layProof 25 = .ok (.ifCond .le 23, 3) := by decide +kernel
theorem dX12_layProof_28 : decode cX12_layProof 28 = .ok (.aload_n 0, 1) := by decide +kernel
theorem dX12_layProof_29 : decode cX12_layProof 29 = .ok (.dup, 1) := by decide +kernel
theorem dX12_layProof_30 : decode cX12_layProof 30 = .ok (.getfield 230, 3) := by decide +kernel
theorem dX12_layProof_33 : decode cX12_layProof 33 = .ok (.iconst 1, 1) := by decide +kernel
theorem dX12_layProof_34 : decode cX12_layProof 34 = .ok (.iadd, 1) := by decide +kernel
theorem dX12_layProof_35 : decode cX12_layProof 35 = .ok (.putfield 230, 3) := by decide +kernel
theorem dX12_layProof_38 : decode cX12_layProof 38 = .ok (.aload_n 0, 1) := by decide +kernel
theorem dX12_layProof_39 : decode cX12_layProof 39 = .ok (.getfield 53, 3) := by decide +kernel
theorem dX12_layProof_42 : decode cX12_layProof 42 = .ok (.iload_n 1, 1) := by decide +kernel
theorem dX12_layProof_43 : decode cX12_layProof 43 = .ok (.iaload, 1) := by decide +kernel
theorem dX12_layProof_44 : decode cX12_layProof 44 = .ok (.istore_n 1, 1) := by decide +kernel
theorem dX12_layProof_45 : decode cX12_layProof 45 = .ok (.goto (-21), 3) := by decide +kernel
theorem dX12_layProof_48 : decode cX12_layProof 48 = .ok (.aload_n 0, 1) := by decide +kernel
theorem dX12_layProof_49 : decode cX12_layProof 49 = .ok (.getfield 230, 3) := by decide +kernel
theorem dX12_layProof_52 : decode cX12_layProof 52 = .ok (.istore_n 1, 1) := by decide +kernel
theorem dX12_layProof_53 : decode cX12_layProof 53 = .ok (.aload_n 0, 1) := by decide +kernel
theorem dX12_layProof_54 : decode cX12_layProof 54 = .ok (.getfield 213, 3) := by decide +kernel
theorem dX12_layProof_57 : decode cX12_layProof 57 = .ok (.istore_n 2, 1) := by decide +kernel
theorem dX12_layProof_58 : decode cX12_layProof 58 = .ok (.iload_n 2, 1) := by decide +kernel
theorem dX12_layProof_59 : decode cX12_layProof 59 = .ok (.ifCond .le 23, 3) := by decide +kernel
theorem dX12_layProof_62 : decode cX12_layProof 62 = .ok (.iinc 1 (-1), 3) := by decide +kernel
theorem dX12_layProof_65 : decode cX12_layProof 65 = .ok (.aload_n 0, 1) := by decide +kernel
theorem dX12_layProof_66 : decode cX12_layProof 66 = .ok (.getfield 62, 3) := by decide +kernel
theorem dX12_layProof_69 : decode cX12_layProof 69 = .ok (.iload_n 1, 1) := by decide +kernel
theorem dX12_layProof_70 : decode cX12_layProof 70 = .ok (.iload_n 2, 1) := by decide +kernel
theorem dX12_layProof_71 : decode cX12_layProof 71 = .ok (.iastore, 1) := by decide +kernel
theorem dX12_layProof_72 : decode cX12_layProof 72 = .ok (.aload_n 0, 1) := by decide +kernel
theorem dX12_layProof_73 : decode cX12_layProof 73 = .ok (.getfield 53, 3) := by decide +kernel
theorem dX12_layProof_76 : decode cX12_layProof 76 = .ok (.iload_n 2, 1) := by decide +kernel
theorem dX12_layProof_77 : decode cX12_layProof 77 = .ok (.iaload, 1) := by decide +kernel
theorem dX12_layProof_78 : decode cX12_layProof 78 = .ok (.istore_n 2, 1) := by decide +kernel
theorem dX12_layProof_79 : decode cX12_layProof 79 = .ok (.goto (-21), 3) := by decide +kernel
theorem dX12_layProof_82 : decode cX12_layProof 82 = .ok (.iconst 1, 1) := by decide +kernel
theorem dX12_layProof_83 : decode cX12_layProof 83 = .ok (.ireturn, 1) := by decide +kernel
theorem dX12_proofLength_0 : decode cX12_proofLength 0 = .ok (.aload_n 0, 1) := by decide +kernel
theorem dX12_proofLength_1 : decode cX12_proofLength 1 = .ok (.invokevirtual 233, 3) := by decide +kernel
theorem dX12_proofLength_4 : decode cX12_proofLength 4 = .ok (.ifCond .eq 10, 3) := by decide +kernel
theorem dX12_proofLength_7 : decode cX12_proofLength 7 = .ok (.aload_n 0, 1) := by decide +kernel
theorem dX12_proofLength_8 : decode cX12_proofLength 8 = .ok (.getfield 230, 3) := by decide +kernel
theorem dX12_proofLength_11 : decode cX12_proofLength 11 = .ok (.goto 5, 3) := by decide +kernel
theorem dX12_proofLength_14 : decode cX12_proofLength 14 = .ok (.bipush (-9), 2) := by decide +kernel
theorem dX12_proofLength_16 : decode cX12_proofLength 16 = .ok (.ireturn, 1) := by decide +kernel
theorem dX12_proofRule_0 : decode cX12_proofRule 0 = .ok (.aload_n 0, 1) := by decide +kernel
theorem dX12_proofRule_1 : decode cX12_proofRule 1 = .ok (.invokevirtual 233, 3) := by decide +kernel
theorem dX12_proofRule_4 : decode cX12_proofRule 4 = .ok (.ifCond .ne 6, 3) := by decide +kernel
theorem dX12_proofRule_7 : decode cX12_proofRule 7 = .ok (.bipush (-9), 2) := by decide +kernel
theorem dX12_proofRule_9 : decode cX12_proofRule 9 = .ok (.ireturn, 1) := by decide +kernel
theorem dX12_proofRule_10 : decode cX12_proofRule 10 = .ok (.iload_n 1, 1) := by decide +kernel
theorem dX12_proofRule_11 : decode cX12_proofRule 11 = .ok (.i2l, 1) := by decide +kernel
theorem dX12_proofRule_12 : decode cX12_proofRule 12 = .ok (.lconst 0, 1) := by decide +kernel
theorem dX12_proofRule_13 : decode cX12_proofRule 13 = .ok (.aload_n 0, 1) := by decide +kernel
theorem dX12_proofRule_14 : decode cX12_proofRule 14 = .ok (.getfield 230, 3) := by decide +kernel
theorem dX12_proofRule_17 : decode cX12_proofRule 17 = .ok (.iconst 1, 1) := by decide +kernel
theorem dX12_proofRule_18 : decode cX12_proofRule 18 = .ok (.isub, 1) := by decide +kernel
theorem dX12_proofRule_19 : decode cX12_proofRule 19 = .ok (.i2l, 1) := by decide +kernel
theorem dX12_proofRule_20 : decode cX12_proofRule 20 = .ok (.invokestatic 85, 3) := by decide +kernel
theorem dX12_proofRule_23 : decode cX12_proofRule 23 = .ok (.ifCond .eq 17, 3) := by decide +kernel
theorem dX12_proofRule_26 : decode cX12_proofRule 26 = .ok (.aload_n 0, 1) := by decide +kernel
theorem dX12_proofRule_27 : decode cX12_proofRule 27 = .ok (.getfield 56, 3) := by decide +kernel
theorem dX12_proofRule_30 : decode cX12_proofRule 30 = .ok (.aload_n 0, 1) := by decide +kernel
theorem dX12_proofRule_31 : decode cX12_proofRule 31 = .ok (.getfield 62, 3) := by decide +kernel
theorem dX12_proofRule_34 : decode cX12_proofRule 34 = .ok (.iload_n 1, 1) := by decide +kernel
theorem dX12_proofRule_35 : decode cX12_proofRule 35 = .ok (.iaload, 1) := by decide +kernel
theorem dX12_proofRule_36 : decode cX12_proofRule 36 = .ok (.iaload, 1) := by decide +kernel
theorem dX12_proofRule_37 : decode cX12_proofRule 37 = .ok (.goto 4, 3) := by decide +kernel
theorem dX12_proofRule_40 : decode cX12_proofRule 40 = .ok (.iconst (-1), 1) := by decide +kernel
theorem dX12_proofRule_41 : decode cX12_proofRule 41 = .ok (.ireturn, 1) := by decide +kernel
theorem dX12_putAhead_0 : decode cX12_putAhead 0 = .ok (.iload_n 2, 1) := by decide +kernel
theorem dX12_putAhead_1 : decode cX12_putAhead 1 = .ok (.iconst 2, 1) := by decide +kernel
theorem dX12_putAhead_2 : decode cX12_putAhead 2 = .ok (.if_icmp .ge 7, 3) := by decide +kernel
theorem dX12_putAhead_5 : decode cX12_putAhead 5 = .ok (.iconst 1, 1) := by decide +kernel
theorem dX12_putAhead_6 : decode cX12_putAhead 6 = .ok (.goto 11, 3) := by decide +kernel
theorem dX12_putAhead_9 : decode cX12_putAhead 9 = .ok (.aload_n 0, 1) := by decide +kernel
theorem dX12_putAhead_10 : decode cX12_putAhead 10 = .ok (.getfield 68, 3) := by decide +kernel
theorem dX12_putAhead_13 : decode cX12_putAhead 13 = .ok (.iload_n 2, 1) := by decide +kernel
theorem dX12_putAhead_14 : decode cX12_putAhead 14 = .ok (.iconst 2, 1) := by decide +kernel
theorem dX12_putAhead_15 : decode cX12_putAhead 15 = .ok (.isub, 1) := by decide +kernel
theorem dX12_putAhead_16 : decode cX12_putAhead 16 = .ok (.iaload, 1) := by decide +kernel
theorem dX12_putAhead_17 : decode cX12_putAhead 17 = .ok (.istore_n 3, 1) := by decide +kernel
theorem dX12_putAhead_18 : decode cX12_putAhead 18 = .ok (.iload_n 3, 1) := by decide +kernel
theorem dX12_putAhead_19 : decode cX12_putAhead 19 = .ok (.aload_n 0, 1) := by decide +kernel
theorem dX12_putAhead_20 : decode cX12_putAhead 20 = .ok (.getfield 68, 3) := by decide +kernel
theorem dX12_putAhead_23 : decode cX12_putAhead 23 = .ok (.iload_n 1, 1) := by decide +kernel
theorem dX12_putAhead_24 : decode cX12_putAhead 24 = .ok (.iaload, 1) := by decide +kernel
theorem dX12_putAhead_25 : decode cX12_putAhead 25 = .ok (.iadd, 1) := by decide +kernel
theorem dX12_putAhead_26 : decode cX12_putAhead 26 = .ok (.bipush 60, 2) := by decide +kernel
theorem dX12_putAhead_28 : decode cX12_putAhead 28 = .ok (.if_icmp .le 9, 3) := by decide +kernel
theorem dX12_putAhead_31 : decode cX12_putAhead 31 = .ok (.aload_n 0, 1) := by decide +kernel
theorem dX12_putAhead_32 : decode cX12_putAhead 32 = .ok (.iconst 1, 1) := by decide +kernel
theorem dX12_putAhead_33 : decode cX12_putAhead 33 = .ok (.putfield 237, 3) := by decide +kernel
theorem dX12_putAhead_36 : decode cX12_putAhead 36 = .ok (.return_, 1) := by decide +kernel
theorem dX12_putAhead_37 : decode cX12_putAhead 37 = .ok (.iconst 0, 1) := by decide +kernel
theorem dX12_putAhead_38 : decode cX12_putAhead 38 = .ok (.istore 4, 2) := by decide +kernel
theorem dX12_putAhead_40 : decode cX12_putAhead 40 = .ok (.iload 4, 2) := by decide +kernel
theorem dX12_putAhead_42 : decode cX12_putAhead 42 = .ok (.iload_n 3, 1) := by decide +kernel
theorem dX12_putAhead_43 : decode cX12_putAhead 43 = .ok (.if_icmp .ge 39, 3) := by decide +kernel
theorem dX12_putAhead_46 : decode cX12_putAhead 46 = .ok (.aload_n 0, 1) := by decide +kernel
theorem dX12_putAhead_47 : decode cX12_putAhead 47 = .ok (.getfield 71, 3) := by decide +kernel
theorem dX12_putAhead_50 : decode cX12_putAhead 50 = .ok (.iload 4, 2) := by decide +kernel
theorem dX12_putAhead_52 : decode cX12_putAhead 52 = .ok (.iload_n 2, 1) := by decide +kernel
theorem dX12_putAhead_53 : decode cX12_putAhead 53 = .ok (.iconst 2, 1) := by decide +kernel
theorem dX12_putAhead_54 : decode cX12_putAhead 54 = .ok (.if_icmp .ge 7, 3) := by decide +kernel
theorem dX12_putAhead_57 : decode cX12_putAhead 57 = .ok (.iload_n 2, 1) := by decide +kernel
theorem dX12_putAhead_58 : decode cX12_putAhead 58 = .ok (.goto 17, 3) := by decide +kernel
theorem dX12_putAhead_61 : decode cX12_putAhead 61 = .ok (.aload_n 0, 1) := by decide +kernel
theorem dX12_putAhead_62 : decode cX12_putAhead 62 = .ok (.getfield 65, 3) := by decide +kernel
theorem dX12_putAhead_65 : decode cX12_putAhead 65 = .ok (.bipush 60, 2) := by decide +kernel
theorem dX12_putAhead_67 : decode cX12_putAhead 67 = .ok (.iload_n 2, 1) := by decide +kernel
theorem dX12_putAhead_68 : decode cX12_putAhead 68 = .ok (.iconst 2, 1) := by decide +kernel
theorem dX12_putAhead_69 : decode cX12_putAhead 69 = .ok (.isub, 1) := by decide +kernel
theorem dX12_putAhead_70 : decode cX12_putAhead 70 = .ok (.imul, 1) := by decide +kernel
theorem dX12_putAhead_71 : decode cX12_putAhead 71 = .ok (.iload 4, 2) := by decide +kernel
theorem dX12_putAhead_73 : decode cX12_putAhead 73 = .ok (.iadd, 1) := by decide +kernel
theorem dX12_putAhead_74 : decode cX12_putAhead 74 = .ok (.iaload, 1) := by decide +kernel
theorem dX12_putAhead_75 : decode cX12_putAhead 75 = .ok (.iastore, 1) := by decide +kernel
theorem dX12_putAhead_76 : decode cX12_putAhead 76 = .ok (.iinc 4 1, 3) := by decide +kernel
theorem dX12_putAhead_79 : decode cX12_putAhead 79 = .ok (.goto (-39), 3) := by decide +kernel
theorem dX12_putAhead_82 : decode cX12_putAhead 82 = .ok (.iconst 0, 1) := by decide +kernel
theorem dX12_putAhead_83 : decode cX12_putAhead 83 = .ok (.istore 4, 2) := by decide +kernel
theorem dX12_putAhead_85 : decode cX12_putAhead 85 = .ok (.iload 4, 2) := by decide +kernel
theorem dX12_putAhead_87 : decode cX12_putAhead 87 = .ok (.aload_n 0, 1) := by decide +kernel
theorem dX12_putAhead_88 : decode cX12_putAhead 88 = .ok (.getfield 68, 3) := by decide +kernel
theorem dX12_putAhead_91 : decode cX12_putAhead 91 = .ok (.iload_n 1, 1) := by decide +kernel
theorem dX12_putAhead_92 : decode cX12_putAhead 92 = .ok (.iaload, 1) := by decide +kernel
theorem dX12_putAhead_93 : decode cX12_putAhead 93 = .ok (.if_icmp .ge 30, 3) := by decide +kernel
theorem dX12_putAhead_96 : decode cX12_putAhead 96 = .ok (.aload_n 0, 1) := by decide +kernel
theorem dX12_putAhead_97 : decode cX12_putAhead 97 = .ok (.getfield 71, 3) := by decide +kernel
theorem dX12_putAhead_100 : decode cX12_putAhead 100 = .ok (.iload_n 3, 1) := by decide +kernel
theorem dX12_putAhead_101 : decode cX12_putAhead 101 = .ok (.iload 4, 2) := by decide +kernel
theorem dX12_putAhead_103 : decode cX12_putAhead 103 = .ok (.iadd, 1) := by decide +kernel
theorem dX12_putAhead_104 : decode cX12_putAhead 104 = .ok (.aload_n 0, 1) := by decide +kernel
theorem dX12_putAhead_105 : decode cX12_putAhead 105 = .ok (.getfield 65, 3) := by decide +kernel
theorem dX12_putAhead_108 : decode cX12_putAhead 108 = .ok (.bipush 60, 2) := by decide +kernel
theorem dX12_putAhead_110 : decode cX12_putAhead 110 = .ok (.iload_n 1, 1) := by decide +kernel
theorem dX12_putAhead_111 : decode cX12_putAhead 111 = .ok (.imul, 1) := by decide +kernel
theorem dX12_putAhead_112 : decode cX12_putAhead 112 = .ok (.iload 4, 2) := by decide +kernel
theorem dX12_putAhead_114 : decode cX12_putAhead 114 = .ok (.iadd, 1) := by decide +kernel
theorem dX12_putAhead_115 : decode cX12_putAhead 115 = .ok (.iaload, 1) := by decide +kernel
theorem dX12_putAhead_116 : decode cX12_putAhead 116 = .ok (.iastore, 1) := by decide +kernel
theorem dX12_putAhead_117 : decode cX12_putAhead 117 = .ok (.iinc 4 1, 3) := by decide +kernel
theorem dX12_putAhead_120 : decode cX12_putAhead 120 = .ok (.goto (-35), 3) := by decide +kernel
theorem dX12_putAhead_123 : decode cX12_putAhead 123 = .ok (.aload_n 0, 1) := by decide +kernel
theorem dX12_putAhead_124 : decode cX12_putAhead 124 = .ok (.getfield 68, 3) := by decide +kernel
theorem dX12_putAhead_127 : decode cX12_putAhead 127 = .ok (.iload_n 1, 1) := by decide +kernel
theorem dX12_putAhead_128 : decode cX12_putAhead 128 = .ok (.dup2, 1) := by decide +kernel
theorem dX12_putAhead_129 : decode cX12_putAhead 129 = .ok (.iaload, 1) := by decide +kernel
theorem dX12_putAhead_130 : decode cX12_putAhead 130 = .ok (.iload_n 3, 1) := by decide +kernel
theorem dX12_putAhead_131 : decode cX12_putAhead 131 = .ok (.iadd, 1) := by decide +kernel
theorem dX12_putAhead_132 : decode cX12_putAhead 132 = .ok (.iastore, 1) := by decide +kernel
theorem dX12_putAhead_133 : decode cX12_putAhead 133 = .ok (.iconst 0, 1) := by decide +kernel
theorem dX12_putAhead_134 : decode cX12_putAhead 134 = .ok (.istore 4, 2) := by decide +kernel
theorem dX12_putAhead_136 : decode cX12_putAhead 136 = .ok (.iload 4, 2) := by decide +kernel
theorem dX12_putAhead_138 : decode cX12_putAhead 138 = .ok (.aload_n 0, 1) := by decide +kernel
theorem dX12_putAhead_139 : decode cX12_putAhead 139 = .ok (.getfield 68, 3) := by decide +kernel
theorem dX12_putAhead_142 : decode cX12_putAhead 142 = .ok (.iload_n 1, 1) := by decide +kernel
theorem dX12_putAhead_143 : decode cX12_putAhead 143 = .ok (.iaload, 1) := by decide +kernel
theorem dX12_putAhead_144 : decode cX12_putAhead 144 = .ok (.if_icmp .ge 28, 3) := by decide +kernel
theorem dX12_putAhead_147 : decode cX12_putAhead 147 = .ok (.aload_n 0, 1) := by decide +kernel
theorem dX12_putAhead_148 : decode cX12_putAhead 148 = .ok (.getfield 65, 3) := by decide +kernel
theorem dX12_putAhead_151 : decode cX12_putAhead 151 = .ok (.bipush 60, 2) := by decide +kernel
theorem dX12_putAhead_153 : decode cX12_putAhead 153 = .ok (.iload_n 1, 1) := by decide +kernel
theorem dX12_putAhead_154 : decode cX12_putAhead 154 = .ok (.imul, 1) := by decide +kernel
theorem dX12_putAhead_155 : decode cX12_putAhead 155 = .ok (.iload 4, 2) := by decide +kernel
theorem dX12_putAhead_157 : decode cX12_putAhead 157 = .ok (.iadd, 1) := by decide +kernel
theorem dX12_putAhead_158 : decode cX12_putAhead 158 = .ok (.aload_n 0, 1) := by decide +kernel
theorem dX12_putAhead_159 : decode cX12_putAhead 159 = .ok (.getfield 71, 3) := by decide +kernel
theorem dX12_putAhead_162 : decode cX12_putAhead 162 = .ok (.iload 4, 2) := by decide +kernel
theorem dX12_putAhead_164 : decode cX12_putAhead 164 = .ok (.iaload, 1) := by decide +kernel
theorem dX12_putAhead_165 : decode cX12_putAhead 165 = .ok (.iastore, 1) := by decide +kernel
theorem dX12_putAhead_166 : decode cX12_putAhead 166 = .ok (.iinc 4 1, 3) := by decide +kernel
theorem dX12_putAhead_169 : decode cX12_putAhead 169 = .ok (.goto (-33), 3) := by decide +kernel
theorem dX12_putAhead_172 : decode cX12_putAhead 172 = .ok (.return_, 1) := by decide +kernel
theorem dX12_layWitness_0 : decode cX12_layWitness 0 = .ok (.aload_n 0, 1) := by decide +kernel
theorem dX12_layWitness_1 : decode cX12_layWitness 1 = .ok (.invokevirtual 233, 3) := by decide +kernel
theorem dX12_layWitness_4 : decode cX12_layWitness 4 = .ok (.ifCond .ne 5, 3) := by decide +kernel
theorem dX12_layWitness_7 : decode cX12_layWitness 7 = .ok (.iconst 0, 1) := by decide +kernel
theorem dX12_layWitness_8 : decode cX12_layWitness 8 = .ok (.ireturn, 1) := by decide +kernel
theorem dX12_layWitness_9 : decode cX12_layWitness 9 = .ok (.aload_n 0, 1) := by decide +kernel
theorem dX12_layWitness_10 : decode cX12_layWitness 10 = .ok (.iconst 0, 1) := by decide +kernel
theorem dX12_layWitness_11 : decode cX12_layWitness 11 = .ok (.putfield 237, 3) := by decide +kernel
theorem dX12_layWitness_14 : decode cX12_layWitness 14 = .ok (.iconst 0, 1) := by decide +kernel
theorem dX12_layWitness_15 : decode cX12_layWitness 15 = .ok (.istore_n 1, 1) := by decide +kernel
theorem dX12_layWitness_16 : decode cX12_layWitness 16 = .ok (.iload_n 1, 1) := by decide +kernel
theorem dX12_layWitness_17 : decode cX12_layWitness 17 = .ok (.iconst 4, 1) := by decide +kernel
theorem dX12_layWitness_18 : decode cX12_layWitness 18 = .ok (.if_icmp .ge 16, 3) := by decide +kernel
theorem dX12_layWitness_21 : decode cX12_layWitness 21 = .ok (.aload_n 0, 1) := by decide +kernel
theorem dX12_layWitness_22 : decode cX12_layWitness 22 = .ok (.getfield 68, 3) := by decide +kernel
theorem dX12_layWitness_25 : decode cX12_layWitness 25 = .ok (.iload_n 1, 1) := by decide +kernel
theorem dX12_layWitness_26 : decode cX12_layWitness 26 = .ok (.iconst 0, 1) := by decide +kernel
theorem dX12_layWitness_27 : decode cX12_layWitness 27 = .ok (.iastore, 1) := by decide +kernel
theorem dX12_layWitness_28 : decode cX12_layWitness 28 = .ok (.iinc 1 1, 3) := by decide +kernel
theorem dX12_layWitness_31 : decode cX12_layWitness 31 = .ok (.goto (-15), 3) := by decide +kernel
theorem dX12_layWitness_34 : decode cX12_layWitness 34 = .ok (.aload_n 0, 1) := by decide +kernel
theorem dX12_layWitness_35 : decode cX12_layWitness 35 = .ok (.getfield 230, 3) := by decide +kernel
theorem dX12_layWitness_38 : decode cX12_layWitness 38 = .ok (.iconst 1, 1) := by decide +kernel
theorem dX12_layWitness_39 : decode cX12_layWitness 39 = .ok (.isub, 1) := by decide +kernel
theorem dX12_layWitness_40 : decode cX12_layWitness 40 = .ok (.istore_n 1, 1) := by decide +kernel
theorem dX12_layWitness_41 : decode cX12_layWitness 41 = .ok (.iload_n 1, 1) := by decide +kernel
theorem dX12_layWitness_42 : decode cX12_layWitness 42 = .ok (.ifCond .lt 127, 3) := by decide +kernel
theorem dX12_layWitness_45 : decode cX12_layWitness 45 = .ok (.aload_n 0, 1) := by decide +kernel
theorem dX12_layWitness_46 : decode cX12_layWitness 46 = .ok (.getfield 237, 3) := by decide +kernel
theorem dX12_layWitness_49 : decode cX12_layWitness 49 = .ok (.ifCond .ne 120, 3) := by decide +kernel
theorem dX12_layWitness_52 : decode cX12_layWitness 52 = .ok (.aload_n 0, 1) := by decide +kernel
theorem dX12_layWitness_53 : decode cX12_layWitness 53 = .ok (.getfield 56, 3) := by decide +kernel
theorem dX12_layWitness_56 : decode cX12_layWitness 56 = .ok (.aload_n 0, 1) := by decide +kernel
theorem dX12_layWitness_57 : decode cX12_layWitness 57 = .ok (.getfield 62, 3) := by decide +kernel
theorem dX12_layWitness_60 : decode cX12_layWitness 60 = .ok (.iload_n 1, 1) := by decide +kernel
theorem dX12_layWitness_61 : decode cX12_layWitness 61 = .ok (.iaload, 1) := by decide +kernel
theorem dX12_layWitness_62 : decode cX12_layWitness 62 = .ok (.iaload, 1) := by decide +kernel
theorem dX12_layWitness_63 : decode cX12_layWitness 63 = .ok (.istore_n 2, 1) := by decide +kernel
theorem dX12_layWitness_64 : decode cX12_layWitness 64 = .ok (.aload_n 0, 1) := by decide +kernel
theorem dX12_layWitness_65 : decode cX12_layWitness 65 = .ok (.aload_n 0, 1) := by decide +kernel
theorem dX12_layWitness_66 : decode cX12_layWitness 66 = .ok (.getfield 53, 3) := by decide +kernel
theorem dX12_layWitness_69 : decode cX12_layWitness 69 = .ok (.aload_n 0, 1) := by decide +kernel
theorem dX12_layWitness_70 : decode cX12_layWitness 70 = .ok (.getfield 62, 3) := by decide +kernel
theorem dX12_layWitness_73 : decode cX12_layWitness 73 = .ok (.iload_n 1, 1) := by decide +kernel
theorem dX12_layWitness_74 : decode cX12_layWitness 74 = .ok (.iaload, 1) := by decide +kernel
theorem dX12_layWitness_75 : decode cX12_layWitness 75 = .ok (.iaload, 1) := by decide +kernel
theorem dX12_layWitness_76 : decode cX12_layWitness 76 = .ok (.aload_n 0, 1) := by decide +kernel
theorem dX12_layWitness_77 : decode cX12_layWitness 77 = .ok (.getfield 16, 3) := by decide +kernel
theorem dX12_layWitness_80 : decode cX12_layWitness 80 = .ok (.invokevirtual 216, 3) := by decide +kernel
theorem dX12_layWitness_83 : decode cX12_layWitness 83 = .ok (.aload_n 0, 1) := by decide +kernel
theorem dX12_layWitness_84 : decode cX12_layWitness 84 = .ok (.getfield 16, 3) := by decide +kernel
theorem dX12_layWitness_87 : decode cX12_layWitness 87 = .ok (.iconst 0, 1) := by decide +kernel
theorem dX12_layWitness_88 : decode cX12_layWitness 88 = .ok (.iconst 0, 1) := by decide +kernel
theorem dX12_layWitness_89 : decode cX12_layWitness 89 = .ok (.invokestatic 111, 3) := by decide +kernel
theorem dX12_layWitness_92 : decode cX12_layWitness 92 = .ok (.iaload, 1) := by decide +kernel
theorem dX12_layWitness_93 : decode cX12_layWitness 93 = .ok (.istore_n 3, 1) := by decide +kernel
theorem dX12_layWitness_94 : decode cX12_layWitness 94 = .ok (.aload_n 0, 1) := by decide +kernel
theorem dX12_layWitness_95 : decode cX12_layWitness 95 = .ok (.getfield 16, 3) := by decide +kernel
theorem dX12_layWitness_98 : decode cX12_layWitness 98 = .ok (.iconst 1, 1) := by decide +kernel
theorem dX12_layWitness_99 : decode cX12_layWitness 99 = .ok (.iconst 0, 1) := by decide +kernel
theorem dX12_layWitness_100 : decode cX12_layWitness 100 = .ok (.invokestatic 111, 3) := by decide +kernel
theorem dX12_layWitness_103 : decode cX12_layWitness 103 = .ok (.iaload, 1) := by decide +kernel
theorem dX12_layWitness_104 : decode cX12_layWitness 104 = .ok (.istore 4, 2) := by decide +kernel
theorem dX12_layWitness_106 : decode cX12_layWitness 106 = .ok (.iload_n 2, 1) := by decide +kernel
theorem dX12_layWitness_107 : decode cX12_layWitness 107 = .ok (.iconst 1, 1) := by decide +kernel
theorem dX12_layWitness_108 : decode cX12_layWitness 108 = .ok (.if_icmp .eq 8, 3) := by decide +kernel
theorem dX12_layWitness_111 : decode cX12_layWitness 111 = .ok (.iload_n 2, 1) := by decide +kernel
theorem dX12_layWitness_112 : decode cX12_layWitness 112 = .ok (.iconst 2, 1) := by decide +kernel
theorem dX12_layWitness_113 : decode cX12_layWitness 113 = .ok (.if_icmp .ne 22, 3) := by decide +kernel
theorem dX12_layWitness_116 : decode cX12_layWitness 116 = .ok (.aload_n 0, 1) := by decide +kernel
theorem dX12_layWitness_117 : decode cX12_layWitness 117 = .ok (.getfield 68, 3) := by decide +kernel
theorem dX12_layWitness_120 : decode cX12_layWitness 120 = .ok (.iload_n 2, 1) := by decide +kernel
theorem dX12_layWitness_121 : decode cX12_layWitness 121 = .ok (.iconst 1, 1) := by decide +kernel
theorem dX12_layWitness_122 : decode cX12_layWitness 122 = .ok (.if_icmp .ne 7, 3) := by decide +kernel
theorem dX12_layWitness_125 : decode cX12_layWitness 125 = .ok (.iload_n 3, 1) := by decide +kernel
theorem dX12_layWitness_126 : decode cX12_layWitness 126 = .ok (.goto 5, 3) := by decide +kernel
theorem dX12_layWitness_129 : decode cX12_layWitness 129 = .ok (.iload 4, 2) := by decide +kernel
theorem dX12_layWitness_131 : decode cX12_layWitness 131 = .ok (.iconst 2, 1) := by decide +kernel
theorem dX12_layWitness_132 : decode cX12_layWitness 132 = .ok (.isub, 1) := by decide +kernel
theorem dX12_layWitness_133 : decode cX12_layWitness 133 = .ok (.iconst 0, 1) := by decide +kernel
theorem dX12_layWitness_134 : decode cX12_layWitness 134 = .ok (.iastore, 1) := by decide +kernel
theorem dX12_layWitness_135 : decode cX12_layWitness 135 = .ok (.iload_n 2, 1) := by decide +kernel
theorem dX12_layWitness_136 : decode cX12_layWitness 136 = .ok (.iconst 3, 1) := by decide +kernel
theorem dX12_layWitness_137 : decode cX12_layWitness 137 = .ok (.if_icmp .ne 12, 3) := by decide +kernel
theorem dX12_layWitness_140 : decode cX12_layWitness 140 = .ok (.aload_n 0, 1) := by decide +kernel
theorem dX12_layWitness_141 : decode cX12_layWitness 141 = .ok (.iload_n 3, 1) := by decide +kernel
theorem dX12_layWitness_142 : decode cX12_layWitness 142 = .ok (.iconst 2, 1) := by decide +kernel
theorem dX12_layWitness_143 : decode cX12_layWitness 143 = .ok (.isub, 1) := by decide +kernel
theorem dX12_layWitness_144 : decode cX12_layWitness 144 = .ok (.iload 4, 2) := by decide +kernel
theorem dX12_layWitness_146 : decode cX12_layWitness 146 = .ok (.invokevirtual 240, 3) := by decide +kernel
theorem dX12_layWitness_149 : decode cX12_layWitness 149 = .ok (.iload_n 2, 1) := by decide +kernel
theorem dX12_layWitness_150 : decode cX12_layWitness 150 = .ok (.iconst 4, 1) := by decide +kernel
theorem dX12_layWitness_151 : decode cX12_layWitness 151 = .ok (.if_icmp .ne 12, 3) := by decide +kernel
theorem dX12_layWitness_154 : decode cX12_layWitness 154 = .ok (.aload_n 0, 1) := by decide +kernel
theorem dX12_layWitness_155 : decode cX12_layWitness 155 = .ok (.iload 4, 2) := by decide +kernel
theorem dX12_layWitness_157 : decode cX12_layWitness 157 = .ok (.iconst 2, 1) := by decide +kernel
theorem dX12_layWitness_158 : decode cX12_layWitness 158 = .ok (.isub, 1) := by decide +kernel
theorem dX12_layWitness_159 : decode cX12_layWitness 159 = .ok (.iload_n 3, 1) := by decide +kernel
