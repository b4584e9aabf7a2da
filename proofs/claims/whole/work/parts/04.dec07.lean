theorem dX7_even_33 : decode cX7_even 33 = .ok (.istore 4, 2) := by decide +kernel
theorem dX7_even_35 : decode cX7_even 35 = .ok (.iload_n 3, 1) := by decide +kernel
theorem dX7_even_36 : decode cX7_even 36 = .ok (.ifCond .eq 9, 3) := by decide +kernel
theorem dX7_even_39 : decode cX7_even 39 = .ok (.iload 4, 2) := by decide +kernel
theorem dX7_even_41 : decode cX7_even 41 = .ok (.iload_n 1, 1) := by decide +kernel
theorem dX7_even_42 : decode cX7_even 42 = .ok (.if_icmp .ge 8, 3) := by decide +kernel
theorem dX7_even_45 : decode cX7_even 45 = .ok (.iload 4, 2) := by decide +kernel
theorem dX7_even_47 : decode cX7_even 47 = .ok (.goto 4, 3) := by decide +kernel
theorem dX7_even_50 : decode cX7_even 50 = .ok (.iload_n 1, 1) := by decide +kernel
theorem dX7_even_51 : decode cX7_even 51 = .ok (.istore_n 1, 1) := by decide +kernel
theorem dX7_even_52 : decode cX7_even 52 = .ok (.iload 4, 2) := by decide +kernel
theorem dX7_even_54 : decode cX7_even 54 = .ok (.iload_n 2, 1) := by decide +kernel
theorem dX7_even_55 : decode cX7_even 55 = .ok (.if_icmp .le 8, 3) := by decide +kernel
theorem dX7_even_58 : decode cX7_even 58 = .ok (.iload 4, 2) := by decide +kernel
theorem dX7_even_60 : decode cX7_even 60 = .ok (.goto 4, 3) := by decide +kernel
theorem dX7_even_63 : decode cX7_even 63 = .ok (.iload_n 2, 1) := by decide +kernel
theorem dX7_even_64 : decode cX7_even 64 = .ok (.istore_n 2, 1) := by decide +kernel
theorem dX7_even_65 : decode cX7_even 65 = .ok (.iinc 3 1, 3) := by decide +kernel
theorem dX7_even_68 : decode cX7_even 68 = .ok (.goto (-61), 3) := by decide +kernel
theorem dX7_even_71 : decode cX7_even 71 = .ok (.iload_n 2, 1) := by decide +kernel
theorem dX7_even_72 : decode cX7_even 72 = .ok (.ifCond .ne 8, 3) := by decide +kernel
theorem dX7_even_75 : decode cX7_even 75 = .ok (.bipush (-9), 2) := by decide +kernel
theorem dX7_even_77 : decode cX7_even 77 = .ok (.goto 8, 3) := by decide +kernel
theorem dX7_even_80 : decode cX7_even 80 = .ok (.iload_n 1, 1) := by decide +kernel
theorem dX7_even_81 : decode cX7_even 81 = .ok (.iload_n 2, 1) := by decide +kernel
theorem dX7_even_82 : decode cX7_even 82 = .ok (.invokestatic 195, 3) := by decide +kernel
theorem dX7_even_85 : decode cX7_even 85 = .ok (.ireturn, 1) := by decide +kernel
theorem dX7_ask_0 : decode cX7_ask 0 = .ok (.aload_n 0, 1) := by decide +kernel
theorem dX7_ask_1 : decode cX7_ask 1 = .ok (.iconst 0, 1) := by decide +kernel
theorem dX7_ask_2 : decode cX7_ask 2 = .ok (.putfield 51, 3) := by decide +kernel
theorem dX7_ask_5 : decode cX7_ask 5 = .ok (.iload_n 1, 1) := by decide +kernel
theorem dX7_ask_6 : decode cX7_ask 6 = .ok (.ifCond .ne 10, 3) := by decide +kernel
theorem dX7_ask_9 : decode cX7_ask 9 = .ok (.aload_n 0, 1) := by decide +kernel
theorem dX7_ask_10 : decode cX7_ask 10 = .ok (.invokevirtual 198, 3) := by decide +kernel
theorem dX7_ask_13 : decode cX7_ask 13 = .ok (.goto 29, 3) := by decide +kernel
theorem dX7_ask_16 : decode cX7_ask 16 = .ok (.iload_n 1, 1) := by decide +kernel
theorem dX7_ask_17 : decode cX7_ask 17 = .ok (.iconst 1, 1) := by decide +kernel
theorem dX7_ask_18 : decode cX7_ask 18 = .ok (.if_icmp .ne 10, 3) := by decide +kernel
theorem dX7_ask_21 : decode cX7_ask 21 = .ok (.aload_n 0, 1) := by decide +kernel
theorem dX7_ask_22 : decode cX7_ask 22 = .ok (.invokevirtual 201, 3) := by decide +kernel
theorem dX7_ask_25 : decode cX7_ask 25 = .ok (.goto 17, 3) := by decide +kernel
theorem dX7_ask_28 : decode cX7_ask 28 = .ok (.iload_n 1, 1) := by decide +kernel
theorem dX7_ask_29 : decode cX7_ask 29 = .ok (.iconst 2, 1) := by decide +kernel
theorem dX7_ask_30 : decode cX7_ask 30 = .ok (.if_icmp .ne 10, 3) := by decide +kernel
theorem dX7_ask_33 : decode cX7_ask 33 = .ok (.aload_n 0, 1) := by decide +kernel
theorem dX7_ask_34 : decode cX7_ask 34 = .ok (.invokevirtual 204, 3) := by decide +kernel
theorem dX7_ask_37 : decode cX7_ask 37 = .ok (.goto 5, 3) := by decide +kernel
theorem dX7_ask_40 : decode cX7_ask 40 = .ok (.bipush (-2), 2) := by decide +kernel
theorem dX7_ask_42 : decode cX7_ask 42 = .ok (.ireturn, 1) := by decide +kernel
theorem dX7_does_0 : decode cX7_does 0 = .ok (.bipush 10, 2) := by decide +kernel
theorem dX7_does_2 : decode cX7_does 2 = .ok (.iload_n 3, 1) := by decide +kernel
theorem dX7_does_3 : decode cX7_does 3 = .ok (.imul, 1) := by decide +kernel
theorem dX7_does_4 : decode cX7_does 4 = .ok (.iload 4, 2) := by decide +kernel
theorem dX7_does_6 : decode cX7_does 6 = .ok (.iadd, 1) := by decide +kernel
theorem dX7_does_7 : decode cX7_does 7 = .ok (.istore 5, 2) := by decide +kernel
theorem dX7_does_9 : decode cX7_does 9 = .ok (.iload_n 1, 1) := by decide +kernel
theorem dX7_does_10 : decode cX7_does 10 = .ok (.tableswitch 323 1 7 #[42, 67, 109, 138, 175, 237, 259], 42) := by decide +kernel
theorem dX7_does_52 : decode cX7_does 52 = .ok (.aload_n 0, 1) := by decide +kernel
theorem dX7_does_53 : decode cX7_does 53 = .ok (.iload_n 2, 1) := by decide +kernel
theorem dX7_does_54 : decode cX7_does 54 = .ok (.invokevirtual 144, 3) := by decide +kernel
theorem dX7_does_57 : decode cX7_does 57 = .ok (.ifCond .ne 8, 3) := by decide +kernel
theorem dX7_does_60 : decode cX7_does 60 = .ok (.iload 5, 2) := by decide +kernel
theorem dX7_does_62 : decode cX7_does 62 = .ok (.ifCond .eq 5, 3) := by decide +kernel
theorem dX7_does_65 : decode cX7_does 65 = .ok (.iconst 0, 1) := by decide +kernel
theorem dX7_does_66 : decode cX7_does 66 = .ok (.ireturn, 1) := by decide +kernel
theorem dX7_does_67 : decode cX7_does 67 = .ok (.aload_n 0, 1) := by decide +kernel
theorem dX7_does_68 : decode cX7_does 68 = .ok (.getfield 25, 3) := by decide +kernel
theorem dX7_does_71 : decode cX7_does 71 = .ok (.iload_n 2, 1) := by decide +kernel
theorem dX7_does_72 : decode cX7_does 72 = .ok (.invokestatic 163, 3) := by decide +kernel
theorem dX7_does_75 : decode cX7_does 75 = .ok (.iconst 1, 1) := by decide +kernel
theorem dX7_does_76 : decode cX7_does 76 = .ok (.ireturn, 1) := by decide +kernel
theorem dX7_does_77 : decode cX7_does 77 = .ok (.aload_n 0, 1) := by decide +kernel
theorem dX7_does_78 : decode cX7_does 78 = .ok (.iload_n 2, 1) := by decide +kernel
theorem dX7_does_79 : decode cX7_does 79 = .ok (.invokevirtual 144, 3) := by decide +kernel
theorem dX7_does_82 : decode cX7_does 82 = .ok (.ifCond .ne 21, 3) := by decide +kernel
theorem dX7_does_85 : decode cX7_does 85 = .ok (.iload 5, 2) := by decide +kernel
theorem dX7_does_87 : decode cX7_does 87 = .ok (.ifCond .ne 16, 3) := by decide +kernel
theorem dX7_does_90 : decode cX7_does 90 = .ok (.aload_n 0, 1) := by decide +kernel
theorem dX7_does_91 : decode cX7_does 91 = .ok (.getfield 25, 3) := by decide +kernel
theorem dX7_does_94 : decode cX7_does 94 = .ok (.iconst 0, 1) := by decide +kernel
theorem dX7_does_95 : decode cX7_does 95 = .ok (.iaload, 1) := by decide +kernel
theorem dX7_does_96 : decode cX7_does 96 = .ok (.iload_n 2, 1) := by decide +kernel
theorem dX7_does_97 : decode cX7_does 97 = .ok (.invokestatic 119, 3) := by decide +kernel
theorem dX7_does_100 : decode cX7_does 100 = .ok (.ifCond .ne 5, 3) := by decide +kernel
theorem dX7_does_103 : decode cX7_does 103 = .ok (.iconst 0, 1) := by decide +kernel
theorem dX7_does_104 : decode cX7_does 104 = .ok (.ireturn, 1) := by decide +kernel
theorem dX7_does_105 : decode cX7_does 105 = .ok (.aload_n 0, 1) := by decide +kernel
theorem dX7_does_106 : decode cX7_does 106 = .ok (.getfield 25, 3) := by decide +kernel
theorem dX7_does_109 : decode cX7_does 109 = .ok (.iconst 1, 1) := by decide +kernel
theorem dX7_does_110 : decode cX7_does 110 = .ok (.dup2, 1) := by decide +kernel
theorem dX7_does_111 : decode cX7_does 111 = .ok (.iaload, 1) := by decide +kernel
theorem dX7_does_112 : decode cX7_does 112 = .ok (.iconst 1, 1) := by decide +kernel
theorem dX7_does_113 : decode cX7_does 113 = .ok (.iload_n 2, 1) := by decide +kernel
theorem dX7_does_114 : decode cX7_does 114 = .ok (.ishl, 1) := by decide +kernel
theorem dX7_does_115 : decode cX7_does 115 = .ok (.ixor, 1) := by decide +kernel
theorem dX7_does_116 : decode cX7_does 116 = .ok (.iastore, 1) := by decide +kernel
theorem dX7_does_117 : decode cX7_does 117 = .ok (.iconst 1, 1) := by decide +kernel
theorem dX7_does_118 : decode cX7_does 118 = .ok (.ireturn, 1) := by decide +kernel
theorem dX7_does_119 : decode cX7_does 119 = .ok (.iload_n 2, 1) := by decide +kernel
theorem dX7_does_120 : decode cX7_does 120 = .ok (.aload_n 0, 1) := by decide +kernel
theorem dX7_does_121 : decode cX7_does 121 = .ok (.invokevirtual 101, 3) := by decide +kernel
theorem dX7_does_124 : decode cX7_does 124 = .ok (.if_icmp .ge 8, 3) := by decide +kernel
theorem dX7_does_127 : decode cX7_does 127 = .ok (.iload 5, 2) := by decide +kernel
theorem dX7_does_129 : decode cX7_does 129 = .ok (.ifCond .eq 5, 3) := by decide +kernel
theorem dX7_does_132 : decode cX7_does 132 = .ok (.iconst 0, 1) := by decide +kernel
theorem dX7_does_133 : decode cX7_does 133 = .ok (.ireturn, 1) := by decide +kernel
theorem dX7_does_134 : decode cX7_does 134 = .ok (.aload_n 0, 1) := by decide +kernel
theorem dX7_does_135 : decode cX7_does 135 = .ok (.getfield 25, 3) := by decide +kernel
theorem dX7_does_138 : decode cX7_does 138 = .ok (.iconst 2, 1) := by decide +kernel
theorem dX7_does_139 : decode cX7_does 139 = .ok (.dup2, 1) := by decide +kernel
theorem dX7_does_140 : decode cX7_does 140 = .ok (.iaload, 1) := by decide +kernel
theorem dX7_does_141 : decode cX7_does 141 = .ok (.iconst 1, 1) := by decide +kernel
theorem dX7_does_142 : decode cX7_does 142 = .ok (.iload_n 2, 1) := by decide +kernel
theorem dX7_does_143 : decode cX7_does 143 = .ok (.ishl, 1) := by decide +kernel
theorem dX7_does_144 : decode cX7_does 144 = .ok (.ixor, 1) := by decide +kernel
theorem dX7_does_145 : decode cX7_does 145 = .ok (.iastore, 1) := by decide +kernel
theorem dX7_does_146 : decode cX7_does 146 = .ok (.iconst 1, 1) := by decide +kernel
theorem dX7_does_147 : decode cX7_does 147 = .ok (.ireturn, 1) := by decide +kernel
theorem dX7_does_148 : decode cX7_does 148 = .ok (.aload_n 0, 1) := by decide +kernel
theorem dX7_does_149 : decode cX7_does 149 = .ok (.iload_n 2, 1) := by decide +kernel
theorem dX7_does_150 : decode cX7_does 150 = .ok (.invokevirtual 150, 3) := by decide +kernel
theorem dX7_does_153 : decode cX7_does 153 = .ok (.ifCond .ne 30, 3) := by decide +kernel
theorem dX7_does_156 : decode cX7_does 156 = .ok (.aload_n 0, 1) := by decide +kernel
theorem dX7_does_157 : decode cX7_does 157 = .ok (.iload_n 2, 1) := by decide +kernel
theorem dX7_does_158 : decode cX7_does 158 = .ok (.aload_n 0, 1) := by decide +kernel
theorem dX7_does_159 : decode cX7_does 159 = .ok (.getfield 25, 3) := by decide +kernel
theorem dX7_does_162 : decode cX7_does 162 = .ok (.invokestatic 153, 3) := by decide +kernel
theorem dX7_does_165 : decode cX7_does 165 = .ok (.aload_n 0, 1) := by decide +kernel
theorem dX7_does_166 : decode cX7_does 166 = .ok (.getfield 25, 3) := by decide +kernel
theorem dX7_does_169 : decode cX7_does 169 = .ok (.iconst 2, 1) := by decide +kernel
theorem dX7_does_170 : decode cX7_does 170 = .ok (.iaload, 1) := by decide +kernel
theorem dX7_does_171 : decode cX7_does 171 = .ok (.invokevirtual 133, 3) := by decide +kernel
theorem dX7_does_174 : decode cX7_does 174 = .ok (.iload 5, 2) := by decide +kernel
theorem dX7_does_176 : decode cX7_does 176 = .ok (.if_icmp .lt 7, 3) := by decide +kernel
theorem dX7_does_179 : decode cX7_does 179 = .ok (.iconst 1, 1) := by decide +kernel
theorem dX7_does_180 : decode cX7_does 180 = .ok (.goto 4, 3) := by decide +kernel
theorem dX7_does_183 : decode cX7_does 183 = .ok (.iconst 0, 1) := by decide +kernel
theorem dX7_does_184 : decode cX7_does 184 = .ok (.ireturn, 1) := by decide +kernel
theorem dX7_does_185 : decode cX7_does 185 = .ok (.aload_n 0, 1) := by decide +kernel
theorem dX7_does_186 : decode cX7_does 186 = .ok (.iload_n 2, 1) := by decide +kernel
theorem dX7_does_187 : decode cX7_does 187 = .ok (.invokevirtual 150, 3) := by decide +kernel
theorem dX7_does_190 : decode cX7_does 190 = .ok (.ifCond .ne 55, 3) := by decide +kernel
theorem dX7_does_193 : decode cX7_does 193 = .ok (.iload_n 3, 1) := by decide +kernel
theorem dX7_does_194 : decode cX7_does 194 = .ok (.iconst 2, 1) := by decide +kernel
theorem dX7_does_195 : decode cX7_does 195 = .ok (.if_icmp .ge 50, 3) := by decide +kernel
theorem dX7_does_198 : decode cX7_does 198 = .ok (.iload 4, 2) := by decide +kernel
theorem dX7_does_200 : decode cX7_does 200 = .ok (.ifCond .ne 45, 3) := by decide +kernel
theorem dX7_does_203 : decode cX7_does 203 = .ok (.aload_n 0, 1) := by decide +kernel
theorem dX7_does_204 : decode cX7_does 204 = .ok (.aload_n 0, 1) := by decide +kernel
theorem dX7_does_205 : decode cX7_does 205 = .ok (.getfield 25, 3) := by decide +kernel
theorem dX7_does_208 : decode cX7_does 208 = .ok (.aload_n 0, 1) := by decide +kernel
theorem dX7_does_209 : decode cX7_does 209 = .ok (.getfield 25, 3) := by decide +kernel
theorem dX7_does_212 : decode cX7_does 212 = .ok (.invokestatic 153, 3) := by decide +kernel
theorem dX7_does_215 : decode cX7_does 215 = .ok (.aload_n 0, 1) := by decide +kernel
theorem dX7_does_216 : decode cX7_does 216 = .ok (.getfield 25, 3) := by decide +kernel
theorem dX7_does_219 : decode cX7_does 219 = .ok (.iconst 2, 1) := by decide +kernel
theorem dX7_does_220 : decode cX7_does 220 = .ok (.iaload, 1) := by decide +kernel
theorem dX7_does_221 : decode cX7_does 221 = .ok (.invokevirtual 136, 3) := by decide +kernel
theorem dX7_does_224 : decode cX7_does 224 = .ok (.iload_n 2, 1) := by decide +kernel
theorem dX7_does_225 : decode cX7_does 225 = .ok (.invokestatic 119, 3) := by decide +kernel
theorem dX7_does_228 : decode cX7_does 228 = .ok (.iload_n 3, 1) := by decide +kernel
theorem dX7_does_229 : decode cX7_does 229 = .ok (.iconst 1, 1) := by decide +kernel
theorem dX7_does_230 : decode cX7_does 230 = .ok (.if_icmp .ne 7, 3) := by decide +kernel
theorem dX7_does_233 : decode cX7_does 233 = .ok (.iconst 1, 1) := by decide +kernel
theorem dX7_does_234 : decode cX7_does 234 = .ok (.goto 4, 3) := by decide +kernel
theorem dX7_does_237 : decode cX7_does 237 = .ok (.iconst 0, 1) := by decide +kernel
theorem dX7_does_238 : decode cX7_does 238 = .ok (.if_icmp .ne 7, 3) := by decide +kernel
theorem dX7_does_241 : decode cX7_does 241 = .ok (.iconst 1, 1) := by decide +kernel
theorem dX7_does_242 : decode cX7_does 242 = .ok (.goto 4, 3) := by decide +kernel
theorem dX7_does_245 : decode cX7_does 245 = .ok (.iconst 0, 1) := by decide +kernel
theorem dX7_does_246 : decode cX7_does 246 = .ok (.ireturn, 1) := by decide +kernel
theorem dX7_does_247 : decode cX7_does 247 = .ok (.aload_n 0, 1) := by decide +kernel
theorem dX7_does_248 : decode cX7_does 248 = .ok (.iload_n 2, 1) := by decide +kernel
theorem dX7_does_249 : decode cX7_does 249 = .ok (.invokevirtual 150, 3) := by decide +kernel
theorem dX7_does_252 : decode cX7_does 252 = .ok (.ifCond .eq 5, 3) := by decide +kernel
theorem dX7_does_255 : decode cX7_does 255 = .ok (.iconst 0, 1) := by decide +kernel
theorem dX7_does_256 : decode cX7_does 256 = .ok (.ireturn, 1) := by decide +kernel
theorem dX7_does_257 : decode cX7_does 257 = .ok (.aload_n 0, 1) := by decide +kernel
theorem dX7_does_258 : decode cX7_does 258 = .ok (.getfield 25, 3) := by decide +kernel
theorem dX7_does_261 : decode cX7_does 261 = .ok (.iconst 3, 1) := by decide +kernel
theorem dX7_does_262 : decode cX7_does 262 = .ok (.iload_n 2, 1) := by decide +kernel
theorem dX7_does_263 : decode cX7_does 263 = .ok (.iadd, 1) := by decide +kernel
theorem dX7_does_264 : decode cX7_does 264 = .ok (.iload 5, 2) := by decide +kernel
theorem dX7_does_266 : decode cX7_does 266 = .ok (.iastore, 1) := by decide +kernel
theorem dX7_does_267 : decode cX7_does 267 = .ok (.iconst 1, 1) := by decide +kernel
theorem dX7_does_268 : decode cX7_does 268 = .ok (.ireturn, 1) := by decide +kernel
theorem dX7_does_269 : decode cX7_does 269 = .ok (.aload_n 0, 1) := by decide +kernel
theorem dX7_does_270 : decode cX7_does 270 = .ok (.iload_n 2, 1) := by decide +kernel
theorem dX7_does_271 : decode cX7_does 271 = .ok (.invokevirtual 144, 3) := by decide +kernel
theorem dX7_does_274 : decode cX7_does 274 = .ok (.ifCond .ne 57, 3) := by decide +kernel
theorem dX7_does_277 : decode cX7_does 277 = .ok (.aload_n 0, 1) := by decide +kernel
theorem dX7_does_278 : decode cX7_does 278 = .ok (.iload_n 3, 1) := by decide +kernel
theorem dX7_does_279 : decode cX7_does 279 = .ok (.invokevirtual 150, 3) := by decide +kernel
theorem dX7_does_282 : decode cX7_does 282 = .ok (.ifCond .ne 49, 3) := by decide +kernel
theorem dX7_does_285 : decode cX7_does 285 = .ok (.iload 4, 2) := by decide +kernel
theorem dX7_does_287 : decode cX7_does 287 = .ok (.iconst 2, 1) := by decide +kernel
theorem dX7_does_288 : decode cX7_does 288 = .ok (.if_icmp .ge 43, 3) := by decide +kernel
theorem dX7_does_291 : decode cX7_does 291 = .ok (.aload_n 0, 1) := by decide +kernel
theorem dX7_does_292 : decode cX7_does 292 = .ok (.iload_n 2, 1) := by decide +kernel
theorem dX7_does_293 : decode cX7_does 293 = .ok (.iload_n 3, 1) := by decide +kernel
theorem dX7_does_294 : decode cX7_does 294 = .ok (.aload_n 0, 1) := by decide +kernel
theorem dX7_does_295 : decode cX7_does 295 = .ok (.getfield 25, 3) := by decide +kernel
theorem dX7_does_298 : decode cX7_does 298 = .ok (.iconst 2, 1) := by decide +kernel
theorem dX7_does_299 : decode cX7_does 299 = .ok (.iaload, 1) := by decide +kernel
theorem dX7_does_300 : decode cX7_does 300 = .ok (.invokevirtual 126, 3) := by decide +kernel
theorem dX7_does_303 : decode cX7_does 303 = .ok (.bipush (-9), 2) := by decide +kernel
theorem dX7_does_305 : decode cX7_does 305 = .ok (.if_icmp .eq 7, 3) := by decide +kernel
theorem dX7_does_308 : decode cX7_does 308 = .ok (.iconst 1, 1) := by decide +kernel
theorem dX7_does_309 : decode cX7_does 309 = .ok (.goto 4, 3) := by decide +kernel
theorem dX7_does_312 : decode cX7_does 312 = .ok (.iconst 0, 1) := by decide +kernel
theorem dX7_does_313 : decode cX7_does 313 = .ok (.iload 4, 2) := by decide +kernel
theorem dX7_does_315 : decode cX7_does 315 = .ok (.iconst 1, 1) := by decide +kernel
theorem dX7_does_316 : decode cX7_does 316 = .ok (.if_icmp .ne 7, 3) := by decide +kernel
theorem dX7_does_319 : decode cX7_does 319 = .ok (.iconst 1, 1) := by decide +kernel
theorem dX7_does_320 : decode cX7_does 320 = .ok (.goto 4, 3) := by decide +kernel
theorem dX7_does_323 : decode cX7_does 323 = .ok (.iconst 0, 1) := by decide +kernel
theorem dX7_does_324 : decode cX7_does 324 = .ok (.if_icmp .ne 7, 3) := by decide +kernel
theorem dX7_does_327 : decode cX7_does 327 = .ok (.iconst 1, 1) := by decide +kernel
theorem dX7_does_328 : decode cX7_does 328 = .ok (.goto 4, 3) := by decide +kernel
theorem dX7_does_331 : decode cX7_does 331 = .ok (.iconst 0, 1) := by decide +kernel
theorem dX7_does_332 : decode cX7_does 332 = .ok (.ireturn, 1) := by decide +kernel
theorem dX7_does_333 : decode cX7_does 333 = .ok (.iconst 0, 1) := by decide +kernel
theorem dX7_does_334 : decode cX7_does 334 = .ok (.ireturn, 1) := by decide +kernel
theorem dX7_longPower_0 : decode cX7_longPower 0 = .ok (.lconst 1, 1) := by decide +kernel
theorem dX7_longPower_1 : decode cX7_longPower 1 = .ok (.lstore_n 3, 1) := by decide +kernel
theorem dX7_longPower_2 : decode cX7_longPower 2 = .ok (.iconst 0, 1) := by decide +kernel
theorem dX7_longPower_3 : decode cX7_longPower 3 = .ok (.istore 5, 2) := by decide +kernel
theorem dX7_longPower_5 : decode cX7_longPower 5 = .ok (.iload 5, 2) := by decide +kernel
theorem dX7_longPower_7 : decode cX7_longPower 7 = .ok (.iload_n 2, 1) := by decide +kernel
theorem dX7_longPower_8 : decode cX7_longPower 8 = .ok (.if_icmp .ge 13, 3) := by decide +kernel
theorem dX7_longPower_11 : decode cX7_longPower 11 = .ok (.lload_n 3, 1) := by decide +kernel
theorem dX7_longPower_12 : decode cX7_longPower 12 = .ok (.lload_n 0, 1) := by decide +kernel
theorem dX7_longPower_13 : decode cX7_longPower 13 = .ok (.lmul, 1) := by decide +kernel
theorem dX7_longPower_14 : decode cX7_longPower 14 = .ok (.lstore_n 3, 1) := by decide +kernel
theorem dX7_longPower_15 : decode cX7_longPower 15 = .ok (.iinc 5 1, 3) := by decide +kernel
theorem dX7_longPower_18 : decode cX7_longPower 18 = .ok (.goto (-13), 3) := by decide +kernel
theorem dX7_longPower_21 : decode cX7_longPower 21 = .ok (.lload_n 3, 1) := by decide +kernel
theorem dX7_longPower_22 : decode cX7_longPower 22 = .ok (.lreturn, 1) := by decide +kernel
theorem dX7_judge_0 : decode cX7_judge 0 = .ok (.aload_n 0, 1) := by decide +kernel
theorem dX7_judge_1 : decode cX7_judge 1 = .ok (.iconst 0, 1) := by decide +kernel
theorem dX7_judge_2 : decode cX7_judge 2 = .ok (.putfield 51, 3) := by decide +kernel
theorem dX7_judge_5 : decode cX7_judge 5 = .ok (.iload_n 1, 1) := by decide +kernel
theorem dX7_judge_6 : decode cX7_judge 6 = .ok (.i2l, 1) := by decide +kernel
theorem dX7_judge_7 : decode cX7_judge 7 = .ok (.lconst 1, 1) := by decide +kernel
theorem dX7_judge_8 : decode cX7_judge 8 = .ok (.ldc2_w 207, 3) := by decide +kernel
theorem dX7_judge_11 : decode cX7_judge 11 = .ok (.invokestatic 58, 3) := by decide +kernel
theorem dX7_judge_14 : decode cX7_judge 14 = .ok (.ifCond .eq 20, 3) := by decide +kernel
theorem dX7_judge_17 : decode cX7_judge 17 = .ok (.lload_n 2, 1) := by decide +kernel
theorem dX7_judge_18 : decode cX7_judge 18 = .ok (.lconst 0, 1) := by decide +kernel
theorem dX7_judge_19 : decode cX7_judge 19 = .ok (.ldc2_w 209, 3) := by decide +kernel
theorem dX7_judge_22 : decode cX7_judge 22 = .ok (.iload_n 1, 1) := by decide +kernel
theorem dX7_judge_23 : decode cX7_judge 23 = .ok (.invokestatic 211, 3) := by decide +kernel
theorem dX7_judge_26 : decode cX7_judge 26 = .ok (.lconst 1, 1) := by decide +kernel
theorem dX7_judge_27 : decode cX7_judge 27 = .ok (.lsub, 1) := by decide +kernel
theorem dX7_judge_28 : decode cX7_judge 28 = .ok (.invokestatic 58, 3) := by decide +kernel
theorem dX7_judge_31 : decode cX7_judge 31 = .ok (.ifCond .ne 6, 3) := by decide +kernel
theorem dX7_judge_34 : decode cX7_judge 34 = .ok (.bipush (-2), 2) := by decide +kernel
theorem dX7_judge_36 : decode cX7_judge 36 = .ok (.ireturn, 1) := by decide +kernel
theorem dX7_judge_37 : decode cX7_judge 37 = .ok (.aload_n 0, 1) := by decide +kernel
theorem dX7_judge_38 : decode cX7_judge 38 = .ok (.getfield 22, 3) := by decide +kernel
theorem dX7_judge_41 : decode cX7_judge 41 = .ok (.aload_n 0, 1) := by decide +kernel
theorem dX7_judge_42 : decode cX7_judge 42 = .ok (.getfield 25, 3) := by decide +kernel
theorem dX7_judge_45 : decode cX7_judge 45 = .ok (.invokestatic 97, 3) := by decide +kernel
theorem dX7_judge_48 : decode cX7_judge 48 = .ok (.iconst 0, 1) := by decide +kernel
theorem dX7_judge_49 : decode cX7_judge 49 = .ok (.istore 4, 2) := by decide +kernel
theorem dX7_judge_51 : decode cX7_judge 51 = .ok (.iload 4, 2) := by decide +kernel
theorem dX7_judge_53 : decode cX7_judge 53 = .ok (.iload_n 1, 1) := by decide +kernel
theorem dX7_judge_54 : decode cX7_judge 54 = .ok (.if_icmp .ge 67, 3) := by decide +kernel
theorem dX7_judge_57 : decode cX7_judge 57 = .ok (.lload_n 2, 1) := by decide +kernel
theorem dX7_judge_58 : decode cX7_judge 58 = .ok (.ldc2_w 209, 3) := by decide +kernel
theorem dX7_judge_61 : decode cX7_judge 61 = .ok (.iload_n 1, 1) := by decide +kernel
theorem dX7_judge_62 : decode cX7_judge 62 = .ok (.iconst 1, 1) := by decide +kernel
theorem dX7_judge_63 : decode cX7_judge 63 = .ok (.isub, 1) := by decide +kernel
theorem dX7_judge_64 : decode cX7_judge 64 = .ok (.iload 4, 2) := by decide +kernel
theorem dX7_judge_66 : decode cX7_judge 66 = .ok (.isub, 1) := by decide +kernel
theorem dX7_judge_67 : decode cX7_judge 67 = .ok (.invokestatic 211, 3) := by decide +kernel
theorem dX7_judge_70 : decode cX7_judge 70 = .ok (.ldiv, 1) := by decide +kernel
theorem dX7_judge_71 : decode cX7_judge 71 = .ok (.ldc2_w 209, 3) := by decide +kernel
theorem dX7_judge_74 : decode cX7_judge 74 = .ok (.lrem, 1) := by decide +kernel
theorem dX7_judge_75 : decode cX7_judge 75 = .ok (.l2i, 1) := by decide +kernel
theorem dX7_judge_76 : decode cX7_judge 76 = .ok (.istore 5, 2) := by decide +kernel
theorem dX7_judge_78 : decode cX7_judge 78 = .ok (.aload_n 0, 1) := by decide +kernel
theorem dX7_judge_79 : decode cX7_judge 79 = .ok (.iload 5, 2) := by decide +kernel
theorem dX7_judge_81 : decode cX7_judge 81 = .ok (.sipush 1000, 3) := by decide +kernel
theorem dX7_judge_84 : decode cX7_judge 84 = .ok (.idiv, 1) := by decide +kernel
theorem dX7_judge_85 : decode cX7_judge 85 = .ok (.iload 5, 2) := by decide +kernel
theorem dX7_judge_87 : decode cX7_judge 87 = .ok (.bipush 100, 2) := by decide +kernel
theorem dX7_judge_89 : decode cX7_judge 89 = .ok (.idiv, 1) := by decide +kernel
theorem dX7_judge_90 : decode cX7_judge 90 = .ok (.bipush 10, 2) := by decide +kernel
theorem dX7_judge_92 : decode cX7_judge 92 = .ok (.irem, 1) := by decide +kernel
theorem dX7_judge_93 : decode cX7_judge 93 = .ok (.iload 5, 2) := by decide +kernel
theorem dX7_judge_95 : decode cX7_judge 95 = .ok (.bipush 10, 2) := by decide +kernel
theorem dX7_judge_97 : decode cX7_judge 97 = .ok (.idiv, 1) := by decide +kernel
theorem dX7_judge_98 : decode cX7_judge 98 = .ok (.bipush 10, 2) := by decide +kernel
theorem dX7_judge_100 : decode cX7_judge 100 = .ok (.irem, 1) := by decide +kernel
theorem dX7_judge_101 : decode cX7_judge 101 = .ok (.iload 5, 2) := by decide +kernel
theorem dX7_judge_103 : decode cX7_judge 103 = .ok (.bipush 10, 2) := by decide +kernel
theorem dX7_judge_105 : decode cX7_judge 105 = .ok (.irem, 1) := by decide +kernel
theorem dX7_judge_106 : decode cX7_judge 106 = .ok (.invokevirtual 215, 3) := by decide +kernel
theorem dX7_judge_109 : decode cX7_judge 109 = .ok (.ifCond .ne 6, 3) := by decide +kernel
theorem dX7_judge_112 : decode cX7_judge 112 = .ok (.iload 4, 2) := by decide +kernel
theorem dX7_judge_114 : decode cX7_judge 114 = .ok (.ireturn, 1) := by decide +kernel
theorem dX7_judge_115 : decode cX7_judge 115 = .ok (.iinc 4 1, 3) := by decide +kernel
theorem dX7_judge_118 : decode cX7_judge 118 = .ok (.goto (-67), 3) := by decide +kernel
theorem dX7_judge_121 : decode cX7_judge 121 = .ok (.bipush (-9), 2) := by decide +kernel
theorem dX7_judge_123 : decode cX7_judge 123 = .ok (.ireturn, 1) := by decide +kernel
theorem dX7_see_0 : decode cX7_see 0 = .ok (.aload_n 0, 1) := by decide +kernel
theorem dX7_see_1 : decode cX7_see 1 = .ok (.iconst 0, 1) := by decide +kernel
theorem dX7_see_2 : decode cX7_see 2 = .ok (.putfield 51, 3) := by decide +kernel
theorem dX7_see_5 : decode cX7_see 5 = .ok (.aload_n 0, 1) := by decide +kernel
theorem dX7_see_6 : decode cX7_see 6 = .ok (.iload_n 1, 1) := by decide +kernel
theorem dX7_see_7 : decode cX7_see 7 = .ok (.invokevirtual 150, 3) := by decide +kernel
theorem dX7_see_10 : decode cX7_see 10 = .ok (.ifCond .eq 5, 3) := by decide +kernel
theorem dX7_see_13 : decode cX7_see 13 = .ok (.iconst (-1), 1) := by decide +kernel
theorem dX7_see_14 : decode cX7_see 14 = .ok (.ireturn, 1) := by decide +kernel
theorem dX7_see_15 : decode cX7_see 15 = .ok (.iload_n 2, 1) := by decide +kernel
theorem dX7_see_16 : decode cX7_see 16 = .ok (.i2l, 1) := by decide +kernel
theorem dX7_see_17 : decode cX7_see 17 = .ok (.lconst 0, 1) := by decide +kernel
theorem dX7_see_18 : decode cX7_see 18 = .ok (.ldc2_w 218, 3) := by decide +kernel
theorem dX7_see_21 : decode cX7_see 21 = .ok (.invokestatic 58, 3) := by decide +kernel
theorem dX7_see_24 : decode cX7_see 24 = .ok (.ifCond .eq 13, 3) := by decide +kernel
theorem dX7_see_27 : decode cX7_see 27 = .ok (.iload_n 3, 1) := by decide +kernel
theorem dX7_see_28 : decode cX7_see 28 = .ok (.i2l, 1) := by decide +kernel
theorem dX7_see_29 : decode cX7_see 29 = .ok (.lconst 0, 1) := by decide +kernel
theorem dX7_see_30 : decode cX7_see 30 = .ok (.lconst 1, 1) := by decide +kernel
theorem dX7_see_31 : decode cX7_see 31 = .ok (.invokestatic 58, 3) := by decide +kernel
theorem dX7_see_34 : decode cX7_see 34 = .ok (.ifCond .ne 6, 3) := by decide +kernel
theorem dX7_see_37 : decode cX7_see 37 = .ok (.bipush (-2), 2) := by decide +kernel
theorem dX7_see_39 : decode cX7_see 39 = .ok (.ireturn, 1) := by decide +kernel
theorem dX7_see_40 : decode cX7_see 40 = .ok (.aload_n 0, 1) := by decide +kernel
theorem dX7_see_41 : decode cX7_see 41 = .ok (.getfield 220, 3) := by decide +kernel
theorem dX7_see_44 : decode cX7_see 44 = .ok (.bipush 6, 2) := by decide +kernel
theorem dX7_see_46 : decode cX7_see 46 = .ok (.if_icmp .ne 6, 3) := by decide +kernel
theorem dX7_see_49 : decode cX7_see 49 = .ok (.bipush (-4), 2) := by decide +kernel
theorem dX7_see_51 : decode cX7_see 51 = .ok (.ireturn, 1) := by decide +kernel
theorem dX7_see_52 : decode cX7_see 52 = .ok (.aload_n 0, 1) := by decide +kernel
theorem dX7_see_53 : decode cX7_see 53 = .ok (.getfield 38, 3) := by decide +kernel
theorem dX7_see_56 : decode cX7_see 56 = .ok (.aload_n 0, 1) := by decide +kernel
theorem dX7_see_57 : decode cX7_see 57 = .ok (.getfield 220, 3) := by decide +kernel
theorem dX7_see_60 : decode cX7_see 60 = .ok (.iload_n 1, 1) := by decide +kernel
theorem dX7_see_61 : decode cX7_see 61 = .ok (.iastore, 1) := by decide +kernel
theorem dX7_see_62 : decode cX7_see 62 = .ok (.aload_n 0, 1) := by decide +kernel
theorem dX7_see_63 : decode cX7_see 63 = .ok (.getfield 41, 3) := by decide +kernel
theorem dX7_see_66 : decode cX7_see 66 = .ok (.aload_n 0, 1) := by decide +kernel
theorem dX7_see_67 : decode cX7_see 67 = .ok (.getfield 220, 3) := by decide +kernel
theorem dX7_see_70 : decode cX7_see 70 = .ok (.iload_n 2, 1) := by decide +kernel
theorem dX7_see_71 : decode cX7_see 71 = .ok (.iastore, 1) := by decide +kernel
theorem dX7_see_72 : decode cX7_see 72 = .ok (.aload_n 0, 1) := by decide +kernel
theorem dX7_see_73 : decode cX7_see 73 = .ok (.getfield 44, 3) := by decide +kernel
theorem dX7_see_76 : decode cX7_see 76 = .ok (.aload_n 0, 1) := by decide +kernel
theorem dX7_see_77 : decode cX7_see 77 = .ok (.getfield 220, 3) := by decide +kernel
theorem dX7_see_80 : decode cX7_see 80 = .ok (.iload_n 3, 1) := by decide +kernel
theorem dX7_see_81 : decode cX7_see 81 = .ok (.iastore, 1) := by decide +kernel
theorem dX7_see_82 : decode cX7_see 82 = .ok (.aload_n 0, 1) := by decide +kernel
theorem dX7_see_83 : decode cX7_see 83 = .ok (.dup, 1) := by decide +kernel
theorem dX7_see_84 : decode cX7_see 84 = .ok (.getfield 220, 3) := by decide +kernel
theorem dX7_see_87 : decode cX7_see 87 = .ok (.iconst 1, 1) := by decide +kernel
theorem dX7_see_88 : decode cX7_see 88 = .ok (.iadd, 1) := by decide +kernel
theorem dX7_see_89 : decode cX7_see 89 = .ok (.putfield 220, 3) := by decide +kernel
theorem dX7_see_92 : decode cX7_see 92 = .ok (.aload_n 0, 1) := by decide +kernel
theorem dX7_see_93 : decode cX7_see 93 = .ok (.getfield 220, 3) := by decide +kernel
theorem dX7_see_96 : decode cX7_see 96 = .ok (.ireturn, 1) := by decide +kernel
theorem dX7_unsee_0 : decode cX7_unsee 0 = .ok (.aload_n 0, 1) := by decide +kernel
theorem dX7_unsee_1 : decode cX7_unsee 1 = .ok (.iconst 0, 1) := by decide +kernel
theorem dX7_unsee_2 : decode cX7_unsee 2 = .ok (.putfield 51, 3) := by decide +kernel
theorem dX7_unsee_5 : decode cX7_unsee 5 = .ok (.aload_n 0, 1) := by decide +kernel
theorem dX7_unsee_6 : decode cX7_unsee 6 = .ok (.getfield 220, 3) := by decide +kernel
theorem dX7_unsee_9 : decode cX7_unsee 9 = .ok (.istore_n 1, 1) := by decide +kernel
theorem dX7_unsee_10 : decode cX7_unsee 10 = .ok (.aload_n 0, 1) := by decide +kernel
theorem dX7_unsee_11 : decode cX7_unsee 11 = .ok (.iconst 0, 1) := by decide +kernel
theorem dX7_unsee_12 : decode cX7_unsee 12 = .ok (.putfield 220, 3) := by decide +kernel
theorem dX7_unsee_15 : decode cX7_unsee 15 = .ok (.iload_n 1, 1) := by decide +kernel
theorem dX7_unsee_16 : decode cX7_unsee 16 = .ok (.ireturn, 1) := by decide +kernel
theorem dX7_isSo_0 : decode cX7_isSo 0 = .ok (.aload_n 0, 1) := by decide +kernel
theorem dX7_isSo_1 : decode cX7_isSo 1 = .ok (.aload_n 0, 1) := by decide +kernel
theorem dX7_isSo_2 : decode cX7_isSo 2 = .ok (.getfield 38, 3) := by decide +kernel
theorem dX7_isSo_5 : decode cX7_isSo 5 = .ok (.iload_n 2, 1) := by decide +kernel
theorem dX7_isSo_6 : decode cX7_isSo 6 = .ok (.iaload, 1) := by decide +kernel
theorem dX7_isSo_7 : decode cX7_isSo 7 = .ok (.invokevirtual 150, 3) := by decide +kernel
theorem dX7_isSo_10 : decode cX7_isSo 10 = .ok (.ifCond .ne 52, 3) := by decide +kernel
theorem dX7_isSo_13 : decode cX7_isSo 13 = .ok (.aload_n 0, 1) := by decide +kernel
theorem dX7_isSo_14 : decode cX7_isSo 14 = .ok (.aload_n 0, 1) := by decide +kernel
theorem dX7_isSo_15 : decode cX7_isSo 15 = .ok (.getfield 38, 3) := by decide +kernel
theorem dX7_isSo_18 : decode cX7_isSo 18 = .ok (.iload_n 2, 1) := by decide +kernel
theorem dX7_isSo_19 : decode cX7_isSo 19 = .ok (.iaload, 1) := by decide +kernel
theorem dX7_isSo_20 : decode cX7_isSo 20 = .ok (.iload_n 1, 1) := by decide +kernel
theorem dX7_isSo_21 : decode cX7_isSo 21 = .ok (.aload_n 0, 1) := by decide +kernel
theorem dX7_isSo_22 : decode cX7_isSo 22 = .ok (.getfield 22, 3) := by decide +kernel
theorem dX7_isSo_25 : decode cX7_isSo 25 = .ok (.iconst 2, 1) := by decide +kernel
theorem dX7_isSo_26 : decode cX7_isSo 26 = .ok (.iaload, 1) := by decide +kernel
theorem dX7_isSo_27 : decode cX7_isSo 27 = .ok (.invokevirtual 133, 3) := by decide +kernel
theorem dX7_isSo_30 : decode cX7_isSo 30 = .ok (.aload_n 0, 1) := by decide +kernel
theorem dX7_isSo_31 : decode cX7_isSo 31 = .ok (.getfield 41, 3) := by decide +kernel
theorem dX7_isSo_34 : decode cX7_isSo 34 = .ok (.iload_n 2, 1) := by decide +kernel
theorem dX7_isSo_35 : decode cX7_isSo 35 = .ok (.iaload, 1) := by decide +kernel
theorem dX7_isSo_36 : decode cX7_isSo 36 = .ok (.if_icmp .lt 7, 3) := by decide +kernel
theorem dX7_isSo_39 : decode cX7_isSo 39 = .ok (.iconst 1, 1) := by decide +kernel
theorem dX7_isSo_40 : decode cX7_isSo 40 = .ok (.goto 4, 3) := by decide +kernel
theorem dX7_isSo_43 : decode cX7_isSo 43 = .ok (.iconst 0, 1) := by decide +kernel
theorem dX7_isSo_44 : decode cX7_isSo 44 = .ok (.aload_n 0, 1) := by decide +kernel
theorem dX7_isSo_45 : decode cX7_isSo 45 = .ok (.getfield 44, 3) := by decide +kernel
theorem dX7_isSo_48 : decode cX7_isSo 48 = .ok (.iload_n 2, 1) := by decide +kernel
theorem dX7_isSo_49 : decode cX7_isSo 49 = .ok (.iaload, 1) := by decide +kernel
theorem dX7_isSo_50 : decode cX7_isSo 50 = .ok (.iconst 1, 1) := by decide +kernel
theorem dX7_isSo_51 : decode cX7_isSo 51 = .ok (.if_icmp .ne 7, 3) := by decide +kernel
theorem dX7_isSo_54 : decode cX7_isSo 54 = .ok (.iconst 1, 1) := by decide +kernel
theorem dX7_isSo_55 : decode cX7_isSo 55 = .ok (.goto 4, 3) := by decide +kernel
theorem dX7_isSo_58 : decode cX7_isSo 58 = .ok (.iconst 0, 1) := by decide +kernel
theorem dX7_isSo_59 : decode cX7_isSo 59 = .ok (.if_icmp .ne 7, 3) := by decide +kernel
theorem dX7_isSo_62 : decode cX7_isSo 62 = .ok (.iconst 1, 1) := by decide +kernel
theorem dX7_isSo_63 : decode cX7_isSo 63 = .ok (.goto 4, 3) := by decide +kernel
theorem dX7_isSo_66 : decode cX7_isSo 66 = .ok (.iconst 0, 1) := by decide +kernel
theorem dX7_isSo_67 : decode cX7_isSo 67 = .ok (.ireturn, 1) := by decide +kernel
theorem dX7_which_0 : decode cX7_which 0 = .ok (.aload_n 0, 1) := by decide +kernel
theorem dX7_which_1 : decode cX7_which 1 = .ok (.iconst 0, 1) := by decide +kernel
theorem dX7_which_2 : decode cX7_which 2 = .ok (.putfield 51, 3) := by decide +kernel
theorem dX7_which_5 : decode cX7_which 5 = .ok (.iconst 0, 1) := by decide +kernel
theorem dX7_which_6 : decode cX7_which 6 = .ok (.istore_n 1, 1) := by decide +kernel
theorem dX7_which_7 : decode cX7_which 7 = .ok (.iconst 0, 1) := by decide +kernel
theorem dX7_which_8 : decode cX7_which 8 = .ok (.istore_n 2, 1) := by decide +kernel
theorem dX7_which_9 : decode cX7_which 9 = .ok (.iload_n 2, 1) := by decide +kernel
theorem dX7_which_10 : decode cX7_which 10 = .ok (.aload_n 0, 1) := by decide +kernel
theorem dX7_which_11 : decode cX7_which 11 = .ok (.invokevirtual 54, 3) := by decide +kernel
theorem dX7_which_14 : decode cX7_which 14 = .ok (.if_icmp .ge 85, 3) := by decide +kernel
theorem dX7_which_17 : decode cX7_which 17 = .ok (.aload_n 0, 1) := by decide +kernel
theorem dX7_which_18 : decode cX7_which 18 = .ok (.getfield 22, 3) := by decide +kernel
theorem dX7_which_21 : decode cX7_which 21 = .ok (.invokestatic 153, 3) := by decide +kernel
theorem dX7_which_24 : decode cX7_which 24 = .ok (.iload_n 2, 1) := by decide +kernel
theorem dX7_which_25 : decode cX7_which 25 = .ok (.invokestatic 119, 3) := by decide +kernel
theorem dX7_which_28 : decode cX7_which 28 = .ok (.istore_n 3, 1) := by decide +kernel
theorem dX7_which_29 : decode cX7_which 29 = .ok (.iconst 0, 1) := by decide +kernel
theorem dX7_which_30 : decode cX7_which 30 = .ok (.istore 4, 2) := by decide +kernel
theorem dX7_which_32 : decode cX7_which 32 = .ok (.iload 4, 2) := by decide +kernel
theorem dX7_which_34 : decode cX7_which 34 = .ok (.aload_n 0, 1) := by decide +kernel
theorem dX7_which_35 : decode cX7_which 35 = .ok (.getfield 220, 3) := by decide +kernel
theorem dX7_which_38 : decode cX7_which 38 = .ok (.if_icmp .ge 41, 3) := by decide +kernel
theorem dX7_which_41 : decode cX7_which 41 = .ok (.iload_n 3, 1) := by decide +kernel
theorem dX7_which_42 : decode cX7_which 42 = .ok (.ifCond .eq 29, 3) := by decide +kernel
theorem dX7_which_45 : decode cX7_which 45 = .ok (.aload_n 0, 1) := by decide +kernel
theorem dX7_which_46 : decode cX7_which 46 = .ok (.aload_n 0, 1) := by decide +kernel
theorem dX7_which_47 : decode cX7_which 47 = .ok (.getfield 22, 3) := by decide +kernel
theorem dX7_which_50 : decode cX7_which 50 = .ok (.invokestatic 153, 3) := by decide +kernel
theorem dX7_which_53 : decode cX7_which 53 = .ok (.iconst 1, 1) := by decide +kernel
theorem dX7_which_54 : decode cX7_which 54 = .ok (.iload_n 2, 1) := by decide +kernel
theorem dX7_which_55 : decode cX7_which 55 = .ok (.ishl, 1) := by decide +kernel
theorem dX7_which_56 : decode cX7_which 56 = .ok (.iconst (-1), 1) := by decide +kernel
theorem dX7_which_57 : decode cX7_which 57 = .ok (.ixor, 1) := by decide +kernel
theorem dX7_which_58 : decode cX7_which 58 = .ok (.iand, 1) := by decide +kernel
theorem dX7_which_59 : decode cX7_which 59 = .ok (.iload 4, 2) := by decide +kernel
theorem dX7_which_61 : decode cX7_which 61 = .ok (.invokevirtual 223, 3) := by decide +kernel
theorem dX7_which_64 : decode cX7_which 64 = .ok (.ifCond .eq 7, 3) := by decide +kernel
theorem dX7_which_67 : decode cX7_which 67 = .ok (.iconst 1, 1) := by decide +kernel
theorem dX7_which_68 : decode cX7_which 68 = .ok (.goto 4, 3) := by decide +kernel
theorem dX7_which_71 : decode cX7_which 71 = .ok (.iconst 0, 1) := by decide +kernel
theorem dX7_which_72 : decode cX7_which 72 = .ok (.istore_n 3, 1) := by decide +kernel
theorem dX7_which_73 : decode cX7_which 73 = .ok (.iinc 4 1, 3) := by decide +kernel
theorem dX7_which_76 : decode cX7_which 76 = .ok (.goto (-44), 3) := by decide +kernel
theorem dX7_which_79 : decode cX7_which 79 = .ok (.iload_n 1, 1) := by decide +kernel
theorem dX7_which_80 : decode cX7_which 80 = .ok (.iload_n 3, 1) := by decide +kernel
theorem dX7_which_81 : decode cX7_which 81 = .ok (.ifCond .eq 9, 3) := by decide +kernel
theorem dX7_which_84 : decode cX7_which 84 = .ok (.iconst 1, 1) := by decide +kernel
theorem dX7_which_85 : decode cX7_which 85 = .ok (.iload_n 2, 1) := by decide +kernel
theorem dX7_which_86 : decode cX7_which 86 = .ok (.ishl, 1) := by decide +kernel
theorem dX7_which_87 : decode cX7_which 87 = .ok (.goto 4, 3) := by decide +kernel
theorem dX7_which_90 : decode cX7_which 90 = .ok (.iconst 0, 1) := by decide +kernel
theorem dX7_which_91 : decode cX7_which 91 = .ok (.ior, 1) := by decide +kernel
theorem dX7_which_92 : decode cX7_which 92 = .ok (.istore_n 1, 1) := by decide +kernel
theorem dX7_which_93 : decode cX7_which 93 = .ok (.iinc 2 1, 3) := by decide +kernel
theorem dX7_which_96 : decode cX7_which 96 = .ok (.goto (-87), 3) := by decide +kernel
theorem dX7_which_99 : decode cX7_which 99 = .ok (.iload_n 1, 1) := by decide +kernel
theorem dX7_which_100 : decode cX7_which 100 = .ok (.ireturn, 1) := by decide +kernel
theorem dX7_divisor_0 : decode cX7_divisor 0 = .ok (.iload_n 0, 1) := by decide +kernel
theorem dX7_divisor_1 : decode cX7_divisor 1 = .ok (.ifCond .ge 8, 3) := by decide +kernel
theorem dX7_divisor_4 : decode cX7_divisor 4 = .ok (.iload_n 0, 1) := by decide +kernel
theorem dX7_divisor_5 : decode cX7_divisor 5 = .ok (.ineg, 1) := by decide +kernel
theorem dX7_divisor_6 : decode cX7_divisor 6 = .ok (.goto 4, 3) := by decide +kernel
theorem dX7_divisor_9 : decode cX7_divisor 9 = .ok (.iload_n 0, 1) := by decide +kernel
theorem dX7_divisor_10 : decode cX7_divisor 10 = .ok (.istore_n 2, 1) := by decide +kernel
theorem dX7_divisor_11 : decode cX7_divisor 11 = .ok (.iload_n 1, 1) := by decide +kernel
theorem dX7_divisor_12 : decode cX7_divisor 12 = .ok (.istore_n 3, 1) := by decide +kernel
theorem dX7_divisor_13 : decode cX7_divisor 13 = .ok (.iload_n 3, 1) := by decide +kernel
theorem dX7_divisor_14 : decode cX7_divisor 14 = .ok (.ifCond .eq 16, 3) := by decide +kernel
theorem dX7_divisor_17 : decode cX7_divisor 17 = .ok (.iload_n 2, 1) := by decide +kernel
theorem dX7_divisor_18 : decode cX7_divisor 18 = .ok (.iload_n 3, 1) := by decide +kernel
theorem dX7_divisor_19 : decode cX7_divisor 19 = .ok (.irem, 1) := by decide +kernel
theorem dX7_divisor_20 : decode cX7_divisor 20 = .ok (.istore 4, 2) := by decide +kernel
theorem dX7_divisor_22 : decode cX7_divisor 22 = .ok (.iload_n 3, 1) := by decide +kernel
theorem dX7_divisor_23 : decode cX7_divisor 23 = .ok (.istore_n 2, 1) := by decide +kernel
theorem dX7_divisor_24 : decode cX7_divisor 24 = .ok (.iload 4, 2) := by decide +kernel
theorem dX7_divisor_26 : decode cX7_divisor 26 = .ok (.istore_n 3, 1) := by decide +kernel
theorem dX7_divisor_27 : decode cX7_divisor 27 = .ok (.goto (-14), 3) := by decide +kernel
theorem dX7_divisor_30 : decode cX7_divisor 30 = .ok (.iload_n 2, 1) := by decide +kernel
theorem dX7_divisor_31 : decode cX7_divisor 31 = .ok (.ireturn, 1) := by decide +kernel
theorem dX7_fraction_0 : decode cX7_fraction 0 = .ok (.iload_n 0, 1) := by decide +kernel
theorem dX7_fraction_1 : decode cX7_fraction 1 = .ok (.iload_n 1, 1) := by decide +kernel
theorem dX7_fraction_2 : decode cX7_fraction 2 = .ok (.invokestatic 226, 3) := by decide +kernel
theorem dX7_fraction_5 : decode cX7_fraction 5 = .ok (.istore_n 3, 1) := by decide +kernel
theorem dX7_fraction_6 : decode cX7_fraction 6 = .ok (.iload_n 2, 1) := by decide +kernel
theorem dX7_fraction_7 : decode cX7_fraction 7 = .ok (.ifCond .eq 9, 3) := by decide +kernel
theorem dX7_fraction_10 : decode cX7_fraction 10 = .ok (.iload_n 0, 1) := by decide +kernel
theorem dX7_fraction_11 : decode cX7_fraction 11 = .ok (.iload_n 3, 1) := by decide +kernel
theorem dX7_fraction_12 : decode cX7_fraction 12 = .ok (.idiv, 1) := by decide +kernel
theorem dX7_fraction_13 : decode cX7_fraction 13 = .ok (.goto 6, 3) := by decide +kernel
theorem dX7_fraction_16 : decode cX7_fraction 16 = .ok (.iload_n 1, 1) := by decide +kernel
theorem dX7_fraction_17 : decode cX7_fraction 17 = .ok (.iload_n 3, 1) := by decide +kernel
theorem dX7_fraction_18 : decode cX7_fraction 18 = .ok (.idiv, 1) := by decide +kernel
theorem dX7_fraction_19 : decode cX7_fraction 19 = .ok (.ireturn, 1) := by decide +kernel
theorem dX7_factorial_0 : decode cX7_factorial 0 = .ok (.iconst 1, 1) := by decide +kernel
theorem dX7_factorial_1 : decode cX7_factorial 1 = .ok (.istore_n 1, 1) := by decide +kernel
theorem dX7_factorial_2 : decode cX7_factorial 2 = .ok (.iconst 2, 1) := by decide +kernel
theorem dX7_factorial_3 : decode cX7_factorial 3 = .ok (.istore_n 2, 1) := by decide +kernel
theorem dX7_factorial_4 : decode cX7_factorial 4 = .ok (.iload_n 2, 1) := by decide +kernel
theorem dX7_factorial_5 : decode cX7_factorial 5 = .ok (.iload_n 0, 1) := by decide +kernel
theorem dX7_factorial_6 : decode cX7_factorial 6 = .ok (.if_icmp .gt 13, 3) := by decide +kernel
theorem dX7_factorial_9 : decode cX7_factorial 9 = .ok (.iload_n 1, 1) := by decide +kernel
theorem dX7_factorial_10 : decode cX7_factorial 10 = .ok (.iload_n 2, 1) := by decide +kernel
theorem dX7_factorial_11 : decode cX7_factorial 11 = .ok (.imul, 1) := by decide +kernel
theorem dX7_factorial_12 : decode cX7_factorial 12 = .ok (.istore_n 1, 1) := by decide +kernel
theorem dX7_factorial_13 : decode cX7_factorial 13 = .ok (.iinc 2 1, 3) := by decide +kernel
theorem dX7_factorial_16 : decode cX7_factorial 16 = .ok (.goto (-12), 3) := by decide +kernel
theorem dX7_factorial_19 : decode cX7_factorial 19 = .ok (.iload_n 1, 1) := by decide +kernel
theorem dX7_factorial_20 : decode cX7_factorial 20 = .ok (.ireturn, 1) := by decide +kernel
theorem dX7_manyBy_0 : decode cX7_manyBy 0 = .ok (.aload_n 0, 1) := by decide +kernel
theorem dX7_manyBy_1 : decode cX7_manyBy 1 = .ok (.aload_n 0, 1) := by decide +kernel
theorem dX7_manyBy_2 : decode cX7_manyBy 2 = .ok (.getfield 22, 3) := by decide +kernel
theorem dX7_manyBy_5 : decode cX7_manyBy 5 = .ok (.iload_n 1, 1) := by decide +kernel
theorem dX7_manyBy_6 : decode cX7_manyBy 6 = .ok (.aload_n 0, 1) := by decide +kernel
theorem dX7_manyBy_7 : decode cX7_manyBy 7 = .ok (.getfield 22, 3) := by decide +kernel
theorem dX7_manyBy_10 : decode cX7_manyBy 10 = .ok (.iconst 2, 1) := by decide +kernel
theorem dX7_manyBy_11 : decode cX7_manyBy 11 = .ok (.iaload, 1) := by decide +kernel
theorem dX7_manyBy_12 : decode cX7_manyBy 12 = .ok (.invokevirtual 136, 3) := by decide +kernel
theorem dX7_manyBy_15 : decode cX7_manyBy 15 = .ok (.invokestatic 167, 3) := by decide +kernel
theorem dX7_manyBy_18 : decode cX7_manyBy 18 = .ok (.ireturn, 1) := by decide +kernel
theorem dX7_share_0 : decode cX7_share 0 = .ok (.aload_n 0, 1) := by decide +kernel
theorem dX7_share_1 : decode cX7_share 1 = .ok (.iconst 0, 1) := by decide +kernel
theorem dX7_share_2 : decode cX7_share 2 = .ok (.putfield 51, 3) := by decide +kernel
theorem dX7_share_5 : decode cX7_share 5 = .ok (.aload_n 0, 1) := by decide +kernel
theorem dX7_share_6 : decode cX7_share 6 = .ok (.iload_n 1, 1) := by decide +kernel
theorem dX7_share_7 : decode cX7_share 7 = .ok (.invokevirtual 144, 3) := by decide +kernel
theorem dX7_share_10 : decode cX7_share 10 = .ok (.ifCond .eq 5, 3) := by decide +kernel
theorem dX7_share_13 : decode cX7_share 13 = .ok (.iconst (-1), 1) := by decide +kernel
theorem dX7_share_14 : decode cX7_share 14 = .ok (.ireturn, 1) := by decide +kernel
theorem dX7_share_15 : decode cX7_share 15 = .ok (.aload_n 0, 1) := by decide +kernel
theorem dX7_share_16 : decode cX7_share 16 = .ok (.getfield 22, 3) := by decide +kernel
theorem dX7_share_19 : decode cX7_share 19 = .ok (.invokestatic 153, 3) := by decide +kernel
theorem dX7_share_22 : decode cX7_share 22 = .ok (.istore_n 3, 1) := by decide +kernel
theorem dX7_share_23 : decode cX7_share 23 = .ok (.iload_n 3, 1) := by decide +kernel
theorem dX7_share_24 : decode cX7_share 24 = .ok (.iload_n 1, 1) := by decide +kernel
theorem dX7_share_25 : decode cX7_share 25 = .ok (.invokestatic 119, 3) := by decide +kernel
theorem dX7_share_28 : decode cX7_share 28 = .ok (.ifCond .ne 6, 3) := by decide +kernel
theorem dX7_share_31 : decode cX7_share 31 = .ok (.bipush (-3), 2) := by decide +kernel
theorem dX7_share_33 : decode cX7_share 33 = .ok (.ireturn, 1) := by decide +kernel
theorem dX7_share_34 : decode cX7_share 34 = .ok (.iload_n 3, 1) := by decide +kernel
theorem dX7_share_35 : decode cX7_share 35 = .ok (.invokestatic 167, 3) := by decide +kernel
theorem dX7_share_38 : decode cX7_share 38 = .ok (.istore 4, 2) := by decide +kernel
theorem dX7_share_40 : decode cX7_share 40 = .ok (.iconst 0, 1) := by decide +kernel
theorem dX7_share_41 : decode cX7_share 41 = .ok (.istore 5, 2) := by decide +kernel
theorem dX7_share_43 : decode cX7_share 43 = .ok (.iconst 0, 1) := by decide +kernel
theorem dX7_share_44 : decode cX7_share 44 = .ok (.istore 6, 2) := by decide +kernel
theorem dX7_share_46 : decode cX7_share 46 = .ok (.iload 6, 2) := by decide +kernel
theorem dX7_share_48 : decode cX7_share 48 = .ok (.iconst 1, 1) := by decide +kernel
theorem dX7_share_49 : decode cX7_share 49 = .ok (.aload_n 0, 1) := by decide +kernel
theorem dX7_share_50 : decode cX7_share 50 = .ok (.invokevirtual 54, 3) := by decide +kernel
theorem dX7_share_53 : decode cX7_share 53 = .ok (.ishl, 1) := by decide +kernel
theorem dX7_share_54 : decode cX7_share 54 = .ok (.if_icmp .ge 73, 3) := by decide +kernel
theorem dX7_share_57 : decode cX7_share 57 = .ok (.iload 6, 2) := by decide +kernel
theorem dX7_share_59 : decode cX7_share 59 = .ok (.iload_n 3, 1) := by decide +kernel
theorem dX7_share_60 : decode cX7_share 60 = .ok (.iconst (-1), 1) := by decide +kernel
theorem dX7_share_61 : decode cX7_share 61 = .ok (.ixor, 1) := by decide +kernel
theorem dX7_share_62 : decode cX7_share 62 = .ok (.iand, 1) := by decide +kernel
theorem dX7_share_63 : decode cX7_share 63 = .ok (.ifCond .ne 58, 3) := by decide +kernel
theorem dX7_share_66 : decode cX7_share 66 = .ok (.iload 6, 2) := by decide +kernel
theorem dX7_share_68 : decode cX7_share 68 = .ok (.iload_n 1, 1) := by decide +kernel
theorem dX7_share_69 : decode cX7_share 69 = .ok (.invokestatic 119, 3) := by decide +kernel
theorem dX7_share_72 : decode cX7_share 72 = .ok (.ifCond .ne 49, 3) := by decide +kernel
theorem dX7_share_75 : decode cX7_share 75 = .ok (.iload 6, 2) := by decide +kernel
theorem dX7_share_77 : decode cX7_share 77 = .ok (.invokestatic 167, 3) := by decide +kernel
theorem dX7_share_80 : decode cX7_share 80 = .ok (.istore 7, 2) := by decide +kernel
theorem dX7_share_82 : decode cX7_share 82 = .ok (.iload 5, 2) := by decide +kernel
theorem dX7_share_84 : decode cX7_share 84 = .ok (.iload 7, 2) := by decide +kernel
theorem dX7_share_86 : decode cX7_share 86 = .ok (.invokestatic 229, 3) := by decide +kernel
theorem dX7_share_89 : decode cX7_share 89 = .ok (.iload 4, 2) := by decide +kernel
theorem dX7_share_91 : decode cX7_share 91 = .ok (.iconst 1, 1) := by decide +kernel
theorem dX7_share_92 : decode cX7_share 92 = .ok (.isub, 1) := by decide +kernel
theorem dX7_share_93 : decode cX7_share 93 = .ok (.iload 7, 2) := by decide +kernel
theorem dX7_share_95 : decode cX7_share 95 = .ok (.isub, 1) := by decide +kernel
theorem dX7_share_96 : decode cX7_share 96 = .ok (.invokestatic 229, 3) := by decide +kernel
theorem dX7_share_99 : decode cX7_share 99 = .ok (.imul, 1) := by decide +kernel
theorem dX7_share_100 : decode cX7_share 100 = .ok (.aload_n 0, 1) := by decide +kernel
theorem dX7_share_101 : decode cX7_share 101 = .ok (.iload 6, 2) := by decide +kernel
theorem dX7_share_103 : decode cX7_share 103 = .ok (.iconst 1, 1) := by decide +kernel
theorem dX7_share_104 : decode cX7_share 104 = .ok (.iload_n 1, 1) := by decide +kernel
theorem dX7_share_105 : decode cX7_share 105 = .ok (.ishl, 1) := by decide +kernel
theorem dX7_share_106 : decode cX7_share 106 = .ok (.ior, 1) := by decide +kernel
theorem dX7_share_107 : decode cX7_share 107 = .ok (.invokevirtual 232, 3) := by decide +kernel
theorem dX7_share_110 : decode cX7_share 110 = .ok (.aload_n 0, 1) := by decide +kernel
theorem dX7_share_111 : decode cX7_share 111 = .ok (.iload 6, 2) := by decide +kernel
theorem dX7_share_113 : decode cX7_share 113 = .ok (.invokevirtual 232, 3) := by decide +kernel
theorem dX7_share_116 : decode cX7_share 116 = .ok (.isub, 1) := by decide +kernel
theorem dX7_share_117 : decode cX7_share 117 = .ok (.imul, 1) := by decide +kernel
theorem dX7_share_118 : decode cX7_share 118 = .ok (.iadd, 1) := by decide +kernel
theorem dX7_share_119 : decode cX7_share 119 = .ok (.istore 5, 2) := by decide +kernel
theorem dX7_share_121 : decode cX7_share 121 = .ok (.iinc 6 1, 3) := by decide +kernel
theorem dX7_share_124 : decode cX7_share 124 = .ok (.goto (-78), 3) := by decide +kernel
theorem dX7_share_127 : decode cX7_share 127 = .ok (.iload 5, 2) := by decide +kernel
theorem dX7_share_129 : decode cX7_share 129 = .ok (.iload 4, 2) := by decide +kernel
theorem dX7_share_131 : decode cX7_share 131 = .ok (.invokestatic 229, 3) := by decide +kernel
theorem dX7_share_134 : decode cX7_share 134 = .ok (.iload_n 2, 1) := by decide +kernel
theorem dX7_share_135 : decode cX7_share 135 = .ok (.invokestatic 235, 3) := by decide +kernel
theorem dX7_share_138 : decode cX7_share 138 = .ok (.ireturn, 1) := by decide +kernel
theorem dX7_chance_0 : decode cX7_chance 0 = .ok (.aload_n 0, 1) := by decide +kernel
theorem dX7_chance_1 : decode cX7_chance 1 = .ok (.iconst 0, 1) := by decide +kernel
theorem dX7_chance_2 : decode cX7_chance 2 = .ok (.putfield 51, 3) := by decide +kernel
theorem dX7_chance_5 : decode cX7_chance 5 = .ok (.iload_n 1, 1) := by decide +kernel
theorem dX7_chance_6 : decode cX7_chance 6 = .ok (.i2l, 1) := by decide +kernel
theorem dX7_chance_7 : decode cX7_chance 7 = .ok (.lconst 0, 1) := by decide +kernel
theorem dX7_chance_8 : decode cX7_chance 8 = .ok (.ldc2_w 239, 3) := by decide +kernel
theorem dX7_chance_11 : decode cX7_chance 11 = .ok (.invokestatic 58, 3) := by decide +kernel
theorem dX7_chance_14 : decode cX7_chance 14 = .ok (.ifCond .ne 6, 3) := by decide +kernel
theorem dX7_chance_17 : decode cX7_chance 17 = .ok (.bipush (-2), 2) := by decide +kernel
theorem dX7_chance_19 : decode cX7_chance 19 = .ok (.ireturn, 1) := by decide +kernel
theorem dX7_chance_20 : decode cX7_chance 20 = .ok (.aload_n 0, 1) := by decide +kernel
theorem dX7_chance_21 : decode cX7_chance 21 = .ok (.getfield 22, 3) := by decide +kernel
theorem dX7_chance_24 : decode cX7_chance 24 = .ok (.invokestatic 153, 3) := by decide +kernel
theorem dX7_chance_27 : decode cX7_chance 27 = .ok (.istore_n 3, 1) := by decide +kernel
theorem dX7_chance_28 : decode cX7_chance 28 = .ok (.iload_n 3, 1) := by decide +kernel
theorem dX7_chance_29 : decode cX7_chance 29 = .ok (.invokestatic 167, 3) := by decide +kernel
theorem dX7_chance_32 : decode cX7_chance 32 = .ok (.istore 4, 2) := by decide +kernel
theorem dX7_chance_34 : decode cX7_chance 34 = .ok (.iconst 0, 1) := by decide +kernel
theorem dX7_chance_35 : decode cX7_chance 35 = .ok (.istore 5, 2) := by decide +kernel
theorem dX7_chance_37 : decode cX7_chance 37 = .ok (.iconst 0, 1) := by decide +kernel
theorem dX7_chance_38 : decode cX7_chance 38 = .ok (.istore 6, 2) := by decide +kernel
theorem dX7_chance_40 : decode cX7_chance 40 = .ok (.iload 6, 2) := by decide +kernel
theorem dX7_chance_42 : decode cX7_chance 42 = .ok (.iconst 1, 1) := by decide +kernel
theorem dX7_chance_43 : decode cX7_chance 43 = .ok (.aload_n 0, 1) := by decide +kernel
theorem dX7_chance_44 : decode cX7_chance 44 = .ok (.invokevirtual 54, 3) := by decide +kernel
theorem dX7_chance_47 : decode cX7_chance 47 = .ok (.ishl, 1) := by decide +kernel
theorem dX7_chance_48 : decode cX7_chance 48 = .ok (.if_icmp .ge 57, 3) := by decide +kernel
theorem dX7_chance_51 : decode cX7_chance 51 = .ok (.iload 6, 2) := by decide +kernel
theorem dX7_chance_53 : decode cX7_chance 53 = .ok (.iload_n 3, 1) := by decide +kernel
theorem dX7_chance_54 : decode cX7_chance 54 = .ok (.iconst (-1), 1) := by decide +kernel
theorem dX7_chance_55 : decode cX7_chance 55 = .ok (.ixor, 1) := by decide +kernel
theorem dX7_chance_56 : decode cX7_chance 56 = .ok (.iand, 1) := by decide +kernel
theorem dX7_chance_57 : decode cX7_chance 57 = .ok (.ifCond .ne 42, 3) := by decide +kernel
theorem dX7_chance_60 : decode cX7_chance 60 = .ok (.aload_n 0, 1) := by decide +kernel
theorem dX7_chance_61 : decode cX7_chance 61 = .ok (.iload 6, 2) := by decide +kernel
theorem dX7_chance_63 : decode cX7_chance 63 = .ok (.invokevirtual 172, 3) := by decide +kernel
theorem dX7_chance_66 : decode cX7_chance 66 = .ok (.ifCond .eq 33, 3) := by decide +kernel
theorem dX7_chance_69 : decode cX7_chance 69 = .ok (.iload 5, 2) := by decide +kernel
theorem dX7_chance_71 : decode cX7_chance 71 = .ok (.bipush 10, 2) := by decide +kernel
theorem dX7_chance_73 : decode cX7_chance 73 = .ok (.iload_n 1, 1) := by decide +kernel
theorem dX7_chance_74 : decode cX7_chance 74 = .ok (.isub, 1) := by decide +kernel
theorem dX7_chance_75 : decode cX7_chance 75 = .ok (.iload 6, 2) := by decide +kernel
theorem dX7_chance_77 : decode cX7_chance 77 = .ok (.invokestatic 167, 3) := by decide +kernel
theorem dX7_chance_80 : decode cX7_chance 80 = .ok (.invokestatic 241, 3) := by decide +kernel
theorem dX7_chance_83 : decode cX7_chance 83 = .ok (.iload_n 1, 1) := by decide +kernel
theorem dX7_chance_84 : decode cX7_chance 84 = .ok (.iload 4, 2) := by decide +kernel
theorem dX7_chance_86 : decode cX7_chance 86 = .ok (.iload 6, 2) := by decide +kernel
theorem dX7_chance_88 : decode cX7_chance 88 = .ok (.invokestatic 167, 3) := by decide +kernel
theorem dX7_chance_91 : decode cX7_chance 91 = .ok (.isub, 1) := by decide +kernel
theorem dX7_chance_92 : decode cX7_chance 92 = .ok (.invokestatic 241, 3) := by decide +kernel
theorem dX7_chance_95 : decode cX7_chance 95 = .ok (.imul, 1) := by decide +kernel
theorem dX7_chance_96 : decode cX7_chance 96 = .ok (.iadd, 1) := by decide +kernel
theorem dX7_chance_97 : decode cX7_chance 97 = .ok (.istore 5, 2) := by decide +kernel
theorem dX7_chance_99 : decode cX7_chance 99 = .ok (.iinc 6 1, 3) := by decide +kernel
theorem dX7_chance_102 : decode cX7_chance 102 = .ok (.goto (-62), 3) := by decide +kernel
theorem dX7_chance_105 : decode cX7_chance 105 = .ok (.iload 5, 2) := by decide +kernel
theorem dX7_chance_107 : decode cX7_chance 107 = .ok (.bipush 10, 2) := by decide +kernel
theorem dX7_chance_109 : decode cX7_chance 109 = .ok (.iload 4, 2) := by decide +kernel
theorem dX7_chance_111 : decode cX7_chance 111 = .ok (.invokestatic 241, 3) := by decide +kernel
theorem dX7_chance_114 : decode cX7_chance 114 = .ok (.iload_n 2, 1) := by decide +kernel
theorem dX7_chance_115 : decode cX7_chance 115 = .ok (.invokestatic 235, 3) := by decide +kernel
theorem dX7_chance_118 : decode cX7_chance 118 = .ok (.ireturn, 1) := by decide +kernel
theorem dX7_seed_0 : decode cX7_seed 0 = .ok (.aload_n 0, 1) := by decide +kernel
theorem dX7_seed_1 : decode cX7_seed 1 = .ok (.iconst 0, 1) := by decide +kernel
theorem dX7_seed_2 : decode cX7_seed 2 = .ok (.putfield 51, 3) := by decide +kernel
theorem dX7_seed_5 : decode cX7_seed 5 = .ok (.aload_n 0, 1) := by decide +kernel
theorem dX7_seed_6 : decode cX7_seed 6 = .ok (.getfield 244, 3) := by decide +kernel
theorem dX7_seed_9 : decode cX7_seed 9 = .ok (.lstore_n 3, 1) := by decide +kernel
theorem dX7_seed_10 : decode cX7_seed 10 = .ok (.aload_n 0, 1) := by decide +kernel
theorem dX7_seed_11 : decode cX7_seed 11 = .ok (.lload_n 1, 1) := by decide +kernel
theorem dX7_seed_12 : decode cX7_seed 12 = .ok (.putfield 244, 3) := by decide +kernel
theorem dX7_seed_15 : decode cX7_seed 15 = .ok (.lload_n 3, 1) := by decide +kernel
theorem dX7_seed_16 : decode cX7_seed 16 = .ok (.lreturn, 1) := by decide +kernel
theorem dX7_drawn_0 : decode cX7_drawn 0 = .ok (.aload_n 0, 1) := by decide +kernel
theorem dX7_drawn_1 : decode cX7_drawn 1 = .ok (.iconst 0, 1) := by decide +kernel
theorem dX7_drawn_2 : decode cX7_drawn 2 = .ok (.putfield 51, 3) := by decide +kernel
theorem dX7_drawn_5 : decode cX7_drawn 5 = .ok (.iload_n 1, 1) := by decide +kernel
theorem dX7_drawn_6 : decode cX7_drawn 6 = .ok (.i2l, 1) := by decide +kernel
theorem dX7_drawn_7 : decode cX7_drawn 7 = .ok (.lconst 1, 1) := by decide +kernel
theorem dX7_drawn_8 : decode cX7_drawn 8 = .ok (.ldc2_w 248, 3) := by decide +kernel
theorem dX7_drawn_11 : decode cX7_drawn 11 = .ok (.invokestatic 58, 3) := by decide +kernel
theorem dX7_drawn_14 : decode cX7_drawn 14 = .ok (.ifCond .ne 6, 3) := by decide +kernel
theorem dX7_drawn_17 : decode cX7_drawn 17 = .ok (.bipush (-2), 2) := by decide +kernel
theorem dX7_drawn_19 : decode cX7_drawn 19 = .ok (.ireturn, 1) := by decide +kernel
theorem dX7_drawn_20 : decode cX7_drawn 20 = .ok (.iconst 0, 1) := by decide +kernel
theorem dX7_drawn_21 : decode cX7_drawn 21 = .ok (.istore_n 2, 1) := by decide +kernel
theorem dX7_drawn_22 : decode cX7_drawn 22 = .ok (.iconst 0, 1) := by decide +kernel
theorem dX7_drawn_23 : decode cX7_drawn 23 = .ok (.istore_n 3, 1) := by decide +kernel
theorem dX7_drawn_24 : decode cX7_drawn 24 = .ok (.iload_n 3, 1) := by decide +kernel
