/-! LastWalkerModel.townLine(I)Z -/
theorem dX9_townLine_0 : decode cX9_townLine 0 = .ok (.aload_n 0, 1) := by decide +kernel
theorem dX9_townLine_1 : decode cX9_townLine 1 = .ok (.getfield 145, 3) := by decide +kernel
theorem dX9_townLine_4 : decode cX9_townLine 4 = .ok (.iconst 2, 1) := by decide +kernel
theorem dX9_townLine_5 : decode cX9_townLine 5 = .ok (.if_icmp .ne 10, 3) := by decide +kernel
theorem dX9_townLine_8 : decode cX9_townLine 8 = .ok (.aload_n 0, 1) := by decide +kernel
theorem dX9_townLine_9 : decode cX9_townLine 9 = .ok (.getfield 141, 3) := by decide +kernel
theorem dX9_townLine_12 : decode cX9_townLine 12 = .ok (.goto 4, 3) := by decide +kernel
theorem dX9_townLine_15 : decode cX9_townLine 15 = .ok (.lconst 0, 1) := by decide +kernel
theorem dX9_townLine_16 : decode cX9_townLine 16 = .ok (.lstore_n 2, 1) := by decide +kernel
theorem dX9_townLine_17 : decode cX9_townLine 17 = .ok (.lload_n 2, 1) := by decide +kernel
theorem dX9_townLine_18 : decode cX9_townLine 18 = .ok (.ldc2_w 182, 3) := by decide +kernel
theorem dX9_townLine_21 : decode cX9_townLine 21 = .ok (.lcmp, 1) := by decide +kernel
theorem dX9_townLine_22 : decode cX9_townLine 22 = .ok (.ifCond .ne 7, 3) := by decide +kernel
theorem dX9_townLine_25 : decode cX9_townLine 25 = .ok (.iconst 0, 1) := by decide +kernel
theorem dX9_townLine_26 : decode cX9_townLine 26 = .ok (.goto 40, 3) := by decide +kernel
theorem dX9_townLine_29 : decode cX9_townLine 29 = .ok (.lload_n 2, 1) := by decide +kernel
theorem dX9_townLine_30 : decode cX9_townLine 30 = .ok (.ldc2_w 184, 3) := by decide +kernel
theorem dX9_townLine_33 : decode cX9_townLine 33 = .ok (.lcmp, 1) := by decide +kernel
theorem dX9_townLine_34 : decode cX9_townLine 34 = .ok (.ifCond .ne 7, 3) := by decide +kernel
theorem dX9_townLine_37 : decode cX9_townLine 37 = .ok (.iconst 1, 1) := by decide +kernel
theorem dX9_townLine_38 : decode cX9_townLine 38 = .ok (.goto 28, 3) := by decide +kernel
theorem dX9_townLine_41 : decode cX9_townLine 41 = .ok (.lload_n 2, 1) := by decide +kernel
theorem dX9_townLine_42 : decode cX9_townLine 42 = .ok (.ldc2_w 186, 3) := by decide +kernel
theorem dX9_townLine_45 : decode cX9_townLine 45 = .ok (.lcmp, 1) := by decide +kernel
theorem dX9_townLine_46 : decode cX9_townLine 46 = .ok (.ifCond .ne 7, 3) := by decide +kernel
theorem dX9_townLine_49 : decode cX9_townLine 49 = .ok (.iconst 2, 1) := by decide +kernel
theorem dX9_townLine_50 : decode cX9_townLine 50 = .ok (.goto 16, 3) := by decide +kernel
theorem dX9_townLine_53 : decode cX9_townLine 53 = .ok (.lload_n 2, 1) := by decide +kernel
theorem dX9_townLine_54 : decode cX9_townLine 54 = .ok (.ldc2_w 188, 3) := by decide +kernel
theorem dX9_townLine_57 : decode cX9_townLine 57 = .ok (.lcmp, 1) := by decide +kernel
theorem dX9_townLine_58 : decode cX9_townLine 58 = .ok (.ifCond .ne 7, 3) := by decide +kernel
theorem dX9_townLine_61 : decode cX9_townLine 61 = .ok (.iconst 3, 1) := by decide +kernel
theorem dX9_townLine_62 : decode cX9_townLine 62 = .ok (.goto 4, 3) := by decide +kernel
theorem dX9_townLine_65 : decode cX9_townLine 65 = .ok (.iconst (-1), 1) := by decide +kernel
theorem dX9_townLine_66 : decode cX9_townLine 66 = .ok (.istore 4, 2) := by decide +kernel
theorem dX9_townLine_68 : decode cX9_townLine 68 = .ok (.lload_n 2, 1) := by decide +kernel
theorem dX9_townLine_69 : decode cX9_townLine 69 = .ok (.ldc2_w 190, 3) := by decide +kernel
theorem dX9_townLine_72 : decode cX9_townLine 72 = .ok (.lcmp, 1) := by decide +kernel
theorem dX9_townLine_73 : decode cX9_townLine 73 = .ok (.ifCond .ne 7, 3) := by decide +kernel
theorem dX9_townLine_76 : decode cX9_townLine 76 = .ok (.iconst 0, 1) := by decide +kernel
theorem dX9_townLine_77 : decode cX9_townLine 77 = .ok (.goto 28, 3) := by decide +kernel
theorem dX9_townLine_80 : decode cX9_townLine 80 = .ok (.lload_n 2, 1) := by decide +kernel
theorem dX9_townLine_81 : decode cX9_townLine 81 = .ok (.ldc2_w 192, 3) := by decide +kernel
theorem dX9_townLine_84 : decode cX9_townLine 84 = .ok (.lcmp, 1) := by decide +kernel
theorem dX9_townLine_85 : decode cX9_townLine 85 = .ok (.ifCond .ne 7, 3) := by decide +kernel
theorem dX9_townLine_88 : decode cX9_townLine 88 = .ok (.iconst 1, 1) := by decide +kernel
theorem dX9_townLine_89 : decode cX9_townLine 89 = .ok (.goto 16, 3) := by decide +kernel
theorem dX9_townLine_92 : decode cX9_townLine 92 = .ok (.lload_n 2, 1) := by decide +kernel
theorem dX9_townLine_93 : decode cX9_townLine 93 = .ok (.ldc2_w 194, 3) := by decide +kernel
theorem dX9_townLine_96 : decode cX9_townLine 96 = .ok (.lcmp, 1) := by decide +kernel
theorem dX9_townLine_97 : decode cX9_townLine 97 = .ok (.ifCond .ne 7, 3) := by decide +kernel
theorem dX9_townLine_100 : decode cX9_townLine 100 = .ok (.iconst 2, 1) := by decide +kernel
theorem dX9_townLine_101 : decode cX9_townLine 101 = .ok (.goto 4, 3) := by decide +kernel
theorem dX9_townLine_104 : decode cX9_townLine 104 = .ok (.iconst (-1), 1) := by decide +kernel
theorem dX9_townLine_105 : decode cX9_townLine 105 = .ok (.istore 5, 2) := by decide +kernel
theorem dX9_townLine_107 : decode cX9_townLine 107 = .ok (.iload 4, 2) := by decide +kernel
theorem dX9_townLine_109 : decode cX9_townLine 109 = .ok (.iconst (-1), 1) := by decide +kernel
theorem dX9_townLine_110 : decode cX9_townLine 110 = .ok (.if_icmp .ne 54, 3) := by decide +kernel
theorem dX9_townLine_113 : decode cX9_townLine 113 = .ok (.iload 5, 2) := by decide +kernel
theorem dX9_townLine_115 : decode cX9_townLine 115 = .ok (.iconst (-1), 1) := by decide +kernel
theorem dX9_townLine_116 : decode cX9_townLine 116 = .ok (.if_icmp .ne 48, 3) := by decide +kernel
theorem dX9_townLine_119 : decode cX9_townLine 119 = .ok (.lload_n 2, 1) := by decide +kernel
theorem dX9_townLine_120 : decode cX9_townLine 120 = .ok (.ldc2_w 196, 3) := by decide +kernel
theorem dX9_townLine_123 : decode cX9_townLine 123 = .ok (.lcmp, 1) := by decide +kernel
theorem dX9_townLine_124 : decode cX9_townLine 124 = .ok (.ifCond .eq 40, 3) := by decide +kernel
theorem dX9_townLine_127 : decode cX9_townLine 127 = .ok (.lload_n 2, 1) := by decide +kernel
theorem dX9_townLine_128 : decode cX9_townLine 128 = .ok (.ldc2_w 198, 3) := by decide +kernel
theorem dX9_townLine_131 : decode cX9_townLine 131 = .ok (.lcmp, 1) := by decide +kernel
theorem dX9_townLine_132 : decode cX9_townLine 132 = .ok (.ifCond .eq 32, 3) := by decide +kernel
theorem dX9_townLine_135 : decode cX9_townLine 135 = .ok (.lload_n 2, 1) := by decide +kernel
theorem dX9_townLine_136 : decode cX9_townLine 136 = .ok (.ldc2_w 200, 3) := by decide +kernel
theorem dX9_townLine_139 : decode cX9_townLine 139 = .ok (.lcmp, 1) := by decide +kernel
theorem dX9_townLine_140 : decode cX9_townLine 140 = .ok (.ifCond .eq 24, 3) := by decide +kernel
theorem dX9_townLine_143 : decode cX9_townLine 143 = .ok (.lload_n 2, 1) := by decide +kernel
theorem dX9_townLine_144 : decode cX9_townLine 144 = .ok (.ldc2_w 202, 3) := by decide +kernel
theorem dX9_townLine_147 : decode cX9_townLine 147 = .ok (.lcmp, 1) := by decide +kernel
theorem dX9_townLine_148 : decode cX9_townLine 148 = .ok (.ifCond .eq 16, 3) := by decide +kernel
theorem dX9_townLine_151 : decode cX9_townLine 151 = .ok (.lload_n 2, 1) := by decide +kernel
theorem dX9_townLine_152 : decode cX9_townLine 152 = .ok (.ldc2_w 204, 3) := by decide +kernel
theorem dX9_townLine_155 : decode cX9_townLine 155 = .ok (.lcmp, 1) := by decide +kernel
theorem dX9_townLine_156 : decode cX9_townLine 156 = .ok (.ifCond .eq 8, 3) := by decide +kernel
theorem dX9_townLine_159 : decode cX9_townLine 159 = .ok (.aload_n 0, 1) := by decide +kernel
theorem dX9_townLine_160 : decode cX9_townLine 160 = .ok (.invokevirtual 160, 3) := by decide +kernel
theorem dX9_townLine_163 : decode cX9_townLine 163 = .ok (.ireturn, 1) := by decide +kernel
theorem dX9_townLine_164 : decode cX9_townLine 164 = .ok (.aload_n 0, 1) := by decide +kernel
theorem dX9_townLine_165 : decode cX9_townLine 165 = .ok (.invokevirtual 172, 3) := by decide +kernel
theorem dX9_townLine_168 : decode cX9_townLine 168 = .ok (.iload 4, 2) := by decide +kernel
theorem dX9_townLine_170 : decode cX9_townLine 170 = .ok (.iconst (-1), 1) := by decide +kernel
theorem dX9_townLine_171 : decode cX9_townLine 171 = .ok (.if_icmp .eq 61, 3) := by decide +kernel
theorem dX9_townLine_174 : decode cX9_townLine 174 = .ok (.aload_n 0, 1) := by decide +kernel
theorem dX9_townLine_175 : decode cX9_townLine 175 = .ok (.getfield 32, 3) := by decide +kernel
theorem dX9_townLine_178 : decode cX9_townLine 178 = .ok (.iconst 4, 1) := by decide +kernel
theorem dX9_townLine_179 : decode cX9_townLine 179 = .ok (.iload 4, 2) := by decide +kernel
theorem dX9_townLine_181 : decode cX9_townLine 181 = .ok (.iastore, 1) := by decide +kernel
theorem dX9_townLine_182 : decode cX9_townLine 182 = .ok (.iload 4, 2) := by decide +kernel
theorem dX9_townLine_184 : decode cX9_townLine 184 = .ok (.iconst 2, 1) := by decide +kernel
theorem dX9_townLine_185 : decode cX9_townLine 185 = .ok (.if_icmp .ne 18, 3) := by decide +kernel
theorem dX9_townLine_188 : decode cX9_townLine 188 = .ok (.aload_n 0, 1) := by decide +kernel
theorem dX9_townLine_189 : decode cX9_townLine 189 = .ok (.iconst 0, 1) := by decide +kernel
theorem dX9_townLine_190 : decode cX9_townLine 190 = .ok (.iconst 0, 1) := by decide +kernel
theorem dX9_townLine_191 : decode cX9_townLine 191 = .ok (.sipush 999, 3) := by decide +kernel
theorem dX9_townLine_194 : decode cX9_townLine 194 = .ok (.iconst (-1), 1) := by decide +kernel
theorem dX9_townLine_195 : decode cX9_townLine 195 = .ok (.invokevirtual 175, 3) := by decide +kernel
theorem dX9_townLine_198 : decode cX9_townLine 198 = .ok (.ifCond .ne 5, 3) := by decide +kernel
theorem dX9_townLine_201 : decode cX9_townLine 201 = .ok (.iconst 0, 1) := by decide +kernel
theorem dX9_townLine_202 : decode cX9_townLine 202 = .ok (.ireturn, 1) := by decide +kernel
theorem dX9_townLine_203 : decode cX9_townLine 203 = .ok (.aload_n 0, 1) := by decide +kernel
theorem dX9_townLine_204 : decode cX9_townLine 204 = .ok (.getfield 32, 3) := by decide +kernel
theorem dX9_townLine_207 : decode cX9_townLine 207 = .ok (.iconst 5, 1) := by decide +kernel
theorem dX9_townLine_208 : decode cX9_townLine 208 = .ok (.iload 4, 2) := by decide +kernel
theorem dX9_townLine_210 : decode cX9_townLine 210 = .ok (.iconst 2, 1) := by decide +kernel
theorem dX9_townLine_211 : decode cX9_townLine 211 = .ok (.if_icmp .ne 12, 3) := by decide +kernel
theorem dX9_townLine_214 : decode cX9_townLine 214 = .ok (.aload_n 0, 1) := by decide +kernel
theorem dX9_townLine_215 : decode cX9_townLine 215 = .ok (.getfield 35, 3) := by decide +kernel
theorem dX9_townLine_218 : decode cX9_townLine 218 = .ok (.iconst 0, 1) := by decide +kernel
theorem dX9_townLine_219 : decode cX9_townLine 219 = .ok (.iaload, 1) := by decide +kernel
theorem dX9_townLine_220 : decode cX9_townLine 220 = .ok (.goto 9, 3) := by decide +kernel
theorem dX9_townLine_223 : decode cX9_townLine 223 = .ok (.aload_n 0, 1) := by decide +kernel
theorem dX9_townLine_224 : decode cX9_townLine 224 = .ok (.getfield 32, 3) := by decide +kernel
theorem dX9_townLine_227 : decode cX9_townLine 227 = .ok (.iconst 5, 1) := by decide +kernel
theorem dX9_townLine_228 : decode cX9_townLine 228 = .ok (.iaload, 1) := by decide +kernel
theorem dX9_townLine_229 : decode cX9_townLine 229 = .ok (.iastore, 1) := by decide +kernel
theorem dX9_townLine_230 : decode cX9_townLine 230 = .ok (.iconst 1, 1) := by decide +kernel
theorem dX9_townLine_231 : decode cX9_townLine 231 = .ok (.ireturn, 1) := by decide +kernel
theorem dX9_townLine_232 : decode cX9_townLine 232 = .ok (.lload_n 2, 1) := by decide +kernel
theorem dX9_townLine_233 : decode cX9_townLine 233 = .ok (.ldc2_w 196, 3) := by decide +kernel
theorem dX9_townLine_236 : decode cX9_townLine 236 = .ok (.lcmp, 1) := by decide +kernel
theorem dX9_townLine_237 : decode cX9_townLine 237 = .ok (.ifCond .ne 43, 3) := by decide +kernel
theorem dX9_townLine_240 : decode cX9_townLine 240 = .ok (.aload_n 0, 1) := by decide +kernel
theorem dX9_townLine_241 : decode cX9_townLine 241 = .ok (.iconst 0, 1) := by decide +kernel
theorem dX9_townLine_242 : decode cX9_townLine 242 = .ok (.iconst 2, 1) := by decide +kernel
theorem dX9_townLine_243 : decode cX9_townLine 243 = .ok (.bipush 9, 2) := by decide +kernel
theorem dX9_townLine_245 : decode cX9_townLine 245 = .ok (.iconst (-1), 1) := by decide +kernel
theorem dX9_townLine_246 : decode cX9_townLine 246 = .ok (.invokevirtual 175, 3) := by decide +kernel
theorem dX9_townLine_249 : decode cX9_townLine 249 = .ok (.istore 6, 2) := by decide +kernel
theorem dX9_townLine_251 : decode cX9_townLine 251 = .ok (.aload_n 0, 1) := by decide +kernel
theorem dX9_townLine_252 : decode cX9_townLine 252 = .ok (.getfield 32, 3) := by decide +kernel
theorem dX9_townLine_255 : decode cX9_townLine 255 = .ok (.iconst 0, 1) := by decide +kernel
theorem dX9_townLine_256 : decode cX9_townLine 256 = .ok (.iload 6, 2) := by decide +kernel
theorem dX9_townLine_258 : decode cX9_townLine 258 = .ok (.ifCond .eq 12, 3) := by decide +kernel
theorem dX9_townLine_261 : decode cX9_townLine 261 = .ok (.aload_n 0, 1) := by decide +kernel
theorem dX9_townLine_262 : decode cX9_townLine 262 = .ok (.getfield 35, 3) := by decide +kernel
theorem dX9_townLine_265 : decode cX9_townLine 265 = .ok (.iconst 0, 1) := by decide +kernel
theorem dX9_townLine_266 : decode cX9_townLine 266 = .ok (.iaload, 1) := by decide +kernel
theorem dX9_townLine_267 : decode cX9_townLine 267 = .ok (.goto 9, 3) := by decide +kernel
theorem dX9_townLine_270 : decode cX9_townLine 270 = .ok (.aload_n 0, 1) := by decide +kernel
theorem dX9_townLine_271 : decode cX9_townLine 271 = .ok (.getfield 32, 3) := by decide +kernel
theorem dX9_townLine_274 : decode cX9_townLine 274 = .ok (.iconst 0, 1) := by decide +kernel
theorem dX9_townLine_275 : decode cX9_townLine 275 = .ok (.iaload, 1) := by decide +kernel
theorem dX9_townLine_276 : decode cX9_townLine 276 = .ok (.iastore, 1) := by decide +kernel
theorem dX9_townLine_277 : decode cX9_townLine 277 = .ok (.iload 6, 2) := by decide +kernel
theorem dX9_townLine_279 : decode cX9_townLine 279 = .ok (.ireturn, 1) := by decide +kernel
theorem dX9_townLine_280 : decode cX9_townLine 280 = .ok (.lload_n 2, 1) := by decide +kernel
theorem dX9_townLine_281 : decode cX9_townLine 281 = .ok (.ldc2_w 198, 3) := by decide +kernel
theorem dX9_townLine_284 : decode cX9_townLine 284 = .ok (.lcmp, 1) := by decide +kernel
theorem dX9_townLine_285 : decode cX9_townLine 285 = .ok (.ifCond .eq 17, 3) := by decide +kernel
theorem dX9_townLine_288 : decode cX9_townLine 288 = .ok (.iload 5, 2) := by decide +kernel
theorem dX9_townLine_290 : decode cX9_townLine 290 = .ok (.iconst (-1), 1) := by decide +kernel
theorem dX9_townLine_291 : decode cX9_townLine 291 = .ok (.if_icmp .ne 11, 3) := by decide +kernel
theorem dX9_townLine_294 : decode cX9_townLine 294 = .ok (.lload_n 2, 1) := by decide +kernel
theorem dX9_townLine_295 : decode cX9_townLine 295 = .ok (.ldc2_w 200, 3) := by decide +kernel
theorem dX9_townLine_298 : decode cX9_townLine 298 = .ok (.lcmp, 1) := by decide +kernel
theorem dX9_townLine_299 : decode cX9_townLine 299 = .ok (.ifCond .ne 103, 3) := by decide +kernel
theorem dX9_townLine_302 : decode cX9_townLine 302 = .ok (.lload_n 2, 1) := by decide +kernel
theorem dX9_townLine_303 : decode cX9_townLine 303 = .ok (.ldc2_w 198, 3) := by decide +kernel
theorem dX9_townLine_306 : decode cX9_townLine 306 = .ok (.lcmp, 1) := by decide +kernel
theorem dX9_townLine_307 : decode cX9_townLine 307 = .ok (.ifCond .ne 7, 3) := by decide +kernel
theorem dX9_townLine_310 : decode cX9_townLine 310 = .ok (.iconst 1, 1) := by decide +kernel
theorem dX9_townLine_311 : decode cX9_townLine 311 = .ok (.goto 16, 3) := by decide +kernel
theorem dX9_townLine_314 : decode cX9_townLine 314 = .ok (.lload_n 2, 1) := by decide +kernel
theorem dX9_townLine_315 : decode cX9_townLine 315 = .ok (.ldc2_w 200, 3) := by decide +kernel
theorem dX9_townLine_318 : decode cX9_townLine 318 = .ok (.lcmp, 1) := by decide +kernel
theorem dX9_townLine_319 : decode cX9_townLine 319 = .ok (.ifCond .ne 7, 3) := by decide +kernel
theorem dX9_townLine_322 : decode cX9_townLine 322 = .ok (.iconst 3, 1) := by decide +kernel
theorem dX9_townLine_323 : decode cX9_townLine 323 = .ok (.goto 4, 3) := by decide +kernel
theorem dX9_townLine_326 : decode cX9_townLine 326 = .ok (.iconst 2, 1) := by decide +kernel
theorem dX9_townLine_327 : decode cX9_townLine 327 = .ok (.istore 6, 2) := by decide +kernel
theorem dX9_townLine_329 : decode cX9_townLine 329 = .ok (.aload_n 0, 1) := by decide +kernel
theorem dX9_townLine_330 : decode cX9_townLine 330 = .ok (.getfield 32, 3) := by decide +kernel
theorem dX9_townLine_333 : decode cX9_townLine 333 = .ok (.iload 6, 2) := by decide +kernel
theorem dX9_townLine_335 : decode cX9_townLine 335 = .ok (.iaload, 1) := by decide +kernel
theorem dX9_townLine_336 : decode cX9_townLine 336 = .ok (.iload 6, 2) := by decide +kernel
theorem dX9_townLine_338 : decode cX9_townLine 338 = .ok (.iconst 1, 1) := by decide +kernel
theorem dX9_townLine_339 : decode cX9_townLine 339 = .ok (.if_icmp .ne 8, 3) := by decide +kernel
theorem dX9_townLine_342 : decode cX9_townLine 342 = .ok (.bipush 14, 2) := by decide +kernel
theorem dX9_townLine_344 : decode cX9_townLine 344 = .ok (.goto 16, 3) := by decide +kernel
theorem dX9_townLine_347 : decode cX9_townLine 347 = .ok (.iload 6, 2) := by decide +kernel
theorem dX9_townLine_349 : decode cX9_townLine 349 = .ok (.iconst 3, 1) := by decide +kernel
theorem dX9_townLine_350 : decode cX9_townLine 350 = .ok (.if_icmp .ne 8, 3) := by decide +kernel
theorem dX9_townLine_353 : decode cX9_townLine 353 = .ok (.bipush 12, 2) := by decide +kernel
theorem dX9_townLine_355 : decode cX9_townLine 355 = .ok (.goto 5, 3) := by decide +kernel
theorem dX9_townLine_358 : decode cX9_townLine 358 = .ok (.bipush 8, 2) := by decide +kernel
theorem dX9_townLine_360 : decode cX9_townLine 360 = .ok (.if_icmp .ne 9, 3) := by decide +kernel
theorem dX9_townLine_363 : decode cX9_townLine 363 = .ok (.aload_n 0, 1) := by decide +kernel
theorem dX9_townLine_364 : decode cX9_townLine 364 = .ok (.iconst 3, 1) := by decide +kernel
theorem dX9_townLine_365 : decode cX9_townLine 365 = .ok (.iload_n 1, 1) := by decide +kernel
theorem dX9_townLine_366 : decode cX9_townLine 366 = .ok (.invokevirtual 164, 3) := by decide +kernel
theorem dX9_townLine_369 : decode cX9_townLine 369 = .ok (.iload 6, 2) := by decide +kernel
theorem dX9_townLine_371 : decode cX9_townLine 371 = .ok (.iconst 1, 1) := by decide +kernel
theorem dX9_townLine_372 : decode cX9_townLine 372 = .ok (.if_icmp .ne 10, 3) := by decide +kernel
theorem dX9_townLine_375 : decode cX9_townLine 375 = .ok (.aload_n 0, 1) := by decide +kernel
theorem dX9_townLine_376 : decode cX9_townLine 376 = .ok (.invokevirtual 206, 3) := by decide +kernel
theorem dX9_townLine_379 : decode cX9_townLine 379 = .ok (.goto 22, 3) := by decide +kernel
theorem dX9_townLine_382 : decode cX9_townLine 382 = .ok (.iload 6, 2) := by decide +kernel
theorem dX9_townLine_384 : decode cX9_townLine 384 = .ok (.iconst 3, 1) := by decide +kernel
theorem dX9_townLine_385 : decode cX9_townLine 385 = .ok (.if_icmp .ne 10, 3) := by decide +kernel
theorem dX9_townLine_388 : decode cX9_townLine 388 = .ok (.aload_n 0, 1) := by decide +kernel
theorem dX9_townLine_389 : decode cX9_townLine 389 = .ok (.invokevirtual 209, 3) := by decide +kernel
theorem dX9_townLine_392 : decode cX9_townLine 392 = .ok (.goto 9, 3) := by decide +kernel
theorem dX9_townLine_395 : decode cX9_townLine 395 = .ok (.aload_n 0, 1) := by decide +kernel
theorem dX9_townLine_396 : decode cX9_townLine 396 = .ok (.iload 5, 2) := by decide +kernel
theorem dX9_townLine_398 : decode cX9_townLine 398 = .ok (.invokevirtual 212, 3) := by decide +kernel
theorem dX9_townLine_401 : decode cX9_townLine 401 = .ok (.ireturn, 1) := by decide +kernel
theorem dX9_townLine_402 : decode cX9_townLine 402 = .ok (.lload_n 2, 1) := by decide +kernel
theorem dX9_townLine_403 : decode cX9_townLine 403 = .ok (.ldc2_w 202, 3) := by decide +kernel
theorem dX9_townLine_406 : decode cX9_townLine 406 = .ok (.lcmp, 1) := by decide +kernel
theorem dX9_townLine_407 : decode cX9_townLine 407 = .ok (.ifCond .ne 75, 3) := by decide +kernel
theorem dX9_townLine_410 : decode cX9_townLine 410 = .ok (.aload_n 0, 1) := by decide +kernel
theorem dX9_townLine_411 : decode cX9_townLine 411 = .ok (.iconst 0, 1) := by decide +kernel
theorem dX9_townLine_412 : decode cX9_townLine 412 = .ok (.iconst 0, 1) := by decide +kernel
theorem dX9_townLine_413 : decode cX9_townLine 413 = .ok (.aload_n 0, 1) := by decide +kernel
theorem dX9_townLine_414 : decode cX9_townLine 414 = .ok (.getfield 32, 3) := by decide +kernel
theorem dX9_townLine_417 : decode cX9_townLine 417 = .ok (.iconst 2, 1) := by decide +kernel
theorem dX9_townLine_418 : decode cX9_townLine 418 = .ok (.iaload, 1) := by decide +kernel
theorem dX9_townLine_419 : decode cX9_townLine 419 = .ok (.iconst 1, 1) := by decide +kernel
theorem dX9_townLine_420 : decode cX9_townLine 420 = .ok (.isub, 1) := by decide +kernel
theorem dX9_townLine_421 : decode cX9_townLine 421 = .ok (.iconst (-1), 1) := by decide +kernel
theorem dX9_townLine_422 : decode cX9_townLine 422 = .ok (.invokevirtual 175, 3) := by decide +kernel
theorem dX9_townLine_425 : decode cX9_townLine 425 = .ok (.ifCond .eq 21, 3) := by decide +kernel
theorem dX9_townLine_428 : decode cX9_townLine 428 = .ok (.aload_n 0, 1) := by decide +kernel
theorem dX9_townLine_429 : decode cX9_townLine 429 = .ok (.iconst 1, 1) := by decide +kernel
theorem dX9_townLine_430 : decode cX9_townLine 430 = .ok (.iconst 0, 1) := by decide +kernel
theorem dX9_townLine_431 : decode cX9_townLine 431 = .ok (.aload_n 0, 1) := by decide +kernel
theorem dX9_townLine_432 : decode cX9_townLine 432 = .ok (.getfield 32, 3) := by decide +kernel
theorem dX9_townLine_435 : decode cX9_townLine 435 = .ok (.iconst 1, 1) := by decide +kernel
theorem dX9_townLine_436 : decode cX9_townLine 436 = .ok (.iaload, 1) := by decide +kernel
theorem dX9_townLine_437 : decode cX9_townLine 437 = .ok (.iconst 1, 1) := by decide +kernel
theorem dX9_townLine_438 : decode cX9_townLine 438 = .ok (.isub, 1) := by decide +kernel
theorem dX9_townLine_439 : decode cX9_townLine 439 = .ok (.iconst (-1), 1) := by decide +kernel
theorem dX9_townLine_440 : decode cX9_townLine 440 = .ok (.invokevirtual 175, 3) := by decide +kernel
theorem dX9_townLine_443 : decode cX9_townLine 443 = .ok (.ifCond .ne 5, 3) := by decide +kernel
theorem dX9_townLine_446 : decode cX9_townLine 446 = .ok (.iconst 0, 1) := by decide +kernel
theorem dX9_townLine_447 : decode cX9_townLine 447 = .ok (.ireturn, 1) := by decide +kernel
theorem dX9_townLine_448 : decode cX9_townLine 448 = .ok (.aload_n 0, 1) := by decide +kernel
theorem dX9_townLine_449 : decode cX9_townLine 449 = .ok (.getfield 168, 3) := by decide +kernel
theorem dX9_townLine_452 : decode cX9_townLine 452 = .ok (.ifCond .eq 28, 3) := by decide +kernel
theorem dX9_townLine_455 : decode cX9_townLine 455 = .ok (.aload_n 0, 1) := by decide +kernel
theorem dX9_townLine_456 : decode cX9_townLine 456 = .ok (.getfield 32, 3) := by decide +kernel
theorem dX9_townLine_459 : decode cX9_townLine 459 = .ok (.bipush 6, 2) := by decide +kernel
theorem dX9_townLine_461 : decode cX9_townLine 461 = .ok (.bipush 11, 2) := by decide +kernel
theorem dX9_townLine_463 : decode cX9_townLine 463 = .ok (.aload_n 0, 1) := by decide +kernel
theorem dX9_townLine_464 : decode cX9_townLine 464 = .ok (.getfield 35, 3) := by decide +kernel
theorem dX9_townLine_467 : decode cX9_townLine 467 = .ok (.iconst 1, 1) := by decide +kernel
theorem dX9_townLine_468 : decode cX9_townLine 468 = .ok (.iaload, 1) := by decide +kernel
theorem dX9_townLine_469 : decode cX9_townLine 469 = .ok (.imul, 1) := by decide +kernel
theorem dX9_townLine_470 : decode cX9_townLine 470 = .ok (.iadd, 1) := by decide +kernel
theorem dX9_townLine_471 : decode cX9_townLine 471 = .ok (.iconst 4, 1) := by decide +kernel
theorem dX9_townLine_472 : decode cX9_townLine 472 = .ok (.iadd, 1) := by decide +kernel
theorem dX9_townLine_473 : decode cX9_townLine 473 = .ok (.aload_n 0, 1) := by decide +kernel
theorem dX9_townLine_474 : decode cX9_townLine 474 = .ok (.getfield 35, 3) := by decide +kernel
theorem dX9_townLine_477 : decode cX9_townLine 477 = .ok (.iconst 0, 1) := by decide +kernel
theorem dX9_townLine_478 : decode cX9_townLine 478 = .ok (.iaload, 1) := by decide +kernel
theorem dX9_townLine_479 : decode cX9_townLine 479 = .ok (.iastore, 1) := by decide +kernel
theorem dX9_townLine_480 : decode cX9_townLine 480 = .ok (.iconst 1, 1) := by decide +kernel
theorem dX9_townLine_481 : decode cX9_townLine 481 = .ok (.ireturn, 1) := by decide +kernel
theorem dX9_townLine_482 : decode cX9_townLine 482 = .ok (.aload_n 0, 1) := by decide +kernel
theorem dX9_townLine_483 : decode cX9_townLine 483 = .ok (.iconst 0, 1) := by decide +kernel
theorem dX9_townLine_484 : decode cX9_townLine 484 = .ok (.iconst 0, 1) := by decide +kernel
theorem dX9_townLine_485 : decode cX9_townLine 485 = .ok (.aload_n 0, 1) := by decide +kernel
theorem dX9_townLine_486 : decode cX9_townLine 486 = .ok (.getfield 32, 3) := by decide +kernel
theorem dX9_townLine_489 : decode cX9_townLine 489 = .ok (.iconst 1, 1) := by decide +kernel
theorem dX9_townLine_490 : decode cX9_townLine 490 = .ok (.iaload, 1) := by decide +kernel
theorem dX9_townLine_491 : decode cX9_townLine 491 = .ok (.iconst 1, 1) := by decide +kernel
theorem dX9_townLine_492 : decode cX9_townLine 492 = .ok (.isub, 1) := by decide +kernel
theorem dX9_townLine_493 : decode cX9_townLine 493 = .ok (.iconst (-1), 1) := by decide +kernel
theorem dX9_townLine_494 : decode cX9_townLine 494 = .ok (.invokevirtual 175, 3) := by decide +kernel
theorem dX9_townLine_497 : decode cX9_townLine 497 = .ok (.ifCond .eq 26, 3) := by decide +kernel
theorem dX9_townLine_500 : decode cX9_townLine 500 = .ok (.aload_n 0, 1) := by decide +kernel
theorem dX9_townLine_501 : decode cX9_townLine 501 = .ok (.iconst 1, 1) := by decide +kernel
theorem dX9_townLine_502 : decode cX9_townLine 502 = .ok (.iconst 0, 1) := by decide +kernel
theorem dX9_townLine_503 : decode cX9_townLine 503 = .ok (.iconst 5, 1) := by decide +kernel
theorem dX9_townLine_504 : decode cX9_townLine 504 = .ok (.iconst (-1), 1) := by decide +kernel
theorem dX9_townLine_505 : decode cX9_townLine 505 = .ok (.invokevirtual 175, 3) := by decide +kernel
theorem dX9_townLine_508 : decode cX9_townLine 508 = .ok (.ifCond .eq 15, 3) := by decide +kernel
theorem dX9_townLine_511 : decode cX9_townLine 511 = .ok (.aload_n 0, 1) := by decide +kernel
theorem dX9_townLine_512 : decode cX9_townLine 512 = .ok (.iconst 2, 1) := by decide +kernel
theorem dX9_townLine_513 : decode cX9_townLine 513 = .ok (.iconst 0, 1) := by decide +kernel
theorem dX9_townLine_514 : decode cX9_townLine 514 = .ok (.bipush 100, 2) := by decide +kernel
theorem dX9_townLine_516 : decode cX9_townLine 516 = .ok (.iconst (-1), 1) := by decide +kernel
theorem dX9_townLine_517 : decode cX9_townLine 517 = .ok (.invokevirtual 175, 3) := by decide +kernel
theorem dX9_townLine_520 : decode cX9_townLine 520 = .ok (.ifCond .ne 5, 3) := by decide +kernel
theorem dX9_townLine_523 : decode cX9_townLine 523 = .ok (.iconst 0, 1) := by decide +kernel
theorem dX9_townLine_524 : decode cX9_townLine 524 = .ok (.ireturn, 1) := by decide +kernel
theorem dX9_townLine_525 : decode cX9_townLine 525 = .ok (.aload_n 0, 1) := by decide +kernel
theorem dX9_townLine_526 : decode cX9_townLine 526 = .ok (.getfield 168, 3) := by decide +kernel
theorem dX9_townLine_529 : decode cX9_townLine 529 = .ok (.ifCond .eq 35, 3) := by decide +kernel
theorem dX9_townLine_532 : decode cX9_townLine 532 = .ok (.aload_n 0, 1) := by decide +kernel
theorem dX9_townLine_533 : decode cX9_townLine 533 = .ok (.getfield 32, 3) := by decide +kernel
theorem dX9_townLine_536 : decode cX9_townLine 536 = .ok (.bipush 6, 2) := by decide +kernel
theorem dX9_townLine_538 : decode cX9_townLine 538 = .ok (.bipush 11, 2) := by decide +kernel
theorem dX9_townLine_540 : decode cX9_townLine 540 = .ok (.aload_n 0, 1) := by decide +kernel
theorem dX9_townLine_541 : decode cX9_townLine 541 = .ok (.getfield 35, 3) := by decide +kernel
theorem dX9_townLine_544 : decode cX9_townLine 544 = .ok (.iconst 0, 1) := by decide +kernel
theorem dX9_townLine_545 : decode cX9_townLine 545 = .ok (.iaload, 1) := by decide +kernel
theorem dX9_townLine_546 : decode cX9_townLine 546 = .ok (.imul, 1) := by decide +kernel
theorem dX9_townLine_547 : decode cX9_townLine 547 = .ok (.iadd, 1) := by decide +kernel
theorem dX9_townLine_548 : decode cX9_townLine 548 = .ok (.iconst 5, 1) := by decide +kernel
theorem dX9_townLine_549 : decode cX9_townLine 549 = .ok (.iadd, 1) := by decide +kernel
theorem dX9_townLine_550 : decode cX9_townLine 550 = .ok (.aload_n 0, 1) := by decide +kernel
theorem dX9_townLine_551 : decode cX9_townLine 551 = .ok (.getfield 35, 3) := by decide +kernel
theorem dX9_townLine_554 : decode cX9_townLine 554 = .ok (.iconst 1, 1) := by decide +kernel
theorem dX9_townLine_555 : decode cX9_townLine 555 = .ok (.iaload, 1) := by decide +kernel
theorem dX9_townLine_556 : decode cX9_townLine 556 = .ok (.iadd, 1) := by decide +kernel
theorem dX9_townLine_557 : decode cX9_townLine 557 = .ok (.aload_n 0, 1) := by decide +kernel
theorem dX9_townLine_558 : decode cX9_townLine 558 = .ok (.getfield 35, 3) := by decide +kernel
theorem dX9_townLine_561 : decode cX9_townLine 561 = .ok (.iconst 2, 1) := by decide +kernel
theorem dX9_townLine_562 : decode cX9_townLine 562 = .ok (.iaload, 1) := by decide +kernel
theorem dX9_townLine_563 : decode cX9_townLine 563 = .ok (.iastore, 1) := by decide +kernel
theorem dX9_townLine_564 : decode cX9_townLine 564 = .ok (.iconst 1, 1) := by decide +kernel
theorem dX9_townLine_565 : decode cX9_townLine 565 = .ok (.ireturn, 1) := by decide +kernel
noncomputable def k_X9_townLine_203 (F : Nat) : AK := ak_aload 0 (ak_getf 9 18 (ak_push (vI 5) (ak_iload 4 (ak_push (vI 2) (ak_cmpeq (ak_aload 0 (ak_getf 9 19 (ak_push (vI 0) (ak_iald (ak_iast (ak_push (vI 1) ak_ireturn)))))) (ak_aload 0 (ak_getf 9 18 (ak_push (vI 5) (ak_iald (ak_iast (ak_push (vI 1) ak_ireturn)))))))))))
set_option maxRecDepth 20000 in
theorem sk_X9_townLine_203 (F : Nat) : Snd X0 RX9 cX9_townLine 7 5 203 (k_X9_townLine_203 F) := by
  unfold k_X9_townLine_203
  exact snd_aload_n (pc := 203) (i := 0) dX9_townLine_203 (snd_getf (pc := 204) cls9 (f := 18) (by decide) wd_1321 dX9_townLine_204 (snd_iconst (pc := 207) dX9_townLine_207 (snd_iload (pc := 208) (i := 4) dX9_townLine_208 (snd_iconst (pc := 210) dX9_townLine_210 (snd_icmpne (pc := 211) (off := 12) (tgt := 223) (by decide) dX9_townLine_211 (snd_aload_n (pc := 223) (i := 0) dX9_townLine_223 (snd_getf (pc := 224) cls9 (f := 18) (by decide) wd_1321 dX9_townLine_224 (snd_iconst (pc := 227) dX9_townLine_227 (snd_iald (pc := 228) dX9_townLine_228 (snd_iast (pc := 229) dX9_townLine_229 (snd_iconst (pc := 230) dX9_townLine_230 (snd_ireturn dX9_townLine_231))))))) (snd_aload_n (pc := 214) (i := 0) dX9_townLine_214 (snd_getf (pc := 215) cls9 (f := 19) (by decide) wd_1322 dX9_townLine_215 (snd_iconst (pc := 218) dX9_townLine_218 (snd_iald (pc := 219) dX9_townLine_219 (snd_goto (pc := 220) (off := 9) (tgt := 229) (by decide) dX9_townLine_220 (snd_iast (pc := 229) dX9_townLine_229 (snd_iconst (pc := 230) dX9_townLine_230 (snd_ireturn dX9_townLine_231)))))))))))))
noncomputable def k_X9_townLine_369 (F : Nat) : AK := ak_iload 6 (ak_push (vI 1) (ak_cmpeq (ak_aload 0 (ak_callv 9 0 (m_X9_roadLine F) ak_ireturn)) (ak_iload 6 (ak_push (vI 3) (ak_cmpeq (ak_aload 0 (ak_callv 9 0 (m_X9_errandLine F) ak_ireturn)) (ak_aload 0 (ak_iload 5 (ak_callv 9 1 (m_X9_personLine F) ak_ireturn))))))))
set_option maxRecDepth 20000 in
theorem sk_X9_townLine_369 (F : Nat) : Snd X0 RX9 cX9_townLine 7 5 369 (k_X9_townLine_369 F) := by
  unfold k_X9_townLine_369
  exact snd_iload (pc := 369) (i := 6) dX9_townLine_369 (snd_iconst (pc := 371) dX9_townLine_371 (snd_icmpne (pc := 372) (off := 10) (tgt := 382) (by decide) dX9_townLine_372 (snd_iload (pc := 382) (i := 6) dX9_townLine_382 (snd_iconst (pc := 384) dX9_townLine_384 (snd_icmpne (pc := 385) (off := 10) (tgt := 395) (by decide) dX9_townLine_385 (snd_aload_n (pc := 395) (i := 0) dX9_townLine_395 (snd_iload (pc := 396) (i := 5) dX9_townLine_396 (snd_callV (pc := 398) (n := 1) cls9 (s_X9_personLine F) (by decide) (by decide) wd_1575 wd_1572 wd_1574 wd_64 wd_129 hy_X9_personLine dX9_townLine_398 (snd_ireturn dX9_townLine_401)))) (snd_aload_n (pc := 388) (i := 0) dX9_townLine_388 (snd_callV (pc := 389) (n := 0) cls9 (s_X9_errandLine F) (by decide) (by decide) wd_1571 wd_1568 wd_1570 wd_63 wd_129 hy_X9_errandLine dX9_townLine_389 (snd_goto (pc := 392) (off := 9) (tgt := 401) (by decide) dX9_townLine_392 (snd_ireturn dX9_townLine_401))))))) (snd_aload_n (pc := 375) (i := 0) dX9_townLine_375 (snd_callV (pc := 376) (n := 0) cls9 (s_X9_roadLine F) (by decide) (by decide) wd_1559 wd_1556 wd_1558 wd_60 wd_129 hy_X9_roadLine dX9_townLine_376 (snd_goto (pc := 379) (off := 22) (tgt := 401) (by decide) dX9_townLine_379 (snd_ireturn dX9_townLine_401))))))
noncomputable def k_X9_townLine_360 (F : Nat) : AK := ak_cmpeq (ak_aload 0 (ak_push (vI 3) (ak_iload 1 (ak_callv 9 2 (m_X9_later F) ((k_X9_townLine_369 F)))))) ((k_X9_townLine_369 F))
set_option maxRecDepth 20000 in
theorem sk_X9_townLine_360 (F : Nat) : Snd X0 RX9 cX9_townLine 7 5 360 (k_X9_townLine_360 F) := by
  unfold k_X9_townLine_360
  exact snd_icmpne (pc := 360) (off := 9) (tgt := 369) (by decide) dX9_townLine_360 ((sk_X9_townLine_369 F)) (snd_aload_n (pc := 363) (i := 0) dX9_townLine_363 (snd_iconst (pc := 364) dX9_townLine_364 (snd_iload_n (pc := 365) (i := 1) dX9_townLine_365 (snd_callV (pc := 366) (n := 2) cls9 (s_X9_later F) (by decide) (by decide) wd_1555 wd_1552 wd_1554 wd_59 wd_129 hy_X9_later dX9_townLine_366 ((sk_X9_townLine_369 F))))))
noncomputable def k_X9_townLine_327 (F : Nat) : AK := ak_istore 6 (ak_aload 0 (ak_getf 9 18 (ak_iload 6 (ak_iald (ak_iload 6 (ak_push (vI 1) (ak_cmpeq (ak_push (vI 14) ((k_X9_townLine_360 F))) (ak_iload 6 (ak_push (vI 3) (ak_cmpeq (ak_push (vI 12) ((k_X9_townLine_360 F))) (ak_push (vI 8) ((k_X9_townLine_360 F)))))))))))))
set_option maxRecDepth 20000 in
theorem sk_X9_townLine_327 (F : Nat) : Snd X0 RX9 cX9_townLine 7 5 327 (k_X9_townLine_327 F) := by
  unfold k_X9_townLine_327
  exact snd_istore (pc := 327) (i := 6) (by decide) dX9_townLine_327 (snd_aload_n (pc := 329) (i := 0) dX9_townLine_329 (snd_getf (pc := 330) cls9 (f := 18) (by decide) wd_1321 dX9_townLine_330 (snd_iload (pc := 333) (i := 6) dX9_townLine_333 (snd_iald (pc := 335) dX9_townLine_335 (snd_iload (pc := 336) (i := 6) dX9_townLine_336 (snd_iconst (pc := 338) dX9_townLine_338 (snd_icmpne (pc := 339) (off := 8) (tgt := 347) (by decide) dX9_townLine_339 (snd_iload (pc := 347) (i := 6) dX9_townLine_347 (snd_iconst (pc := 349) dX9_townLine_349 (snd_icmpne (pc := 350) (off := 8) (tgt := 358) (by decide) dX9_townLine_350 (snd_bipush (pc := 358) (by decide) dX9_townLine_358 ((sk_X9_townLine_360 F))) (snd_bipush (pc := 353) (by decide) dX9_townLine_353 (snd_goto (pc := 355) (off := 5) (tgt := 360) (by decide) dX9_townLine_355 ((sk_X9_townLine_360 F))))))) (snd_bipush (pc := 342) (by decide) dX9_townLine_342 (snd_goto (pc := 344) (off := 16) (tgt := 360) (by decide) dX9_townLine_344 ((sk_X9_townLine_360 F)))))))))))
noncomputable def k_X9_townLine_302 (F : Nat) : AK := ak_lload 2 (ak_push (vL 1919902052) (ak_lcmp (ak_ifeq (ak_push (vI 1) ((k_X9_townLine_327 F))) (ak_lload 2 (ak_push (vL 111542219664996) (ak_lcmp (ak_ifeq (ak_push (vI 3) ((k_X9_townLine_327 F))) (ak_push (vI 2) ((k_X9_townLine_327 F))))))))))
set_option maxRecDepth 20000 in
theorem sk_X9_townLine_302 (F : Nat) : Snd X0 RX9 cX9_townLine 7 5 302 (k_X9_townLine_302 F) := by
  unfold k_X9_townLine_302
  exact snd_lload_n (pc := 302) (i := 2) dX9_townLine_302 (snd_ldc2 (pc := 303) (z := (1919902052)) (by decide) wd_1540 dX9_townLine_303 (snd_lcmp (pc := 306) dX9_townLine_306 (snd_ifne (pc := 307) (off := 7) (tgt := 314) (by decide) dX9_townLine_307 (snd_lload_n (pc := 314) (i := 2) dX9_townLine_314 (snd_ldc2 (pc := 315) (z := (111542219664996)) (by decide) wd_1541 dX9_townLine_315 (snd_lcmp (pc := 318) dX9_townLine_318 (snd_ifne (pc := 319) (off := 7) (tgt := 326) (by decide) dX9_townLine_319 (snd_iconst (pc := 326) dX9_townLine_326 ((sk_X9_townLine_327 F))) (snd_iconst (pc := 322) dX9_townLine_322 (snd_goto (pc := 323) (off := 4) (tgt := 327) (by decide) dX9_townLine_323 ((sk_X9_townLine_327 F)))))))) (snd_iconst (pc := 310) dX9_townLine_310 (snd_goto (pc := 311) (off := 16) (tgt := 327) (by decide) dX9_townLine_311 ((sk_X9_townLine_327 F)))))))
noncomputable def k_X9_townLine_164 (F : Nat) : AK := ak_aload 0 (ak_callv 9 0 (m_X9_token F) (ak_iload 4 (ak_push (vI (-1)) (ak_cmpeq (ak_lload 2 (ak_push (vL 123610792682867) (ak_lcmp (ak_ifeq (ak_aload 0 (ak_push (vI 0) (ak_push (vI 2) (ak_push (vI 9) (ak_push (vI (-1)) (ak_callv 9 4 (m_X9_take F) (ak_istore 6 (ak_aload 0 (ak_getf 9 18 (ak_push (vI 0) (ak_iload 6 (ak_ifeq (ak_aload 0 (ak_getf 9 18 (ak_push (vI 0) (ak_iald (ak_iast (ak_iload 6 ak_ireturn)))))) (ak_aload 0 (ak_getf 9 19 (ak_push (vI 0) (ak_iald (ak_iast (ak_iload 6 ak_ireturn)))))))))))))))))) (ak_lload 2 (ak_push (vL 1919902052) (ak_lcmp (ak_ifeq ((k_X9_townLine_302 F)) (ak_iload 5 (ak_push (vI (-1)) (ak_cmpeq (ak_lload 2 (ak_push (vL 111542219664996) (ak_lcmp (ak_ifeq ((k_X9_townLine_302 F)) (ak_lload 2 (ak_push (vL 6840691) (ak_lcmp (ak_ifeq (ak_aload 0 (ak_push (vI 0) (ak_push (vI 0) (ak_aload 0 (ak_getf 9 18 (ak_push (vI 2) (ak_iald (ak_push (vI 1) (ak_isub (ak_push (vI (-1)) (ak_callv 9 4 (m_X9_take F) (ak_ifeq (ak_push (vI 0) ak_ireturn) (ak_aload 0 (ak_push (vI 1) (ak_push (vI 0) (ak_aload 0 (ak_getf 9 18 (ak_push (vI 1) (ak_iald (ak_push (vI 1) (ak_isub (ak_push (vI (-1)) (ak_callv 9 4 (m_X9_take F) (ak_ifeq (ak_push (vI 0) ak_ireturn) (ak_aload 0 (ak_getf 9 17 (ak_ifeq (ak_push (vI 1) ak_ireturn) (ak_aload 0 (ak_getf 9 18 (ak_push (vI 6) (ak_push (vI 11) (ak_aload 0 (ak_getf 9 19 (ak_push (vI 1) (ak_iald (ak_imul (ak_iadd (ak_push (vI 4) (ak_iadd (ak_aload 0 (ak_getf 9 19 (ak_push (vI 0) (ak_iald (ak_iast (ak_push (vI 1) ak_ireturn))))))))))))))))))))))))))))))))))))))))))))) (ak_aload 0 (ak_push (vI 0) (ak_push (vI 0) (ak_aload 0 (ak_getf 9 18 (ak_push (vI 1) (ak_iald (ak_push (vI 1) (ak_isub (ak_push (vI (-1)) (ak_callv 9 4 (m_X9_take F) (ak_ifeq (ak_push (vI 0) ak_ireturn) (ak_aload 0 (ak_push (vI 1) (ak_push (vI 0) (ak_push (vI 5) (ak_push (vI (-1)) (ak_callv 9 4 (m_X9_take F) (ak_ifeq (ak_push (vI 0) ak_ireturn) (ak_aload 0 (ak_push (vI 2) (ak_push (vI 0) (ak_push (vI 100) (ak_push (vI (-1)) (ak_callv 9 4 (m_X9_take F) (ak_ifeq (ak_push (vI 0) ak_ireturn) (ak_aload 0 (ak_getf 9 17 (ak_ifeq (ak_push (vI 1) ak_ireturn) (ak_aload 0 (ak_getf 9 18 (ak_push (vI 6) (ak_push (vI 11) (ak_aload 0 (ak_getf 9 19 (ak_push (vI 0) (ak_iald (ak_imul (ak_iadd (ak_push (vI 5) (ak_iadd (ak_aload 0 (ak_getf 9 19 (ak_push (vI 1) (ak_iald (ak_iadd (ak_aload 0 (ak_getf 9 19 (ak_push (vI 2) (ak_iald (ak_iast (ak_push (vI 1) ak_ireturn)))))))))))))))))))))))))))))))))))))))))))))))))))))))))))) ((k_X9_townLine_302 F))))))))))))) (ak_aload 0 (ak_getf 9 18 (ak_push (vI 4) (ak_iload 4 (ak_iast (ak_iload 4 (ak_push (vI 2) (ak_cmpeq (ak_aload 0 (ak_push (vI 0) (ak_push (vI 0) (ak_push (vI 999) (ak_push (vI (-1)) (ak_callv 9 4 (m_X9_take F) (ak_ifeq (ak_push (vI 0) ak_ireturn) ((k_X9_townLine_203 F))))))))) ((k_X9_townLine_203 F))))))))))))))
set_option maxRecDepth 20000 in
theorem sk_X9_townLine_164 (F : Nat) : Snd X0 RX9 cX9_townLine 7 5 164 (k_X9_townLine_164 F) := by
  unfold k_X9_townLine_164
  exact snd_aload_n (pc := 164) (i := 0) dX9_townLine_164 (snd_callV (pc := 165) (n := 0) cls9 (s_X9_token F) (by decide) (by decide) wd_1523 wd_1520 wd_1522 wd_54 wd_129 hy_X9_token dX9_townLine_165 (snd_iload (pc := 168) (i := 4) dX9_townLine_168 (snd_iconst (pc := 170) dX9_townLine_170 (snd_icmpeq (pc := 171) (off := 61) (tgt := 232) (by decide) dX9_townLine_171 (snd_lload_n (pc := 232) (i := 2) dX9_townLine_232 (snd_ldc2 (pc := 233) (z := (123610792682867)) (by decide) wd_1539 dX9_townLine_233 (snd_lcmp (pc := 236) dX9_townLine_236 (snd_ifne (pc := 237) (off := 43) (tgt := 280) (by decide) dX9_townLine_237 (snd_lload_n (pc := 280) (i := 2) dX9_townLine_280 (snd_ldc2 (pc := 281) (z := (1919902052)) (by decide) wd_1540 dX9_townLine_281 (snd_lcmp (pc := 284) dX9_townLine_284 (snd_ifeq (pc := 285) (off := 17) (tgt := 302) (by decide) dX9_townLine_285 ((sk_X9_townLine_302 F)) (snd_iload (pc := 288) (i := 5) dX9_townLine_288 (snd_iconst (pc := 290) dX9_townLine_290 (snd_icmpne (pc := 291) (off := 11) (tgt := 302) (by decide) dX9_townLine_291 ((sk_X9_townLine_302 F)) (snd_lload_n (pc := 294) (i := 2) dX9_townLine_294 (snd_ldc2 (pc := 295) (z := (111542219664996)) (by decide) wd_1541 dX9_townLine_295 (snd_lcmp (pc := 298) dX9_townLine_298 (snd_ifne (pc := 299) (off := 103) (tgt := 402) (by decide) dX9_townLine_299 (snd_lload_n (pc := 402) (i := 2) dX9_townLine_402 (snd_ldc2 (pc := 403) (z := (6840691)) (by decide) wd_1542 dX9_townLine_403 (snd_lcmp (pc := 406) dX9_townLine_406 (snd_ifne (pc := 407) (off := 75) (tgt := 482) (by decide) dX9_townLine_407 (snd_aload_n (pc := 482) (i := 0) dX9_townLine_482 (snd_iconst (pc := 483) dX9_townLine_483 (snd_iconst (pc := 484) dX9_townLine_484 (snd_aload_n (pc := 485) (i := 0) dX9_townLine_485 (snd_getf (pc := 486) cls9 (f := 18) (by decide) wd_1321 dX9_townLine_486 (snd_iconst (pc := 489) dX9_townLine_489 (snd_iald (pc := 490) dX9_townLine_490 (snd_iconst (pc := 491) dX9_townLine_491 (snd_isub (pc := 492) dX9_townLine_492 (snd_iconst (pc := 493) dX9_townLine_493 (snd_callV (pc := 494) (n := 4) cls9 (s_X9_take F) (by decide) (by decide) wd_1551 wd_1548 wd_1550 wd_58 wd_129 hy_X9_take dX9_townLine_494 (snd_ifeq (pc := 497) (off := 26) (tgt := 523) (by decide) dX9_townLine_497 (snd_iconst (pc := 523) dX9_townLine_523 (snd_ireturn dX9_townLine_524)) (snd_aload_n (pc := 500) (i := 0) dX9_townLine_500 (snd_iconst (pc := 501) dX9_townLine_501 (snd_iconst (pc := 502) dX9_townLine_502 (snd_iconst (pc := 503) dX9_townLine_503 (snd_iconst (pc := 504) dX9_townLine_504 (snd_callV (pc := 505) (n := 4) cls9 (s_X9_take F) (by decide) (by decide) wd_1551 wd_1548 wd_1550 wd_58 wd_129 hy_X9_take dX9_townLine_505 (snd_ifeq (pc := 508) (off := 15) (tgt := 523) (by decide) dX9_townLine_508 (snd_iconst (pc := 523) dX9_townLine_523 (snd_ireturn dX9_townLine_524)) (snd_aload_n (pc := 511) (i := 0) dX9_townLine_511 (snd_iconst (pc := 512) dX9_townLine_512 (snd_iconst (pc := 513) dX9_townLine_513 (snd_bipush (pc := 514) (by decide) dX9_townLine_514 (snd_iconst (pc := 516) dX9_townLine_516 (snd_callV (pc := 517) (n := 4) cls9 (s_X9_take F) (by decide) (by decide) wd_1551 wd_1548 wd_1550 wd_58 wd_129 hy_X9_take dX9_townLine_517 (snd_ifne (pc := 520) (off := 5) (tgt := 525) (by decide) dX9_townLine_520 (snd_aload_n (pc := 525) (i := 0) dX9_townLine_525 (snd_getf (pc := 526) cls9 (f := 17) (by decide) wd_1320 dX9_townLine_526 (snd_ifeq (pc := 529) (off := 35) (tgt := 564) (by decide) dX9_townLine_529 (snd_iconst (pc := 564) dX9_townLine_564 (snd_ireturn dX9_townLine_565)) (snd_aload_n (pc := 532) (i := 0) dX9_townLine_532 (snd_getf (pc := 533) cls9 (f := 18) (by decide) wd_1321 dX9_townLine_533 (snd_bipush (pc := 536) (by decide) dX9_townLine_536 (snd_bipush (pc := 538) (by decide) dX9_townLine_538 (snd_aload_n (pc := 540) (i := 0) dX9_townLine_540 (snd_getf (pc := 541) cls9 (f := 19) (by decide) wd_1322 dX9_townLine_541 (snd_iconst (pc := 544) dX9_townLine_544 (snd_iald (pc := 545) dX9_townLine_545 (snd_imul (pc := 546) dX9_townLine_546 (snd_iadd (pc := 547) dX9_townLine_547 (snd_iconst (pc := 548) dX9_townLine_548 (snd_iadd (pc := 549) dX9_townLine_549 (snd_aload_n (pc := 550) (i := 0) dX9_townLine_550 (snd_getf (pc := 551) cls9 (f := 19) (by decide) wd_1322 dX9_townLine_551 (snd_iconst (pc := 554) dX9_townLine_554 (snd_iald (pc := 555) dX9_townLine_555 (snd_iadd (pc := 556) dX9_townLine_556 (snd_aload_n (pc := 557) (i := 0) dX9_townLine_557 (snd_getf (pc := 558) cls9 (f := 19) (by decide) wd_1322 dX9_townLine_558 (snd_iconst (pc := 561) dX9_townLine_561 (snd_iald (pc := 562) dX9_townLine_562 (snd_iast (pc := 563) dX9_townLine_563 (snd_iconst (pc := 564) dX9_townLine_564 (snd_ireturn dX9_townLine_565))))))))))))))))))))))))))) (snd_iconst (pc := 523) dX9_townLine_523 (snd_ireturn dX9_townLine_524)))))))))))))))))))))))))))) (snd_aload_n (pc := 410) (i := 0) dX9_townLine_410 (snd_iconst (pc := 411) dX9_townLine_411 (snd_iconst (pc := 412) dX9_townLine_412 (snd_aload_n (pc := 413) (i := 0) dX9_townLine_413 (snd_getf (pc := 414) cls9 (f := 18) (by decide) wd_1321 dX9_townLine_414 (snd_iconst (pc := 417) dX9_townLine_417 (snd_iald (pc := 418) dX9_townLine_418 (snd_iconst (pc := 419) dX9_townLine_419 (snd_isub (pc := 420) dX9_townLine_420 (snd_iconst (pc := 421) dX9_townLine_421 (snd_callV (pc := 422) (n := 4) cls9 (s_X9_take F) (by decide) (by decide) wd_1551 wd_1548 wd_1550 wd_58 wd_129 hy_X9_take dX9_townLine_422 (snd_ifeq (pc := 425) (off := 21) (tgt := 446) (by decide) dX9_townLine_425 (snd_iconst (pc := 446) dX9_townLine_446 (snd_ireturn dX9_townLine_447)) (snd_aload_n (pc := 428) (i := 0) dX9_townLine_428 (snd_iconst (pc := 429) dX9_townLine_429 (snd_iconst (pc := 430) dX9_townLine_430 (snd_aload_n (pc := 431) (i := 0) dX9_townLine_431 (snd_getf (pc := 432) cls9 (f := 18) (by decide) wd_1321 dX9_townLine_432 (snd_iconst (pc := 435) dX9_townLine_435 (snd_iald (pc := 436) dX9_townLine_436 (snd_iconst (pc := 437) dX9_townLine_437 (snd_isub (pc := 438) dX9_townLine_438 (snd_iconst (pc := 439) dX9_townLine_439 (snd_callV (pc := 440) (n := 4) cls9 (s_X9_take F) (by decide) (by decide) wd_1551 wd_1548 wd_1550 wd_58 wd_129 hy_X9_take dX9_townLine_440 (snd_ifne (pc := 443) (off := 5) (tgt := 448) (by decide) dX9_townLine_443 (snd_aload_n (pc := 448) (i := 0) dX9_townLine_448 (snd_getf (pc := 449) cls9 (f := 17) (by decide) wd_1320 dX9_townLine_449 (snd_ifeq (pc := 452) (off := 28) (tgt := 480) (by decide) dX9_townLine_452 (snd_iconst (pc := 480) dX9_townLine_480 (snd_ireturn dX9_townLine_481)) (snd_aload_n (pc := 455) (i := 0) dX9_townLine_455 (snd_getf (pc := 456) cls9 (f := 18) (by decide) wd_1321 dX9_townLine_456 (snd_bipush (pc := 459) (by decide) dX9_townLine_459 (snd_bipush (pc := 461) (by decide) dX9_townLine_461 (snd_aload_n (pc := 463) (i := 0) dX9_townLine_463 (snd_getf (pc := 464) cls9 (f := 19) (by decide) wd_1322 dX9_townLine_464 (snd_iconst (pc := 467) dX9_townLine_467 (snd_iald (pc := 468) dX9_townLine_468 (snd_imul (pc := 469) dX9_townLine_469 (snd_iadd (pc := 470) dX9_townLine_470 (snd_iconst (pc := 471) dX9_townLine_471 (snd_iadd (pc := 472) dX9_townLine_472 (snd_aload_n (pc := 473) (i := 0) dX9_townLine_473 (snd_getf (pc := 474) cls9 (f := 19) (by decide) wd_1322 dX9_townLine_474 (snd_iconst (pc := 477) dX9_townLine_477 (snd_iald (pc := 478) dX9_townLine_478 (snd_iast (pc := 479) dX9_townLine_479 (snd_iconst (pc := 480) dX9_townLine_480 (snd_ireturn dX9_townLine_481)))))))))))))))))))))) (snd_iconst (pc := 446) dX9_townLine_446 (snd_ireturn dX9_townLine_447)))))))))))))))))))))))))))))) ((sk_X9_townLine_302 F))))))))))))) (snd_aload_n (pc := 240) (i := 0) dX9_townLine_240 (snd_iconst (pc := 241) dX9_townLine_241 (snd_iconst (pc := 242) dX9_townLine_242 (snd_bipush (pc := 243) (by decide) dX9_townLine_243 (snd_iconst (pc := 245) dX9_townLine_245 (snd_callV (pc := 246) (n := 4) cls9 (s_X9_take F) (by decide) (by decide) wd_1551 wd_1548 wd_1550 wd_58 wd_129 hy_X9_take dX9_townLine_246 (snd_istore (pc := 249) (i := 6) (by decide) dX9_townLine_249 (snd_aload_n (pc := 251) (i := 0) dX9_townLine_251 (snd_getf (pc := 252) cls9 (f := 18) (by decide) wd_1321 dX9_townLine_252 (snd_iconst (pc := 255) dX9_townLine_255 (snd_iload (pc := 256) (i := 6) dX9_townLine_256 (snd_ifeq (pc := 258) (off := 12) (tgt := 270) (by decide) dX9_townLine_258 (snd_aload_n (pc := 270) (i := 0) dX9_townLine_270 (snd_getf (pc := 271) cls9 (f := 18) (by decide) wd_1321 dX9_townLine_271 (snd_iconst (pc := 274) dX9_townLine_274 (snd_iald (pc := 275) dX9_townLine_275 (snd_iast (pc := 276) dX9_townLine_276 (snd_iload (pc := 277) (i := 6) dX9_townLine_277 (snd_ireturn dX9_townLine_279))))))) (snd_aload_n (pc := 261) (i := 0) dX9_townLine_261 (snd_getf (pc := 262) cls9 (f := 19) (by decide) wd_1322 dX9_townLine_262 (snd_iconst (pc := 265) dX9_townLine_265 (snd_iald (pc := 266) dX9_townLine_266 (snd_goto (pc := 267) (off := 9) (tgt := 276) (by decide) dX9_townLine_267 (snd_iast (pc := 276) dX9_townLine_276 (snd_iload (pc := 277) (i := 6) dX9_townLine_277 (snd_ireturn dX9_townLine_279)))))))))))))))))))))))) (snd_aload_n (pc := 174) (i := 0) dX9_townLine_174 (snd_getf (pc := 175) cls9 (f := 18) (by decide) wd_1321 dX9_townLine_175 (snd_iconst (pc := 178) dX9_townLine_178 (snd_iload (pc := 179) (i := 4) dX9_townLine_179 (snd_iast (pc := 181) dX9_townLine_181 (snd_iload (pc := 182) (i := 4) dX9_townLine_182 (snd_iconst (pc := 184) dX9_townLine_184 (snd_icmpne (pc := 185) (off := 18) (tgt := 203) (by decide) dX9_townLine_185 ((sk_X9_townLine_203 F)) (snd_aload_n (pc := 188) (i := 0) dX9_townLine_188 (snd_iconst (pc := 189) dX9_townLine_189 (snd_iconst (pc := 190) dX9_townLine_190 (snd_sipush (pc := 191) (by decide) dX9_townLine_191 (snd_iconst (pc := 194) dX9_townLine_194 (snd_callV (pc := 195) (n := 4) cls9 (s_X9_take F) (by decide) (by decide) wd_1551 wd_1548 wd_1550 wd_58 wd_129 hy_X9_take dX9_townLine_195 (snd_ifne (pc := 198) (off := 5) (tgt := 203) (by decide) dX9_townLine_198 ((sk_X9_townLine_203 F)) (snd_iconst (pc := 201) dX9_townLine_201 (snd_ireturn dX9_townLine_202)))))))))))))))))))))
noncomputable def k_X9_townLine_105 (F : Nat) : AK := ak_istore 5 (ak_iload 4 (ak_push (vI (-1)) (ak_cmpeq (ak_iload 5 (ak_push (vI (-1)) (ak_cmpeq (ak_lload 2 (ak_push (vL 123610792682867) (ak_lcmp (ak_ifeq ((k_X9_townLine_164 F)) (ak_lload 2 (ak_push (vL 1919902052) (ak_lcmp (ak_ifeq ((k_X9_townLine_164 F)) (ak_lload 2 (ak_push (vL 111542219664996) (ak_lcmp (ak_ifeq ((k_X9_townLine_164 F)) (ak_lload 2 (ak_push (vL 6840691) (ak_lcmp (ak_ifeq ((k_X9_townLine_164 F)) (ak_lload 2 (ak_push (vL 1651864441) (ak_lcmp (ak_ifeq ((k_X9_townLine_164 F)) (ak_aload 0 (ak_callv 9 0 (m_X9_stops F) ak_ireturn)))))))))))))))))))))) ((k_X9_townLine_164 F))))) ((k_X9_townLine_164 F)))))
set_option maxRecDepth 20000 in
theorem sk_X9_townLine_105 (F : Nat) : Snd X0 RX9 cX9_townLine 7 5 105 (k_X9_townLine_105 F) := by
  unfold k_X9_townLine_105
  exact snd_istore (pc := 105) (i := 5) (by decide) dX9_townLine_105 (snd_iload (pc := 107) (i := 4) dX9_townLine_107 (snd_iconst (pc := 109) dX9_townLine_109 (snd_icmpne (pc := 110) (off := 54) (tgt := 164) (by decide) dX9_townLine_110 ((sk_X9_townLine_164 F)) (snd_iload (pc := 113) (i := 5) dX9_townLine_113 (snd_iconst (pc := 115) dX9_townLine_115 (snd_icmpne (pc := 116) (off := 48) (tgt := 164) (by decide) dX9_townLine_116 ((sk_X9_townLine_164 F)) (snd_lload_n (pc := 119) (i := 2) dX9_townLine_119 (snd_ldc2 (pc := 120) (z := (123610792682867)) (by decide) wd_1539 dX9_townLine_120 (snd_lcmp (pc := 123) dX9_townLine_123 (snd_ifeq (pc := 124) (off := 40) (tgt := 164) (by decide) dX9_townLine_124 ((sk_X9_townLine_164 F)) (snd_lload_n (pc := 127) (i := 2) dX9_townLine_127 (snd_ldc2 (pc := 128) (z := (1919902052)) (by decide) wd_1540 dX9_townLine_128 (snd_lcmp (pc := 131) dX9_townLine_131 (snd_ifeq (pc := 132) (off := 32) (tgt := 164) (by decide) dX9_townLine_132 ((sk_X9_townLine_164 F)) (snd_lload_n (pc := 135) (i := 2) dX9_townLine_135 (snd_ldc2 (pc := 136) (z := (111542219664996)) (by decide) wd_1541 dX9_townLine_136 (snd_lcmp (pc := 139) dX9_townLine_139 (snd_ifeq (pc := 140) (off := 24) (tgt := 164) (by decide) dX9_townLine_140 ((sk_X9_townLine_164 F)) (snd_lload_n (pc := 143) (i := 2) dX9_townLine_143 (snd_ldc2 (pc := 144) (z := (6840691)) (by decide) wd_1542 dX9_townLine_144 (snd_lcmp (pc := 147) dX9_townLine_147 (snd_ifeq (pc := 148) (off := 16) (tgt := 164) (by decide) dX9_townLine_148 ((sk_X9_townLine_164 F)) (snd_lload_n (pc := 151) (i := 2) dX9_townLine_151 (snd_ldc2 (pc := 152) (z := (1651864441)) (by decide) wd_1543 dX9_townLine_152 (snd_lcmp (pc := 155) dX9_townLine_155 (snd_ifeq (pc := 156) (off := 8) (tgt := 164) (by decide) dX9_townLine_156 ((sk_X9_townLine_164 F)) (snd_aload_n (pc := 159) (i := 0) dX9_townLine_159 (snd_callV (pc := 160) (n := 0) cls9 (s_X9_stops F) (by decide) (by decide) wd_1547 wd_1544 wd_1546 wd_57 wd_129 hy_X9_stops dX9_townLine_160 (snd_ireturn dX9_townLine_163)))))))))))))))))))))))))))))
noncomputable def k_X9_townLine_66 (F : Nat) : AK := ak_istore 4 (ak_lload 2 (ak_push (vL 495673373300) (ak_lcmp (ak_ifeq (ak_push (vI 0) ((k_X9_townLine_105 F))) (ak_lload 2 (ak_push (vL 426953236848) (ak_lcmp (ak_ifeq (ak_push (vI 1) ((k_X9_townLine_105 F))) (ak_lload 2 (ak_push (vL 7305070) (ak_lcmp (ak_ifeq (ak_push (vI 2) ((k_X9_townLine_105 F))) (ak_push (vI (-1)) ((k_X9_townLine_105 F)))))))))))))))
set_option maxRecDepth 20000 in
theorem sk_X9_townLine_66 (F : Nat) : Snd X0 RX9 cX9_townLine 7 5 66 (k_X9_townLine_66 F) := by
  unfold k_X9_townLine_66
  exact snd_istore (pc := 66) (i := 4) (by decide) dX9_townLine_66 (snd_lload_n (pc := 68) (i := 2) dX9_townLine_68 (snd_ldc2 (pc := 69) (z := (495673373300)) (by decide) wd_1536 dX9_townLine_69 (snd_lcmp (pc := 72) dX9_townLine_72 (snd_ifne (pc := 73) (off := 7) (tgt := 80) (by decide) dX9_townLine_73 (snd_lload_n (pc := 80) (i := 2) dX9_townLine_80 (snd_ldc2 (pc := 81) (z := (426953236848)) (by decide) wd_1537 dX9_townLine_81 (snd_lcmp (pc := 84) dX9_townLine_84 (snd_ifne (pc := 85) (off := 7) (tgt := 92) (by decide) dX9_townLine_85 (snd_lload_n (pc := 92) (i := 2) dX9_townLine_92 (snd_ldc2 (pc := 93) (z := (7305070)) (by decide) wd_1538 dX9_townLine_93 (snd_lcmp (pc := 96) dX9_townLine_96 (snd_ifne (pc := 97) (off := 7) (tgt := 104) (by decide) dX9_townLine_97 (snd_iconst (pc := 104) dX9_townLine_104 ((sk_X9_townLine_105 F))) (snd_iconst (pc := 100) dX9_townLine_100 (snd_goto (pc := 101) (off := 4) (tgt := 105) (by decide) dX9_townLine_101 ((sk_X9_townLine_105 F)))))))) (snd_iconst (pc := 88) dX9_townLine_88 (snd_goto (pc := 89) (off := 16) (tgt := 105) (by decide) dX9_townLine_89 ((sk_X9_townLine_105 F)))))))) (snd_iconst (pc := 76) dX9_townLine_76 (snd_goto (pc := 77) (off := 28) (tgt := 105) (by decide) dX9_townLine_77 ((sk_X9_townLine_105 F))))))))
noncomputable def k_X9_townLine_16 (F : Nat) : AK := ak_lstore 2 (ak_lload 2 (ak_push (vL 1818325876) (ak_lcmp (ak_ifeq (ak_push (vI 0) ((k_X9_townLine_66 F))) (ak_lload 2 (ak_push (vL 439855772532) (ak_lcmp (ak_ifeq (ak_push (vI 1) ((k_X9_townLine_66 F))) (ak_lload 2 (ak_push (vL 1852796782) (ak_lcmp (ak_ifeq (ak_push (vI 2) ((k_X9_townLine_66 F))) (ak_lload 2 (ak_push (vL 1852796517) (ak_lcmp (ak_ifeq (ak_push (vI 3) ((k_X9_townLine_66 F))) (ak_push (vI (-1)) ((k_X9_townLine_66 F)))))))))))))))))))
set_option maxRecDepth 20000 in
theorem sk_X9_townLine_16 (F : Nat) : Snd X0 RX9 cX9_townLine 7 5 16 (k_X9_townLine_16 F) := by
  unfold k_X9_townLine_16
  exact snd_lstore_n (pc := 16) (i := 2) (by decide) dX9_townLine_16 (snd_lload_n (pc := 17) (i := 2) dX9_townLine_17 (snd_ldc2 (pc := 18) (z := (1818325876)) (by decide) wd_1532 dX9_townLine_18 (snd_lcmp (pc := 21) dX9_townLine_21 (snd_ifne (pc := 22) (off := 7) (tgt := 29) (by decide) dX9_townLine_22 (snd_lload_n (pc := 29) (i := 2) dX9_townLine_29 (snd_ldc2 (pc := 30) (z := (439855772532)) (by decide) wd_1533 dX9_townLine_30 (snd_lcmp (pc := 33) dX9_townLine_33 (snd_ifne (pc := 34) (off := 7) (tgt := 41) (by decide) dX9_townLine_34 (snd_lload_n (pc := 41) (i := 2) dX9_townLine_41 (snd_ldc2 (pc := 42) (z := (1852796782)) (by decide) wd_1534 dX9_townLine_42 (snd_lcmp (pc := 45) dX9_townLine_45 (snd_ifne (pc := 46) (off := 7) (tgt := 53) (by decide) dX9_townLine_46 (snd_lload_n (pc := 53) (i := 2) dX9_townLine_53 (snd_ldc2 (pc := 54) (z := (1852796517)) (by decide) wd_1535 dX9_townLine_54 (snd_lcmp (pc := 57) dX9_townLine_57 (snd_ifne (pc := 58) (off := 7) (tgt := 65) (by decide) dX9_townLine_58 (snd_iconst (pc := 65) dX9_townLine_65 ((sk_X9_townLine_66 F))) (snd_iconst (pc := 61) dX9_townLine_61 (snd_goto (pc := 62) (off := 4) (tgt := 66) (by decide) dX9_townLine_62 ((sk_X9_townLine_66 F)))))))) (snd_iconst (pc := 49) dX9_townLine_49 (snd_goto (pc := 50) (off := 16) (tgt := 66) (by decide) dX9_townLine_50 ((sk_X9_townLine_66 F)))))))) (snd_iconst (pc := 37) dX9_townLine_37 (snd_goto (pc := 38) (off := 28) (tgt := 66) (by decide) dX9_townLine_38 ((sk_X9_townLine_66 F)))))))) (snd_iconst (pc := 25) dX9_townLine_25 (snd_goto (pc := 26) (off := 40) (tgt := 66) (by decide) dX9_townLine_26 ((sk_X9_townLine_66 F))))))))
noncomputable def k_X9_townLine (F : Nat) : AK := ak_aload 0 (ak_getf 9 11 (ak_push (vI 2) (ak_cmpeq (ak_aload 0 (ak_getf 9 13 ((k_X9_townLine_16 F)))) (ak_push (vL 0) ((k_X9_townLine_16 F))))))
noncomputable def m_X9_townLine (F : Nat) : AF := mkF 2 7 (k_X9_townLine F)
set_option maxRecDepth 20000 in
theorem s_X9_townLine (F : Nat) : MA yX9_townLine cX9_townLine 7 (some .boolean) 5 (m_X9_townLine F) := met_of (Or.inr (Or.inr (Or.inl ⟨rfl, rfl⟩))) (by decide) (by
  unfold k_X9_townLine
  exact snd_aload_n (pc := 0) (i := 0) dX9_townLine_0 (snd_getf (pc := 1) cls9 (f := 11) (by decide) wd_1314 dX9_townLine_1 (snd_iconst (pc := 4) dX9_townLine_4 (snd_icmpne (pc := 5) (off := 10) (tgt := 15) (by decide) dX9_townLine_5 (snd_lconst (pc := 15) (by decide) dX9_townLine_15 ((sk_X9_townLine_16 F))) (snd_aload_n (pc := 8) (i := 0) dX9_townLine_8 (snd_getf (pc := 9) cls9 (f := 13) (by decide) wd_1316 dX9_townLine_9 (snd_goto (pc := 12) (off := 4) (tgt := 16) (by decide) dX9_townLine_12 ((sk_X9_townLine_16 F)))))))))

/-! LastWalkerModel.moveLine(I)Z -/
theorem dX9_moveLine_0 : decode cX9_moveLine 0 = .ok (.aload_n 0, 1) := by decide +kernel
theorem dX9_moveLine_1 : decode cX9_moveLine 1 = .ok (.getfield 145, 3) := by decide +kernel
theorem dX9_moveLine_4 : decode cX9_moveLine 4 = .ok (.iconst 2, 1) := by decide +kernel
theorem dX9_moveLine_5 : decode cX9_moveLine 5 = .ok (.if_icmp .ne 10, 3) := by decide +kernel
theorem dX9_moveLine_8 : decode cX9_moveLine 8 = .ok (.aload_n 0, 1) := by decide +kernel
theorem dX9_moveLine_9 : decode cX9_moveLine 9 = .ok (.getfield 141, 3) := by decide +kernel
theorem dX9_moveLine_12 : decode cX9_moveLine 12 = .ok (.goto 4, 3) := by decide +kernel
theorem dX9_moveLine_15 : decode cX9_moveLine 15 = .ok (.lconst 0, 1) := by decide +kernel
theorem dX9_moveLine_16 : decode cX9_moveLine 16 = .ok (.lstore_n 2, 1) := by decide +kernel
theorem dX9_moveLine_17 : decode cX9_moveLine 17 = .ok (.lload_n 2, 1) := by decide +kernel
theorem dX9_moveLine_18 : decode cX9_moveLine 18 = .ok (.ldc2_w 224, 3) := by decide +kernel
theorem dX9_moveLine_21 : decode cX9_moveLine 21 = .ok (.lcmp, 1) := by decide +kernel
theorem dX9_moveLine_22 : decode cX9_moveLine 22 = .ok (.ifCond .eq 16, 3) := by decide +kernel
theorem dX9_moveLine_25 : decode cX9_moveLine 25 = .ok (.lload_n 2, 1) := by decide +kernel
theorem dX9_moveLine_26 : decode cX9_moveLine 26 = .ok (.ldc2_w 226, 3) := by decide +kernel
theorem dX9_moveLine_29 : decode cX9_moveLine 29 = .ok (.lcmp, 1) := by decide +kernel
theorem dX9_moveLine_30 : decode cX9_moveLine 30 = .ok (.ifCond .eq 8, 3) := by decide +kernel
theorem dX9_moveLine_33 : decode cX9_moveLine 33 = .ok (.aload_n 0, 1) := by decide +kernel
theorem dX9_moveLine_34 : decode cX9_moveLine 34 = .ok (.invokevirtual 160, 3) := by decide +kernel
theorem dX9_moveLine_37 : decode cX9_moveLine 37 = .ok (.ireturn, 1) := by decide +kernel
theorem dX9_moveLine_38 : decode cX9_moveLine 38 = .ok (.aload_n 0, 1) := by decide +kernel
theorem dX9_moveLine_39 : decode cX9_moveLine 39 = .ok (.getfield 32, 3) := by decide +kernel
theorem dX9_moveLine_42 : decode cX9_moveLine 42 = .ok (.iconst 0, 1) := by decide +kernel
theorem dX9_moveLine_43 : decode cX9_moveLine 43 = .ok (.iaload, 1) := by decide +kernel
theorem dX9_moveLine_44 : decode cX9_moveLine 44 = .ok (.bipush 40, 2) := by decide +kernel
theorem dX9_moveLine_46 : decode cX9_moveLine 46 = .ok (.if_icmp .ne 9, 3) := by decide +kernel
theorem dX9_moveLine_49 : decode cX9_moveLine 49 = .ok (.aload_n 0, 1) := by decide +kernel
theorem dX9_moveLine_50 : decode cX9_moveLine 50 = .ok (.iconst 3, 1) := by decide +kernel
theorem dX9_moveLine_51 : decode cX9_moveLine 51 = .ok (.iload_n 1, 1) := by decide +kernel
theorem dX9_moveLine_52 : decode cX9_moveLine 52 = .ok (.invokevirtual 164, 3) := by decide +kernel
theorem dX9_moveLine_55 : decode cX9_moveLine 55 = .ok (.aload_n 0, 1) := by decide +kernel
theorem dX9_moveLine_56 : decode cX9_moveLine 56 = .ok (.invokevirtual 172, 3) := by decide +kernel
theorem dX9_moveLine_59 : decode cX9_moveLine 59 = .ok (.aload_n 0, 1) := by decide +kernel
theorem dX9_moveLine_60 : decode cX9_moveLine 60 = .ok (.getfield 35, 3) := by decide +kernel
theorem dX9_moveLine_63 : decode cX9_moveLine 63 = .ok (.iconst 0, 1) := by decide +kernel
theorem dX9_moveLine_64 : decode cX9_moveLine 64 = .ok (.lload_n 2, 1) := by decide +kernel
theorem dX9_moveLine_65 : decode cX9_moveLine 65 = .ok (.ldc2_w 224, 3) := by decide +kernel
theorem dX9_moveLine_68 : decode cX9_moveLine 68 = .ok (.lcmp, 1) := by decide +kernel
theorem dX9_moveLine_69 : decode cX9_moveLine 69 = .ok (.ifCond .ne 7, 3) := by decide +kernel
theorem dX9_moveLine_72 : decode cX9_moveLine 72 = .ok (.iconst 0, 1) := by decide +kernel
theorem dX9_moveLine_73 : decode cX9_moveLine 73 = .ok (.goto 4, 3) := by decide +kernel
theorem dX9_moveLine_76 : decode cX9_moveLine 76 = .ok (.iconst 1, 1) := by decide +kernel
theorem dX9_moveLine_77 : decode cX9_moveLine 77 = .ok (.iastore, 1) := by decide +kernel
theorem dX9_moveLine_78 : decode cX9_moveLine 78 = .ok (.aload_n 0, 1) := by decide +kernel
theorem dX9_moveLine_79 : decode cX9_moveLine 79 = .ok (.getfield 35, 3) := by decide +kernel
theorem dX9_moveLine_82 : decode cX9_moveLine 82 = .ok (.iconst 1, 1) := by decide +kernel
theorem dX9_moveLine_83 : decode cX9_moveLine 83 = .ok (.iconst (-1), 1) := by decide +kernel
theorem dX9_moveLine_84 : decode cX9_moveLine 84 = .ok (.iastore, 1) := by decide +kernel
theorem dX9_moveLine_85 : decode cX9_moveLine 85 = .ok (.lload_n 2, 1) := by decide +kernel
theorem dX9_moveLine_86 : decode cX9_moveLine 86 = .ok (.ldc2_w 224, 3) := by decide +kernel
theorem dX9_moveLine_89 : decode cX9_moveLine 89 = .ok (.lcmp, 1) := by decide +kernel
theorem dX9_moveLine_90 : decode cX9_moveLine 90 = .ok (.ifCond .ne 15, 3) := by decide +kernel
theorem dX9_moveLine_93 : decode cX9_moveLine 93 = .ok (.aload_n 0, 1) := by decide +kernel
theorem dX9_moveLine_94 : decode cX9_moveLine 94 = .ok (.iconst 1, 1) := by decide +kernel
theorem dX9_moveLine_95 : decode cX9_moveLine 95 = .ok (.iconst 0, 1) := by decide +kernel
theorem dX9_moveLine_96 : decode cX9_moveLine 96 = .ok (.bipush 7, 2) := by decide +kernel
theorem dX9_moveLine_98 : decode cX9_moveLine 98 = .ok (.iconst (-1), 1) := by decide +kernel
theorem dX9_moveLine_99 : decode cX9_moveLine 99 = .ok (.invokevirtual 175, 3) := by decide +kernel
theorem dX9_moveLine_102 : decode cX9_moveLine 102 = .ok (.ifCond .eq 41, 3) := by decide +kernel
theorem dX9_moveLine_105 : decode cX9_moveLine 105 = .ok (.aload_n 0, 1) := by decide +kernel
theorem dX9_moveLine_106 : decode cX9_moveLine 106 = .ok (.iconst 2, 1) := by decide +kernel
theorem dX9_moveLine_107 : decode cX9_moveLine 107 = .ok (.lload_n 2, 1) := by decide +kernel
theorem dX9_moveLine_108 : decode cX9_moveLine 108 = .ok (.ldc2_w 224, 3) := by decide +kernel
theorem dX9_moveLine_111 : decode cX9_moveLine 111 = .ok (.lcmp, 1) := by decide +kernel
theorem dX9_moveLine_112 : decode cX9_moveLine 112 = .ok (.ifCond .ne 7, 3) := by decide +kernel
theorem dX9_moveLine_115 : decode cX9_moveLine 115 = .ok (.iconst 0, 1) := by decide +kernel
theorem dX9_moveLine_116 : decode cX9_moveLine 116 = .ok (.goto 4, 3) := by decide +kernel
theorem dX9_moveLine_119 : decode cX9_moveLine 119 = .ok (.iconst 1, 1) := by decide +kernel
theorem dX9_moveLine_120 : decode cX9_moveLine 120 = .ok (.lload_n 2, 1) := by decide +kernel
theorem dX9_moveLine_121 : decode cX9_moveLine 121 = .ok (.ldc2_w 224, 3) := by decide +kernel
theorem dX9_moveLine_124 : decode cX9_moveLine 124 = .ok (.lcmp, 1) := by decide +kernel
theorem dX9_moveLine_125 : decode cX9_moveLine 125 = .ok (.ifCond .ne 8, 3) := by decide +kernel
theorem dX9_moveLine_128 : decode cX9_moveLine 128 = .ok (.bipush 13, 2) := by decide +kernel
theorem dX9_moveLine_130 : decode cX9_moveLine 130 = .ok (.goto 6, 3) := by decide +kernel
theorem dX9_moveLine_133 : decode cX9_moveLine 133 = .ok (.sipush 999, 3) := by decide +kernel
theorem dX9_moveLine_136 : decode cX9_moveLine 136 = .ok (.iconst (-1), 1) := by decide +kernel
theorem dX9_moveLine_137 : decode cX9_moveLine 137 = .ok (.invokevirtual 175, 3) := by decide +kernel
theorem dX9_moveLine_140 : decode cX9_moveLine 140 = .ok (.ifCond .ne 5, 3) := by decide +kernel
theorem dX9_moveLine_143 : decode cX9_moveLine 143 = .ok (.iconst 0, 1) := by decide +kernel
theorem dX9_moveLine_144 : decode cX9_moveLine 144 = .ok (.ireturn, 1) := by decide +kernel
theorem dX9_moveLine_145 : decode cX9_moveLine 145 = .ok (.aload_n 0, 1) := by decide +kernel
theorem dX9_moveLine_146 : decode cX9_moveLine 146 = .ok (.iconst 0, 1) := by decide +kernel
theorem dX9_moveLine_147 : decode cX9_moveLine 147 = .ok (.bipush 40, 2) := by decide +kernel
theorem dX9_moveLine_149 : decode cX9_moveLine 149 = .ok (.iconst 1, 1) := by decide +kernel
theorem dX9_moveLine_150 : decode cX9_moveLine 150 = .ok (.iconst 3, 1) := by decide +kernel
theorem dX9_moveLine_151 : decode cX9_moveLine 151 = .ok (.iconst 3, 1) := by decide +kernel
theorem dX9_moveLine_152 : decode cX9_moveLine 152 = .ok (.invokevirtual 220, 3) := by decide +kernel
theorem dX9_moveLine_155 : decode cX9_moveLine 155 = .ok (.iconst 1, 1) := by decide +kernel
theorem dX9_moveLine_156 : decode cX9_moveLine 156 = .ok (.ireturn, 1) := by decide +kernel
noncomputable def k_X9_moveLine_136 (F : Nat) : AK := ak_push (vI (-1)) (ak_callv 9 4 (m_X9_take F) (ak_ifeq (ak_push (vI 0) ak_ireturn) (ak_aload 0 (ak_push (vI 0) (ak_push (vI 40) (ak_push (vI 1) (ak_push (vI 3) (ak_push (vI 3) (ak_callv 9 5 (m_X9_lay4 F) (ak_push (vI 1) ak_ireturn))))))))))
set_option maxRecDepth 20000 in
theorem sk_X9_moveLine_136 (F : Nat) : Snd X0 RX9 cX9_moveLine 4 3 136 (k_X9_moveLine_136 F) := by
  unfold k_X9_moveLine_136
  exact snd_iconst (pc := 136) dX9_moveLine_136 (snd_callV (pc := 137) (n := 4) cls9 (s_X9_take F) (by decide) (by decide) wd_1551 wd_1548 wd_1550 wd_58 wd_129 hy_X9_take dX9_moveLine_137 (snd_ifne (pc := 140) (off := 5) (tgt := 145) (by decide) dX9_moveLine_140 (snd_aload_n (pc := 145) (i := 0) dX9_moveLine_145 (snd_iconst (pc := 146) dX9_moveLine_146 (snd_bipush (pc := 147) (by decide) dX9_moveLine_147 (snd_iconst (pc := 149) dX9_moveLine_149 (snd_iconst (pc := 150) dX9_moveLine_150 (snd_iconst (pc := 151) dX9_moveLine_151 (snd_callV (pc := 152) (n := 5) cls9 (s_X9_lay4 F) (by decide) (by decide) wd_1567 wd_1564 wd_1566 wd_62 wd_129 hy_X9_lay4 dX9_moveLine_152 (snd_iconst (pc := 155) dX9_moveLine_155 (snd_ireturn dX9_moveLine_156))))))))) (snd_iconst (pc := 143) dX9_moveLine_143 (snd_ireturn dX9_moveLine_144))))
noncomputable def k_X9_moveLine_120 (F : Nat) : AK := ak_lload 2 (ak_push (vL 26479) (ak_lcmp (ak_ifeq (ak_push (vI 13) ((k_X9_moveLine_136 F))) (ak_push (vI 999) ((k_X9_moveLine_136 F))))))
set_option maxRecDepth 20000 in
theorem sk_X9_moveLine_120 (F : Nat) : Snd X0 RX9 cX9_moveLine 4 3 120 (k_X9_moveLine_120 F) := by
  unfold k_X9_moveLine_120
  exact snd_lload_n (pc := 120) (i := 2) dX9_moveLine_120 (snd_ldc2 (pc := 121) (z := (26479)) (by decide) wd_1580 dX9_moveLine_121 (snd_lcmp (pc := 124) dX9_moveLine_124 (snd_ifne (pc := 125) (off := 8) (tgt := 133) (by decide) dX9_moveLine_125 (snd_sipush (pc := 133) (by decide) dX9_moveLine_133 ((sk_X9_moveLine_136 F))) (snd_bipush (pc := 128) (by decide) dX9_moveLine_128 (snd_goto (pc := 130) (off := 6) (tgt := 136) (by decide) dX9_moveLine_130 ((sk_X9_moveLine_136 F)))))))
noncomputable def k_X9_moveLine_105 (F : Nat) : AK := ak_aload 0 (ak_push (vI 2) (ak_lload 2 (ak_push (vL 26479) (ak_lcmp (ak_ifeq (ak_push (vI 0) ((k_X9_moveLine_120 F))) (ak_push (vI 1) ((k_X9_moveLine_120 F))))))))
set_option maxRecDepth 20000 in
theorem sk_X9_moveLine_105 (F : Nat) : Snd X0 RX9 cX9_moveLine 4 3 105 (k_X9_moveLine_105 F) := by
  unfold k_X9_moveLine_105
  exact snd_aload_n (pc := 105) (i := 0) dX9_moveLine_105 (snd_iconst (pc := 106) dX9_moveLine_106 (snd_lload_n (pc := 107) (i := 2) dX9_moveLine_107 (snd_ldc2 (pc := 108) (z := (26479)) (by decide) wd_1580 dX9_moveLine_108 (snd_lcmp (pc := 111) dX9_moveLine_111 (snd_ifne (pc := 112) (off := 7) (tgt := 119) (by decide) dX9_moveLine_112 (snd_iconst (pc := 119) dX9_moveLine_119 ((sk_X9_moveLine_120 F))) (snd_iconst (pc := 115) dX9_moveLine_115 (snd_goto (pc := 116) (off := 4) (tgt := 120) (by decide) dX9_moveLine_116 ((sk_X9_moveLine_120 F)))))))))
noncomputable def k_X9_moveLine_77 (F : Nat) : AK := ak_iast (ak_aload 0 (ak_getf 9 19 (ak_push (vI 1) (ak_push (vI (-1)) (ak_iast (ak_lload 2 (ak_push (vL 26479) (ak_lcmp (ak_ifeq (ak_aload 0 (ak_push (vI 1) (ak_push (vI 0) (ak_push (vI 7) (ak_push (vI (-1)) (ak_callv 9 4 (m_X9_take F) (ak_ifeq (ak_push (vI 0) ak_ireturn) ((k_X9_moveLine_105 F))))))))) ((k_X9_moveLine_105 F)))))))))))
set_option maxRecDepth 20000 in
theorem sk_X9_moveLine_77 (F : Nat) : Snd X0 RX9 cX9_moveLine 4 3 77 (k_X9_moveLine_77 F) := by
  unfold k_X9_moveLine_77
  exact snd_iast (pc := 77) dX9_moveLine_77 (snd_aload_n (pc := 78) (i := 0) dX9_moveLine_78 (snd_getf (pc := 79) cls9 (f := 19) (by decide) wd_1322 dX9_moveLine_79 (snd_iconst (pc := 82) dX9_moveLine_82 (snd_iconst (pc := 83) dX9_moveLine_83 (snd_iast (pc := 84) dX9_moveLine_84 (snd_lload_n (pc := 85) (i := 2) dX9_moveLine_85 (snd_ldc2 (pc := 86) (z := (26479)) (by decide) wd_1580 dX9_moveLine_86 (snd_lcmp (pc := 89) dX9_moveLine_89 (snd_ifne (pc := 90) (off := 15) (tgt := 105) (by decide) dX9_moveLine_90 ((sk_X9_moveLine_105 F)) (snd_aload_n (pc := 93) (i := 0) dX9_moveLine_93 (snd_iconst (pc := 94) dX9_moveLine_94 (snd_iconst (pc := 95) dX9_moveLine_95 (snd_bipush (pc := 96) (by decide) dX9_moveLine_96 (snd_iconst (pc := 98) dX9_moveLine_98 (snd_callV (pc := 99) (n := 4) cls9 (s_X9_take F) (by decide) (by decide) wd_1551 wd_1548 wd_1550 wd_58 wd_129 hy_X9_take dX9_moveLine_99 (snd_ifeq (pc := 102) (off := 41) (tgt := 143) (by decide) dX9_moveLine_102 (snd_iconst (pc := 143) dX9_moveLine_143 (snd_ireturn dX9_moveLine_144)) ((sk_X9_moveLine_105 F))))))))))))))))))
noncomputable def k_X9_moveLine_55 (F : Nat) : AK := ak_aload 0 (ak_callv 9 0 (m_X9_token F) (ak_aload 0 (ak_getf 9 19 (ak_push (vI 0) (ak_lload 2 (ak_push (vL 26479) (ak_lcmp (ak_ifeq (ak_push (vI 0) ((k_X9_moveLine_77 F))) (ak_push (vI 1) ((k_X9_moveLine_77 F)))))))))))
set_option maxRecDepth 20000 in
theorem sk_X9_moveLine_55 (F : Nat) : Snd X0 RX9 cX9_moveLine 4 3 55 (k_X9_moveLine_55 F) := by
  unfold k_X9_moveLine_55
  exact snd_aload_n (pc := 55) (i := 0) dX9_moveLine_55 (snd_callV (pc := 56) (n := 0) cls9 (s_X9_token F) (by decide) (by decide) wd_1523 wd_1520 wd_1522 wd_54 wd_129 hy_X9_token dX9_moveLine_56 (snd_aload_n (pc := 59) (i := 0) dX9_moveLine_59 (snd_getf (pc := 60) cls9 (f := 19) (by decide) wd_1322 dX9_moveLine_60 (snd_iconst (pc := 63) dX9_moveLine_63 (snd_lload_n (pc := 64) (i := 2) dX9_moveLine_64 (snd_ldc2 (pc := 65) (z := (26479)) (by decide) wd_1580 dX9_moveLine_65 (snd_lcmp (pc := 68) dX9_moveLine_68 (snd_ifne (pc := 69) (off := 7) (tgt := 76) (by decide) dX9_moveLine_69 (snd_iconst (pc := 76) dX9_moveLine_76 ((sk_X9_moveLine_77 F))) (snd_iconst (pc := 72) dX9_moveLine_72 (snd_goto (pc := 73) (off := 4) (tgt := 77) (by decide) dX9_moveLine_73 ((sk_X9_moveLine_77 F))))))))))))
noncomputable def k_X9_moveLine_38 (F : Nat) : AK := ak_aload 0 (ak_getf 9 18 (ak_push (vI 0) (ak_iald (ak_push (vI 40) (ak_cmpeq (ak_aload 0 (ak_push (vI 3) (ak_iload 1 (ak_callv 9 2 (m_X9_later F) ((k_X9_moveLine_55 F)))))) ((k_X9_moveLine_55 F)))))))
set_option maxRecDepth 20000 in
theorem sk_X9_moveLine_38 (F : Nat) : Snd X0 RX9 cX9_moveLine 4 3 38 (k_X9_moveLine_38 F) := by
  unfold k_X9_moveLine_38
  exact snd_aload_n (pc := 38) (i := 0) dX9_moveLine_38 (snd_getf (pc := 39) cls9 (f := 18) (by decide) wd_1321 dX9_moveLine_39 (snd_iconst (pc := 42) dX9_moveLine_42 (snd_iald (pc := 43) dX9_moveLine_43 (snd_bipush (pc := 44) (by decide) dX9_moveLine_44 (snd_icmpne (pc := 46) (off := 9) (tgt := 55) (by decide) dX9_moveLine_46 ((sk_X9_moveLine_55 F)) (snd_aload_n (pc := 49) (i := 0) dX9_moveLine_49 (snd_iconst (pc := 50) dX9_moveLine_50 (snd_iload_n (pc := 51) (i := 1) dX9_moveLine_51 (snd_callV (pc := 52) (n := 2) cls9 (s_X9_later F) (by decide) (by decide) wd_1555 wd_1552 wd_1554 wd_59 wd_129 hy_X9_later dX9_moveLine_52 ((sk_X9_moveLine_55 F)))))))))))
noncomputable def k_X9_moveLine_16 (F : Nat) : AK := ak_lstore 2 (ak_lload 2 (ak_push (vL 26479) (ak_lcmp (ak_ifeq ((k_X9_moveLine_38 F)) (ak_lload 2 (ak_push (vL 2002872692) (ak_lcmp (ak_ifeq ((k_X9_moveLine_38 F)) (ak_aload 0 (ak_callv 9 0 (m_X9_stops F) ak_ireturn))))))))))
set_option maxRecDepth 20000 in
theorem sk_X9_moveLine_16 (F : Nat) : Snd X0 RX9 cX9_moveLine 4 3 16 (k_X9_moveLine_16 F) := by
  unfold k_X9_moveLine_16
  exact snd_lstore_n (pc := 16) (i := 2) (by decide) dX9_moveLine_16 (snd_lload_n (pc := 17) (i := 2) dX9_moveLine_17 (snd_ldc2 (pc := 18) (z := (26479)) (by decide) wd_1580 dX9_moveLine_18 (snd_lcmp (pc := 21) dX9_moveLine_21 (snd_ifeq (pc := 22) (off := 16) (tgt := 38) (by decide) dX9_moveLine_22 ((sk_X9_moveLine_38 F)) (snd_lload_n (pc := 25) (i := 2) dX9_moveLine_25 (snd_ldc2 (pc := 26) (z := (2002872692)) (by decide) wd_1581 dX9_moveLine_26 (snd_lcmp (pc := 29) dX9_moveLine_29 (snd_ifeq (pc := 30) (off := 8) (tgt := 38) (by decide) dX9_moveLine_30 ((sk_X9_moveLine_38 F)) (snd_aload_n (pc := 33) (i := 0) dX9_moveLine_33 (snd_callV (pc := 34) (n := 0) cls9 (s_X9_stops F) (by decide) (by decide) wd_1547 wd_1544 wd_1546 wd_57 wd_129 hy_X9_stops dX9_moveLine_34 (snd_ireturn dX9_moveLine_37)))))))))))
noncomputable def k_X9_moveLine (F : Nat) : AK := ak_aload 0 (ak_getf 9 11 (ak_push (vI 2) (ak_cmpeq (ak_aload 0 (ak_getf 9 13 ((k_X9_moveLine_16 F)))) (ak_push (vL 0) ((k_X9_moveLine_16 F))))))
noncomputable def m_X9_moveLine (F : Nat) : AF := mkF 2 4 (k_X9_moveLine F)
set_option maxRecDepth 20000 in
theorem s_X9_moveLine (F : Nat) : MA yX9_moveLine cX9_moveLine 4 (some .boolean) 3 (m_X9_moveLine F) := met_of (Or.inr (Or.inr (Or.inl ⟨rfl, rfl⟩))) (by decide) (by
  unfold k_X9_moveLine
  exact snd_aload_n (pc := 0) (i := 0) dX9_moveLine_0 (snd_getf (pc := 1) cls9 (f := 11) (by decide) wd_1314 dX9_moveLine_1 (snd_iconst (pc := 4) dX9_moveLine_4 (snd_icmpne (pc := 5) (off := 10) (tgt := 15) (by decide) dX9_moveLine_5 (snd_lconst (pc := 15) (by decide) dX9_moveLine_15 ((sk_X9_moveLine_16 F))) (snd_aload_n (pc := 8) (i := 0) dX9_moveLine_8 (snd_getf (pc := 9) cls9 (f := 13) (by decide) wd_1316 dX9_moveLine_9 (snd_goto (pc := 12) (off := 4) (tgt := 16) (by decide) dX9_moveLine_12 ((sk_X9_moveLine_16 F)))))))))

/-! LastWalkerModel.readText(I)Z -/
theorem dX9_readText_0 : decode cX9_readText 0 = .ok (.iconst 0, 1) := by decide +kernel
theorem dX9_readText_1 : decode cX9_readText 1 = .ok (.istore_n 2, 1) := by decide +kernel
theorem dX9_readText_2 : decode cX9_readText 2 = .ok (.iload_n 2, 1) := by decide +kernel
theorem dX9_readText_3 : decode cX9_readText 3 = .ok (.sipush 232, 3) := by decide +kernel
theorem dX9_readText_6 : decode cX9_readText 6 = .ok (.if_icmp .ge 16, 3) := by decide +kernel
theorem dX9_readText_9 : decode cX9_readText 9 = .ok (.aload_n 0, 1) := by decide +kernel
theorem dX9_readText_10 : decode cX9_readText 10 = .ok (.getfield 32, 3) := by decide +kernel
theorem dX9_readText_13 : decode cX9_readText 13 = .ok (.iload_n 2, 1) := by decide +kernel
theorem dX9_readText_14 : decode cX9_readText 14 = .ok (.iconst 0, 1) := by decide +kernel
theorem dX9_readText_15 : decode cX9_readText 15 = .ok (.iastore, 1) := by decide +kernel
theorem dX9_readText_16 : decode cX9_readText 16 = .ok (.iinc 2 1, 3) := by decide +kernel
theorem dX9_readText_19 : decode cX9_readText 19 = .ok (.goto (-17), 3) := by decide +kernel
theorem dX9_readText_22 : decode cX9_readText 22 = .ok (.aload_n 0, 1) := by decide +kernel
theorem dX9_readText_23 : decode cX9_readText 23 = .ok (.getfield 32, 3) := by decide +kernel
theorem dX9_readText_26 : decode cX9_readText 26 = .ok (.iconst 0, 1) := by decide +kernel
theorem dX9_readText_27 : decode cX9_readText 27 = .ok (.iload_n 1, 1) := by decide +kernel
theorem dX9_readText_28 : decode cX9_readText 28 = .ok (.ifCond .ne 7, 3) := by decide +kernel
theorem dX9_readText_31 : decode cX9_readText 31 = .ok (.iconst 4, 1) := by decide +kernel
theorem dX9_readText_32 : decode cX9_readText 32 = .ok (.goto 4, 3) := by decide +kernel
theorem dX9_readText_35 : decode cX9_readText 35 = .ok (.iconst 0, 1) := by decide +kernel
theorem dX9_readText_36 : decode cX9_readText 36 = .ok (.iastore, 1) := by decide +kernel
theorem dX9_readText_37 : decode cX9_readText 37 = .ok (.aload_n 0, 1) := by decide +kernel
theorem dX9_readText_38 : decode cX9_readText 38 = .ok (.iconst (-1), 1) := by decide +kernel
theorem dX9_readText_39 : decode cX9_readText 39 = .ok (.putfield 179, 3) := by decide +kernel
theorem dX9_readText_42 : decode cX9_readText 42 = .ok (.aload_n 0, 1) := by decide +kernel
theorem dX9_readText_43 : decode cX9_readText 43 = .ok (.iconst 0, 1) := by decide +kernel
theorem dX9_readText_44 : decode cX9_readText 44 = .ok (.putfield 128, 3) := by decide +kernel
theorem dX9_readText_47 : decode cX9_readText 47 = .ok (.aload_n 0, 1) := by decide +kernel
theorem dX9_readText_48 : decode cX9_readText 48 = .ok (.iconst 0, 1) := by decide +kernel
theorem dX9_readText_49 : decode cX9_readText 49 = .ok (.putfield 154, 3) := by decide +kernel
theorem dX9_readText_52 : decode cX9_readText 52 = .ok (.iconst 1, 1) := by decide +kernel
theorem dX9_readText_53 : decode cX9_readText 53 = .ok (.istore_n 2, 1) := by decide +kernel
theorem dX9_readText_54 : decode cX9_readText 54 = .ok (.aload_n 0, 1) := by decide +kernel
theorem dX9_readText_55 : decode cX9_readText 55 = .ok (.invokevirtual 172, 3) := by decide +kernel
theorem dX9_readText_58 : decode cX9_readText 58 = .ok (.iload_n 2, 1) := by decide +kernel
theorem dX9_readText_59 : decode cX9_readText 59 = .ok (.ifCond .eq 66, 3) := by decide +kernel
theorem dX9_readText_62 : decode cX9_readText 62 = .ok (.aload_n 0, 1) := by decide +kernel
theorem dX9_readText_63 : decode cX9_readText 63 = .ok (.getfield 145, 3) := by decide +kernel
theorem dX9_readText_66 : decode cX9_readText 66 = .ok (.ifCond .eq 59, 3) := by decide +kernel
theorem dX9_readText_69 : decode cX9_readText 69 = .ok (.aload_n 0, 1) := by decide +kernel
theorem dX9_readText_70 : decode cX9_readText 70 = .ok (.getfield 138, 3) := by decide +kernel
theorem dX9_readText_73 : decode cX9_readText 73 = .ok (.istore_n 3, 1) := by decide +kernel
theorem dX9_readText_74 : decode cX9_readText 74 = .ok (.aload_n 0, 1) := by decide +kernel
theorem dX9_readText_75 : decode cX9_readText 75 = .ok (.iconst 1, 1) := by decide +kernel
theorem dX9_readText_76 : decode cX9_readText 76 = .ok (.putfield 168, 3) := by decide +kernel
theorem dX9_readText_79 : decode cX9_readText 79 = .ok (.iload_n 1, 1) := by decide +kernel
theorem dX9_readText_80 : decode cX9_readText 80 = .ok (.ifCond .ne 11, 3) := by decide +kernel
theorem dX9_readText_83 : decode cX9_readText 83 = .ok (.aload_n 0, 1) := by decide +kernel
theorem dX9_readText_84 : decode cX9_readText 84 = .ok (.iload_n 3, 1) := by decide +kernel
theorem dX9_readText_85 : decode cX9_readText 85 = .ok (.invokevirtual 228, 3) := by decide +kernel
theorem dX9_readText_88 : decode cX9_readText 88 = .ok (.goto 8, 3) := by decide +kernel
theorem dX9_readText_91 : decode cX9_readText 91 = .ok (.aload_n 0, 1) := by decide +kernel
theorem dX9_readText_92 : decode cX9_readText 92 = .ok (.iload_n 3, 1) := by decide +kernel
theorem dX9_readText_93 : decode cX9_readText 93 = .ok (.invokevirtual 231, 3) := by decide +kernel
theorem dX9_readText_96 : decode cX9_readText 96 = .ok (.istore_n 2, 1) := by decide +kernel
theorem dX9_readText_97 : decode cX9_readText 97 = .ok (.iload_n 2, 1) := by decide +kernel
theorem dX9_readText_98 : decode cX9_readText 98 = .ok (.ifCond .eq 16, 3) := by decide +kernel
theorem dX9_readText_101 : decode cX9_readText 101 = .ok (.aload_n 0, 1) := by decide +kernel
theorem dX9_readText_102 : decode cX9_readText 102 = .ok (.getfield 145, 3) := by decide +kernel
theorem dX9_readText_105 : decode cX9_readText 105 = .ok (.iconst 4, 1) := by decide +kernel
theorem dX9_readText_106 : decode cX9_readText 106 = .ok (.if_icmp .eq 8, 3) := by decide +kernel
theorem dX9_readText_109 : decode cX9_readText 109 = .ok (.aload_n 0, 1) := by decide +kernel
theorem dX9_readText_110 : decode cX9_readText 110 = .ok (.invokevirtual 160, 3) := by decide +kernel
theorem dX9_readText_113 : decode cX9_readText 113 = .ok (.istore_n 2, 1) := by decide +kernel
theorem dX9_readText_114 : decode cX9_readText 114 = .ok (.iload_n 2, 1) := by decide +kernel
theorem dX9_readText_115 : decode cX9_readText 115 = .ok (.ifCond .eq 7, 3) := by decide +kernel
theorem dX9_readText_118 : decode cX9_readText 118 = .ok (.aload_n 0, 1) := by decide +kernel
theorem dX9_readText_119 : decode cX9_readText 119 = .ok (.invokevirtual 172, 3) := by decide +kernel
theorem dX9_readText_122 : decode cX9_readText 122 = .ok (.goto (-64), 3) := by decide +kernel
theorem dX9_readText_125 : decode cX9_readText 125 = .ok (.iload_n 2, 1) := by decide +kernel
theorem dX9_readText_126 : decode cX9_readText 126 = .ok (.ifCond .eq 36, 3) := by decide +kernel
theorem dX9_readText_129 : decode cX9_readText 129 = .ok (.iload_n 1, 1) := by decide +kernel
theorem dX9_readText_130 : decode cX9_readText 130 = .ok (.ifCond .ne 32, 3) := by decide +kernel
theorem dX9_readText_133 : decode cX9_readText 133 = .ok (.aload_n 0, 1) := by decide +kernel
theorem dX9_readText_134 : decode cX9_readText 134 = .ok (.getfield 154, 3) := by decide +kernel
theorem dX9_readText_137 : decode cX9_readText 137 = .ok (.ifCond .ne 25, 3) := by decide +kernel
theorem dX9_readText_140 : decode cX9_readText 140 = .ok (.aload_n 0, 1) := by decide +kernel
theorem dX9_readText_141 : decode cX9_readText 141 = .ok (.getfield 179, 3) := by decide +kernel
theorem dX9_readText_144 : decode cX9_readText 144 = .ok (.aload_n 0, 1) := by decide +kernel
theorem dX9_readText_145 : decode cX9_readText 145 = .ok (.getfield 32, 3) := by decide +kernel
theorem dX9_readText_148 : decode cX9_readText 148 = .ok (.iconst 0, 1) := by decide +kernel
theorem dX9_readText_149 : decode cX9_readText 149 = .ok (.iaload, 1) := by decide +kernel
theorem dX9_readText_150 : decode cX9_readText 150 = .ok (.if_icmp .lt 12, 3) := by decide +kernel
theorem dX9_readText_153 : decode cX9_readText 153 = .ok (.aload_n 0, 1) := by decide +kernel
theorem dX9_readText_154 : decode cX9_readText 154 = .ok (.iconst 4, 1) := by decide +kernel
theorem dX9_readText_155 : decode cX9_readText 155 = .ok (.aload_n 0, 1) := by decide +kernel
theorem dX9_readText_156 : decode cX9_readText 156 = .ok (.getfield 138, 3) := by decide +kernel
theorem dX9_readText_159 : decode cX9_readText 159 = .ok (.invokevirtual 164, 3) := by decide +kernel
theorem dX9_readText_162 : decode cX9_readText 162 = .ok (.aload_n 0, 1) := by decide +kernel
theorem dX9_readText_163 : decode cX9_readText 163 = .ok (.getfield 17, 3) := by decide +kernel
theorem dX9_readText_166 : decode cX9_readText 166 = .ok (.iconst 0, 1) := by decide +kernel
theorem dX9_readText_167 : decode cX9_readText 167 = .ok (.iload_n 2, 1) := by decide +kernel
theorem dX9_readText_168 : decode cX9_readText 168 = .ok (.ifCond .eq 10, 3) := by decide +kernel
theorem dX9_readText_171 : decode cX9_readText 171 = .ok (.aload_n 0, 1) := by decide +kernel
theorem dX9_readText_172 : decode cX9_readText 172 = .ok (.getfield 154, 3) := by decide +kernel
theorem dX9_readText_175 : decode cX9_readText 175 = .ok (.goto 4, 3) := by decide +kernel
theorem dX9_readText_178 : decode cX9_readText 178 = .ok (.iconst 1, 1) := by decide +kernel
theorem dX9_readText_179 : decode cX9_readText 179 = .ok (.iastore, 1) := by decide +kernel
theorem dX9_readText_180 : decode cX9_readText 180 = .ok (.aload_n 0, 1) := by decide +kernel
theorem dX9_readText_181 : decode cX9_readText 181 = .ok (.getfield 20, 3) := by decide +kernel
theorem dX9_readText_184 : decode cX9_readText 184 = .ok (.iconst 0, 1) := by decide +kernel
theorem dX9_readText_185 : decode cX9_readText 185 = .ok (.iload_n 2, 1) := by decide +kernel
theorem dX9_readText_186 : decode cX9_readText 186 = .ok (.ifCond .ne 10, 3) := by decide +kernel
theorem dX9_readText_189 : decode cX9_readText 189 = .ok (.aload_n 0, 1) := by decide +kernel
theorem dX9_readText_190 : decode cX9_readText 190 = .ok (.getfield 151, 3) := by decide +kernel
theorem dX9_readText_193 : decode cX9_readText 193 = .ok (.goto 18, 3) := by decide +kernel
theorem dX9_readText_196 : decode cX9_readText 196 = .ok (.aload_n 0, 1) := by decide +kernel
theorem dX9_readText_197 : decode cX9_readText 197 = .ok (.getfield 154, 3) := by decide +kernel
theorem dX9_readText_200 : decode cX9_readText 200 = .ok (.ifCond .le 10, 3) := by decide +kernel
theorem dX9_readText_203 : decode cX9_readText 203 = .ok (.aload_n 0, 1) := by decide +kernel
theorem dX9_readText_204 : decode cX9_readText 204 = .ok (.getfield 157, 3) := by decide +kernel
theorem dX9_readText_207 : decode cX9_readText 207 = .ok (.goto 4, 3) := by decide +kernel
theorem dX9_readText_210 : decode cX9_readText 210 = .ok (.iconst (-1), 1) := by decide +kernel
theorem dX9_readText_211 : decode cX9_readText 211 = .ok (.iastore, 1) := by decide +kernel
theorem dX9_readText_212 : decode cX9_readText 212 = .ok (.aload_n 0, 1) := by decide +kernel
theorem dX9_readText_213 : decode cX9_readText 213 = .ok (.getfield 17, 3) := by decide +kernel
theorem dX9_readText_216 : decode cX9_readText 216 = .ok (.iconst 0, 1) := by decide +kernel
theorem dX9_readText_217 : decode cX9_readText 217 = .ok (.iaload, 1) := by decide +kernel
theorem dX9_readText_218 : decode cX9_readText 218 = .ok (.ifCond .ne 7, 3) := by decide +kernel
theorem dX9_readText_221 : decode cX9_readText 221 = .ok (.iconst 1, 1) := by decide +kernel
theorem dX9_readText_222 : decode cX9_readText 222 = .ok (.goto 4, 3) := by decide +kernel
theorem dX9_readText_225 : decode cX9_readText 225 = .ok (.iconst 0, 1) := by decide +kernel
theorem dX9_readText_226 : decode cX9_readText 226 = .ok (.ireturn, 1) := by decide +kernel
noncomputable def k_X9_readText_122 (F : Nat) (h58 : AK) : AK := h58
set_option maxRecDepth 20000 in
theorem sk_X9_readText_122 (F : Nat) {h58 : AK} (hh58 : Snd X0 RX9 cX9_readText 4 6 58 h58) : Snd X0 RX9 cX9_readText 4 6 122 (k_X9_readText_122 F h58) := by
  unfold k_X9_readText_122
  exact snd_goto (pc := 122) (off := (-64)) (tgt := 58) (by decide) dX9_readText_122 (hh58)
noncomputable def k_X9_readText_114 (F : Nat) (h58 : AK) : AK := ak_iload 2 (ak_ifeq ((k_X9_readText_122 F h58)) (ak_aload 0 (ak_callv 9 0 (m_X9_token F) ((k_X9_readText_122 F h58)))))
set_option maxRecDepth 20000 in
theorem sk_X9_readText_114 (F : Nat) {h58 : AK} (hh58 : Snd X0 RX9 cX9_readText 4 6 58 h58) : Snd X0 RX9 cX9_readText 4 6 114 (k_X9_readText_114 F h58) := by
  unfold k_X9_readText_114
  exact snd_iload_n (pc := 114) (i := 2) dX9_readText_114 (snd_ifeq (pc := 115) (off := 7) (tgt := 122) (by decide) dX9_readText_115 ((sk_X9_readText_122 F hh58)) (snd_aload_n (pc := 118) (i := 0) dX9_readText_118 (snd_callV (pc := 119) (n := 0) cls9 (s_X9_token F) (by decide) (by decide) wd_1523 wd_1520 wd_1522 wd_54 wd_129 hy_X9_token dX9_readText_119 ((sk_X9_readText_122 F hh58)))))
noncomputable def k_X9_readText_96 (F : Nat) (h58 : AK) : AK := ak_istore 2 (ak_iload 2 (ak_ifeq ((k_X9_readText_114 F h58)) (ak_aload 0 (ak_getf 9 11 (ak_push (vI 4) (ak_cmpeq ((k_X9_readText_114 F h58)) (ak_aload 0 (ak_callv 9 0 (m_X9_stops F) (ak_istore 2 ((k_X9_readText_114 F h58)))))))))))
set_option maxRecDepth 20000 in
theorem sk_X9_readText_96 (F : Nat) {h58 : AK} (hh58 : Snd X0 RX9 cX9_readText 4 6 58 h58) : Snd X0 RX9 cX9_readText 4 6 96 (k_X9_readText_96 F h58) := by
  unfold k_X9_readText_96
  exact snd_istore_n (pc := 96) (i := 2) (by decide) dX9_readText_96 (snd_iload_n (pc := 97) (i := 2) dX9_readText_97 (snd_ifeq (pc := 98) (off := 16) (tgt := 114) (by decide) dX9_readText_98 ((sk_X9_readText_114 F hh58)) (snd_aload_n (pc := 101) (i := 0) dX9_readText_101 (snd_getf (pc := 102) cls9 (f := 11) (by decide) wd_1314 dX9_readText_102 (snd_iconst (pc := 105) dX9_readText_105 (snd_icmpeq (pc := 106) (off := 8) (tgt := 114) (by decide) dX9_readText_106 ((sk_X9_readText_114 F hh58)) (snd_aload_n (pc := 109) (i := 0) dX9_readText_109 (snd_callV (pc := 110) (n := 0) cls9 (s_X9_stops F) (by decide) (by decide) wd_1547 wd_1544 wd_1546 wd_57 wd_129 hy_X9_stops dX9_readText_110 (snd_istore_n (pc := 113) (i := 2) (by decide) dX9_readText_113 ((sk_X9_readText_114 F hh58)))))))))))
noncomputable def k_X9_readText_211 (F : Nat) : AK := ak_iast (ak_aload 0 (ak_getf 9 3 (ak_push (vI 0) (ak_iald (ak_ifeq (ak_push (vI 1) ak_ireturn) (ak_push (vI 0) ak_ireturn))))))
set_option maxRecDepth 20000 in
theorem sk_X9_readText_211 (F : Nat) : Snd X0 RX9 cX9_readText 4 6 211 (k_X9_readText_211 F) := by
  unfold k_X9_readText_211
  exact snd_iast (pc := 211) dX9_readText_211 (snd_aload_n (pc := 212) (i := 0) dX9_readText_212 (snd_getf (pc := 213) cls9 (f := 3) (by decide) wd_1306 dX9_readText_213 (snd_iconst (pc := 216) dX9_readText_216 (snd_iald (pc := 217) dX9_readText_217 (snd_ifne (pc := 218) (off := 7) (tgt := 225) (by decide) dX9_readText_218 (snd_iconst (pc := 225) dX9_readText_225 (snd_ireturn dX9_readText_226)) (snd_iconst (pc := 221) dX9_readText_221 (snd_goto (pc := 222) (off := 4) (tgt := 226) (by decide) dX9_readText_222 (snd_ireturn dX9_readText_226))))))))
noncomputable def k_X9_readText_179 (F : Nat) : AK := ak_iast (ak_aload 0 (ak_getf 9 4 (ak_push (vI 0) (ak_iload 2 (ak_ifeq (ak_aload 0 (ak_getf 9 14 ((k_X9_readText_211 F)))) (ak_aload 0 (ak_getf 9 15 (ak_ifgt (ak_aload 0 (ak_getf 9 16 ((k_X9_readText_211 F)))) (ak_push (vI (-1)) ((k_X9_readText_211 F)))))))))))
set_option maxRecDepth 20000 in
theorem sk_X9_readText_179 (F : Nat) : Snd X0 RX9 cX9_readText 4 6 179 (k_X9_readText_179 F) := by
  unfold k_X9_readText_179
  exact snd_iast (pc := 179) dX9_readText_179 (snd_aload_n (pc := 180) (i := 0) dX9_readText_180 (snd_getf (pc := 181) cls9 (f := 4) (by decide) wd_1307 dX9_readText_181 (snd_iconst (pc := 184) dX9_readText_184 (snd_iload_n (pc := 185) (i := 2) dX9_readText_185 (snd_ifne (pc := 186) (off := 10) (tgt := 196) (by decide) dX9_readText_186 (snd_aload_n (pc := 196) (i := 0) dX9_readText_196 (snd_getf (pc := 197) cls9 (f := 15) (by decide) wd_1318 dX9_readText_197 (snd_ifle (pc := 200) (off := 10) (tgt := 210) (by decide) dX9_readText_200 (snd_iconst (pc := 210) dX9_readText_210 ((sk_X9_readText_211 F))) (snd_aload_n (pc := 203) (i := 0) dX9_readText_203 (snd_getf (pc := 204) cls9 (f := 16) (by decide) wd_1319 dX9_readText_204 (snd_goto (pc := 207) (off := 4) (tgt := 211) (by decide) dX9_readText_207 ((sk_X9_readText_211 F)))))))) (snd_aload_n (pc := 189) (i := 0) dX9_readText_189 (snd_getf (pc := 190) cls9 (f := 14) (by decide) wd_1317 dX9_readText_190 (snd_goto (pc := 193) (off := 18) (tgt := 211) (by decide) dX9_readText_193 ((sk_X9_readText_211 F))))))))))
noncomputable def k_X9_readText_162 (F : Nat) : AK := ak_aload 0 (ak_getf 9 3 (ak_push (vI 0) (ak_iload 2 (ak_ifeq (ak_push (vI 1) ((k_X9_readText_179 F))) (ak_aload 0 (ak_getf 9 15 ((k_X9_readText_179 F))))))))
set_option maxRecDepth 20000 in
theorem sk_X9_readText_162 (F : Nat) : Snd X0 RX9 cX9_readText 4 6 162 (k_X9_readText_162 F) := by
  unfold k_X9_readText_162
  exact snd_aload_n (pc := 162) (i := 0) dX9_readText_162 (snd_getf (pc := 163) cls9 (f := 3) (by decide) wd_1306 dX9_readText_163 (snd_iconst (pc := 166) dX9_readText_166 (snd_iload_n (pc := 167) (i := 2) dX9_readText_167 (snd_ifeq (pc := 168) (off := 10) (tgt := 178) (by decide) dX9_readText_168 (snd_iconst (pc := 178) dX9_readText_178 ((sk_X9_readText_179 F))) (snd_aload_n (pc := 171) (i := 0) dX9_readText_171 (snd_getf (pc := 172) cls9 (f := 15) (by decide) wd_1318 dX9_readText_172 (snd_goto (pc := 175) (off := 4) (tgt := 179) (by decide) dX9_readText_175 ((sk_X9_readText_179 F)))))))))
noncomputable def k_X9_readText_125 (F : Nat) : AK := ak_iload 2 (ak_ifeq ((k_X9_readText_162 F)) (ak_iload 1 (ak_ifeq (ak_aload 0 (ak_getf 9 15 (ak_ifeq (ak_aload 0 (ak_getf 9 20 (ak_aload 0 (ak_getf 9 18 (ak_push (vI 0) (ak_iald (ak_cmplt ((k_X9_readText_162 F)) (ak_aload 0 (ak_push (vI 4) (ak_aload 0 (ak_getf 9 10 (ak_callv 9 2 (m_X9_later F) ((k_X9_readText_162 F)))))))))))))) ((k_X9_readText_162 F))))) ((k_X9_readText_162 F)))))
set_option maxRecDepth 20000 in
theorem sk_X9_readText_125 (F : Nat) : Snd X0 RX9 cX9_readText 4 6 125 (k_X9_readText_125 F) := by
  unfold k_X9_readText_125
  exact snd_iload_n (pc := 125) (i := 2) dX9_readText_125 (snd_ifeq (pc := 126) (off := 36) (tgt := 162) (by decide) dX9_readText_126 ((sk_X9_readText_162 F)) (snd_iload_n (pc := 129) (i := 1) dX9_readText_129 (snd_ifne (pc := 130) (off := 32) (tgt := 162) (by decide) dX9_readText_130 ((sk_X9_readText_162 F)) (snd_aload_n (pc := 133) (i := 0) dX9_readText_133 (snd_getf (pc := 134) cls9 (f := 15) (by decide) wd_1318 dX9_readText_134 (snd_ifne (pc := 137) (off := 25) (tgt := 162) (by decide) dX9_readText_137 ((sk_X9_readText_162 F)) (snd_aload_n (pc := 140) (i := 0) dX9_readText_140 (snd_getf (pc := 141) cls9 (f := 20) (by decide) wd_1323 dX9_readText_141 (snd_aload_n (pc := 144) (i := 0) dX9_readText_144 (snd_getf (pc := 145) cls9 (f := 18) (by decide) wd_1321 dX9_readText_145 (snd_iconst (pc := 148) dX9_readText_148 (snd_iald (pc := 149) dX9_readText_149 (snd_icmplt (pc := 150) (off := 12) (tgt := 162) (by decide) dX9_readText_150 ((sk_X9_readText_162 F)) (snd_aload_n (pc := 153) (i := 0) dX9_readText_153 (snd_iconst (pc := 154) dX9_readText_154 (snd_aload_n (pc := 155) (i := 0) dX9_readText_155 (snd_getf (pc := 156) cls9 (f := 10) (by decide) wd_1313 dX9_readText_156 (snd_callV (pc := 159) (n := 2) cls9 (s_X9_later F) (by decide) (by decide) wd_1555 wd_1552 wd_1554 wd_59 wd_129 hy_X9_later dX9_readText_159 ((sk_X9_readText_162 F))))))))))))))))))))
noncomputable def kb_X9_readText_58 (F : Nat) (self : AK) : AK := ak_iload 2 (ak_ifeq ((k_X9_readText_125 F)) (ak_aload 0 (ak_getf 9 11 (ak_ifeq ((k_X9_readText_125 F)) (ak_aload 0 (ak_getf 9 10 (ak_istore 3 (ak_aload 0 (ak_push (vI 1) (ak_putz 9 17 (ak_iload 1 (ak_ifeq (ak_aload 0 (ak_iload 3 (ak_callv 9 1 (m_X9_townLine F) ((k_X9_readText_96 F self))))) (ak_aload 0 (ak_iload 3 (ak_callv 9 1 (m_X9_moveLine F) ((k_X9_readText_96 F self)))))))))))))))))
noncomputable def k_X9_readText_58 (F : Nat) (n : Nat) : AK := Nat.rec (motive := fun _ => AK) ak_none (fun _ self => kb_X9_readText_58 F self) n
set_option maxRecDepth 20000 in
theorem sk_X9_readText_58 (F : Nat) : ∀ n, Snd X0 RX9 cX9_readText 4 6 58 (k_X9_readText_58 F n) := by
  intro n
  induction n with
  | zero => exact snd_none
  | succ n ih =>
    show Snd X0 RX9 cX9_readText 4 6 58 (kb_X9_readText_58 F (k_X9_readText_58 F n))
    unfold kb_X9_readText_58
    exact snd_iload_n (pc := 58) (i := 2) dX9_readText_58 (snd_ifeq (pc := 59) (off := 66) (tgt := 125) (by decide) dX9_readText_59 ((sk_X9_readText_125 F)) (snd_aload_n (pc := 62) (i := 0) dX9_readText_62 (snd_getf (pc := 63) cls9 (f := 11) (by decide) wd_1314 dX9_readText_63 (snd_ifeq (pc := 66) (off := 59) (tgt := 125) (by decide) dX9_readText_66 ((sk_X9_readText_125 F)) (snd_aload_n (pc := 69) (i := 0) dX9_readText_69 (snd_getf (pc := 70) cls9 (f := 10) (by decide) wd_1313 dX9_readText_70 (snd_istore_n (pc := 73) (i := 3) (by decide) dX9_readText_73 (snd_aload_n (pc := 74) (i := 0) dX9_readText_74 (snd_iconst (pc := 75) dX9_readText_75 (snd_putz (pc := 76) cls9 (f := 17) (by decide) rfl rfl rfl wd_1320 dX9_readText_76 (snd_iload_n (pc := 79) (i := 1) dX9_readText_79 (snd_ifne (pc := 80) (off := 11) (tgt := 91) (by decide) dX9_readText_80 (snd_aload_n (pc := 91) (i := 0) dX9_readText_91 (snd_iload_n (pc := 92) (i := 3) dX9_readText_92 (snd_callV (pc := 93) (n := 1) cls9 (s_X9_moveLine F) (by decide) (by decide) wd_1579 wd_1576 wd_1578 wd_65 wd_129 hy_X9_moveLine dX9_readText_93 ((sk_X9_readText_96 F ih))))) (snd_aload_n (pc := 83) (i := 0) dX9_readText_83 (snd_iload_n (pc := 84) (i := 3) dX9_readText_84 (snd_callV (pc := 85) (n := 1) cls9 (s_X9_townLine F) (by decide) (by decide) wd_1531 wd_1528 wd_1530 wd_56 wd_129 hy_X9_townLine dX9_readText_85 (snd_goto (pc := 88) (off := 8) (tgt := 96) (by decide) dX9_readText_88 ((sk_X9_readText_96 F ih))))))))))))))))))
noncomputable def k_X9_readText_36 (F : Nat) : AK := ak_iast (ak_aload 0 (ak_push (vI (-1)) (ak_putf 9 20 (ak_aload 0 (ak_push (vI 0) (ak_putf 9 8 (ak_aload 0 (ak_push (vI 0) (ak_putf 9 15 (ak_push (vI 1) (ak_istore 2 (ak_aload 0 (ak_callv 9 0 (m_X9_token F) ((k_X9_readText_58 F F)))))))))))))))
set_option maxRecDepth 20000 in
theorem sk_X9_readText_36 (F : Nat) : Snd X0 RX9 cX9_readText 4 6 36 (k_X9_readText_36 F) := by
  unfold k_X9_readText_36
  exact snd_iast (pc := 36) dX9_readText_36 (snd_aload_n (pc := 37) (i := 0) dX9_readText_37 (snd_iconst (pc := 38) dX9_readText_38 (snd_putf (pc := 39) cls9 (f := 20) (by decide) rfl rfl rfl wd_1323 dX9_readText_39 (snd_aload_n (pc := 42) (i := 0) dX9_readText_42 (snd_iconst (pc := 43) dX9_readText_43 (snd_putf (pc := 44) cls9 (f := 8) (by decide) rfl rfl rfl wd_1311 dX9_readText_44 (snd_aload_n (pc := 47) (i := 0) dX9_readText_47 (snd_iconst (pc := 48) dX9_readText_48 (snd_putf (pc := 49) cls9 (f := 15) (by decide) rfl rfl rfl wd_1318 dX9_readText_49 (snd_iconst (pc := 52) dX9_readText_52 (snd_istore_n (pc := 53) (i := 2) (by decide) dX9_readText_53 (snd_aload_n (pc := 54) (i := 0) dX9_readText_54 (snd_callV (pc := 55) (n := 0) cls9 (s_X9_token F) (by decide) (by decide) wd_1523 wd_1520 wd_1522 wd_54 wd_129 hy_X9_token dX9_readText_55 ((sk_X9_readText_58 F F)))))))))))))))
noncomputable def kb_X9_readText_2 (F : Nat) (self : AK) : AK := ak_iload 2 (ak_push (vI 232) (ak_cmplt (ak_aload 0 (ak_getf 9 18 (ak_iload 2 (ak_push (vI 0) (ak_iast (ak_iinc 2 1 self)))))) (ak_aload 0 (ak_getf 9 18 (ak_push (vI 0) (ak_iload 1 (ak_ifeq (ak_push (vI 4) ((k_X9_readText_36 F))) (ak_push (vI 0) ((k_X9_readText_36 F))))))))))
noncomputable def k_X9_readText_2 (F : Nat) (n : Nat) : AK := Nat.rec (motive := fun _ => AK) ak_none (fun _ self => kb_X9_readText_2 F self) n
set_option maxRecDepth 20000 in
theorem sk_X9_readText_2 (F : Nat) : ∀ n, Snd X0 RX9 cX9_readText 4 6 2 (k_X9_readText_2 F n) := by
  intro n
  induction n with
  | zero => exact snd_none
  | succ n ih =>
    show Snd X0 RX9 cX9_readText 4 6 2 (kb_X9_readText_2 F (k_X9_readText_2 F n))
    unfold kb_X9_readText_2
    exact snd_iload_n (pc := 2) (i := 2) dX9_readText_2 (snd_sipush (pc := 3) (by decide) dX9_readText_3 (snd_icmpge (pc := 6) (off := 16) (tgt := 22) (by decide) dX9_readText_6 (snd_aload_n (pc := 22) (i := 0) dX9_readText_22 (snd_getf (pc := 23) cls9 (f := 18) (by decide) wd_1321 dX9_readText_23 (snd_iconst (pc := 26) dX9_readText_26 (snd_iload_n (pc := 27) (i := 1) dX9_readText_27 (snd_ifne (pc := 28) (off := 7) (tgt := 35) (by decide) dX9_readText_28 (snd_iconst (pc := 35) dX9_readText_35 ((sk_X9_readText_36 F))) (snd_iconst (pc := 31) dX9_readText_31 (snd_goto (pc := 32) (off := 4) (tgt := 36) (by decide) dX9_readText_32 ((sk_X9_readText_36 F))))))))) (snd_aload_n (pc := 9) (i := 0) dX9_readText_9 (snd_getf (pc := 10) cls9 (f := 18) (by decide) wd_1321 dX9_readText_10 (snd_iload_n (pc := 13) (i := 2) dX9_readText_13 (snd_iconst (pc := 14) dX9_readText_14 (snd_iast (pc := 15) dX9_readText_15 (snd_iinc (pc := 16) (i := 2) (n := 1) (by decide) dX9_readText_16 (snd_goto (pc := 19) (off := (-17)) (tgt := 2) (by decide) dX9_readText_19 (ih))))))))))
noncomputable def k_X9_readText (F : Nat) : AK := ak_push (vI 0) (ak_istore 2 ((k_X9_readText_2 F F)))
noncomputable def m_X9_readText (F : Nat) : AF := mkF 2 4 (k_X9_readText F)
set_option maxRecDepth 20000 in
theorem s_X9_readText (F : Nat) : MA yX9_readText cX9_readText 4 (some .boolean) 6 (m_X9_readText F) := met_of (Or.inr (Or.inr (Or.inl ⟨rfl, rfl⟩))) (by decide) (by
  unfold k_X9_readText
  exact snd_iconst (pc := 0) dX9_readText_0 (snd_istore_n (pc := 1) (i := 2) (by decide) dX9_readText_1 ((sk_X9_readText_2 F F))))

/-! LastWalkerModel.text(II)I -/
theorem dX9_text_0 : decode cX9_text 0 = .ok (.aload_n 0, 1) := by decide +kernel
theorem dX9_text_1 : decode cX9_text 1 = .ok (.iconst 0, 1) := by decide +kernel
theorem dX9_text_2 : decode cX9_text 2 = .ok (.putfield 112, 3) := by decide +kernel
theorem dX9_text_5 : decode cX9_text 5 = .ok (.aload_n 0, 1) := by decide +kernel
theorem dX9_text_6 : decode cX9_text 6 = .ok (.aload_n 0, 1) := by decide +kernel
theorem dX9_text_7 : decode cX9_text 7 = .ok (.getfield 13, 3) := by decide +kernel
theorem dX9_text_10 : decode cX9_text 10 = .ok (.iconst 0, 1) := by decide +kernel
theorem dX9_text_11 : decode cX9_text 11 = .ok (.iaload, 1) := by decide +kernel
theorem dX9_text_12 : decode cX9_text 12 = .ok (.putfield 131, 3) := by decide +kernel
theorem dX9_text_15 : decode cX9_text 15 = .ok (.aload_n 0, 1) := by decide +kernel
theorem dX9_text_16 : decode cX9_text 16 = .ok (.getfield 13, 3) := by decide +kernel
theorem dX9_text_19 : decode cX9_text 19 = .ok (.iconst 0, 1) := by decide +kernel
theorem dX9_text_20 : decode cX9_text 20 = .ok (.iconst 0, 1) := by decide +kernel
theorem dX9_text_21 : decode cX9_text 21 = .ok (.iastore, 1) := by decide +kernel
theorem dX9_text_22 : decode cX9_text 22 = .ok (.aload_n 0, 1) := by decide +kernel
theorem dX9_text_23 : decode cX9_text 23 = .ok (.getfield 17, 3) := by decide +kernel
theorem dX9_text_26 : decode cX9_text 26 = .ok (.iconst 0, 1) := by decide +kernel
theorem dX9_text_27 : decode cX9_text 27 = .ok (.iconst 0, 1) := by decide +kernel
theorem dX9_text_28 : decode cX9_text 28 = .ok (.iastore, 1) := by decide +kernel
theorem dX9_text_29 : decode cX9_text 29 = .ok (.aload_n 0, 1) := by decide +kernel
theorem dX9_text_30 : decode cX9_text 30 = .ok (.getfield 20, 3) := by decide +kernel
theorem dX9_text_33 : decode cX9_text 33 = .ok (.iconst 0, 1) := by decide +kernel
theorem dX9_text_34 : decode cX9_text 34 = .ok (.iconst (-1), 1) := by decide +kernel
theorem dX9_text_35 : decode cX9_text 35 = .ok (.iastore, 1) := by decide +kernel
theorem dX9_text_36 : decode cX9_text 36 = .ok (.iload_n 1, 1) := by decide +kernel
theorem dX9_text_37 : decode cX9_text 37 = .ok (.iconst 0, 1) := by decide +kernel
theorem dX9_text_38 : decode cX9_text 38 = .ok (.iconst 1, 1) := by decide +kernel
theorem dX9_text_39 : decode cX9_text 39 = .ok (.invokestatic 120, 3) := by decide +kernel
theorem dX9_text_42 : decode cX9_text 42 = .ok (.ifCond .eq 45, 3) := by decide +kernel
theorem dX9_text_45 : decode cX9_text 45 = .ok (.iload_n 2, 1) := by decide +kernel
theorem dX9_text_46 : decode cX9_text 46 = .ok (.iconst (-1), 1) := by decide +kernel
theorem dX9_text_47 : decode cX9_text 47 = .ok (.if_icmp .ne 24, 3) := by decide +kernel
theorem dX9_text_50 : decode cX9_text 50 = .ok (.aload_n 0, 1) := by decide +kernel
theorem dX9_text_51 : decode cX9_text 51 = .ok (.getfield 23, 3) := by decide +kernel
theorem dX9_text_54 : decode cX9_text 54 = .ok (.iload_n 1, 1) := by decide +kernel
theorem dX9_text_55 : decode cX9_text 55 = .ok (.iaload, 1) := by decide +kernel
theorem dX9_text_56 : decode cX9_text 56 = .ok (.iload_n 1, 1) := by decide +kernel
theorem dX9_text_57 : decode cX9_text 57 = .ok (.ifCond .ne 7, 3) := by decide +kernel
theorem dX9_text_60 : decode cX9_text 60 = .ok (.iconst 2, 1) := by decide +kernel
theorem dX9_text_61 : decode cX9_text 61 = .ok (.goto 4, 3) := by decide +kernel
theorem dX9_text_64 : decode cX9_text 64 = .ok (.iconst 3, 1) := by decide +kernel
theorem dX9_text_65 : decode cX9_text 65 = .ok (.if_icmp .ne 25, 3) := by decide +kernel
theorem dX9_text_68 : decode cX9_text 68 = .ok (.goto 19, 3) := by decide +kernel
theorem dX9_text_71 : decode cX9_text 71 = .ok (.iload_n 2, 1) := by decide +kernel
theorem dX9_text_72 : decode cX9_text 72 = .ok (.iconst 0, 1) := by decide +kernel
theorem dX9_text_73 : decode cX9_text 73 = .ok (.aload_n 0, 1) := by decide +kernel
theorem dX9_text_74 : decode cX9_text 74 = .ok (.getfield 23, 3) := by decide +kernel
theorem dX9_text_77 : decode cX9_text 77 = .ok (.iload_n 1, 1) := by decide +kernel
theorem dX9_text_78 : decode cX9_text 78 = .ok (.iaload, 1) := by decide +kernel
theorem dX9_text_79 : decode cX9_text 79 = .ok (.iconst 1, 1) := by decide +kernel
theorem dX9_text_80 : decode cX9_text 80 = .ok (.isub, 1) := by decide +kernel
theorem dX9_text_81 : decode cX9_text 81 = .ok (.invokestatic 120, 3) := by decide +kernel
theorem dX9_text_84 : decode cX9_text 84 = .ok (.ifCond .ne 6, 3) := by decide +kernel
theorem dX9_text_87 : decode cX9_text 87 = .ok (.bipush (-2), 2) := by decide +kernel
theorem dX9_text_89 : decode cX9_text 89 = .ok (.ireturn, 1) := by decide +kernel
theorem dX9_text_90 : decode cX9_text 90 = .ok (.aload_n 0, 1) := by decide +kernel
theorem dX9_text_91 : decode cX9_text 91 = .ok (.iload_n 1, 1) := by decide +kernel
theorem dX9_text_92 : decode cX9_text 92 = .ok (.invokevirtual 234, 3) := by decide +kernel
theorem dX9_text_95 : decode cX9_text 95 = .ok (.ifCond .ne 5, 3) := by decide +kernel
theorem dX9_text_98 : decode cX9_text 98 = .ok (.iconst (-1), 1) := by decide +kernel
theorem dX9_text_99 : decode cX9_text 99 = .ok (.ireturn, 1) := by decide +kernel
theorem dX9_text_100 : decode cX9_text 100 = .ok (.iload_n 2, 1) := by decide +kernel
theorem dX9_text_101 : decode cX9_text 101 = .ok (.iconst (-1), 1) := by decide +kernel
theorem dX9_text_102 : decode cX9_text 102 = .ok (.if_icmp .ne 12, 3) := by decide +kernel
theorem dX9_text_105 : decode cX9_text 105 = .ok (.aload_n 0, 1) := by decide +kernel
theorem dX9_text_106 : decode cX9_text 106 = .ok (.getfield 23, 3) := by decide +kernel
theorem dX9_text_109 : decode cX9_text 109 = .ok (.iload_n 1, 1) := by decide +kernel
theorem dX9_text_110 : decode cX9_text 110 = .ok (.iaload, 1) := by decide +kernel
theorem dX9_text_111 : decode cX9_text 111 = .ok (.goto 4, 3) := by decide +kernel
theorem dX9_text_114 : decode cX9_text 114 = .ok (.iload_n 2, 1) := by decide +kernel
theorem dX9_text_115 : decode cX9_text 115 = .ok (.istore_n 3, 1) := by decide +kernel
theorem dX9_text_116 : decode cX9_text 116 = .ok (.aload_n 0, 1) := by decide +kernel
theorem dX9_text_117 : decode cX9_text 117 = .ok (.getfield 23, 3) := by decide +kernel
theorem dX9_text_120 : decode cX9_text 120 = .ok (.iload_n 1, 1) := by decide +kernel
theorem dX9_text_121 : decode cX9_text 121 = .ok (.dup2, 1) := by decide +kernel
theorem dX9_text_122 : decode cX9_text 122 = .ok (.iaload, 1) := by decide +kernel
theorem dX9_text_123 : decode cX9_text 123 = .ok (.iload_n 2, 1) := by decide +kernel
theorem dX9_text_124 : decode cX9_text 124 = .ok (.iconst (-1), 1) := by decide +kernel
theorem dX9_text_125 : decode cX9_text 125 = .ok (.if_icmp .ne 7, 3) := by decide +kernel
theorem dX9_text_128 : decode cX9_text 128 = .ok (.iconst 1, 1) := by decide +kernel
theorem dX9_text_129 : decode cX9_text 129 = .ok (.goto 4, 3) := by decide +kernel
theorem dX9_text_132 : decode cX9_text 132 = .ok (.iconst 0, 1) := by decide +kernel
theorem dX9_text_133 : decode cX9_text 133 = .ok (.iadd, 1) := by decide +kernel
theorem dX9_text_134 : decode cX9_text 134 = .ok (.iastore, 1) := by decide +kernel
theorem dX9_text_135 : decode cX9_text 135 = .ok (.iconst 0, 1) := by decide +kernel
theorem dX9_text_136 : decode cX9_text 136 = .ok (.istore 4, 2) := by decide +kernel
theorem dX9_text_138 : decode cX9_text 138 = .ok (.iload 4, 2) := by decide +kernel
theorem dX9_text_140 : decode cX9_text 140 = .ok (.sipush 232, 3) := by decide +kernel
theorem dX9_text_143 : decode cX9_text 143 = .ok (.if_icmp .ge 33, 3) := by decide +kernel
theorem dX9_text_146 : decode cX9_text 146 = .ok (.iload_n 1, 1) := by decide +kernel
theorem dX9_text_147 : decode cX9_text 147 = .ok (.ifCond .ne 29, 3) := by decide +kernel
theorem dX9_text_150 : decode cX9_text 150 = .ok (.aload_n 0, 1) := by decide +kernel
theorem dX9_text_151 : decode cX9_text 151 = .ok (.getfield 26, 3) := by decide +kernel
theorem dX9_text_154 : decode cX9_text 154 = .ok (.sipush 232, 3) := by decide +kernel
theorem dX9_text_157 : decode cX9_text 157 = .ok (.iload_n 3, 1) := by decide +kernel
theorem dX9_text_158 : decode cX9_text 158 = .ok (.imul, 1) := by decide +kernel
theorem dX9_text_159 : decode cX9_text 159 = .ok (.iload 4, 2) := by decide +kernel
theorem dX9_text_161 : decode cX9_text 161 = .ok (.iadd, 1) := by decide +kernel
theorem dX9_text_162 : decode cX9_text 162 = .ok (.aload_n 0, 1) := by decide +kernel
theorem dX9_text_163 : decode cX9_text 163 = .ok (.getfield 32, 3) := by decide +kernel
theorem dX9_text_166 : decode cX9_text 166 = .ok (.iload 4, 2) := by decide +kernel
theorem dX9_text_168 : decode cX9_text 168 = .ok (.iaload, 1) := by decide +kernel
theorem dX9_text_169 : decode cX9_text 169 = .ok (.iastore, 1) := by decide +kernel
theorem dX9_text_170 : decode cX9_text 170 = .ok (.iinc 4 1, 3) := by decide +kernel
theorem dX9_text_173 : decode cX9_text 173 = .ok (.goto (-35), 3) := by decide +kernel
theorem dX9_text_176 : decode cX9_text 176 = .ok (.iconst 0, 1) := by decide +kernel
theorem dX9_text_177 : decode cX9_text 177 = .ok (.istore 4, 2) := by decide +kernel
theorem dX9_text_179 : decode cX9_text 179 = .ok (.iload 4, 2) := by decide +kernel
theorem dX9_text_181 : decode cX9_text 181 = .ok (.bipush 121, 2) := by decide +kernel
theorem dX9_text_183 : decode cX9_text 183 = .ok (.if_icmp .ge 33, 3) := by decide +kernel
theorem dX9_text_186 : decode cX9_text 186 = .ok (.iload_n 1, 1) := by decide +kernel
theorem dX9_text_187 : decode cX9_text 187 = .ok (.iconst 1, 1) := by decide +kernel
theorem dX9_text_188 : decode cX9_text 188 = .ok (.if_icmp .ne 28, 3) := by decide +kernel
theorem dX9_text_191 : decode cX9_text 191 = .ok (.aload_n 0, 1) := by decide +kernel
theorem dX9_text_192 : decode cX9_text 192 = .ok (.getfield 29, 3) := by decide +kernel
theorem dX9_text_195 : decode cX9_text 195 = .ok (.bipush 121, 2) := by decide +kernel
theorem dX9_text_197 : decode cX9_text 197 = .ok (.iload_n 3, 1) := by decide +kernel
theorem dX9_text_198 : decode cX9_text 198 = .ok (.imul, 1) := by decide +kernel
theorem dX9_text_199 : decode cX9_text 199 = .ok (.iload 4, 2) := by decide +kernel
theorem dX9_text_201 : decode cX9_text 201 = .ok (.iadd, 1) := by decide +kernel
theorem dX9_text_202 : decode cX9_text 202 = .ok (.aload_n 0, 1) := by decide +kernel
theorem dX9_text_203 : decode cX9_text 203 = .ok (.getfield 32, 3) := by decide +kernel
theorem dX9_text_206 : decode cX9_text 206 = .ok (.iload 4, 2) := by decide +kernel
theorem dX9_text_208 : decode cX9_text 208 = .ok (.iaload, 1) := by decide +kernel
theorem dX9_text_209 : decode cX9_text 209 = .ok (.iastore, 1) := by decide +kernel
theorem dX9_text_210 : decode cX9_text 210 = .ok (.iinc 4 1, 3) := by decide +kernel
theorem dX9_text_213 : decode cX9_text 213 = .ok (.goto (-34), 3) := by decide +kernel
theorem dX9_text_216 : decode cX9_text 216 = .ok (.iload_n 3, 1) := by decide +kernel
theorem dX9_text_217 : decode cX9_text 217 = .ok (.ireturn, 1) := by decide +kernel
noncomputable def kb_X9_text_179 (F : Nat) (self : AK) : AK := ak_iload 4 (ak_push (vI 121) (ak_cmplt (ak_iload 1 (ak_push (vI 1) (ak_cmpeq (ak_aload 0 (ak_getf 9 7 (ak_push (vI 121) (ak_iload 3 (ak_imul (ak_iload 4 (ak_iadd (ak_aload 0 (ak_getf 9 18 (ak_iload 4 (ak_iald (ak_iast (ak_iinc 4 1 self))))))))))))) (ak_iload 3 ak_ireturn)))) (ak_iload 3 ak_ireturn)))
noncomputable def k_X9_text_179 (F : Nat) (n : Nat) : AK := Nat.rec (motive := fun _ => AK) ak_none (fun _ self => kb_X9_text_179 F self) n
set_option maxRecDepth 20000 in
theorem sk_X9_text_179 (F : Nat) : ∀ n, Snd X0 RX9 cX9_text 5 7 179 (k_X9_text_179 F n) := by
  intro n
  induction n with
  | zero => exact snd_none
  | succ n ih =>
    show Snd X0 RX9 cX9_text 5 7 179 (kb_X9_text_179 F (k_X9_text_179 F n))
    unfold kb_X9_text_179
    exact snd_iload (pc := 179) (i := 4) dX9_text_179 (snd_bipush (pc := 181) (by decide) dX9_text_181 (snd_icmpge (pc := 183) (off := 33) (tgt := 216) (by decide) dX9_text_183 (snd_iload_n (pc := 216) (i := 3) dX9_text_216 (snd_ireturn dX9_text_217)) (snd_iload_n (pc := 186) (i := 1) dX9_text_186 (snd_iconst (pc := 187) dX9_text_187 (snd_icmpne (pc := 188) (off := 28) (tgt := 216) (by decide) dX9_text_188 (snd_iload_n (pc := 216) (i := 3) dX9_text_216 (snd_ireturn dX9_text_217)) (snd_aload_n (pc := 191) (i := 0) dX9_text_191 (snd_getf (pc := 192) cls9 (f := 7) (by decide) wd_1310 dX9_text_192 (snd_bipush (pc := 195) (by decide) dX9_text_195 (snd_iload_n (pc := 197) (i := 3) dX9_text_197 (snd_imul (pc := 198) dX9_text_198 (snd_iload (pc := 199) (i := 4) dX9_text_199 (snd_iadd (pc := 201) dX9_text_201 (snd_aload_n (pc := 202) (i := 0) dX9_text_202 (snd_getf (pc := 203) cls9 (f := 18) (by decide) wd_1321 dX9_text_203 (snd_iload (pc := 206) (i := 4) dX9_text_206 (snd_iald (pc := 208) dX9_text_208 (snd_iast (pc := 209) dX9_text_209 (snd_iinc (pc := 210) (i := 4) (n := 1) (by decide) dX9_text_210 (snd_goto (pc := 213) (off := (-34)) (tgt := 179) (by decide) dX9_text_213 (ih))))))))))))))))))))
noncomputable def k_X9_text_176 (F : Nat) : AK := ak_push (vI 0) (ak_istore 4 ((k_X9_text_179 F F)))
set_option maxRecDepth 20000 in
theorem sk_X9_text_176 (F : Nat) : Snd X0 RX9 cX9_text 5 7 176 (k_X9_text_176 F) := by
  unfold k_X9_text_176
  exact snd_iconst (pc := 176) dX9_text_176 (snd_istore (pc := 177) (i := 4) (by decide) dX9_text_177 ((sk_X9_text_179 F F)))
noncomputable def kb_X9_text_138 (F : Nat) (self : AK) : AK := ak_iload 4 (ak_push (vI 232) (ak_cmplt (ak_iload 1 (ak_ifeq (ak_aload 0 (ak_getf 9 6 (ak_push (vI 232) (ak_iload 3 (ak_imul (ak_iload 4 (ak_iadd (ak_aload 0 (ak_getf 9 18 (ak_iload 4 (ak_iald (ak_iast (ak_iinc 4 1 self))))))))))))) ((k_X9_text_176 F)))) ((k_X9_text_176 F))))
noncomputable def k_X9_text_138 (F : Nat) (n : Nat) : AK := Nat.rec (motive := fun _ => AK) ak_none (fun _ self => kb_X9_text_138 F self) n
set_option maxRecDepth 20000 in
theorem sk_X9_text_138 (F : Nat) : ∀ n, Snd X0 RX9 cX9_text 5 7 138 (k_X9_text_138 F n) := by
  intro n
  induction n with
  | zero => exact snd_none
  | succ n ih =>
    show Snd X0 RX9 cX9_text 5 7 138 (kb_X9_text_138 F (k_X9_text_138 F n))
    unfold kb_X9_text_138
    exact snd_iload (pc := 138) (i := 4) dX9_text_138 (snd_sipush (pc := 140) (by decide) dX9_text_140 (snd_icmpge (pc := 143) (off := 33) (tgt := 176) (by decide) dX9_text_143 ((sk_X9_text_176 F)) (snd_iload_n (pc := 146) (i := 1) dX9_text_146 (snd_ifne (pc := 147) (off := 29) (tgt := 176) (by decide) dX9_text_147 ((sk_X9_text_176 F)) (snd_aload_n (pc := 150) (i := 0) dX9_text_150 (snd_getf (pc := 151) cls9 (f := 6) (by decide) wd_1309 dX9_text_151 (snd_sipush (pc := 154) (by decide) dX9_text_154 (snd_iload_n (pc := 157) (i := 3) dX9_text_157 (snd_imul (pc := 158) dX9_text_158 (snd_iload (pc := 159) (i := 4) dX9_text_159 (snd_iadd (pc := 161) dX9_text_161 (snd_aload_n (pc := 162) (i := 0) dX9_text_162 (snd_getf (pc := 163) cls9 (f := 18) (by decide) wd_1321 dX9_text_163 (snd_iload (pc := 166) (i := 4) dX9_text_166 (snd_iald (pc := 168) dX9_text_168 (snd_iast (pc := 169) dX9_text_169 (snd_iinc (pc := 170) (i := 4) (n := 1) (by decide) dX9_text_170 (snd_goto (pc := 173) (off := (-35)) (tgt := 138) (by decide) dX9_text_173 (ih)))))))))))))))))))
noncomputable def k_X9_text_133 (F : Nat) : AK := ak_iadd (ak_iast (ak_push (vI 0) (ak_istore 4 ((k_X9_text_138 F F)))))
set_option maxRecDepth 20000 in
theorem sk_X9_text_133 (F : Nat) : Snd X0 RX9 cX9_text 5 7 133 (k_X9_text_133 F) := by
  unfold k_X9_text_133
  exact snd_iadd (pc := 133) dX9_text_133 (snd_iast (pc := 134) dX9_text_134 (snd_iconst (pc := 135) dX9_text_135 (snd_istore (pc := 136) (i := 4) (by decide) dX9_text_136 ((sk_X9_text_138 F F)))))
noncomputable def k_X9_text_115 (F : Nat) : AK := ak_istore 3 (ak_aload 0 (ak_getf 9 5 (ak_iload 1 (ak_dup2 (ak_iald (ak_iload 2 (ak_push (vI (-1)) (ak_cmpeq (ak_push (vI 1) ((k_X9_text_133 F))) (ak_push (vI 0) ((k_X9_text_133 F)))))))))))
set_option maxRecDepth 20000 in
theorem sk_X9_text_115 (F : Nat) : Snd X0 RX9 cX9_text 5 7 115 (k_X9_text_115 F) := by
  unfold k_X9_text_115
  exact snd_istore_n (pc := 115) (i := 3) (by decide) dX9_text_115 (snd_aload_n (pc := 116) (i := 0) dX9_text_116 (snd_getf (pc := 117) cls9 (f := 5) (by decide) wd_1308 dX9_text_117 (snd_iload_n (pc := 120) (i := 1) dX9_text_120 (snd_dup2 (pc := 121) dX9_text_121 (snd_iald (pc := 122) dX9_text_122 (snd_iload_n (pc := 123) (i := 2) dX9_text_123 (snd_iconst (pc := 124) dX9_text_124 (snd_icmpne (pc := 125) (off := 7) (tgt := 132) (by decide) dX9_text_125 (snd_iconst (pc := 132) dX9_text_132 ((sk_X9_text_133 F))) (snd_iconst (pc := 128) dX9_text_128 (snd_goto (pc := 129) (off := 4) (tgt := 133) (by decide) dX9_text_129 ((sk_X9_text_133 F))))))))))))
noncomputable def k_X9_text_90 (F : Nat) : AK := ak_aload 0 (ak_iload 1 (ak_callv 9 1 (m_X9_readText F) (ak_ifeq (ak_push (vI (-1)) ak_ireturn) (ak_iload 2 (ak_push (vI (-1)) (ak_cmpeq (ak_aload 0 (ak_getf 9 5 (ak_iload 1 (ak_iald ((k_X9_text_115 F)))))) (ak_iload 2 ((k_X9_text_115 F)))))))))
set_option maxRecDepth 20000 in
theorem sk_X9_text_90 (F : Nat) : Snd X0 RX9 cX9_text 5 7 90 (k_X9_text_90 F) := by
  unfold k_X9_text_90
  exact snd_aload_n (pc := 90) (i := 0) dX9_text_90 (snd_iload_n (pc := 91) (i := 1) dX9_text_91 (snd_callV (pc := 92) (n := 1) cls9 (s_X9_readText F) (by decide) (by decide) wd_1519 wd_1516 wd_1518 wd_53 wd_129 hy_X9_readText dX9_text_92 (snd_ifne (pc := 95) (off := 5) (tgt := 100) (by decide) dX9_text_95 (snd_iload_n (pc := 100) (i := 2) dX9_text_100 (snd_iconst (pc := 101) dX9_text_101 (snd_icmpne (pc := 102) (off := 12) (tgt := 114) (by decide) dX9_text_102 (snd_iload_n (pc := 114) (i := 2) dX9_text_114 ((sk_X9_text_115 F))) (snd_aload_n (pc := 105) (i := 0) dX9_text_105 (snd_getf (pc := 106) cls9 (f := 5) (by decide) wd_1308 dX9_text_106 (snd_iload_n (pc := 109) (i := 1) dX9_text_109 (snd_iald (pc := 110) dX9_text_110 (snd_goto (pc := 111) (off := 4) (tgt := 115) (by decide) dX9_text_111 ((sk_X9_text_115 F)))))))))) (snd_iconst (pc := 98) dX9_text_98 (snd_ireturn dX9_text_99)))))
noncomputable def k_X9_text_65 (F : Nat) : AK := ak_cmpeq (ak_push (vI (-2)) ak_ireturn) ((k_X9_text_90 F))
set_option maxRecDepth 20000 in
theorem sk_X9_text_65 (F : Nat) : Snd X0 RX9 cX9_text 5 7 65 (k_X9_text_65 F) := by
  unfold k_X9_text_65
  exact snd_icmpne (pc := 65) (off := 25) (tgt := 90) (by decide) dX9_text_65 ((sk_X9_text_90 F)) (snd_goto (pc := 68) (off := 19) (tgt := 87) (by decide) dX9_text_68 (snd_bipush (pc := 87) (by decide) dX9_text_87 (snd_ireturn dX9_text_89)))
noncomputable def k_X9_text (F : Nat) : AK := ak_aload 0 (ak_push (vI 0) (ak_putf 9 0 (ak_aload 0 (ak_aload 0 (ak_getf 9 2 (ak_push (vI 0) (ak_iald (ak_putf 9 9 (ak_aload 0 (ak_getf 9 2 (ak_push (vI 0) (ak_push (vI 0) (ak_iast (ak_aload 0 (ak_getf 9 3 (ak_push (vI 0) (ak_push (vI 0) (ak_iast (ak_aload 0 (ak_getf 9 4 (ak_push (vI 0) (ak_push (vI (-1)) (ak_iast (ak_iload 1 (ak_push (vI 0) (ak_push (vI 1) (ak_call 3 (m_X9_in F) (ak_ifeq (ak_push (vI (-2)) ak_ireturn) (ak_iload 2 (ak_push (vI (-1)) (ak_cmpeq (ak_aload 0 (ak_getf 9 5 (ak_iload 1 (ak_iald (ak_iload 1 (ak_ifeq (ak_push (vI 2) ((k_X9_text_65 F))) (ak_push (vI 3) ((k_X9_text_65 F))))))))) (ak_iload 2 (ak_push (vI 0) (ak_aload 0 (ak_getf 9 5 (ak_iload 1 (ak_iald (ak_push (vI 1) (ak_isub (ak_call 3 (m_X9_in F) (ak_ifeq (ak_push (vI (-2)) ak_ireturn) ((k_X9_text_90 F)))))))))))))))))))))))))))))))))))))))))))
noncomputable def m_X9_text (F : Nat) : AF := mkF 1 5 (k_X9_text F)
set_option maxRecDepth 20000 in
theorem s_X9_text (F : Nat) : MA yX9_text cX9_text 5 (some .int) 7 (m_X9_text F) := met_of (Or.inr (Or.inl ⟨rfl, rfl⟩)) (by decide) (by
  unfold k_X9_text
  exact snd_aload_n (pc := 0) (i := 0) dX9_text_0 (snd_iconst (pc := 1) dX9_text_1 (snd_putf (pc := 2) cls9 (f := 0) (by decide) rfl rfl rfl wd_1303 dX9_text_2 (snd_aload_n (pc := 5) (i := 0) dX9_text_5 (snd_aload_n (pc := 6) (i := 0) dX9_text_6 (snd_getf (pc := 7) cls9 (f := 2) (by decide) wd_1305 dX9_text_7 (snd_iconst (pc := 10) dX9_text_10 (snd_iald (pc := 11) dX9_text_11 (snd_putf (pc := 12) cls9 (f := 9) (by decide) rfl rfl rfl wd_1312 dX9_text_12 (snd_aload_n (pc := 15) (i := 0) dX9_text_15 (snd_getf (pc := 16) cls9 (f := 2) (by decide) wd_1305 dX9_text_16 (snd_iconst (pc := 19) dX9_text_19 (snd_iconst (pc := 20) dX9_text_20 (snd_iast (pc := 21) dX9_text_21 (snd_aload_n (pc := 22) (i := 0) dX9_text_22 (snd_getf (pc := 23) cls9 (f := 3) (by decide) wd_1306 dX9_text_23 (snd_iconst (pc := 26) dX9_text_26 (snd_iconst (pc := 27) dX9_text_27 (snd_iast (pc := 28) dX9_text_28 (snd_aload_n (pc := 29) (i := 0) dX9_text_29 (snd_getf (pc := 30) cls9 (f := 4) (by decide) wd_1307 dX9_text_30 (snd_iconst (pc := 33) dX9_text_33 (snd_iconst (pc := 34) dX9_text_34 (snd_iast (pc := 35) dX9_text_35 (snd_iload_n (pc := 36) (i := 1) dX9_text_36 (snd_iconst (pc := 37) dX9_text_37 (snd_iconst (pc := 38) dX9_text_38 (snd_callS (pc := 39) (n := 3) (s_X9_in F) (by decide) (by decide) wd_1511 wd_1509 wd_1510 wd_129 hy_X9_in dX9_text_39 (snd_ifeq (pc := 42) (off := 45) (tgt := 87) (by decide) dX9_text_42 (snd_bipush (pc := 87) (by decide) dX9_text_87 (snd_ireturn dX9_text_89)) (snd_iload_n (pc := 45) (i := 2) dX9_text_45 (snd_iconst (pc := 46) dX9_text_46 (snd_icmpne (pc := 47) (off := 24) (tgt := 71) (by decide) dX9_text_47 (snd_iload_n (pc := 71) (i := 2) dX9_text_71 (snd_iconst (pc := 72) dX9_text_72 (snd_aload_n (pc := 73) (i := 0) dX9_text_73 (snd_getf (pc := 74) cls9 (f := 5) (by decide) wd_1308 dX9_text_74 (snd_iload_n (pc := 77) (i := 1) dX9_text_77 (snd_iald (pc := 78) dX9_text_78 (snd_iconst (pc := 79) dX9_text_79 (snd_isub (pc := 80) dX9_text_80 (snd_callS (pc := 81) (n := 3) (s_X9_in F) (by decide) (by decide) wd_1511 wd_1509 wd_1510 wd_129 hy_X9_in dX9_text_81 (snd_ifne (pc := 84) (off := 6) (tgt := 90) (by decide) dX9_text_84 ((sk_X9_text_90 F)) (snd_bipush (pc := 87) (by decide) dX9_text_87 (snd_ireturn dX9_text_89)))))))))))) (snd_aload_n (pc := 50) (i := 0) dX9_text_50 (snd_getf (pc := 51) cls9 (f := 5) (by decide) wd_1308 dX9_text_51 (snd_iload_n (pc := 54) (i := 1) dX9_text_54 (snd_iald (pc := 55) dX9_text_55 (snd_iload_n (pc := 56) (i := 1) dX9_text_56 (snd_ifne (pc := 57) (off := 7) (tgt := 64) (by decide) dX9_text_57 (snd_iconst (pc := 64) dX9_text_64 ((sk_X9_text_65 F))) (snd_iconst (pc := 60) dX9_text_60 (snd_goto (pc := 61) (off := 4) (tgt := 65) (by decide) dX9_text_61 ((sk_X9_text_65 F))))))))))))))))))))))))))))))))))))))))))

/-! LastWalkerModel.fault(I)I -/
theorem dX9_fault_0 : decode cX9_fault 0 = .ok (.aload_n 0, 1) := by decide +kernel
theorem dX9_fault_1 : decode cX9_fault 1 = .ok (.iconst 0, 1) := by decide +kernel
theorem dX9_fault_2 : decode cX9_fault 2 = .ok (.putfield 112, 3) := by decide +kernel
theorem dX9_fault_5 : decode cX9_fault 5 = .ok (.iload_n 1, 1) := by decide +kernel
theorem dX9_fault_6 : decode cX9_fault 6 = .ok (.ifCond .ne 12, 3) := by decide +kernel
theorem dX9_fault_9 : decode cX9_fault 9 = .ok (.aload_n 0, 1) := by decide +kernel
theorem dX9_fault_10 : decode cX9_fault 10 = .ok (.getfield 17, 3) := by decide +kernel
theorem dX9_fault_13 : decode cX9_fault 13 = .ok (.iconst 0, 1) := by decide +kernel
theorem dX9_fault_14 : decode cX9_fault 14 = .ok (.iaload, 1) := by decide +kernel
theorem dX9_fault_15 : decode cX9_fault 15 = .ok (.goto 18, 3) := by decide +kernel
theorem dX9_fault_18 : decode cX9_fault 18 = .ok (.iload_n 1, 1) := by decide +kernel
theorem dX9_fault_19 : decode cX9_fault 19 = .ok (.iconst 1, 1) := by decide +kernel
theorem dX9_fault_20 : decode cX9_fault 20 = .ok (.if_icmp .ne 12, 3) := by decide +kernel
theorem dX9_fault_23 : decode cX9_fault 23 = .ok (.aload_n 0, 1) := by decide +kernel
theorem dX9_fault_24 : decode cX9_fault 24 = .ok (.getfield 20, 3) := by decide +kernel
theorem dX9_fault_27 : decode cX9_fault 27 = .ok (.iconst 0, 1) := by decide +kernel
theorem dX9_fault_28 : decode cX9_fault 28 = .ok (.iaload, 1) := by decide +kernel
theorem dX9_fault_29 : decode cX9_fault 29 = .ok (.goto 4, 3) := by decide +kernel
theorem dX9_fault_32 : decode cX9_fault 32 = .ok (.iconst (-1), 1) := by decide +kernel
theorem dX9_fault_33 : decode cX9_fault 33 = .ok (.ireturn, 1) := by decide +kernel
noncomputable def k_X9_fault (F : Nat) : AK := ak_aload 0 (ak_push (vI 0) (ak_putf 9 0 (ak_iload 1 (ak_ifeq (ak_aload 0 (ak_getf 9 3 (ak_push (vI 0) (ak_iald ak_ireturn)))) (ak_iload 1 (ak_push (vI 1) (ak_cmpeq (ak_aload 0 (ak_getf 9 4 (ak_push (vI 0) (ak_iald ak_ireturn)))) (ak_push (vI (-1)) ak_ireturn))))))))
noncomputable def m_X9_fault (F : Nat) : AF := mkF 1 2 (k_X9_fault F)
set_option maxRecDepth 20000 in
theorem s_X9_fault (F : Nat) : MA yX9_fault cX9_fault 2 (some .int) 0 (m_X9_fault F) := met_of (Or.inr (Or.inl ⟨rfl, rfl⟩)) (by decide) (by
  unfold k_X9_fault
  exact snd_aload_n (pc := 0) (i := 0) dX9_fault_0 (snd_iconst (pc := 1) dX9_fault_1 (snd_putf (pc := 2) cls9 (f := 0) (by decide) rfl rfl rfl wd_1303 dX9_fault_2 (snd_iload_n (pc := 5) (i := 1) dX9_fault_5 (snd_ifne (pc := 6) (off := 12) (tgt := 18) (by decide) dX9_fault_6 (snd_iload_n (pc := 18) (i := 1) dX9_fault_18 (snd_iconst (pc := 19) dX9_fault_19 (snd_icmpne (pc := 20) (off := 12) (tgt := 32) (by decide) dX9_fault_20 (snd_iconst (pc := 32) dX9_fault_32 (snd_ireturn dX9_fault_33)) (snd_aload_n (pc := 23) (i := 0) dX9_fault_23 (snd_getf (pc := 24) cls9 (f := 4) (by decide) wd_1307 dX9_fault_24 (snd_iconst (pc := 27) dX9_fault_27 (snd_iald (pc := 28) dX9_fault_28 (snd_goto (pc := 29) (off := 4) (tgt := 33) (by decide) dX9_fault_29 (snd_ireturn dX9_fault_33))))))))) (snd_aload_n (pc := 9) (i := 0) dX9_fault_9 (snd_getf (pc := 10) cls9 (f := 3) (by decide) wd_1306 dX9_fault_10 (snd_iconst (pc := 13) dX9_fault_13 (snd_iald (pc := 14) dX9_fault_14 (snd_goto (pc := 15) (off := 18) (tgt := 33) (by decide) dX9_fault_15 (snd_ireturn dX9_fault_33)))))))))))

/-! LastWalkerModel.of(II)I -/
theorem dX9_of_0 : decode cX9_of 0 = .ok (.aload_n 0, 1) := by decide +kernel
theorem dX9_of_1 : decode cX9_of 1 = .ok (.getfield 26, 3) := by decide +kernel
theorem dX9_of_4 : decode cX9_of 4 = .ok (.sipush 232, 3) := by decide +kernel
theorem dX9_of_7 : decode cX9_of 7 = .ok (.iload_n 1, 1) := by decide +kernel
theorem dX9_of_8 : decode cX9_of 8 = .ok (.imul, 1) := by decide +kernel
theorem dX9_of_9 : decode cX9_of 9 = .ok (.iload_n 2, 1) := by decide +kernel
theorem dX9_of_10 : decode cX9_of 10 = .ok (.iadd, 1) := by decide +kernel
theorem dX9_of_11 : decode cX9_of 11 = .ok (.iaload, 1) := by decide +kernel
theorem dX9_of_12 : decode cX9_of 12 = .ok (.ireturn, 1) := by decide +kernel
noncomputable def k_X9_of (F : Nat) : AK := ak_aload 0 (ak_getf 9 6 (ak_push (vI 232) (ak_iload 1 (ak_imul (ak_iload 2 (ak_iadd (ak_iald ak_ireturn)))))))
noncomputable def m_X9_of (F : Nat) : AF := mkF 1 3 (k_X9_of F)
set_option maxRecDepth 20000 in
theorem s_X9_of (F : Nat) : MA yX9_of cX9_of 3 (some .int) 0 (m_X9_of F) := met_of (Or.inr (Or.inl ⟨rfl, rfl⟩)) (by decide) (by
  unfold k_X9_of
  exact snd_aload_n (pc := 0) (i := 0) dX9_of_0 (snd_getf (pc := 1) cls9 (f := 6) (by decide) wd_1309 dX9_of_1 (snd_sipush (pc := 4) (by decide) dX9_of_4 (snd_iload_n (pc := 7) (i := 1) dX9_of_7 (snd_imul (pc := 8) dX9_of_8 (snd_iload_n (pc := 9) (i := 2) dX9_of_9 (snd_iadd (pc := 10) dX9_of_10 (snd_iald (pc := 11) dX9_of_11 (snd_ireturn dX9_of_12)))))))))

/-! LastWalkerModel.town(II)I -/
theorem dX9_town_0 : decode cX9_town 0 = .ok (.aload_n 0, 1) := by decide +kernel
theorem dX9_town_1 : decode cX9_town 1 = .ok (.iconst 0, 1) := by decide +kernel
theorem dX9_town_2 : decode cX9_town 2 = .ok (.putfield 112, 3) := by decide +kernel
theorem dX9_town_5 : decode cX9_town 5 = .ok (.aload_n 0, 1) := by decide +kernel
theorem dX9_town_6 : decode cX9_town 6 = .ok (.iload_n 1, 1) := by decide +kernel
theorem dX9_town_7 : decode cX9_town 7 = .ok (.invokevirtual 237, 3) := by decide +kernel
theorem dX9_town_10 : decode cX9_town 10 = .ok (.ifCond .eq 21, 3) := by decide +kernel
theorem dX9_town_13 : decode cX9_town 13 = .ok (.iload_n 2, 1) := by decide +kernel
theorem dX9_town_14 : decode cX9_town 14 = .ok (.iconst 0, 1) := by decide +kernel
theorem dX9_town_15 : decode cX9_town 15 = .ok (.iconst 5, 1) := by decide +kernel
theorem dX9_town_16 : decode cX9_town 16 = .ok (.invokestatic 120, 3) := by decide +kernel
theorem dX9_town_19 : decode cX9_town 19 = .ok (.ifCond .eq 12, 3) := by decide +kernel
theorem dX9_town_22 : decode cX9_town 22 = .ok (.aload_n 0, 1) := by decide +kernel
theorem dX9_town_23 : decode cX9_town 23 = .ok (.iload_n 1, 1) := by decide +kernel
theorem dX9_town_24 : decode cX9_town 24 = .ok (.iload_n 2, 1) := by decide +kernel
theorem dX9_town_25 : decode cX9_town 25 = .ok (.invokevirtual 240, 3) := by decide +kernel
theorem dX9_town_28 : decode cX9_town 28 = .ok (.goto 4, 3) := by decide +kernel
theorem dX9_town_31 : decode cX9_town 31 = .ok (.iconst (-1), 1) := by decide +kernel
theorem dX9_town_32 : decode cX9_town 32 = .ok (.ireturn, 1) := by decide +kernel
noncomputable def k_X9_town (F : Nat) : AK := ak_aload 0 (ak_push (vI 0) (ak_putf 9 0 (ak_aload 0 (ak_iload 1 (ak_callv 9 1 (m_X9_isTown F) (ak_ifeq (ak_push (vI (-1)) ak_ireturn) (ak_iload 2 (ak_push (vI 0) (ak_push (vI 5) (ak_call 3 (m_X9_in F) (ak_ifeq (ak_push (vI (-1)) ak_ireturn) (ak_aload 0 (ak_iload 1 (ak_iload 2 (ak_callv 9 2 (m_X9_of F) ak_ireturn)))))))))))))))
noncomputable def m_X9_town (F : Nat) : AF := mkF 1 3 (k_X9_town F)
set_option maxRecDepth 20000 in
theorem s_X9_town (F : Nat) : MA yX9_town cX9_town 3 (some .int) 2 (m_X9_town F) := met_of (Or.inr (Or.inl ⟨rfl, rfl⟩)) (by decide) (by
  unfold k_X9_town
  exact snd_aload_n (pc := 0) (i := 0) dX9_town_0 (snd_iconst (pc := 1) dX9_town_1 (snd_putf (pc := 2) cls9 (f := 0) (by decide) rfl rfl rfl wd_1303 dX9_town_2 (snd_aload_n (pc := 5) (i := 0) dX9_town_5 (snd_iload_n (pc := 6) (i := 1) dX9_town_6 (snd_callV (pc := 7) (n := 1) cls9 (s_X9_isTown F) (by decide) (by decide) wd_1593 wd_1590 wd_1592 wd_66 wd_129 hy_X9_isTown dX9_town_7 (snd_ifeq (pc := 10) (off := 21) (tgt := 31) (by decide) dX9_town_10 (snd_iconst (pc := 31) dX9_town_31 (snd_ireturn dX9_town_32)) (snd_iload_n (pc := 13) (i := 2) dX9_town_13 (snd_iconst (pc := 14) dX9_town_14 (snd_iconst (pc := 15) dX9_town_15 (snd_callS (pc := 16) (n := 3) (s_X9_in F) (by decide) (by decide) wd_1511 wd_1509 wd_1510 wd_129 hy_X9_in dX9_town_16 (snd_ifeq (pc := 19) (off := 12) (tgt := 31) (by decide) dX9_town_19 (snd_iconst (pc := 31) dX9_town_31 (snd_ireturn dX9_town_32)) (snd_aload_n (pc := 22) (i := 0) dX9_town_22 (snd_iload_n (pc := 23) (i := 1) dX9_town_23 (snd_iload_n (pc := 24) (i := 2) dX9_town_24 (snd_callV (pc := 25) (n := 2) cls9 (s_X9_of F) (by decide) (by decide) wd_1597 wd_1594 wd_1596 wd_67 wd_129 hy_X9_of dX9_town_25 (snd_goto (pc := 28) (off := 4) (tgt := 32) (by decide) dX9_town_28 (snd_ireturn dX9_town_32))))))))))))))))))

/-! LastWalkerModel.road(III)I -/
theorem dX9_road_0 : decode cX9_road 0 = .ok (.aload_n 0, 1) := by decide +kernel
theorem dX9_road_1 : decode cX9_road 1 = .ok (.iconst 0, 1) := by decide +kernel
theorem dX9_road_2 : decode cX9_road 2 = .ok (.putfield 112, 3) := by decide +kernel
theorem dX9_road_5 : decode cX9_road 5 = .ok (.aload_n 0, 1) := by decide +kernel
theorem dX9_road_6 : decode cX9_road 6 = .ok (.iload_n 1, 1) := by decide +kernel
theorem dX9_road_7 : decode cX9_road 7 = .ok (.invokevirtual 237, 3) := by decide +kernel
theorem dX9_road_10 : decode cX9_road 10 = .ok (.ifCond .eq 39, 3) := by decide +kernel
theorem dX9_road_13 : decode cX9_road 13 = .ok (.iload_n 2, 1) := by decide +kernel
theorem dX9_road_14 : decode cX9_road 14 = .ok (.iconst 0, 1) := by decide +kernel
theorem dX9_road_15 : decode cX9_road 15 = .ok (.aload_n 0, 1) := by decide +kernel
theorem dX9_road_16 : decode cX9_road 16 = .ok (.iload_n 1, 1) := by decide +kernel
theorem dX9_road_17 : decode cX9_road 17 = .ok (.iconst 1, 1) := by decide +kernel
theorem dX9_road_18 : decode cX9_road 18 = .ok (.invokevirtual 240, 3) := by decide +kernel
theorem dX9_road_21 : decode cX9_road 21 = .ok (.iconst 1, 1) := by decide +kernel
theorem dX9_road_22 : decode cX9_road 22 = .ok (.isub, 1) := by decide +kernel
theorem dX9_road_23 : decode cX9_road 23 = .ok (.invokestatic 120, 3) := by decide +kernel
theorem dX9_road_26 : decode cX9_road 26 = .ok (.ifCond .eq 23, 3) := by decide +kernel
theorem dX9_road_29 : decode cX9_road 29 = .ok (.iload_n 3, 1) := by decide +kernel
theorem dX9_road_30 : decode cX9_road 30 = .ok (.iconst 0, 1) := by decide +kernel
theorem dX9_road_31 : decode cX9_road 31 = .ok (.iconst 4, 1) := by decide +kernel
theorem dX9_road_32 : decode cX9_road 32 = .ok (.invokestatic 120, 3) := by decide +kernel
theorem dX9_road_35 : decode cX9_road 35 = .ok (.ifCond .ne 17, 3) := by decide +kernel
theorem dX9_road_38 : decode cX9_road 38 = .ok (.iload_n 3, 1) := by decide +kernel
theorem dX9_road_39 : decode cX9_road 39 = .ok (.bipush 10, 2) := by decide +kernel
theorem dX9_road_41 : decode cX9_road 41 = .ok (.bipush 15, 2) := by decide +kernel
theorem dX9_road_43 : decode cX9_road 43 = .ok (.invokestatic 120, 3) := by decide +kernel
theorem dX9_road_46 : decode cX9_road 46 = .ok (.ifCond .ne 6, 3) := by decide +kernel
theorem dX9_road_49 : decode cX9_road 49 = .ok (.bipush (-2), 2) := by decide +kernel
theorem dX9_road_51 : decode cX9_road 51 = .ok (.ireturn, 1) := by decide +kernel
theorem dX9_road_52 : decode cX9_road 52 = .ok (.aload_n 0, 1) := by decide +kernel
theorem dX9_road_53 : decode cX9_road 53 = .ok (.iload_n 1, 1) := by decide +kernel
theorem dX9_road_54 : decode cX9_road 54 = .ok (.bipush 6, 2) := by decide +kernel
theorem dX9_road_56 : decode cX9_road 56 = .ok (.bipush 11, 2) := by decide +kernel
theorem dX9_road_58 : decode cX9_road 58 = .ok (.iload_n 2, 1) := by decide +kernel
theorem dX9_road_59 : decode cX9_road 59 = .ok (.imul, 1) := by decide +kernel
theorem dX9_road_60 : decode cX9_road 60 = .ok (.iadd, 1) := by decide +kernel
theorem dX9_road_61 : decode cX9_road 61 = .ok (.iload_n 3, 1) := by decide +kernel
theorem dX9_road_62 : decode cX9_road 62 = .ok (.bipush 10, 2) := by decide +kernel
theorem dX9_road_64 : decode cX9_road 64 = .ok (.if_icmp .ge 7, 3) := by decide +kernel
theorem dX9_road_67 : decode cX9_road 67 = .ok (.iload_n 3, 1) := by decide +kernel
theorem dX9_road_68 : decode cX9_road 68 = .ok (.goto 6, 3) := by decide +kernel
theorem dX9_road_71 : decode cX9_road 71 = .ok (.iload_n 3, 1) := by decide +kernel
theorem dX9_road_72 : decode cX9_road 72 = .ok (.iconst 5, 1) := by decide +kernel
theorem dX9_road_73 : decode cX9_road 73 = .ok (.isub, 1) := by decide +kernel
theorem dX9_road_74 : decode cX9_road 74 = .ok (.iadd, 1) := by decide +kernel
theorem dX9_road_75 : decode cX9_road 75 = .ok (.invokevirtual 240, 3) := by decide +kernel
theorem dX9_road_78 : decode cX9_road 78 = .ok (.ireturn, 1) := by decide +kernel
noncomputable def k_X9_road_52 (F : Nat) : AK := ak_aload 0 (ak_iload 1 (ak_push (vI 6) (ak_push (vI 11) (ak_iload 2 (ak_imul (ak_iadd (ak_iload 3 (ak_push (vI 10) (ak_cmplt (ak_iload 3 (ak_iadd (ak_callv 9 2 (m_X9_of F) ak_ireturn))) (ak_iload 3 (ak_push (vI 5) (ak_isub (ak_iadd (ak_callv 9 2 (m_X9_of F) ak_ireturn))))))))))))))
set_option maxRecDepth 20000 in
theorem sk_X9_road_52 (F : Nat) : Snd X0 RX9 cX9_road 4 2 52 (k_X9_road_52 F) := by
  unfold k_X9_road_52
  exact snd_aload_n (pc := 52) (i := 0) dX9_road_52 (snd_iload_n (pc := 53) (i := 1) dX9_road_53 (snd_bipush (pc := 54) (by decide) dX9_road_54 (snd_bipush (pc := 56) (by decide) dX9_road_56 (snd_iload_n (pc := 58) (i := 2) dX9_road_58 (snd_imul (pc := 59) dX9_road_59 (snd_iadd (pc := 60) dX9_road_60 (snd_iload_n (pc := 61) (i := 3) dX9_road_61 (snd_bipush (pc := 62) (by decide) dX9_road_62 (snd_icmpge (pc := 64) (off := 7) (tgt := 71) (by decide) dX9_road_64 (snd_iload_n (pc := 71) (i := 3) dX9_road_71 (snd_iconst (pc := 72) dX9_road_72 (snd_isub (pc := 73) dX9_road_73 (snd_iadd (pc := 74) dX9_road_74 (snd_callV (pc := 75) (n := 2) cls9 (s_X9_of F) (by decide) (by decide) wd_1597 wd_1594 wd_1596 wd_67 wd_129 hy_X9_of dX9_road_75 (snd_ireturn dX9_road_78)))))) (snd_iload_n (pc := 67) (i := 3) dX9_road_67 (snd_goto (pc := 68) (off := 6) (tgt := 74) (by decide) dX9_road_68 (snd_iadd (pc := 74) dX9_road_74 (snd_callV (pc := 75) (n := 2) cls9 (s_X9_of F) (by decide) (by decide) wd_1597 wd_1594 wd_1596 wd_67 wd_129 hy_X9_of dX9_road_75 (snd_ireturn dX9_road_78))))))))))))))
noncomputable def k_X9_road (F : Nat) : AK := ak_aload 0 (ak_push (vI 0) (ak_putf 9 0 (ak_aload 0 (ak_iload 1 (ak_callv 9 1 (m_X9_isTown F) (ak_ifeq (ak_push (vI (-2)) ak_ireturn) (ak_iload 2 (ak_push (vI 0) (ak_aload 0 (ak_iload 1 (ak_push (vI 1) (ak_callv 9 2 (m_X9_of F) (ak_push (vI 1) (ak_isub (ak_call 3 (m_X9_in F) (ak_ifeq (ak_push (vI (-2)) ak_ireturn) (ak_iload 3 (ak_push (vI 0) (ak_push (vI 4) (ak_call 3 (m_X9_in F) (ak_ifeq (ak_iload 3 (ak_push (vI 10) (ak_push (vI 15) (ak_call 3 (m_X9_in F) (ak_ifeq (ak_push (vI (-2)) ak_ireturn) ((k_X9_road_52 F))))))) ((k_X9_road_52 F)))))))))))))))))))))))
noncomputable def m_X9_road (F : Nat) : AF := mkF 1 4 (k_X9_road F)
set_option maxRecDepth 20000 in
theorem s_X9_road (F : Nat) : MA yX9_road cX9_road 4 (some .int) 2 (m_X9_road F) := met_of (Or.inr (Or.inl ⟨rfl, rfl⟩)) (by decide) (by
  unfold k_X9_road
  exact snd_aload_n (pc := 0) (i := 0) dX9_road_0 (snd_iconst (pc := 1) dX9_road_1 (snd_putf (pc := 2) cls9 (f := 0) (by decide) rfl rfl rfl wd_1303 dX9_road_2 (snd_aload_n (pc := 5) (i := 0) dX9_road_5 (snd_iload_n (pc := 6) (i := 1) dX9_road_6 (snd_callV (pc := 7) (n := 1) cls9 (s_X9_isTown F) (by decide) (by decide) wd_1593 wd_1590 wd_1592 wd_66 wd_129 hy_X9_isTown dX9_road_7 (snd_ifeq (pc := 10) (off := 39) (tgt := 49) (by decide) dX9_road_10 (snd_bipush (pc := 49) (by decide) dX9_road_49 (snd_ireturn dX9_road_51)) (snd_iload_n (pc := 13) (i := 2) dX9_road_13 (snd_iconst (pc := 14) dX9_road_14 (snd_aload_n (pc := 15) (i := 0) dX9_road_15 (snd_iload_n (pc := 16) (i := 1) dX9_road_16 (snd_iconst (pc := 17) dX9_road_17 (snd_callV (pc := 18) (n := 2) cls9 (s_X9_of F) (by decide) (by decide) wd_1597 wd_1594 wd_1596 wd_67 wd_129 hy_X9_of dX9_road_18 (snd_iconst (pc := 21) dX9_road_21 (snd_isub (pc := 22) dX9_road_22 (snd_callS (pc := 23) (n := 3) (s_X9_in F) (by decide) (by decide) wd_1511 wd_1509 wd_1510 wd_129 hy_X9_in dX9_road_23 (snd_ifeq (pc := 26) (off := 23) (tgt := 49) (by decide) dX9_road_26 (snd_bipush (pc := 49) (by decide) dX9_road_49 (snd_ireturn dX9_road_51)) (snd_iload_n (pc := 29) (i := 3) dX9_road_29 (snd_iconst (pc := 30) dX9_road_30 (snd_iconst (pc := 31) dX9_road_31 (snd_callS (pc := 32) (n := 3) (s_X9_in F) (by decide) (by decide) wd_1511 wd_1509 wd_1510 wd_129 hy_X9_in dX9_road_32 (snd_ifne (pc := 35) (off := 17) (tgt := 52) (by decide) dX9_road_35 ((sk_X9_road_52 F)) (snd_iload_n (pc := 38) (i := 3) dX9_road_38 (snd_bipush (pc := 39) (by decide) dX9_road_39 (snd_bipush (pc := 41) (by decide) dX9_road_41 (snd_callS (pc := 43) (n := 3) (s_X9_in F) (by decide) (by decide) wd_1511 wd_1509 wd_1510 wd_129 hy_X9_in dX9_road_43 (snd_ifne (pc := 46) (off := 6) (tgt := 52) (by decide) dX9_road_46 ((sk_X9_road_52 F)) (snd_bipush (pc := 49) (by decide) dX9_road_49 (snd_ireturn dX9_road_51)))))))))))))))))))))))))))))

/-! LastWalkerModel.person(III)I -/
theorem dX9_person_0 : decode cX9_person 0 = .ok (.aload_n 0, 1) := by decide +kernel
theorem dX9_person_1 : decode cX9_person 1 = .ok (.iconst 0, 1) := by decide +kernel
theorem dX9_person_2 : decode cX9_person 2 = .ok (.putfield 112, 3) := by decide +kernel
theorem dX9_person_5 : decode cX9_person 5 = .ok (.aload_n 0, 1) := by decide +kernel
theorem dX9_person_6 : decode cX9_person 6 = .ok (.iload_n 1, 1) := by decide +kernel
theorem dX9_person_7 : decode cX9_person 7 = .ok (.invokevirtual 237, 3) := by decide +kernel
theorem dX9_person_10 : decode cX9_person 10 = .ok (.ifCond .eq 45, 3) := by decide +kernel
theorem dX9_person_13 : decode cX9_person 13 = .ok (.iload_n 2, 1) := by decide +kernel
theorem dX9_person_14 : decode cX9_person 14 = .ok (.iconst 0, 1) := by decide +kernel
theorem dX9_person_15 : decode cX9_person 15 = .ok (.aload_n 0, 1) := by decide +kernel
theorem dX9_person_16 : decode cX9_person 16 = .ok (.iload_n 1, 1) := by decide +kernel
theorem dX9_person_17 : decode cX9_person 17 = .ok (.iconst 2, 1) := by decide +kernel
theorem dX9_person_18 : decode cX9_person 18 = .ok (.invokevirtual 240, 3) := by decide +kernel
theorem dX9_person_21 : decode cX9_person 21 = .ok (.iconst 1, 1) := by decide +kernel
theorem dX9_person_22 : decode cX9_person 22 = .ok (.isub, 1) := by decide +kernel
theorem dX9_person_23 : decode cX9_person 23 = .ok (.invokestatic 120, 3) := by decide +kernel
theorem dX9_person_26 : decode cX9_person 26 = .ok (.ifCond .eq 29, 3) := by decide +kernel
theorem dX9_person_29 : decode cX9_person 29 = .ok (.iload_n 3, 1) := by decide +kernel
theorem dX9_person_30 : decode cX9_person 30 = .ok (.iconst 0, 1) := by decide +kernel
theorem dX9_person_31 : decode cX9_person 31 = .ok (.iconst 2, 1) := by decide +kernel
theorem dX9_person_32 : decode cX9_person 32 = .ok (.invokestatic 120, 3) := by decide +kernel
theorem dX9_person_35 : decode cX9_person 35 = .ok (.ifCond .eq 20, 3) := by decide +kernel
theorem dX9_person_38 : decode cX9_person 38 = .ok (.aload_n 0, 1) := by decide +kernel
theorem dX9_person_39 : decode cX9_person 39 = .ok (.iload_n 1, 1) := by decide +kernel
theorem dX9_person_40 : decode cX9_person 40 = .ok (.sipush 160, 3) := by decide +kernel
theorem dX9_person_43 : decode cX9_person 43 = .ok (.iconst 3, 1) := by decide +kernel
theorem dX9_person_44 : decode cX9_person 44 = .ok (.iload_n 2, 1) := by decide +kernel
theorem dX9_person_45 : decode cX9_person 45 = .ok (.imul, 1) := by decide +kernel
theorem dX9_person_46 : decode cX9_person 46 = .ok (.iadd, 1) := by decide +kernel
theorem dX9_person_47 : decode cX9_person 47 = .ok (.iload_n 3, 1) := by decide +kernel
theorem dX9_person_48 : decode cX9_person 48 = .ok (.iadd, 1) := by decide +kernel
theorem dX9_person_49 : decode cX9_person 49 = .ok (.invokevirtual 240, 3) := by decide +kernel
theorem dX9_person_52 : decode cX9_person 52 = .ok (.goto 4, 3) := by decide +kernel
theorem dX9_person_55 : decode cX9_person 55 = .ok (.iconst (-1), 1) := by decide +kernel
theorem dX9_person_56 : decode cX9_person 56 = .ok (.ireturn, 1) := by decide +kernel
noncomputable def k_X9_person (F : Nat) : AK := ak_aload 0 (ak_push (vI 0) (ak_putf 9 0 (ak_aload 0 (ak_iload 1 (ak_callv 9 1 (m_X9_isTown F) (ak_ifeq (ak_push (vI (-1)) ak_ireturn) (ak_iload 2 (ak_push (vI 0) (ak_aload 0 (ak_iload 1 (ak_push (vI 2) (ak_callv 9 2 (m_X9_of F) (ak_push (vI 1) (ak_isub (ak_call 3 (m_X9_in F) (ak_ifeq (ak_push (vI (-1)) ak_ireturn) (ak_iload 3 (ak_push (vI 0) (ak_push (vI 2) (ak_call 3 (m_X9_in F) (ak_ifeq (ak_push (vI (-1)) ak_ireturn) (ak_aload 0 (ak_iload 1 (ak_push (vI 160) (ak_push (vI 3) (ak_iload 2 (ak_imul (ak_iadd (ak_iload 3 (ak_iadd (ak_callv 9 2 (m_X9_of F) ak_ireturn)))))))))))))))))))))))))))))))
noncomputable def m_X9_person (F : Nat) : AF := mkF 1 4 (k_X9_person F)
set_option maxRecDepth 20000 in
theorem s_X9_person (F : Nat) : MA yX9_person cX9_person 4 (some .int) 2 (m_X9_person F) := met_of (Or.inr (Or.inl ⟨rfl, rfl⟩)) (by decide) (by
  unfold k_X9_person
  exact snd_aload_n (pc := 0) (i := 0) dX9_person_0 (snd_iconst (pc := 1) dX9_person_1 (snd_putf (pc := 2) cls9 (f := 0) (by decide) rfl rfl rfl wd_1303 dX9_person_2 (snd_aload_n (pc := 5) (i := 0) dX9_person_5 (snd_iload_n (pc := 6) (i := 1) dX9_person_6 (snd_callV (pc := 7) (n := 1) cls9 (s_X9_isTown F) (by decide) (by decide) wd_1593 wd_1590 wd_1592 wd_66 wd_129 hy_X9_isTown dX9_person_7 (snd_ifeq (pc := 10) (off := 45) (tgt := 55) (by decide) dX9_person_10 (snd_iconst (pc := 55) dX9_person_55 (snd_ireturn dX9_person_56)) (snd_iload_n (pc := 13) (i := 2) dX9_person_13 (snd_iconst (pc := 14) dX9_person_14 (snd_aload_n (pc := 15) (i := 0) dX9_person_15 (snd_iload_n (pc := 16) (i := 1) dX9_person_16 (snd_iconst (pc := 17) dX9_person_17 (snd_callV (pc := 18) (n := 2) cls9 (s_X9_of F) (by decide) (by decide) wd_1597 wd_1594 wd_1596 wd_67 wd_129 hy_X9_of dX9_person_18 (snd_iconst (pc := 21) dX9_person_21 (snd_isub (pc := 22) dX9_person_22 (snd_callS (pc := 23) (n := 3) (s_X9_in F) (by decide) (by decide) wd_1511 wd_1509 wd_1510 wd_129 hy_X9_in dX9_person_23 (snd_ifeq (pc := 26) (off := 29) (tgt := 55) (by decide) dX9_person_26 (snd_iconst (pc := 55) dX9_person_55 (snd_ireturn dX9_person_56)) (snd_iload_n (pc := 29) (i := 3) dX9_person_29 (snd_iconst (pc := 30) dX9_person_30 (snd_iconst (pc := 31) dX9_person_31 (snd_callS (pc := 32) (n := 3) (s_X9_in F) (by decide) (by decide) wd_1511 wd_1509 wd_1510 wd_129 hy_X9_in dX9_person_32 (snd_ifeq (pc := 35) (off := 20) (tgt := 55) (by decide) dX9_person_35 (snd_iconst (pc := 55) dX9_person_55 (snd_ireturn dX9_person_56)) (snd_aload_n (pc := 38) (i := 0) dX9_person_38 (snd_iload_n (pc := 39) (i := 1) dX9_person_39 (snd_sipush (pc := 40) (by decide) dX9_person_40 (snd_iconst (pc := 43) dX9_person_43 (snd_iload_n (pc := 44) (i := 2) dX9_person_44 (snd_imul (pc := 45) dX9_person_45 (snd_iadd (pc := 46) dX9_person_46 (snd_iload_n (pc := 47) (i := 3) dX9_person_47 (snd_iadd (pc := 48) dX9_person_48 (snd_callV (pc := 49) (n := 2) cls9 (s_X9_of F) (by decide) (by decide) wd_1597 wd_1594 wd_1596 wd_67 wd_129 hy_X9_of dX9_person_49 (snd_goto (pc := 52) (off := 4) (tgt := 56) (by decide) dX9_person_52 (snd_ireturn dX9_person_56))))))))))))))))))))))))))))))))))

/-! LastWalkerModel.errand(III)I -/
theorem dX9_errand_0 : decode cX9_errand 0 = .ok (.aload_n 0, 1) := by decide +kernel
theorem dX9_errand_1 : decode cX9_errand 1 = .ok (.iconst 0, 1) := by decide +kernel
theorem dX9_errand_2 : decode cX9_errand 2 = .ok (.putfield 112, 3) := by decide +kernel
theorem dX9_errand_5 : decode cX9_errand 5 = .ok (.aload_n 0, 1) := by decide +kernel
theorem dX9_errand_6 : decode cX9_errand 6 = .ok (.iload_n 1, 1) := by decide +kernel
theorem dX9_errand_7 : decode cX9_errand 7 = .ok (.invokevirtual 237, 3) := by decide +kernel
theorem dX9_errand_10 : decode cX9_errand 10 = .ok (.ifCond .eq 45, 3) := by decide +kernel
theorem dX9_errand_13 : decode cX9_errand 13 = .ok (.iload_n 2, 1) := by decide +kernel
theorem dX9_errand_14 : decode cX9_errand 14 = .ok (.iconst 0, 1) := by decide +kernel
theorem dX9_errand_15 : decode cX9_errand 15 = .ok (.aload_n 0, 1) := by decide +kernel
theorem dX9_errand_16 : decode cX9_errand 16 = .ok (.iload_n 1, 1) := by decide +kernel
theorem dX9_errand_17 : decode cX9_errand 17 = .ok (.iconst 3, 1) := by decide +kernel
theorem dX9_errand_18 : decode cX9_errand 18 = .ok (.invokevirtual 240, 3) := by decide +kernel
theorem dX9_errand_21 : decode cX9_errand 21 = .ok (.iconst 1, 1) := by decide +kernel
theorem dX9_errand_22 : decode cX9_errand 22 = .ok (.isub, 1) := by decide +kernel
theorem dX9_errand_23 : decode cX9_errand 23 = .ok (.invokestatic 120, 3) := by decide +kernel
theorem dX9_errand_26 : decode cX9_errand 26 = .ok (.ifCond .eq 29, 3) := by decide +kernel
theorem dX9_errand_29 : decode cX9_errand 29 = .ok (.iload_n 3, 1) := by decide +kernel
theorem dX9_errand_30 : decode cX9_errand 30 = .ok (.iconst 0, 1) := by decide +kernel
theorem dX9_errand_31 : decode cX9_errand 31 = .ok (.iconst 3, 1) := by decide +kernel
theorem dX9_errand_32 : decode cX9_errand 32 = .ok (.invokestatic 120, 3) := by decide +kernel
theorem dX9_errand_35 : decode cX9_errand 35 = .ok (.ifCond .eq 20, 3) := by decide +kernel
theorem dX9_errand_38 : decode cX9_errand 38 = .ok (.aload_n 0, 1) := by decide +kernel
theorem dX9_errand_39 : decode cX9_errand 39 = .ok (.iload_n 1, 1) := by decide +kernel
theorem dX9_errand_40 : decode cX9_errand 40 = .ok (.sipush 184, 3) := by decide +kernel
theorem dX9_errand_43 : decode cX9_errand 43 = .ok (.iconst 4, 1) := by decide +kernel
theorem dX9_errand_44 : decode cX9_errand 44 = .ok (.iload_n 2, 1) := by decide +kernel
theorem dX9_errand_45 : decode cX9_errand 45 = .ok (.imul, 1) := by decide +kernel
theorem dX9_errand_46 : decode cX9_errand 46 = .ok (.iadd, 1) := by decide +kernel
theorem dX9_errand_47 : decode cX9_errand 47 = .ok (.iload_n 3, 1) := by decide +kernel
theorem dX9_errand_48 : decode cX9_errand 48 = .ok (.iadd, 1) := by decide +kernel
theorem dX9_errand_49 : decode cX9_errand 49 = .ok (.invokevirtual 240, 3) := by decide +kernel
theorem dX9_errand_52 : decode cX9_errand 52 = .ok (.goto 4, 3) := by decide +kernel
theorem dX9_errand_55 : decode cX9_errand 55 = .ok (.iconst (-1), 1) := by decide +kernel
theorem dX9_errand_56 : decode cX9_errand 56 = .ok (.ireturn, 1) := by decide +kernel
noncomputable def k_X9_errand (F : Nat) : AK := ak_aload 0 (ak_push (vI 0) (ak_putf 9 0 (ak_aload 0 (ak_iload 1 (ak_callv 9 1 (m_X9_isTown F) (ak_ifeq (ak_push (vI (-1)) ak_ireturn) (ak_iload 2 (ak_push (vI 0) (ak_aload 0 (ak_iload 1 (ak_push (vI 3) (ak_callv 9 2 (m_X9_of F) (ak_push (vI 1) (ak_isub (ak_call 3 (m_X9_in F) (ak_ifeq (ak_push (vI (-1)) ak_ireturn) (ak_iload 3 (ak_push (vI 0) (ak_push (vI 3) (ak_call 3 (m_X9_in F) (ak_ifeq (ak_push (vI (-1)) ak_ireturn) (ak_aload 0 (ak_iload 1 (ak_push (vI 184) (ak_push (vI 4) (ak_iload 2 (ak_imul (ak_iadd (ak_iload 3 (ak_iadd (ak_callv 9 2 (m_X9_of F) ak_ireturn)))))))))))))))))))))))))))))))
noncomputable def m_X9_errand (F : Nat) : AF := mkF 1 4 (k_X9_errand F)
set_option maxRecDepth 20000 in
theorem s_X9_errand (F : Nat) : MA yX9_errand cX9_errand 4 (some .int) 2 (m_X9_errand F) := met_of (Or.inr (Or.inl ⟨rfl, rfl⟩)) (by decide) (by
  unfold k_X9_errand
  exact snd_aload_n (pc := 0) (i := 0) dX9_errand_0 (snd_iconst (pc := 1) dX9_errand_1 (snd_putf (pc := 2) cls9 (f := 0) (by decide) rfl rfl rfl wd_1303 dX9_errand_2 (snd_aload_n (pc := 5) (i := 0) dX9_errand_5 (snd_iload_n (pc := 6) (i := 1) dX9_errand_6 (snd_callV (pc := 7) (n := 1) cls9 (s_X9_isTown F) (by decide) (by decide) wd_1593 wd_1590 wd_1592 wd_66 wd_129 hy_X9_isTown dX9_errand_7 (snd_ifeq (pc := 10) (off := 45) (tgt := 55) (by decide) dX9_errand_10 (snd_iconst (pc := 55) dX9_errand_55 (snd_ireturn dX9_errand_56)) (snd_iload_n (pc := 13) (i := 2) dX9_errand_13 (snd_iconst (pc := 14) dX9_errand_14 (snd_aload_n (pc := 15) (i := 0) dX9_errand_15 (snd_iload_n (pc := 16) (i := 1) dX9_errand_16 (snd_iconst (pc := 17) dX9_errand_17 (snd_callV (pc := 18) (n := 2) cls9 (s_X9_of F) (by decide) (by decide) wd_1597 wd_1594 wd_1596 wd_67 wd_129 hy_X9_of dX9_errand_18 (snd_iconst (pc := 21) dX9_errand_21 (snd_isub (pc := 22) dX9_errand_22 (snd_callS (pc := 23) (n := 3) (s_X9_in F) (by decide) (by decide) wd_1511 wd_1509 wd_1510 wd_129 hy_X9_in dX9_errand_23 (snd_ifeq (pc := 26) (off := 29) (tgt := 55) (by decide) dX9_errand_26 (snd_iconst (pc := 55) dX9_errand_55 (snd_ireturn dX9_errand_56)) (snd_iload_n (pc := 29) (i := 3) dX9_errand_29 (snd_iconst (pc := 30) dX9_errand_30 (snd_iconst (pc := 31) dX9_errand_31 (snd_callS (pc := 32) (n := 3) (s_X9_in F) (by decide) (by decide) wd_1511 wd_1509 wd_1510 wd_129 hy_X9_in dX9_errand_32 (snd_ifeq (pc := 35) (off := 20) (tgt := 55) (by decide) dX9_errand_35 (snd_iconst (pc := 55) dX9_errand_55 (snd_ireturn dX9_errand_56)) (snd_aload_n (pc := 38) (i := 0) dX9_errand_38 (snd_iload_n (pc := 39) (i := 1) dX9_errand_39 (snd_sipush (pc := 40) (by decide) dX9_errand_40 (snd_iconst (pc := 43) dX9_errand_43 (snd_iload_n (pc := 44) (i := 2) dX9_errand_44 (snd_imul (pc := 45) dX9_errand_45 (snd_iadd (pc := 46) dX9_errand_46 (snd_iload_n (pc := 47) (i := 3) dX9_errand_47 (snd_iadd (pc := 48) dX9_errand_48 (snd_callV (pc := 49) (n := 2) cls9 (s_X9_of F) (by decide) (by decide) wd_1597 wd_1594 wd_1596 wd_67 wd_129 hy_X9_of dX9_errand_49 (snd_goto (pc := 52) (off := 4) (tgt := 56) (by decide) dX9_errand_52 (snd_ireturn dX9_errand_56))))))))))))))))))))))))))))))))))

/-! LastWalkerModel.movesOf(I)I -/
theorem dX9_movesOf_0 : decode cX9_movesOf 0 = .ok (.aload_n 0, 1) := by decide +kernel
theorem dX9_movesOf_1 : decode cX9_movesOf 1 = .ok (.getfield 29, 3) := by decide +kernel
theorem dX9_movesOf_4 : decode cX9_movesOf 4 = .ok (.bipush 121, 2) := by decide +kernel
theorem dX9_movesOf_6 : decode cX9_movesOf 6 = .ok (.iload_n 1, 1) := by decide +kernel
theorem dX9_movesOf_7 : decode cX9_movesOf 7 = .ok (.imul, 1) := by decide +kernel
theorem dX9_movesOf_8 : decode cX9_movesOf 8 = .ok (.iaload, 1) := by decide +kernel
theorem dX9_movesOf_9 : decode cX9_movesOf 9 = .ok (.ireturn, 1) := by decide +kernel
noncomputable def k_X9_movesOf (F : Nat) : AK := ak_aload 0 (ak_getf 9 7 (ak_push (vI 121) (ak_iload 1 (ak_imul (ak_iald ak_ireturn)))))
noncomputable def m_X9_movesOf (F : Nat) : AF := mkF 1 2 (k_X9_movesOf F)
set_option maxRecDepth 20000 in
theorem s_X9_movesOf (F : Nat) : MA yX9_movesOf cX9_movesOf 2 (some .int) 0 (m_X9_movesOf F) := met_of (Or.inr (Or.inl ⟨rfl, rfl⟩)) (by decide) (by
  unfold k_X9_movesOf
  exact snd_aload_n (pc := 0) (i := 0) dX9_movesOf_0 (snd_getf (pc := 1) cls9 (f := 7) (by decide) wd_1310 dX9_movesOf_1 (snd_bipush (pc := 4) (by decide) dX9_movesOf_4 (snd_iload_n (pc := 6) (i := 1) dX9_movesOf_6 (snd_imul (pc := 7) dX9_movesOf_7 (snd_iald (pc := 8) dX9_movesOf_8 (snd_ireturn dX9_movesOf_9)))))))

/-! LastWalkerModel.moveOf(III)I -/
theorem dX9_moveOf_0 : decode cX9_moveOf 0 = .ok (.aload_n 0, 1) := by decide +kernel
theorem dX9_moveOf_1 : decode cX9_moveOf 1 = .ok (.getfield 29, 3) := by decide +kernel
theorem dX9_moveOf_4 : decode cX9_moveOf 4 = .ok (.bipush 121, 2) := by decide +kernel
theorem dX9_moveOf_6 : decode cX9_moveOf 6 = .ok (.iload_n 1, 1) := by decide +kernel
theorem dX9_moveOf_7 : decode cX9_moveOf 7 = .ok (.imul, 1) := by decide +kernel
theorem dX9_moveOf_8 : decode cX9_moveOf 8 = .ok (.iconst 1, 1) := by decide +kernel
theorem dX9_moveOf_9 : decode cX9_moveOf 9 = .ok (.iadd, 1) := by decide +kernel
theorem dX9_moveOf_10 : decode cX9_moveOf 10 = .ok (.iconst 3, 1) := by decide +kernel
theorem dX9_moveOf_11 : decode cX9_moveOf 11 = .ok (.iload_n 2, 1) := by decide +kernel
theorem dX9_moveOf_12 : decode cX9_moveOf 12 = .ok (.imul, 1) := by decide +kernel
theorem dX9_moveOf_13 : decode cX9_moveOf 13 = .ok (.iadd, 1) := by decide +kernel
theorem dX9_moveOf_14 : decode cX9_moveOf 14 = .ok (.iload_n 3, 1) := by decide +kernel
theorem dX9_moveOf_15 : decode cX9_moveOf 15 = .ok (.iadd, 1) := by decide +kernel
theorem dX9_moveOf_16 : decode cX9_moveOf 16 = .ok (.iaload, 1) := by decide +kernel
theorem dX9_moveOf_17 : decode cX9_moveOf 17 = .ok (.ireturn, 1) := by decide +kernel
noncomputable def k_X9_moveOf (F : Nat) : AK := ak_aload 0 (ak_getf 9 7 (ak_push (vI 121) (ak_iload 1 (ak_imul (ak_push (vI 1) (ak_iadd (ak_push (vI 3) (ak_iload 2 (ak_imul (ak_iadd (ak_iload 3 (ak_iadd (ak_iald ak_ireturn)))))))))))))
noncomputable def m_X9_moveOf (F : Nat) : AF := mkF 1 4 (k_X9_moveOf F)
set_option maxRecDepth 20000 in
theorem s_X9_moveOf (F : Nat) : MA yX9_moveOf cX9_moveOf 4 (some .int) 0 (m_X9_moveOf F) := met_of (Or.inr (Or.inl ⟨rfl, rfl⟩)) (by decide) (by
  unfold k_X9_moveOf
  exact snd_aload_n (pc := 0) (i := 0) dX9_moveOf_0 (snd_getf (pc := 1) cls9 (f := 7) (by decide) wd_1310 dX9_moveOf_1 (snd_bipush (pc := 4) (by decide) dX9_moveOf_4 (snd_iload_n (pc := 6) (i := 1) dX9_moveOf_6 (snd_imul (pc := 7) dX9_moveOf_7 (snd_iconst (pc := 8) dX9_moveOf_8 (snd_iadd (pc := 9) dX9_moveOf_9 (snd_iconst (pc := 10) dX9_moveOf_10 (snd_iload_n (pc := 11) (i := 2) dX9_moveOf_11 (snd_imul (pc := 12) dX9_moveOf_12 (snd_iadd (pc := 13) dX9_moveOf_13 (snd_iload_n (pc := 14) (i := 3) dX9_moveOf_14 (snd_iadd (pc := 15) dX9_moveOf_15 (snd_iald (pc := 16) dX9_moveOf_16 (snd_ireturn dX9_moveOf_17)))))))))))))))

/-! LastWalkerModel.move(III)I -/
theorem dX9_move_0 : decode cX9_move 0 = .ok (.aload_n 0, 1) := by decide +kernel
theorem dX9_move_1 : decode cX9_move 1 = .ok (.iconst 0, 1) := by decide +kernel
theorem dX9_move_2 : decode cX9_move 2 = .ok (.putfield 112, 3) := by decide +kernel
theorem dX9_move_5 : decode cX9_move 5 = .ok (.aload_n 0, 1) := by decide +kernel
theorem dX9_move_6 : decode cX9_move 6 = .ok (.iload_n 1, 1) := by decide +kernel
theorem dX9_move_7 : decode cX9_move 7 = .ok (.invokevirtual 244, 3) := by decide +kernel
theorem dX9_move_10 : decode cX9_move 10 = .ok (.ifCond .ne 6, 3) := by decide +kernel
theorem dX9_move_13 : decode cX9_move 13 = .ok (.bipush (-2), 2) := by decide +kernel
theorem dX9_move_15 : decode cX9_move 15 = .ok (.ireturn, 1) := by decide +kernel
theorem dX9_move_16 : decode cX9_move 16 = .ok (.iload_n 2, 1) := by decide +kernel
theorem dX9_move_17 : decode cX9_move 17 = .ok (.iconst (-1), 1) := by decide +kernel
theorem dX9_move_18 : decode cX9_move 18 = .ok (.if_icmp .ne 18, 3) := by decide +kernel
theorem dX9_move_21 : decode cX9_move 21 = .ok (.iload_n 3, 1) := by decide +kernel
theorem dX9_move_22 : decode cX9_move 22 = .ok (.ifCond .ne 11, 3) := by decide +kernel
theorem dX9_move_25 : decode cX9_move 25 = .ok (.aload_n 0, 1) := by decide +kernel
theorem dX9_move_26 : decode cX9_move 26 = .ok (.iload_n 1, 1) := by decide +kernel
theorem dX9_move_27 : decode cX9_move 27 = .ok (.invokevirtual 247, 3) := by decide +kernel
theorem dX9_move_30 : decode cX9_move 30 = .ok (.goto 5, 3) := by decide +kernel
theorem dX9_move_33 : decode cX9_move 33 = .ok (.bipush (-2), 2) := by decide +kernel
theorem dX9_move_35 : decode cX9_move 35 = .ok (.ireturn, 1) := by decide +kernel
theorem dX9_move_36 : decode cX9_move 36 = .ok (.iload_n 2, 1) := by decide +kernel
theorem dX9_move_37 : decode cX9_move 37 = .ok (.iconst 0, 1) := by decide +kernel
theorem dX9_move_38 : decode cX9_move 38 = .ok (.aload_n 0, 1) := by decide +kernel
theorem dX9_move_39 : decode cX9_move 39 = .ok (.iload_n 1, 1) := by decide +kernel
theorem dX9_move_40 : decode cX9_move 40 = .ok (.invokevirtual 247, 3) := by decide +kernel
theorem dX9_move_43 : decode cX9_move 43 = .ok (.iconst 1, 1) := by decide +kernel
theorem dX9_move_44 : decode cX9_move 44 = .ok (.isub, 1) := by decide +kernel
theorem dX9_move_45 : decode cX9_move 45 = .ok (.invokestatic 120, 3) := by decide +kernel
theorem dX9_move_48 : decode cX9_move 48 = .ok (.ifCond .eq 22, 3) := by decide +kernel
theorem dX9_move_51 : decode cX9_move 51 = .ok (.iload_n 3, 1) := by decide +kernel
theorem dX9_move_52 : decode cX9_move 52 = .ok (.iconst 0, 1) := by decide +kernel
theorem dX9_move_53 : decode cX9_move 53 = .ok (.iconst 2, 1) := by decide +kernel
theorem dX9_move_54 : decode cX9_move 54 = .ok (.invokestatic 120, 3) := by decide +kernel
theorem dX9_move_57 : decode cX9_move 57 = .ok (.ifCond .eq 13, 3) := by decide +kernel
theorem dX9_move_60 : decode cX9_move 60 = .ok (.aload_n 0, 1) := by decide +kernel
theorem dX9_move_61 : decode cX9_move 61 = .ok (.iload_n 1, 1) := by decide +kernel
theorem dX9_move_62 : decode cX9_move 62 = .ok (.iload_n 2, 1) := by decide +kernel
theorem dX9_move_63 : decode cX9_move 63 = .ok (.iload_n 3, 1) := by decide +kernel
theorem dX9_move_64 : decode cX9_move 64 = .ok (.invokevirtual 251, 3) := by decide +kernel
theorem dX9_move_67 : decode cX9_move 67 = .ok (.goto 5, 3) := by decide +kernel
theorem dX9_move_70 : decode cX9_move 70 = .ok (.bipush (-2), 2) := by decide +kernel
theorem dX9_move_72 : decode cX9_move 72 = .ok (.ireturn, 1) := by decide +kernel
noncomputable def k_X9_move (F : Nat) : AK := ak_aload 0 (ak_push (vI 0) (ak_putf 9 0 (ak_aload 0 (ak_iload 1 (ak_callv 9 1 (m_X9_isDay F) (ak_ifeq (ak_push (vI (-2)) ak_ireturn) (ak_iload 2 (ak_push (vI (-1)) (ak_cmpeq (ak_iload 3 (ak_ifeq (ak_aload 0 (ak_iload 1 (ak_callv 9 1 (m_X9_movesOf F) ak_ireturn))) (ak_push (vI (-2)) ak_ireturn))) (ak_iload 2 (ak_push (vI 0) (ak_aload 0 (ak_iload 1 (ak_callv 9 1 (m_X9_movesOf F) (ak_push (vI 1) (ak_isub (ak_call 3 (m_X9_in F) (ak_ifeq (ak_push (vI (-2)) ak_ireturn) (ak_iload 3 (ak_push (vI 0) (ak_push (vI 2) (ak_call 3 (m_X9_in F) (ak_ifeq (ak_push (vI (-2)) ak_ireturn) (ak_aload 0 (ak_iload 1 (ak_iload 2 (ak_iload 3 (ak_callv 9 3 (m_X9_moveOf F) ak_ireturn))))))))))))))))))))))))))))
noncomputable def m_X9_move (F : Nat) : AF := mkF 1 4 (k_X9_move F)
set_option maxRecDepth 20000 in
theorem s_X9_move (F : Nat) : MA yX9_move cX9_move 4 (some .int) 2 (m_X9_move F) := met_of (Or.inr (Or.inl ⟨rfl, rfl⟩)) (by decide) (by
  unfold k_X9_move
  exact snd_aload_n (pc := 0) (i := 0) dX9_move_0 (snd_iconst (pc := 1) dX9_move_1 (snd_putf (pc := 2) cls9 (f := 0) (by decide) rfl rfl rfl wd_1303 dX9_move_2 (snd_aload_n (pc := 5) (i := 0) dX9_move_5 (snd_iload_n (pc := 6) (i := 1) dX9_move_6 (snd_callV (pc := 7) (n := 1) cls9 (s_X9_isDay F) (by decide) (by decide) wd_1617 wd_1614 wd_1616 wd_68 wd_129 hy_X9_isDay dX9_move_7 (snd_ifne (pc := 10) (off := 6) (tgt := 16) (by decide) dX9_move_10 (snd_iload_n (pc := 16) (i := 2) dX9_move_16 (snd_iconst (pc := 17) dX9_move_17 (snd_icmpne (pc := 18) (off := 18) (tgt := 36) (by decide) dX9_move_18 (snd_iload_n (pc := 36) (i := 2) dX9_move_36 (snd_iconst (pc := 37) dX9_move_37 (snd_aload_n (pc := 38) (i := 0) dX9_move_38 (snd_iload_n (pc := 39) (i := 1) dX9_move_39 (snd_callV (pc := 40) (n := 1) cls9 (s_X9_movesOf F) (by decide) (by decide) wd_1621 wd_1618 wd_1620 wd_69 wd_129 hy_X9_movesOf dX9_move_40 (snd_iconst (pc := 43) dX9_move_43 (snd_isub (pc := 44) dX9_move_44 (snd_callS (pc := 45) (n := 3) (s_X9_in F) (by decide) (by decide) wd_1511 wd_1509 wd_1510 wd_129 hy_X9_in dX9_move_45 (snd_ifeq (pc := 48) (off := 22) (tgt := 70) (by decide) dX9_move_48 (snd_bipush (pc := 70) (by decide) dX9_move_70 (snd_ireturn dX9_move_72)) (snd_iload_n (pc := 51) (i := 3) dX9_move_51 (snd_iconst (pc := 52) dX9_move_52 (snd_iconst (pc := 53) dX9_move_53 (snd_callS (pc := 54) (n := 3) (s_X9_in F) (by decide) (by decide) wd_1511 wd_1509 wd_1510 wd_129 hy_X9_in dX9_move_54 (snd_ifeq (pc := 57) (off := 13) (tgt := 70) (by decide) dX9_move_57 (snd_bipush (pc := 70) (by decide) dX9_move_70 (snd_ireturn dX9_move_72)) (snd_aload_n (pc := 60) (i := 0) dX9_move_60 (snd_iload_n (pc := 61) (i := 1) dX9_move_61 (snd_iload_n (pc := 62) (i := 2) dX9_move_62 (snd_iload_n (pc := 63) (i := 3) dX9_move_63 (snd_callV (pc := 64) (n := 3) cls9 (s_X9_moveOf F) (by decide) (by decide) wd_1625 wd_1622 wd_1624 wd_70 wd_129 hy_X9_moveOf dX9_move_64 (snd_goto (pc := 67) (off := 5) (tgt := 72) (by decide) dX9_move_67 (snd_ireturn dX9_move_72))))))))))))))))))))) (snd_iload_n (pc := 21) (i := 3) dX9_move_21 (snd_ifne (pc := 22) (off := 11) (tgt := 33) (by decide) dX9_move_22 (snd_bipush (pc := 33) (by decide) dX9_move_33 (snd_ireturn dX9_move_35)) (snd_aload_n (pc := 25) (i := 0) dX9_move_25 (snd_iload_n (pc := 26) (i := 1) dX9_move_26 (snd_callV (pc := 27) (n := 1) cls9 (s_X9_movesOf F) (by decide) (by decide) wd_1621 wd_1618 wd_1620 wd_69 wd_129 hy_X9_movesOf dX9_move_27 (snd_goto (pc := 30) (off := 5) (tgt := 35) (by decide) dX9_move_30 (snd_ireturn dX9_move_35)))))))))) (snd_bipush (pc := 13) (by decide) dX9_move_13 (snd_ireturn dX9_move_15)))))))))
