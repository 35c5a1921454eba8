theorem dL_comesTrue_74 : decode cL_comesTrue 74 = .ok (.invokevirtual 26, 3) := by decide +kernel
theorem dL_comesTrue_77 : decode cL_comesTrue 77 = .ok (.ifCond .eq 7, 3) := by decide +kernel
theorem dL_comesTrue_80 : decode cL_comesTrue 80 = .ok (.iconst 1, 1) := by decide +kernel
theorem dL_comesTrue_81 : decode cL_comesTrue 81 = .ok (.goto 4, 3) := by decide +kernel
theorem dL_comesTrue_84 : decode cL_comesTrue 84 = .ok (.iconst 0, 1) := by decide +kernel
theorem dL_comesTrue_85 : decode cL_comesTrue 85 = .ok (.if_icmp .ne 7, 3) := by decide +kernel
theorem dL_comesTrue_88 : decode cL_comesTrue 88 = .ok (.iconst 1, 1) := by decide +kernel
theorem dL_comesTrue_89 : decode cL_comesTrue 89 = .ok (.goto 4, 3) := by decide +kernel
theorem dL_comesTrue_92 : decode cL_comesTrue 92 = .ok (.iconst 0, 1) := by decide +kernel
theorem dL_comesTrue_93 : decode cL_comesTrue 93 = .ok (.istore 7, 2) := by decide +kernel
theorem dL_comesTrue_95 : decode cL_comesTrue 95 = .ok (.iload 6, 2) := by decide +kernel
theorem dL_comesTrue_97 : decode cL_comesTrue 97 = .ok (.ifCond .le 104, 3) := by decide +kernel
theorem dL_comesTrue_100 : decode cL_comesTrue 100 = .ok (.iload 7, 2) := by decide +kernel
theorem dL_comesTrue_102 : decode cL_comesTrue 102 = .ok (.ifCond .eq 47, 3) := by decide +kernel
theorem dL_comesTrue_105 : decode cL_comesTrue 105 = .ok (.aload_n 0, 1) := by decide +kernel
theorem dL_comesTrue_106 : decode cL_comesTrue 106 = .ok (.iload 5, 2) := by decide +kernel
theorem dL_comesTrue_108 : decode cL_comesTrue 108 = .ok (.iload 6, 2) := by decide +kernel
theorem dL_comesTrue_110 : decode cL_comesTrue 110 = .ok (.invokevirtual 56, 3) := by decide +kernel
theorem dL_comesTrue_113 : decode cL_comesTrue 113 = .ok (.ifCond .le 36, 3) := by decide +kernel
theorem dL_comesTrue_116 : decode cL_comesTrue 116 = .ok (.aload_n 0, 1) := by decide +kernel
theorem dL_comesTrue_117 : decode cL_comesTrue 117 = .ok (.iload 5, 2) := by decide +kernel
theorem dL_comesTrue_119 : decode cL_comesTrue 119 = .ok (.bipush 8, 2) := by decide +kernel
theorem dL_comesTrue_121 : decode cL_comesTrue 121 = .ok (.invokevirtual 26, 3) := by decide +kernel
theorem dL_comesTrue_124 : decode cL_comesTrue 124 = .ok (.ifCond .ne 25, 3) := by decide +kernel
theorem dL_comesTrue_127 : decode cL_comesTrue 127 = .ok (.aload_n 0, 1) := by decide +kernel
theorem dL_comesTrue_128 : decode cL_comesTrue 128 = .ok (.iload 5, 2) := by decide +kernel
theorem dL_comesTrue_130 : decode cL_comesTrue 130 = .ok (.iload 4, 2) := by decide +kernel
theorem dL_comesTrue_132 : decode cL_comesTrue 132 = .ok (.invokevirtual 72, 3) := by decide +kernel
theorem dL_comesTrue_135 : decode cL_comesTrue 135 = .ok (.ifCond .ne 14, 3) := by decide +kernel
theorem dL_comesTrue_138 : decode cL_comesTrue 138 = .ok (.aload_n 0, 1) := by decide +kernel
theorem dL_comesTrue_139 : decode cL_comesTrue 139 = .ok (.invokevirtual 99, 3) := by decide +kernel
theorem dL_comesTrue_142 : decode cL_comesTrue 142 = .ok (.ifCond .lt 7, 3) := by decide +kernel
theorem dL_comesTrue_145 : decode cL_comesTrue 145 = .ok (.iconst 1, 1) := by decide +kernel
theorem dL_comesTrue_146 : decode cL_comesTrue 146 = .ok (.goto 4, 3) := by decide +kernel
theorem dL_comesTrue_149 : decode cL_comesTrue 149 = .ok (.iconst 0, 1) := by decide +kernel
theorem dL_comesTrue_150 : decode cL_comesTrue 150 = .ok (.istore 7, 2) := by decide +kernel
theorem dL_comesTrue_152 : decode cL_comesTrue 152 = .ok (.iload 7, 2) := by decide +kernel
theorem dL_comesTrue_154 : decode cL_comesTrue 154 = .ok (.ifCond .eq 44, 3) := by decide +kernel
theorem dL_comesTrue_157 : decode cL_comesTrue 157 = .ok (.iload 6, 2) := by decide +kernel
theorem dL_comesTrue_159 : decode cL_comesTrue 159 = .ok (.iconst 1, 1) := by decide +kernel
theorem dL_comesTrue_160 : decode cL_comesTrue 160 = .ok (.if_icmp .eq 34, 3) := by decide +kernel
theorem dL_comesTrue_163 : decode cL_comesTrue 163 = .ok (.aload_n 0, 1) := by decide +kernel
theorem dL_comesTrue_164 : decode cL_comesTrue 164 = .ok (.iload 5, 2) := by decide +kernel
theorem dL_comesTrue_166 : decode cL_comesTrue 166 = .ok (.iload 6, 2) := by decide +kernel
theorem dL_comesTrue_168 : decode cL_comesTrue 168 = .ok (.iconst 1, 1) := by decide +kernel
theorem dL_comesTrue_169 : decode cL_comesTrue 169 = .ok (.isub, 1) := by decide +kernel
theorem dL_comesTrue_170 : decode cL_comesTrue 170 = .ok (.invokevirtual 56, 3) := by decide +kernel
theorem dL_comesTrue_173 : decode cL_comesTrue 173 = .ok (.ifCond .le 25, 3) := by decide +kernel
theorem dL_comesTrue_176 : decode cL_comesTrue 176 = .ok (.aload_n 0, 1) := by decide +kernel
theorem dL_comesTrue_177 : decode cL_comesTrue 177 = .ok (.iload 5, 2) := by decide +kernel
theorem dL_comesTrue_179 : decode cL_comesTrue 179 = .ok (.iload 4, 2) := by decide +kernel
theorem dL_comesTrue_181 : decode cL_comesTrue 181 = .ok (.invokevirtual 72, 3) := by decide +kernel
theorem dL_comesTrue_184 : decode cL_comesTrue 184 = .ok (.ifCond .eq 14, 3) := by decide +kernel
theorem dL_comesTrue_187 : decode cL_comesTrue 187 = .ok (.aload_n 0, 1) := by decide +kernel
theorem dL_comesTrue_188 : decode cL_comesTrue 188 = .ok (.invokevirtual 99, 3) := by decide +kernel
theorem dL_comesTrue_191 : decode cL_comesTrue 191 = .ok (.ifCond .lt 7, 3) := by decide +kernel
theorem dL_comesTrue_194 : decode cL_comesTrue 194 = .ok (.iconst 1, 1) := by decide +kernel
theorem dL_comesTrue_195 : decode cL_comesTrue 195 = .ok (.goto 4, 3) := by decide +kernel
theorem dL_comesTrue_198 : decode cL_comesTrue 198 = .ok (.iconst 0, 1) := by decide +kernel
theorem dL_comesTrue_199 : decode cL_comesTrue 199 = .ok (.istore 7, 2) := by decide +kernel
theorem dL_comesTrue_201 : decode cL_comesTrue 201 = .ok (.aload_n 0, 1) := by decide +kernel
theorem dL_comesTrue_202 : decode cL_comesTrue 202 = .ok (.iload 4, 2) := by decide +kernel
theorem dL_comesTrue_204 : decode cL_comesTrue 204 = .ok (.invokevirtual 75, 3) := by decide +kernel
theorem dL_comesTrue_207 : decode cL_comesTrue 207 = .ok (.istore 8, 2) := by decide +kernel
theorem dL_comesTrue_209 : decode cL_comesTrue 209 = .ok (.aload_n 0, 1) := by decide +kernel
theorem dL_comesTrue_210 : decode cL_comesTrue 210 = .ok (.iconst 1, 1) := by decide +kernel
theorem dL_comesTrue_211 : decode cL_comesTrue 211 = .ok (.invokevirtual 13, 3) := by decide +kernel
theorem dL_comesTrue_214 : decode cL_comesTrue 214 = .ok (.istore 9, 2) := by decide +kernel
theorem dL_comesTrue_216 : decode cL_comesTrue 216 = .ok (.iload 7, 2) := by decide +kernel
theorem dL_comesTrue_218 : decode cL_comesTrue 218 = .ok (.ifCond .eq 149, 3) := by decide +kernel
theorem dL_comesTrue_221 : decode cL_comesTrue 221 = .ok (.iload 8, 2) := by decide +kernel
theorem dL_comesTrue_223 : decode cL_comesTrue 223 = .ok (.ifCond .le 144, 3) := by decide +kernel
theorem dL_comesTrue_226 : decode cL_comesTrue 226 = .ok (.aload_n 0, 1) := by decide +kernel
theorem dL_comesTrue_227 : decode cL_comesTrue 227 = .ok (.iconst 2, 1) := by decide +kernel
theorem dL_comesTrue_228 : decode cL_comesTrue 228 = .ok (.invokevirtual 13, 3) := by decide +kernel
theorem dL_comesTrue_231 : decode cL_comesTrue 231 = .ok (.bipush 12, 2) := by decide +kernel
theorem dL_comesTrue_233 : decode cL_comesTrue 233 = .ok (.if_icmp .ge 134, 3) := by decide +kernel
theorem dL_comesTrue_236 : decode cL_comesTrue 236 = .ok (.iload 9, 2) := by decide +kernel
theorem dL_comesTrue_238 : decode cL_comesTrue 238 = .ok (.bipush 100, 2) := by decide +kernel
theorem dL_comesTrue_240 : decode cL_comesTrue 240 = .ok (.if_icmp .ge 127, 3) := by decide +kernel
theorem dL_comesTrue_243 : decode cL_comesTrue 243 = .ok (.aload_n 0, 1) := by decide +kernel
theorem dL_comesTrue_244 : decode cL_comesTrue 244 = .ok (.aload_n 0, 1) := by decide +kernel
theorem dL_comesTrue_245 : decode cL_comesTrue 245 = .ok (.iload 4, 2) := by decide +kernel
theorem dL_comesTrue_247 : decode cL_comesTrue 247 = .ok (.iconst 0, 1) := by decide +kernel
theorem dL_comesTrue_248 : decode cL_comesTrue 248 = .ok (.invokevirtual 29, 3) := by decide +kernel
theorem dL_comesTrue_251 : decode cL_comesTrue 251 = .ok (.iload 8, 2) := by decide +kernel
theorem dL_comesTrue_253 : decode cL_comesTrue 253 = .ok (.invokevirtual 53, 3) := by decide +kernel
theorem dL_comesTrue_256 : decode cL_comesTrue 256 = .ok (.iload 9, 2) := by decide +kernel
theorem dL_comesTrue_258 : decode cL_comesTrue 258 = .ok (.if_icmp .ne 31, 3) := by decide +kernel
theorem dL_comesTrue_261 : decode cL_comesTrue 261 = .ok (.aload_n 0, 1) := by decide +kernel
theorem dL_comesTrue_262 : decode cL_comesTrue 262 = .ok (.iload 9, 2) := by decide +kernel
theorem dL_comesTrue_264 : decode cL_comesTrue 264 = .ok (.iconst 5, 1) := by decide +kernel
theorem dL_comesTrue_265 : decode cL_comesTrue 265 = .ok (.invokevirtual 26, 3) := by decide +kernel
theorem dL_comesTrue_268 : decode cL_comesTrue 268 = .ok (.aload_n 0, 1) := by decide +kernel
theorem dL_comesTrue_269 : decode cL_comesTrue 269 = .ok (.iload 4, 2) := by decide +kernel
theorem dL_comesTrue_271 : decode cL_comesTrue 271 = .ok (.iconst 1, 1) := by decide +kernel
theorem dL_comesTrue_272 : decode cL_comesTrue 272 = .ok (.invokevirtual 29, 3) := by decide +kernel
theorem dL_comesTrue_275 : decode cL_comesTrue 275 = .ok (.if_icmp .lt 14, 3) := by decide +kernel
theorem dL_comesTrue_278 : decode cL_comesTrue 278 = .ok (.aload_n 0, 1) := by decide +kernel
theorem dL_comesTrue_279 : decode cL_comesTrue 279 = .ok (.invokevirtual 99, 3) := by decide +kernel
theorem dL_comesTrue_282 : decode cL_comesTrue 282 = .ok (.ifCond .lt 7, 3) := by decide +kernel
theorem dL_comesTrue_285 : decode cL_comesTrue 285 = .ok (.iconst 1, 1) := by decide +kernel
theorem dL_comesTrue_286 : decode cL_comesTrue 286 = .ok (.goto 4, 3) := by decide +kernel
theorem dL_comesTrue_289 : decode cL_comesTrue 289 = .ok (.iconst 0, 1) := by decide +kernel
theorem dL_comesTrue_290 : decode cL_comesTrue 290 = .ok (.istore 7, 2) := by decide +kernel
theorem dL_comesTrue_292 : decode cL_comesTrue 292 = .ok (.iload 7, 2) := by decide +kernel
theorem dL_comesTrue_294 : decode cL_comesTrue 294 = .ok (.ifCond .eq 73, 3) := by decide +kernel
theorem dL_comesTrue_297 : decode cL_comesTrue 297 = .ok (.iload 8, 2) := by decide +kernel
theorem dL_comesTrue_299 : decode cL_comesTrue 299 = .ok (.sipush 10000, 3) := by decide +kernel
theorem dL_comesTrue_302 : decode cL_comesTrue 302 = .ok (.if_icmp .ge 65, 3) := by decide +kernel
theorem dL_comesTrue_305 : decode cL_comesTrue 305 = .ok (.aload_n 0, 1) := by decide +kernel
theorem dL_comesTrue_306 : decode cL_comesTrue 306 = .ok (.aload_n 0, 1) := by decide +kernel
theorem dL_comesTrue_307 : decode cL_comesTrue 307 = .ok (.iload 4, 2) := by decide +kernel
theorem dL_comesTrue_309 : decode cL_comesTrue 309 = .ok (.iconst 0, 1) := by decide +kernel
theorem dL_comesTrue_310 : decode cL_comesTrue 310 = .ok (.invokevirtual 29, 3) := by decide +kernel
theorem dL_comesTrue_313 : decode cL_comesTrue 313 = .ok (.iload 8, 2) := by decide +kernel
theorem dL_comesTrue_315 : decode cL_comesTrue 315 = .ok (.iconst 1, 1) := by decide +kernel
theorem dL_comesTrue_316 : decode cL_comesTrue 316 = .ok (.iadd, 1) := by decide +kernel
theorem dL_comesTrue_317 : decode cL_comesTrue 317 = .ok (.invokevirtual 53, 3) := by decide +kernel
theorem dL_comesTrue_320 : decode cL_comesTrue 320 = .ok (.istore 10, 2) := by decide +kernel
theorem dL_comesTrue_322 : decode cL_comesTrue 322 = .ok (.iload 10, 2) := by decide +kernel
theorem dL_comesTrue_324 : decode cL_comesTrue 324 = .ok (.bipush (-2), 2) := by decide +kernel
theorem dL_comesTrue_326 : decode cL_comesTrue 326 = .ok (.if_icmp .eq 34, 3) := by decide +kernel
theorem dL_comesTrue_329 : decode cL_comesTrue 329 = .ok (.iload 10, 2) := by decide +kernel
theorem dL_comesTrue_331 : decode cL_comesTrue 331 = .ok (.iload 9, 2) := by decide +kernel
theorem dL_comesTrue_333 : decode cL_comesTrue 333 = .ok (.if_icmp .ne 31, 3) := by decide +kernel
theorem dL_comesTrue_336 : decode cL_comesTrue 336 = .ok (.aload_n 0, 1) := by decide +kernel
theorem dL_comesTrue_337 : decode cL_comesTrue 337 = .ok (.iload 9, 2) := by decide +kernel
theorem dL_comesTrue_339 : decode cL_comesTrue 339 = .ok (.iconst 5, 1) := by decide +kernel
theorem dL_comesTrue_340 : decode cL_comesTrue 340 = .ok (.invokevirtual 26, 3) := by decide +kernel
theorem dL_comesTrue_343 : decode cL_comesTrue 343 = .ok (.aload_n 0, 1) := by decide +kernel
theorem dL_comesTrue_344 : decode cL_comesTrue 344 = .ok (.iload 4, 2) := by decide +kernel
theorem dL_comesTrue_346 : decode cL_comesTrue 346 = .ok (.iconst 1, 1) := by decide +kernel
theorem dL_comesTrue_347 : decode cL_comesTrue 347 = .ok (.invokevirtual 29, 3) := by decide +kernel
theorem dL_comesTrue_350 : decode cL_comesTrue 350 = .ok (.if_icmp .ge 14, 3) := by decide +kernel
theorem dL_comesTrue_353 : decode cL_comesTrue 353 = .ok (.aload_n 0, 1) := by decide +kernel
theorem dL_comesTrue_354 : decode cL_comesTrue 354 = .ok (.invokevirtual 99, 3) := by decide +kernel
theorem dL_comesTrue_357 : decode cL_comesTrue 357 = .ok (.ifCond .lt 7, 3) := by decide +kernel
theorem dL_comesTrue_360 : decode cL_comesTrue 360 = .ok (.iconst 1, 1) := by decide +kernel
theorem dL_comesTrue_361 : decode cL_comesTrue 361 = .ok (.goto 4, 3) := by decide +kernel
theorem dL_comesTrue_364 : decode cL_comesTrue 364 = .ok (.iconst 0, 1) := by decide +kernel
theorem dL_comesTrue_365 : decode cL_comesTrue 365 = .ok (.istore 7, 2) := by decide +kernel
theorem dL_comesTrue_367 : decode cL_comesTrue 367 = .ok (.iload 7, 2) := by decide +kernel
theorem dL_comesTrue_369 : decode cL_comesTrue 369 = .ok (.ifCond .eq 16, 3) := by decide +kernel
theorem dL_comesTrue_372 : decode cL_comesTrue 372 = .ok (.aload_n 0, 1) := by decide +kernel
theorem dL_comesTrue_373 : decode cL_comesTrue 373 = .ok (.invokestatic 32, 3) := by decide +kernel
theorem dL_comesTrue_376 : decode cL_comesTrue 376 = .ok (.lload_n 2, 1) := by decide +kernel
theorem dL_comesTrue_377 : decode cL_comesTrue 377 = .ok (.lcmp, 1) := by decide +kernel
theorem dL_comesTrue_378 : decode cL_comesTrue 378 = .ok (.ifCond .ne 7, 3) := by decide +kernel
theorem dL_comesTrue_381 : decode cL_comesTrue 381 = .ok (.iconst 1, 1) := by decide +kernel
theorem dL_comesTrue_382 : decode cL_comesTrue 382 = .ok (.goto 4, 3) := by decide +kernel
theorem dL_comesTrue_385 : decode cL_comesTrue 385 = .ok (.iconst 0, 1) := by decide +kernel
theorem dL_comesTrue_386 : decode cL_comesTrue 386 = .ok (.ireturn, 1) := by decide +kernel
theorem dL_areLoads_0 : decode cL_areLoads 0 = .ok (.aload_n 0, 1) := by decide +kernel
theorem dL_areLoads_1 : decode cL_areLoads 1 = .ok (.iconst 2, 1) := by decide +kernel
theorem dL_areLoads_2 : decode cL_areLoads 2 = .ok (.invokevirtual 13, 3) := by decide +kernel
theorem dL_areLoads_5 : decode cL_areLoads 5 = .ok (.istore_n 2, 1) := by decide +kernel
theorem dL_areLoads_6 : decode cL_areLoads 6 = .ok (.iload_n 1, 1) := by decide +kernel
theorem dL_areLoads_7 : decode cL_areLoads 7 = .ok (.iconst 1, 1) := by decide +kernel
theorem dL_areLoads_8 : decode cL_areLoads 8 = .ok (.iload_n 2, 1) := by decide +kernel
theorem dL_areLoads_9 : decode cL_areLoads 9 = .ok (.bipush 6, 2) := by decide +kernel
theorem dL_areLoads_11 : decode cL_areLoads 11 = .ok (.if_icmp .ge 7, 3) := by decide +kernel
theorem dL_areLoads_14 : decode cL_areLoads 14 = .ok (.iload_n 2, 1) := by decide +kernel
theorem dL_areLoads_15 : decode cL_areLoads 15 = .ok (.goto 5, 3) := by decide +kernel
theorem dL_areLoads_18 : decode cL_areLoads 18 = .ok (.bipush 6, 2) := by decide +kernel
theorem dL_areLoads_20 : decode cL_areLoads 20 = .ok (.ishl, 1) := by decide +kernel
theorem dL_areLoads_21 : decode cL_areLoads 21 = .ok (.invokestatic 96, 3) := by decide +kernel
theorem dL_areLoads_24 : decode cL_areLoads 24 = .ok (.istore_n 3, 1) := by decide +kernel
theorem dL_areLoads_25 : decode cL_areLoads 25 = .ok (.aload_n 0, 1) := by decide +kernel
theorem dL_areLoads_26 : decode cL_areLoads 26 = .ok (.bipush 26, 2) := by decide +kernel
theorem dL_areLoads_28 : decode cL_areLoads 28 = .ok (.invokevirtual 13, 3) := by decide +kernel
theorem dL_areLoads_31 : decode cL_areLoads 31 = .ok (.istore 4, 2) := by decide +kernel
theorem dL_areLoads_33 : decode cL_areLoads 33 = .ok (.iconst 0, 1) := by decide +kernel
theorem dL_areLoads_34 : decode cL_areLoads 34 = .ok (.istore 5, 2) := by decide +kernel
theorem dL_areLoads_36 : decode cL_areLoads 36 = .ok (.iconst 0, 1) := by decide +kernel
theorem dL_areLoads_37 : decode cL_areLoads 37 = .ok (.istore 6, 2) := by decide +kernel
theorem dL_areLoads_39 : decode cL_areLoads 39 = .ok (.iconst 0, 1) := by decide +kernel
theorem dL_areLoads_40 : decode cL_areLoads 40 = .ok (.istore 7, 2) := by decide +kernel
theorem dL_areLoads_42 : decode cL_areLoads 42 = .ok (.iconst 1, 1) := by decide +kernel
theorem dL_areLoads_43 : decode cL_areLoads 43 = .ok (.istore 8, 2) := by decide +kernel
theorem dL_areLoads_45 : decode cL_areLoads 45 = .ok (.bipush 12, 2) := by decide +kernel
theorem dL_areLoads_47 : decode cL_areLoads 47 = .ok (.newarray .int, 2) := by decide +kernel
theorem dL_areLoads_49 : decode cL_areLoads 49 = .ok (.astore 9, 2) := by decide +kernel
theorem dL_areLoads_51 : decode cL_areLoads 51 = .ok (.iconst 0, 1) := by decide +kernel
theorem dL_areLoads_52 : decode cL_areLoads 52 = .ok (.istore 10, 2) := by decide +kernel
theorem dL_areLoads_54 : decode cL_areLoads 54 = .ok (.iconst 0, 1) := by decide +kernel
theorem dL_areLoads_55 : decode cL_areLoads 55 = .ok (.istore 11, 2) := by decide +kernel
theorem dL_areLoads_57 : decode cL_areLoads 57 = .ok (.iload 11, 2) := by decide +kernel
theorem dL_areLoads_59 : decode cL_areLoads 59 = .ok (.aload_n 0, 1) := by decide +kernel
theorem dL_areLoads_60 : decode cL_areLoads 60 = .ok (.iconst 1, 1) := by decide +kernel
theorem dL_areLoads_61 : decode cL_areLoads 61 = .ok (.invokevirtual 13, 3) := by decide +kernel
theorem dL_areLoads_64 : decode cL_areLoads 64 = .ok (.if_icmp .ge 83, 3) := by decide +kernel
theorem dL_areLoads_67 : decode cL_areLoads 67 = .ok (.aload_n 0, 1) := by decide +kernel
theorem dL_areLoads_68 : decode cL_areLoads 68 = .ok (.iload 11, 2) := by decide +kernel
theorem dL_areLoads_70 : decode cL_areLoads 70 = .ok (.bipush 8, 2) := by decide +kernel
theorem dL_areLoads_72 : decode cL_areLoads 72 = .ok (.invokevirtual 26, 3) := by decide +kernel
theorem dL_areLoads_75 : decode cL_areLoads 75 = .ok (.iconst 2, 1) := by decide +kernel
theorem dL_areLoads_76 : decode cL_areLoads 76 = .ok (.if_icmp .ge 65, 3) := by decide +kernel
theorem dL_areLoads_79 : decode cL_areLoads 79 = .ok (.iload_n 3, 1) := by decide +kernel
theorem dL_areLoads_80 : decode cL_areLoads 80 = .ok (.iload 7, 2) := by decide +kernel
theorem dL_areLoads_82 : decode cL_areLoads 82 = .ok (.ishr, 1) := by decide +kernel
theorem dL_areLoads_83 : decode cL_areLoads 83 = .ok (.iconst 1, 1) := by decide +kernel
theorem dL_areLoads_84 : decode cL_areLoads 84 = .ok (.iand, 1) := by decide +kernel
theorem dL_areLoads_85 : decode cL_areLoads 85 = .ok (.iconst 1, 1) := by decide +kernel
theorem dL_areLoads_86 : decode cL_areLoads 86 = .ok (.if_icmp .ne 42, 3) := by decide +kernel
theorem dL_areLoads_89 : decode cL_areLoads 89 = .ok (.iload 5, 2) := by decide +kernel
theorem dL_areLoads_91 : decode cL_areLoads 91 = .ok (.aload_n 0, 1) := by decide +kernel
theorem dL_areLoads_92 : decode cL_areLoads 92 = .ok (.iload 11, 2) := by decide +kernel
theorem dL_areLoads_94 : decode cL_areLoads 94 = .ok (.iconst 2, 1) := by decide +kernel
theorem dL_areLoads_95 : decode cL_areLoads 95 = .ok (.invokevirtual 26, 3) := by decide +kernel
theorem dL_areLoads_98 : decode cL_areLoads 98 = .ok (.iadd, 1) := by decide +kernel
theorem dL_areLoads_99 : decode cL_areLoads 99 = .ok (.istore 5, 2) := by decide +kernel
theorem dL_areLoads_101 : decode cL_areLoads 101 = .ok (.iload 8, 2) := by decide +kernel
theorem dL_areLoads_103 : decode cL_areLoads 103 = .ok (.ifCond .eq 19, 3) := by decide +kernel
theorem dL_areLoads_106 : decode cL_areLoads 106 = .ok (.aload_n 0, 1) := by decide +kernel
theorem dL_areLoads_107 : decode cL_areLoads 107 = .ok (.iload 11, 2) := by decide +kernel
theorem dL_areLoads_109 : decode cL_areLoads 109 = .ok (.iconst 2, 1) := by decide +kernel
theorem dL_areLoads_110 : decode cL_areLoads 110 = .ok (.invokevirtual 26, 3) := by decide +kernel
theorem dL_areLoads_113 : decode cL_areLoads 113 = .ok (.iload 4, 2) := by decide +kernel
theorem dL_areLoads_115 : decode cL_areLoads 115 = .ok (.if_icmp .gt 7, 3) := by decide +kernel
theorem dL_areLoads_118 : decode cL_areLoads 118 = .ok (.iconst 1, 1) := by decide +kernel
theorem dL_areLoads_119 : decode cL_areLoads 119 = .ok (.goto 4, 3) := by decide +kernel
theorem dL_areLoads_122 : decode cL_areLoads 122 = .ok (.iconst 0, 1) := by decide +kernel
theorem dL_areLoads_123 : decode cL_areLoads 123 = .ok (.istore 8, 2) := by decide +kernel
theorem dL_areLoads_125 : decode cL_areLoads 125 = .ok (.iinc 6 1, 3) := by decide +kernel
theorem dL_areLoads_128 : decode cL_areLoads 128 = .ok (.aload 9, 2) := by decide +kernel
theorem dL_areLoads_130 : decode cL_areLoads 130 = .ok (.iload 10, 2) := by decide +kernel
theorem dL_areLoads_132 : decode cL_areLoads 132 = .ok (.iload 11, 2) := by decide +kernel
theorem dL_areLoads_134 : decode cL_areLoads 134 = .ok (.iastore, 1) := by decide +kernel
theorem dL_areLoads_135 : decode cL_areLoads 135 = .ok (.iinc 10 1, 3) := by decide +kernel
theorem dL_areLoads_138 : decode cL_areLoads 138 = .ok (.iinc 7 1, 3) := by decide +kernel
theorem dL_areLoads_141 : decode cL_areLoads 141 = .ok (.iinc 11 1, 3) := by decide +kernel
theorem dL_areLoads_144 : decode cL_areLoads 144 = .ok (.goto (-87), 3) := by decide +kernel
theorem dL_areLoads_147 : decode cL_areLoads 147 = .ok (.aload_n 0, 1) := by decide +kernel
theorem dL_areLoads_148 : decode cL_areLoads 148 = .ok (.iload_n 3, 1) := by decide +kernel
theorem dL_areLoads_149 : decode cL_areLoads 149 = .ok (.invokevirtual 78, 3) := by decide +kernel
theorem dL_areLoads_152 : decode cL_areLoads 152 = .ok (.istore 11, 2) := by decide +kernel
theorem dL_areLoads_154 : decode cL_areLoads 154 = .ok (.iload 8, 2) := by decide +kernel
theorem dL_areLoads_156 : decode cL_areLoads 156 = .ok (.ifCond .eq 55, 3) := by decide +kernel
theorem dL_areLoads_159 : decode cL_areLoads 159 = .ok (.iload 11, 2) := by decide +kernel
theorem dL_areLoads_161 : decode cL_areLoads 161 = .ok (.iload 5, 2) := by decide +kernel
theorem dL_areLoads_163 : decode cL_areLoads 163 = .ok (.iload 4, 2) := by decide +kernel
theorem dL_areLoads_165 : decode cL_areLoads 165 = .ok (.iadd, 1) := by decide +kernel
theorem dL_areLoads_166 : decode cL_areLoads 166 = .ok (.iconst 1, 1) := by decide +kernel
theorem dL_areLoads_167 : decode cL_areLoads 167 = .ok (.isub, 1) := by decide +kernel
theorem dL_areLoads_168 : decode cL_areLoads 168 = .ok (.iload 4, 2) := by decide +kernel
theorem dL_areLoads_170 : decode cL_areLoads 170 = .ok (.idiv, 1) := by decide +kernel
theorem dL_areLoads_171 : decode cL_areLoads 171 = .ok (.if_icmp .lt 36, 3) := by decide +kernel
theorem dL_areLoads_174 : decode cL_areLoads 174 = .ok (.iload 11, 2) := by decide +kernel
theorem dL_areLoads_176 : decode cL_areLoads 176 = .ok (.iload 6, 2) := by decide +kernel
theorem dL_areLoads_178 : decode cL_areLoads 178 = .ok (.if_icmp .gt 29, 3) := by decide +kernel
theorem dL_areLoads_181 : decode cL_areLoads 181 = .ok (.iload_n 3, 1) := by decide +kernel
theorem dL_areLoads_182 : decode cL_areLoads 182 = .ok (.ifCond .ne 7, 3) := by decide +kernel
theorem dL_areLoads_185 : decode cL_areLoads 185 = .ok (.iconst 1, 1) := by decide +kernel
theorem dL_areLoads_186 : decode cL_areLoads 186 = .ok (.goto 4, 3) := by decide +kernel
theorem dL_areLoads_189 : decode cL_areLoads 189 = .ok (.iconst 0, 1) := by decide +kernel
theorem dL_areLoads_190 : decode cL_areLoads 190 = .ok (.iload 11, 2) := by decide +kernel
theorem dL_areLoads_192 : decode cL_areLoads 192 = .ok (.ifCond .ne 7, 3) := by decide +kernel
theorem dL_areLoads_195 : decode cL_areLoads 195 = .ok (.iconst 1, 1) := by decide +kernel
theorem dL_areLoads_196 : decode cL_areLoads 196 = .ok (.goto 4, 3) := by decide +kernel
theorem dL_areLoads_199 : decode cL_areLoads 199 = .ok (.iconst 0, 1) := by decide +kernel
theorem dL_areLoads_200 : decode cL_areLoads 200 = .ok (.if_icmp .ne 7, 3) := by decide +kernel
theorem dL_areLoads_203 : decode cL_areLoads 203 = .ok (.iconst 1, 1) := by decide +kernel
theorem dL_areLoads_204 : decode cL_areLoads 204 = .ok (.goto 19, 3) := by decide +kernel
theorem dL_areLoads_207 : decode cL_areLoads 207 = .ok (.iconst 0, 1) := by decide +kernel
theorem dL_areLoads_208 : decode cL_areLoads 208 = .ok (.goto 15, 3) := by decide +kernel
theorem dL_areLoads_211 : decode cL_areLoads 211 = .ok (.iload 11, 2) := by decide +kernel
theorem dL_areLoads_213 : decode cL_areLoads 213 = .ok (.bipush (-2), 2) := by decide +kernel
theorem dL_areLoads_215 : decode cL_areLoads 215 = .ok (.if_icmp .ne 7, 3) := by decide +kernel
theorem dL_areLoads_218 : decode cL_areLoads 218 = .ok (.iconst 1, 1) := by decide +kernel
theorem dL_areLoads_219 : decode cL_areLoads 219 = .ok (.goto 4, 3) := by decide +kernel
theorem dL_areLoads_222 : decode cL_areLoads 222 = .ok (.iconst 0, 1) := by decide +kernel
theorem dL_areLoads_223 : decode cL_areLoads 223 = .ok (.istore 12, 2) := by decide +kernel
theorem dL_areLoads_225 : decode cL_areLoads 225 = .ok (.iload 12, 2) := by decide +kernel
theorem dL_areLoads_227 : decode cL_areLoads 227 = .ok (.ifCond .eq 18, 3) := by decide +kernel
theorem dL_areLoads_230 : decode cL_areLoads 230 = .ok (.aload_n 0, 1) := by decide +kernel
theorem dL_areLoads_231 : decode cL_areLoads 231 = .ok (.iconst 1, 1) := by decide +kernel
theorem dL_areLoads_232 : decode cL_areLoads 232 = .ok (.iload_n 2, 1) := by decide +kernel
theorem dL_areLoads_233 : decode cL_areLoads 233 = .ok (.ishl, 1) := by decide +kernel
theorem dL_areLoads_234 : decode cL_areLoads 234 = .ok (.invokevirtual 78, 3) := by decide +kernel
theorem dL_areLoads_237 : decode cL_areLoads 237 = .ok (.iconst (-1), 1) := by decide +kernel
theorem dL_areLoads_238 : decode cL_areLoads 238 = .ok (.if_icmp .ne 7, 3) := by decide +kernel
theorem dL_areLoads_241 : decode cL_areLoads 241 = .ok (.iconst 1, 1) := by decide +kernel
theorem dL_areLoads_242 : decode cL_areLoads 242 = .ok (.goto 4, 3) := by decide +kernel
theorem dL_areLoads_245 : decode cL_areLoads 245 = .ok (.iconst 0, 1) := by decide +kernel
theorem dL_areLoads_246 : decode cL_areLoads 246 = .ok (.istore 12, 2) := by decide +kernel
theorem dL_areLoads_248 : decode cL_areLoads 248 = .ok (.iload 10, 2) := by decide +kernel
theorem dL_areLoads_250 : decode cL_areLoads 250 = .ok (.iconst 3, 1) := by decide +kernel
theorem dL_areLoads_251 : decode cL_areLoads 251 = .ok (.if_icmp .lt 10, 3) := by decide +kernel
theorem dL_areLoads_254 : decode cL_areLoads 254 = .ok (.aload_n 0, 1) := by decide +kernel
theorem dL_areLoads_255 : decode cL_areLoads 255 = .ok (.invokevirtual 103, 3) := by decide +kernel
theorem dL_areLoads_258 : decode cL_areLoads 258 = .ok (.ifCond .ge 6, 3) := by decide +kernel
theorem dL_areLoads_261 : decode cL_areLoads 261 = .ok (.iload 12, 2) := by decide +kernel
theorem dL_areLoads_263 : decode cL_areLoads 263 = .ok (.ireturn, 1) := by decide +kernel
theorem dL_areLoads_264 : decode cL_areLoads 264 = .ok (.aload 9, 2) := by decide +kernel
theorem dL_areLoads_266 : decode cL_areLoads 266 = .ok (.iconst 0, 1) := by decide +kernel
theorem dL_areLoads_267 : decode cL_areLoads 267 = .ok (.iaload, 1) := by decide +kernel
theorem dL_areLoads_268 : decode cL_areLoads 268 = .ok (.istore 13, 2) := by decide +kernel
theorem dL_areLoads_270 : decode cL_areLoads 270 = .ok (.aload 9, 2) := by decide +kernel
theorem dL_areLoads_272 : decode cL_areLoads 272 = .ok (.iconst 1, 1) := by decide +kernel
theorem dL_areLoads_273 : decode cL_areLoads 273 = .ok (.iaload, 1) := by decide +kernel
theorem dL_areLoads_274 : decode cL_areLoads 274 = .ok (.istore 14, 2) := by decide +kernel
theorem dL_areLoads_276 : decode cL_areLoads 276 = .ok (.aload 9, 2) := by decide +kernel
theorem dL_areLoads_278 : decode cL_areLoads 278 = .ok (.iconst 2, 1) := by decide +kernel
theorem dL_areLoads_279 : decode cL_areLoads 279 = .ok (.iaload, 1) := by decide +kernel
theorem dL_areLoads_280 : decode cL_areLoads 280 = .ok (.istore 15, 2) := by decide +kernel
theorem dL_areLoads_282 : decode cL_areLoads 282 = .ok (.iload 12, 2) := by decide +kernel
theorem dL_areLoads_284 : decode cL_areLoads 284 = .ok (.ifCond .eq 97, 3) := by decide +kernel
theorem dL_areLoads_287 : decode cL_areLoads 287 = .ok (.aload_n 0, 1) := by decide +kernel
theorem dL_areLoads_288 : decode cL_areLoads 288 = .ok (.bipush 40, 2) := by decide +kernel
theorem dL_areLoads_290 : decode cL_areLoads 290 = .ok (.invokevirtual 106, 3) := by decide +kernel
theorem dL_areLoads_293 : decode cL_areLoads 293 = .ok (.ifCond .le 88, 3) := by decide +kernel
theorem dL_areLoads_296 : decode cL_areLoads 296 = .ok (.aload_n 0, 1) := by decide +kernel
theorem dL_areLoads_297 : decode cL_areLoads 297 = .ok (.bipush 40, 2) := by decide +kernel
theorem dL_areLoads_299 : decode cL_areLoads 299 = .ok (.invokevirtual 106, 3) := by decide +kernel
theorem dL_areLoads_302 : decode cL_areLoads 302 = .ok (.ifCond .le 79, 3) := by decide +kernel
theorem dL_areLoads_305 : decode cL_areLoads 305 = .ok (.aload_n 0, 1) := by decide +kernel
theorem dL_areLoads_306 : decode cL_areLoads 306 = .ok (.iload 13, 2) := by decide +kernel
theorem dL_areLoads_308 : decode cL_areLoads 308 = .ok (.invokestatic 109, 3) := by decide +kernel
theorem dL_areLoads_311 : decode cL_areLoads 311 = .ok (.ifCond .eq 70, 3) := by decide +kernel
theorem dL_areLoads_314 : decode cL_areLoads 314 = .ok (.aload_n 0, 1) := by decide +kernel
theorem dL_areLoads_315 : decode cL_areLoads 315 = .ok (.bipush 44, 2) := by decide +kernel
theorem dL_areLoads_317 : decode cL_areLoads 317 = .ok (.invokevirtual 106, 3) := by decide +kernel
theorem dL_areLoads_320 : decode cL_areLoads 320 = .ok (.ifCond .le 61, 3) := by decide +kernel
theorem dL_areLoads_323 : decode cL_areLoads 323 = .ok (.aload_n 0, 1) := by decide +kernel
theorem dL_areLoads_324 : decode cL_areLoads 324 = .ok (.iconst 1, 1) := by decide +kernel
theorem dL_areLoads_325 : decode cL_areLoads 325 = .ok (.invokevirtual 84, 3) := by decide +kernel
theorem dL_areLoads_328 : decode cL_areLoads 328 = .ok (.iconst 4, 1) := by decide +kernel
theorem dL_areLoads_329 : decode cL_areLoads 329 = .ok (.if_icmp .ne 52, 3) := by decide +kernel
theorem dL_areLoads_332 : decode cL_areLoads 332 = .ok (.aload_n 0, 1) := by decide +kernel
theorem dL_areLoads_333 : decode cL_areLoads 333 = .ok (.iload 14, 2) := by decide +kernel
theorem dL_areLoads_335 : decode cL_areLoads 335 = .ok (.invokestatic 109, 3) := by decide +kernel
theorem dL_areLoads_338 : decode cL_areLoads 338 = .ok (.ifCond .eq 43, 3) := by decide +kernel
theorem dL_areLoads_341 : decode cL_areLoads 341 = .ok (.aload_n 0, 1) := by decide +kernel
theorem dL_areLoads_342 : decode cL_areLoads 342 = .ok (.bipush 41, 2) := by decide +kernel
theorem dL_areLoads_344 : decode cL_areLoads 344 = .ok (.invokevirtual 106, 3) := by decide +kernel
theorem dL_areLoads_347 : decode cL_areLoads 347 = .ok (.ifCond .le 34, 3) := by decide +kernel
theorem dL_areLoads_350 : decode cL_areLoads 350 = .ok (.aload_n 0, 1) := by decide +kernel
theorem dL_areLoads_351 : decode cL_areLoads 351 = .ok (.bipush 44, 2) := by decide +kernel
theorem dL_areLoads_353 : decode cL_areLoads 353 = .ok (.invokevirtual 106, 3) := by decide +kernel
theorem dL_areLoads_356 : decode cL_areLoads 356 = .ok (.ifCond .le 25, 3) := by decide +kernel
theorem dL_areLoads_359 : decode cL_areLoads 359 = .ok (.aload_n 0, 1) := by decide +kernel
theorem dL_areLoads_360 : decode cL_areLoads 360 = .ok (.iload 15, 2) := by decide +kernel
theorem dL_areLoads_362 : decode cL_areLoads 362 = .ok (.invokestatic 109, 3) := by decide +kernel
theorem dL_areLoads_365 : decode cL_areLoads 365 = .ok (.ifCond .eq 16, 3) := by decide +kernel
theorem dL_areLoads_368 : decode cL_areLoads 368 = .ok (.aload_n 0, 1) := by decide +kernel
theorem dL_areLoads_369 : decode cL_areLoads 369 = .ok (.bipush 41, 2) := by decide +kernel
theorem dL_areLoads_371 : decode cL_areLoads 371 = .ok (.invokevirtual 106, 3) := by decide +kernel
theorem dL_areLoads_374 : decode cL_areLoads 374 = .ok (.ifCond .le 7, 3) := by decide +kernel
theorem dL_areLoads_377 : decode cL_areLoads 377 = .ok (.iconst 1, 1) := by decide +kernel
theorem dL_areLoads_378 : decode cL_areLoads 378 = .ok (.goto 4, 3) := by decide +kernel
theorem dL_areLoads_381 : decode cL_areLoads 381 = .ok (.iconst 0, 1) := by decide +kernel
theorem dL_areLoads_382 : decode cL_areLoads 382 = .ok (.istore 12, 2) := by decide +kernel
theorem dL_areLoads_384 : decode cL_areLoads 384 = .ok (.aload_n 0, 1) := by decide +kernel
theorem dL_areLoads_385 : decode cL_areLoads 385 = .ok (.iload 13, 2) := by decide +kernel
theorem dL_areLoads_387 : decode cL_areLoads 387 = .ok (.iconst 2, 1) := by decide +kernel
theorem dL_areLoads_388 : decode cL_areLoads 388 = .ok (.invokevirtual 26, 3) := by decide +kernel
theorem dL_areLoads_391 : decode cL_areLoads 391 = .ok (.istore 16, 2) := by decide +kernel
theorem dL_areLoads_393 : decode cL_areLoads 393 = .ok (.aload_n 0, 1) := by decide +kernel
theorem dL_areLoads_394 : decode cL_areLoads 394 = .ok (.iload 14, 2) := by decide +kernel
theorem dL_areLoads_396 : decode cL_areLoads 396 = .ok (.iconst 2, 1) := by decide +kernel
theorem dL_areLoads_397 : decode cL_areLoads 397 = .ok (.invokevirtual 26, 3) := by decide +kernel
theorem dL_areLoads_400 : decode cL_areLoads 400 = .ok (.istore 17, 2) := by decide +kernel
theorem dL_areLoads_402 : decode cL_areLoads 402 = .ok (.aload_n 0, 1) := by decide +kernel
theorem dL_areLoads_403 : decode cL_areLoads 403 = .ok (.iload 15, 2) := by decide +kernel
theorem dL_areLoads_405 : decode cL_areLoads 405 = .ok (.iconst 2, 1) := by decide +kernel
theorem dL_areLoads_406 : decode cL_areLoads 406 = .ok (.invokevirtual 26, 3) := by decide +kernel
theorem dL_areLoads_409 : decode cL_areLoads 409 = .ok (.istore 18, 2) := by decide +kernel
theorem dL_areLoads_411 : decode cL_areLoads 411 = .ok (.iload 16, 2) := by decide +kernel
theorem dL_areLoads_413 : decode cL_areLoads 413 = .ok (.iload 17, 2) := by decide +kernel
theorem dL_areLoads_415 : decode cL_areLoads 415 = .ok (.if_icmp .le 11, 3) := by decide +kernel
theorem dL_areLoads_418 : decode cL_areLoads 418 = .ok (.iload 16, 2) := by decide +kernel
theorem dL_areLoads_420 : decode cL_areLoads 420 = .ok (.iload 17, 2) := by decide +kernel
theorem dL_areLoads_422 : decode cL_areLoads 422 = .ok (.isub, 1) := by decide +kernel
theorem dL_areLoads_423 : decode cL_areLoads 423 = .ok (.goto 8, 3) := by decide +kernel
theorem dL_areLoads_426 : decode cL_areLoads 426 = .ok (.iload 17, 2) := by decide +kernel
theorem dL_areLoads_428 : decode cL_areLoads 428 = .ok (.iload 16, 2) := by decide +kernel
theorem dL_areLoads_430 : decode cL_areLoads 430 = .ok (.isub, 1) := by decide +kernel
theorem dL_areLoads_431 : decode cL_areLoads 431 = .ok (.istore 19, 2) := by decide +kernel
theorem dL_areLoads_433 : decode cL_areLoads 433 = .ok (.iload 16, 2) := by decide +kernel
theorem dL_areLoads_435 : decode cL_areLoads 435 = .ok (.iload 17, 2) := by decide +kernel
theorem dL_areLoads_437 : decode cL_areLoads 437 = .ok (.iadd, 1) := by decide +kernel
theorem dL_areLoads_438 : decode cL_areLoads 438 = .ok (.iload 18, 2) := by decide +kernel
theorem dL_areLoads_440 : decode cL_areLoads 440 = .ok (.if_icmp .le 14, 3) := by decide +kernel
theorem dL_areLoads_443 : decode cL_areLoads 443 = .ok (.iload 16, 2) := by decide +kernel
theorem dL_areLoads_445 : decode cL_areLoads 445 = .ok (.iload 17, 2) := by decide +kernel
theorem dL_areLoads_447 : decode cL_areLoads 447 = .ok (.iadd, 1) := by decide +kernel
theorem dL_areLoads_448 : decode cL_areLoads 448 = .ok (.iload 18, 2) := by decide +kernel
theorem dL_areLoads_450 : decode cL_areLoads 450 = .ok (.isub, 1) := by decide +kernel
theorem dL_areLoads_451 : decode cL_areLoads 451 = .ok (.goto 11, 3) := by decide +kernel
theorem dL_areLoads_454 : decode cL_areLoads 454 = .ok (.iload 18, 2) := by decide +kernel
theorem dL_areLoads_456 : decode cL_areLoads 456 = .ok (.iload 16, 2) := by decide +kernel
theorem dL_areLoads_458 : decode cL_areLoads 458 = .ok (.isub, 1) := by decide +kernel
theorem dL_areLoads_459 : decode cL_areLoads 459 = .ok (.iload 17, 2) := by decide +kernel
theorem dL_areLoads_461 : decode cL_areLoads 461 = .ok (.isub, 1) := by decide +kernel
theorem dL_areLoads_462 : decode cL_areLoads 462 = .ok (.istore 20, 2) := by decide +kernel
theorem dL_areLoads_464 : decode cL_areLoads 464 = .ok (.iload 12, 2) := by decide +kernel
theorem dL_areLoads_466 : decode cL_areLoads 466 = .ok (.ifCond .eq 146, 3) := by decide +kernel
theorem dL_areLoads_469 : decode cL_areLoads 469 = .ok (.aload_n 0, 1) := by decide +kernel
theorem dL_areLoads_470 : decode cL_areLoads 470 = .ok (.iconst 0, 1) := by decide +kernel
theorem dL_areLoads_471 : decode cL_areLoads 471 = .ok (.invokevirtual 84, 3) := by decide +kernel
theorem dL_areLoads_474 : decode cL_areLoads 474 = .ok (.bipush (-4), 2) := by decide +kernel
theorem dL_areLoads_476 : decode cL_areLoads 476 = .ok (.if_icmp .ne 136, 3) := by decide +kernel
theorem dL_areLoads_479 : decode cL_areLoads 479 = .ok (.aload_n 0, 1) := by decide +kernel
theorem dL_areLoads_480 : decode cL_areLoads 480 = .ok (.iconst 0, 1) := by decide +kernel
theorem dL_areLoads_481 : decode cL_areLoads 481 = .ok (.invokevirtual 81, 3) := by decide +kernel
theorem dL_areLoads_484 : decode cL_areLoads 484 = .ok (.iload 16, 2) := by decide +kernel
theorem dL_areLoads_486 : decode cL_areLoads 486 = .ok (.iload 17, 2) := by decide +kernel
theorem dL_areLoads_488 : decode cL_areLoads 488 = .ok (.iadd, 1) := by decide +kernel
theorem dL_areLoads_489 : decode cL_areLoads 489 = .ok (.iload 18, 2) := by decide +kernel
theorem dL_areLoads_491 : decode cL_areLoads 491 = .ok (.iadd, 1) := by decide +kernel
theorem dL_areLoads_492 : decode cL_areLoads 492 = .ok (.if_icmp .ne 120, 3) := by decide +kernel
theorem dL_areLoads_495 : decode cL_areLoads 495 = .ok (.aload_n 0, 1) := by decide +kernel
theorem dL_areLoads_496 : decode cL_areLoads 496 = .ok (.iconst 1, 1) := by decide +kernel
theorem dL_areLoads_497 : decode cL_areLoads 497 = .ok (.invokevirtual 81, 3) := by decide +kernel
theorem dL_areLoads_500 : decode cL_areLoads 500 = .ok (.iconst 3, 1) := by decide +kernel
theorem dL_areLoads_501 : decode cL_areLoads 501 = .ok (.if_icmp .ne 111, 3) := by decide +kernel
theorem dL_areLoads_504 : decode cL_areLoads 504 = .ok (.aload_n 0, 1) := by decide +kernel
theorem dL_areLoads_505 : decode cL_areLoads 505 = .ok (.iconst 2, 1) := by decide +kernel
theorem dL_areLoads_506 : decode cL_areLoads 506 = .ok (.invokevirtual 81, 3) := by decide +kernel
theorem dL_areLoads_509 : decode cL_areLoads 509 = .ok (.iconst 2, 1) := by decide +kernel
theorem dL_areLoads_510 : decode cL_areLoads 510 = .ok (.if_icmp .ne 102, 3) := by decide +kernel
theorem dL_areLoads_513 : decode cL_areLoads 513 = .ok (.aload_n 0, 1) := by decide +kernel
theorem dL_areLoads_514 : decode cL_areLoads 514 = .ok (.iconst 3, 1) := by decide +kernel
theorem dL_areLoads_515 : decode cL_areLoads 515 = .ok (.invokevirtual 81, 3) := by decide +kernel
theorem dL_areLoads_518 : decode cL_areLoads 518 = .ok (.iconst 2, 1) := by decide +kernel
theorem dL_areLoads_519 : decode cL_areLoads 519 = .ok (.if_icmp .ne 93, 3) := by decide +kernel
theorem dL_areLoads_522 : decode cL_areLoads 522 = .ok (.aload_n 0, 1) := by decide +kernel
theorem dL_areLoads_523 : decode cL_areLoads 523 = .ok (.iconst 4, 1) := by decide +kernel
theorem dL_areLoads_524 : decode cL_areLoads 524 = .ok (.invokevirtual 81, 3) := by decide +kernel
theorem dL_areLoads_527 : decode cL_areLoads 527 = .ok (.iload 19, 2) := by decide +kernel
theorem dL_areLoads_529 : decode cL_areLoads 529 = .ok (.iload 20, 2) := by decide +kernel
theorem dL_areLoads_531 : decode cL_areLoads 531 = .ok (.if_icmp .le 8, 3) := by decide +kernel
theorem dL_areLoads_534 : decode cL_areLoads 534 = .ok (.iload 19, 2) := by decide +kernel
theorem dL_areLoads_536 : decode cL_areLoads 536 = .ok (.goto 5, 3) := by decide +kernel
theorem dL_areLoads_539 : decode cL_areLoads 539 = .ok (.iload 20, 2) := by decide +kernel
theorem dL_areLoads_541 : decode cL_areLoads 541 = .ok (.if_icmp .ne 71, 3) := by decide +kernel
theorem dL_areLoads_544 : decode cL_areLoads 544 = .ok (.aload_n 0, 1) := by decide +kernel
theorem dL_areLoads_545 : decode cL_areLoads 545 = .ok (.iconst 0, 1) := by decide +kernel
theorem dL_areLoads_546 : decode cL_areLoads 546 = .ok (.invokevirtual 81, 3) := by decide +kernel
theorem dL_areLoads_549 : decode cL_areLoads 549 = .ok (.aload_n 0, 1) := by decide +kernel
theorem dL_areLoads_550 : decode cL_areLoads 550 = .ok (.iconst 5, 1) := by decide +kernel
theorem dL_areLoads_551 : decode cL_areLoads 551 = .ok (.invokevirtual 81, 3) := by decide +kernel
theorem dL_areLoads_554 : decode cL_areLoads 554 = .ok (.iadd, 1) := by decide +kernel
theorem dL_areLoads_555 : decode cL_areLoads 555 = .ok (.iconst 4, 1) := by decide +kernel
theorem dL_areLoads_556 : decode cL_areLoads 556 = .ok (.irem, 1) := by decide +kernel
theorem dL_areLoads_557 : decode cL_areLoads 557 = .ok (.ifCond .ne 55, 3) := by decide +kernel
theorem dL_areLoads_560 : decode cL_areLoads 560 = .ok (.aload_n 0, 1) := by decide +kernel
theorem dL_areLoads_561 : decode cL_areLoads 561 = .ok (.iconst 0, 1) := by decide +kernel
theorem dL_areLoads_562 : decode cL_areLoads 562 = .ok (.invokevirtual 81, 3) := by decide +kernel
theorem dL_areLoads_565 : decode cL_areLoads 565 = .ok (.aload_n 0, 1) := by decide +kernel
theorem dL_areLoads_566 : decode cL_areLoads 566 = .ok (.iconst 5, 1) := by decide +kernel
theorem dL_areLoads_567 : decode cL_areLoads 567 = .ok (.invokevirtual 81, 3) := by decide +kernel
theorem dL_areLoads_570 : decode cL_areLoads 570 = .ok (.iadd, 1) := by decide +kernel
theorem dL_areLoads_571 : decode cL_areLoads 571 = .ok (.iconst 2, 1) := by decide +kernel
theorem dL_areLoads_572 : decode cL_areLoads 572 = .ok (.iload 18, 2) := by decide +kernel
theorem dL_areLoads_574 : decode cL_areLoads 574 = .ok (.imul, 1) := by decide +kernel
theorem dL_areLoads_575 : decode cL_areLoads 575 = .ok (.if_icmp .lt 37, 3) := by decide +kernel
theorem dL_areLoads_578 : decode cL_areLoads 578 = .ok (.aload_n 0, 1) := by decide +kernel
theorem dL_areLoads_579 : decode cL_areLoads 579 = .ok (.iconst 0, 1) := by decide +kernel
theorem dL_areLoads_580 : decode cL_areLoads 580 = .ok (.invokevirtual 81, 3) := by decide +kernel
theorem dL_areLoads_583 : decode cL_areLoads 583 = .ok (.aload_n 0, 1) := by decide +kernel
theorem dL_areLoads_584 : decode cL_areLoads 584 = .ok (.iconst 5, 1) := by decide +kernel
theorem dL_areLoads_585 : decode cL_areLoads 585 = .ok (.invokevirtual 81, 3) := by decide +kernel
theorem dL_areLoads_588 : decode cL_areLoads 588 = .ok (.iadd, 1) := by decide +kernel
theorem dL_areLoads_589 : decode cL_areLoads 589 = .ok (.iconst 4, 1) := by decide +kernel
theorem dL_areLoads_590 : decode cL_areLoads 590 = .ok (.iload 16, 2) := by decide +kernel
theorem dL_areLoads_592 : decode cL_areLoads 592 = .ok (.iload 17, 2) := by decide +kernel
theorem dL_areLoads_594 : decode cL_areLoads 594 = .ok (.if_icmp .le 8, 3) := by decide +kernel
theorem dL_areLoads_597 : decode cL_areLoads 597 = .ok (.iload 16, 2) := by decide +kernel
theorem dL_areLoads_599 : decode cL_areLoads 599 = .ok (.goto 5, 3) := by decide +kernel
theorem dL_areLoads_602 : decode cL_areLoads 602 = .ok (.iload 17, 2) := by decide +kernel
theorem dL_areLoads_604 : decode cL_areLoads 604 = .ok (.imul, 1) := by decide +kernel
theorem dL_areLoads_605 : decode cL_areLoads 605 = .ok (.if_icmp .lt 7, 3) := by decide +kernel
theorem dL_areLoads_608 : decode cL_areLoads 608 = .ok (.iconst 1, 1) := by decide +kernel
theorem dL_areLoads_609 : decode cL_areLoads 609 = .ok (.goto 4, 3) := by decide +kernel
theorem dL_areLoads_612 : decode cL_areLoads 612 = .ok (.iconst 0, 1) := by decide +kernel
theorem dL_areLoads_613 : decode cL_areLoads 613 = .ok (.istore 12, 2) := by decide +kernel
theorem dL_areLoads_615 : decode cL_areLoads 615 = .ok (.iload 12, 2) := by decide +kernel
theorem dL_areLoads_617 : decode cL_areLoads 617 = .ok (.ifCond .eq 48, 3) := by decide +kernel
theorem dL_areLoads_620 : decode cL_areLoads 620 = .ok (.aload_n 0, 1) := by decide +kernel
theorem dL_areLoads_621 : decode cL_areLoads 621 = .ok (.bipush 44, 2) := by decide +kernel
theorem dL_areLoads_623 : decode cL_areLoads 623 = .ok (.invokevirtual 106, 3) := by decide +kernel
theorem dL_areLoads_626 : decode cL_areLoads 626 = .ok (.ifCond .le 39, 3) := by decide +kernel
theorem dL_areLoads_629 : decode cL_areLoads 629 = .ok (.aload_n 0, 1) := by decide +kernel
theorem dL_areLoads_630 : decode cL_areLoads 630 = .ok (.iconst 1, 1) := by decide +kernel
theorem dL_areLoads_631 : decode cL_areLoads 631 = .ok (.invokevirtual 84, 3) := by decide +kernel
theorem dL_areLoads_634 : decode cL_areLoads 634 = .ok (.iconst 1, 1) := by decide +kernel
theorem dL_areLoads_635 : decode cL_areLoads 635 = .ok (.if_icmp .ne 30, 3) := by decide +kernel
theorem dL_areLoads_638 : decode cL_areLoads 638 = .ok (.aload_n 0, 1) := by decide +kernel
theorem dL_areLoads_639 : decode cL_areLoads 639 = .ok (.iconst 0, 1) := by decide +kernel
theorem dL_areLoads_640 : decode cL_areLoads 640 = .ok (.invokevirtual 84, 3) := by decide +kernel
theorem dL_areLoads_643 : decode cL_areLoads 643 = .ok (.aload_n 0, 1) := by decide +kernel
theorem dL_areLoads_644 : decode cL_areLoads 644 = .ok (.bipush 9, 2) := by decide +kernel
theorem dL_areLoads_646 : decode cL_areLoads 646 = .ok (.invokevirtual 13, 3) := by decide +kernel
theorem dL_areLoads_649 : decode cL_areLoads 649 = .ok (.iconst 1, 1) := by decide +kernel
theorem dL_areLoads_650 : decode cL_areLoads 650 = .ok (.isub, 1) := by decide +kernel
theorem dL_areLoads_651 : decode cL_areLoads 651 = .ok (.if_icmp .ne 14, 3) := by decide +kernel
theorem dL_areLoads_654 : decode cL_areLoads 654 = .ok (.aload_n 0, 1) := by decide +kernel
theorem dL_areLoads_655 : decode cL_areLoads 655 = .ok (.invokevirtual 103, 3) := by decide +kernel
theorem dL_areLoads_658 : decode cL_areLoads 658 = .ok (.ifCond .le 7, 3) := by decide +kernel
theorem dL_areLoads_661 : decode cL_areLoads 661 = .ok (.iconst 1, 1) := by decide +kernel
theorem dL_areLoads_662 : decode cL_areLoads 662 = .ok (.goto 4, 3) := by decide +kernel
theorem dL_areLoads_665 : decode cL_areLoads 665 = .ok (.iconst 0, 1) := by decide +kernel
theorem dL_areLoads_666 : decode cL_areLoads 666 = .ok (.ireturn, 1) := by decide +kernel
theorem dL_number_0 : decode cL_number 0 = .ok (.iload_n 1, 1) := by decide +kernel
theorem dL_number_1 : decode cL_number 1 = .ok (.bipush 10, 2) := by decide +kernel
theorem dL_number_3 : decode cL_number 3 = .ok (.if_icmp .lt 17, 3) := by decide +kernel
theorem dL_number_6 : decode cL_number 6 = .ok (.aload_n 0, 1) := by decide +kernel
theorem dL_number_7 : decode cL_number 7 = .ok (.bipush 48, 2) := by decide +kernel
theorem dL_number_9 : decode cL_number 9 = .ok (.iload_n 1, 1) := by decide +kernel
theorem dL_number_10 : decode cL_number 10 = .ok (.bipush 10, 2) := by decide +kernel
theorem dL_number_12 : decode cL_number 12 = .ok (.idiv, 1) := by decide +kernel
theorem dL_number_13 : decode cL_number 13 = .ok (.iadd, 1) := by decide +kernel
theorem dL_number_14 : decode cL_number 14 = .ok (.invokevirtual 106, 3) := by decide +kernel
theorem dL_number_17 : decode cL_number 17 = .ok (.ifCond .le 21, 3) := by decide +kernel
theorem dL_number_20 : decode cL_number 20 = .ok (.aload_n 0, 1) := by decide +kernel
theorem dL_number_21 : decode cL_number 21 = .ok (.bipush 48, 2) := by decide +kernel
theorem dL_number_23 : decode cL_number 23 = .ok (.iload_n 1, 1) := by decide +kernel
theorem dL_number_24 : decode cL_number 24 = .ok (.bipush 10, 2) := by decide +kernel
theorem dL_number_26 : decode cL_number 26 = .ok (.irem, 1) := by decide +kernel
theorem dL_number_27 : decode cL_number 27 = .ok (.iadd, 1) := by decide +kernel
theorem dL_number_28 : decode cL_number 28 = .ok (.invokevirtual 106, 3) := by decide +kernel
theorem dL_number_31 : decode cL_number 31 = .ok (.ifCond .le 7, 3) := by decide +kernel
theorem dL_number_34 : decode cL_number 34 = .ok (.iconst 1, 1) := by decide +kernel
theorem dL_number_35 : decode cL_number 35 = .ok (.goto 4, 3) := by decide +kernel
theorem dL_number_38 : decode cL_number 38 = .ok (.iconst 0, 1) := by decide +kernel
theorem dL_number_39 : decode cL_number 39 = .ok (.ireturn, 1) := by decide +kernel
theorem dL_acts_0 : decode cL_acts 0 = .ok (.aload_n 0, 1) := by decide +kernel
theorem dL_acts_1 : decode cL_acts 1 = .ok (.iconst 1, 1) := by decide +kernel
theorem dL_acts_2 : decode cL_acts 2 = .ok (.invokevirtual 13, 3) := by decide +kernel
theorem dL_acts_5 : decode cL_acts 5 = .ok (.istore 4, 2) := by decide +kernel
theorem dL_acts_7 : decode cL_acts 7 = .ok (.iload 4, 2) := by decide +kernel
theorem dL_acts_9 : decode cL_acts 9 = .ok (.ifCond .ne 7, 3) := by decide +kernel
theorem dL_acts_12 : decode cL_acts 12 = .ok (.iconst 0, 1) := by decide +kernel
theorem dL_acts_13 : decode cL_acts 13 = .ok (.goto 9, 3) := by decide +kernel
theorem dL_acts_16 : decode cL_acts 16 = .ok (.iload_n 2, 1) := by decide +kernel
theorem dL_acts_17 : decode cL_acts 17 = .ok (.iload 4, 2) := by decide +kernel
theorem dL_acts_19 : decode cL_acts 19 = .ok (.invokestatic 96, 3) := by decide +kernel
theorem dL_acts_22 : decode cL_acts 22 = .ok (.istore 5, 2) := by decide +kernel
theorem dL_acts_24 : decode cL_acts 24 = .ok (.iload_n 1, 1) := by decide +kernel
theorem dL_acts_25 : decode cL_acts 25 = .ok (.tableswitch 1112 0 11 #[63, 147, 251, 251, 251, 392, 392, 553, 641, 641, 778, 941], 63) := by decide +kernel
theorem dL_acts_88 : decode cL_acts 88 = .ok (.iload_n 2, 1) := by decide +kernel
theorem dL_acts_89 : decode cL_acts 89 = .ok (.iconst 4, 1) := by decide +kernel
theorem dL_acts_90 : decode cL_acts 90 = .ok (.invokestatic 96, 3) := by decide +kernel
theorem dL_acts_93 : decode cL_acts 93 = .ok (.ifCond .ne 7, 3) := by decide +kernel
theorem dL_acts_96 : decode cL_acts 96 = .ok (.iconst 1, 1) := by decide +kernel
theorem dL_acts_97 : decode cL_acts 97 = .ok (.goto 4, 3) := by decide +kernel
theorem dL_acts_100 : decode cL_acts 100 = .ok (.iconst 0, 1) := by decide +kernel
theorem dL_acts_101 : decode cL_acts 101 = .ok (.istore 6, 2) := by decide +kernel
theorem dL_acts_103 : decode cL_acts 103 = .ok (.iconst 1, 1) := by decide +kernel
theorem dL_acts_104 : decode cL_acts 104 = .ok (.iload_n 3, 1) := by decide +kernel
theorem dL_acts_105 : decode cL_acts 105 = .ok (.iload 6, 2) := by decide +kernel
theorem dL_acts_107 : decode cL_acts 107 = .ok (.iconst 1, 1) := by decide +kernel
theorem dL_acts_108 : decode cL_acts 108 = .ok (.if_icmp .ne 9, 3) := by decide +kernel
theorem dL_acts_111 : decode cL_acts 111 = .ok (.sipush 900, 3) := by decide +kernel
theorem dL_acts_114 : decode cL_acts 114 = .ok (.goto 6, 3) := by decide +kernel
theorem dL_acts_117 : decode cL_acts 117 = .ok (.sipush 4000, 3) := by decide +kernel
theorem dL_acts_120 : decode cL_acts 120 = .ok (.invokestatic 96, 3) := by decide +kernel
theorem dL_acts_123 : decode cL_acts 123 = .ok (.iadd, 1) := by decide +kernel
theorem dL_acts_124 : decode cL_acts 124 = .ok (.istore 7, 2) := by decide +kernel
theorem dL_acts_126 : decode cL_acts 126 = .ok (.aload_n 0, 1) := by decide +kernel
theorem dL_acts_127 : decode cL_acts 127 = .ok (.iload 6, 2) := by decide +kernel
theorem dL_acts_129 : decode cL_acts 129 = .ok (.iconst 1, 1) := by decide +kernel
theorem dL_acts_130 : decode cL_acts 130 = .ok (.invokevirtual 19, 3) := by decide +kernel
theorem dL_acts_133 : decode cL_acts 133 = .ok (.istore 8, 2) := by decide +kernel
theorem dL_acts_135 : decode cL_acts 135 = .ok (.aload_n 0, 1) := by decide +kernel
theorem dL_acts_136 : decode cL_acts 136 = .ok (.iload 6, 2) := by decide +kernel
theorem dL_acts_138 : decode cL_acts 138 = .ok (.iload 7, 2) := by decide +kernel
theorem dL_acts_140 : decode cL_acts 140 = .ok (.invokevirtual 38, 3) := by decide +kernel
theorem dL_acts_143 : decode cL_acts 143 = .ok (.iload 8, 2) := by decide +kernel
theorem dL_acts_145 : decode cL_acts 145 = .ok (.iload 7, 2) := by decide +kernel
theorem dL_acts_147 : decode cL_acts 147 = .ok (.iadd, 1) := by decide +kernel
theorem dL_acts_148 : decode cL_acts 148 = .ok (.if_icmp .ne 22, 3) := by decide +kernel
theorem dL_acts_151 : decode cL_acts 151 = .ok (.aload_n 0, 1) := by decide +kernel
theorem dL_acts_152 : decode cL_acts 152 = .ok (.iload 6, 2) := by decide +kernel
theorem dL_acts_154 : decode cL_acts 154 = .ok (.iconst 1, 1) := by decide +kernel
theorem dL_acts_155 : decode cL_acts 155 = .ok (.invokevirtual 19, 3) := by decide +kernel
theorem dL_acts_158 : decode cL_acts 158 = .ok (.iload 8, 2) := by decide +kernel
theorem dL_acts_160 : decode cL_acts 160 = .ok (.iload 7, 2) := by decide +kernel
theorem dL_acts_162 : decode cL_acts 162 = .ok (.iadd, 1) := by decide +kernel
theorem dL_acts_163 : decode cL_acts 163 = .ok (.if_icmp .ne 7, 3) := by decide +kernel
theorem dL_acts_166 : decode cL_acts 166 = .ok (.iconst 1, 1) := by decide +kernel
theorem dL_acts_167 : decode cL_acts 167 = .ok (.goto 4, 3) := by decide +kernel
theorem dL_acts_170 : decode cL_acts 170 = .ok (.iconst 0, 1) := by decide +kernel
theorem dL_acts_171 : decode cL_acts 171 = .ok (.ireturn, 1) := by decide +kernel
theorem dL_acts_172 : decode cL_acts 172 = .ok (.iload_n 2, 1) := by decide +kernel
theorem dL_acts_173 : decode cL_acts 173 = .ok (.iconst 4, 1) := by decide +kernel
theorem dL_acts_174 : decode cL_acts 174 = .ok (.invokestatic 96, 3) := by decide +kernel
theorem dL_acts_177 : decode cL_acts 177 = .ok (.ifCond .ne 7, 3) := by decide +kernel
theorem dL_acts_180 : decode cL_acts 180 = .ok (.iconst 1, 1) := by decide +kernel
theorem dL_acts_181 : decode cL_acts 181 = .ok (.goto 4, 3) := by decide +kernel
theorem dL_acts_184 : decode cL_acts 184 = .ok (.iconst 0, 1) := by decide +kernel
theorem dL_acts_185 : decode cL_acts 185 = .ok (.istore 6, 2) := by decide +kernel
theorem dL_acts_187 : decode cL_acts 187 = .ok (.iconst 1, 1) := by decide +kernel
theorem dL_acts_188 : decode cL_acts 188 = .ok (.iload_n 3, 1) := by decide +kernel
theorem dL_acts_189 : decode cL_acts 189 = .ok (.iload 6, 2) := by decide +kernel
theorem dL_acts_191 : decode cL_acts 191 = .ok (.iconst 1, 1) := by decide +kernel
theorem dL_acts_192 : decode cL_acts 192 = .ok (.if_icmp .ne 9, 3) := by decide +kernel
theorem dL_acts_195 : decode cL_acts 195 = .ok (.sipush 900, 3) := by decide +kernel
theorem dL_acts_198 : decode cL_acts 198 = .ok (.goto 6, 3) := by decide +kernel
theorem dL_acts_201 : decode cL_acts 201 = .ok (.sipush 4000, 3) := by decide +kernel
theorem dL_acts_204 : decode cL_acts 204 = .ok (.invokestatic 96, 3) := by decide +kernel
theorem dL_acts_207 : decode cL_acts 207 = .ok (.iadd, 1) := by decide +kernel
theorem dL_acts_208 : decode cL_acts 208 = .ok (.istore 7, 2) := by decide +kernel
theorem dL_acts_210 : decode cL_acts 210 = .ok (.aload_n 0, 1) := by decide +kernel
theorem dL_acts_211 : decode cL_acts 211 = .ok (.iconst 2, 1) := by decide +kernel
theorem dL_acts_212 : decode cL_acts 212 = .ok (.invokevirtual 47, 3) := by decide +kernel
theorem dL_acts_215 : decode cL_acts 215 = .ok (.istore 8, 2) := by decide +kernel
theorem dL_acts_217 : decode cL_acts 217 = .ok (.aload_n 0, 1) := by decide +kernel
theorem dL_acts_218 : decode cL_acts 218 = .ok (.iload 6, 2) := by decide +kernel
theorem dL_acts_220 : decode cL_acts 220 = .ok (.iconst 1, 1) := by decide +kernel
theorem dL_acts_221 : decode cL_acts 221 = .ok (.invokevirtual 19, 3) := by decide +kernel
theorem dL_acts_224 : decode cL_acts 224 = .ok (.istore 9, 2) := by decide +kernel
theorem dL_acts_226 : decode cL_acts 226 = .ok (.aload_n 0, 1) := by decide +kernel
theorem dL_acts_227 : decode cL_acts 227 = .ok (.iload 6, 2) := by decide +kernel
theorem dL_acts_229 : decode cL_acts 229 = .ok (.iload 7, 2) := by decide +kernel
theorem dL_acts_231 : decode cL_acts 231 = .ok (.invokevirtual 41, 3) := by decide +kernel
theorem dL_acts_234 : decode cL_acts 234 = .ok (.iload 9, 2) := by decide +kernel
theorem dL_acts_236 : decode cL_acts 236 = .ok (.iload 7, 2) := by decide +kernel
theorem dL_acts_238 : decode cL_acts 238 = .ok (.if_icmp .ge 8, 3) := by decide +kernel
theorem dL_acts_241 : decode cL_acts 241 = .ok (.bipush (-2), 2) := by decide +kernel
theorem dL_acts_243 : decode cL_acts 243 = .ok (.goto 24, 3) := by decide +kernel
theorem dL_acts_246 : decode cL_acts 246 = .ok (.iload 8, 2) := by decide +kernel
theorem dL_acts_248 : decode cL_acts 248 = .ok (.iload 7, 2) := by decide +kernel
theorem dL_acts_250 : decode cL_acts 250 = .ok (.iadd, 1) := by decide +kernel
theorem dL_acts_251 : decode cL_acts 251 = .ok (.sipush 20000, 3) := by decide +kernel
theorem dL_acts_254 : decode cL_acts 254 = .ok (.if_icmp .le 8, 3) := by decide +kernel
theorem dL_acts_257 : decode cL_acts 257 = .ok (.bipush (-3), 2) := by decide +kernel
theorem dL_acts_259 : decode cL_acts 259 = .ok (.goto 8, 3) := by decide +kernel
theorem dL_acts_262 : decode cL_acts 262 = .ok (.iload 8, 2) := by decide +kernel
theorem dL_acts_264 : decode cL_acts 264 = .ok (.iload 7, 2) := by decide +kernel
theorem dL_acts_266 : decode cL_acts 266 = .ok (.iadd, 1) := by decide +kernel
theorem dL_acts_267 : decode cL_acts 267 = .ok (.if_icmp .ne 7, 3) := by decide +kernel
theorem dL_acts_270 : decode cL_acts 270 = .ok (.iconst 1, 1) := by decide +kernel
theorem dL_acts_271 : decode cL_acts 271 = .ok (.goto 4, 3) := by decide +kernel
theorem dL_acts_274 : decode cL_acts 274 = .ok (.iconst 0, 1) := by decide +kernel
theorem dL_acts_275 : decode cL_acts 275 = .ok (.ireturn, 1) := by decide +kernel
theorem dL_acts_276 : decode cL_acts 276 = .ok (.iconst 1, 1) := by decide +kernel
theorem dL_acts_277 : decode cL_acts 277 = .ok (.iload_n 3, 1) := by decide +kernel
theorem dL_acts_278 : decode cL_acts 278 = .ok (.sipush 700, 3) := by decide +kernel
theorem dL_acts_281 : decode cL_acts 281 = .ok (.invokestatic 96, 3) := by decide +kernel
theorem dL_acts_284 : decode cL_acts 284 = .ok (.iadd, 1) := by decide +kernel
theorem dL_acts_285 : decode cL_acts 285 = .ok (.istore 6, 2) := by decide +kernel
theorem dL_acts_287 : decode cL_acts 287 = .ok (.iload 6, 2) := by decide +kernel
theorem dL_acts_289 : decode cL_acts 289 = .ok (.aload_n 0, 1) := by decide +kernel
theorem dL_acts_290 : decode cL_acts 290 = .ok (.bipush 24, 2) := by decide +kernel
theorem dL_acts_292 : decode cL_acts 292 = .ok (.invokevirtual 13, 3) := by decide +kernel
theorem dL_acts_295 : decode cL_acts 295 = .ok (.imul, 1) := by decide +kernel
theorem dL_acts_296 : decode cL_acts 296 = .ok (.sipush 999, 3) := by decide +kernel
theorem dL_acts_299 : decode cL_acts 299 = .ok (.iadd, 1) := by decide +kernel
theorem dL_acts_300 : decode cL_acts 300 = .ok (.sipush 1000, 3) := by decide +kernel
theorem dL_acts_303 : decode cL_acts 303 = .ok (.idiv, 1) := by decide +kernel
theorem dL_acts_304 : decode cL_acts 304 = .ok (.istore 7, 2) := by decide +kernel
theorem dL_acts_306 : decode cL_acts 306 = .ok (.aload_n 0, 1) := by decide +kernel
theorem dL_acts_307 : decode cL_acts 307 = .ok (.iload_n 2, 1) := by decide +kernel
theorem dL_acts_308 : decode cL_acts 308 = .ok (.iconst 4, 1) := by decide +kernel
theorem dL_acts_309 : decode cL_acts 309 = .ok (.invokestatic 96, 3) := by decide +kernel
theorem dL_acts_312 : decode cL_acts 312 = .ok (.iload 6, 2) := by decide +kernel
theorem dL_acts_314 : decode cL_acts 314 = .ok (.invokevirtual 53, 3) := by decide +kernel
theorem dL_acts_317 : decode cL_acts 317 = .ok (.istore 8, 2) := by decide +kernel
theorem dL_acts_319 : decode cL_acts 319 = .ok (.iload 8, 2) := by decide +kernel
theorem dL_acts_321 : decode cL_acts 321 = .ok (.ifCond .ge 56, 3) := by decide +kernel
theorem dL_acts_324 : decode cL_acts 324 = .ok (.iload 8, 2) := by decide +kernel
theorem dL_acts_326 : decode cL_acts 326 = .ok (.bipush (-3), 2) := by decide +kernel
theorem dL_acts_328 : decode cL_acts 328 = .ok (.if_icmp .ne 21, 3) := by decide +kernel
theorem dL_acts_331 : decode cL_acts 331 = .ok (.aload_n 0, 1) := by decide +kernel
theorem dL_acts_332 : decode cL_acts 332 = .ok (.iconst 2, 1) := by decide +kernel
theorem dL_acts_333 : decode cL_acts 333 = .ok (.invokevirtual 13, 3) := by decide +kernel
theorem dL_acts_336 : decode cL_acts 336 = .ok (.bipush 12, 2) := by decide +kernel
theorem dL_acts_338 : decode cL_acts 338 = .ok (.if_icmp .ne 7, 3) := by decide +kernel
theorem dL_acts_341 : decode cL_acts 341 = .ok (.iconst 1, 1) := by decide +kernel
theorem dL_acts_342 : decode cL_acts 342 = .ok (.goto 74, 3) := by decide +kernel
theorem dL_acts_345 : decode cL_acts 345 = .ok (.iconst 0, 1) := by decide +kernel
theorem dL_acts_346 : decode cL_acts 346 = .ok (.goto 70, 3) := by decide +kernel
theorem dL_acts_349 : decode cL_acts 349 = .ok (.iload 8, 2) := by decide +kernel
theorem dL_acts_351 : decode cL_acts 351 = .ok (.bipush (-2), 2) := by decide +kernel
theorem dL_acts_353 : decode cL_acts 353 = .ok (.if_icmp .ne 20, 3) := by decide +kernel
theorem dL_acts_356 : decode cL_acts 356 = .ok (.aload_n 0, 1) := by decide +kernel
theorem dL_acts_357 : decode cL_acts 357 = .ok (.iconst 4, 1) := by decide +kernel
theorem dL_acts_358 : decode cL_acts 358 = .ok (.invokevirtual 47, 3) := by decide +kernel
theorem dL_acts_361 : decode cL_acts 361 = .ok (.iload 6, 2) := by decide +kernel
theorem dL_acts_363 : decode cL_acts 363 = .ok (.iload 7, 2) := by decide +kernel
theorem dL_acts_365 : decode cL_acts 365 = .ok (.iadd, 1) := by decide +kernel
theorem dL_acts_366 : decode cL_acts 366 = .ok (.if_icmp .ge 7, 3) := by decide +kernel
theorem dL_acts_369 : decode cL_acts 369 = .ok (.iconst 1, 1) := by decide +kernel
theorem dL_acts_370 : decode cL_acts 370 = .ok (.goto 46, 3) := by decide +kernel
theorem dL_acts_373 : decode cL_acts 373 = .ok (.iconst 0, 1) := by decide +kernel
theorem dL_acts_374 : decode cL_acts 374 = .ok (.goto 42, 3) := by decide +kernel
theorem dL_acts_377 : decode cL_acts 377 = .ok (.iload 8, 2) := by decide +kernel
theorem dL_acts_379 : decode cL_acts 379 = .ok (.iload 4, 2) := by decide +kernel
theorem dL_acts_381 : decode cL_acts 381 = .ok (.if_icmp .ne 34, 3) := by decide +kernel
theorem dL_acts_384 : decode cL_acts 384 = .ok (.aload_n 0, 1) := by decide +kernel
theorem dL_acts_385 : decode cL_acts 385 = .ok (.iload 4, 2) := by decide +kernel
theorem dL_acts_387 : decode cL_acts 387 = .ok (.iconst 2, 1) := by decide +kernel
theorem dL_acts_388 : decode cL_acts 388 = .ok (.invokevirtual 26, 3) := by decide +kernel
theorem dL_acts_391 : decode cL_acts 391 = .ok (.iload 6, 2) := by decide +kernel
theorem dL_acts_393 : decode cL_acts 393 = .ok (.if_icmp .ne 22, 3) := by decide +kernel
theorem dL_acts_396 : decode cL_acts 396 = .ok (.aload_n 0, 1) := by decide +kernel
theorem dL_acts_397 : decode cL_acts 397 = .ok (.iload 4, 2) := by decide +kernel
theorem dL_acts_399 : decode cL_acts 399 = .ok (.iconst 4, 1) := by decide +kernel
theorem dL_acts_400 : decode cL_acts 400 = .ok (.invokevirtual 26, 3) := by decide +kernel
theorem dL_acts_403 : decode cL_acts 403 = .ok (.iload_n 2, 1) := by decide +kernel
theorem dL_acts_404 : decode cL_acts 404 = .ok (.iconst 4, 1) := by decide +kernel
theorem dL_acts_405 : decode cL_acts 405 = .ok (.invokestatic 96, 3) := by decide +kernel
theorem dL_acts_408 : decode cL_acts 408 = .ok (.if_icmp .ne 7, 3) := by decide +kernel
theorem dL_acts_411 : decode cL_acts 411 = .ok (.iconst 1, 1) := by decide +kernel
theorem dL_acts_412 : decode cL_acts 412 = .ok (.goto 4, 3) := by decide +kernel
theorem dL_acts_415 : decode cL_acts 415 = .ok (.iconst 0, 1) := by decide +kernel
theorem dL_acts_416 : decode cL_acts 416 = .ok (.ireturn, 1) := by decide +kernel
theorem dL_acts_417 : decode cL_acts 417 = .ok (.iconst 1, 1) := by decide +kernel
theorem dL_acts_418 : decode cL_acts 418 = .ok (.iload_n 3, 1) := by decide +kernel
theorem dL_acts_419 : decode cL_acts 419 = .ok (.bipush 30, 2) := by decide +kernel
theorem dL_acts_421 : decode cL_acts 421 = .ok (.invokestatic 96, 3) := by decide +kernel
theorem dL_acts_424 : decode cL_acts 424 = .ok (.iadd, 1) := by decide +kernel
theorem dL_acts_425 : decode cL_acts 425 = .ok (.istore 6, 2) := by decide +kernel
theorem dL_acts_427 : decode cL_acts 427 = .ok (.iload 4, 2) := by decide +kernel
theorem dL_acts_429 : decode cL_acts 429 = .ok (.ifCond .ne 7, 3) := by decide +kernel
theorem dL_acts_432 : decode cL_acts 432 = .ok (.iconst 0, 1) := by decide +kernel
theorem dL_acts_433 : decode cL_acts 433 = .ok (.goto 11, 3) := by decide +kernel
theorem dL_acts_436 : decode cL_acts 436 = .ok (.aload_n 0, 1) := by decide +kernel
theorem dL_acts_437 : decode cL_acts 437 = .ok (.iload 5, 2) := by decide +kernel
theorem dL_acts_439 : decode cL_acts 439 = .ok (.bipush 8, 2) := by decide +kernel
theorem dL_acts_441 : decode cL_acts 441 = .ok (.invokevirtual 26, 3) := by decide +kernel
theorem dL_acts_444 : decode cL_acts 444 = .ok (.istore 7, 2) := by decide +kernel
theorem dL_acts_446 : decode cL_acts 446 = .ok (.iload 4, 2) := by decide +kernel
theorem dL_acts_448 : decode cL_acts 448 = .ok (.ifCond .ne 7, 3) := by decide +kernel
theorem dL_acts_451 : decode cL_acts 451 = .ok (.iconst 0, 1) := by decide +kernel
theorem dL_acts_452 : decode cL_acts 452 = .ok (.goto 10, 3) := by decide +kernel
theorem dL_acts_455 : decode cL_acts 455 = .ok (.aload_n 0, 1) := by decide +kernel
theorem dL_acts_456 : decode cL_acts 456 = .ok (.iload 5, 2) := by decide +kernel
theorem dL_acts_458 : decode cL_acts 458 = .ok (.iconst 5, 1) := by decide +kernel
theorem dL_acts_459 : decode cL_acts 459 = .ok (.invokevirtual 26, 3) := by decide +kernel
theorem dL_acts_462 : decode cL_acts 462 = .ok (.istore 8, 2) := by decide +kernel
theorem dL_acts_464 : decode cL_acts 464 = .ok (.iload 4, 2) := by decide +kernel
theorem dL_acts_466 : decode cL_acts 466 = .ok (.ifCond .ne 7, 3) := by decide +kernel
theorem dL_acts_469 : decode cL_acts 469 = .ok (.iconst 0, 1) := by decide +kernel
theorem dL_acts_470 : decode cL_acts 470 = .ok (.goto 10, 3) := by decide +kernel
theorem dL_acts_473 : decode cL_acts 473 = .ok (.aload_n 0, 1) := by decide +kernel
theorem dL_acts_474 : decode cL_acts 474 = .ok (.iload 5, 2) := by decide +kernel
theorem dL_acts_476 : decode cL_acts 476 = .ok (.iconst 2, 1) := by decide +kernel
theorem dL_acts_477 : decode cL_acts 477 = .ok (.invokevirtual 26, 3) := by decide +kernel
theorem dL_acts_480 : decode cL_acts 480 = .ok (.istore 9, 2) := by decide +kernel
theorem dL_acts_482 : decode cL_acts 482 = .ok (.aload_n 0, 1) := by decide +kernel
theorem dL_acts_483 : decode cL_acts 483 = .ok (.iload 5, 2) := by decide +kernel
theorem dL_acts_485 : decode cL_acts 485 = .ok (.iload 6, 2) := by decide +kernel
theorem dL_acts_487 : decode cL_acts 487 = .ok (.invokevirtual 56, 3) := by decide +kernel
theorem dL_acts_490 : decode cL_acts 490 = .ok (.istore 10, 2) := by decide +kernel
theorem dL_acts_492 : decode cL_acts 492 = .ok (.iload 4, 2) := by decide +kernel
theorem dL_acts_494 : decode cL_acts 494 = .ok (.ifCond .ne 17, 3) := by decide +kernel
theorem dL_acts_497 : decode cL_acts 497 = .ok (.iload 10, 2) := by decide +kernel
theorem dL_acts_499 : decode cL_acts 499 = .ok (.iconst (-1), 1) := by decide +kernel
theorem dL_acts_500 : decode cL_acts 500 = .ok (.if_icmp .ne 7, 3) := by decide +kernel
theorem dL_acts_503 : decode cL_acts 503 = .ok (.iconst 1, 1) := by decide +kernel
theorem dL_acts_504 : decode cL_acts 504 = .ok (.goto 73, 3) := by decide +kernel
theorem dL_acts_507 : decode cL_acts 507 = .ok (.iconst 0, 1) := by decide +kernel
theorem dL_acts_508 : decode cL_acts 508 = .ok (.goto 69, 3) := by decide +kernel
theorem dL_acts_511 : decode cL_acts 511 = .ok (.iload 7, 2) := by decide +kernel
theorem dL_acts_513 : decode cL_acts 513 = .ok (.ifCond .gt 10, 3) := by decide +kernel
theorem dL_acts_516 : decode cL_acts 516 = .ok (.iload 9, 2) := by decide +kernel
theorem dL_acts_518 : decode cL_acts 518 = .ok (.iload 6, 2) := by decide +kernel
theorem dL_acts_520 : decode cL_acts 520 = .ok (.if_icmp .gt 18, 3) := by decide +kernel
theorem dL_acts_523 : decode cL_acts 523 = .ok (.iload 10, 2) := by decide +kernel
theorem dL_acts_525 : decode cL_acts 525 = .ok (.bipush (-2), 2) := by decide +kernel
theorem dL_acts_527 : decode cL_acts 527 = .ok (.if_icmp .ne 7, 3) := by decide +kernel
theorem dL_acts_530 : decode cL_acts 530 = .ok (.iconst 1, 1) := by decide +kernel
theorem dL_acts_531 : decode cL_acts 531 = .ok (.goto 46, 3) := by decide +kernel
theorem dL_acts_534 : decode cL_acts 534 = .ok (.iconst 0, 1) := by decide +kernel
theorem dL_acts_535 : decode cL_acts 535 = .ok (.goto 42, 3) := by decide +kernel
theorem dL_acts_538 : decode cL_acts 538 = .ok (.iload 10, 2) := by decide +kernel
theorem dL_acts_540 : decode cL_acts 540 = .ok (.aload_n 0, 1) := by decide +kernel
theorem dL_acts_541 : decode cL_acts 541 = .ok (.iload 5, 2) := by decide +kernel
theorem dL_acts_543 : decode cL_acts 543 = .ok (.iconst 5, 1) := by decide +kernel
theorem dL_acts_544 : decode cL_acts 544 = .ok (.invokevirtual 26, 3) := by decide +kernel
theorem dL_acts_547 : decode cL_acts 547 = .ok (.if_icmp .ne 29, 3) := by decide +kernel
theorem dL_acts_550 : decode cL_acts 550 = .ok (.iload 10, 2) := by decide +kernel
theorem dL_acts_552 : decode cL_acts 552 = .ok (.iload 8, 2) := by decide +kernel
theorem dL_acts_554 : decode cL_acts 554 = .ok (.if_icmp .gt 22, 3) := by decide +kernel
theorem dL_acts_557 : decode cL_acts 557 = .ok (.aload_n 0, 1) := by decide +kernel
theorem dL_acts_558 : decode cL_acts 558 = .ok (.iload 5, 2) := by decide +kernel
theorem dL_acts_560 : decode cL_acts 560 = .ok (.iconst 2, 1) := by decide +kernel
theorem dL_acts_561 : decode cL_acts 561 = .ok (.invokevirtual 26, 3) := by decide +kernel
theorem dL_acts_564 : decode cL_acts 564 = .ok (.iload 9, 2) := by decide +kernel
theorem dL_acts_566 : decode cL_acts 566 = .ok (.iload 6, 2) := by decide +kernel
theorem dL_acts_568 : decode cL_acts 568 = .ok (.isub, 1) := by decide +kernel
theorem dL_acts_569 : decode cL_acts 569 = .ok (.if_icmp .ne 7, 3) := by decide +kernel
theorem dL_acts_572 : decode cL_acts 572 = .ok (.iconst 1, 1) := by decide +kernel
theorem dL_acts_573 : decode cL_acts 573 = .ok (.goto 4, 3) := by decide +kernel
theorem dL_acts_576 : decode cL_acts 576 = .ok (.iconst 0, 1) := by decide +kernel
theorem dL_acts_577 : decode cL_acts 577 = .ok (.ireturn, 1) := by decide +kernel
theorem dL_acts_578 : decode cL_acts 578 = .ok (.iload 4, 2) := by decide +kernel
theorem dL_acts_580 : decode cL_acts 580 = .ok (.ifCond .eq 15, 3) := by decide +kernel
theorem dL_acts_583 : decode cL_acts 583 = .ok (.aload_n 0, 1) := by decide +kernel
theorem dL_acts_584 : decode cL_acts 584 = .ok (.iload 5, 2) := by decide +kernel
theorem dL_acts_586 : decode cL_acts 586 = .ok (.bipush 8, 2) := by decide +kernel
theorem dL_acts_588 : decode cL_acts 588 = .ok (.invokevirtual 26, 3) := by decide +kernel
theorem dL_acts_591 : decode cL_acts 591 = .ok (.iconst 1, 1) := by decide +kernel
theorem dL_acts_592 : decode cL_acts 592 = .ok (.if_icmp .le 8, 3) := by decide +kernel
theorem dL_acts_595 : decode cL_acts 595 = .ok (.bipush (-2), 2) := by decide +kernel
theorem dL_acts_597 : decode cL_acts 597 = .ok (.goto 10, 3) := by decide +kernel
theorem dL_acts_600 : decode cL_acts 600 = .ok (.aload_n 0, 1) := by decide +kernel
theorem dL_acts_601 : decode cL_acts 601 = .ok (.iload 5, 2) := by decide +kernel
theorem dL_acts_603 : decode cL_acts 603 = .ok (.iconst 2, 1) := by decide +kernel
theorem dL_acts_604 : decode cL_acts 604 = .ok (.invokevirtual 26, 3) := by decide +kernel
theorem dL_acts_607 : decode cL_acts 607 = .ok (.istore 6, 2) := by decide +kernel
theorem dL_acts_609 : decode cL_acts 609 = .ok (.aload_n 0, 1) := by decide +kernel
theorem dL_acts_610 : decode cL_acts 610 = .ok (.iload 5, 2) := by decide +kernel
theorem dL_acts_612 : decode cL_acts 612 = .ok (.invokevirtual 59, 3) := by decide +kernel
theorem dL_acts_615 : decode cL_acts 615 = .ok (.istore 7, 2) := by decide +kernel
theorem dL_acts_617 : decode cL_acts 617 = .ok (.iload 4, 2) := by decide +kernel
theorem dL_acts_619 : decode cL_acts 619 = .ok (.ifCond .ne 17, 3) := by decide +kernel
theorem dL_acts_622 : decode cL_acts 622 = .ok (.iload 7, 2) := by decide +kernel
theorem dL_acts_624 : decode cL_acts 624 = .ok (.iconst (-1), 1) := by decide +kernel
theorem dL_acts_625 : decode cL_acts 625 = .ok (.if_icmp .ne 7, 3) := by decide +kernel
theorem dL_acts_628 : decode cL_acts 628 = .ok (.iconst 1, 1) := by decide +kernel
theorem dL_acts_629 : decode cL_acts 629 = .ok (.goto 36, 3) := by decide +kernel
theorem dL_acts_632 : decode cL_acts 632 = .ok (.iconst 0, 1) := by decide +kernel
theorem dL_acts_633 : decode cL_acts 633 = .ok (.goto 32, 3) := by decide +kernel
theorem dL_acts_636 : decode cL_acts 636 = .ok (.iload 7, 2) := by decide +kernel
theorem dL_acts_638 : decode cL_acts 638 = .ok (.iload 6, 2) := by decide +kernel
theorem dL_acts_640 : decode cL_acts 640 = .ok (.if_icmp .ne 24, 3) := by decide +kernel
theorem dL_acts_643 : decode cL_acts 643 = .ok (.iload 7, 2) := by decide +kernel
theorem dL_acts_645 : decode cL_acts 645 = .ok (.ifCond .lt 15, 3) := by decide +kernel
theorem dL_acts_648 : decode cL_acts 648 = .ok (.aload_n 0, 1) := by decide +kernel
theorem dL_acts_649 : decode cL_acts 649 = .ok (.iload 5, 2) := by decide +kernel
theorem dL_acts_651 : decode cL_acts 651 = .ok (.bipush 8, 2) := by decide +kernel
theorem dL_acts_653 : decode cL_acts 653 = .ok (.invokevirtual 26, 3) := by decide +kernel
theorem dL_acts_656 : decode cL_acts 656 = .ok (.iconst 3, 1) := by decide +kernel
theorem dL_acts_657 : decode cL_acts 657 = .ok (.if_icmp .ne 7, 3) := by decide +kernel
theorem dL_acts_660 : decode cL_acts 660 = .ok (.iconst 1, 1) := by decide +kernel
theorem dL_acts_661 : decode cL_acts 661 = .ok (.goto 4, 3) := by decide +kernel
theorem dL_acts_664 : decode cL_acts 664 = .ok (.iconst 0, 1) := by decide +kernel
theorem dL_acts_665 : decode cL_acts 665 = .ok (.ireturn, 1) := by decide +kernel
theorem dL_acts_666 : decode cL_acts 666 = .ok (.aload_n 0, 1) := by decide +kernel
theorem dL_acts_667 : decode cL_acts 667 = .ok (.iconst 5, 1) := by decide +kernel
theorem dL_acts_668 : decode cL_acts 668 = .ok (.invokevirtual 13, 3) := by decide +kernel
theorem dL_acts_671 : decode cL_acts 671 = .ok (.istore 6, 2) := by decide +kernel
theorem dL_acts_673 : decode cL_acts 673 = .ok (.iload 4, 2) := by decide +kernel
theorem dL_acts_675 : decode cL_acts 675 = .ok (.ifCond .ne 7, 3) := by decide +kernel
theorem dL_acts_678 : decode cL_acts 678 = .ok (.iconst 0, 1) := by decide +kernel
theorem dL_acts_679 : decode cL_acts 679 = .ok (.goto 10, 3) := by decide +kernel
theorem dL_acts_682 : decode cL_acts 682 = .ok (.aload_n 0, 1) := by decide +kernel
theorem dL_acts_683 : decode cL_acts 683 = .ok (.iload 5, 2) := by decide +kernel
theorem dL_acts_685 : decode cL_acts 685 = .ok (.iconst 4, 1) := by decide +kernel
theorem dL_acts_686 : decode cL_acts 686 = .ok (.invokevirtual 26, 3) := by decide +kernel
theorem dL_acts_689 : decode cL_acts 689 = .ok (.istore 7, 2) := by decide +kernel
theorem dL_acts_691 : decode cL_acts 691 = .ok (.iload 4, 2) := by decide +kernel
theorem dL_acts_693 : decode cL_acts 693 = .ok (.ifCond .ne 9, 3) := by decide +kernel
theorem dL_acts_696 : decode cL_acts 696 = .ok (.sipush 800, 3) := by decide +kernel
theorem dL_acts_699 : decode cL_acts 699 = .ok (.goto 17, 3) := by decide +kernel
theorem dL_acts_702 : decode cL_acts 702 = .ok (.aload_n 0, 1) := by decide +kernel
theorem dL_acts_703 : decode cL_acts 703 = .ok (.iload 5, 2) := by decide +kernel
theorem dL_acts_705 : decode cL_acts 705 = .ok (.iconst 5, 1) := by decide +kernel
theorem dL_acts_706 : decode cL_acts 706 = .ok (.invokevirtual 26, 3) := by decide +kernel
theorem dL_acts_709 : decode cL_acts 709 = .ok (.iload_n 3, 1) := by decide +kernel
theorem dL_acts_710 : decode cL_acts 710 = .ok (.bipush 60, 2) := by decide +kernel
theorem dL_acts_712 : decode cL_acts 712 = .ok (.invokestatic 96, 3) := by decide +kernel
theorem dL_acts_715 : decode cL_acts 715 = .ok (.isub, 1) := by decide +kernel
theorem dL_acts_716 : decode cL_acts 716 = .ok (.istore 8, 2) := by decide +kernel
theorem dL_acts_718 : decode cL_acts 718 = .ok (.aload_n 0, 1) := by decide +kernel
theorem dL_acts_719 : decode cL_acts 719 = .ok (.iload 7, 2) := by decide +kernel
theorem dL_acts_721 : decode cL_acts 721 = .ok (.iload 8, 2) := by decide +kernel
theorem dL_acts_723 : decode cL_acts 723 = .ok (.iconst 1, 1) := by decide +kernel
theorem dL_acts_724 : decode cL_acts 724 = .ok (.if_icmp .ge 7, 3) := by decide +kernel
theorem dL_acts_727 : decode cL_acts 727 = .ok (.iconst 1, 1) := by decide +kernel
theorem dL_acts_728 : decode cL_acts 728 = .ok (.goto 5, 3) := by decide +kernel
theorem dL_acts_731 : decode cL_acts 731 = .ok (.iload 8, 2) := by decide +kernel
theorem dL_acts_733 : decode cL_acts 733 = .ok (.iload_n 3, 1) := by decide +kernel
theorem dL_acts_734 : decode cL_acts 734 = .ok (.bipush 6, 2) := by decide +kernel
theorem dL_acts_736 : decode cL_acts 736 = .ok (.ishr, 1) := by decide +kernel
theorem dL_acts_737 : decode cL_acts 737 = .ok (.bipush 20, 2) := by decide +kernel
theorem dL_acts_739 : decode cL_acts 739 = .ok (.invokestatic 96, 3) := by decide +kernel
theorem dL_acts_742 : decode cL_acts 742 = .ok (.invokevirtual 62, 3) := by decide +kernel
theorem dL_acts_745 : decode cL_acts 745 = .ok (.istore 9, 2) := by decide +kernel
theorem dL_acts_747 : decode cL_acts 747 = .ok (.iload 9, 2) := by decide +kernel
theorem dL_acts_749 : decode cL_acts 749 = .ok (.bipush (-3), 2) := by decide +kernel
theorem dL_acts_751 : decode cL_acts 751 = .ok (.if_icmp .ne 29, 3) := by decide +kernel
theorem dL_acts_754 : decode cL_acts 754 = .ok (.aload_n 0, 1) := by decide +kernel
theorem dL_acts_755 : decode cL_acts 755 = .ok (.bipush 6, 2) := by decide +kernel
theorem dL_acts_757 : decode cL_acts 757 = .ok (.invokevirtual 13, 3) := by decide +kernel
theorem dL_acts_760 : decode cL_acts 760 = .ok (.bipush 8, 2) := by decide +kernel
theorem dL_acts_762 : decode cL_acts 762 = .ok (.if_icmp .eq 10, 3) := by decide +kernel
theorem dL_acts_765 : decode cL_acts 765 = .ok (.iload 6, 2) := by decide +kernel
theorem dL_acts_767 : decode cL_acts 767 = .ok (.bipush 100, 2) := by decide +kernel
theorem dL_acts_769 : decode cL_acts 769 = .ok (.if_icmp .ne 7, 3) := by decide +kernel
theorem dL_acts_772 : decode cL_acts 772 = .ok (.iconst 1, 1) := by decide +kernel
theorem dL_acts_773 : decode cL_acts 773 = .ok (.goto 29, 3) := by decide +kernel
theorem dL_acts_776 : decode cL_acts 776 = .ok (.iconst 0, 1) := by decide +kernel
theorem dL_acts_777 : decode cL_acts 777 = .ok (.goto 25, 3) := by decide +kernel
theorem dL_acts_780 : decode cL_acts 780 = .ok (.iload 9, 2) := by decide +kernel
theorem dL_acts_782 : decode cL_acts 782 = .ok (.iload 6, 2) := by decide +kernel
theorem dL_acts_784 : decode cL_acts 784 = .ok (.if_icmp .ne 17, 3) := by decide +kernel
theorem dL_acts_787 : decode cL_acts 787 = .ok (.aload_n 0, 1) := by decide +kernel
theorem dL_acts_788 : decode cL_acts 788 = .ok (.iload 6, 2) := by decide +kernel
theorem dL_acts_790 : decode cL_acts 790 = .ok (.iconst 3, 1) := by decide +kernel
theorem dL_acts_791 : decode cL_acts 791 = .ok (.invokevirtual 29, 3) := by decide +kernel
theorem dL_acts_794 : decode cL_acts 794 = .ok (.ifCond .ne 7, 3) := by decide +kernel
theorem dL_acts_797 : decode cL_acts 797 = .ok (.iconst 1, 1) := by decide +kernel
theorem dL_acts_798 : decode cL_acts 798 = .ok (.goto 4, 3) := by decide +kernel
theorem dL_acts_801 : decode cL_acts 801 = .ok (.iconst 0, 1) := by decide +kernel
theorem dL_acts_802 : decode cL_acts 802 = .ok (.ireturn, 1) := by decide +kernel
theorem dL_acts_803 : decode cL_acts 803 = .ok (.aload_n 0, 1) := by decide +kernel
theorem dL_acts_804 : decode cL_acts 804 = .ok (.iconst 5, 1) := by decide +kernel
theorem dL_acts_805 : decode cL_acts 805 = .ok (.invokevirtual 13, 3) := by decide +kernel
theorem dL_acts_808 : decode cL_acts 808 = .ok (.istore 6, 2) := by decide +kernel
theorem dL_acts_810 : decode cL_acts 810 = .ok (.iload 6, 2) := by decide +kernel
theorem dL_acts_812 : decode cL_acts 812 = .ok (.ifCond .ne 7, 3) := by decide +kernel
theorem dL_acts_815 : decode cL_acts 815 = .ok (.iconst 0, 1) := by decide +kernel
theorem dL_acts_816 : decode cL_acts 816 = .ok (.goto 9, 3) := by decide +kernel
theorem dL_acts_819 : decode cL_acts 819 = .ok (.iload_n 3, 1) := by decide +kernel
theorem dL_acts_820 : decode cL_acts 820 = .ok (.iload 6, 2) := by decide +kernel
theorem dL_acts_822 : decode cL_acts 822 = .ok (.invokestatic 96, 3) := by decide +kernel
theorem dL_acts_825 : decode cL_acts 825 = .ok (.istore 7, 2) := by decide +kernel
theorem dL_acts_827 : decode cL_acts 827 = .ok (.iload 4, 2) := by decide +kernel
theorem dL_acts_829 : decode cL_acts 829 = .ok (.ifCond .le 49, 3) := by decide +kernel
theorem dL_acts_832 : decode cL_acts 832 = .ok (.iload 6, 2) := by decide +kernel
theorem dL_acts_834 : decode cL_acts 834 = .ok (.ifCond .le 44, 3) := by decide +kernel
theorem dL_acts_837 : decode cL_acts 837 = .ok (.aload_n 0, 1) := by decide +kernel
theorem dL_acts_838 : decode cL_acts 838 = .ok (.iload 5, 2) := by decide +kernel
theorem dL_acts_840 : decode cL_acts 840 = .ok (.iload 7, 2) := by decide +kernel
theorem dL_acts_842 : decode cL_acts 842 = .ok (.invokevirtual 72, 3) := by decide +kernel
theorem dL_acts_845 : decode cL_acts 845 = .ok (.ifCond .ne 33, 3) := by decide +kernel
theorem dL_acts_848 : decode cL_acts 848 = .ok (.aload_n 0, 1) := by decide +kernel
theorem dL_acts_849 : decode cL_acts 849 = .ok (.iload 7, 2) := by decide +kernel
theorem dL_acts_851 : decode cL_acts 851 = .ok (.iconst 3, 1) := by decide +kernel
theorem dL_acts_852 : decode cL_acts 852 = .ok (.invokevirtual 29, 3) := by decide +kernel
theorem dL_acts_855 : decode cL_acts 855 = .ok (.ifCond .ne 23, 3) := by decide +kernel
theorem dL_acts_858 : decode cL_acts 858 = .ok (.aload_n 0, 1) := by decide +kernel
theorem dL_acts_859 : decode cL_acts 859 = .ok (.iload 5, 2) := by decide +kernel
theorem dL_acts_861 : decode cL_acts 861 = .ok (.iconst 2, 1) := by decide +kernel
theorem dL_acts_862 : decode cL_acts 862 = .ok (.invokevirtual 26, 3) := by decide +kernel
theorem dL_acts_865 : decode cL_acts 865 = .ok (.aload_n 0, 1) := by decide +kernel
theorem dL_acts_866 : decode cL_acts 866 = .ok (.bipush 26, 2) := by decide +kernel
theorem dL_acts_868 : decode cL_acts 868 = .ok (.invokevirtual 13, 3) := by decide +kernel
theorem dL_acts_871 : decode cL_acts 871 = .ok (.if_icmp .gt 7, 3) := by decide +kernel
theorem dL_acts_874 : decode cL_acts 874 = .ok (.iconst 1, 1) := by decide +kernel
theorem dL_acts_875 : decode cL_acts 875 = .ok (.goto 4, 3) := by decide +kernel
theorem dL_acts_878 : decode cL_acts 878 = .ok (.iconst 0, 1) := by decide +kernel
theorem dL_acts_879 : decode cL_acts 879 = .ok (.istore 8, 2) := by decide +kernel
theorem dL_acts_881 : decode cL_acts 881 = .ok (.aload_n 0, 1) := by decide +kernel
theorem dL_acts_882 : decode cL_acts 882 = .ok (.iload 5, 2) := by decide +kernel
theorem dL_acts_884 : decode cL_acts 884 = .ok (.iload 7, 2) := by decide +kernel
theorem dL_acts_886 : decode cL_acts 886 = .ok (.invokevirtual 69, 3) := by decide +kernel
theorem dL_acts_889 : decode cL_acts 889 = .ok (.istore 9, 2) := by decide +kernel
theorem dL_acts_891 : decode cL_acts 891 = .ok (.iload 4, 2) := by decide +kernel
theorem dL_acts_893 : decode cL_acts 893 = .ok (.ifCond .eq 8, 3) := by decide +kernel
theorem dL_acts_896 : decode cL_acts 896 = .ok (.iload 6, 2) := by decide +kernel
theorem dL_acts_898 : decode cL_acts 898 = .ok (.ifCond .ne 17, 3) := by decide +kernel
theorem dL_acts_901 : decode cL_acts 901 = .ok (.iload 9, 2) := by decide +kernel
theorem dL_acts_903 : decode cL_acts 903 = .ok (.iconst (-1), 1) := by decide +kernel
theorem dL_acts_904 : decode cL_acts 904 = .ok (.if_icmp .ne 7, 3) := by decide +kernel
theorem dL_acts_907 : decode cL_acts 907 = .ok (.iconst 1, 1) := by decide +kernel
theorem dL_acts_908 : decode cL_acts 908 = .ok (.goto 57, 3) := by decide +kernel
theorem dL_acts_911 : decode cL_acts 911 = .ok (.iconst 0, 1) := by decide +kernel
theorem dL_acts_912 : decode cL_acts 912 = .ok (.goto 53, 3) := by decide +kernel
theorem dL_acts_915 : decode cL_acts 915 = .ok (.iload 8, 2) := by decide +kernel
theorem dL_acts_917 : decode cL_acts 917 = .ok (.ifCond .eq 36, 3) := by decide +kernel
theorem dL_acts_920 : decode cL_acts 920 = .ok (.iload 9, 2) := by decide +kernel
theorem dL_acts_922 : decode cL_acts 922 = .ok (.aload_n 0, 1) := by decide +kernel
theorem dL_acts_923 : decode cL_acts 923 = .ok (.iload 5, 2) := by decide +kernel
theorem dL_acts_925 : decode cL_acts 925 = .ok (.iconst 2, 1) := by decide +kernel
theorem dL_acts_926 : decode cL_acts 926 = .ok (.invokevirtual 26, 3) := by decide +kernel
theorem dL_acts_929 : decode cL_acts 929 = .ok (.if_icmp .ne 20, 3) := by decide +kernel
theorem dL_acts_932 : decode cL_acts 932 = .ok (.aload_n 0, 1) := by decide +kernel
theorem dL_acts_933 : decode cL_acts 933 = .ok (.iload 5, 2) := by decide +kernel
theorem dL_acts_935 : decode cL_acts 935 = .ok (.bipush 9, 2) := by decide +kernel
theorem dL_acts_937 : decode cL_acts 937 = .ok (.invokevirtual 26, 3) := by decide +kernel
theorem dL_acts_940 : decode cL_acts 940 = .ok (.iload 7, 2) := by decide +kernel
theorem dL_acts_942 : decode cL_acts 942 = .ok (.if_icmp .ne 7, 3) := by decide +kernel
theorem dL_acts_945 : decode cL_acts 945 = .ok (.iconst 1, 1) := by decide +kernel
theorem dL_acts_946 : decode cL_acts 946 = .ok (.goto 19, 3) := by decide +kernel
theorem dL_acts_949 : decode cL_acts 949 = .ok (.iconst 0, 1) := by decide +kernel
theorem dL_acts_950 : decode cL_acts 950 = .ok (.goto 15, 3) := by decide +kernel
theorem dL_acts_953 : decode cL_acts 953 = .ok (.iload 9, 2) := by decide +kernel
theorem dL_acts_955 : decode cL_acts 955 = .ok (.bipush (-2), 2) := by decide +kernel
theorem dL_acts_957 : decode cL_acts 957 = .ok (.if_icmp .ne 7, 3) := by decide +kernel
theorem dL_acts_960 : decode cL_acts 960 = .ok (.iconst 1, 1) := by decide +kernel
theorem dL_acts_961 : decode cL_acts 961 = .ok (.goto 4, 3) := by decide +kernel
theorem dL_acts_964 : decode cL_acts 964 = .ok (.iconst 0, 1) := by decide +kernel
theorem dL_acts_965 : decode cL_acts 965 = .ok (.ireturn, 1) := by decide +kernel
theorem dL_acts_966 : decode cL_acts 966 = .ok (.aload_n 0, 1) := by decide +kernel
theorem dL_acts_967 : decode cL_acts 967 = .ok (.iconst 0, 1) := by decide +kernel
theorem dL_acts_968 : decode cL_acts 968 = .ok (.invokevirtual 13, 3) := by decide +kernel
theorem dL_acts_971 : decode cL_acts 971 = .ok (.istore 6, 2) := by decide +kernel
theorem dL_acts_973 : decode cL_acts 973 = .ok (.iload 6, 2) := by decide +kernel
theorem dL_acts_975 : decode cL_acts 975 = .ok (.ifCond .ne 7, 3) := by decide +kernel
theorem dL_acts_978 : decode cL_acts 978 = .ok (.iconst 0, 1) := by decide +kernel
theorem dL_acts_979 : decode cL_acts 979 = .ok (.goto 9, 3) := by decide +kernel
theorem dL_acts_982 : decode cL_acts 982 = .ok (.iload_n 2, 1) := by decide +kernel
theorem dL_acts_983 : decode cL_acts 983 = .ok (.iload 6, 2) := by decide +kernel
theorem dL_acts_985 : decode cL_acts 985 = .ok (.invokestatic 96, 3) := by decide +kernel
theorem dL_acts_988 : decode cL_acts 988 = .ok (.istore 7, 2) := by decide +kernel
theorem dL_acts_990 : decode cL_acts 990 = .ok (.iload 6, 2) := by decide +kernel
theorem dL_acts_992 : decode cL_acts 992 = .ok (.ifCond .ne 7, 3) := by decide +kernel
theorem dL_acts_995 : decode cL_acts 995 = .ok (.iconst 0, 1) := by decide +kernel
theorem dL_acts_996 : decode cL_acts 996 = .ok (.goto 16, 3) := by decide +kernel
theorem dL_acts_999 : decode cL_acts 999 = .ok (.aload_n 0, 1) := by decide +kernel
theorem dL_acts_1000 : decode cL_acts 1000 = .ok (.iconst 2, 1) := by decide +kernel
theorem dL_acts_1001 : decode cL_acts 1001 = .ok (.invokevirtual 47, 3) := by decide +kernel
theorem dL_acts_1004 : decode cL_acts 1004 = .ok (.aload_n 0, 1) := by decide +kernel
theorem dL_acts_1005 : decode cL_acts 1005 = .ok (.iload 7, 2) := by decide +kernel
theorem dL_acts_1007 : decode cL_acts 1007 = .ok (.iconst 2, 1) := by decide +kernel
theorem dL_acts_1008 : decode cL_acts 1008 = .ok (.invokevirtual 23, 3) := by decide +kernel
theorem dL_acts_1011 : decode cL_acts 1011 = .ok (.iadd, 1) := by decide +kernel
theorem dL_acts_1012 : decode cL_acts 1012 = .ok (.istore 8, 2) := by decide +kernel
theorem dL_acts_1014 : decode cL_acts 1014 = .ok (.iload 6, 2) := by decide +kernel
theorem dL_acts_1016 : decode cL_acts 1016 = .ok (.ifCond .le 18, 3) := by decide +kernel
theorem dL_acts_1019 : decode cL_acts 1019 = .ok (.aload_n 0, 1) := by decide +kernel
theorem dL_acts_1020 : decode cL_acts 1020 = .ok (.iload 7, 2) := by decide +kernel
theorem dL_acts_1022 : decode cL_acts 1022 = .ok (.iconst 4, 1) := by decide +kernel
theorem dL_acts_1023 : decode cL_acts 1023 = .ok (.invokevirtual 23, 3) := by decide +kernel
theorem dL_acts_1026 : decode cL_acts 1026 = .ok (.iconst 1, 1) := by decide +kernel
theorem dL_acts_1027 : decode cL_acts 1027 = .ok (.if_icmp .ne 7, 3) := by decide +kernel
theorem dL_acts_1030 : decode cL_acts 1030 = .ok (.iconst 1, 1) := by decide +kernel
theorem dL_acts_1031 : decode cL_acts 1031 = .ok (.goto 4, 3) := by decide +kernel
theorem dL_acts_1034 : decode cL_acts 1034 = .ok (.iconst 0, 1) := by decide +kernel
theorem dL_acts_1035 : decode cL_acts 1035 = .ok (.istore 9, 2) := by decide +kernel
theorem dL_acts_1037 : decode cL_acts 1037 = .ok (.aload_n 0, 1) := by decide +kernel
theorem dL_acts_1038 : decode cL_acts 1038 = .ok (.iload 7, 2) := by decide +kernel
theorem dL_acts_1040 : decode cL_acts 1040 = .ok (.invokevirtual 44, 3) := by decide +kernel
theorem dL_acts_1043 : decode cL_acts 1043 = .ok (.istore 10, 2) := by decide +kernel
theorem dL_acts_1045 : decode cL_acts 1045 = .ok (.iload 6, 2) := by decide +kernel
theorem dL_acts_1047 : decode cL_acts 1047 = .ok (.ifCond .ne 17, 3) := by decide +kernel
theorem dL_acts_1050 : decode cL_acts 1050 = .ok (.iload 10, 2) := by decide +kernel
theorem dL_acts_1052 : decode cL_acts 1052 = .ok (.iconst (-1), 1) := by decide +kernel
theorem dL_acts_1053 : decode cL_acts 1053 = .ok (.if_icmp .ne 7, 3) := by decide +kernel
theorem dL_acts_1056 : decode cL_acts 1056 = .ok (.iconst 1, 1) := by decide +kernel
theorem dL_acts_1057 : decode cL_acts 1057 = .ok (.goto 79, 3) := by decide +kernel
theorem dL_acts_1060 : decode cL_acts 1060 = .ok (.iconst 0, 1) := by decide +kernel
theorem dL_acts_1061 : decode cL_acts 1061 = .ok (.goto 75, 3) := by decide +kernel
theorem dL_acts_1064 : decode cL_acts 1064 = .ok (.iload 8, 2) := by decide +kernel
theorem dL_acts_1066 : decode cL_acts 1066 = .ok (.sipush 20000, 3) := by decide +kernel
theorem dL_acts_1069 : decode cL_acts 1069 = .ok (.if_icmp .le 18, 3) := by decide +kernel
theorem dL_acts_1072 : decode cL_acts 1072 = .ok (.iload 10, 2) := by decide +kernel
theorem dL_acts_1074 : decode cL_acts 1074 = .ok (.bipush (-3), 2) := by decide +kernel
theorem dL_acts_1076 : decode cL_acts 1076 = .ok (.if_icmp .ne 7, 3) := by decide +kernel
theorem dL_acts_1079 : decode cL_acts 1079 = .ok (.iconst 1, 1) := by decide +kernel
theorem dL_acts_1080 : decode cL_acts 1080 = .ok (.goto 56, 3) := by decide +kernel
theorem dL_acts_1083 : decode cL_acts 1083 = .ok (.iconst 0, 1) := by decide +kernel
theorem dL_acts_1084 : decode cL_acts 1084 = .ok (.goto 52, 3) := by decide +kernel
theorem dL_acts_1087 : decode cL_acts 1087 = .ok (.iload 10, 2) := by decide +kernel
theorem dL_acts_1089 : decode cL_acts 1089 = .ok (.aload_n 0, 1) := by decide +kernel
theorem dL_acts_1090 : decode cL_acts 1090 = .ok (.iconst 2, 1) := by decide +kernel
theorem dL_acts_1091 : decode cL_acts 1091 = .ok (.invokevirtual 47, 3) := by decide +kernel
theorem dL_acts_1094 : decode cL_acts 1094 = .ok (.if_icmp .ne 41, 3) := by decide +kernel
theorem dL_acts_1097 : decode cL_acts 1097 = .ok (.iload 9, 2) := by decide +kernel
theorem dL_acts_1099 : decode cL_acts 1099 = .ok (.ifCond .eq 13, 3) := by decide +kernel
theorem dL_acts_1102 : decode cL_acts 1102 = .ok (.iload 10, 2) := by decide +kernel
theorem dL_acts_1104 : decode cL_acts 1104 = .ok (.iload 8, 2) := by decide +kernel
theorem dL_acts_1106 : decode cL_acts 1106 = .ok (.if_icmp .gt 29, 3) := by decide +kernel
theorem dL_acts_1109 : decode cL_acts 1109 = .ok (.goto 10, 3) := by decide +kernel
theorem dL_acts_1112 : decode cL_acts 1112 = .ok (.iload 10, 2) := by decide +kernel
theorem dL_acts_1114 : decode cL_acts 1114 = .ok (.iload 8, 2) := by decide +kernel
theorem dL_acts_1116 : decode cL_acts 1116 = .ok (.if_icmp .ne 19, 3) := by decide +kernel
theorem dL_acts_1119 : decode cL_acts 1119 = .ok (.aload_n 0, 1) := by decide +kernel
theorem dL_acts_1120 : decode cL_acts 1120 = .ok (.iconst 0, 1) := by decide +kernel
theorem dL_acts_1121 : decode cL_acts 1121 = .ok (.invokevirtual 13, 3) := by decide +kernel
theorem dL_acts_1124 : decode cL_acts 1124 = .ok (.iload 6, 2) := by decide +kernel
theorem dL_acts_1126 : decode cL_acts 1126 = .ok (.iconst 1, 1) := by decide +kernel
theorem dL_acts_1127 : decode cL_acts 1127 = .ok (.isub, 1) := by decide +kernel
theorem dL_acts_1128 : decode cL_acts 1128 = .ok (.if_icmp .ne 7, 3) := by decide +kernel
theorem dL_acts_1131 : decode cL_acts 1131 = .ok (.iconst 1, 1) := by decide +kernel
theorem dL_acts_1132 : decode cL_acts 1132 = .ok (.goto 4, 3) := by decide +kernel
theorem dL_acts_1135 : decode cL_acts 1135 = .ok (.iconst 0, 1) := by decide +kernel
theorem dL_acts_1136 : decode cL_acts 1136 = .ok (.ireturn, 1) := by decide +kernel
theorem dL_acts_1137 : decode cL_acts 1137 = .ok (.aload_n 0, 1) := by decide +kernel
theorem dL_acts_1138 : decode cL_acts 1138 = .ok (.iconst 5, 1) := by decide +kernel
theorem dL_acts_1139 : decode cL_acts 1139 = .ok (.invokevirtual 13, 3) := by decide +kernel
theorem dL_acts_1142 : decode cL_acts 1142 = .ok (.istore 6, 2) := by decide +kernel
theorem dL_acts_1144 : decode cL_acts 1144 = .ok (.iload 6, 2) := by decide +kernel
theorem dL_acts_1146 : decode cL_acts 1146 = .ok (.ifCond .ne 7, 3) := by decide +kernel
theorem dL_acts_1149 : decode cL_acts 1149 = .ok (.iconst 0, 1) := by decide +kernel
theorem dL_acts_1150 : decode cL_acts 1150 = .ok (.goto 9, 3) := by decide +kernel
theorem dL_acts_1153 : decode cL_acts 1153 = .ok (.iload_n 3, 1) := by decide +kernel
theorem dL_acts_1154 : decode cL_acts 1154 = .ok (.iload 6, 2) := by decide +kernel
theorem dL_acts_1156 : decode cL_acts 1156 = .ok (.invokestatic 96, 3) := by decide +kernel
theorem dL_acts_1159 : decode cL_acts 1159 = .ok (.istore 7, 2) := by decide +kernel
theorem dL_acts_1161 : decode cL_acts 1161 = .ok (.iload 6, 2) := by decide +kernel
theorem dL_acts_1163 : decode cL_acts 1163 = .ok (.ifCond .ne 7, 3) := by decide +kernel
theorem dL_acts_1166 : decode cL_acts 1166 = .ok (.iconst 0, 1) := by decide +kernel
theorem dL_acts_1167 : decode cL_acts 1167 = .ok (.goto 10, 3) := by decide +kernel
theorem dL_acts_1170 : decode cL_acts 1170 = .ok (.aload_n 0, 1) := by decide +kernel
theorem dL_acts_1171 : decode cL_acts 1171 = .ok (.iload 7, 2) := by decide +kernel
theorem dL_acts_1173 : decode cL_acts 1173 = .ok (.iconst 3, 1) := by decide +kernel
theorem dL_acts_1174 : decode cL_acts 1174 = .ok (.invokevirtual 29, 3) := by decide +kernel
theorem dL_acts_1177 : decode cL_acts 1177 = .ok (.istore 8, 2) := by decide +kernel
theorem dL_acts_1179 : decode cL_acts 1179 = .ok (.aload_n 0, 1) := by decide +kernel
theorem dL_acts_1180 : decode cL_acts 1180 = .ok (.bipush 6, 2) := by decide +kernel
theorem dL_acts_1182 : decode cL_acts 1182 = .ok (.invokevirtual 13, 3) := by decide +kernel
theorem dL_acts_1185 : decode cL_acts 1185 = .ok (.istore 9, 2) := by decide +kernel
theorem dL_acts_1187 : decode cL_acts 1187 = .ok (.iload_n 2, 1) := by decide +kernel
theorem dL_acts_1188 : decode cL_acts 1188 = .ok (.iconst 2, 1) := by decide +kernel
theorem dL_acts_1189 : decode cL_acts 1189 = .ok (.invokestatic 96, 3) := by decide +kernel
theorem dL_acts_1192 : decode cL_acts 1192 = .ok (.ifCond .ne 12, 3) := by decide +kernel
theorem dL_acts_1195 : decode cL_acts 1195 = .ok (.aload_n 0, 1) := by decide +kernel
theorem dL_acts_1196 : decode cL_acts 1196 = .ok (.iload 7, 2) := by decide +kernel
theorem dL_acts_1198 : decode cL_acts 1198 = .ok (.invokevirtual 66, 3) := by decide +kernel
theorem dL_acts_1201 : decode cL_acts 1201 = .ok (.goto 26, 3) := by decide +kernel
theorem dL_acts_1204 : decode cL_acts 1204 = .ok (.iload 6, 2) := by decide +kernel
theorem dL_acts_1206 : decode cL_acts 1206 = .ok (.ifCond .ne 7, 3) := by decide +kernel
theorem dL_acts_1209 : decode cL_acts 1209 = .ok (.iconst (-1), 1) := by decide +kernel
theorem dL_acts_1210 : decode cL_acts 1210 = .ok (.goto 17, 3) := by decide +kernel
theorem dL_acts_1213 : decode cL_acts 1213 = .ok (.iload 8, 2) := by decide +kernel
theorem dL_acts_1215 : decode cL_acts 1215 = .ok (.ifCond .le 8, 3) := by decide +kernel
theorem dL_acts_1218 : decode cL_acts 1218 = .ok (.bipush (-2), 2) := by decide +kernel
theorem dL_acts_1220 : decode cL_acts 1220 = .ok (.goto 7, 3) := by decide +kernel
theorem dL_acts_1223 : decode cL_acts 1223 = .ok (.iload 9, 2) := by decide +kernel
theorem dL_acts_1225 : decode cL_acts 1225 = .ok (.iconst 1, 1) := by decide +kernel
theorem dL_acts_1226 : decode cL_acts 1226 = .ok (.isub, 1) := by decide +kernel
theorem dL_acts_1227 : decode cL_acts 1227 = .ok (.istore 10, 2) := by decide +kernel
theorem dL_acts_1229 : decode cL_acts 1229 = .ok (.iload 10, 2) := by decide +kernel
theorem dL_acts_1231 : decode cL_acts 1231 = .ok (.iload 6, 2) := by decide +kernel
theorem dL_acts_1233 : decode cL_acts 1233 = .ok (.ifCond .ne 7, 3) := by decide +kernel
theorem dL_acts_1236 : decode cL_acts 1236 = .ok (.iconst (-1), 1) := by decide +kernel
theorem dL_acts_1237 : decode cL_acts 1237 = .ok (.goto 17, 3) := by decide +kernel
theorem dL_acts_1240 : decode cL_acts 1240 = .ok (.iload 8, 2) := by decide +kernel
theorem dL_acts_1242 : decode cL_acts 1242 = .ok (.ifCond .le 8, 3) := by decide +kernel
theorem dL_acts_1245 : decode cL_acts 1245 = .ok (.bipush (-2), 2) := by decide +kernel
theorem dL_acts_1247 : decode cL_acts 1247 = .ok (.goto 7, 3) := by decide +kernel
theorem dL_acts_1250 : decode cL_acts 1250 = .ok (.iload 9, 2) := by decide +kernel
theorem dL_acts_1252 : decode cL_acts 1252 = .ok (.iconst 1, 1) := by decide +kernel
theorem dL_acts_1253 : decode cL_acts 1253 = .ok (.isub, 1) := by decide +kernel
theorem dL_acts_1254 : decode cL_acts 1254 = .ok (.if_icmp .ne 29, 3) := by decide +kernel
theorem dL_acts_1257 : decode cL_acts 1257 = .ok (.aload_n 0, 1) := by decide +kernel
theorem dL_acts_1258 : decode cL_acts 1258 = .ok (.iconst 4, 1) := by decide +kernel
theorem dL_acts_1259 : decode cL_acts 1259 = .ok (.iload_n 2, 1) := by decide +kernel
theorem dL_acts_1260 : decode cL_acts 1260 = .ok (.iconst 3, 1) := by decide +kernel
theorem dL_acts_1261 : decode cL_acts 1261 = .ok (.invokestatic 96, 3) := by decide +kernel
theorem dL_acts_1264 : decode cL_acts 1264 = .ok (.iadd, 1) := by decide +kernel
theorem dL_acts_1265 : decode cL_acts 1265 = .ok (.iconst 1, 1) := by decide +kernel
theorem dL_acts_1266 : decode cL_acts 1266 = .ok (.iload_n 3, 1) := by decide +kernel
theorem dL_acts_1267 : decode cL_acts 1267 = .ok (.bipush 50, 2) := by decide +kernel
theorem dL_acts_1269 : decode cL_acts 1269 = .ok (.invokestatic 96, 3) := by decide +kernel
theorem dL_acts_1272 : decode cL_acts 1272 = .ok (.iadd, 1) := by decide +kernel
theorem dL_acts_1273 : decode cL_acts 1273 = .ok (.invokevirtual 50, 3) := by decide +kernel
theorem dL_acts_1276 : decode cL_acts 1276 = .ok (.ifCond .lt 7, 3) := by decide +kernel
theorem dL_acts_1279 : decode cL_acts 1279 = .ok (.iconst 1, 1) := by decide +kernel
theorem dL_acts_1280 : decode cL_acts 1280 = .ok (.goto 4, 3) := by decide +kernel
theorem dL_acts_1283 : decode cL_acts 1283 = .ok (.iconst 0, 1) := by decide +kernel
theorem dL_acts_1284 : decode cL_acts 1284 = .ok (.ireturn, 1) := by decide +kernel
theorem dL_law_0 : decode cL_law 0 = .ok (.new 14, 3) := by decide +kernel
theorem dL_law_3 : decode cL_law 3 = .ok (.dup, 1) := by decide +kernel
theorem dL_law_4 : decode cL_law 4 = .ok (.invokespecial 113, 3) := by decide +kernel
theorem dL_law_7 : decode cL_law 7 = .ok (.astore_n 1, 1) := by decide +kernel
theorem dL_law_8 : decode cL_law 8 = .ok (.sipush 9000, 3) := by decide +kernel
theorem dL_law_11 : decode cL_law 11 = .ok (.aload_n 0, 1) := by decide +kernel
theorem dL_law_12 : decode cL_law 12 = .ok (.bipush 90, 2) := by decide +kernel
theorem dL_law_14 : decode cL_law 14 = .ok (.invokestatic 114, 3) := by decide +kernel
theorem dL_law_17 : decode cL_law 17 = .ok (.sipush 4000, 3) := by decide +kernel
theorem dL_law_20 : decode cL_law 20 = .ok (.invokestatic 96, 3) := by decide +kernel
theorem dL_law_23 : decode cL_law 23 = .ok (.iadd, 1) := by decide +kernel
theorem dL_law_24 : decode cL_law 24 = .ok (.istore_n 2, 1) := by decide +kernel
theorem dL_law_25 : decode cL_law 25 = .ok (.sipush 2000, 3) := by decide +kernel
theorem dL_law_28 : decode cL_law 28 = .ok (.aload_n 0, 1) := by decide +kernel
theorem dL_law_29 : decode cL_law 29 = .ok (.bipush 91, 2) := by decide +kernel
theorem dL_law_31 : decode cL_law 31 = .ok (.invokestatic 114, 3) := by decide +kernel
theorem dL_law_34 : decode cL_law 34 = .ok (.sipush 1400, 3) := by decide +kernel
theorem dL_law_37 : decode cL_law 37 = .ok (.invokestatic 96, 3) := by decide +kernel
theorem dL_law_40 : decode cL_law 40 = .ok (.iadd, 1) := by decide +kernel
theorem dL_law_41 : decode cL_law 41 = .ok (.istore_n 3, 1) := by decide +kernel
theorem dL_law_42 : decode cL_law 42 = .ok (.aload_n 1, 1) := by decide +kernel
theorem dL_law_43 : decode cL_law 43 = .ok (.invokevirtual 99, 3) := by decide +kernel
theorem dL_law_46 : decode cL_law 46 = .ok (.bipush (-2), 2) := by decide +kernel
theorem dL_law_48 : decode cL_law 48 = .ok (.if_icmp .ne 71, 3) := by decide +kernel
theorem dL_law_51 : decode cL_law 51 = .ok (.aload_n 1, 1) := by decide +kernel
theorem dL_law_52 : decode cL_law 52 = .ok (.invokestatic 118, 3) := by decide +kernel
theorem dL_law_55 : decode cL_law 55 = .ok (.ifCond .eq 64, 3) := by decide +kernel
theorem dL_law_58 : decode cL_law 58 = .ok (.aload_n 1, 1) := by decide +kernel
theorem dL_law_59 : decode cL_law 59 = .ok (.invokestatic 121, 3) := by decide +kernel
theorem dL_law_62 : decode cL_law 62 = .ok (.ifCond .eq 57, 3) := by decide +kernel
theorem dL_law_65 : decode cL_law 65 = .ok (.aload_n 1, 1) := by decide +kernel
theorem dL_law_66 : decode cL_law 66 = .ok (.iconst 0, 1) := by decide +kernel
theorem dL_law_67 : decode cL_law 67 = .ok (.sipush 20000, 3) := by decide +kernel
theorem dL_law_70 : decode cL_law 70 = .ok (.invokevirtual 38, 3) := by decide +kernel
theorem dL_law_73 : decode cL_law 73 = .ok (.sipush 20000, 3) := by decide +kernel
theorem dL_law_76 : decode cL_law 76 = .ok (.if_icmp .ne 43, 3) := by decide +kernel
theorem dL_law_79 : decode cL_law 79 = .ok (.aload_n 1, 1) := by decide +kernel
theorem dL_law_80 : decode cL_law 80 = .ok (.iconst 1, 1) := by decide +kernel
theorem dL_law_81 : decode cL_law 81 = .ok (.sipush 6000, 3) := by decide +kernel
theorem dL_law_84 : decode cL_law 84 = .ok (.invokevirtual 38, 3) := by decide +kernel
theorem dL_law_87 : decode cL_law 87 = .ok (.sipush 6000, 3) := by decide +kernel
theorem dL_law_90 : decode cL_law 90 = .ok (.if_icmp .ne 29, 3) := by decide +kernel
theorem dL_law_93 : decode cL_law 93 = .ok (.aload_n 1, 1) := by decide +kernel
theorem dL_law_94 : decode cL_law 94 = .ok (.iconst 0, 1) := by decide +kernel
theorem dL_law_95 : decode cL_law 95 = .ok (.iload_n 2, 1) := by decide +kernel
theorem dL_law_96 : decode cL_law 96 = .ok (.invokevirtual 41, 3) := by decide +kernel
theorem dL_law_99 : decode cL_law 99 = .ok (.iload_n 2, 1) := by decide +kernel
theorem dL_law_100 : decode cL_law 100 = .ok (.if_icmp .ne 19, 3) := by decide +kernel
theorem dL_law_103 : decode cL_law 103 = .ok (.aload_n 1, 1) := by decide +kernel
theorem dL_law_104 : decode cL_law 104 = .ok (.iconst 1, 1) := by decide +kernel
theorem dL_law_105 : decode cL_law 105 = .ok (.iload_n 3, 1) := by decide +kernel
theorem dL_law_106 : decode cL_law 106 = .ok (.invokevirtual 41, 3) := by decide +kernel
theorem dL_law_109 : decode cL_law 109 = .ok (.iload_n 2, 1) := by decide +kernel
theorem dL_law_110 : decode cL_law 110 = .ok (.iload_n 3, 1) := by decide +kernel
theorem dL_law_111 : decode cL_law 111 = .ok (.iadd, 1) := by decide +kernel
theorem dL_law_112 : decode cL_law 112 = .ok (.if_icmp .ne 7, 3) := by decide +kernel
theorem dL_law_115 : decode cL_law 115 = .ok (.iconst 1, 1) := by decide +kernel
theorem dL_law_116 : decode cL_law 116 = .ok (.goto 4, 3) := by decide +kernel
theorem dL_law_119 : decode cL_law 119 = .ok (.iconst 0, 1) := by decide +kernel
theorem dL_law_120 : decode cL_law 120 = .ok (.istore 4, 2) := by decide +kernel
theorem dL_law_122 : decode cL_law 122 = .ok (.iconst 0, 1) := by decide +kernel
theorem dL_law_123 : decode cL_law 123 = .ok (.istore 5, 2) := by decide +kernel
theorem dL_law_125 : decode cL_law 125 = .ok (.iload 5, 2) := by decide +kernel
theorem dL_law_127 : decode cL_law 127 = .ok (.bipush 36, 2) := by decide +kernel
theorem dL_law_129 : decode cL_law 129 = .ok (.if_icmp .ge 232, 3) := by decide +kernel
theorem dL_law_132 : decode cL_law 132 = .ok (.iload 4, 2) := by decide +kernel
theorem dL_law_134 : decode cL_law 134 = .ok (.ifCond .eq 227, 3) := by decide +kernel
theorem dL_law_137 : decode cL_law 137 = .ok (.aload_n 0, 1) := by decide +kernel
theorem dL_law_138 : decode cL_law 138 = .ok (.iconst 2, 1) := by decide +kernel
theorem dL_law_139 : decode cL_law 139 = .ok (.iload 5, 2) := by decide +kernel
theorem dL_law_141 : decode cL_law 141 = .ok (.imul, 1) := by decide +kernel
theorem dL_law_142 : decode cL_law 142 = .ok (.invokestatic 114, 3) := by decide +kernel
theorem dL_law_145 : decode cL_law 145 = .ok (.istore 6, 2) := by decide +kernel
theorem dL_law_147 : decode cL_law 147 = .ok (.aload_n 0, 1) := by decide +kernel
theorem dL_law_148 : decode cL_law 148 = .ok (.iconst 2, 1) := by decide +kernel
theorem dL_law_149 : decode cL_law 149 = .ok (.iload 5, 2) := by decide +kernel
theorem dL_law_151 : decode cL_law 151 = .ok (.imul, 1) := by decide +kernel
theorem dL_law_152 : decode cL_law 152 = .ok (.iconst 1, 1) := by decide +kernel
theorem dL_law_153 : decode cL_law 153 = .ok (.iadd, 1) := by decide +kernel
theorem dL_law_154 : decode cL_law 154 = .ok (.invokestatic 114, 3) := by decide +kernel
theorem dL_law_157 : decode cL_law 157 = .ok (.istore 7, 2) := by decide +kernel
theorem dL_law_159 : decode cL_law 159 = .ok (.aload_n 1, 1) := by decide +kernel
theorem dL_law_160 : decode cL_law 160 = .ok (.iload 5, 2) := by decide +kernel
theorem dL_law_162 : decode cL_law 162 = .ok (.iconst 3, 1) := by decide +kernel
theorem dL_law_163 : decode cL_law 163 = .ok (.if_icmp .ge 7, 3) := by decide +kernel
theorem dL_law_166 : decode cL_law 166 = .ok (.iconst 2, 1) := by decide +kernel
theorem dL_law_167 : decode cL_law 167 = .ok (.goto 12, 3) := by decide +kernel
theorem dL_law_170 : decode cL_law 170 = .ok (.iload 6, 2) := by decide +kernel
theorem dL_law_172 : decode cL_law 172 = .ok (.iconst 2, 1) := by decide +kernel
theorem dL_law_173 : decode cL_law 173 = .ok (.ishr, 1) := by decide +kernel
theorem dL_law_174 : decode cL_law 174 = .ok (.bipush 13, 2) := by decide +kernel
theorem dL_law_176 : decode cL_law 176 = .ok (.invokestatic 96, 3) := by decide +kernel
theorem dL_law_179 : decode cL_law 179 = .ok (.iload 6, 2) := by decide +kernel
theorem dL_law_181 : decode cL_law 181 = .ok (.bipush 6, 2) := by decide +kernel
theorem dL_law_183 : decode cL_law 183 = .ok (.ishr, 1) := by decide +kernel
theorem dL_law_184 : decode cL_law 184 = .ok (.iload 7, 2) := by decide +kernel
theorem dL_law_186 : decode cL_law 186 = .ok (.invokestatic 124, 3) := by decide +kernel
theorem dL_law_189 : decode cL_law 189 = .ok (.ifCond .eq 60, 3) := by decide +kernel
theorem dL_law_192 : decode cL_law 192 = .ok (.aload_n 1, 1) := by decide +kernel
theorem dL_law_193 : decode cL_law 193 = .ok (.invokestatic 121, 3) := by decide +kernel
theorem dL_law_196 : decode cL_law 196 = .ok (.ifCond .eq 53, 3) := by decide +kernel
theorem dL_law_199 : decode cL_law 199 = .ok (.iload 5, 2) := by decide +kernel
theorem dL_law_201 : decode cL_law 201 = .ok (.bipush 7, 2) := by decide +kernel
theorem dL_law_203 : decode cL_law 203 = .ok (.irem, 1) := by decide +kernel
theorem dL_law_204 : decode cL_law 204 = .ok (.iconst 5, 1) := by decide +kernel
theorem dL_law_205 : decode cL_law 205 = .ok (.if_icmp .ne 10, 3) := by decide +kernel
theorem dL_law_208 : decode cL_law 208 = .ok (.aload_n 1, 1) := by decide +kernel
theorem dL_law_209 : decode cL_law 209 = .ok (.invokestatic 118, 3) := by decide +kernel
theorem dL_law_212 : decode cL_law 212 = .ok (.ifCond .eq 37, 3) := by decide +kernel
theorem dL_law_215 : decode cL_law 215 = .ok (.aload_n 1, 1) := by decide +kernel
theorem dL_law_216 : decode cL_law 216 = .ok (.iload 7, 2) := by decide +kernel
theorem dL_law_218 : decode cL_law 218 = .ok (.iconst 3, 1) := by decide +kernel
theorem dL_law_219 : decode cL_law 219 = .ok (.ishr, 1) := by decide +kernel
theorem dL_law_220 : decode cL_law 220 = .ok (.invokestatic 128, 3) := by decide +kernel
theorem dL_law_223 : decode cL_law 223 = .ok (.ifCond .eq 26, 3) := by decide +kernel
theorem dL_law_226 : decode cL_law 226 = .ok (.iload 5, 2) := by decide +kernel
theorem dL_law_228 : decode cL_law 228 = .ok (.iconst 4, 1) := by decide +kernel
theorem dL_law_229 : decode cL_law 229 = .ok (.irem, 1) := by decide +kernel
theorem dL_law_230 : decode cL_law 230 = .ok (.iconst 1, 1) := by decide +kernel
theorem dL_law_231 : decode cL_law 231 = .ok (.if_icmp .ne 14, 3) := by decide +kernel
theorem dL_law_234 : decode cL_law 234 = .ok (.aload_n 1, 1) := by decide +kernel
theorem dL_law_235 : decode cL_law 235 = .ok (.iload 6, 2) := by decide +kernel
theorem dL_law_237 : decode cL_law 237 = .ok (.iconst 5, 1) := by decide +kernel
theorem dL_law_238 : decode cL_law 238 = .ok (.ishr, 1) := by decide +kernel
theorem dL_law_239 : decode cL_law 239 = .ok (.invokestatic 131, 3) := by decide +kernel
theorem dL_law_242 : decode cL_law 242 = .ok (.ifCond .eq 7, 3) := by decide +kernel
theorem dL_law_245 : decode cL_law 245 = .ok (.iconst 1, 1) := by decide +kernel
theorem dL_law_246 : decode cL_law 246 = .ok (.goto 4, 3) := by decide +kernel
theorem dL_law_249 : decode cL_law 249 = .ok (.iconst 0, 1) := by decide +kernel
theorem dL_law_250 : decode cL_law 250 = .ok (.istore 4, 2) := by decide +kernel
theorem dL_law_252 : decode cL_law 252 = .ok (.iload 4, 2) := by decide +kernel
theorem dL_law_254 : decode cL_law 254 = .ok (.ifCond .eq 101, 3) := by decide +kernel
theorem dL_law_257 : decode cL_law 257 = .ok (.iload 5, 2) := by decide +kernel
theorem dL_law_259 : decode cL_law 259 = .ok (.iconst 5, 1) := by decide +kernel
theorem dL_law_260 : decode cL_law 260 = .ok (.irem, 1) := by decide +kernel
theorem dL_law_261 : decode cL_law 261 = .ok (.iconst 4, 1) := by decide +kernel
theorem dL_law_262 : decode cL_law 262 = .ok (.if_icmp .ne 93, 3) := by decide +kernel
theorem dL_law_265 : decode cL_law 265 = .ok (.aload_n 1, 1) := by decide +kernel
theorem dL_law_266 : decode cL_law 266 = .ok (.invokestatic 32, 3) := by decide +kernel
theorem dL_law_269 : decode cL_law 269 = .ok (.lstore 8, 2) := by decide +kernel
theorem dL_law_271 : decode cL_law 271 = .ok (.aload_n 1, 1) := by decide +kernel
theorem dL_law_272 : decode cL_law 272 = .ok (.iconst 1, 1) := by decide +kernel
theorem dL_law_273 : decode cL_law 273 = .ok (.bipush 7, 2) := by decide +kernel
theorem dL_law_275 : decode cL_law 275 = .ok (.invokevirtual 38, 3) := by decide +kernel
theorem dL_law_278 : decode cL_law 278 = .ok (.ifCond .le 74, 3) := by decide +kernel
theorem dL_law_281 : decode cL_law 281 = .ok (.aload_n 1, 1) := by decide +kernel
theorem dL_law_282 : decode cL_law 282 = .ok (.iconst 1, 1) := by decide +kernel
theorem dL_law_283 : decode cL_law 283 = .ok (.iconst 1, 1) := by decide +kernel
theorem dL_law_284 : decode cL_law 284 = .ok (.invokevirtual 41, 3) := by decide +kernel
theorem dL_law_287 : decode cL_law 287 = .ok (.iconst (-1), 1) := by decide +kernel
theorem dL_law_288 : decode cL_law 288 = .ok (.if_icmp .eq 64, 3) := by decide +kernel
theorem dL_law_291 : decode cL_law 291 = .ok (.aload_n 1, 1) := by decide +kernel
theorem dL_law_292 : decode cL_law 292 = .ok (.iconst 2, 1) := by decide +kernel
theorem dL_law_293 : decode cL_law 293 = .ok (.iload 7, 2) := by decide +kernel
theorem dL_law_295 : decode cL_law 295 = .ok (.sipush 400, 3) := by decide +kernel
theorem dL_law_298 : decode cL_law 298 = .ok (.invokestatic 96, 3) := by decide +kernel
theorem dL_law_301 : decode cL_law 301 = .ok (.invokevirtual 50, 3) := by decide +kernel
theorem dL_law_304 : decode cL_law 304 = .ok (.ifCond .lt 48, 3) := by decide +kernel
theorem dL_law_307 : decode cL_law 307 = .ok (.aload_n 1, 1) := by decide +kernel
theorem dL_law_308 : decode cL_law 308 = .ok (.invokevirtual 99, 3) := by decide +kernel
theorem dL_law_311 : decode cL_law 311 = .ok (.ifCond .lt 41, 3) := by decide +kernel
theorem dL_law_314 : decode cL_law 314 = .ok (.aload_n 1, 1) := by decide +kernel
theorem dL_law_315 : decode cL_law 315 = .ok (.invokevirtual 99, 3) := by decide +kernel
theorem dL_law_318 : decode cL_law 318 = .ok (.ifCond .lt 34, 3) := by decide +kernel
theorem dL_law_321 : decode cL_law 321 = .ok (.aload_n 1, 1) := by decide +kernel
theorem dL_law_322 : decode cL_law 322 = .ok (.invokestatic 32, 3) := by decide +kernel
theorem dL_law_325 : decode cL_law 325 = .ok (.lload 8, 2) := by decide +kernel
theorem dL_law_327 : decode cL_law 327 = .ok (.lcmp, 1) := by decide +kernel
theorem dL_law_328 : decode cL_law 328 = .ok (.ifCond .eq 10, 3) := by decide +kernel
theorem dL_law_331 : decode cL_law 331 = .ok (.aload_n 1, 1) := by decide +kernel
theorem dL_law_332 : decode cL_law 332 = .ok (.invokevirtual 99, 3) := by decide +kernel
theorem dL_law_335 : decode cL_law 335 = .ok (.ifCond .lt 17, 3) := by decide +kernel
theorem dL_law_338 : decode cL_law 338 = .ok (.aload_n 1, 1) := by decide +kernel
theorem dL_law_339 : decode cL_law 339 = .ok (.invokestatic 32, 3) := by decide +kernel
theorem dL_law_342 : decode cL_law 342 = .ok (.lload 8, 2) := by decide +kernel
theorem dL_law_344 : decode cL_law 344 = .ok (.lcmp, 1) := by decide +kernel
theorem dL_law_345 : decode cL_law 345 = .ok (.ifCond .ne 7, 3) := by decide +kernel
theorem dL_law_348 : decode cL_law 348 = .ok (.iconst 1, 1) := by decide +kernel
theorem dL_law_349 : decode cL_law 349 = .ok (.goto 4, 3) := by decide +kernel
theorem dL_law_352 : decode cL_law 352 = .ok (.iconst 0, 1) := by decide +kernel
theorem dL_law_353 : decode cL_law 353 = .ok (.istore 4, 2) := by decide +kernel
theorem dL_law_355 : decode cL_law 355 = .ok (.iinc 5 1, 3) := by decide +kernel
theorem dL_law_358 : decode cL_law 358 = .ok (.goto (-233), 3) := by decide +kernel
theorem dL_law_361 : decode cL_law 361 = .ok (.iload 4, 2) := by decide +kernel
theorem dL_law_363 : decode cL_law 363 = .ok (.ifCond .eq 14, 3) := by decide +kernel
theorem dL_law_366 : decode cL_law 366 = .ok (.aload_n 1, 1) := by decide +kernel
theorem dL_law_367 : decode cL_law 367 = .ok (.invokestatic 118, 3) := by decide +kernel
theorem dL_law_370 : decode cL_law 370 = .ok (.ifCond .eq 7, 3) := by decide +kernel
theorem dL_law_373 : decode cL_law 373 = .ok (.iconst 1, 1) := by decide +kernel
theorem dL_law_374 : decode cL_law 374 = .ok (.goto 4, 3) := by decide +kernel
theorem dL_law_377 : decode cL_law 377 = .ok (.iconst 0, 1) := by decide +kernel
theorem dL_law_378 : decode cL_law 378 = .ok (.ireturn, 1) := by decide +kernel
