theorem dL_rulings_364 : decode cL_rulings 364 = .ok (.iload 4, 2) := by decide +kernel
theorem dL_rulings_366 : decode cL_rulings 366 = .ok (.bipush 8, 2) := by decide +kernel
theorem dL_rulings_368 : decode cL_rulings 368 = .ok (.invokevirtual 26, 3) := by decide +kernel
theorem dL_rulings_371 : decode cL_rulings 371 = .ok (.ifCond .ne 7, 3) := by decide +kernel
theorem dL_rulings_374 : decode cL_rulings 374 = .ok (.iconst 1, 1) := by decide +kernel
theorem dL_rulings_375 : decode cL_rulings 375 = .ok (.goto 4, 3) := by decide +kernel
theorem dL_rulings_378 : decode cL_rulings 378 = .ok (.iconst 0, 1) := by decide +kernel
theorem dL_rulings_379 : decode cL_rulings 379 = .ok (.istore_n 3, 1) := by decide +kernel
theorem dL_rulings_380 : decode cL_rulings 380 = .ok (.iinc 4 1, 3) := by decide +kernel
theorem dL_rulings_383 : decode cL_rulings 383 = .ok (.goto (-346), 3) := by decide +kernel
theorem dL_rulings_386 : decode cL_rulings 386 = .ok (.iload_n 3, 1) := by decide +kernel
theorem dL_rulings_387 : decode cL_rulings 387 = .ok (.ifCond .eq 26, 3) := by decide +kernel
theorem dL_rulings_390 : decode cL_rulings 390 = .ok (.iload_n 1, 1) := by decide +kernel
theorem dL_rulings_391 : decode cL_rulings 391 = .ok (.aload_n 0, 1) := by decide +kernel
theorem dL_rulings_392 : decode cL_rulings 392 = .ok (.iconst 5, 1) := by decide +kernel
theorem dL_rulings_393 : decode cL_rulings 393 = .ok (.invokevirtual 13, 3) := by decide +kernel
theorem dL_rulings_396 : decode cL_rulings 396 = .ok (.if_icmp .ne 17, 3) := by decide +kernel
theorem dL_rulings_399 : decode cL_rulings 399 = .ok (.iload_n 2, 1) := by decide +kernel
theorem dL_rulings_400 : decode cL_rulings 400 = .ok (.aload_n 0, 1) := by decide +kernel
theorem dL_rulings_401 : decode cL_rulings 401 = .ok (.bipush 6, 2) := by decide +kernel
theorem dL_rulings_403 : decode cL_rulings 403 = .ok (.invokevirtual 13, 3) := by decide +kernel
theorem dL_rulings_406 : decode cL_rulings 406 = .ok (.if_icmp .ne 7, 3) := by decide +kernel
theorem dL_rulings_409 : decode cL_rulings 409 = .ok (.iconst 1, 1) := by decide +kernel
theorem dL_rulings_410 : decode cL_rulings 410 = .ok (.goto 4, 3) := by decide +kernel
theorem dL_rulings_413 : decode cL_rulings 413 = .ok (.iconst 0, 1) := by decide +kernel
theorem dL_rulings_414 : decode cL_rulings 414 = .ok (.ireturn, 1) := by decide +kernel
theorem dL_holds_0 : decode cL_holds 0 = .ok (.aload_n 0, 1) := by decide +kernel
theorem dL_holds_1 : decode cL_holds 1 = .ok (.iconst 1, 1) := by decide +kernel
theorem dL_holds_2 : decode cL_holds 2 = .ok (.invokevirtual 13, 3) := by decide +kernel
theorem dL_holds_5 : decode cL_holds 5 = .ok (.istore_n 1, 1) := by decide +kernel
theorem dL_holds_6 : decode cL_holds 6 = .ok (.iconst 0, 1) := by decide +kernel
theorem dL_holds_7 : decode cL_holds 7 = .ok (.istore_n 2, 1) := by decide +kernel
theorem dL_holds_8 : decode cL_holds 8 = .ok (.iconst 0, 1) := by decide +kernel
theorem dL_holds_9 : decode cL_holds 9 = .ok (.istore_n 3, 1) := by decide +kernel
theorem dL_holds_10 : decode cL_holds 10 = .ok (.iconst 0, 1) := by decide +kernel
theorem dL_holds_11 : decode cL_holds 11 = .ok (.istore 4, 2) := by decide +kernel
theorem dL_holds_13 : decode cL_holds 13 = .ok (.iconst 0, 1) := by decide +kernel
theorem dL_holds_14 : decode cL_holds 14 = .ok (.istore 5, 2) := by decide +kernel
theorem dL_holds_16 : decode cL_holds 16 = .ok (.aload_n 0, 1) := by decide +kernel
theorem dL_holds_17 : decode cL_holds 17 = .ok (.invokestatic 34, 3) := by decide +kernel
theorem dL_holds_20 : decode cL_holds 20 = .ok (.ifCond .eq 69, 3) := by decide +kernel
theorem dL_holds_23 : decode cL_holds 23 = .ok (.iload_n 1, 1) := by decide +kernel
theorem dL_holds_24 : decode cL_holds 24 = .ok (.ifCond .lt 65, 3) := by decide +kernel
theorem dL_holds_27 : decode cL_holds 27 = .ok (.iload_n 1, 1) := by decide +kernel
theorem dL_holds_28 : decode cL_holds 28 = .ok (.iconst 4, 1) := by decide +kernel
theorem dL_holds_29 : decode cL_holds 29 = .ok (.if_icmp .gt 60, 3) := by decide +kernel
theorem dL_holds_32 : decode cL_holds 32 = .ok (.aload_n 0, 1) := by decide +kernel
theorem dL_holds_33 : decode cL_holds 33 = .ok (.iload_n 1, 1) := by decide +kernel
theorem dL_holds_34 : decode cL_holds 34 = .ok (.iconst 0, 1) := by decide +kernel
theorem dL_holds_35 : decode cL_holds 35 = .ok (.invokevirtual 19, 3) := by decide +kernel
theorem dL_holds_38 : decode cL_holds 38 = .ok (.iconst (-1), 1) := by decide +kernel
theorem dL_holds_39 : decode cL_holds 39 = .ok (.if_icmp .ne 50, 3) := by decide +kernel
theorem dL_holds_42 : decode cL_holds 42 = .ok (.aload_n 0, 1) := by decide +kernel
theorem dL_holds_43 : decode cL_holds 43 = .ok (.bipush 10, 2) := by decide +kernel
theorem dL_holds_45 : decode cL_holds 45 = .ok (.invokevirtual 13, 3) := by decide +kernel
theorem dL_holds_48 : decode cL_holds 48 = .ok (.iconst 1, 1) := by decide +kernel
theorem dL_holds_49 : decode cL_holds 49 = .ok (.if_icmp .lt 40, 3) := by decide +kernel
theorem dL_holds_52 : decode cL_holds 52 = .ok (.aload_n 0, 1) := by decide +kernel
theorem dL_holds_53 : decode cL_holds 53 = .ok (.bipush 10, 2) := by decide +kernel
theorem dL_holds_55 : decode cL_holds 55 = .ok (.invokevirtual 13, 3) := by decide +kernel
theorem dL_holds_58 : decode cL_holds 58 = .ok (.bipush 30, 2) := by decide +kernel
theorem dL_holds_60 : decode cL_holds 60 = .ok (.if_icmp .gt 29, 3) := by decide +kernel
theorem dL_holds_63 : decode cL_holds 63 = .ok (.aload_n 0, 1) := by decide +kernel
theorem dL_holds_64 : decode cL_holds 64 = .ok (.bipush 11, 2) := by decide +kernel
theorem dL_holds_66 : decode cL_holds 66 = .ok (.invokevirtual 13, 3) := by decide +kernel
theorem dL_holds_69 : decode cL_holds 69 = .ok (.bipush 9, 2) := by decide +kernel
theorem dL_holds_71 : decode cL_holds 71 = .ok (.if_icmp .lt 18, 3) := by decide +kernel
theorem dL_holds_74 : decode cL_holds 74 = .ok (.aload_n 0, 1) := by decide +kernel
theorem dL_holds_75 : decode cL_holds 75 = .ok (.bipush 11, 2) := by decide +kernel
theorem dL_holds_77 : decode cL_holds 77 = .ok (.invokevirtual 13, 3) := by decide +kernel
theorem dL_holds_80 : decode cL_holds 80 = .ok (.bipush 60, 2) := by decide +kernel
theorem dL_holds_82 : decode cL_holds 82 = .ok (.if_icmp .gt 7, 3) := by decide +kernel
theorem dL_holds_85 : decode cL_holds 85 = .ok (.iconst 1, 1) := by decide +kernel
theorem dL_holds_86 : decode cL_holds 86 = .ok (.goto 4, 3) := by decide +kernel
theorem dL_holds_89 : decode cL_holds 89 = .ok (.iconst 0, 1) := by decide +kernel
theorem dL_holds_90 : decode cL_holds 90 = .ok (.istore 6, 2) := by decide +kernel
theorem dL_holds_92 : decode cL_holds 92 = .ok (.iconst 0, 1) := by decide +kernel
theorem dL_holds_93 : decode cL_holds 93 = .ok (.istore 7, 2) := by decide +kernel
theorem dL_holds_95 : decode cL_holds 95 = .ok (.iload 7, 2) := by decide +kernel
theorem dL_holds_97 : decode cL_holds 97 = .ok (.iload_n 1, 1) := by decide +kernel
theorem dL_holds_98 : decode cL_holds 98 = .ok (.if_icmp .ge 696, 3) := by decide +kernel
theorem dL_holds_101 : decode cL_holds 101 = .ok (.iload 6, 2) := by decide +kernel
theorem dL_holds_103 : decode cL_holds 103 = .ok (.ifCond .eq 691, 3) := by decide +kernel
theorem dL_holds_106 : decode cL_holds 106 = .ok (.aload_n 0, 1) := by decide +kernel
theorem dL_holds_107 : decode cL_holds 107 = .ok (.iload 7, 2) := by decide +kernel
theorem dL_holds_109 : decode cL_holds 109 = .ok (.iconst 0, 1) := by decide +kernel
theorem dL_holds_110 : decode cL_holds 110 = .ok (.invokevirtual 19, 3) := by decide +kernel
theorem dL_holds_113 : decode cL_holds 113 = .ok (.istore 8, 2) := by decide +kernel
theorem dL_holds_115 : decode cL_holds 115 = .ok (.aload_n 0, 1) := by decide +kernel
theorem dL_holds_116 : decode cL_holds 116 = .ok (.iload 7, 2) := by decide +kernel
theorem dL_holds_118 : decode cL_holds 118 = .ok (.iconst 1, 1) := by decide +kernel
theorem dL_holds_119 : decode cL_holds 119 = .ok (.invokevirtual 19, 3) := by decide +kernel
theorem dL_holds_122 : decode cL_holds 122 = .ok (.istore 9, 2) := by decide +kernel
theorem dL_holds_124 : decode cL_holds 124 = .ok (.iconst 0, 1) := by decide +kernel
theorem dL_holds_125 : decode cL_holds 125 = .ok (.istore 10, 2) := by decide +kernel
theorem dL_holds_127 : decode cL_holds 127 = .ok (.iload_n 2, 1) := by decide +kernel
theorem dL_holds_128 : decode cL_holds 128 = .ok (.iload 8, 2) := by decide +kernel
theorem dL_holds_130 : decode cL_holds 130 = .ok (.iadd, 1) := by decide +kernel
theorem dL_holds_131 : decode cL_holds 131 = .ok (.istore_n 2, 1) := by decide +kernel
theorem dL_holds_132 : decode cL_holds 132 = .ok (.iload_n 3, 1) := by decide +kernel
theorem dL_holds_133 : decode cL_holds 133 = .ok (.iload 9, 2) := by decide +kernel
theorem dL_holds_135 : decode cL_holds 135 = .ok (.invokestatic 29, 3) := by decide +kernel
theorem dL_holds_138 : decode cL_holds 138 = .ok (.iadd, 1) := by decide +kernel
theorem dL_holds_139 : decode cL_holds 139 = .ok (.istore_n 3, 1) := by decide +kernel
theorem dL_holds_140 : decode cL_holds 140 = .ok (.iload 4, 2) := by decide +kernel
theorem dL_holds_142 : decode cL_holds 142 = .ok (.aload_n 0, 1) := by decide +kernel
theorem dL_holds_143 : decode cL_holds 143 = .ok (.iload 7, 2) := by decide +kernel
theorem dL_holds_145 : decode cL_holds 145 = .ok (.bipush 6, 2) := by decide +kernel
theorem dL_holds_147 : decode cL_holds 147 = .ok (.invokevirtual 19, 3) := by decide +kernel
theorem dL_holds_150 : decode cL_holds 150 = .ok (.iadd, 1) := by decide +kernel
theorem dL_holds_151 : decode cL_holds 151 = .ok (.istore 4, 2) := by decide +kernel
theorem dL_holds_153 : decode cL_holds 153 = .ok (.iload 5, 2) := by decide +kernel
theorem dL_holds_155 : decode cL_holds 155 = .ok (.aload_n 0, 1) := by decide +kernel
theorem dL_holds_156 : decode cL_holds 156 = .ok (.iload 7, 2) := by decide +kernel
theorem dL_holds_158 : decode cL_holds 158 = .ok (.bipush 7, 2) := by decide +kernel
theorem dL_holds_160 : decode cL_holds 160 = .ok (.invokevirtual 19, 3) := by decide +kernel
theorem dL_holds_163 : decode cL_holds 163 = .ok (.iadd, 1) := by decide +kernel
theorem dL_holds_164 : decode cL_holds 164 = .ok (.istore 5, 2) := by decide +kernel
theorem dL_holds_166 : decode cL_holds 166 = .ok (.iconst 0, 1) := by decide +kernel
theorem dL_holds_167 : decode cL_holds 167 = .ok (.istore 11, 2) := by decide +kernel
theorem dL_holds_169 : decode cL_holds 169 = .ok (.iload 11, 2) := by decide +kernel
theorem dL_holds_171 : decode cL_holds 171 = .ok (.iload 8, 2) := by decide +kernel
theorem dL_holds_173 : decode cL_holds 173 = .ok (.iconst 1, 1) := by decide +kernel
theorem dL_holds_174 : decode cL_holds 174 = .ok (.isub, 1) := by decide +kernel
theorem dL_holds_175 : decode cL_holds 175 = .ok (.if_icmp .ge 224, 3) := by decide +kernel
theorem dL_holds_178 : decode cL_holds 178 = .ok (.iload 6, 2) := by decide +kernel
theorem dL_holds_180 : decode cL_holds 180 = .ok (.ifCond .eq 219, 3) := by decide +kernel
theorem dL_holds_183 : decode cL_holds 183 = .ok (.aload_n 0, 1) := by decide +kernel
theorem dL_holds_184 : decode cL_holds 184 = .ok (.iload 7, 2) := by decide +kernel
theorem dL_holds_186 : decode cL_holds 186 = .ok (.iload 11, 2) := by decide +kernel
theorem dL_holds_188 : decode cL_holds 188 = .ok (.invokestatic 38, 3) := by decide +kernel
theorem dL_holds_191 : decode cL_holds 191 = .ok (.istore 12, 2) := by decide +kernel
theorem dL_holds_193 : decode cL_holds 193 = .ok (.aload_n 0, 1) := by decide +kernel
theorem dL_holds_194 : decode cL_holds 194 = .ok (.iload 7, 2) := by decide +kernel
theorem dL_holds_196 : decode cL_holds 196 = .ok (.iload 11, 2) := by decide +kernel
theorem dL_holds_198 : decode cL_holds 198 = .ok (.iconst 1, 1) := by decide +kernel
theorem dL_holds_199 : decode cL_holds 199 = .ok (.iadd, 1) := by decide +kernel
theorem dL_holds_200 : decode cL_holds 200 = .ok (.invokestatic 38, 3) := by decide +kernel
theorem dL_holds_203 : decode cL_holds 203 = .ok (.istore 13, 2) := by decide +kernel
theorem dL_holds_205 : decode cL_holds 205 = .ok (.bipush (-4), 2) := by decide +kernel
theorem dL_holds_207 : decode cL_holds 207 = .ok (.istore 14, 2) := by decide +kernel
theorem dL_holds_209 : decode cL_holds 209 = .ok (.iconst 0, 1) := by decide +kernel
theorem dL_holds_210 : decode cL_holds 210 = .ok (.istore 15, 2) := by decide +kernel
theorem dL_holds_212 : decode cL_holds 212 = .ok (.iload 15, 2) := by decide +kernel
theorem dL_holds_214 : decode cL_holds 214 = .ok (.aload_n 0, 1) := by decide +kernel
theorem dL_holds_215 : decode cL_holds 215 = .ok (.iconst 4, 1) := by decide +kernel
theorem dL_holds_216 : decode cL_holds 216 = .ok (.invokevirtual 13, 3) := by decide +kernel
theorem dL_holds_219 : decode cL_holds 219 = .ok (.if_icmp .ge 53, 3) := by decide +kernel
theorem dL_holds_222 : decode cL_holds 222 = .ok (.aload_n 0, 1) := by decide +kernel
theorem dL_holds_223 : decode cL_holds 223 = .ok (.iload 15, 2) := by decide +kernel
theorem dL_holds_225 : decode cL_holds 225 = .ok (.iconst 5, 1) := by decide +kernel
theorem dL_holds_226 : decode cL_holds 226 = .ok (.invokevirtual 26, 3) := by decide +kernel
theorem dL_holds_229 : decode cL_holds 229 = .ok (.iconst 1, 1) := by decide +kernel
theorem dL_holds_230 : decode cL_holds 230 = .ok (.if_icmp .ne 32, 3) := by decide +kernel
theorem dL_holds_233 : decode cL_holds 233 = .ok (.aload_n 0, 1) := by decide +kernel
theorem dL_holds_234 : decode cL_holds 234 = .ok (.iload 15, 2) := by decide +kernel
theorem dL_holds_236 : decode cL_holds 236 = .ok (.iconst 0, 1) := by decide +kernel
theorem dL_holds_237 : decode cL_holds 237 = .ok (.invokevirtual 26, 3) := by decide +kernel
theorem dL_holds_240 : decode cL_holds 240 = .ok (.iload 12, 2) := by decide +kernel
theorem dL_holds_242 : decode cL_holds 242 = .ok (.if_icmp .ne 20, 3) := by decide +kernel
theorem dL_holds_245 : decode cL_holds 245 = .ok (.aload_n 0, 1) := by decide +kernel
theorem dL_holds_246 : decode cL_holds 246 = .ok (.iload 15, 2) := by decide +kernel
theorem dL_holds_248 : decode cL_holds 248 = .ok (.iconst 1, 1) := by decide +kernel
theorem dL_holds_249 : decode cL_holds 249 = .ok (.invokevirtual 26, 3) := by decide +kernel
theorem dL_holds_252 : decode cL_holds 252 = .ok (.iload 13, 2) := by decide +kernel
theorem dL_holds_254 : decode cL_holds 254 = .ok (.if_icmp .ne 8, 3) := by decide +kernel
theorem dL_holds_257 : decode cL_holds 257 = .ok (.iload 15, 2) := by decide +kernel
theorem dL_holds_259 : decode cL_holds 259 = .ok (.goto 5, 3) := by decide +kernel
theorem dL_holds_262 : decode cL_holds 262 = .ok (.iload 14, 2) := by decide +kernel
theorem dL_holds_264 : decode cL_holds 264 = .ok (.istore 14, 2) := by decide +kernel
theorem dL_holds_266 : decode cL_holds 266 = .ok (.iinc 15 1, 3) := by decide +kernel
theorem dL_holds_269 : decode cL_holds 269 = .ok (.goto (-57), 3) := by decide +kernel
theorem dL_holds_272 : decode cL_holds 272 = .ok (.iload 9, 2) := by decide +kernel
theorem dL_holds_274 : decode cL_holds 274 = .ok (.iload 11, 2) := by decide +kernel
theorem dL_holds_276 : decode cL_holds 276 = .ok (.ishr, 1) := by decide +kernel
theorem dL_holds_277 : decode cL_holds 277 = .ok (.iconst 1, 1) := by decide +kernel
theorem dL_holds_278 : decode cL_holds 278 = .ok (.iand, 1) := by decide +kernel
theorem dL_holds_279 : decode cL_holds 279 = .ok (.istore 15, 2) := by decide +kernel
theorem dL_holds_281 : decode cL_holds 281 = .ok (.iload 14, 2) := by decide +kernel
theorem dL_holds_283 : decode cL_holds 283 = .ok (.bipush (-4), 2) := by decide +kernel
theorem dL_holds_285 : decode cL_holds 285 = .ok (.if_icmp .eq 15, 3) := by decide +kernel
theorem dL_holds_288 : decode cL_holds 288 = .ok (.aload_n 0, 1) := by decide +kernel
theorem dL_holds_289 : decode cL_holds 289 = .ok (.iload 14, 2) := by decide +kernel
theorem dL_holds_291 : decode cL_holds 291 = .ok (.iconst 2, 1) := by decide +kernel
theorem dL_holds_292 : decode cL_holds 292 = .ok (.invokevirtual 26, 3) := by decide +kernel
theorem dL_holds_295 : decode cL_holds 295 = .ok (.iload 15, 2) := by decide +kernel
theorem dL_holds_297 : decode cL_holds 297 = .ok (.if_icmp .ne 7, 3) := by decide +kernel
theorem dL_holds_300 : decode cL_holds 300 = .ok (.iconst 0, 1) := by decide +kernel
theorem dL_holds_301 : decode cL_holds 301 = .ok (.goto 10, 3) := by decide +kernel
theorem dL_holds_304 : decode cL_holds 304 = .ok (.aload_n 0, 1) := by decide +kernel
theorem dL_holds_305 : decode cL_holds 305 = .ok (.iload 14, 2) := by decide +kernel
theorem dL_holds_307 : decode cL_holds 307 = .ok (.iconst 3, 1) := by decide +kernel
theorem dL_holds_308 : decode cL_holds 308 = .ok (.invokevirtual 26, 3) := by decide +kernel
theorem dL_holds_311 : decode cL_holds 311 = .ok (.istore 16, 2) := by decide +kernel
theorem dL_holds_313 : decode cL_holds 313 = .ok (.iload 10, 2) := by decide +kernel
theorem dL_holds_315 : decode cL_holds 315 = .ok (.iload 16, 2) := by decide +kernel
theorem dL_holds_317 : decode cL_holds 317 = .ok (.iadd, 1) := by decide +kernel
theorem dL_holds_318 : decode cL_holds 318 = .ok (.istore 10, 2) := by decide +kernel
theorem dL_holds_320 : decode cL_holds 320 = .ok (.aload_n 0, 1) := by decide +kernel
theorem dL_holds_321 : decode cL_holds 321 = .ok (.iload 7, 2) := by decide +kernel
theorem dL_holds_323 : decode cL_holds 323 = .ok (.iload 11, 2) := by decide +kernel
theorem dL_holds_325 : decode cL_holds 325 = .ok (.iconst 0, 1) := by decide +kernel
theorem dL_holds_326 : decode cL_holds 326 = .ok (.invokevirtual 42, 3) := by decide +kernel
theorem dL_holds_329 : decode cL_holds 329 = .ok (.iload 15, 2) := by decide +kernel
theorem dL_holds_331 : decode cL_holds 331 = .ok (.if_icmp .ne 59, 3) := by decide +kernel
theorem dL_holds_334 : decode cL_holds 334 = .ok (.aload_n 0, 1) := by decide +kernel
theorem dL_holds_335 : decode cL_holds 335 = .ok (.iload 7, 2) := by decide +kernel
theorem dL_holds_337 : decode cL_holds 337 = .ok (.iload 11, 2) := by decide +kernel
theorem dL_holds_339 : decode cL_holds 339 = .ok (.iconst 1, 1) := by decide +kernel
theorem dL_holds_340 : decode cL_holds 340 = .ok (.invokevirtual 42, 3) := by decide +kernel
theorem dL_holds_343 : decode cL_holds 343 = .ok (.iload 14, 2) := by decide +kernel
theorem dL_holds_345 : decode cL_holds 345 = .ok (.if_icmp .ne 45, 3) := by decide +kernel
theorem dL_holds_348 : decode cL_holds 348 = .ok (.aload_n 0, 1) := by decide +kernel
theorem dL_holds_349 : decode cL_holds 349 = .ok (.iload 7, 2) := by decide +kernel
theorem dL_holds_351 : decode cL_holds 351 = .ok (.iload 11, 2) := by decide +kernel
theorem dL_holds_353 : decode cL_holds 353 = .ok (.iconst 2, 1) := by decide +kernel
theorem dL_holds_354 : decode cL_holds 354 = .ok (.invokevirtual 42, 3) := by decide +kernel
theorem dL_holds_357 : decode cL_holds 357 = .ok (.iload 16, 2) := by decide +kernel
theorem dL_holds_359 : decode cL_holds 359 = .ok (.if_icmp .ne 31, 3) := by decide +kernel
theorem dL_holds_362 : decode cL_holds 362 = .ok (.aload_n 0, 1) := by decide +kernel
theorem dL_holds_363 : decode cL_holds 363 = .ok (.iload 7, 2) := by decide +kernel
theorem dL_holds_365 : decode cL_holds 365 = .ok (.iload 11, 2) := by decide +kernel
theorem dL_holds_367 : decode cL_holds 367 = .ok (.iconst 3, 1) := by decide +kernel
theorem dL_holds_368 : decode cL_holds 368 = .ok (.invokevirtual 42, 3) := by decide +kernel
theorem dL_holds_371 : decode cL_holds 371 = .ok (.ifCond .lt 19, 3) := by decide +kernel
theorem dL_holds_374 : decode cL_holds 374 = .ok (.iload 12, 2) := by decide +kernel
theorem dL_holds_376 : decode cL_holds 376 = .ok (.ifCond .lt 14, 3) := by decide +kernel
theorem dL_holds_379 : decode cL_holds 379 = .ok (.iload 12, 2) := by decide +kernel
theorem dL_holds_381 : decode cL_holds 381 = .ok (.bipush 6, 2) := by decide +kernel
theorem dL_holds_383 : decode cL_holds 383 = .ok (.if_icmp .ge 7, 3) := by decide +kernel
theorem dL_holds_386 : decode cL_holds 386 = .ok (.iconst 1, 1) := by decide +kernel
theorem dL_holds_387 : decode cL_holds 387 = .ok (.goto 4, 3) := by decide +kernel
theorem dL_holds_390 : decode cL_holds 390 = .ok (.iconst 0, 1) := by decide +kernel
theorem dL_holds_391 : decode cL_holds 391 = .ok (.istore 6, 2) := by decide +kernel
theorem dL_holds_393 : decode cL_holds 393 = .ok (.iinc 11 1, 3) := by decide +kernel
theorem dL_holds_396 : decode cL_holds 396 = .ok (.goto (-227), 3) := by decide +kernel
theorem dL_holds_399 : decode cL_holds 399 = .ok (.iload 6, 2) := by decide +kernel
theorem dL_holds_401 : decode cL_holds 401 = .ok (.ifCond .eq 267, 3) := by decide +kernel
theorem dL_holds_404 : decode cL_holds 404 = .ok (.iload 8, 2) := by decide +kernel
theorem dL_holds_406 : decode cL_holds 406 = .ok (.iconst 1, 1) := by decide +kernel
theorem dL_holds_407 : decode cL_holds 407 = .ok (.if_icmp .lt 261, 3) := by decide +kernel
theorem dL_holds_410 : decode cL_holds 410 = .ok (.iload 8, 2) := by decide +kernel
theorem dL_holds_412 : decode cL_holds 412 = .ok (.bipush 12, 2) := by decide +kernel
theorem dL_holds_414 : decode cL_holds 414 = .ok (.if_icmp .gt 254, 3) := by decide +kernel
theorem dL_holds_417 : decode cL_holds 417 = .ok (.iload 9, 2) := by decide +kernel
theorem dL_holds_419 : decode cL_holds 419 = .ok (.ifCond .lt 249, 3) := by decide +kernel
theorem dL_holds_422 : decode cL_holds 422 = .ok (.iload 9, 2) := by decide +kernel
theorem dL_holds_424 : decode cL_holds 424 = .ok (.iconst 1, 1) := by decide +kernel
theorem dL_holds_425 : decode cL_holds 425 = .ok (.iload 8, 2) := by decide +kernel
theorem dL_holds_427 : decode cL_holds 427 = .ok (.iconst 1, 1) := by decide +kernel
theorem dL_holds_428 : decode cL_holds 428 = .ok (.isub, 1) := by decide +kernel
theorem dL_holds_429 : decode cL_holds 429 = .ok (.ishl, 1) := by decide +kernel
theorem dL_holds_430 : decode cL_holds 430 = .ok (.if_icmp .ge 238, 3) := by decide +kernel
theorem dL_holds_433 : decode cL_holds 433 = .ok (.aload_n 0, 1) := by decide +kernel
theorem dL_holds_434 : decode cL_holds 434 = .ok (.iload 7, 2) := by decide +kernel
theorem dL_holds_436 : decode cL_holds 436 = .ok (.iconst 2, 1) := by decide +kernel
theorem dL_holds_437 : decode cL_holds 437 = .ok (.invokevirtual 19, 3) := by decide +kernel
theorem dL_holds_440 : decode cL_holds 440 = .ok (.iload 9, 2) := by decide +kernel
theorem dL_holds_442 : decode cL_holds 442 = .ok (.invokestatic 29, 3) := by decide +kernel
theorem dL_holds_445 : decode cL_holds 445 = .ok (.iconst 1, 1) := by decide +kernel
theorem dL_holds_446 : decode cL_holds 446 = .ok (.iadd, 1) := by decide +kernel
theorem dL_holds_447 : decode cL_holds 447 = .ok (.if_icmp .ne 221, 3) := by decide +kernel
theorem dL_holds_450 : decode cL_holds 450 = .ok (.aload_n 0, 1) := by decide +kernel
theorem dL_holds_451 : decode cL_holds 451 = .ok (.iload 7, 2) := by decide +kernel
theorem dL_holds_453 : decode cL_holds 453 = .ok (.iconst 3, 1) := by decide +kernel
theorem dL_holds_454 : decode cL_holds 454 = .ok (.invokevirtual 19, 3) := by decide +kernel
theorem dL_holds_457 : decode cL_holds 457 = .ok (.iload 8, 2) := by decide +kernel
theorem dL_holds_459 : decode cL_holds 459 = .ok (.if_icmp .lt 209, 3) := by decide +kernel
theorem dL_holds_462 : decode cL_holds 462 = .ok (.aload_n 0, 1) := by decide +kernel
theorem dL_holds_463 : decode cL_holds 463 = .ok (.iload 7, 2) := by decide +kernel
theorem dL_holds_465 : decode cL_holds 465 = .ok (.iconst 3, 1) := by decide +kernel
theorem dL_holds_466 : decode cL_holds 466 = .ok (.invokevirtual 19, 3) := by decide +kernel
theorem dL_holds_469 : decode cL_holds 469 = .ok (.bipush 9, 2) := by decide +kernel
theorem dL_holds_471 : decode cL_holds 471 = .ok (.iload 8, 2) := by decide +kernel
theorem dL_holds_473 : decode cL_holds 473 = .ok (.imul, 1) := by decide +kernel
theorem dL_holds_474 : decode cL_holds 474 = .ok (.if_icmp .gt 194, 3) := by decide +kernel
theorem dL_holds_477 : decode cL_holds 477 = .ok (.aload_n 0, 1) := by decide +kernel
theorem dL_holds_478 : decode cL_holds 478 = .ok (.iload 7, 2) := by decide +kernel
theorem dL_holds_480 : decode cL_holds 480 = .ok (.iconst 5, 1) := by decide +kernel
theorem dL_holds_481 : decode cL_holds 481 = .ok (.invokevirtual 19, 3) := by decide +kernel
theorem dL_holds_484 : decode cL_holds 484 = .ok (.iload 10, 2) := by decide +kernel
theorem dL_holds_486 : decode cL_holds 486 = .ok (.if_icmp .ne 182, 3) := by decide +kernel
theorem dL_holds_489 : decode cL_holds 489 = .ok (.aload_n 0, 1) := by decide +kernel
theorem dL_holds_490 : decode cL_holds 490 = .ok (.iload 7, 2) := by decide +kernel
theorem dL_holds_492 : decode cL_holds 492 = .ok (.bipush 6, 2) := by decide +kernel
theorem dL_holds_494 : decode cL_holds 494 = .ok (.invokevirtual 19, 3) := by decide +kernel
theorem dL_holds_497 : decode cL_holds 497 = .ok (.aload_n 0, 1) := by decide +kernel
theorem dL_holds_498 : decode cL_holds 498 = .ok (.iload 7, 2) := by decide +kernel
theorem dL_holds_500 : decode cL_holds 500 = .ok (.iconst 4, 1) := by decide +kernel
theorem dL_holds_501 : decode cL_holds 501 = .ok (.invokevirtual 19, 3) := by decide +kernel
theorem dL_holds_504 : decode cL_holds 504 = .ok (.iload 10, 2) := by decide +kernel
theorem dL_holds_506 : decode cL_holds 506 = .ok (.iadd, 1) := by decide +kernel
theorem dL_holds_507 : decode cL_holds 507 = .ok (.if_icmp .ne 161, 3) := by decide +kernel
theorem dL_holds_510 : decode cL_holds 510 = .ok (.aload_n 0, 1) := by decide +kernel
theorem dL_holds_511 : decode cL_holds 511 = .ok (.iload 7, 2) := by decide +kernel
theorem dL_holds_513 : decode cL_holds 513 = .ok (.bipush 7, 2) := by decide +kernel
theorem dL_holds_515 : decode cL_holds 515 = .ok (.invokevirtual 19, 3) := by decide +kernel
theorem dL_holds_518 : decode cL_holds 518 = .ok (.aload_n 0, 1) := by decide +kernel
theorem dL_holds_519 : decode cL_holds 519 = .ok (.iconst 0, 1) := by decide +kernel
theorem dL_holds_520 : decode cL_holds 520 = .ok (.invokevirtual 13, 3) := by decide +kernel
theorem dL_holds_523 : decode cL_holds 523 = .ok (.aload_n 0, 1) := by decide +kernel
theorem dL_holds_524 : decode cL_holds 524 = .ok (.iload 7, 2) := by decide +kernel
theorem dL_holds_526 : decode cL_holds 526 = .ok (.bipush 8, 2) := by decide +kernel
theorem dL_holds_528 : decode cL_holds 528 = .ok (.invokevirtual 19, 3) := by decide +kernel
theorem dL_holds_531 : decode cL_holds 531 = .ok (.if_icmp .ge 7, 3) := by decide +kernel
theorem dL_holds_534 : decode cL_holds 534 = .ok (.iconst 1, 1) := by decide +kernel
theorem dL_holds_535 : decode cL_holds 535 = .ok (.goto 4, 3) := by decide +kernel
theorem dL_holds_538 : decode cL_holds 538 = .ok (.iconst 0, 1) := by decide +kernel
theorem dL_holds_539 : decode cL_holds 539 = .ok (.if_icmp .ne 129, 3) := by decide +kernel
theorem dL_holds_542 : decode cL_holds 542 = .ok (.aload_n 0, 1) := by decide +kernel
theorem dL_holds_543 : decode cL_holds 543 = .ok (.iload 7, 2) := by decide +kernel
theorem dL_holds_545 : decode cL_holds 545 = .ok (.iload 8, 2) := by decide +kernel
theorem dL_holds_547 : decode cL_holds 547 = .ok (.iconst 1, 1) := by decide +kernel
theorem dL_holds_548 : decode cL_holds 548 = .ok (.isub, 1) := by decide +kernel
theorem dL_holds_549 : decode cL_holds 549 = .ok (.iconst 0, 1) := by decide +kernel
theorem dL_holds_550 : decode cL_holds 550 = .ok (.invokevirtual 42, 3) := by decide +kernel
theorem dL_holds_553 : decode cL_holds 553 = .ok (.iconst (-1), 1) := by decide +kernel
theorem dL_holds_554 : decode cL_holds 554 = .ok (.if_icmp .ne 114, 3) := by decide +kernel
theorem dL_holds_557 : decode cL_holds 557 = .ok (.aload_n 0, 1) := by decide +kernel
theorem dL_holds_558 : decode cL_holds 558 = .ok (.iload 7, 2) := by decide +kernel
theorem dL_holds_560 : decode cL_holds 560 = .ok (.iload 8, 2) := by decide +kernel
theorem dL_holds_562 : decode cL_holds 562 = .ok (.iload 9, 2) := by decide +kernel
theorem dL_holds_564 : decode cL_holds 564 = .ok (.invokestatic 29, 3) := by decide +kernel
theorem dL_holds_567 : decode cL_holds 567 = .ok (.iadd, 1) := by decide +kernel
theorem dL_holds_568 : decode cL_holds 568 = .ok (.invokevirtual 23, 3) := by decide +kernel
theorem dL_holds_571 : decode cL_holds 571 = .ok (.bipush (-4), 2) := by decide +kernel
theorem dL_holds_573 : decode cL_holds 573 = .ok (.if_icmp .ne 95, 3) := by decide +kernel
theorem dL_holds_576 : decode cL_holds 576 = .ok (.aload_n 0, 1) := by decide +kernel
theorem dL_holds_577 : decode cL_holds 577 = .ok (.iload 7, 2) := by decide +kernel
theorem dL_holds_579 : decode cL_holds 579 = .ok (.iconst 1, 1) := by decide +kernel
theorem dL_holds_580 : decode cL_holds 580 = .ok (.iconst 0, 1) := by decide +kernel
theorem dL_holds_581 : decode cL_holds 581 = .ok (.invokevirtual 46, 3) := by decide +kernel
theorem dL_holds_584 : decode cL_holds 584 = .ok (.aload_n 0, 1) := by decide +kernel
theorem dL_holds_585 : decode cL_holds 585 = .ok (.iload 7, 2) := by decide +kernel
theorem dL_holds_587 : decode cL_holds 587 = .ok (.bipush 6, 2) := by decide +kernel
theorem dL_holds_589 : decode cL_holds 589 = .ok (.invokevirtual 19, 3) := by decide +kernel
theorem dL_holds_592 : decode cL_holds 592 = .ok (.if_icmp .gt 76, 3) := by decide +kernel
theorem dL_holds_595 : decode cL_holds 595 = .ok (.aload_n 0, 1) := by decide +kernel
theorem dL_holds_596 : decode cL_holds 596 = .ok (.iload 7, 2) := by decide +kernel
theorem dL_holds_598 : decode cL_holds 598 = .ok (.iconst 0, 1) := by decide +kernel
theorem dL_holds_599 : decode cL_holds 599 = .ok (.iconst 0, 1) := by decide +kernel
theorem dL_holds_600 : decode cL_holds 600 = .ok (.invokevirtual 46, 3) := by decide +kernel
theorem dL_holds_603 : decode cL_holds 603 = .ok (.aload_n 0, 1) := by decide +kernel
theorem dL_holds_604 : decode cL_holds 604 = .ok (.iload 7, 2) := by decide +kernel
theorem dL_holds_606 : decode cL_holds 606 = .ok (.iconst 0, 1) := by decide +kernel
theorem dL_holds_607 : decode cL_holds 607 = .ok (.iconst 1, 1) := by decide +kernel
theorem dL_holds_608 : decode cL_holds 608 = .ok (.invokevirtual 46, 3) := by decide +kernel
theorem dL_holds_611 : decode cL_holds 611 = .ok (.if_icmp .ne 57, 3) := by decide +kernel
theorem dL_holds_614 : decode cL_holds 614 = .ok (.aload_n 0, 1) := by decide +kernel
theorem dL_holds_615 : decode cL_holds 615 = .ok (.iload 7, 2) := by decide +kernel
theorem dL_holds_617 : decode cL_holds 617 = .ok (.iconst 2, 1) := by decide +kernel
theorem dL_holds_618 : decode cL_holds 618 = .ok (.iconst 0, 1) := by decide +kernel
theorem dL_holds_619 : decode cL_holds 619 = .ok (.invokevirtual 46, 3) := by decide +kernel
theorem dL_holds_622 : decode cL_holds 622 = .ok (.aload_n 0, 1) := by decide +kernel
theorem dL_holds_623 : decode cL_holds 623 = .ok (.iload 7, 2) := by decide +kernel
theorem dL_holds_625 : decode cL_holds 625 = .ok (.iconst 0, 1) := by decide +kernel
theorem dL_holds_626 : decode cL_holds 626 = .ok (.iconst 0, 1) := by decide +kernel
theorem dL_holds_627 : decode cL_holds 627 = .ok (.invokevirtual 46, 3) := by decide +kernel
theorem dL_holds_630 : decode cL_holds 630 = .ok (.invokestatic 29, 3) := by decide +kernel
theorem dL_holds_633 : decode cL_holds 633 = .ok (.if_icmp .ne 35, 3) := by decide +kernel
theorem dL_holds_636 : decode cL_holds 636 = .ok (.aload_n 0, 1) := by decide +kernel
theorem dL_holds_637 : decode cL_holds 637 = .ok (.iload 7, 2) := by decide +kernel
theorem dL_holds_639 : decode cL_holds 639 = .ok (.iconst 0, 1) := by decide +kernel
theorem dL_holds_640 : decode cL_holds 640 = .ok (.invokevirtual 49, 3) := by decide +kernel
theorem dL_holds_643 : decode cL_holds 643 = .ok (.aload_n 0, 1) := by decide +kernel
theorem dL_holds_644 : decode cL_holds 644 = .ok (.iload 7, 2) := by decide +kernel
theorem dL_holds_646 : decode cL_holds 646 = .ok (.iconst 1, 1) := by decide +kernel
theorem dL_holds_647 : decode cL_holds 647 = .ok (.invokevirtual 49, 3) := by decide +kernel
theorem dL_holds_650 : decode cL_holds 650 = .ok (.if_icmp .ne 18, 3) := by decide +kernel
theorem dL_holds_653 : decode cL_holds 653 = .ok (.aload_n 0, 1) := by decide +kernel
theorem dL_holds_654 : decode cL_holds 654 = .ok (.iload 7, 2) := by decide +kernel
theorem dL_holds_656 : decode cL_holds 656 = .ok (.iconst 0, 1) := by decide +kernel
theorem dL_holds_657 : decode cL_holds 657 = .ok (.invokevirtual 49, 3) := by decide +kernel
theorem dL_holds_660 : decode cL_holds 660 = .ok (.iconst 1, 1) := by decide +kernel
theorem dL_holds_661 : decode cL_holds 661 = .ok (.if_icmp .lt 7, 3) := by decide +kernel
theorem dL_holds_664 : decode cL_holds 664 = .ok (.iconst 1, 1) := by decide +kernel
theorem dL_holds_665 : decode cL_holds 665 = .ok (.goto 4, 3) := by decide +kernel
theorem dL_holds_668 : decode cL_holds 668 = .ok (.iconst 0, 1) := by decide +kernel
theorem dL_holds_669 : decode cL_holds 669 = .ok (.istore 6, 2) := by decide +kernel
theorem dL_holds_671 : decode cL_holds 671 = .ok (.iconst 0, 1) := by decide +kernel
theorem dL_holds_672 : decode cL_holds 672 = .ok (.istore 11, 2) := by decide +kernel
theorem dL_holds_674 : decode cL_holds 674 = .ok (.iload 11, 2) := by decide +kernel
theorem dL_holds_676 : decode cL_holds 676 = .ok (.iload 7, 2) := by decide +kernel
theorem dL_holds_678 : decode cL_holds 678 = .ok (.if_icmp .ge 110, 3) := by decide +kernel
theorem dL_holds_681 : decode cL_holds 681 = .ok (.aload_n 0, 1) := by decide +kernel
theorem dL_holds_682 : decode cL_holds 682 = .ok (.iload 11, 2) := by decide +kernel
theorem dL_holds_684 : decode cL_holds 684 = .ok (.iconst 0, 1) := by decide +kernel
theorem dL_holds_685 : decode cL_holds 685 = .ok (.invokevirtual 19, 3) := by decide +kernel
theorem dL_holds_688 : decode cL_holds 688 = .ok (.iload 8, 2) := by decide +kernel
theorem dL_holds_690 : decode cL_holds 690 = .ok (.if_icmp .ne 19, 3) := by decide +kernel
theorem dL_holds_693 : decode cL_holds 693 = .ok (.aload_n 0, 1) := by decide +kernel
theorem dL_holds_694 : decode cL_holds 694 = .ok (.iload 11, 2) := by decide +kernel
theorem dL_holds_696 : decode cL_holds 696 = .ok (.iconst 1, 1) := by decide +kernel
theorem dL_holds_697 : decode cL_holds 697 = .ok (.invokevirtual 19, 3) := by decide +kernel
theorem dL_holds_700 : decode cL_holds 700 = .ok (.iload 9, 2) := by decide +kernel
theorem dL_holds_702 : decode cL_holds 702 = .ok (.if_icmp .ne 7, 3) := by decide +kernel
theorem dL_holds_705 : decode cL_holds 705 = .ok (.iconst 1, 1) := by decide +kernel
theorem dL_holds_706 : decode cL_holds 706 = .ok (.goto 4, 3) := by decide +kernel
theorem dL_holds_709 : decode cL_holds 709 = .ok (.iconst 0, 1) := by decide +kernel
theorem dL_holds_710 : decode cL_holds 710 = .ok (.istore 12, 2) := by decide +kernel
theorem dL_holds_712 : decode cL_holds 712 = .ok (.iconst 0, 1) := by decide +kernel
theorem dL_holds_713 : decode cL_holds 713 = .ok (.istore 13, 2) := by decide +kernel
theorem dL_holds_715 : decode cL_holds 715 = .ok (.iload 13, 2) := by decide +kernel
theorem dL_holds_717 : decode cL_holds 717 = .ok (.iload 8, 2) := by decide +kernel
theorem dL_holds_719 : decode cL_holds 719 = .ok (.iload 9, 2) := by decide +kernel
theorem dL_holds_721 : decode cL_holds 721 = .ok (.invokestatic 29, 3) := by decide +kernel
theorem dL_holds_724 : decode cL_holds 724 = .ok (.iadd, 1) := by decide +kernel
theorem dL_holds_725 : decode cL_holds 725 = .ok (.if_icmp .ge 40, 3) := by decide +kernel
theorem dL_holds_728 : decode cL_holds 728 = .ok (.iload 12, 2) := by decide +kernel
theorem dL_holds_730 : decode cL_holds 730 = .ok (.ifCond .eq 35, 3) := by decide +kernel
theorem dL_holds_733 : decode cL_holds 733 = .ok (.aload_n 0, 1) := by decide +kernel
theorem dL_holds_734 : decode cL_holds 734 = .ok (.iload 11, 2) := by decide +kernel
theorem dL_holds_736 : decode cL_holds 736 = .ok (.iload 13, 2) := by decide +kernel
theorem dL_holds_738 : decode cL_holds 738 = .ok (.invokevirtual 23, 3) := by decide +kernel
theorem dL_holds_741 : decode cL_holds 741 = .ok (.aload_n 0, 1) := by decide +kernel
theorem dL_holds_742 : decode cL_holds 742 = .ok (.iload 7, 2) := by decide +kernel
theorem dL_holds_744 : decode cL_holds 744 = .ok (.iload 13, 2) := by decide +kernel
theorem dL_holds_746 : decode cL_holds 746 = .ok (.invokevirtual 23, 3) := by decide +kernel
theorem dL_holds_749 : decode cL_holds 749 = .ok (.if_icmp .ne 7, 3) := by decide +kernel
theorem dL_holds_752 : decode cL_holds 752 = .ok (.iconst 1, 1) := by decide +kernel
theorem dL_holds_753 : decode cL_holds 753 = .ok (.goto 4, 3) := by decide +kernel
theorem dL_holds_756 : decode cL_holds 756 = .ok (.iconst 0, 1) := by decide +kernel
theorem dL_holds_757 : decode cL_holds 757 = .ok (.istore 12, 2) := by decide +kernel
theorem dL_holds_759 : decode cL_holds 759 = .ok (.iinc 13 1, 3) := by decide +kernel
theorem dL_holds_762 : decode cL_holds 762 = .ok (.goto (-47), 3) := by decide +kernel
theorem dL_holds_765 : decode cL_holds 765 = .ok (.iload 6, 2) := by decide +kernel
theorem dL_holds_767 : decode cL_holds 767 = .ok (.ifCond .eq 12, 3) := by decide +kernel
theorem dL_holds_770 : decode cL_holds 770 = .ok (.iload 12, 2) := by decide +kernel
theorem dL_holds_772 : decode cL_holds 772 = .ok (.ifCond .ne 7, 3) := by decide +kernel
theorem dL_holds_775 : decode cL_holds 775 = .ok (.iconst 1, 1) := by decide +kernel
theorem dL_holds_776 : decode cL_holds 776 = .ok (.goto 4, 3) := by decide +kernel
theorem dL_holds_779 : decode cL_holds 779 = .ok (.iconst 0, 1) := by decide +kernel
theorem dL_holds_780 : decode cL_holds 780 = .ok (.istore 6, 2) := by decide +kernel
theorem dL_holds_782 : decode cL_holds 782 = .ok (.iinc 11 1, 3) := by decide +kernel
theorem dL_holds_785 : decode cL_holds 785 = .ok (.goto (-111), 3) := by decide +kernel
theorem dL_holds_788 : decode cL_holds 788 = .ok (.iinc 7 1, 3) := by decide +kernel
theorem dL_holds_791 : decode cL_holds 791 = .ok (.goto (-696), 3) := by decide +kernel
theorem dL_holds_794 : decode cL_holds 794 = .ok (.iload 6, 2) := by decide +kernel
theorem dL_holds_796 : decode cL_holds 796 = .ok (.ifCond .eq 88, 3) := by decide +kernel
theorem dL_holds_799 : decode cL_holds 799 = .ok (.iload 4, 2) := by decide +kernel
theorem dL_holds_801 : decode cL_holds 801 = .ok (.aload_n 0, 1) := by decide +kernel
theorem dL_holds_802 : decode cL_holds 802 = .ok (.iconst 3, 1) := by decide +kernel
theorem dL_holds_803 : decode cL_holds 803 = .ok (.invokevirtual 13, 3) := by decide +kernel
theorem dL_holds_806 : decode cL_holds 806 = .ok (.if_icmp .ne 78, 3) := by decide +kernel
theorem dL_holds_809 : decode cL_holds 809 = .ok (.iload 5, 2) := by decide +kernel
theorem dL_holds_811 : decode cL_holds 811 = .ok (.aload_n 0, 1) := by decide +kernel
theorem dL_holds_812 : decode cL_holds 812 = .ok (.iconst 2, 1) := by decide +kernel
theorem dL_holds_813 : decode cL_holds 813 = .ok (.invokevirtual 13, 3) := by decide +kernel
theorem dL_holds_816 : decode cL_holds 816 = .ok (.if_icmp .ne 68, 3) := by decide +kernel
theorem dL_holds_819 : decode cL_holds 819 = .ok (.iload_n 3, 1) := by decide +kernel
theorem dL_holds_820 : decode cL_holds 820 = .ok (.aload_n 0, 1) := by decide +kernel
theorem dL_holds_821 : decode cL_holds 821 = .ok (.bipush 9, 2) := by decide +kernel
theorem dL_holds_823 : decode cL_holds 823 = .ok (.invokevirtual 13, 3) := by decide +kernel
theorem dL_holds_826 : decode cL_holds 826 = .ok (.if_icmp .ne 58, 3) := by decide +kernel
theorem dL_holds_829 : decode cL_holds 829 = .ok (.aload_n 0, 1) := by decide +kernel
theorem dL_holds_830 : decode cL_holds 830 = .ok (.bipush 12, 2) := by decide +kernel
theorem dL_holds_832 : decode cL_holds 832 = .ok (.invokevirtual 13, 3) := by decide +kernel
theorem dL_holds_835 : decode cL_holds 835 = .ok (.bipush (-4), 2) := by decide +kernel
theorem dL_holds_837 : decode cL_holds 837 = .ok (.if_icmp .ne 7, 3) := by decide +kernel
theorem dL_holds_840 : decode cL_holds 840 = .ok (.iconst 1, 1) := by decide +kernel
theorem dL_holds_841 : decode cL_holds 841 = .ok (.goto 4, 3) := by decide +kernel
theorem dL_holds_844 : decode cL_holds 844 = .ok (.iconst 0, 1) := by decide +kernel
theorem dL_holds_845 : decode cL_holds 845 = .ok (.iload_n 1, 1) := by decide +kernel
theorem dL_holds_846 : decode cL_holds 846 = .ok (.ifCond .ne 7, 3) := by decide +kernel
theorem dL_holds_849 : decode cL_holds 849 = .ok (.iconst 1, 1) := by decide +kernel
theorem dL_holds_850 : decode cL_holds 850 = .ok (.goto 4, 3) := by decide +kernel
theorem dL_holds_853 : decode cL_holds 853 = .ok (.iconst 0, 1) := by decide +kernel
theorem dL_holds_854 : decode cL_holds 854 = .ok (.if_icmp .ne 30, 3) := by decide +kernel
theorem dL_holds_857 : decode cL_holds 857 = .ok (.aload_n 0, 1) := by decide +kernel
theorem dL_holds_858 : decode cL_holds 858 = .ok (.invokevirtual 52, 3) := by decide +kernel
theorem dL_holds_861 : decode cL_holds 861 = .ok (.iload_n 1, 1) := by decide +kernel
theorem dL_holds_862 : decode cL_holds 862 = .ok (.ifCond .ne 7, 3) := by decide +kernel
theorem dL_holds_865 : decode cL_holds 865 = .ok (.dconst 0, 1) := by decide +kernel
theorem dL_holds_866 : decode cL_holds 866 = .ok (.goto 10, 3) := by decide +kernel
theorem dL_holds_869 : decode cL_holds 869 = .ok (.iload_n 2, 1) := by decide +kernel
theorem dL_holds_870 : decode cL_holds 870 = .ok (.i2d, 1) := by decide +kernel
theorem dL_holds_871 : decode cL_holds 871 = .ok (.iload_n 3, 1) := by decide +kernel
theorem dL_holds_872 : decode cL_holds 872 = .ok (.iload_n 1, 1) := by decide +kernel
theorem dL_holds_873 : decode cL_holds 873 = .ok (.iadd, 1) := by decide +kernel
theorem dL_holds_874 : decode cL_holds 874 = .ok (.i2d, 1) := by decide +kernel
theorem dL_holds_875 : decode cL_holds 875 = .ok (.ddiv, 1) := by decide +kernel
theorem dL_holds_876 : decode cL_holds 876 = .ok (.dcmp .l, 1) := by decide +kernel
theorem dL_holds_877 : decode cL_holds 877 = .ok (.ifCond .ne 7, 3) := by decide +kernel
theorem dL_holds_880 : decode cL_holds 880 = .ok (.iconst 1, 1) := by decide +kernel
theorem dL_holds_881 : decode cL_holds 881 = .ok (.goto 4, 3) := by decide +kernel
theorem dL_holds_884 : decode cL_holds 884 = .ok (.iconst 0, 1) := by decide +kernel
theorem dL_holds_885 : decode cL_holds 885 = .ok (.ireturn, 1) := by decide +kernel
theorem dL_would_0 : decode cL_would 0 = .ok (.aload_n 0, 1) := by decide +kernel
theorem dL_would_1 : decode cL_would 1 = .ok (.iconst 1, 1) := by decide +kernel
theorem dL_would_2 : decode cL_would 2 = .ok (.invokevirtual 13, 3) := by decide +kernel
theorem dL_would_5 : decode cL_would 5 = .ok (.istore_n 2, 1) := by decide +kernel
theorem dL_would_6 : decode cL_would 6 = .ok (.iload_n 1, 1) := by decide +kernel
theorem dL_would_7 : decode cL_would 7 = .ok (.iload_n 2, 1) := by decide +kernel
theorem dL_would_8 : decode cL_would 8 = .ok (.iconst 1, 1) := by decide +kernel
theorem dL_would_9 : decode cL_would 9 = .ok (.iadd, 1) := by decide +kernel
theorem dL_would_10 : decode cL_would 10 = .ok (.invokestatic 56, 3) := by decide +kernel
theorem dL_would_13 : decode cL_would 13 = .ok (.istore_n 3, 1) := by decide +kernel
theorem dL_would_14 : decode cL_would 14 = .ok (.iload_n 1, 1) := by decide +kernel
theorem dL_would_15 : decode cL_would 15 = .ok (.iconst 3, 1) := by decide +kernel
theorem dL_would_16 : decode cL_would 16 = .ok (.ishr, 1) := by decide +kernel
theorem dL_would_17 : decode cL_would 17 = .ok (.bipush 13, 2) := by decide +kernel
theorem dL_would_19 : decode cL_would 19 = .ok (.invokestatic 56, 3) := by decide +kernel
theorem dL_would_22 : decode cL_would 22 = .ok (.iconst 1, 1) := by decide +kernel
theorem dL_would_23 : decode cL_would 23 = .ok (.isub, 1) := by decide +kernel
theorem dL_would_24 : decode cL_would 24 = .ok (.istore 4, 2) := by decide +kernel
theorem dL_would_26 : decode cL_would 26 = .ok (.aload_n 0, 1) := by decide +kernel
theorem dL_would_27 : decode cL_would 27 = .ok (.iload_n 3, 1) := by decide +kernel
theorem dL_would_28 : decode cL_would 28 = .ok (.iload 4, 2) := by decide +kernel
theorem dL_would_30 : decode cL_would 30 = .ok (.invokevirtual 59, 3) := by decide +kernel
theorem dL_would_33 : decode cL_would 33 = .ok (.istore 5, 2) := by decide +kernel
theorem dL_would_35 : decode cL_would 35 = .ok (.aload_n 0, 1) := by decide +kernel
theorem dL_would_36 : decode cL_would 36 = .ok (.iload_n 3, 1) := by decide +kernel
theorem dL_would_37 : decode cL_would 37 = .ok (.invokevirtual 62, 3) := by decide +kernel
theorem dL_would_40 : decode cL_would 40 = .ok (.istore 6, 2) := by decide +kernel
theorem dL_would_42 : decode cL_would 42 = .ok (.iload_n 1, 1) := by decide +kernel
theorem dL_would_43 : decode cL_would 43 = .ok (.iconst 5, 1) := by decide +kernel
theorem dL_would_44 : decode cL_would 44 = .ok (.ishr, 1) := by decide +kernel
theorem dL_would_45 : decode cL_would 45 = .ok (.bipush 8, 2) := by decide +kernel
theorem dL_would_47 : decode cL_would 47 = .ok (.invokestatic 56, 3) := by decide +kernel
theorem dL_would_50 : decode cL_would 50 = .ok (.iconst 1, 1) := by decide +kernel
theorem dL_would_51 : decode cL_would 51 = .ok (.isub, 1) := by decide +kernel
theorem dL_would_52 : decode cL_would 52 = .ok (.istore 7, 2) := by decide +kernel
theorem dL_would_54 : decode cL_would 54 = .ok (.iload_n 1, 1) := by decide +kernel
theorem dL_would_55 : decode cL_would 55 = .ok (.bipush 8, 2) := by decide +kernel
theorem dL_would_57 : decode cL_would 57 = .ok (.ishr, 1) := by decide +kernel
theorem dL_would_58 : decode cL_would 58 = .ok (.bipush 8, 2) := by decide +kernel
theorem dL_would_60 : decode cL_would 60 = .ok (.invokestatic 56, 3) := by decide +kernel
theorem dL_would_63 : decode cL_would 63 = .ok (.iconst 1, 1) := by decide +kernel
theorem dL_would_64 : decode cL_would 64 = .ok (.isub, 1) := by decide +kernel
theorem dL_would_65 : decode cL_would 65 = .ok (.istore 8, 2) := by decide +kernel
theorem dL_would_67 : decode cL_would 67 = .ok (.iload_n 1, 1) := by decide +kernel
theorem dL_would_68 : decode cL_would 68 = .ok (.iconst 4, 1) := by decide +kernel
theorem dL_would_69 : decode cL_would 69 = .ok (.ishr, 1) := by decide +kernel
theorem dL_would_70 : decode cL_would 70 = .ok (.bipush 22, 2) := by decide +kernel
theorem dL_would_72 : decode cL_would 72 = .ok (.invokestatic 56, 3) := by decide +kernel
theorem dL_would_75 : decode cL_would 75 = .ok (.istore 9, 2) := by decide +kernel
theorem dL_would_77 : decode cL_would 77 = .ok (.aload_n 0, 1) := by decide +kernel
theorem dL_would_78 : decode cL_would 78 = .ok (.iload 7, 2) := by decide +kernel
theorem dL_would_80 : decode cL_would 80 = .ok (.iload 8, 2) := by decide +kernel
theorem dL_would_82 : decode cL_would 82 = .ok (.iload_n 1, 1) := by decide +kernel
theorem dL_would_83 : decode cL_would 83 = .ok (.bipush 11, 2) := by decide +kernel
theorem dL_would_85 : decode cL_would 85 = .ok (.ishr, 1) := by decide +kernel
theorem dL_would_86 : decode cL_would 86 = .ok (.iconst 2, 1) := by decide +kernel
theorem dL_would_87 : decode cL_would 87 = .ok (.invokestatic 56, 3) := by decide +kernel
theorem dL_would_90 : decode cL_would 90 = .ok (.ifCond .ne 7, 3) := by decide +kernel
theorem dL_would_93 : decode cL_would 93 = .ok (.iconst 1, 1) := by decide +kernel
theorem dL_would_94 : decode cL_would 94 = .ok (.goto 4, 3) := by decide +kernel
theorem dL_would_97 : decode cL_would 97 = .ok (.iconst 0, 1) := by decide +kernel
theorem dL_would_98 : decode cL_would 98 = .ok (.iload 9, 2) := by decide +kernel
theorem dL_would_100 : decode cL_would 100 = .ok (.invokevirtual 65, 3) := by decide +kernel
theorem dL_would_103 : decode cL_would 103 = .ok (.istore 10, 2) := by decide +kernel
theorem dL_would_105 : decode cL_would 105 = .ok (.iload_n 1, 1) := by decide +kernel
theorem dL_would_106 : decode cL_would 106 = .ok (.bipush 6, 2) := by decide +kernel
theorem dL_would_108 : decode cL_would 108 = .ok (.ishr, 1) := by decide +kernel
theorem dL_would_109 : decode cL_would 109 = .ok (.iconst 5, 1) := by decide +kernel
theorem dL_would_110 : decode cL_would 110 = .ok (.invokestatic 56, 3) := by decide +kernel
theorem dL_would_113 : decode cL_would 113 = .ok (.iconst 1, 1) := by decide +kernel
theorem dL_would_114 : decode cL_would 114 = .ok (.isub, 1) := by decide +kernel
theorem dL_would_115 : decode cL_would 115 = .ok (.istore 11, 2) := by decide +kernel
theorem dL_would_117 : decode cL_would 117 = .ok (.aload_n 0, 1) := by decide +kernel
theorem dL_would_118 : decode cL_would 118 = .ok (.iload_n 3, 1) := by decide +kernel
theorem dL_would_119 : decode cL_would 119 = .ok (.iload 11, 2) := by decide +kernel
theorem dL_would_121 : decode cL_would 121 = .ok (.iload_n 1, 1) := by decide +kernel
theorem dL_would_122 : decode cL_would 122 = .ok (.bipush 9, 2) := by decide +kernel
theorem dL_would_124 : decode cL_would 124 = .ok (.ishr, 1) := by decide +kernel
theorem dL_would_125 : decode cL_would 125 = .ok (.iconst 2, 1) := by decide +kernel
theorem dL_would_126 : decode cL_would 126 = .ok (.invokestatic 56, 3) := by decide +kernel
theorem dL_would_129 : decode cL_would 129 = .ok (.invokevirtual 46, 3) := by decide +kernel
theorem dL_would_132 : decode cL_would 132 = .ok (.istore 12, 2) := by decide +kernel
theorem dL_would_134 : decode cL_would 134 = .ok (.iload_n 3, 1) := by decide +kernel
theorem dL_would_135 : decode cL_would 135 = .ok (.iload_n 2, 1) := by decide +kernel
theorem dL_would_136 : decode cL_would 136 = .ok (.if_icmp .ne 7, 3) := by decide +kernel
theorem dL_would_139 : decode cL_would 139 = .ok (.iconst 1, 1) := by decide +kernel
theorem dL_would_140 : decode cL_would 140 = .ok (.goto 4, 3) := by decide +kernel
theorem dL_would_143 : decode cL_would 143 = .ok (.iconst 0, 1) := by decide +kernel
theorem dL_would_144 : decode cL_would 144 = .ok (.istore 13, 2) := by decide +kernel
theorem dL_would_146 : decode cL_would 146 = .ok (.iload 13, 2) := by decide +kernel
theorem dL_would_148 : decode cL_would 148 = .ok (.ifCond .ne 21, 3) := by decide +kernel
theorem dL_would_151 : decode cL_would 151 = .ok (.iload 4, 2) := by decide +kernel
theorem dL_would_153 : decode cL_would 153 = .ok (.ifCond .lt 16, 3) := by decide +kernel
theorem dL_would_156 : decode cL_would 156 = .ok (.iload 4, 2) := by decide +kernel
theorem dL_would_158 : decode cL_would 158 = .ok (.aload_n 0, 1) := by decide +kernel
theorem dL_would_159 : decode cL_would 159 = .ok (.iload_n 3, 1) := by decide +kernel
theorem dL_would_160 : decode cL_would 160 = .ok (.iconst 0, 1) := by decide +kernel
theorem dL_would_161 : decode cL_would 161 = .ok (.invokevirtual 19, 3) := by decide +kernel
theorem dL_would_164 : decode cL_would 164 = .ok (.iconst 1, 1) := by decide +kernel
theorem dL_would_165 : decode cL_would 165 = .ok (.isub, 1) := by decide +kernel
theorem dL_would_166 : decode cL_would 166 = .ok (.if_icmp .lt 7, 3) := by decide +kernel
theorem dL_would_169 : decode cL_would 169 = .ok (.iconst 1, 1) := by decide +kernel
theorem dL_would_170 : decode cL_would 170 = .ok (.goto 4, 3) := by decide +kernel
theorem dL_would_173 : decode cL_would 173 = .ok (.iconst 0, 1) := by decide +kernel
theorem dL_would_174 : decode cL_would 174 = .ok (.istore 14, 2) := by decide +kernel
theorem dL_would_176 : decode cL_would 176 = .ok (.iload 7, 2) := by decide +kernel
theorem dL_would_178 : decode cL_would 178 = .ok (.ifCond .lt 32, 3) := by decide +kernel
theorem dL_would_181 : decode cL_would 181 = .ok (.iload 7, 2) := by decide +kernel
theorem dL_would_183 : decode cL_would 183 = .ok (.iconst 5, 1) := by decide +kernel
theorem dL_would_184 : decode cL_would 184 = .ok (.if_icmp .gt 26, 3) := by decide +kernel
theorem dL_would_187 : decode cL_would 187 = .ok (.iload 8, 2) := by decide +kernel
theorem dL_would_189 : decode cL_would 189 = .ok (.ifCond .lt 21, 3) := by decide +kernel
theorem dL_would_192 : decode cL_would 192 = .ok (.iload 8, 2) := by decide +kernel
theorem dL_would_194 : decode cL_would 194 = .ok (.iconst 5, 1) := by decide +kernel
theorem dL_would_195 : decode cL_would 195 = .ok (.if_icmp .gt 15, 3) := by decide +kernel
theorem dL_would_198 : decode cL_would 198 = .ok (.iload 9, 2) := by decide +kernel
theorem dL_would_200 : decode cL_would 200 = .ok (.ifCond .eq 10, 3) := by decide +kernel
theorem dL_would_203 : decode cL_would 203 = .ok (.iload 9, 2) := by decide +kernel
theorem dL_would_205 : decode cL_would 205 = .ok (.bipush 21, 2) := by decide +kernel
theorem dL_would_207 : decode cL_would 207 = .ok (.if_icmp .ne 7, 3) := by decide +kernel
theorem dL_would_210 : decode cL_would 210 = .ok (.iconst 1, 1) := by decide +kernel
theorem dL_would_211 : decode cL_would 211 = .ok (.goto 4, 3) := by decide +kernel
theorem dL_would_214 : decode cL_would 214 = .ok (.iconst 0, 1) := by decide +kernel
theorem dL_would_215 : decode cL_would 215 = .ok (.istore 15, 2) := by decide +kernel
theorem dL_would_217 : decode cL_would 217 = .ok (.iload 14, 2) := by decide +kernel
theorem dL_would_219 : decode cL_would 219 = .ok (.ifCond .eq 24, 3) := by decide +kernel
theorem dL_would_222 : decode cL_would 222 = .ok (.iload 5, 2) := by decide +kernel
theorem dL_would_224 : decode cL_would 224 = .ok (.iconst (-1), 1) := by decide +kernel
theorem dL_would_225 : decode cL_would 225 = .ok (.if_icmp .ne 157, 3) := by decide +kernel
theorem dL_would_228 : decode cL_would 228 = .ok (.aload_n 0, 1) := by decide +kernel
theorem dL_would_229 : decode cL_would 229 = .ok (.iload_n 3, 1) := by decide +kernel
theorem dL_would_230 : decode cL_would 230 = .ok (.iload 4, 2) := by decide +kernel
theorem dL_would_232 : decode cL_would 232 = .ok (.iconst 0, 1) := by decide +kernel
theorem dL_would_233 : decode cL_would 233 = .ok (.invokevirtual 42, 3) := by decide +kernel
theorem dL_would_236 : decode cL_would 236 = .ok (.iconst (-1), 1) := by decide +kernel
theorem dL_would_237 : decode cL_would 237 = .ok (.if_icmp .ne 145, 3) := by decide +kernel
theorem dL_would_240 : decode cL_would 240 = .ok (.goto 89, 3) := by decide +kernel
theorem dL_would_243 : decode cL_would 243 = .ok (.iload 5, 2) := by decide +kernel
theorem dL_would_245 : decode cL_would 245 = .ok (.ifCond .lt 137, 3) := by decide +kernel
theorem dL_would_248 : decode cL_would 248 = .ok (.iload 5, 2) := by decide +kernel
theorem dL_would_250 : decode cL_would 250 = .ok (.iconst 3, 1) := by decide +kernel
theorem dL_would_251 : decode cL_would 251 = .ok (.if_icmp .gt 131, 3) := by decide +kernel
theorem dL_would_254 : decode cL_would 254 = .ok (.iload 5, 2) := by decide +kernel
theorem dL_would_256 : decode cL_would 256 = .ok (.iconst 1, 1) := by decide +kernel
theorem dL_would_257 : decode cL_would 257 = .ok (.if_icmp .ne 7, 3) := by decide +kernel
theorem dL_would_260 : decode cL_would 260 = .ok (.iconst 1, 1) := by decide +kernel
theorem dL_would_261 : decode cL_would 261 = .ok (.goto 4, 3) := by decide +kernel
theorem dL_would_264 : decode cL_would 264 = .ok (.iconst 0, 1) := by decide +kernel
theorem dL_would_265 : decode cL_would 265 = .ok (.aload_n 0, 1) := by decide +kernel
theorem dL_would_266 : decode cL_would 266 = .ok (.iload_n 3, 1) := by decide +kernel
theorem dL_would_267 : decode cL_would 267 = .ok (.bipush 7, 2) := by decide +kernel
theorem dL_would_269 : decode cL_would 269 = .ok (.invokevirtual 19, 3) := by decide +kernel
theorem dL_would_272 : decode cL_would 272 = .ok (.iconst 1, 1) := by decide +kernel
theorem dL_would_273 : decode cL_would 273 = .ok (.if_icmp .ne 7, 3) := by decide +kernel
theorem dL_would_276 : decode cL_would 276 = .ok (.iconst 1, 1) := by decide +kernel
theorem dL_would_277 : decode cL_would 277 = .ok (.goto 4, 3) := by decide +kernel
theorem dL_would_280 : decode cL_would 280 = .ok (.iconst 0, 1) := by decide +kernel
theorem dL_would_281 : decode cL_would 281 = .ok (.if_icmp .ne 101, 3) := by decide +kernel
theorem dL_would_284 : decode cL_would 284 = .ok (.iload 5, 2) := by decide +kernel
theorem dL_would_286 : decode cL_would 286 = .ok (.iconst 2, 1) := by decide +kernel
theorem dL_would_287 : decode cL_would 287 = .ok (.if_icmp .ne 17, 3) := by decide +kernel
theorem dL_would_290 : decode cL_would 290 = .ok (.aload_n 0, 1) := by decide +kernel
theorem dL_would_291 : decode cL_would 291 = .ok (.iload_n 3, 1) := by decide +kernel
theorem dL_would_292 : decode cL_would 292 = .ok (.iload 4, 2) := by decide +kernel
theorem dL_would_294 : decode cL_would 294 = .ok (.iconst 3, 1) := by decide +kernel
theorem dL_would_295 : decode cL_would 295 = .ok (.invokevirtual 42, 3) := by decide +kernel
theorem dL_would_298 : decode cL_would 298 = .ok (.sipush 1000, 3) := by decide +kernel
theorem dL_would_301 : decode cL_would 301 = .ok (.if_icmp .lt 81, 3) := by decide +kernel
theorem dL_would_304 : decode cL_would 304 = .ok (.iload 5, 2) := by decide +kernel
theorem dL_would_306 : decode cL_would 306 = .ok (.ifCond .eq 9, 3) := by decide +kernel
theorem dL_would_309 : decode cL_would 309 = .ok (.iload 5, 2) := by decide +kernel
theorem dL_would_311 : decode cL_would 311 = .ok (.iconst 3, 1) := by decide +kernel
theorem dL_would_312 : decode cL_would 312 = .ok (.if_icmp .ne 17, 3) := by decide +kernel
theorem dL_would_315 : decode cL_would 315 = .ok (.aload_n 0, 1) := by decide +kernel
theorem dL_would_316 : decode cL_would 316 = .ok (.iload_n 3, 1) := by decide +kernel
theorem dL_would_317 : decode cL_would 317 = .ok (.iload 4, 2) := by decide +kernel
theorem dL_would_319 : decode cL_would 319 = .ok (.iconst 3, 1) := by decide +kernel
theorem dL_would_320 : decode cL_would 320 = .ok (.invokevirtual 42, 3) := by decide +kernel
theorem dL_would_323 : decode cL_would 323 = .ok (.sipush 1000, 3) := by decide +kernel
theorem dL_would_326 : decode cL_would 326 = .ok (.if_icmp .ge 56, 3) := by decide +kernel
theorem dL_would_329 : decode cL_would 329 = .ok (.iload 13, 2) := by decide +kernel
theorem dL_would_331 : decode cL_would 331 = .ok (.ifCond .eq 12, 3) := by decide +kernel
theorem dL_would_334 : decode cL_would 334 = .ok (.iload 6, 2) := by decide +kernel
theorem dL_would_336 : decode cL_would 336 = .ok (.iconst (-1), 1) := by decide +kernel
theorem dL_would_337 : decode cL_would 337 = .ok (.if_icmp .ne 45, 3) := by decide +kernel
theorem dL_would_340 : decode cL_would 340 = .ok (.goto 38, 3) := by decide +kernel
theorem dL_would_343 : decode cL_would 343 = .ok (.iload 6, 2) := by decide +kernel
theorem dL_would_345 : decode cL_would 345 = .ok (.bipush (-4), 2) := by decide +kernel
theorem dL_would_347 : decode cL_would 347 = .ok (.if_icmp .eq 31, 3) := by decide +kernel
theorem dL_would_350 : decode cL_would 350 = .ok (.iload 6, 2) := by decide +kernel
theorem dL_would_352 : decode cL_would 352 = .ok (.ifCond .lt 30, 3) := by decide +kernel
theorem dL_would_355 : decode cL_would 355 = .ok (.iload 6, 2) := by decide +kernel
theorem dL_would_357 : decode cL_would 357 = .ok (.aload_n 0, 1) := by decide +kernel
theorem dL_would_358 : decode cL_would 358 = .ok (.iload_n 3, 1) := by decide +kernel
theorem dL_would_359 : decode cL_would 359 = .ok (.iconst 0, 1) := by decide +kernel
theorem dL_would_360 : decode cL_would 360 = .ok (.invokevirtual 19, 3) := by decide +kernel
theorem dL_would_363 : decode cL_would 363 = .ok (.iconst 1, 1) := by decide +kernel
theorem dL_would_364 : decode cL_would 364 = .ok (.isub, 1) := by decide +kernel
theorem dL_would_365 : decode cL_would 365 = .ok (.if_icmp .ge 17, 3) := by decide +kernel
theorem dL_would_368 : decode cL_would 368 = .ok (.aload_n 0, 1) := by decide +kernel
theorem dL_would_369 : decode cL_would 369 = .ok (.iload_n 3, 1) := by decide +kernel
theorem dL_would_370 : decode cL_would 370 = .ok (.iload 6, 2) := by decide +kernel
theorem dL_would_372 : decode cL_would 372 = .ok (.invokevirtual 59, 3) := by decide +kernel
theorem dL_would_375 : decode cL_would 375 = .ok (.ifCond .ne 7, 3) := by decide +kernel
theorem dL_would_378 : decode cL_would 378 = .ok (.iconst 1, 1) := by decide +kernel
theorem dL_would_379 : decode cL_would 379 = .ok (.goto 4, 3) := by decide +kernel
theorem dL_would_382 : decode cL_would 382 = .ok (.iconst 0, 1) := by decide +kernel
theorem dL_would_383 : decode cL_would 383 = .ok (.istore 16, 2) := by decide +kernel
theorem dL_would_385 : decode cL_would 385 = .ok (.iload 16, 2) := by decide +kernel
theorem dL_would_387 : decode cL_would 387 = .ok (.ifCond .eq 103, 3) := by decide +kernel
theorem dL_would_390 : decode cL_would 390 = .ok (.iload 15, 2) := by decide +kernel
theorem dL_would_392 : decode cL_would 392 = .ok (.ifCond .eq 12, 3) := by decide +kernel
theorem dL_would_395 : decode cL_would 395 = .ok (.iload 10, 2) := by decide +kernel
theorem dL_would_397 : decode cL_would 397 = .ok (.iconst (-1), 1) := by decide +kernel
theorem dL_would_398 : decode cL_would 398 = .ok (.if_icmp .ne 92, 3) := by decide +kernel
theorem dL_would_401 : decode cL_would 401 = .ok (.goto 18, 3) := by decide +kernel
theorem dL_would_404 : decode cL_would 404 = .ok (.iload 10, 2) := by decide +kernel
theorem dL_would_406 : decode cL_would 406 = .ok (.bipush 120, 2) := by decide +kernel
theorem dL_would_408 : decode cL_would 408 = .ok (.if_icmp .lt 82, 3) := by decide +kernel
theorem dL_would_411 : decode cL_would 411 = .ok (.iload 10, 2) := by decide +kernel
theorem dL_would_413 : decode cL_would 413 = .ok (.sipush 1880, 3) := by decide +kernel
theorem dL_would_416 : decode cL_would 416 = .ok (.if_icmp .gt 74, 3) := by decide +kernel
theorem dL_would_419 : decode cL_would 419 = .ok (.iload 13, 2) := by decide +kernel
theorem dL_would_421 : decode cL_would 421 = .ok (.ifCond .ne 14, 3) := by decide +kernel
theorem dL_would_424 : decode cL_would 424 = .ok (.iload 11, 2) := by decide +kernel
theorem dL_would_426 : decode cL_would 426 = .ok (.ifCond .lt 9, 3) := by decide +kernel
theorem dL_would_429 : decode cL_would 429 = .ok (.iload 11, 2) := by decide +kernel
theorem dL_would_431 : decode cL_would 431 = .ok (.iconst 2, 1) := by decide +kernel
theorem dL_would_432 : decode cL_would 432 = .ok (.if_icmp .le 12, 3) := by decide +kernel
theorem dL_would_435 : decode cL_would 435 = .ok (.iload 12, 2) := by decide +kernel
theorem dL_would_437 : decode cL_would 437 = .ok (.iconst (-1), 1) := by decide +kernel
theorem dL_would_438 : decode cL_would 438 = .ok (.if_icmp .ne 52, 3) := by decide +kernel
theorem dL_would_441 : decode cL_would 441 = .ok (.goto 45, 3) := by decide +kernel
theorem dL_would_444 : decode cL_would 444 = .ok (.iload 12, 2) := by decide +kernel
theorem dL_would_446 : decode cL_would 446 = .ok (.ifCond .lt 44, 3) := by decide +kernel
theorem dL_would_449 : decode cL_would 449 = .ok (.iload 11, 2) := by decide +kernel
theorem dL_would_451 : decode cL_would 451 = .ok (.ifCond .ne 18, 3) := by decide +kernel
theorem dL_would_454 : decode cL_would 454 = .ok (.iload 12, 2) := by decide +kernel
theorem dL_would_456 : decode cL_would 456 = .ok (.iconst 1, 1) := by decide +kernel
theorem dL_would_457 : decode cL_would 457 = .ok (.aload_n 0, 1) := by decide +kernel
theorem dL_would_458 : decode cL_would 458 = .ok (.iload_n 3, 1) := by decide +kernel
theorem dL_would_459 : decode cL_would 459 = .ok (.iconst 0, 1) := by decide +kernel
theorem dL_would_460 : decode cL_would 460 = .ok (.invokevirtual 19, 3) := by decide +kernel
theorem dL_would_463 : decode cL_would 463 = .ok (.iconst 1, 1) := by decide +kernel
theorem dL_would_464 : decode cL_would 464 = .ok (.isub, 1) := by decide +kernel
theorem dL_would_465 : decode cL_would 465 = .ok (.ishl, 1) := by decide +kernel
theorem dL_would_466 : decode cL_would 466 = .ok (.if_icmp .ge 24, 3) := by decide +kernel
theorem dL_would_469 : decode cL_would 469 = .ok (.iload 11, 2) := by decide +kernel
theorem dL_would_471 : decode cL_would 471 = .ok (.iconst 2, 1) := by decide +kernel
theorem dL_would_472 : decode cL_would 472 = .ok (.if_icmp .ne 14, 3) := by decide +kernel
theorem dL_would_475 : decode cL_would 475 = .ok (.iload 12, 2) := by decide +kernel
theorem dL_would_477 : decode cL_would 477 = .ok (.aload_n 0, 1) := by decide +kernel
theorem dL_would_478 : decode cL_would 478 = .ok (.iload_n 3, 1) := by decide +kernel
theorem dL_would_479 : decode cL_would 479 = .ok (.iconst 0, 1) := by decide +kernel
theorem dL_would_480 : decode cL_would 480 = .ok (.invokevirtual 19, 3) := by decide +kernel
theorem dL_would_483 : decode cL_would 483 = .ok (.if_icmp .ge 7, 3) := by decide +kernel
theorem dL_would_486 : decode cL_would 486 = .ok (.iconst 1, 1) := by decide +kernel
theorem dL_would_487 : decode cL_would 487 = .ok (.goto 4, 3) := by decide +kernel
theorem dL_would_490 : decode cL_would 490 = .ok (.iconst 0, 1) := by decide +kernel
theorem dL_would_491 : decode cL_would 491 = .ok (.ireturn, 1) := by decide +kernel
theorem dL_words_0 : decode cL_words 0 = .ok (.iload_n 1, 1) := by decide +kernel
theorem dL_words_1 : decode cL_words 1 = .ok (.iload_n 1, 1) := by decide +kernel
theorem dL_words_2 : decode cL_words 2 = .ok (.bipush 22, 2) := by decide +kernel
theorem dL_words_4 : decode cL_words 4 = .ok (.ishr, 1) := by decide +kernel
theorem dL_words_5 : decode cL_words 5 = .ok (.iconst 4, 1) := by decide +kernel
theorem dL_words_6 : decode cL_words 6 = .ok (.invokestatic 56, 3) := by decide +kernel
theorem dL_words_9 : decode cL_words 9 = .ok (.ifCond .ne 8, 3) := by decide +kernel
theorem dL_words_12 : decode cL_words 12 = .ok (.bipush 14, 2) := by decide +kernel
theorem dL_words_14 : decode cL_words 14 = .ok (.goto 5, 3) := by decide +kernel
theorem dL_words_17 : decode cL_words 17 = .ok (.bipush 7, 2) := by decide +kernel
theorem dL_words_19 : decode cL_words 19 = .ok (.invokestatic 56, 3) := by decide +kernel
theorem dL_words_22 : decode cL_words 22 = .ok (.istore_n 2, 1) := by decide +kernel
theorem dL_words_23 : decode cL_words 23 = .ok (.aload_n 0, 1) := by decide +kernel
theorem dL_words_24 : decode cL_words 24 = .ok (.invokevirtual 69, 3) := by decide +kernel
theorem dL_words_27 : decode cL_words 27 = .ok (.ifCond .lt 7, 3) := by decide +kernel
theorem dL_words_30 : decode cL_words 30 = .ok (.iconst 1, 1) := by decide +kernel
theorem dL_words_31 : decode cL_words 31 = .ok (.goto 4, 3) := by decide +kernel
theorem dL_words_34 : decode cL_words 34 = .ok (.iconst 0, 1) := by decide +kernel
theorem dL_words_35 : decode cL_words 35 = .ok (.istore_n 3, 1) := by decide +kernel
theorem dL_words_36 : decode cL_words 36 = .ok (.iconst 0, 1) := by decide +kernel
theorem dL_words_37 : decode cL_words 37 = .ok (.istore 4, 2) := by decide +kernel
theorem dL_words_39 : decode cL_words 39 = .ok (.iload 4, 2) := by decide +kernel
theorem dL_words_41 : decode cL_words 41 = .ok (.iload_n 2, 1) := by decide +kernel
theorem dL_words_42 : decode cL_words 42 = .ok (.if_icmp .ge 86, 3) := by decide +kernel
theorem dL_words_45 : decode cL_words 45 = .ok (.iload_n 3, 1) := by decide +kernel
theorem dL_words_46 : decode cL_words 46 = .ok (.ifCond .eq 74, 3) := by decide +kernel
theorem dL_words_49 : decode cL_words 49 = .ok (.aload_n 0, 1) := by decide +kernel
theorem dL_words_50 : decode cL_words 50 = .ok (.bipush 97, 2) := by decide +kernel
theorem dL_words_52 : decode cL_words 52 = .ok (.iload_n 1, 1) := by decide +kernel
theorem dL_words_53 : decode cL_words 53 = .ok (.iconst 2, 1) := by decide +kernel
theorem dL_words_54 : decode cL_words 54 = .ok (.iload 4, 2) := by decide +kernel
theorem dL_words_56 : decode cL_words 56 = .ok (.iadd, 1) := by decide +kernel
theorem dL_words_57 : decode cL_words 57 = .ok (.ishr, 1) := by decide +kernel
theorem dL_words_58 : decode cL_words 58 = .ok (.iload_n 1, 1) := by decide +kernel
theorem dL_words_59 : decode cL_words 59 = .ok (.bipush 23, 2) := by decide +kernel
theorem dL_words_61 : decode cL_words 61 = .ok (.ishr, 1) := by decide +kernel
theorem dL_words_62 : decode cL_words 62 = .ok (.bipush 9, 2) := by decide +kernel
theorem dL_words_64 : decode cL_words 64 = .ok (.invokestatic 56, 3) := by decide +kernel
theorem dL_words_67 : decode cL_words 67 = .ok (.ifCond .ne 8, 3) := by decide +kernel
theorem dL_words_70 : decode cL_words 70 = .ok (.bipush 7, 2) := by decide +kernel
theorem dL_words_72 : decode cL_words 72 = .ok (.goto 4, 3) := by decide +kernel
theorem dL_words_75 : decode cL_words 75 = .ok (.iconst 5, 1) := by decide +kernel
theorem dL_words_76 : decode cL_words 76 = .ok (.invokestatic 56, 3) := by decide +kernel
theorem dL_words_79 : decode cL_words 79 = .ok (.iadd, 1) := by decide +kernel
theorem dL_words_80 : decode cL_words 80 = .ok (.invokevirtual 73, 3) := by decide +kernel
theorem dL_words_83 : decode cL_words 83 = .ok (.ifCond .le 37, 3) := by decide +kernel
theorem dL_words_86 : decode cL_words 86 = .ok (.iload 4, 2) := by decide +kernel
theorem dL_words_88 : decode cL_words 88 = .ok (.iconst 1, 1) := by decide +kernel
theorem dL_words_89 : decode cL_words 89 = .ok (.iadd, 1) := by decide +kernel
theorem dL_words_90 : decode cL_words 90 = .ok (.iload_n 2, 1) := by decide +kernel
theorem dL_words_91 : decode cL_words 91 = .ok (.if_icmp .eq 25, 3) := by decide +kernel
theorem dL_words_94 : decode cL_words 94 = .ok (.iload_n 1, 1) := by decide +kernel
theorem dL_words_95 : decode cL_words 95 = .ok (.iconst 1, 1) := by decide +kernel
theorem dL_words_96 : decode cL_words 96 = .ok (.iload 4, 2) := by decide +kernel
theorem dL_words_98 : decode cL_words 98 = .ok (.iadd, 1) := by decide +kernel
theorem dL_words_99 : decode cL_words 99 = .ok (.ishr, 1) := by decide +kernel
theorem dL_words_100 : decode cL_words 100 = .ok (.iconst 4, 1) := by decide +kernel
theorem dL_words_101 : decode cL_words 101 = .ok (.invokestatic 56, 3) := by decide +kernel
theorem dL_words_104 : decode cL_words 104 = .ok (.ifCond .gt 12, 3) := by decide +kernel
theorem dL_words_107 : decode cL_words 107 = .ok (.aload_n 0, 1) := by decide +kernel
theorem dL_words_108 : decode cL_words 108 = .ok (.bipush 44, 2) := by decide +kernel
theorem dL_words_110 : decode cL_words 110 = .ok (.invokevirtual 73, 3) := by decide +kernel
theorem dL_words_113 : decode cL_words 113 = .ok (.ifCond .le 7, 3) := by decide +kernel
theorem dL_words_116 : decode cL_words 116 = .ok (.iconst 1, 1) := by decide +kernel
theorem dL_words_117 : decode cL_words 117 = .ok (.goto 4, 3) := by decide +kernel
theorem dL_words_120 : decode cL_words 120 = .ok (.iconst 0, 1) := by decide +kernel
theorem dL_words_121 : decode cL_words 121 = .ok (.istore_n 3, 1) := by decide +kernel
theorem dL_words_122 : decode cL_words 122 = .ok (.iinc 4 1, 3) := by decide +kernel
theorem dL_words_125 : decode cL_words 125 = .ok (.goto (-86), 3) := by decide +kernel
theorem dL_words_128 : decode cL_words 128 = .ok (.iload_n 3, 1) := by decide +kernel
theorem dL_words_129 : decode cL_words 129 = .ok (.ifCond .eq 28, 3) := by decide +kernel
theorem dL_words_132 : decode cL_words 132 = .ok (.iload_n 1, 1) := by decide +kernel
theorem dL_words_133 : decode cL_words 133 = .ok (.bipush 26, 2) := by decide +kernel
theorem dL_words_135 : decode cL_words 135 = .ok (.ishr, 1) := by decide +kernel
theorem dL_words_136 : decode cL_words 136 = .ok (.bipush 7, 2) := by decide +kernel
theorem dL_words_138 : decode cL_words 138 = .ok (.invokestatic 56, 3) := by decide +kernel
theorem dL_words_141 : decode cL_words 141 = .ok (.ifCond .gt 12, 3) := by decide +kernel
theorem dL_words_144 : decode cL_words 144 = .ok (.aload_n 0, 1) := by decide +kernel
theorem dL_words_145 : decode cL_words 145 = .ok (.bipush 44, 2) := by decide +kernel
theorem dL_words_147 : decode cL_words 147 = .ok (.invokevirtual 73, 3) := by decide +kernel
theorem dL_words_150 : decode cL_words 150 = .ok (.ifCond .le 7, 3) := by decide +kernel
theorem dL_words_153 : decode cL_words 153 = .ok (.iconst 1, 1) := by decide +kernel
theorem dL_words_154 : decode cL_words 154 = .ok (.goto 4, 3) := by decide +kernel
theorem dL_words_157 : decode cL_words 157 = .ok (.iconst 0, 1) := by decide +kernel
theorem dL_words_158 : decode cL_words 158 = .ok (.ireturn, 1) := by decide +kernel
theorem dL_prints_0 : decode cL_prints 0 = .ok (.aload_n 0, 1) := by decide +kernel
theorem dL_prints_1 : decode cL_prints 1 = .ok (.iload_n 1, 1) := by decide +kernel
theorem dL_prints_2 : decode cL_prints 2 = .ok (.invokestatic 76, 3) := by decide +kernel
theorem dL_prints_5 : decode cL_prints 5 = .ok (.istore_n 2, 1) := by decide +kernel
theorem dL_prints_6 : decode cL_prints 6 = .ok (.aload_n 0, 1) := by decide +kernel
theorem dL_prints_7 : decode cL_prints 7 = .ok (.iconst 0, 1) := by decide +kernel
theorem dL_prints_8 : decode cL_prints 8 = .ok (.invokevirtual 80, 3) := by decide +kernel
theorem dL_prints_11 : decode cL_prints 11 = .ok (.istore_n 3, 1) := by decide +kernel
theorem dL_prints_12 : decode cL_prints 12 = .ok (.aload_n 0, 1) := by decide +kernel
theorem dL_prints_13 : decode cL_prints 13 = .ok (.bipush 13, 2) := by decide +kernel
theorem dL_prints_15 : decode cL_prints 15 = .ok (.invokevirtual 13, 3) := by decide +kernel
theorem dL_prints_18 : decode cL_prints 18 = .ok (.istore 4, 2) := by decide +kernel
theorem dL_prints_20 : decode cL_prints 20 = .ok (.aload_n 0, 1) := by decide +kernel
theorem dL_prints_21 : decode cL_prints 21 = .ok (.iconst 1, 1) := by decide +kernel
theorem dL_prints_22 : decode cL_prints 22 = .ok (.invokevirtual 13, 3) := by decide +kernel
theorem dL_prints_25 : decode cL_prints 25 = .ok (.istore 5, 2) := by decide +kernel
theorem dL_prints_27 : decode cL_prints 27 = .ok (.aload_n 0, 1) := by decide +kernel
theorem dL_prints_28 : decode cL_prints 28 = .ok (.invokevirtual 83, 3) := by decide +kernel
theorem dL_prints_31 : decode cL_prints 31 = .ok (.istore 6, 2) := by decide +kernel
theorem dL_prints_33 : decode cL_prints 33 = .ok (.aload_n 0, 1) := by decide +kernel
theorem dL_prints_34 : decode cL_prints 34 = .ok (.invokevirtual 69, 3) := by decide +kernel
theorem dL_prints_37 : decode cL_prints 37 = .ok (.istore 7, 2) := by decide +kernel
theorem dL_prints_39 : decode cL_prints 39 = .ok (.iload_n 2, 1) := by decide +kernel
theorem dL_prints_40 : decode cL_prints 40 = .ok (.ifCond .eq 155, 3) := by decide +kernel
theorem dL_prints_43 : decode cL_prints 43 = .ok (.iload_n 3, 1) := by decide +kernel
theorem dL_prints_44 : decode cL_prints 44 = .ok (.bipush (-4), 2) := by decide +kernel
theorem dL_prints_46 : decode cL_prints 46 = .ok (.if_icmp .ne 31, 3) := by decide +kernel
theorem dL_prints_49 : decode cL_prints 49 = .ok (.iload 6, 2) := by decide +kernel
theorem dL_prints_51 : decode cL_prints 51 = .ok (.bipush (-2), 2) := by decide +kernel
theorem dL_prints_53 : decode cL_prints 53 = .ok (.if_icmp .eq 41, 3) := by decide +kernel
theorem dL_prints_56 : decode cL_prints 56 = .ok (.iload 6, 2) := by decide +kernel
theorem dL_prints_58 : decode cL_prints 58 = .ok (.iload 5, 2) := by decide +kernel
theorem dL_prints_60 : decode cL_prints 60 = .ok (.iconst 4, 1) := by decide +kernel
theorem dL_prints_61 : decode cL_prints 61 = .ok (.if_icmp .ne 8, 3) := by decide +kernel
theorem dL_prints_64 : decode cL_prints 64 = .ok (.bipush (-3), 2) := by decide +kernel
theorem dL_prints_66 : decode cL_prints 66 = .ok (.goto 5, 3) := by decide +kernel
theorem dL_prints_69 : decode cL_prints 69 = .ok (.iload 5, 2) := by decide +kernel
theorem dL_prints_71 : decode cL_prints 71 = .ok (.if_icmp .ne 124, 3) := by decide +kernel
theorem dL_prints_74 : decode cL_prints 74 = .ok (.goto 20, 3) := by decide +kernel
theorem dL_prints_77 : decode cL_prints 77 = .ok (.iload 6, 2) := by decide +kernel
theorem dL_prints_79 : decode cL_prints 79 = .ok (.bipush (-2), 2) := by decide +kernel
theorem dL_prints_81 : decode cL_prints 81 = .ok (.if_icmp .ne 114, 3) := by decide +kernel
theorem dL_prints_84 : decode cL_prints 84 = .ok (.iload_n 3, 1) := by decide +kernel
theorem dL_prints_85 : decode cL_prints 85 = .ok (.ifCond .lt 110, 3) := by decide +kernel
theorem dL_prints_88 : decode cL_prints 88 = .ok (.iload_n 3, 1) := by decide +kernel
theorem dL_prints_89 : decode cL_prints 89 = .ok (.iload 4, 2) := by decide +kernel
theorem dL_prints_91 : decode cL_prints 91 = .ok (.if_icmp .gt 104, 3) := by decide +kernel
theorem dL_prints_94 : decode cL_prints 94 = .ok (.iload 7, 2) := by decide +kernel
theorem dL_prints_96 : decode cL_prints 96 = .ok (.iload 6, 2) := by decide +kernel
theorem dL_prints_98 : decode cL_prints 98 = .ok (.ifCond .ge 8, 3) := by decide +kernel
theorem dL_prints_101 : decode cL_prints 101 = .ok (.iload 4, 2) := by decide +kernel
theorem dL_prints_103 : decode cL_prints 103 = .ok (.goto 4, 3) := by decide +kernel
theorem dL_prints_106 : decode cL_prints 106 = .ok (.iconst 0, 1) := by decide +kernel
theorem dL_prints_107 : decode cL_prints 107 = .ok (.if_icmp .ne 88, 3) := by decide +kernel
theorem dL_prints_110 : decode cL_prints 110 = .ok (.aload_n 0, 1) := by decide +kernel
theorem dL_prints_111 : decode cL_prints 111 = .ok (.iconst 1, 1) := by decide +kernel
theorem dL_prints_112 : decode cL_prints 112 = .ok (.invokevirtual 13, 3) := by decide +kernel
theorem dL_prints_115 : decode cL_prints 115 = .ok (.iload 5, 2) := by decide +kernel
theorem dL_prints_117 : decode cL_prints 117 = .ok (.iload 6, 2) := by decide +kernel
theorem dL_prints_119 : decode cL_prints 119 = .ok (.ifCond .ge 7, 3) := by decide +kernel
theorem dL_prints_122 : decode cL_prints 122 = .ok (.iconst 0, 1) := by decide +kernel
theorem dL_prints_123 : decode cL_prints 123 = .ok (.goto 4, 3) := by decide +kernel
theorem dL_prints_126 : decode cL_prints 126 = .ok (.iconst 1, 1) := by decide +kernel
theorem dL_prints_127 : decode cL_prints 127 = .ok (.iadd, 1) := by decide +kernel
theorem dL_prints_128 : decode cL_prints 128 = .ok (.if_icmp .ne 67, 3) := by decide +kernel
theorem dL_prints_131 : decode cL_prints 131 = .ok (.iload 6, 2) := by decide +kernel
theorem dL_prints_133 : decode cL_prints 133 = .ok (.ifCond .lt 58, 3) := by decide +kernel
theorem dL_prints_136 : decode cL_prints 136 = .ok (.aload_n 0, 1) := by decide +kernel
theorem dL_prints_137 : decode cL_prints 137 = .ok (.iload 6, 2) := by decide +kernel
theorem dL_prints_139 : decode cL_prints 139 = .ok (.iconst 0, 1) := by decide +kernel
theorem dL_prints_140 : decode cL_prints 140 = .ok (.invokevirtual 19, 3) := by decide +kernel
theorem dL_prints_143 : decode cL_prints 143 = .ok (.aload_n 0, 1) := by decide +kernel
theorem dL_prints_144 : decode cL_prints 144 = .ok (.iload 6, 2) := by decide +kernel
theorem dL_prints_146 : decode cL_prints 146 = .ok (.iconst 2, 1) := by decide +kernel
theorem dL_prints_147 : decode cL_prints 147 = .ok (.invokevirtual 19, 3) := by decide +kernel
theorem dL_prints_150 : decode cL_prints 150 = .ok (.iadd, 1) := by decide +kernel
theorem dL_prints_151 : decode cL_prints 151 = .ok (.iconst 1, 1) := by decide +kernel
theorem dL_prints_152 : decode cL_prints 152 = .ok (.isub, 1) := by decide +kernel
theorem dL_prints_153 : decode cL_prints 153 = .ok (.iload 4, 2) := by decide +kernel
theorem dL_prints_155 : decode cL_prints 155 = .ok (.if_icmp .ne 40, 3) := by decide +kernel
theorem dL_prints_158 : decode cL_prints 158 = .ok (.aload_n 0, 1) := by decide +kernel
theorem dL_prints_159 : decode cL_prints 159 = .ok (.iload 6, 2) := by decide +kernel
theorem dL_prints_161 : decode cL_prints 161 = .ok (.bipush 7, 2) := by decide +kernel
theorem dL_prints_163 : decode cL_prints 163 = .ok (.invokevirtual 19, 3) := by decide +kernel
theorem dL_prints_166 : decode cL_prints 166 = .ok (.ifCond .ne 29, 3) := by decide +kernel
theorem dL_prints_169 : decode cL_prints 169 = .ok (.aload_n 0, 1) := by decide +kernel
theorem dL_prints_170 : decode cL_prints 170 = .ok (.iload 6, 2) := by decide +kernel
theorem dL_prints_172 : decode cL_prints 172 = .ok (.bipush 8, 2) := by decide +kernel
theorem dL_prints_174 : decode cL_prints 174 = .ok (.invokevirtual 19, 3) := by decide +kernel
theorem dL_prints_177 : decode cL_prints 177 = .ok (.ifCond .ne 18, 3) := by decide +kernel
theorem dL_prints_180 : decode cL_prints 180 = .ok (.aload_n 0, 1) := by decide +kernel
theorem dL_prints_181 : decode cL_prints 181 = .ok (.iload 6, 2) := by decide +kernel
theorem dL_prints_183 : decode cL_prints 183 = .ok (.bipush 9, 2) := by decide +kernel
theorem dL_prints_185 : decode cL_prints 185 = .ok (.invokevirtual 19, 3) := by decide +kernel
theorem dL_prints_188 : decode cL_prints 188 = .ok (.ifCond .ne 7, 3) := by decide +kernel
theorem dL_prints_191 : decode cL_prints 191 = .ok (.iconst 1, 1) := by decide +kernel
theorem dL_prints_192 : decode cL_prints 192 = .ok (.goto 4, 3) := by decide +kernel
theorem dL_prints_195 : decode cL_prints 195 = .ok (.iconst 0, 1) := by decide +kernel
theorem dL_prints_196 : decode cL_prints 196 = .ok (.ireturn, 1) := by decide +kernel
theorem dL_pleads_0 : decode cL_pleads 0 = .ok (.iload_n 1, 1) := by decide +kernel
theorem dL_pleads_1 : decode cL_pleads 1 = .ok (.bipush 11, 2) := by decide +kernel
theorem dL_pleads_3 : decode cL_pleads 3 = .ok (.invokestatic 56, 3) := by decide +kernel
theorem dL_pleads_6 : decode cL_pleads 6 = .ok (.istore_n 2, 1) := by decide +kernel
theorem dL_pleads_7 : decode cL_pleads 7 = .ok (.aload_n 0, 1) := by decide +kernel
theorem dL_pleads_8 : decode cL_pleads 8 = .ok (.invokevirtual 69, 3) := by decide +kernel
theorem dL_pleads_11 : decode cL_pleads 11 = .ok (.ifCond .lt 7, 3) := by decide +kernel
theorem dL_pleads_14 : decode cL_pleads 14 = .ok (.iconst 1, 1) := by decide +kernel
theorem dL_pleads_15 : decode cL_pleads 15 = .ok (.goto 4, 3) := by decide +kernel
theorem dL_pleads_18 : decode cL_pleads 18 = .ok (.iconst 0, 1) := by decide +kernel
theorem dL_pleads_19 : decode cL_pleads 19 = .ok (.istore_n 3, 1) := by decide +kernel
theorem dL_pleads_20 : decode cL_pleads 20 = .ok (.iconst 0, 1) := by decide +kernel
theorem dL_pleads_21 : decode cL_pleads 21 = .ok (.istore 4, 2) := by decide +kernel
theorem dL_pleads_23 : decode cL_pleads 23 = .ok (.iload 4, 2) := by decide +kernel
theorem dL_pleads_25 : decode cL_pleads 25 = .ok (.iload_n 2, 1) := by decide +kernel
theorem dL_pleads_26 : decode cL_pleads 26 = .ok (.if_icmp .ge 180, 3) := by decide +kernel
theorem dL_pleads_29 : decode cL_pleads 29 = .ok (.iload_n 1, 1) := by decide +kernel
theorem dL_pleads_30 : decode cL_pleads 30 = .ok (.iconst 1, 1) := by decide +kernel
theorem dL_pleads_31 : decode cL_pleads 31 = .ok (.iconst 2, 1) := by decide +kernel
theorem dL_pleads_32 : decode cL_pleads 32 = .ok (.iload 4, 2) := by decide +kernel
theorem dL_pleads_34 : decode cL_pleads 34 = .ok (.imul, 1) := by decide +kernel
theorem dL_pleads_35 : decode cL_pleads 35 = .ok (.iadd, 1) := by decide +kernel
theorem dL_pleads_36 : decode cL_pleads 36 = .ok (.ishr, 1) := by decide +kernel
theorem dL_pleads_37 : decode cL_pleads 37 = .ok (.istore 5, 2) := by decide +kernel
theorem dL_pleads_39 : decode cL_pleads 39 = .ok (.iload 5, 2) := by decide +kernel
theorem dL_pleads_41 : decode cL_pleads 41 = .ok (.iconst 4, 1) := by decide +kernel
theorem dL_pleads_42 : decode cL_pleads 42 = .ok (.ishr, 1) := by decide +kernel
theorem dL_pleads_43 : decode cL_pleads 43 = .ok (.iload_n 1, 1) := by decide +kernel
theorem dL_pleads_44 : decode cL_pleads 44 = .ok (.bipush 22, 2) := by decide +kernel
theorem dL_pleads_46 : decode cL_pleads 46 = .ok (.ishr, 1) := by decide +kernel
theorem dL_pleads_47 : decode cL_pleads 47 = .ok (.iconst 5, 1) := by decide +kernel
theorem dL_pleads_48 : decode cL_pleads 48 = .ok (.invokestatic 56, 3) := by decide +kernel
theorem dL_pleads_51 : decode cL_pleads 51 = .ok (.ifCond .ne 8, 3) := by decide +kernel
theorem dL_pleads_54 : decode cL_pleads 54 = .ok (.bipush 12, 2) := by decide +kernel
theorem dL_pleads_56 : decode cL_pleads 56 = .ok (.goto 4, 3) := by decide +kernel
theorem dL_pleads_59 : decode cL_pleads 59 = .ok (.iconst 5, 1) := by decide +kernel
theorem dL_pleads_60 : decode cL_pleads 60 = .ok (.invokestatic 56, 3) := by decide +kernel
theorem dL_pleads_63 : decode cL_pleads 63 = .ok (.istore 6, 2) := by decide +kernel
theorem dL_pleads_65 : decode cL_pleads 65 = .ok (.iload_n 3, 1) := by decide +kernel
theorem dL_pleads_66 : decode cL_pleads 66 = .ok (.ifCond .eq 132, 3) := by decide +kernel
theorem dL_pleads_69 : decode cL_pleads 69 = .ok (.iload 4, 2) := by decide +kernel
theorem dL_pleads_71 : decode cL_pleads 71 = .ok (.ifCond .eq 12, 3) := by decide +kernel
theorem dL_pleads_74 : decode cL_pleads 74 = .ok (.aload_n 0, 1) := by decide +kernel
theorem dL_pleads_75 : decode cL_pleads 75 = .ok (.bipush 59, 2) := by decide +kernel
theorem dL_pleads_77 : decode cL_pleads 77 = .ok (.invokevirtual 73, 3) := by decide +kernel
theorem dL_pleads_80 : decode cL_pleads 80 = .ok (.ifCond .le 118, 3) := by decide +kernel
theorem dL_pleads_83 : decode cL_pleads 83 = .ok (.iload 5, 2) := by decide +kernel
theorem dL_pleads_85 : decode cL_pleads 85 = .ok (.iconst 5, 1) := by decide +kernel
theorem dL_pleads_86 : decode cL_pleads 86 = .ok (.invokestatic 56, 3) := by decide +kernel
theorem dL_pleads_89 : decode cL_pleads 89 = .ok (.ifCond .ne 15, 3) := by decide +kernel
theorem dL_pleads_92 : decode cL_pleads 92 = .ok (.aload_n 0, 1) := by decide +kernel
theorem dL_pleads_93 : decode cL_pleads 93 = .ok (.bipush 43, 2) := by decide +kernel
theorem dL_pleads_95 : decode cL_pleads 95 = .ok (.invokevirtual 73, 3) := by decide +kernel
theorem dL_pleads_98 : decode cL_pleads 98 = .ok (.ifCond .le 100, 3) := by decide +kernel
theorem dL_pleads_101 : decode cL_pleads 101 = .ok (.goto 93, 3) := by decide +kernel
theorem dL_pleads_104 : decode cL_pleads 104 = .ok (.aload_n 0, 1) := by decide +kernel
theorem dL_pleads_105 : decode cL_pleads 105 = .ok (.bipush 48, 2) := by decide +kernel
theorem dL_pleads_107 : decode cL_pleads 107 = .ok (.iload 5, 2) := by decide +kernel
theorem dL_pleads_109 : decode cL_pleads 109 = .ok (.iconst 2, 1) := by decide +kernel
theorem dL_pleads_110 : decode cL_pleads 110 = .ok (.ishr, 1) := by decide +kernel
theorem dL_pleads_111 : decode cL_pleads 111 = .ok (.iload_n 1, 1) := by decide +kernel
theorem dL_pleads_112 : decode cL_pleads 112 = .ok (.bipush 23, 2) := by decide +kernel
theorem dL_pleads_114 : decode cL_pleads 114 = .ok (.ishr, 1) := by decide +kernel
theorem dL_pleads_115 : decode cL_pleads 115 = .ok (.bipush 9, 2) := by decide +kernel
theorem dL_pleads_117 : decode cL_pleads 117 = .ok (.invokestatic 56, 3) := by decide +kernel
theorem dL_pleads_120 : decode cL_pleads 120 = .ok (.ifCond .ne 7, 3) := by decide +kernel
theorem dL_pleads_123 : decode cL_pleads 123 = .ok (.iconst 5, 1) := by decide +kernel
theorem dL_pleads_124 : decode cL_pleads 124 = .ok (.goto 20, 3) := by decide +kernel
theorem dL_pleads_127 : decode cL_pleads 127 = .ok (.aload_n 0, 1) := by decide +kernel
theorem dL_pleads_128 : decode cL_pleads 128 = .ok (.iconst 1, 1) := by decide +kernel
theorem dL_pleads_129 : decode cL_pleads 129 = .ok (.invokevirtual 13, 3) := by decide +kernel
theorem dL_pleads_132 : decode cL_pleads 132 = .ok (.ifCond .ne 7, 3) := by decide +kernel
theorem dL_pleads_135 : decode cL_pleads 135 = .ok (.iconst 1, 1) := by decide +kernel
theorem dL_pleads_136 : decode cL_pleads 136 = .ok (.goto 8, 3) := by decide +kernel
theorem dL_pleads_139 : decode cL_pleads 139 = .ok (.aload_n 0, 1) := by decide +kernel
theorem dL_pleads_140 : decode cL_pleads 140 = .ok (.iconst 1, 1) := by decide +kernel
theorem dL_pleads_141 : decode cL_pleads 141 = .ok (.invokevirtual 13, 3) := by decide +kernel
theorem dL_pleads_144 : decode cL_pleads 144 = .ok (.invokestatic 56, 3) := by decide +kernel
theorem dL_pleads_147 : decode cL_pleads 147 = .ok (.iadd, 1) := by decide +kernel
theorem dL_pleads_148 : decode cL_pleads 148 = .ok (.invokevirtual 73, 3) := by decide +kernel
theorem dL_pleads_151 : decode cL_pleads 151 = .ok (.ifCond .le 47, 3) := by decide +kernel
theorem dL_pleads_154 : decode cL_pleads 154 = .ok (.aload_n 0, 1) := by decide +kernel
theorem dL_pleads_155 : decode cL_pleads 155 = .ok (.bipush 58, 2) := by decide +kernel
theorem dL_pleads_157 : decode cL_pleads 157 = .ok (.invokevirtual 73, 3) := by decide +kernel
theorem dL_pleads_160 : decode cL_pleads 160 = .ok (.ifCond .le 38, 3) := by decide +kernel
theorem dL_pleads_163 : decode cL_pleads 163 = .ok (.iload 6, 2) := by decide +kernel
theorem dL_pleads_165 : decode cL_pleads 165 = .ok (.bipush 10, 2) := by decide +kernel
theorem dL_pleads_167 : decode cL_pleads 167 = .ok (.if_icmp .lt 12, 3) := by decide +kernel
theorem dL_pleads_170 : decode cL_pleads 170 = .ok (.aload_n 0, 1) := by decide +kernel
theorem dL_pleads_171 : decode cL_pleads 171 = .ok (.bipush 49, 2) := by decide +kernel
theorem dL_pleads_173 : decode cL_pleads 173 = .ok (.invokevirtual 73, 3) := by decide +kernel
theorem dL_pleads_176 : decode cL_pleads 176 = .ok (.ifCond .le 22, 3) := by decide +kernel
theorem dL_pleads_179 : decode cL_pleads 179 = .ok (.aload_n 0, 1) := by decide +kernel
theorem dL_pleads_180 : decode cL_pleads 180 = .ok (.bipush 48, 2) := by decide +kernel
theorem dL_pleads_182 : decode cL_pleads 182 = .ok (.iload 6, 2) := by decide +kernel
theorem dL_pleads_184 : decode cL_pleads 184 = .ok (.bipush 10, 2) := by decide +kernel
theorem dL_pleads_186 : decode cL_pleads 186 = .ok (.irem, 1) := by decide +kernel
theorem dL_pleads_187 : decode cL_pleads 187 = .ok (.iadd, 1) := by decide +kernel
theorem dL_pleads_188 : decode cL_pleads 188 = .ok (.invokevirtual 73, 3) := by decide +kernel
theorem dL_pleads_191 : decode cL_pleads 191 = .ok (.ifCond .le 7, 3) := by decide +kernel
theorem dL_pleads_194 : decode cL_pleads 194 = .ok (.iconst 1, 1) := by decide +kernel
theorem dL_pleads_195 : decode cL_pleads 195 = .ok (.goto 4, 3) := by decide +kernel
theorem dL_pleads_198 : decode cL_pleads 198 = .ok (.iconst 0, 1) := by decide +kernel
theorem dL_pleads_199 : decode cL_pleads 199 = .ok (.istore_n 3, 1) := by decide +kernel
theorem dL_pleads_200 : decode cL_pleads 200 = .ok (.iinc 4 1, 3) := by decide +kernel
theorem dL_pleads_203 : decode cL_pleads 203 = .ok (.goto (-180), 3) := by decide +kernel
theorem dL_pleads_206 : decode cL_pleads 206 = .ok (.iload_n 3, 1) := by decide +kernel
theorem dL_pleads_207 : decode cL_pleads 207 = .ok (.ifCond .eq 28, 3) := by decide +kernel
theorem dL_pleads_210 : decode cL_pleads 210 = .ok (.iload_n 1, 1) := by decide +kernel
theorem dL_pleads_211 : decode cL_pleads 211 = .ok (.bipush 26, 2) := by decide +kernel
theorem dL_pleads_213 : decode cL_pleads 213 = .ok (.ishr, 1) := by decide +kernel
theorem dL_pleads_214 : decode cL_pleads 214 = .ok (.bipush 7, 2) := by decide +kernel
theorem dL_pleads_216 : decode cL_pleads 216 = .ok (.invokestatic 56, 3) := by decide +kernel
theorem dL_pleads_219 : decode cL_pleads 219 = .ok (.ifCond .gt 12, 3) := by decide +kernel
theorem dL_pleads_222 : decode cL_pleads 222 = .ok (.aload_n 0, 1) := by decide +kernel
theorem dL_pleads_223 : decode cL_pleads 223 = .ok (.bipush 59, 2) := by decide +kernel
theorem dL_pleads_225 : decode cL_pleads 225 = .ok (.invokevirtual 73, 3) := by decide +kernel
theorem dL_pleads_228 : decode cL_pleads 228 = .ok (.ifCond .le 7, 3) := by decide +kernel
theorem dL_pleads_231 : decode cL_pleads 231 = .ok (.iconst 1, 1) := by decide +kernel
theorem dL_pleads_232 : decode cL_pleads 232 = .ok (.goto 4, 3) := by decide +kernel
theorem dL_pleads_235 : decode cL_pleads 235 = .ok (.iconst 0, 1) := by decide +kernel
theorem dL_pleads_236 : decode cL_pleads 236 = .ok (.istore_n 3, 1) := by decide +kernel
theorem dL_pleads_237 : decode cL_pleads 237 = .ok (.aload_n 0, 1) := by decide +kernel
theorem dL_pleads_238 : decode cL_pleads 238 = .ok (.invokestatic 86, 3) := by decide +kernel
theorem dL_pleads_241 : decode cL_pleads 241 = .ok (.lstore 4, 2) := by decide +kernel
theorem dL_pleads_243 : decode cL_pleads 243 = .ok (.aload_n 0, 1) := by decide +kernel
theorem dL_pleads_244 : decode cL_pleads 244 = .ok (.bipush 14, 2) := by decide +kernel
theorem dL_pleads_246 : decode cL_pleads 246 = .ok (.invokevirtual 13, 3) := by decide +kernel
theorem dL_pleads_249 : decode cL_pleads 249 = .ok (.istore 6, 2) := by decide +kernel
theorem dL_pleads_251 : decode cL_pleads 251 = .ok (.aload_n 0, 1) := by decide +kernel
theorem dL_pleads_252 : decode cL_pleads 252 = .ok (.bipush 7, 2) := by decide +kernel
theorem dL_pleads_254 : decode cL_pleads 254 = .ok (.invokevirtual 13, 3) := by decide +kernel
theorem dL_pleads_257 : decode cL_pleads 257 = .ok (.istore 7, 2) := by decide +kernel
theorem dL_pleads_259 : decode cL_pleads 259 = .ok (.aload_n 0, 1) := by decide +kernel
theorem dL_pleads_260 : decode cL_pleads 260 = .ok (.bipush 8, 2) := by decide +kernel
theorem dL_pleads_262 : decode cL_pleads 262 = .ok (.invokevirtual 13, 3) := by decide +kernel
theorem dL_pleads_265 : decode cL_pleads 265 = .ok (.istore 8, 2) := by decide +kernel
theorem dL_pleads_267 : decode cL_pleads 267 = .ok (.aload_n 0, 1) := by decide +kernel
theorem dL_pleads_268 : decode cL_pleads 268 = .ok (.iconst 0, 1) := by decide +kernel
theorem dL_pleads_269 : decode cL_pleads 269 = .ok (.invokevirtual 13, 3) := by decide +kernel
theorem dL_pleads_272 : decode cL_pleads 272 = .ok (.istore 9, 2) := by decide +kernel
theorem dL_pleads_274 : decode cL_pleads 274 = .ok (.aload_n 0, 1) := by decide +kernel
theorem dL_pleads_275 : decode cL_pleads 275 = .ok (.bipush 13, 2) := by decide +kernel
theorem dL_pleads_277 : decode cL_pleads 277 = .ok (.invokevirtual 13, 3) := by decide +kernel
theorem dL_pleads_280 : decode cL_pleads 280 = .ok (.istore 10, 2) := by decide +kernel
theorem dL_pleads_282 : decode cL_pleads 282 = .ok (.aload_n 0, 1) := by decide +kernel
theorem dL_pleads_283 : decode cL_pleads 283 = .ok (.iconst 1, 1) := by decide +kernel
theorem dL_pleads_284 : decode cL_pleads 284 = .ok (.invokevirtual 80, 3) := by decide +kernel
theorem dL_pleads_287 : decode cL_pleads 287 = .ok (.istore 11, 2) := by decide +kernel
theorem dL_pleads_289 : decode cL_pleads 289 = .ok (.aload_n 0, 1) := by decide +kernel
theorem dL_pleads_290 : decode cL_pleads 290 = .ok (.invokevirtual 90, 3) := by decide +kernel
theorem dL_pleads_293 : decode cL_pleads 293 = .ok (.istore 12, 2) := by decide +kernel
theorem dL_pleads_295 : decode cL_pleads 295 = .ok (.aload_n 0, 1) := by decide +kernel
theorem dL_pleads_296 : decode cL_pleads 296 = .ok (.invokevirtual 69, 3) := by decide +kernel
theorem dL_pleads_299 : decode cL_pleads 299 = .ok (.istore 13, 2) := by decide +kernel
theorem dL_pleads_301 : decode cL_pleads 301 = .ok (.iload_n 3, 1) := by decide +kernel
theorem dL_pleads_302 : decode cL_pleads 302 = .ok (.ifCond .eq 34, 3) := by decide +kernel
theorem dL_pleads_305 : decode cL_pleads 305 = .ok (.iload 12, 2) := by decide +kernel
theorem dL_pleads_307 : decode cL_pleads 307 = .ok (.bipush (-2), 2) := by decide +kernel
theorem dL_pleads_309 : decode cL_pleads 309 = .ok (.if_icmp .ne 7, 3) := by decide +kernel
theorem dL_pleads_312 : decode cL_pleads 312 = .ok (.iconst 1, 1) := by decide +kernel
theorem dL_pleads_313 : decode cL_pleads 313 = .ok (.goto 4, 3) := by decide +kernel
theorem dL_pleads_316 : decode cL_pleads 316 = .ok (.iconst 0, 1) := by decide +kernel
theorem dL_pleads_317 : decode cL_pleads 317 = .ok (.iload 11, 2) := by decide +kernel
theorem dL_pleads_319 : decode cL_pleads 319 = .ok (.bipush (-4), 2) := by decide +kernel
theorem dL_pleads_321 : decode cL_pleads 321 = .ok (.if_icmp .eq 7, 3) := by decide +kernel
theorem dL_pleads_324 : decode cL_pleads 324 = .ok (.iconst 1, 1) := by decide +kernel
theorem dL_pleads_325 : decode cL_pleads 325 = .ok (.goto 4, 3) := by decide +kernel
theorem dL_pleads_328 : decode cL_pleads 328 = .ok (.iconst 0, 1) := by decide +kernel
