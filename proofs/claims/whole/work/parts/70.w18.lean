/-! SealedTokensModel.encrypt(IIIIIII)I -/
theorem dX13_encrypt_0 : decode cX13_encrypt 0 = .ok (.iload_n 2, 1) := by decide +kernel
theorem dX13_encrypt_1 : decode cX13_encrypt 1 = .ok (.iconst 3, 1) := by decide +kernel
theorem dX13_encrypt_2 : decode cX13_encrypt 2 = .ok (.if_icmp .le 7, 3) := by decide +kernel
theorem dX13_encrypt_5 : decode cX13_encrypt 5 = .ok (.iconst 1, 1) := by decide +kernel
theorem dX13_encrypt_6 : decode cX13_encrypt 6 = .ok (.goto 4, 3) := by decide +kernel
theorem dX13_encrypt_9 : decode cX13_encrypt 9 = .ok (.iconst 0, 1) := by decide +kernel
theorem dX13_encrypt_10 : decode cX13_encrypt 10 = .ok (.istore 8, 2) := by decide +kernel
theorem dX13_encrypt_12 : decode cX13_encrypt 12 = .ok (.aload_n 0, 1) := by decide +kernel
theorem dX13_encrypt_13 : decode cX13_encrypt 13 = .ok (.iload_n 1, 1) := by decide +kernel
theorem dX13_encrypt_14 : decode cX13_encrypt 14 = .ok (.invokevirtual 871, 3) := by decide +kernel
theorem dX13_encrypt_17 : decode cX13_encrypt 17 = .ok (.ifCond .eq 42, 3) := by decide +kernel
theorem dX13_encrypt_20 : decode cX13_encrypt 20 = .ok (.iload_n 2, 1) := by decide +kernel
theorem dX13_encrypt_21 : decode cX13_encrypt 21 = .ok (.ifCond .lt 38, 3) := by decide +kernel
theorem dX13_encrypt_24 : decode cX13_encrypt 24 = .ok (.iload_n 2, 1) := by decide +kernel
theorem dX13_encrypt_25 : decode cX13_encrypt 25 = .ok (.bipush 6, 2) := by decide +kernel
theorem dX13_encrypt_27 : decode cX13_encrypt 27 = .ok (.if_icmp .ge 32, 3) := by decide +kernel
theorem dX13_encrypt_30 : decode cX13_encrypt 30 = .ok (.iload_n 3, 1) := by decide +kernel
theorem dX13_encrypt_31 : decode cX13_encrypt 31 = .ok (.ifCond .lt 28, 3) := by decide +kernel
theorem dX13_encrypt_34 : decode cX13_encrypt 34 = .ok (.iload_n 3, 1) := by decide +kernel
theorem dX13_encrypt_35 : decode cX13_encrypt 35 = .ok (.iconst 4, 1) := by decide +kernel
theorem dX13_encrypt_36 : decode cX13_encrypt 36 = .ok (.if_icmp .ge 23, 3) := by decide +kernel
theorem dX13_encrypt_39 : decode cX13_encrypt 39 = .ok (.iload 4, 2) := by decide +kernel
theorem dX13_encrypt_41 : decode cX13_encrypt 41 = .ok (.invokestatic 332, 3) := by decide +kernel
theorem dX13_encrypt_44 : decode cX13_encrypt 44 = .ok (.ifCond .eq 15, 3) := by decide +kernel
theorem dX13_encrypt_47 : decode cX13_encrypt 47 = .ok (.iload 5, 2) := by decide +kernel
theorem dX13_encrypt_49 : decode cX13_encrypt 49 = .ok (.invokestatic 332, 3) := by decide +kernel
theorem dX13_encrypt_52 : decode cX13_encrypt 52 = .ok (.ifCond .eq 7, 3) := by decide +kernel
theorem dX13_encrypt_55 : decode cX13_encrypt 55 = .ok (.iconst 1, 1) := by decide +kernel
theorem dX13_encrypt_56 : decode cX13_encrypt 56 = .ok (.goto 4, 3) := by decide +kernel
theorem dX13_encrypt_59 : decode cX13_encrypt 59 = .ok (.iconst 0, 1) := by decide +kernel
theorem dX13_encrypt_60 : decode cX13_encrypt 60 = .ok (.istore 9, 2) := by decide +kernel
theorem dX13_encrypt_62 : decode cX13_encrypt 62 = .ok (.iload 9, 2) := by decide +kernel
theorem dX13_encrypt_64 : decode cX13_encrypt 64 = .ok (.ifCond .eq 36, 3) := by decide +kernel
theorem dX13_encrypt_67 : decode cX13_encrypt 67 = .ok (.iload 8, 2) := by decide +kernel
theorem dX13_encrypt_69 : decode cX13_encrypt 69 = .ok (.ifCond .eq 34, 3) := by decide +kernel
theorem dX13_encrypt_72 : decode cX13_encrypt 72 = .ok (.iload 6, 2) := by decide +kernel
theorem dX13_encrypt_74 : decode cX13_encrypt 74 = .ok (.iconst (-1), 1) := by decide +kernel
theorem dX13_encrypt_75 : decode cX13_encrypt 75 = .ok (.if_icmp .eq 11, 3) := by decide +kernel
theorem dX13_encrypt_78 : decode cX13_encrypt 78 = .ok (.iload 6, 2) := by decide +kernel
theorem dX13_encrypt_80 : decode cX13_encrypt 80 = .ok (.invokestatic 332, 3) := by decide +kernel
theorem dX13_encrypt_83 : decode cX13_encrypt 83 = .ok (.ifCond .eq 17, 3) := by decide +kernel
theorem dX13_encrypt_86 : decode cX13_encrypt 86 = .ok (.iload 7, 2) := by decide +kernel
theorem dX13_encrypt_88 : decode cX13_encrypt 88 = .ok (.iconst (-1), 1) := by decide +kernel
theorem dX13_encrypt_89 : decode cX13_encrypt 89 = .ok (.if_icmp .eq 14, 3) := by decide +kernel
theorem dX13_encrypt_92 : decode cX13_encrypt 92 = .ok (.iload 7, 2) := by decide +kernel
theorem dX13_encrypt_94 : decode cX13_encrypt 94 = .ok (.invokestatic 332, 3) := by decide +kernel
theorem dX13_encrypt_97 : decode cX13_encrypt 97 = .ok (.ifCond .ne 6, 3) := by decide +kernel
theorem dX13_encrypt_100 : decode cX13_encrypt 100 = .ok (.bipush (-2), 2) := by decide +kernel
theorem dX13_encrypt_102 : decode cX13_encrypt 102 = .ok (.ireturn, 1) := by decide +kernel
theorem dX13_encrypt_103 : decode cX13_encrypt 103 = .ok (.aload_n 0, 1) := by decide +kernel
theorem dX13_encrypt_104 : decode cX13_encrypt 104 = .ok (.iload_n 1, 1) := by decide +kernel
theorem dX13_encrypt_105 : decode cX13_encrypt 105 = .ok (.iload_n 2, 1) := by decide +kernel
theorem dX13_encrypt_106 : decode cX13_encrypt 106 = .ok (.iload_n 3, 1) := by decide +kernel
theorem dX13_encrypt_107 : decode cX13_encrypt 107 = .ok (.iconst 0, 1) := by decide +kernel
theorem dX13_encrypt_108 : decode cX13_encrypt 108 = .ok (.invokevirtual 1041, 3) := by decide +kernel
theorem dX13_encrypt_111 : decode cX13_encrypt 111 = .ok (.ifCond .ne 6, 3) := by decide +kernel
theorem dX13_encrypt_114 : decode cX13_encrypt 114 = .ok (.bipush (-26), 2) := by decide +kernel
theorem dX13_encrypt_116 : decode cX13_encrypt 116 = .ok (.ireturn, 1) := by decide +kernel
theorem dX13_encrypt_117 : decode cX13_encrypt 117 = .ok (.iload_n 3, 1) := by decide +kernel
theorem dX13_encrypt_118 : decode cX13_encrypt 118 = .ok (.invokestatic 629, 3) := by decide +kernel
theorem dX13_encrypt_121 : decode cX13_encrypt 121 = .ok (.istore 10, 2) := by decide +kernel
theorem dX13_encrypt_123 : decode cX13_encrypt 123 = .ok (.iload_n 2, 1) := by decide +kernel
theorem dX13_encrypt_124 : decode cX13_encrypt 124 = .ok (.ifCond .le 12, 3) := by decide +kernel
theorem dX13_encrypt_127 : decode cX13_encrypt 127 = .ok (.iload_n 2, 1) := by decide +kernel
theorem dX13_encrypt_128 : decode cX13_encrypt 128 = .ok (.iconst 4, 1) := by decide +kernel
theorem dX13_encrypt_129 : decode cX13_encrypt 129 = .ok (.if_icmp .eq 7, 3) := by decide +kernel
theorem dX13_encrypt_132 : decode cX13_encrypt 132 = .ok (.iconst 1, 1) := by decide +kernel
theorem dX13_encrypt_133 : decode cX13_encrypt 133 = .ok (.goto 4, 3) := by decide +kernel
theorem dX13_encrypt_136 : decode cX13_encrypt 136 = .ok (.iconst 0, 1) := by decide +kernel
theorem dX13_encrypt_137 : decode cX13_encrypt 137 = .ok (.istore 11, 2) := by decide +kernel
theorem dX13_encrypt_139 : decode cX13_encrypt 139 = .ok (.sipush 8192, 3) := by decide +kernel
theorem dX13_encrypt_142 : decode cX13_encrypt 142 = .ok (.iload 5, 2) := by decide +kernel
theorem dX13_encrypt_144 : decode cX13_encrypt 144 = .ok (.imul, 1) := by decide +kernel
theorem dX13_encrypt_145 : decode cX13_encrypt 145 = .ok (.istore 12, 2) := by decide +kernel
theorem dX13_encrypt_147 : decode cX13_encrypt 147 = .ok (.iload 8, 2) := by decide +kernel
theorem dX13_encrypt_149 : decode cX13_encrypt 149 = .ok (.ifCond .eq 8, 3) := by decide +kernel
theorem dX13_encrypt_152 : decode cX13_encrypt 152 = .ok (.bipush 32, 2) := by decide +kernel
theorem dX13_encrypt_154 : decode cX13_encrypt 154 = .ok (.goto 4, 3) := by decide +kernel
theorem dX13_encrypt_157 : decode cX13_encrypt 157 = .ok (.iconst 0, 1) := by decide +kernel
theorem dX13_encrypt_158 : decode cX13_encrypt 158 = .ok (.iload 11, 2) := by decide +kernel
theorem dX13_encrypt_160 : decode cX13_encrypt 160 = .ok (.ifCond .eq 8, 3) := by decide +kernel
theorem dX13_encrypt_163 : decode cX13_encrypt 163 = .ok (.iload 10, 2) := by decide +kernel
theorem dX13_encrypt_165 : decode cX13_encrypt 165 = .ok (.goto 4, 3) := by decide +kernel
theorem dX13_encrypt_168 : decode cX13_encrypt 168 = .ok (.iconst 0, 1) := by decide +kernel
theorem dX13_encrypt_169 : decode cX13_encrypt 169 = .ok (.iadd, 1) := by decide +kernel
theorem dX13_encrypt_170 : decode cX13_encrypt 170 = .ok (.iload_n 2, 1) := by decide +kernel
theorem dX13_encrypt_171 : decode cX13_encrypt 171 = .ok (.iconst 3, 1) := by decide +kernel
theorem dX13_encrypt_172 : decode cX13_encrypt 172 = .ok (.if_icmp .ne 8, 3) := by decide +kernel
theorem dX13_encrypt_175 : decode cX13_encrypt 175 = .ok (.bipush 32, 2) := by decide +kernel
theorem dX13_encrypt_177 : decode cX13_encrypt 177 = .ok (.goto 4, 3) := by decide +kernel
theorem dX13_encrypt_180 : decode cX13_encrypt 180 = .ok (.iconst 0, 1) := by decide +kernel
theorem dX13_encrypt_181 : decode cX13_encrypt 181 = .ok (.iadd, 1) := by decide +kernel
theorem dX13_encrypt_182 : decode cX13_encrypt 182 = .ok (.iload_n 3, 1) := by decide +kernel
theorem dX13_encrypt_183 : decode cX13_encrypt 183 = .ok (.invokestatic 673, 3) := by decide +kernel
theorem dX13_encrypt_186 : decode cX13_encrypt 186 = .ok (.iadd, 1) := by decide +kernel
theorem dX13_encrypt_187 : decode cX13_encrypt 187 = .ok (.istore 13, 2) := by decide +kernel
theorem dX13_encrypt_189 : decode cX13_encrypt 189 = .ok (.aload_n 0, 1) := by decide +kernel
theorem dX13_encrypt_190 : decode cX13_encrypt 190 = .ok (.getfield 17, 3) := by decide +kernel
theorem dX13_encrypt_193 : decode cX13_encrypt 193 = .ok (.iload 5, 2) := by decide +kernel
theorem dX13_encrypt_195 : decode cX13_encrypt 195 = .ok (.iaload, 1) := by decide +kernel
theorem dX13_encrypt_196 : decode cX13_encrypt 196 = .ok (.iload 13, 2) := by decide +kernel
theorem dX13_encrypt_198 : decode cX13_encrypt 198 = .ok (.if_icmp .lt 21, 3) := by decide +kernel
theorem dX13_encrypt_201 : decode cX13_encrypt 201 = .ok (.iload 8, 2) := by decide +kernel
theorem dX13_encrypt_203 : decode cX13_encrypt 203 = .ok (.ifCond .eq 19, 3) := by decide +kernel
theorem dX13_encrypt_206 : decode cX13_encrypt 206 = .ok (.aload_n 0, 1) := by decide +kernel
theorem dX13_encrypt_207 : decode cX13_encrypt 207 = .ok (.aload_n 0, 1) := by decide +kernel
theorem dX13_encrypt_208 : decode cX13_encrypt 208 = .ok (.getfield 14, 3) := by decide +kernel
theorem dX13_encrypt_211 : decode cX13_encrypt 211 = .ok (.iload 12, 2) := by decide +kernel
theorem dX13_encrypt_213 : decode cX13_encrypt 213 = .ok (.invokevirtual 861, 3) := by decide +kernel
theorem dX13_encrypt_216 : decode cX13_encrypt 216 = .ok (.ifCond .ne 6, 3) := by decide +kernel
theorem dX13_encrypt_219 : decode cX13_encrypt 219 = .ok (.bipush (-4), 2) := by decide +kernel
theorem dX13_encrypt_221 : decode cX13_encrypt 221 = .ok (.ireturn, 1) := by decide +kernel
theorem dX13_encrypt_222 : decode cX13_encrypt 222 = .ok (.aload_n 0, 1) := by decide +kernel
theorem dX13_encrypt_223 : decode cX13_encrypt 223 = .ok (.iconst 0, 1) := by decide +kernel
theorem dX13_encrypt_224 : decode cX13_encrypt 224 = .ok (.putfield 1038, 3) := by decide +kernel
theorem dX13_encrypt_227 : decode cX13_encrypt 227 = .ok (.iload 8, 2) := by decide +kernel
theorem dX13_encrypt_229 : decode cX13_encrypt 229 = .ok (.ifCond .eq 19, 3) := by decide +kernel
theorem dX13_encrypt_232 : decode cX13_encrypt 232 = .ok (.aload_n 0, 1) := by decide +kernel
theorem dX13_encrypt_233 : decode cX13_encrypt 233 = .ok (.iload_n 1, 1) := by decide +kernel
theorem dX13_encrypt_234 : decode cX13_encrypt 234 = .ok (.iload_n 2, 1) := by decide +kernel
theorem dX13_encrypt_235 : decode cX13_encrypt 235 = .ok (.iload_n 3, 1) := by decide +kernel
theorem dX13_encrypt_236 : decode cX13_encrypt 236 = .ok (.iload 12, 2) := by decide +kernel
theorem dX13_encrypt_238 : decode cX13_encrypt 238 = .ok (.iload 6, 2) := by decide +kernel
theorem dX13_encrypt_240 : decode cX13_encrypt 240 = .ok (.iload 7, 2) := by decide +kernel
theorem dX13_encrypt_242 : decode cX13_encrypt 242 = .ok (.invokevirtual 1045, 3) := by decide +kernel
theorem dX13_encrypt_245 : decode cX13_encrypt 245 = .ok (.iinc 12 32, 3) := by decide +kernel
theorem dX13_encrypt_248 : decode cX13_encrypt 248 = .ok (.iload 11, 2) := by decide +kernel
theorem dX13_encrypt_250 : decode cX13_encrypt 250 = .ok (.ifCond .eq 29, 3) := by decide +kernel
theorem dX13_encrypt_253 : decode cX13_encrypt 253 = .ok (.aload_n 0, 1) := by decide +kernel
theorem dX13_encrypt_254 : decode cX13_encrypt 254 = .ok (.getfield 14, 3) := by decide +kernel
theorem dX13_encrypt_257 : decode cX13_encrypt 257 = .ok (.iload 12, 2) := by decide +kernel
theorem dX13_encrypt_259 : decode cX13_encrypt 259 = .ok (.aload_n 0, 1) := by decide +kernel
theorem dX13_encrypt_260 : decode cX13_encrypt 260 = .ok (.getfield 288, 3) := by decide +kernel
theorem dX13_encrypt_263 : decode cX13_encrypt 263 = .ok (.iconst 0, 1) := by decide +kernel
theorem dX13_encrypt_264 : decode cX13_encrypt 264 = .ok (.iload 10, 2) := by decide +kernel
theorem dX13_encrypt_266 : decode cX13_encrypt 266 = .ok (.invokestatic 317, 3) := by decide +kernel
theorem dX13_encrypt_269 : decode cX13_encrypt 269 = .ok (.iload 12, 2) := by decide +kernel
theorem dX13_encrypt_271 : decode cX13_encrypt 271 = .ok (.iload 10, 2) := by decide +kernel
theorem dX13_encrypt_273 : decode cX13_encrypt 273 = .ok (.iadd, 1) := by decide +kernel
theorem dX13_encrypt_274 : decode cX13_encrypt 274 = .ok (.istore 12, 2) := by decide +kernel
theorem dX13_encrypt_276 : decode cX13_encrypt 276 = .ok (.goto 41, 3) := by decide +kernel
theorem dX13_encrypt_279 : decode cX13_encrypt 279 = .ok (.iload_n 2, 1) := by decide +kernel
theorem dX13_encrypt_280 : decode cX13_encrypt 280 = .ok (.ifCond .ne 10, 3) := by decide +kernel
theorem dX13_encrypt_283 : decode cX13_encrypt 283 = .ok (.aload_n 0, 1) := by decide +kernel
theorem dX13_encrypt_284 : decode cX13_encrypt 284 = .ok (.getfield 205, 3) := by decide +kernel
theorem dX13_encrypt_287 : decode cX13_encrypt 287 = .ok (.goto 7, 3) := by decide +kernel
theorem dX13_encrypt_290 : decode cX13_encrypt 290 = .ok (.aload_n 0, 1) := by decide +kernel
theorem dX13_encrypt_291 : decode cX13_encrypt 291 = .ok (.getfield 189, 3) := by decide +kernel
theorem dX13_encrypt_294 : decode cX13_encrypt 294 = .ok (.iload_n 2, 1) := by decide +kernel
theorem dX13_encrypt_295 : decode cX13_encrypt 295 = .ok (.ifCond .ne 11, 3) := by decide +kernel
theorem dX13_encrypt_298 : decode cX13_encrypt 298 = .ok (.sipush 128, 3) := by decide +kernel
theorem dX13_encrypt_301 : decode cX13_encrypt 301 = .ok (.iload_n 1, 1) := by decide +kernel
theorem dX13_encrypt_302 : decode cX13_encrypt 302 = .ok (.imul, 1) := by decide +kernel
theorem dX13_encrypt_303 : decode cX13_encrypt 303 = .ok (.goto 4, 3) := by decide +kernel
theorem dX13_encrypt_306 : decode cX13_encrypt 306 = .ok (.iconst 0, 1) := by decide +kernel
theorem dX13_encrypt_307 : decode cX13_encrypt 307 = .ok (.aload_n 0, 1) := by decide +kernel
theorem dX13_encrypt_308 : decode cX13_encrypt 308 = .ok (.getfield 288, 3) := by decide +kernel
theorem dX13_encrypt_311 : decode cX13_encrypt 311 = .ok (.iconst 0, 1) := by decide +kernel
theorem dX13_encrypt_312 : decode cX13_encrypt 312 = .ok (.iload 10, 2) := by decide +kernel
theorem dX13_encrypt_314 : decode cX13_encrypt 314 = .ok (.invokestatic 317, 3) := by decide +kernel
theorem dX13_encrypt_317 : decode cX13_encrypt 317 = .ok (.iload_n 2, 1) := by decide +kernel
theorem dX13_encrypt_318 : decode cX13_encrypt 318 = .ok (.iconst 3, 1) := by decide +kernel
theorem dX13_encrypt_319 : decode cX13_encrypt 319 = .ok (.if_icmp .ne 22, 3) := by decide +kernel
theorem dX13_encrypt_322 : decode cX13_encrypt 322 = .ok (.aload_n 0, 1) := by decide +kernel
theorem dX13_encrypt_323 : decode cX13_encrypt 323 = .ok (.iload_n 1, 1) := by decide +kernel
theorem dX13_encrypt_324 : decode cX13_encrypt 324 = .ok (.iload 10, 2) := by decide +kernel
theorem dX13_encrypt_326 : decode cX13_encrypt 326 = .ok (.aload_n 0, 1) := by decide +kernel
theorem dX13_encrypt_327 : decode cX13_encrypt 327 = .ok (.getfield 14, 3) := by decide +kernel
theorem dX13_encrypt_330 : decode cX13_encrypt 330 = .ok (.iload 12, 2) := by decide +kernel
theorem dX13_encrypt_332 : decode cX13_encrypt 332 = .ok (.invokevirtual 1049, 3) := by decide +kernel
theorem dX13_encrypt_335 : decode cX13_encrypt 335 = .ok (.iinc 12 32, 3) := by decide +kernel
theorem dX13_encrypt_338 : decode cX13_encrypt 338 = .ok (.goto 90, 3) := by decide +kernel
theorem dX13_encrypt_341 : decode cX13_encrypt 341 = .ok (.iload 11, 2) := by decide +kernel
theorem dX13_encrypt_343 : decode cX13_encrypt 343 = .ok (.ifCond .eq 85, 3) := by decide +kernel
theorem dX13_encrypt_346 : decode cX13_encrypt 346 = .ok (.aload_n 0, 1) := by decide +kernel
theorem dX13_encrypt_347 : decode cX13_encrypt 347 = .ok (.iload_n 2, 1) := by decide +kernel
theorem dX13_encrypt_348 : decode cX13_encrypt 348 = .ok (.iconst 5, 1) := by decide +kernel
theorem dX13_encrypt_349 : decode cX13_encrypt 349 = .ok (.if_icmp .ne 10, 3) := by decide +kernel
theorem dX13_encrypt_352 : decode cX13_encrypt 352 = .ok (.aload_n 0, 1) := by decide +kernel
theorem dX13_encrypt_353 : decode cX13_encrypt 353 = .ok (.getfield 189, 3) := by decide +kernel
theorem dX13_encrypt_356 : decode cX13_encrypt 356 = .ok (.goto 7, 3) := by decide +kernel
theorem dX13_encrypt_359 : decode cX13_encrypt 359 = .ok (.aload_n 0, 1) := by decide +kernel
theorem dX13_encrypt_360 : decode cX13_encrypt 360 = .ok (.getfield 205, 3) := by decide +kernel
theorem dX13_encrypt_363 : decode cX13_encrypt 363 = .ok (.iload_n 2, 1) := by decide +kernel
theorem dX13_encrypt_364 : decode cX13_encrypt 364 = .ok (.iconst 5, 1) := by decide +kernel
theorem dX13_encrypt_365 : decode cX13_encrypt 365 = .ok (.if_icmp .ne 7, 3) := by decide +kernel
theorem dX13_encrypt_368 : decode cX13_encrypt 368 = .ok (.iconst 0, 1) := by decide +kernel
theorem dX13_encrypt_369 : decode cX13_encrypt 369 = .ok (.goto 8, 3) := by decide +kernel
theorem dX13_encrypt_372 : decode cX13_encrypt 372 = .ok (.sipush 128, 3) := by decide +kernel
theorem dX13_encrypt_375 : decode cX13_encrypt 375 = .ok (.iload_n 1, 1) := by decide +kernel
theorem dX13_encrypt_376 : decode cX13_encrypt 376 = .ok (.imul, 1) := by decide +kernel
theorem dX13_encrypt_377 : decode cX13_encrypt 377 = .ok (.iload_n 2, 1) := by decide +kernel
theorem dX13_encrypt_378 : decode cX13_encrypt 378 = .ok (.iconst 5, 1) := by decide +kernel
theorem dX13_encrypt_379 : decode cX13_encrypt 379 = .ok (.if_icmp .ne 8, 3) := by decide +kernel
theorem dX13_encrypt_382 : decode cX13_encrypt 382 = .ok (.bipush 16, 2) := by decide +kernel
theorem dX13_encrypt_384 : decode cX13_encrypt 384 = .ok (.goto 9, 3) := by decide +kernel
theorem dX13_encrypt_387 : decode cX13_encrypt 387 = .ok (.aload_n 0, 1) := by decide +kernel
theorem dX13_encrypt_388 : decode cX13_encrypt 388 = .ok (.getfield 208, 3) := by decide +kernel
theorem dX13_encrypt_391 : decode cX13_encrypt 391 = .ok (.iload_n 1, 1) := by decide +kernel
theorem dX13_encrypt_392 : decode cX13_encrypt 392 = .ok (.iaload, 1) := by decide +kernel
theorem dX13_encrypt_393 : decode cX13_encrypt 393 = .ok (.invokevirtual 601, 3) := by decide +kernel
theorem dX13_encrypt_396 : decode cX13_encrypt 396 = .ok (.aload_n 0, 1) := by decide +kernel
theorem dX13_encrypt_397 : decode cX13_encrypt 397 = .ok (.aload_n 0, 1) := by decide +kernel
theorem dX13_encrypt_398 : decode cX13_encrypt 398 = .ok (.aload_n 0, 1) := by decide +kernel
theorem dX13_encrypt_399 : decode cX13_encrypt 399 = .ok (.getfield 288, 3) := by decide +kernel
theorem dX13_encrypt_402 : decode cX13_encrypt 402 = .ok (.iconst 0, 1) := by decide +kernel
theorem dX13_encrypt_403 : decode cX13_encrypt 403 = .ok (.iload 10, 2) := by decide +kernel
theorem dX13_encrypt_405 : decode cX13_encrypt 405 = .ok (.invokevirtual 622, 3) := by decide +kernel
theorem dX13_encrypt_408 : decode cX13_encrypt 408 = .ok (.putfield 1038, 3) := by decide +kernel
theorem dX13_encrypt_411 : decode cX13_encrypt 411 = .ok (.aload_n 0, 1) := by decide +kernel
theorem dX13_encrypt_412 : decode cX13_encrypt 412 = .ok (.getfield 107, 3) := by decide +kernel
theorem dX13_encrypt_415 : decode cX13_encrypt 415 = .ok (.iconst 0, 1) := by decide +kernel
theorem dX13_encrypt_416 : decode cX13_encrypt 416 = .ok (.aload_n 0, 1) := by decide +kernel
theorem dX13_encrypt_417 : decode cX13_encrypt 417 = .ok (.getfield 291, 3) := by decide +kernel
theorem dX13_encrypt_420 : decode cX13_encrypt 420 = .ok (.iconst 0, 1) := by decide +kernel
theorem dX13_encrypt_421 : decode cX13_encrypt 421 = .ok (.aload_n 0, 1) := by decide +kernel
theorem dX13_encrypt_422 : decode cX13_encrypt 422 = .ok (.getfield 1038, 3) := by decide +kernel
theorem dX13_encrypt_425 : decode cX13_encrypt 425 = .ok (.invokestatic 317, 3) := by decide +kernel
theorem dX13_encrypt_428 : decode cX13_encrypt 428 = .ok (.aload_n 0, 1) := by decide +kernel
theorem dX13_encrypt_429 : decode cX13_encrypt 429 = .ok (.iload_n 1, 1) := by decide +kernel
theorem dX13_encrypt_430 : decode cX13_encrypt 430 = .ok (.iload_n 2, 1) := by decide +kernel
theorem dX13_encrypt_431 : decode cX13_encrypt 431 = .ok (.iload_n 3, 1) := by decide +kernel
theorem dX13_encrypt_432 : decode cX13_encrypt 432 = .ok (.iload 4, 2) := by decide +kernel
theorem dX13_encrypt_434 : decode cX13_encrypt 434 = .ok (.iload 12, 2) := by decide +kernel
theorem dX13_encrypt_436 : decode cX13_encrypt 436 = .ok (.iload 6, 2) := by decide +kernel
theorem dX13_encrypt_438 : decode cX13_encrypt 438 = .ok (.iload 7, 2) := by decide +kernel
theorem dX13_encrypt_440 : decode cX13_encrypt 440 = .ok (.invokevirtual 1053, 3) := by decide +kernel
theorem dX13_encrypt_443 : decode cX13_encrypt 443 = .ok (.ireturn, 1) := by decide +kernel
abbrev rmX13_encrypt : Room := { frames := 9, cells := 0, slots := 0, locals := 240 }
set_option maxHeartbeats 4000000 in
set_option maxRecDepth 100000 in
theorem wB_X13_encrypt_393 {G : mG} {F : Nat} {x : mXT} {sz : Nat} {r0 : Int32} {M0 : mM} (X : mCX G RX13 cX13_encrypt 14 (some .int) "encrypt" rmX13_encrypt x) (hQ : mQI x r0 M0 (sz, 0, 0)) {l0 : Nat} {l1 : Int32} {l2 : Int32} {l3 : Int32} {l4 : Int32} {l6 : Int32} {l7 : Int32} {l10 : Int32} {l12 : Int32} {sk0 : Nat} {sk1 : Nat} {sk2 : Int32} {sk3 : Int32} {M : mM} (h : B_X13_encrypt_393 G F l0 l1 l2 l3 l4 l6 l7 l10 l12 sk0 sk1 sk2 sk3 M = some (r0, M0)) : WW x (sz, 0, 0) M 393 [(0, .ref l0), (1, .int l1), (2, .int l2), (3, .int l3), (4, .int l4), (6, .int l6), (7, .int l7), (10, .int l10), (12, .int l12)] [.int sk3, .int sk2, .ref sk1, .ref sk0] := by
  unfold B_X13_encrypt_393 at h
  obtain ⟨_, f393, h⟩ := bO_some h
  obtain ⟨M393, e393, h⟩ := bO_some h
  refine ww_callVV0 393 X dX13_encrypt_393 mY_X13_setKey mL_X13_601 (rcv_spec f393) ⟨_, _, rfl⟩ (by decide) (As := [.ref sk1, .int sk2, .int sk3]) (rest := []) rfl rfl ⟨Nat.le_of_ble_eq_true rfl, Nat.le_of_ble_eq_true rfl⟩ (Nat.le_of_ble_eq_true rfl) (fun l D A => c_X13_setKey l D A e393) ?_
  refine ww_aload_n 396 X dX13_encrypt_396 0 rfl rfl ?_
  refine ww_aload_n 397 X dX13_encrypt_397 0 rfl rfl ?_
  refine ww_aload_n 398 X dX13_encrypt_398 0 rfl rfl ?_
  obtain ⟨v399, e399, h⟩ := bO_some h
  refine ww_getR 399 X dX13_encrypt_399 fG_X13_288 e399 ?_
  refine ww_iconst 402 X (v := (0 : Int32)) dX13_encrypt_402 (by decide) ?_
  refine ww_iload 403 X dX13_encrypt_403 7 rfl ?_
  obtain ⟨_, f405, h⟩ := bO_some h
  obtain ⟨v405, M405, e405, h⟩ := bP_some h
  refine ww_callVI0 405 X dX13_encrypt_405 mY_X13_wrapUp mL_X13_622 (rcv_spec f405) ⟨_, _, rfl⟩ (by decide) (As := [.ref v399, .int (0 : Int32), .int l10]) (rest := [.ref l0]) rfl rfl ⟨Nat.le_of_ble_eq_true rfl, Nat.le_of_ble_eq_true rfl⟩ (Nat.le_of_ble_eq_true rfl) (fun l D A => c_X13_wrapUp l D A e405) ?_
  obtain ⟨M408, e408, h⟩ := bO_some h
  refine ww_putI 408 X dX13_encrypt_408 (fP_X13_1038 _) e408 ?_
  refine ww_aload_n 411 X dX13_encrypt_411 0 rfl rfl ?_
  obtain ⟨v412, e412, h⟩ := bO_some h
  refine ww_getR 412 X dX13_encrypt_412 fG_X13_107 e412 ?_
  refine ww_iconst 415 X (v := (0 : Int32)) dX13_encrypt_415 (by decide) ?_
  refine ww_aload_n 416 X dX13_encrypt_416 0 rfl rfl ?_
  obtain ⟨v417, e417, h⟩ := bO_some h
  refine ww_getR 417 X dX13_encrypt_417 fG_X13_291 e417 ?_
  refine ww_iconst 420 X (v := (0 : Int32)) dX13_encrypt_420 (by decide) ?_
  refine ww_aload_n 421 X dX13_encrypt_421 0 rfl rfl ?_
  obtain ⟨v422, e422, h⟩ := bO_some h
  refine ww_getI 422 X dX13_encrypt_422 fG_X13_1038 e422 ?_
  obtain ⟨M425, e425, h⟩ := bO_some h
  refine ww_callSV0 425 X dX13_encrypt_425 mY_X13_move mL_X13_317 (As := [.ref v412, .int (0 : Int32), .ref v417, .int (0 : Int32), .int v422]) (rest := []) rfl rfl ⟨Nat.le_of_ble_eq_true rfl, Nat.le_of_ble_eq_true rfl⟩ (Nat.le_of_ble_eq_true rfl) (fun l D A => c_X13_move l D A e425) ?_
  refine ww_aload_n 428 X dX13_encrypt_428 0 rfl rfl ?_
  refine ww_iload_n 429 X dX13_encrypt_429 1 rfl rfl ?_
  refine ww_iload_n 430 X dX13_encrypt_430 2 rfl rfl ?_
  refine ww_iload_n 431 X dX13_encrypt_431 3 rfl rfl ?_
  refine ww_iload 432 X dX13_encrypt_432 4 rfl ?_
  refine ww_iload 434 X dX13_encrypt_434 8 rfl ?_
  refine ww_iload 436 X dX13_encrypt_436 5 rfl ?_
  refine ww_iload 438 X dX13_encrypt_438 6 rfl ?_
  obtain ⟨_, f440, h⟩ := bO_some h
  obtain ⟨v440, M440, e440, h⟩ := bP_some h
  refine ww_callVI0 440 X dX13_encrypt_440 mY_X13_compose mL_X13_1053 (rcv_spec f440) ⟨_, _, rfl⟩ (by decide) (As := [.int l1, .int l2, .int l3, .int l4, .int l12, .int l6, .int l7]) (rest := []) rfl rfl ⟨Nat.le_of_ble_eq_true rfl, Nat.le_of_ble_eq_true rfl⟩ (Nat.le_of_ble_eq_true rfl) (fun l D A => c_X13_compose l D A e440) ?_
  exact ww_iretE 443 X hQ dX13_encrypt_443 h
set_option maxHeartbeats 4000000 in
set_option maxRecDepth 100000 in
theorem wB_X13_encrypt_363 {G : mG} {F : Nat} {x : mXT} {sz : Nat} {r0 : Int32} {M0 : mM} (X : mCX G RX13 cX13_encrypt 14 (some .int) "encrypt" rmX13_encrypt x) (hQ : mQI x r0 M0 (sz, 0, 0)) {l0 : Nat} {l1 : Int32} {l2 : Int32} {l3 : Int32} {l4 : Int32} {l6 : Int32} {l7 : Int32} {l10 : Int32} {l12 : Int32} {sk0 : Nat} {sk1 : Nat} {M : mM} (h : B_X13_encrypt_363 G F l0 l1 l2 l3 l4 l6 l7 l10 l12 sk0 sk1 M = some (r0, M0)) : WW x (sz, 0, 0) M 363 [(0, .ref l0), (1, .int l1), (2, .int l2), (3, .int l3), (4, .int l4), (6, .int l6), (7, .int l7), (10, .int l10), (12, .int l12)] [.ref sk1, .ref sk0] := by
  unfold B_X13_encrypt_363 at h
  refine ww_iload_n 363 X dX13_encrypt_363 2 rfl rfl ?_
  refine ww_iconst 364 X (v := (5 : Int32)) dX13_encrypt_364 (by decide) ?_
  refine ww_icmp_ne 365 372 X dX13_encrypt_365 (by decide) (fun q => ?_) (fun q => ?_)
  · replace h := (if_neg q).symm.trans h
    refine ww_sipush 372 X (v := (128 : Int32)) dX13_encrypt_372 (by decide) ?_
    refine ww_iload_n 375 X dX13_encrypt_375 1 rfl rfl ?_
    refine ww_imul 376 X dX13_encrypt_376 ?_
    refine ww_iload_n 377 X dX13_encrypt_377 2 rfl rfl ?_
    refine ww_iconst 378 X (v := (5 : Int32)) dX13_encrypt_378 (by decide) ?_
    refine ww_icmp_ne 379 387 X dX13_encrypt_379 (by decide) (fun q => ?_) (fun q => ?_)
    · replace h := (if_neg q).symm.trans h
      refine ww_aload_n 387 X dX13_encrypt_387 0 rfl rfl ?_
      obtain ⟨v388, e388, h⟩ := bO_some h
      refine ww_getR 388 X dX13_encrypt_388 fG_X13_208 e388 ?_
      refine ww_iload_n 391 X dX13_encrypt_391 1 rfl rfl ?_
      obtain ⟨v392, e392, h⟩ := bO_some h
      refine ww_iald 392 X dX13_encrypt_392 e392 ?_
      exact (wB_X13_encrypt_393 X hQ h)
    · replace h := (if_pos q).symm.trans h
      refine ww_bipush 382 X (v := (16 : Int32)) dX13_encrypt_382 (by decide) ?_
      refine ww_goto 384 393 X dX13_encrypt_384 (by decide) ?_
      exact (wB_X13_encrypt_393 X hQ h)
  · replace h := (if_pos q).symm.trans h
    refine ww_iconst 368 X (v := (0 : Int32)) dX13_encrypt_368 (by decide) ?_
    refine ww_goto 369 377 X dX13_encrypt_369 (by decide) ?_
    refine ww_iload_n 377 X dX13_encrypt_377 2 rfl rfl ?_
    refine ww_iconst 378 X (v := (5 : Int32)) dX13_encrypt_378 (by decide) ?_
    refine ww_icmp_ne 379 387 X dX13_encrypt_379 (by decide) (fun q => ?_) (fun q => ?_)
    · replace h := (if_neg q).symm.trans h
      refine ww_aload_n 387 X dX13_encrypt_387 0 rfl rfl ?_
      obtain ⟨v388, e388, h⟩ := bO_some h
      refine ww_getR 388 X dX13_encrypt_388 fG_X13_208 e388 ?_
      refine ww_iload_n 391 X dX13_encrypt_391 1 rfl rfl ?_
      obtain ⟨v392, e392, h⟩ := bO_some h
      refine ww_iald 392 X dX13_encrypt_392 e392 ?_
      exact (wB_X13_encrypt_393 X hQ h)
    · replace h := (if_pos q).symm.trans h
      refine ww_bipush 382 X (v := (16 : Int32)) dX13_encrypt_382 (by decide) ?_
      refine ww_goto 384 393 X dX13_encrypt_384 (by decide) ?_
      exact (wB_X13_encrypt_393 X hQ h)
set_option maxHeartbeats 4000000 in
set_option maxRecDepth 100000 in
theorem wB_X13_encrypt_317 {G : mG} {F : Nat} {x : mXT} {sz : Nat} {r0 : Int32} {M0 : mM} (X : mCX G RX13 cX13_encrypt 14 (some .int) "encrypt" rmX13_encrypt x) (hQ : mQI x r0 M0 (sz, 0, 0)) {l0 : Nat} {l1 : Int32} {l2 : Int32} {l3 : Int32} {l4 : Int32} {l6 : Int32} {l7 : Int32} {l10 : Int32} {l11 : Int32} {l12 : Int32} {M : mM} (h : B_X13_encrypt_317 G F l0 l1 l2 l3 l4 l6 l7 l10 l11 l12 M = some (r0, M0)) : WW x (sz, 0, 0) M 317 [(0, .ref l0), (1, .int l1), (2, .int l2), (3, .int l3), (4, .int l4), (6, .int l6), (7, .int l7), (10, .int l10), (11, .int l11), (12, .int l12)] [] := by
  unfold B_X13_encrypt_317 at h
  refine ww_iload_n 317 X dX13_encrypt_317 2 rfl rfl ?_
  refine ww_iconst 318 X (v := (3 : Int32)) dX13_encrypt_318 (by decide) ?_
  refine ww_icmp_ne 319 341 X dX13_encrypt_319 (by decide) (fun q => ?_) (fun q => ?_)
  · replace h := (if_neg q).symm.trans h
    refine ww_iload 341 X dX13_encrypt_341 8 rfl ?_
    refine ww_if_eq 343 428 X dX13_encrypt_343 (by decide) (fun q => ?_) (fun q => ?_)
    · replace h := (if_pos q).symm.trans h
      refine ww_aload_n 428 X dX13_encrypt_428 0 rfl rfl ?_
      refine ww_iload_n 429 X dX13_encrypt_429 1 rfl rfl ?_
      refine ww_iload_n 430 X dX13_encrypt_430 2 rfl rfl ?_
      refine ww_iload_n 431 X dX13_encrypt_431 3 rfl rfl ?_
      refine ww_iload 432 X dX13_encrypt_432 4 rfl ?_
      refine ww_iload 434 X dX13_encrypt_434 9 rfl ?_
      refine ww_iload 436 X dX13_encrypt_436 5 rfl ?_
      refine ww_iload 438 X dX13_encrypt_438 6 rfl ?_
      obtain ⟨_, f440, h⟩ := bO_some h
      obtain ⟨v440, M440, e440, h⟩ := bP_some h
      refine ww_callVI0 440 X dX13_encrypt_440 mY_X13_compose mL_X13_1053 (rcv_spec f440) ⟨_, _, rfl⟩ (by decide) (As := [.int l1, .int l2, .int l3, .int l4, .int l12, .int l6, .int l7]) (rest := []) rfl rfl ⟨Nat.le_of_ble_eq_true rfl, Nat.le_of_ble_eq_true rfl⟩ (Nat.le_of_ble_eq_true rfl) (fun l D A => c_X13_compose l D A e440) ?_
      exact ww_iretE 443 X hQ dX13_encrypt_443 h
    · replace h := (if_neg q).symm.trans h
      refine ww_aload_n 346 X dX13_encrypt_346 0 rfl rfl ?_
      refine ww_iload_n 347 X dX13_encrypt_347 2 rfl rfl ?_
      refine ww_iconst 348 X (v := (5 : Int32)) dX13_encrypt_348 (by decide) ?_
      refine ww_icmp_ne 349 359 X dX13_encrypt_349 (by decide) (fun q => ?_) (fun q => ?_)
      · replace h := (if_neg q).symm.trans h
        refine ww_aload_n 359 X dX13_encrypt_359 0 rfl rfl ?_
        obtain ⟨v360, e360, h⟩ := bO_some h
        refine ww_getR 360 X dX13_encrypt_360 fG_X13_205 e360 ?_
        exact ww_sub [0, 1, 2, 3, 4, 5, 6, 7, 9] rfl (wB_X13_encrypt_363 X hQ h)
      · replace h := (if_pos q).symm.trans h
        refine ww_aload_n 352 X dX13_encrypt_352 0 rfl rfl ?_
        obtain ⟨v353, e353, h⟩ := bO_some h
        refine ww_getR 353 X dX13_encrypt_353 fG_X13_189 e353 ?_
        refine ww_goto 356 363 X dX13_encrypt_356 (by decide) ?_
        exact ww_sub [0, 1, 2, 3, 4, 5, 6, 7, 9] rfl (wB_X13_encrypt_363 X hQ h)
  · replace h := (if_pos q).symm.trans h
    refine ww_aload_n 322 X dX13_encrypt_322 0 rfl rfl ?_
    refine ww_iload_n 323 X dX13_encrypt_323 1 rfl rfl ?_
    refine ww_iload 324 X dX13_encrypt_324 7 rfl ?_
    refine ww_aload_n 326 X dX13_encrypt_326 0 rfl rfl ?_
    obtain ⟨v327, e327, h⟩ := bO_some h
    refine ww_getR 327 X dX13_encrypt_327 fG_X13_14 e327 ?_
    refine ww_iload 330 X dX13_encrypt_330 9 rfl ?_
    obtain ⟨_, f332, h⟩ := bO_some h
    obtain ⟨M332, e332, h⟩ := bO_some h
    refine ww_callVV0 332 X dX13_encrypt_332 mY_X13_sealRsa mL_X13_1049 (rcv_spec f332) ⟨_, _, rfl⟩ (by decide) (As := [.int l1, .int l10, .ref v327, .int l12]) (rest := []) rfl rfl ⟨Nat.le_of_ble_eq_true rfl, Nat.le_of_ble_eq_true rfl⟩ (Nat.le_of_ble_eq_true rfl) (fun l D A => c_X13_sealRsa l D A e332) ?_
    refine ww_iinc 335 X dX13_encrypt_335 (lv' := [(0, .ref l0), (1, .int l1), (2, .int l2), (3, .int l3), (4, .int l4), (6, .int l6), (7, .int l7), (10, .int l10), (11, .int l11), (12, .int (l12 + 32))]) 9 rfl rfl (by decide) [1, 2, 3, 4, 5, 6, 7, 8, 9, 0] rfl ?_
    refine ww_goto 338 428 X dX13_encrypt_338 (by decide) ?_
    refine ww_aload_n 428 X dX13_encrypt_428 0 rfl rfl ?_
    refine ww_iload_n 429 X dX13_encrypt_429 1 rfl rfl ?_
    refine ww_iload_n 430 X dX13_encrypt_430 2 rfl rfl ?_
    refine ww_iload_n 431 X dX13_encrypt_431 3 rfl rfl ?_
    refine ww_iload 432 X dX13_encrypt_432 4 rfl ?_
    refine ww_iload 434 X dX13_encrypt_434 9 rfl ?_
    refine ww_iload 436 X dX13_encrypt_436 5 rfl ?_
    refine ww_iload 438 X dX13_encrypt_438 6 rfl ?_
    obtain ⟨_, f440, h⟩ := bO_some h
    obtain ⟨v440, M440, e440, h⟩ := bP_some h
    refine ww_callVI0 440 X dX13_encrypt_440 mY_X13_compose mL_X13_1053 (rcv_spec f440) ⟨_, _, rfl⟩ (by decide) (As := [.int l1, .int l2, .int l3, .int l4, .int (l12 + 32), .int l6, .int l7]) (rest := []) rfl rfl ⟨Nat.le_of_ble_eq_true rfl, Nat.le_of_ble_eq_true rfl⟩ (Nat.le_of_ble_eq_true rfl) (fun l D A => c_X13_compose l D A e440) ?_
    exact ww_iretE 443 X hQ dX13_encrypt_443 h
set_option maxHeartbeats 4000000 in
set_option maxRecDepth 100000 in
theorem wB_X13_encrypt_294 {G : mG} {F : Nat} {x : mXT} {sz : Nat} {r0 : Int32} {M0 : mM} (X : mCX G RX13 cX13_encrypt 14 (some .int) "encrypt" rmX13_encrypt x) (hQ : mQI x r0 M0 (sz, 0, 0)) {l0 : Nat} {l1 : Int32} {l2 : Int32} {l3 : Int32} {l4 : Int32} {l6 : Int32} {l7 : Int32} {l10 : Int32} {l11 : Int32} {l12 : Int32} {sk0 : Nat} {M : mM} (h : B_X13_encrypt_294 G F l0 l1 l2 l3 l4 l6 l7 l10 l11 l12 sk0 M = some (r0, M0)) : WW x (sz, 0, 0) M 294 [(0, .ref l0), (1, .int l1), (2, .int l2), (3, .int l3), (4, .int l4), (6, .int l6), (7, .int l7), (10, .int l10), (11, .int l11), (12, .int l12)] [.ref sk0] := by
  unfold B_X13_encrypt_294 at h
  refine ww_iload_n 294 X dX13_encrypt_294 2 rfl rfl ?_
  refine ww_if_ne 295 306 X dX13_encrypt_295 (by decide) (fun q => ?_) (fun q => ?_)
  · replace h := (if_neg q).symm.trans h
    refine ww_iconst 306 X (v := (0 : Int32)) dX13_encrypt_306 (by decide) ?_
    refine ww_aload_n 307 X dX13_encrypt_307 0 rfl rfl ?_
    obtain ⟨v308, e308, h⟩ := bO_some h
    refine ww_getR 308 X dX13_encrypt_308 fG_X13_288 e308 ?_
    refine ww_iconst 311 X (v := (0 : Int32)) dX13_encrypt_311 (by decide) ?_
    refine ww_iload 312 X dX13_encrypt_312 7 rfl ?_
    obtain ⟨M314, e314, h⟩ := bO_some h
    refine ww_callSV0 314 X dX13_encrypt_314 mY_X13_move mL_X13_317 (As := [.ref sk0, .int (0 : Int32), .ref v308, .int (0 : Int32), .int l10]) (rest := []) rfl rfl ⟨Nat.le_of_ble_eq_true rfl, Nat.le_of_ble_eq_true rfl⟩ (Nat.le_of_ble_eq_true rfl) (fun l D A => c_X13_move l D A e314) ?_
    exact (wB_X13_encrypt_317 X hQ h)
  · replace h := (if_pos q).symm.trans h
    refine ww_sipush 298 X (v := (128 : Int32)) dX13_encrypt_298 (by decide) ?_
    refine ww_iload_n 301 X dX13_encrypt_301 1 rfl rfl ?_
    refine ww_imul 302 X dX13_encrypt_302 ?_
    refine ww_goto 303 307 X dX13_encrypt_303 (by decide) ?_
    refine ww_aload_n 307 X dX13_encrypt_307 0 rfl rfl ?_
    obtain ⟨v308, e308, h⟩ := bO_some h
    refine ww_getR 308 X dX13_encrypt_308 fG_X13_288 e308 ?_
    refine ww_iconst 311 X (v := (0 : Int32)) dX13_encrypt_311 (by decide) ?_
    refine ww_iload 312 X dX13_encrypt_312 7 rfl ?_
    obtain ⟨M314, e314, h⟩ := bO_some h
    refine ww_callSV0 314 X dX13_encrypt_314 mY_X13_move mL_X13_317 (As := [.ref sk0, .int ((128 : Int32) * l1), .ref v308, .int (0 : Int32), .int l10]) (rest := []) rfl rfl ⟨Nat.le_of_ble_eq_true rfl, Nat.le_of_ble_eq_true rfl⟩ (Nat.le_of_ble_eq_true rfl) (fun l D A => c_X13_move l D A e314) ?_
    exact (wB_X13_encrypt_317 X hQ h)
set_option maxHeartbeats 4000000 in
set_option maxRecDepth 100000 in
theorem wB_X13_encrypt_248 {G : mG} {F : Nat} {x : mXT} {sz : Nat} {r0 : Int32} {M0 : mM} (X : mCX G RX13 cX13_encrypt 14 (some .int) "encrypt" rmX13_encrypt x) (hQ : mQI x r0 M0 (sz, 0, 0)) {l0 : Nat} {l1 : Int32} {l2 : Int32} {l3 : Int32} {l4 : Int32} {l6 : Int32} {l7 : Int32} {l10 : Int32} {l11 : Int32} {l12 : Int32} {M : mM} (h : B_X13_encrypt_248 G F l0 l1 l2 l3 l4 l6 l7 l10 l11 l12 M = some (r0, M0)) : WW x (sz, 0, 0) M 248 [(0, .ref l0), (1, .int l1), (2, .int l2), (3, .int l3), (4, .int l4), (6, .int l6), (7, .int l7), (10, .int l10), (11, .int l11), (12, .int l12)] [] := by
  unfold B_X13_encrypt_248 at h
  refine ww_iload 248 X dX13_encrypt_248 8 rfl ?_
  refine ww_if_eq 250 279 X dX13_encrypt_250 (by decide) (fun q => ?_) (fun q => ?_)
  · replace h := (if_pos q).symm.trans h
    refine ww_iload_n 279 X dX13_encrypt_279 2 rfl rfl ?_
    refine ww_if_ne 280 290 X dX13_encrypt_280 (by decide) (fun q => ?_) (fun q => ?_)
    · replace h := (if_neg q).symm.trans h
      refine ww_aload_n 290 X dX13_encrypt_290 0 rfl rfl ?_
      obtain ⟨v291, e291, h⟩ := bO_some h
      refine ww_getR 291 X dX13_encrypt_291 fG_X13_189 e291 ?_
      exact (wB_X13_encrypt_294 X hQ h)
    · replace h := (if_pos q).symm.trans h
      refine ww_aload_n 283 X dX13_encrypt_283 0 rfl rfl ?_
      obtain ⟨v284, e284, h⟩ := bO_some h
      refine ww_getR 284 X dX13_encrypt_284 fG_X13_205 e284 ?_
      refine ww_goto 287 294 X dX13_encrypt_287 (by decide) ?_
      exact (wB_X13_encrypt_294 X hQ h)
  · replace h := (if_neg q).symm.trans h
    refine ww_aload_n 253 X dX13_encrypt_253 0 rfl rfl ?_
    obtain ⟨v254, e254, h⟩ := bO_some h
    refine ww_getR 254 X dX13_encrypt_254 fG_X13_14 e254 ?_
    refine ww_iload 257 X dX13_encrypt_257 9 rfl ?_
    refine ww_aload_n 259 X dX13_encrypt_259 0 rfl rfl ?_
    obtain ⟨v260, e260, h⟩ := bO_some h
    refine ww_getR 260 X dX13_encrypt_260 fG_X13_288 e260 ?_
    refine ww_iconst 263 X (v := (0 : Int32)) dX13_encrypt_263 (by decide) ?_
    refine ww_iload 264 X dX13_encrypt_264 7 rfl ?_
    obtain ⟨M266, e266, h⟩ := bO_some h
    refine ww_callSV0 266 X dX13_encrypt_266 mY_X13_move mL_X13_317 (As := [.ref v254, .int l12, .ref v260, .int (0 : Int32), .int l10]) (rest := []) rfl rfl ⟨Nat.le_of_ble_eq_true rfl, Nat.le_of_ble_eq_true rfl⟩ (Nat.le_of_ble_eq_true rfl) (fun l D A => c_X13_move l D A e266) ?_
    refine ww_iload 269 X dX13_encrypt_269 9 rfl ?_
    refine ww_iload 271 X dX13_encrypt_271 7 rfl ?_
    refine ww_iadd 273 X dX13_encrypt_273 ?_
    refine ww_istore 274 X dX13_encrypt_274 (lv' := [(0, .ref l0), (1, .int l1), (2, .int l2), (3, .int l3), (4, .int l4), (6, .int l6), (7, .int l7), (10, .int l10), (11, .int l11), (12, .int (l12 + l10))]) (by decide) [1, 2, 3, 4, 5, 6, 7, 8, 9, 0] rfl ?_
    refine ww_goto 276 317 X dX13_encrypt_276 (by decide) ?_
    exact (wB_X13_encrypt_317 X hQ h)
set_option maxHeartbeats 4000000 in
set_option maxRecDepth 100000 in
theorem wB_X13_encrypt_222 {G : mG} {F : Nat} {x : mXT} {sz : Nat} {r0 : Int32} {M0 : mM} (X : mCX G RX13 cX13_encrypt 14 (some .int) "encrypt" rmX13_encrypt x) (hQ : mQI x r0 M0 (sz, 0, 0)) {l0 : Nat} {l1 : Int32} {l2 : Int32} {l3 : Int32} {l4 : Int32} {l6 : Int32} {l7 : Int32} {l8 : Int32} {l10 : Int32} {l11 : Int32} {l12 : Int32} {M : mM} (h : B_X13_encrypt_222 G F l0 l1 l2 l3 l4 l6 l7 l8 l10 l11 l12 M = some (r0, M0)) : WW x (sz, 0, 0) M 222 [(0, .ref l0), (1, .int l1), (2, .int l2), (3, .int l3), (4, .int l4), (6, .int l6), (7, .int l7), (8, .int l8), (10, .int l10), (11, .int l11), (12, .int l12)] [] := by
  unfold B_X13_encrypt_222 at h
  refine ww_aload_n 222 X dX13_encrypt_222 0 rfl rfl ?_
  refine ww_iconst 223 X (v := (0 : Int32)) dX13_encrypt_223 (by decide) ?_
  obtain ⟨M224, e224, h⟩ := bO_some h
  refine ww_putI 224 X dX13_encrypt_224 (fP_X13_1038 _) e224 ?_
  refine ww_iload 227 X dX13_encrypt_227 7 rfl ?_
  refine ww_if_eq 229 248 X dX13_encrypt_229 (by decide) (fun q => ?_) (fun q => ?_)
  · replace h := (if_pos q).symm.trans h
    exact ww_sub [0, 1, 2, 3, 4, 5, 6, 8, 9, 10] rfl (wB_X13_encrypt_248 X hQ h)
  · replace h := (if_neg q).symm.trans h
    refine ww_aload_n 232 X dX13_encrypt_232 0 rfl rfl ?_
    refine ww_iload_n 233 X dX13_encrypt_233 1 rfl rfl ?_
    refine ww_iload_n 234 X dX13_encrypt_234 2 rfl rfl ?_
    refine ww_iload_n 235 X dX13_encrypt_235 3 rfl rfl ?_
    refine ww_iload 236 X dX13_encrypt_236 10 rfl ?_
    refine ww_iload 238 X dX13_encrypt_238 5 rfl ?_
    refine ww_iload 240 X dX13_encrypt_240 6 rfl ?_
    obtain ⟨_, f242, h⟩ := bO_some h
    obtain ⟨M242, e242, h⟩ := bO_some h
    refine ww_callVV0 242 X dX13_encrypt_242 mY_X13_agreeFresh mL_X13_1045 (rcv_spec f242) ⟨_, _, rfl⟩ (by decide) (As := [.int l1, .int l2, .int l3, .int l12, .int l6, .int l7]) (rest := []) rfl rfl ⟨Nat.le_of_ble_eq_true rfl, Nat.le_of_ble_eq_true rfl⟩ (Nat.le_of_ble_eq_true rfl) (fun l D A => c_X13_agreeFresh l D A e242) ?_
    refine ww_iinc 245 X dX13_encrypt_245 (lv' := [(0, .ref l0), (1, .int l1), (2, .int l2), (3, .int l3), (4, .int l4), (6, .int l6), (7, .int l7), (8, .int l8), (10, .int l10), (11, .int l11), (12, .int (l12 + 32))]) 10 rfl rfl (by decide) [1, 2, 3, 4, 5, 6, 7, 8, 9, 10, 0] rfl ?_
    exact ww_sub [0, 1, 2, 3, 4, 5, 6, 8, 9, 10] rfl (wB_X13_encrypt_248 X hQ h)
set_option maxHeartbeats 4000000 in
set_option maxRecDepth 100000 in
theorem wB_X13_encrypt_181 {G : mG} {F : Nat} {x : mXT} {sz : Nat} {r0 : Int32} {M0 : mM} (X : mCX G RX13 cX13_encrypt 14 (some .int) "encrypt" rmX13_encrypt x) (hQ : mQI x r0 M0 (sz, 0, 0)) {l0 : Nat} {l1 : Int32} {l2 : Int32} {l3 : Int32} {l4 : Int32} {l5 : Int32} {l6 : Int32} {l7 : Int32} {l8 : Int32} {l10 : Int32} {l11 : Int32} {l12 : Int32} {sk0 : Int32} {sk1 : Int32} {M : mM} (h : B_X13_encrypt_181 G F l0 l1 l2 l3 l4 l5 l6 l7 l8 l10 l11 l12 sk0 sk1 M = some (r0, M0)) : WW x (sz, 0, 0) M 181 [(0, .ref l0), (1, .int l1), (2, .int l2), (3, .int l3), (4, .int l4), (5, .int l5), (6, .int l6), (7, .int l7), (8, .int l8), (10, .int l10), (11, .int l11), (12, .int l12)] [.int sk1, .int sk0] := by
  unfold B_X13_encrypt_181 at h
  refine ww_iadd 181 X dX13_encrypt_181 ?_
  refine ww_iload_n 182 X dX13_encrypt_182 3 rfl rfl ?_
  obtain ⟨v183, M183, e183, h⟩ := bP_some h
  refine ww_callSI0 183 X dX13_encrypt_183 mY_X13_beginningOf mL_X13_673 (As := [.int l3]) (rest := [.int (sk0 + sk1)]) rfl rfl ⟨Nat.le_of_ble_eq_true rfl, Nat.le_of_ble_eq_true rfl⟩ (Nat.le_of_ble_eq_true rfl) (fun l D A => c_X13_beginningOf l D A e183) ?_
  refine ww_iadd 186 X dX13_encrypt_186 ?_
  refine ww_istore 187 X dX13_encrypt_187 (lv' := [(0, .ref l0), (1, .int l1), (2, .int l2), (3, .int l3), (4, .int l4), (5, .int l5), (6, .int l6), (7, .int l7), (8, .int l8), (10, .int l10), (11, .int l11), (12, .int l12), (13, .int ((sk0 + sk1) + v183))]) (by decide) [1, 2, 3, 4, 5, 6, 7, 8, 9, 10, 11, 12, 0] rfl ?_
  refine ww_aload_n 189 X dX13_encrypt_189 0 rfl rfl ?_
  obtain ⟨v190, e190, h⟩ := bO_some h
  refine ww_getR 190 X dX13_encrypt_190 fG_X13_17 e190 ?_
  refine ww_iload 193 X dX13_encrypt_193 5 rfl ?_
  obtain ⟨v195, e195, h⟩ := bO_some h
  refine ww_iald 195 X dX13_encrypt_195 e195 ?_
  refine ww_iload 196 X dX13_encrypt_196 12 rfl ?_
  refine ww_icmp_lt 198 219 X dX13_encrypt_198 (by decide) (fun q => ?_) (fun q => ?_)
  · replace h := (if_pos q).symm.trans h
    refine ww_bipush 219 X (v := (-4 : Int32)) dX13_encrypt_219 (by decide) ?_
    exact ww_iretE 221 X hQ dX13_encrypt_221 h
  · replace h := (if_neg q).symm.trans h
    refine ww_iload 201 X dX13_encrypt_201 8 rfl ?_
    refine ww_if_eq 203 222 X dX13_encrypt_203 (by decide) (fun q => ?_) (fun q => ?_)
    · replace h := (if_pos q).symm.trans h
      exact ww_sub [0, 1, 2, 3, 4, 6, 7, 8, 9, 10, 11] rfl (wB_X13_encrypt_222 X hQ h)
    · replace h := (if_neg q).symm.trans h
      refine ww_aload_n 206 X dX13_encrypt_206 0 rfl rfl ?_
      refine ww_aload_n 207 X dX13_encrypt_207 0 rfl rfl ?_
      obtain ⟨v208, e208, h⟩ := bO_some h
      refine ww_getR 208 X dX13_encrypt_208 fG_X13_14 e208 ?_
      refine ww_iload 211 X dX13_encrypt_211 11 rfl ?_
      obtain ⟨_, f213, h⟩ := bO_some h
      obtain ⟨v213, M213, e213, h⟩ := bP_some h
      refine ww_callVI0 213 X dX13_encrypt_213 mY_X13_isSecret mL_X13_861 (rcv_spec f213) ⟨_, _, rfl⟩ (by decide) (As := [.ref v208, .int l12]) (rest := []) rfl rfl ⟨Nat.le_of_ble_eq_true rfl, Nat.le_of_ble_eq_true rfl⟩ (Nat.le_of_ble_eq_true rfl) (fun l D A => c_X13_isSecret l D A e213) ?_
      refine ww_if_ne 216 222 X dX13_encrypt_216 (by decide) (fun q => ?_) (fun q => ?_)
      · replace h := (if_neg q).symm.trans h
        exact ww_sub [0, 1, 2, 3, 4, 6, 7, 8, 9, 10, 11] rfl (wB_X13_encrypt_222 X hQ h)
      · replace h := (if_pos q).symm.trans h
        refine ww_bipush 219 X (v := (-4 : Int32)) dX13_encrypt_219 (by decide) ?_
        exact ww_iretE 221 X hQ dX13_encrypt_221 h
set_option maxHeartbeats 4000000 in
set_option maxRecDepth 100000 in
theorem wB_X13_encrypt_158 {G : mG} {F : Nat} {x : mXT} {sz : Nat} {r0 : Int32} {M0 : mM} (X : mCX G RX13 cX13_encrypt 14 (some .int) "encrypt" rmX13_encrypt x) (hQ : mQI x r0 M0 (sz, 0, 0)) {l0 : Nat} {l1 : Int32} {l2 : Int32} {l3 : Int32} {l4 : Int32} {l5 : Int32} {l6 : Int32} {l7 : Int32} {l8 : Int32} {l10 : Int32} {l11 : Int32} {l12 : Int32} {sk0 : Int32} {M : mM} (h : B_X13_encrypt_158 G F l0 l1 l2 l3 l4 l5 l6 l7 l8 l10 l11 l12 sk0 M = some (r0, M0)) : WW x (sz, 0, 0) M 158 [(0, .ref l0), (1, .int l1), (2, .int l2), (3, .int l3), (4, .int l4), (5, .int l5), (6, .int l6), (7, .int l7), (8, .int l8), (10, .int l10), (11, .int l11), (12, .int l12)] [.int sk0] := by
  unfold B_X13_encrypt_158 at h
  refine ww_iload 158 X dX13_encrypt_158 10 rfl ?_
  refine ww_if_eq 160 168 X dX13_encrypt_160 (by decide) (fun q => ?_) (fun q => ?_)
  · replace h := (if_pos q).symm.trans h
    refine ww_iconst 168 X (v := (0 : Int32)) dX13_encrypt_168 (by decide) ?_
    refine ww_iadd 169 X dX13_encrypt_169 ?_
    refine ww_iload_n 170 X dX13_encrypt_170 2 rfl rfl ?_
    refine ww_iconst 171 X (v := (3 : Int32)) dX13_encrypt_171 (by decide) ?_
    refine ww_icmp_ne 172 180 X dX13_encrypt_172 (by decide) (fun q => ?_) (fun q => ?_)
    · replace h := (if_neg q).symm.trans h
      refine ww_iconst 180 X (v := (0 : Int32)) dX13_encrypt_180 (by decide) ?_
      exact (wB_X13_encrypt_181 X hQ h)
    · replace h := (if_pos q).symm.trans h
      refine ww_bipush 175 X (v := (32 : Int32)) dX13_encrypt_175 (by decide) ?_
      refine ww_goto 177 181 X dX13_encrypt_177 (by decide) ?_
      exact (wB_X13_encrypt_181 X hQ h)
  · replace h := (if_neg q).symm.trans h
    refine ww_iload 163 X dX13_encrypt_163 9 rfl ?_
    refine ww_goto 165 169 X dX13_encrypt_165 (by decide) ?_
    refine ww_iadd 169 X dX13_encrypt_169 ?_
    refine ww_iload_n 170 X dX13_encrypt_170 2 rfl rfl ?_
    refine ww_iconst 171 X (v := (3 : Int32)) dX13_encrypt_171 (by decide) ?_
    refine ww_icmp_ne 172 180 X dX13_encrypt_172 (by decide) (fun q => ?_) (fun q => ?_)
    · replace h := (if_neg q).symm.trans h
      refine ww_iconst 180 X (v := (0 : Int32)) dX13_encrypt_180 (by decide) ?_
      exact (wB_X13_encrypt_181 X hQ h)
    · replace h := (if_pos q).symm.trans h
      refine ww_bipush 175 X (v := (32 : Int32)) dX13_encrypt_175 (by decide) ?_
      refine ww_goto 177 181 X dX13_encrypt_177 (by decide) ?_
      exact (wB_X13_encrypt_181 X hQ h)
set_option maxHeartbeats 4000000 in
set_option maxRecDepth 100000 in
theorem wB_X13_encrypt_136 {G : mG} {F : Nat} {x : mXT} {sz : Nat} {r0 : Int32} {M0 : mM} (X : mCX G RX13 cX13_encrypt 14 (some .int) "encrypt" rmX13_encrypt x) (hQ : mQI x r0 M0 (sz, 0, 0)) {l0 : Nat} {l1 : Int32} {l2 : Int32} {l3 : Int32} {l4 : Int32} {l5 : Int32} {l6 : Int32} {l7 : Int32} {l8 : Int32} {l10 : Int32} {M : mM} (h : B_X13_encrypt_136 G F l0 l1 l2 l3 l4 l5 l6 l7 l8 l10 M = some (r0, M0)) : WW x (sz, 0, 0) M 136 [(0, .ref l0), (1, .int l1), (2, .int l2), (3, .int l3), (4, .int l4), (5, .int l5), (6, .int l6), (7, .int l7), (8, .int l8), (10, .int l10)] [] := by
  unfold B_X13_encrypt_136 at h
  refine ww_iconst 136 X (v := (0 : Int32)) dX13_encrypt_136 (by decide) ?_
  refine ww_istore 137 X dX13_encrypt_137 (lv' := [(0, .ref l0), (1, .int l1), (2, .int l2), (3, .int l3), (4, .int l4), (5, .int l5), (6, .int l6), (7, .int l7), (8, .int l8), (10, .int l10), (11, .int (0 : Int32))]) (by decide) [1, 2, 3, 4, 5, 6, 7, 8, 9, 10, 0] rfl ?_
  refine ww_sipush 139 X (v := (8192 : Int32)) dX13_encrypt_139 (by decide) ?_
  refine ww_iload 142 X dX13_encrypt_142 5 rfl ?_
  refine ww_imul 144 X dX13_encrypt_144 ?_
  refine ww_istore 145 X dX13_encrypt_145 (lv' := [(0, .ref l0), (1, .int l1), (2, .int l2), (3, .int l3), (4, .int l4), (5, .int l5), (6, .int l6), (7, .int l7), (8, .int l8), (10, .int l10), (11, .int (0 : Int32)), (12, .int ((8192 : Int32) * l5))]) (by decide) [1, 2, 3, 4, 5, 6, 7, 8, 9, 10, 11, 0] rfl ?_
  refine ww_iload 147 X dX13_encrypt_147 8 rfl ?_
  refine ww_if_eq 149 157 X dX13_encrypt_149 (by decide) (fun q => ?_) (fun q => ?_)
  · replace h := (if_pos q).symm.trans h
    refine ww_iconst 157 X (v := (0 : Int32)) dX13_encrypt_157 (by decide) ?_
    exact (wB_X13_encrypt_158 X hQ h)
  · replace h := (if_neg q).symm.trans h
    refine ww_bipush 152 X (v := (32 : Int32)) dX13_encrypt_152 (by decide) ?_
    refine ww_goto 154 158 X dX13_encrypt_154 (by decide) ?_
    exact (wB_X13_encrypt_158 X hQ h)
set_option maxHeartbeats 4000000 in
set_option maxRecDepth 100000 in
theorem wB_X13_encrypt_103 {G : mG} {F : Nat} {x : mXT} {sz : Nat} {r0 : Int32} {M0 : mM} (X : mCX G RX13 cX13_encrypt 14 (some .int) "encrypt" rmX13_encrypt x) (hQ : mQI x r0 M0 (sz, 0, 0)) {l0 : Nat} {l1 : Int32} {l2 : Int32} {l3 : Int32} {l4 : Int32} {l5 : Int32} {l6 : Int32} {l7 : Int32} {l8 : Int32} {M : mM} (h : B_X13_encrypt_103 G F l0 l1 l2 l3 l4 l5 l6 l7 l8 M = some (r0, M0)) : WW x (sz, 0, 0) M 103 [(0, .ref l0), (1, .int l1), (2, .int l2), (3, .int l3), (4, .int l4), (5, .int l5), (6, .int l6), (7, .int l7), (8, .int l8)] [] := by
  unfold B_X13_encrypt_103 at h
  refine ww_aload_n 103 X dX13_encrypt_103 0 rfl rfl ?_
  refine ww_iload_n 104 X dX13_encrypt_104 1 rfl rfl ?_
  refine ww_iload_n 105 X dX13_encrypt_105 2 rfl rfl ?_
  refine ww_iload_n 106 X dX13_encrypt_106 3 rfl rfl ?_
  refine ww_iconst 107 X (v := (0 : Int32)) dX13_encrypt_107 (by decide) ?_
  obtain ⟨_, f108, h⟩ := bO_some h
  obtain ⟨v108, M108, e108, h⟩ := bP_some h
  refine ww_callVI0 108 X dX13_encrypt_108 mY_X13_maySeal mL_X13_1041 (rcv_spec f108) ⟨_, _, rfl⟩ (by decide) (As := [.int l1, .int l2, .int l3, .int (0 : Int32)]) (rest := []) rfl rfl ⟨Nat.le_of_ble_eq_true rfl, Nat.le_of_ble_eq_true rfl⟩ (Nat.le_of_ble_eq_true rfl) (fun l D A => c_X13_maySeal l D A e108) ?_
  refine ww_if_ne 111 117 X dX13_encrypt_111 (by decide) (fun q => ?_) (fun q => ?_)
  · replace h := (if_neg q).symm.trans h
    refine ww_iload_n 117 X dX13_encrypt_117 3 rfl rfl ?_
    obtain ⟨v118, M118, e118, h⟩ := bP_some h
    refine ww_callSI0 118 X dX13_encrypt_118 mY_X13_keyOf mL_X13_629 (As := [.int l3]) (rest := []) rfl rfl ⟨Nat.le_of_ble_eq_true rfl, Nat.le_of_ble_eq_true rfl⟩ (Nat.le_of_ble_eq_true rfl) (fun l D A => c_X13_keyOf l D A e118) ?_
    refine ww_istore 121 X dX13_encrypt_121 (lv' := [(0, .ref l0), (1, .int l1), (2, .int l2), (3, .int l3), (4, .int l4), (5, .int l5), (6, .int l6), (7, .int l7), (8, .int l8), (10, .int v118)]) (by decide) [1, 2, 3, 4, 5, 6, 7, 8, 9, 0] rfl ?_
    refine ww_iload_n 123 X dX13_encrypt_123 2 rfl rfl ?_
    refine ww_if_le 124 136 X dX13_encrypt_124 (by decide) (fun q => ?_) (fun q => ?_)
    · replace h := (if_pos q).symm.trans h
      exact (wB_X13_encrypt_136 X hQ h)
    · replace h := (if_neg q).symm.trans h
      refine ww_iload_n 127 X dX13_encrypt_127 2 rfl rfl ?_
      refine ww_iconst 128 X (v := (4 : Int32)) dX13_encrypt_128 (by decide) ?_
      refine ww_icmp_eq 129 136 X dX13_encrypt_129 (by decide) (fun q => ?_) (fun q => ?_)
      · replace h := (if_pos q).symm.trans h
        exact (wB_X13_encrypt_136 X hQ h)
      · replace h := (if_neg q).symm.trans h
        refine ww_iconst 132 X (v := (1 : Int32)) dX13_encrypt_132 (by decide) ?_
        refine ww_goto 133 137 X dX13_encrypt_133 (by decide) ?_
        refine ww_istore 137 X dX13_encrypt_137 (lv' := [(0, .ref l0), (1, .int l1), (2, .int l2), (3, .int l3), (4, .int l4), (5, .int l5), (6, .int l6), (7, .int l7), (8, .int l8), (10, .int v118), (11, .int (1 : Int32))]) (by decide) [1, 2, 3, 4, 5, 6, 7, 8, 9, 10, 0] rfl ?_
        refine ww_sipush 139 X (v := (8192 : Int32)) dX13_encrypt_139 (by decide) ?_
        refine ww_iload 142 X dX13_encrypt_142 5 rfl ?_
        refine ww_imul 144 X dX13_encrypt_144 ?_
        refine ww_istore 145 X dX13_encrypt_145 (lv' := [(0, .ref l0), (1, .int l1), (2, .int l2), (3, .int l3), (4, .int l4), (5, .int l5), (6, .int l6), (7, .int l7), (8, .int l8), (10, .int v118), (11, .int (1 : Int32)), (12, .int ((8192 : Int32) * l5))]) (by decide) [1, 2, 3, 4, 5, 6, 7, 8, 9, 10, 11, 0] rfl ?_
        refine ww_iload 147 X dX13_encrypt_147 8 rfl ?_
        refine ww_if_eq 149 157 X dX13_encrypt_149 (by decide) (fun q => ?_) (fun q => ?_)
        · replace h := (if_pos q).symm.trans h
          refine ww_iconst 157 X (v := (0 : Int32)) dX13_encrypt_157 (by decide) ?_
          exact (wB_X13_encrypt_158 X hQ h)
        · replace h := (if_neg q).symm.trans h
          refine ww_bipush 152 X (v := (32 : Int32)) dX13_encrypt_152 (by decide) ?_
          refine ww_goto 154 158 X dX13_encrypt_154 (by decide) ?_
          exact (wB_X13_encrypt_158 X hQ h)
  · replace h := (if_pos q).symm.trans h
    refine ww_bipush 114 X (v := (-26 : Int32)) dX13_encrypt_114 (by decide) ?_
    exact ww_iretE 116 X hQ dX13_encrypt_116 h
set_option maxHeartbeats 4000000 in
set_option maxRecDepth 100000 in
theorem wB_X13_encrypt_60 {G : mG} {F : Nat} {x : mXT} {sz : Nat} {r0 : Int32} {M0 : mM} (X : mCX G RX13 cX13_encrypt 14 (some .int) "encrypt" rmX13_encrypt x) (hQ : mQI x r0 M0 (sz, 0, 0)) {l0 : Nat} {l1 : Int32} {l2 : Int32} {l3 : Int32} {l4 : Int32} {l5 : Int32} {l6 : Int32} {l7 : Int32} {l8 : Int32} {sk0 : Int32} {M : mM} (h : B_X13_encrypt_60 G F l0 l1 l2 l3 l4 l5 l6 l7 l8 sk0 M = some (r0, M0)) : WW x (sz, 0, 0) M 60 [(0, .ref l0), (1, .int l1), (2, .int l2), (3, .int l3), (4, .int l4), (5, .int l5), (6, .int l6), (7, .int l7), (8, .int l8)] [.int sk0] := by
  unfold B_X13_encrypt_60 at h
  refine ww_istore 60 X dX13_encrypt_60 (lv' := [(0, .ref l0), (1, .int l1), (2, .int l2), (3, .int l3), (4, .int l4), (5, .int l5), (6, .int l6), (7, .int l7), (8, .int l8), (9, .int sk0)]) (by decide) [1, 2, 3, 4, 5, 6, 7, 8, 9, 0] rfl ?_
  refine ww_iload 62 X dX13_encrypt_62 9 rfl ?_
  refine ww_if_eq 64 100 X dX13_encrypt_64 (by decide) (fun q => ?_) (fun q => ?_)
  · replace h := (if_pos q).symm.trans h
    refine ww_bipush 100 X (v := (-2 : Int32)) dX13_encrypt_100 (by decide) ?_
    exact ww_iretE 102 X hQ dX13_encrypt_102 h
  · replace h := (if_neg q).symm.trans h
    refine ww_iload 67 X dX13_encrypt_67 8 rfl ?_
    refine ww_if_eq 69 103 X dX13_encrypt_69 (by decide) (fun q => ?_) (fun q => ?_)
    · replace h := (if_pos q).symm.trans h
      exact ww_sub [0, 1, 2, 3, 4, 5, 6, 7, 8] rfl (wB_X13_encrypt_103 X hQ h)
    · replace h := (if_neg q).symm.trans h
      refine ww_iload 72 X dX13_encrypt_72 6 rfl ?_
      refine ww_iconst 74 X (v := (-1 : Int32)) dX13_encrypt_74 (by decide) ?_
      refine ww_icmp_eq 75 86 X dX13_encrypt_75 (by decide) (fun q => ?_) (fun q => ?_)
      · replace h := (if_pos q).symm.trans h
        refine ww_iload 86 X dX13_encrypt_86 7 rfl ?_
        refine ww_iconst 88 X (v := (-1 : Int32)) dX13_encrypt_88 (by decide) ?_
        refine ww_icmp_eq 89 103 X dX13_encrypt_89 (by decide) (fun q => ?_) (fun q => ?_)
        · replace h := (if_pos q).symm.trans h
          exact ww_sub [0, 1, 2, 3, 4, 5, 6, 7, 8] rfl (wB_X13_encrypt_103 X hQ h)
        · replace h := (if_neg q).symm.trans h
          refine ww_iload 92 X dX13_encrypt_92 7 rfl ?_
          obtain ⟨v94, M94, e94, h⟩ := bP_some h
          refine ww_callSI0 94 X dX13_encrypt_94 mY_X13_isRow mL_X13_332 (As := [.int l7]) (rest := []) rfl rfl ⟨Nat.le_of_ble_eq_true rfl, Nat.le_of_ble_eq_true rfl⟩ (Nat.le_of_ble_eq_true rfl) (fun l D A => c_X13_isRow l D A e94) ?_
          refine ww_if_ne 97 103 X dX13_encrypt_97 (by decide) (fun q => ?_) (fun q => ?_)
          · replace h := (if_neg q).symm.trans h
            exact ww_sub [0, 1, 2, 3, 4, 5, 6, 7, 8] rfl (wB_X13_encrypt_103 X hQ h)
          · replace h := (if_pos q).symm.trans h
            refine ww_bipush 100 X (v := (-2 : Int32)) dX13_encrypt_100 (by decide) ?_
            exact ww_iretE 102 X hQ dX13_encrypt_102 h
      · replace h := (if_neg q).symm.trans h
        refine ww_iload 78 X dX13_encrypt_78 6 rfl ?_
        obtain ⟨v80, M80, e80, h⟩ := bP_some h
        refine ww_callSI0 80 X dX13_encrypt_80 mY_X13_isRow mL_X13_332 (As := [.int l6]) (rest := []) rfl rfl ⟨Nat.le_of_ble_eq_true rfl, Nat.le_of_ble_eq_true rfl⟩ (Nat.le_of_ble_eq_true rfl) (fun l D A => c_X13_isRow l D A e80) ?_
        refine ww_if_eq 83 100 X dX13_encrypt_83 (by decide) (fun q => ?_) (fun q => ?_)
        · replace h := (if_pos q).symm.trans h
          refine ww_bipush 100 X (v := (-2 : Int32)) dX13_encrypt_100 (by decide) ?_
          exact ww_iretE 102 X hQ dX13_encrypt_102 h
        · replace h := (if_neg q).symm.trans h
          refine ww_iload 86 X dX13_encrypt_86 7 rfl ?_
          refine ww_iconst 88 X (v := (-1 : Int32)) dX13_encrypt_88 (by decide) ?_
          refine ww_icmp_eq 89 103 X dX13_encrypt_89 (by decide) (fun q => ?_) (fun q => ?_)
          · replace h := (if_pos q).symm.trans h
            exact ww_sub [0, 1, 2, 3, 4, 5, 6, 7, 8] rfl (wB_X13_encrypt_103 X hQ h)
          · replace h := (if_neg q).symm.trans h
            refine ww_iload 92 X dX13_encrypt_92 7 rfl ?_
            obtain ⟨v94, M94, e94, h⟩ := bP_some h
            refine ww_callSI0 94 X dX13_encrypt_94 mY_X13_isRow mL_X13_332 (As := [.int l7]) (rest := []) rfl rfl ⟨Nat.le_of_ble_eq_true rfl, Nat.le_of_ble_eq_true rfl⟩ (Nat.le_of_ble_eq_true rfl) (fun l D A => c_X13_isRow l D A e94) ?_
            refine ww_if_ne 97 103 X dX13_encrypt_97 (by decide) (fun q => ?_) (fun q => ?_)
            · replace h := (if_neg q).symm.trans h
              exact ww_sub [0, 1, 2, 3, 4, 5, 6, 7, 8] rfl (wB_X13_encrypt_103 X hQ h)
            · replace h := (if_pos q).symm.trans h
              refine ww_bipush 100 X (v := (-2 : Int32)) dX13_encrypt_100 (by decide) ?_
              exact ww_iretE 102 X hQ dX13_encrypt_102 h
set_option maxHeartbeats 4000000 in
set_option maxRecDepth 100000 in
theorem wB_X13_encrypt_10 {G : mG} {F : Nat} {x : mXT} {sz : Nat} {r0 : Int32} {M0 : mM} (X : mCX G RX13 cX13_encrypt 14 (some .int) "encrypt" rmX13_encrypt x) (hQ : mQI x r0 M0 (sz, 0, 0)) {l0 : Nat} {l1 : Int32} {l2 : Int32} {l3 : Int32} {l4 : Int32} {l5 : Int32} {l6 : Int32} {l7 : Int32} {sk0 : Int32} {M : mM} (h : B_X13_encrypt_10 G F l0 l1 l2 l3 l4 l5 l6 l7 sk0 M = some (r0, M0)) : WW x (sz, 0, 0) M 10 [(0, .ref l0), (1, .int l1), (2, .int l2), (3, .int l3), (4, .int l4), (5, .int l5), (6, .int l6), (7, .int l7)] [.int sk0] := by
  unfold B_X13_encrypt_10 at h
  refine ww_istore 10 X dX13_encrypt_10 (lv' := [(0, .ref l0), (1, .int l1), (2, .int l2), (3, .int l3), (4, .int l4), (5, .int l5), (6, .int l6), (7, .int l7), (8, .int sk0)]) (by decide) [1, 2, 3, 4, 5, 6, 7, 8, 0] rfl ?_
  refine ww_aload_n 12 X dX13_encrypt_12 0 rfl rfl ?_
  refine ww_iload_n 13 X dX13_encrypt_13 1 rfl rfl ?_
  obtain ⟨_, f14, h⟩ := bO_some h
  obtain ⟨v14, M14, e14, h⟩ := bP_some h
  refine ww_callVI0 14 X dX13_encrypt_14 mY_X13_isKey mL_X13_871 (rcv_spec f14) ⟨_, _, rfl⟩ (by decide) (As := [.int l1]) (rest := []) rfl rfl ⟨Nat.le_of_ble_eq_true rfl, Nat.le_of_ble_eq_true rfl⟩ (Nat.le_of_ble_eq_true rfl) (fun l D A => c_X13_isKey l D A e14) ?_
  refine ww_if_eq 17 59 X dX13_encrypt_17 (by decide) (fun q => ?_) (fun q => ?_)
  · replace h := (if_pos q).symm.trans h
    refine ww_iconst 59 X (v := (0 : Int32)) dX13_encrypt_59 (by decide) ?_
    exact (wB_X13_encrypt_60 X hQ h)
  · replace h := (if_neg q).symm.trans h
    refine ww_iload_n 20 X dX13_encrypt_20 2 rfl rfl ?_
    refine ww_if_lt 21 59 X dX13_encrypt_21 (by decide) (fun q => ?_) (fun q => ?_)
    · replace h := (if_pos q).symm.trans h
      refine ww_iconst 59 X (v := (0 : Int32)) dX13_encrypt_59 (by decide) ?_
      exact (wB_X13_encrypt_60 X hQ h)
    · replace h := (if_neg q).symm.trans h
      refine ww_iload_n 24 X dX13_encrypt_24 2 rfl rfl ?_
      refine ww_bipush 25 X (v := (6 : Int32)) dX13_encrypt_25 (by decide) ?_
      refine ww_icmp_ge 27 59 X dX13_encrypt_27 (by decide) (fun q => ?_) (fun q => ?_)
      · replace h := (if_pos q).symm.trans h
        refine ww_iconst 59 X (v := (0 : Int32)) dX13_encrypt_59 (by decide) ?_
        exact (wB_X13_encrypt_60 X hQ h)
      · replace h := (if_neg q).symm.trans h
        refine ww_iload_n 30 X dX13_encrypt_30 3 rfl rfl ?_
        refine ww_if_lt 31 59 X dX13_encrypt_31 (by decide) (fun q => ?_) (fun q => ?_)
        · replace h := (if_pos q).symm.trans h
          refine ww_iconst 59 X (v := (0 : Int32)) dX13_encrypt_59 (by decide) ?_
          exact (wB_X13_encrypt_60 X hQ h)
        · replace h := (if_neg q).symm.trans h
          refine ww_iload_n 34 X dX13_encrypt_34 3 rfl rfl ?_
          refine ww_iconst 35 X (v := (4 : Int32)) dX13_encrypt_35 (by decide) ?_
          refine ww_icmp_ge 36 59 X dX13_encrypt_36 (by decide) (fun q => ?_) (fun q => ?_)
          · replace h := (if_pos q).symm.trans h
            refine ww_iconst 59 X (v := (0 : Int32)) dX13_encrypt_59 (by decide) ?_
            exact (wB_X13_encrypt_60 X hQ h)
          · replace h := (if_neg q).symm.trans h
            refine ww_iload 39 X dX13_encrypt_39 4 rfl ?_
            obtain ⟨v41, M41, e41, h⟩ := bP_some h
            refine ww_callSI0 41 X dX13_encrypt_41 mY_X13_isRow mL_X13_332 (As := [.int l4]) (rest := []) rfl rfl ⟨Nat.le_of_ble_eq_true rfl, Nat.le_of_ble_eq_true rfl⟩ (Nat.le_of_ble_eq_true rfl) (fun l D A => c_X13_isRow l D A e41) ?_
            refine ww_if_eq 44 59 X dX13_encrypt_44 (by decide) (fun q => ?_) (fun q => ?_)
            · replace h := (if_pos q).symm.trans h
              refine ww_iconst 59 X (v := (0 : Int32)) dX13_encrypt_59 (by decide) ?_
              exact (wB_X13_encrypt_60 X hQ h)
            · replace h := (if_neg q).symm.trans h
              refine ww_iload 47 X dX13_encrypt_47 5 rfl ?_
              obtain ⟨v49, M49, e49, h⟩ := bP_some h
              refine ww_callSI0 49 X dX13_encrypt_49 mY_X13_isRow mL_X13_332 (As := [.int l5]) (rest := []) rfl rfl ⟨Nat.le_of_ble_eq_true rfl, Nat.le_of_ble_eq_true rfl⟩ (Nat.le_of_ble_eq_true rfl) (fun l D A => c_X13_isRow l D A e49) ?_
              refine ww_if_eq 52 59 X dX13_encrypt_52 (by decide) (fun q => ?_) (fun q => ?_)
              · replace h := (if_pos q).symm.trans h
                refine ww_iconst 59 X (v := (0 : Int32)) dX13_encrypt_59 (by decide) ?_
                exact (wB_X13_encrypt_60 X hQ h)
              · replace h := (if_neg q).symm.trans h
                refine ww_iconst 55 X (v := (1 : Int32)) dX13_encrypt_55 (by decide) ?_
                refine ww_goto 56 60 X dX13_encrypt_56 (by decide) ?_
                exact (wB_X13_encrypt_60 X hQ h)
set_option maxHeartbeats 4000000 in
set_option maxRecDepth 100000 in
theorem wP_X13_encrypt {G : mG} {F : Nat} {x : mXT} {sz : Nat} {r0 : Int32} {M0 : mM} (X : mCX G RX13 cX13_encrypt 14 (some .int) "encrypt" rmX13_encrypt x) (hQ : mQI x r0 M0 (sz, 0, 0)) {l0 : Nat} {l1 : Int32} {l2 : Int32} {l3 : Int32} {l4 : Int32} {l5 : Int32} {l6 : Int32} {l7 : Int32} {M : mM} (h : P_X13_encrypt G F l0 l1 l2 l3 l4 l5 l6 l7 M = some (r0, M0)) : WW x (sz, 0, 0) M 0 [(0, .ref l0), (1, .int l1), (2, .int l2), (3, .int l3), (4, .int l4), (5, .int l5), (6, .int l6), (7, .int l7)] [] := by
  unfold P_X13_encrypt at h
  refine ww_iload_n 0 X dX13_encrypt_0 2 rfl rfl ?_
  refine ww_iconst 1 X (v := (3 : Int32)) dX13_encrypt_1 (by decide) ?_
  refine ww_icmp_le 2 9 X dX13_encrypt_2 (by decide) (fun q => ?_) (fun q => ?_)
  · replace h := (if_pos q).symm.trans h
    refine ww_iconst 9 X (v := (0 : Int32)) dX13_encrypt_9 (by decide) ?_
    exact (wB_X13_encrypt_10 X hQ h)
  · replace h := (if_neg q).symm.trans h
    refine ww_iconst 5 X (v := (1 : Int32)) dX13_encrypt_5 (by decide) ?_
    refine ww_goto 6 10 X dX13_encrypt_6 (by decide) ?_
    exact (wB_X13_encrypt_10 X hQ h)
theorem c_X13_encrypt {G : mG} {F sz : Nat} {r0 : Int32} {M0 : mM} (l : Launch) (D : mD) (A : Nat → Prop) {l0 : Nat} {l1 : Int32} {l2 : Int32} {l3 : Int32} {l4 : Int32} {l5 : Int32} {l6 : Int32} {l7 : Int32} {M : mM} (h : P_X13_encrypt G F l0 l1 l2 l3 l4 l5 l6 l7 M = some (r0, M0)) : mMetI l D G A yX13_encrypt cX13_encrypt 14 (some .int) 9 240 0 0 [.ref l0, .int l1, .int l2, .int l3, .int l4, .int l5, .int l6, .int l7] M sz r0 M0 sz := mMetI_of l D G A (by decide) (Nat.le_of_ble_eq_true rfl) (fun x X hQ => wP_X13_encrypt X hQ h)
/-! SealedTokensModel.keyComes(III)Z -/
theorem dX13_keyComes_0 : decode cX13_keyComes 0 = .ok (.iload_n 3, 1) := by decide +kernel
theorem dX13_keyComes_1 : decode cX13_keyComes 1 = .ok (.invokestatic 629, 3) := by decide +kernel
theorem dX13_keyComes_4 : decode cX13_keyComes 4 = .ok (.istore 4, 2) := by decide +kernel
theorem dX13_keyComes_6 : decode cX13_keyComes 6 = .ok (.iload_n 2, 1) := by decide +kernel
theorem dX13_keyComes_7 : decode cX13_keyComes 7 = .ok (.iconst 3, 1) := by decide +kernel
theorem dX13_keyComes_8 : decode cX13_keyComes 8 = .ok (.if_icmp .ne 19, 3) := by decide +kernel
theorem dX13_keyComes_11 : decode cX13_keyComes 11 = .ok (.aload_n 0, 1) := by decide +kernel
theorem dX13_keyComes_12 : decode cX13_keyComes 12 = .ok (.iload_n 1, 1) := by decide +kernel
theorem dX13_keyComes_13 : decode cX13_keyComes 13 = .ok (.invokevirtual 1074, 3) := by decide +kernel
theorem dX13_keyComes_16 : decode cX13_keyComes 16 = .ok (.iload 4, 2) := by decide +kernel
theorem dX13_keyComes_18 : decode cX13_keyComes 18 = .ok (.if_icmp .ne 7, 3) := by decide +kernel
theorem dX13_keyComes_21 : decode cX13_keyComes 21 = .ok (.iconst 1, 1) := by decide +kernel
theorem dX13_keyComes_22 : decode cX13_keyComes 22 = .ok (.goto 4, 3) := by decide +kernel
theorem dX13_keyComes_25 : decode cX13_keyComes 25 = .ok (.iconst 0, 1) := by decide +kernel
theorem dX13_keyComes_26 : decode cX13_keyComes 26 = .ok (.ireturn, 1) := by decide +kernel
theorem dX13_keyComes_27 : decode cX13_keyComes 27 = .ok (.iload_n 2, 1) := by decide +kernel
theorem dX13_keyComes_28 : decode cX13_keyComes 28 = .ok (.iconst 3, 1) := by decide +kernel
theorem dX13_keyComes_29 : decode cX13_keyComes 29 = .ok (.if_icmp .le 28, 3) := by decide +kernel
theorem dX13_keyComes_32 : decode cX13_keyComes 32 = .ok (.aload_n 0, 1) := by decide +kernel
theorem dX13_keyComes_33 : decode cX13_keyComes 33 = .ok (.aload_n 0, 1) := by decide +kernel
theorem dX13_keyComes_34 : decode cX13_keyComes 34 = .ok (.getfield 217, 3) := by decide +kernel
theorem dX13_keyComes_37 : decode cX13_keyComes 37 = .ok (.sipush 128, 3) := by decide +kernel
theorem dX13_keyComes_40 : decode cX13_keyComes 40 = .ok (.iload_n 1, 1) := by decide +kernel
theorem dX13_keyComes_41 : decode cX13_keyComes 41 = .ok (.imul, 1) := by decide +kernel
theorem dX13_keyComes_42 : decode cX13_keyComes 42 = .ok (.aload_n 0, 1) := by decide +kernel
theorem dX13_keyComes_43 : decode cX13_keyComes 43 = .ok (.getfield 248, 3) := by decide +kernel
theorem dX13_keyComes_46 : decode cX13_keyComes 46 = .ok (.iconst 0, 1) := by decide +kernel
theorem dX13_keyComes_47 : decode cX13_keyComes 47 = .ok (.iload_n 2, 1) := by decide +kernel
theorem dX13_keyComes_48 : decode cX13_keyComes 48 = .ok (.iload_n 3, 1) := by decide +kernel
theorem dX13_keyComes_49 : decode cX13_keyComes 49 = .ok (.invokevirtual 1057, 3) := by decide +kernel
theorem dX13_keyComes_52 : decode cX13_keyComes 52 = .ok (.ifCond .ne 5, 3) := by decide +kernel
theorem dX13_keyComes_55 : decode cX13_keyComes 55 = .ok (.iconst 0, 1) := by decide +kernel
theorem dX13_keyComes_56 : decode cX13_keyComes 56 = .ok (.ireturn, 1) := by decide +kernel
theorem dX13_keyComes_57 : decode cX13_keyComes 57 = .ok (.iload_n 2, 1) := by decide +kernel
theorem dX13_keyComes_58 : decode cX13_keyComes 58 = .ok (.ifCond .eq 8, 3) := by decide +kernel
theorem dX13_keyComes_61 : decode cX13_keyComes 61 = .ok (.iload_n 2, 1) := by decide +kernel
theorem dX13_keyComes_62 : decode cX13_keyComes 62 = .ok (.iconst 4, 1) := by decide +kernel
theorem dX13_keyComes_63 : decode cX13_keyComes 63 = .ok (.if_icmp .ne 54, 3) := by decide +kernel
theorem dX13_keyComes_66 : decode cX13_keyComes 66 = .ok (.iload_n 2, 1) := by decide +kernel
theorem dX13_keyComes_67 : decode cX13_keyComes 67 = .ok (.ifCond .ne 10, 3) := by decide +kernel
theorem dX13_keyComes_70 : decode cX13_keyComes 70 = .ok (.aload_n 0, 1) := by decide +kernel
theorem dX13_keyComes_71 : decode cX13_keyComes 71 = .ok (.getfield 205, 3) := by decide +kernel
theorem dX13_keyComes_74 : decode cX13_keyComes 74 = .ok (.goto 7, 3) := by decide +kernel
theorem dX13_keyComes_77 : decode cX13_keyComes 77 = .ok (.aload_n 0, 1) := by decide +kernel
theorem dX13_keyComes_78 : decode cX13_keyComes 78 = .ok (.getfield 189, 3) := by decide +kernel
theorem dX13_keyComes_81 : decode cX13_keyComes 81 = .ok (.iload_n 2, 1) := by decide +kernel
theorem dX13_keyComes_82 : decode cX13_keyComes 82 = .ok (.ifCond .ne 11, 3) := by decide +kernel
theorem dX13_keyComes_85 : decode cX13_keyComes 85 = .ok (.sipush 128, 3) := by decide +kernel
theorem dX13_keyComes_88 : decode cX13_keyComes 88 = .ok (.iload_n 1, 1) := by decide +kernel
theorem dX13_keyComes_89 : decode cX13_keyComes 89 = .ok (.imul, 1) := by decide +kernel
theorem dX13_keyComes_90 : decode cX13_keyComes 90 = .ok (.goto 4, 3) := by decide +kernel
theorem dX13_keyComes_93 : decode cX13_keyComes 93 = .ok (.iconst 0, 1) := by decide +kernel
theorem dX13_keyComes_94 : decode cX13_keyComes 94 = .ok (.aload_n 0, 1) := by decide +kernel
theorem dX13_keyComes_95 : decode cX13_keyComes 95 = .ok (.getfield 288, 3) := by decide +kernel
theorem dX13_keyComes_98 : decode cX13_keyComes 98 = .ok (.iconst 0, 1) := by decide +kernel
theorem dX13_keyComes_99 : decode cX13_keyComes 99 = .ok (.iload 4, 2) := by decide +kernel
theorem dX13_keyComes_101 : decode cX13_keyComes 101 = .ok (.invokestatic 317, 3) := by decide +kernel
theorem dX13_keyComes_104 : decode cX13_keyComes 104 = .ok (.aload_n 0, 1) := by decide +kernel
theorem dX13_keyComes_105 : decode cX13_keyComes 105 = .ok (.getfield 1038, 3) := by decide +kernel
theorem dX13_keyComes_108 : decode cX13_keyComes 108 = .ok (.ifCond .ne 7, 3) := by decide +kernel
theorem dX13_keyComes_111 : decode cX13_keyComes 111 = .ok (.iconst 1, 1) := by decide +kernel
theorem dX13_keyComes_112 : decode cX13_keyComes 112 = .ok (.goto 4, 3) := by decide +kernel
theorem dX13_keyComes_115 : decode cX13_keyComes 115 = .ok (.iconst 0, 1) := by decide +kernel
theorem dX13_keyComes_116 : decode cX13_keyComes 116 = .ok (.ireturn, 1) := by decide +kernel
theorem dX13_keyComes_117 : decode cX13_keyComes 117 = .ok (.aload_n 0, 1) := by decide +kernel
theorem dX13_keyComes_118 : decode cX13_keyComes 118 = .ok (.getfield 1038, 3) := by decide +kernel
theorem dX13_keyComes_121 : decode cX13_keyComes 121 = .ok (.iload 4, 2) := by decide +kernel
theorem dX13_keyComes_123 : decode cX13_keyComes 123 = .ok (.bipush 8, 2) := by decide +kernel
theorem dX13_keyComes_125 : decode cX13_keyComes 125 = .ok (.iadd, 1) := by decide +kernel
theorem dX13_keyComes_126 : decode cX13_keyComes 126 = .ok (.if_icmp .eq 5, 3) := by decide +kernel
theorem dX13_keyComes_129 : decode cX13_keyComes 129 = .ok (.iconst 0, 1) := by decide +kernel
theorem dX13_keyComes_130 : decode cX13_keyComes 130 = .ok (.ireturn, 1) := by decide +kernel
theorem dX13_keyComes_131 : decode cX13_keyComes 131 = .ok (.aload_n 0, 1) := by decide +kernel
theorem dX13_keyComes_132 : decode cX13_keyComes 132 = .ok (.iload_n 2, 1) := by decide +kernel
theorem dX13_keyComes_133 : decode cX13_keyComes 133 = .ok (.iconst 5, 1) := by decide +kernel
theorem dX13_keyComes_134 : decode cX13_keyComes 134 = .ok (.if_icmp .ne 10, 3) := by decide +kernel
theorem dX13_keyComes_137 : decode cX13_keyComes 137 = .ok (.aload_n 0, 1) := by decide +kernel
theorem dX13_keyComes_138 : decode cX13_keyComes 138 = .ok (.getfield 189, 3) := by decide +kernel
theorem dX13_keyComes_141 : decode cX13_keyComes 141 = .ok (.goto 7, 3) := by decide +kernel
theorem dX13_keyComes_144 : decode cX13_keyComes 144 = .ok (.aload_n 0, 1) := by decide +kernel
theorem dX13_keyComes_145 : decode cX13_keyComes 145 = .ok (.getfield 205, 3) := by decide +kernel
theorem dX13_keyComes_148 : decode cX13_keyComes 148 = .ok (.iload_n 2, 1) := by decide +kernel
theorem dX13_keyComes_149 : decode cX13_keyComes 149 = .ok (.iconst 5, 1) := by decide +kernel
theorem dX13_keyComes_150 : decode cX13_keyComes 150 = .ok (.if_icmp .ne 7, 3) := by decide +kernel
theorem dX13_keyComes_153 : decode cX13_keyComes 153 = .ok (.iconst 0, 1) := by decide +kernel
theorem dX13_keyComes_154 : decode cX13_keyComes 154 = .ok (.goto 8, 3) := by decide +kernel
theorem dX13_keyComes_157 : decode cX13_keyComes 157 = .ok (.sipush 128, 3) := by decide +kernel
theorem dX13_keyComes_160 : decode cX13_keyComes 160 = .ok (.iload_n 1, 1) := by decide +kernel
theorem dX13_keyComes_161 : decode cX13_keyComes 161 = .ok (.imul, 1) := by decide +kernel
theorem dX13_keyComes_162 : decode cX13_keyComes 162 = .ok (.iload_n 2, 1) := by decide +kernel
theorem dX13_keyComes_163 : decode cX13_keyComes 163 = .ok (.iconst 5, 1) := by decide +kernel
theorem dX13_keyComes_164 : decode cX13_keyComes 164 = .ok (.if_icmp .ne 8, 3) := by decide +kernel
theorem dX13_keyComes_167 : decode cX13_keyComes 167 = .ok (.bipush 16, 2) := by decide +kernel
theorem dX13_keyComes_169 : decode cX13_keyComes 169 = .ok (.goto 9, 3) := by decide +kernel
theorem dX13_keyComes_172 : decode cX13_keyComes 172 = .ok (.aload_n 0, 1) := by decide +kernel
theorem dX13_keyComes_173 : decode cX13_keyComes 173 = .ok (.getfield 208, 3) := by decide +kernel
theorem dX13_keyComes_176 : decode cX13_keyComes 176 = .ok (.iload_n 1, 1) := by decide +kernel
theorem dX13_keyComes_177 : decode cX13_keyComes 177 = .ok (.iaload, 1) := by decide +kernel
theorem dX13_keyComes_178 : decode cX13_keyComes 178 = .ok (.invokevirtual 601, 3) := by decide +kernel
theorem dX13_keyComes_181 : decode cX13_keyComes 181 = .ok (.aload_n 0, 1) := by decide +kernel
theorem dX13_keyComes_182 : decode cX13_keyComes 182 = .ok (.aload_n 0, 1) := by decide +kernel
theorem dX13_keyComes_183 : decode cX13_keyComes 183 = .ok (.getfield 291, 3) := by decide +kernel
theorem dX13_keyComes_186 : decode cX13_keyComes 186 = .ok (.iconst 0, 1) := by decide +kernel
theorem dX13_keyComes_187 : decode cX13_keyComes 187 = .ok (.aload_n 0, 1) := by decide +kernel
theorem dX13_keyComes_188 : decode cX13_keyComes 188 = .ok (.getfield 1038, 3) := by decide +kernel
theorem dX13_keyComes_191 : decode cX13_keyComes 191 = .ok (.invokevirtual 625, 3) := by decide +kernel
theorem dX13_keyComes_194 : decode cX13_keyComes 194 = .ok (.istore 5, 2) := by decide +kernel
theorem dX13_keyComes_196 : decode cX13_keyComes 196 = .ok (.aload_n 0, 1) := by decide +kernel
theorem dX13_keyComes_197 : decode cX13_keyComes 197 = .ok (.getfield 107, 3) := by decide +kernel
theorem dX13_keyComes_200 : decode cX13_keyComes 200 = .ok (.bipush 8, 2) := by decide +kernel
theorem dX13_keyComes_202 : decode cX13_keyComes 202 = .ok (.aload_n 0, 1) := by decide +kernel
theorem dX13_keyComes_203 : decode cX13_keyComes 203 = .ok (.getfield 288, 3) := by decide +kernel
theorem dX13_keyComes_206 : decode cX13_keyComes 206 = .ok (.iconst 0, 1) := by decide +kernel
theorem dX13_keyComes_207 : decode cX13_keyComes 207 = .ok (.iload 4, 2) := by decide +kernel
theorem dX13_keyComes_209 : decode cX13_keyComes 209 = .ok (.invokestatic 317, 3) := by decide +kernel
theorem dX13_keyComes_212 : decode cX13_keyComes 212 = .ok (.iload 5, 2) := by decide +kernel
theorem dX13_keyComes_214 : decode cX13_keyComes 214 = .ok (.ireturn, 1) := by decide +kernel
abbrev rmX13_keyComes : Room := { frames := 7, cells := 0, slots := 0, locals := 179 }
set_option maxHeartbeats 4000000 in
set_option maxRecDepth 100000 in
theorem wB_X13_keyComes_178 {G : mG} {F : Nat} {x : mXT} {sz : Nat} {r0 : Int32} {M0 : mM} (X : mCX G RX13 cX13_keyComes 6 (some .boolean) "keyComes" rmX13_keyComes x) (hQ : mQI x r0 M0 (sz, 0, 0)) {l0 : Nat} {l4 : Int32} {sk0 : Nat} {sk1 : Nat} {sk2 : Int32} {sk3 : Int32} {M : mM} (h : B_X13_keyComes_178 G F l0 l4 sk0 sk1 sk2 sk3 M = some (r0, M0)) : WW x (sz, 0, 0) M 178 [(0, .ref l0), (4, .int l4)] [.int sk3, .int sk2, .ref sk1, .ref sk0] := by
  unfold B_X13_keyComes_178 at h
  obtain ⟨_, f178, h⟩ := bO_some h
  obtain ⟨M178, e178, h⟩ := bO_some h
  refine ww_callVV0 178 X dX13_keyComes_178 mY_X13_setKey mL_X13_601 (rcv_spec f178) ⟨_, _, rfl⟩ (by decide) (As := [.ref sk1, .int sk2, .int sk3]) (rest := []) rfl rfl ⟨Nat.le_of_ble_eq_true rfl, Nat.le_of_ble_eq_true rfl⟩ (Nat.le_of_ble_eq_true rfl) (fun l D A => c_X13_setKey l D A e178) ?_
  refine ww_aload_n 181 X dX13_keyComes_181 0 rfl rfl ?_
  refine ww_aload_n 182 X dX13_keyComes_182 0 rfl rfl ?_
  obtain ⟨v183, e183, h⟩ := bO_some h
  refine ww_getR 183 X dX13_keyComes_183 fG_X13_291 e183 ?_
  refine ww_iconst 186 X (v := (0 : Int32)) dX13_keyComes_186 (by decide) ?_
  refine ww_aload_n 187 X dX13_keyComes_187 0 rfl rfl ?_
  obtain ⟨v188, e188, h⟩ := bO_some h
  refine ww_getI 188 X dX13_keyComes_188 fG_X13_1038 e188 ?_
  obtain ⟨_, f191, h⟩ := bO_some h
  obtain ⟨v191, M191, e191, h⟩ := bP_some h
  refine ww_callVI0 191 X dX13_keyComes_191 mY_X13_unwrapIt mL_X13_625 (rcv_spec f191) ⟨_, _, rfl⟩ (by decide) (As := [.ref v183, .int (0 : Int32), .int v188]) (rest := []) rfl rfl ⟨Nat.le_of_ble_eq_true rfl, Nat.le_of_ble_eq_true rfl⟩ (Nat.le_of_ble_eq_true rfl) (fun l D A => c_X13_unwrapIt l D A e191) ?_
  refine ww_istore 194 X dX13_keyComes_194 (lv' := [(0, .ref l0), (4, .int l4), (5, .int v191)]) (by decide) [1, 2, 0] rfl ?_
  refine ww_aload_n 196 X dX13_keyComes_196 0 rfl rfl ?_
  obtain ⟨v197, e197, h⟩ := bO_some h
  refine ww_getR 197 X dX13_keyComes_197 fG_X13_107 e197 ?_
  refine ww_bipush 200 X (v := (8 : Int32)) dX13_keyComes_200 (by decide) ?_
  refine ww_aload_n 202 X dX13_keyComes_202 0 rfl rfl ?_
  obtain ⟨v203, e203, h⟩ := bO_some h
  refine ww_getR 203 X dX13_keyComes_203 fG_X13_288 e203 ?_
  refine ww_iconst 206 X (v := (0 : Int32)) dX13_keyComes_206 (by decide) ?_
  refine ww_iload 207 X dX13_keyComes_207 1 rfl ?_
  obtain ⟨M209, e209, h⟩ := bO_some h
  refine ww_callSV0 209 X dX13_keyComes_209 mY_X13_move mL_X13_317 (As := [.ref v197, .int (8 : Int32), .ref v203, .int (0 : Int32), .int l4]) (rest := []) rfl rfl ⟨Nat.le_of_ble_eq_true rfl, Nat.le_of_ble_eq_true rfl⟩ (Nat.le_of_ble_eq_true rfl) (fun l D A => c_X13_move l D A e209) ?_
  refine ww_iload 212 X dX13_keyComes_212 2 rfl ?_
  exact ww_zretE 214 X hQ dX13_keyComes_214 h
set_option maxHeartbeats 4000000 in
set_option maxRecDepth 100000 in
theorem wB_X13_keyComes_148 {G : mG} {F : Nat} {x : mXT} {sz : Nat} {r0 : Int32} {M0 : mM} (X : mCX G RX13 cX13_keyComes 6 (some .boolean) "keyComes" rmX13_keyComes x) (hQ : mQI x r0 M0 (sz, 0, 0)) {l0 : Nat} {l1 : Int32} {l2 : Int32} {l4 : Int32} {sk0 : Nat} {sk1 : Nat} {M : mM} (h : B_X13_keyComes_148 G F l0 l1 l2 l4 sk0 sk1 M = some (r0, M0)) : WW x (sz, 0, 0) M 148 [(0, .ref l0), (1, .int l1), (2, .int l2), (4, .int l4)] [.ref sk1, .ref sk0] := by
  unfold B_X13_keyComes_148 at h
  refine ww_iload_n 148 X dX13_keyComes_148 2 rfl rfl ?_
  refine ww_iconst 149 X (v := (5 : Int32)) dX13_keyComes_149 (by decide) ?_
  refine ww_icmp_ne 150 157 X dX13_keyComes_150 (by decide) (fun q => ?_) (fun q => ?_)
  · replace h := (if_neg q).symm.trans h
    refine ww_sipush 157 X (v := (128 : Int32)) dX13_keyComes_157 (by decide) ?_
    refine ww_iload_n 160 X dX13_keyComes_160 1 rfl rfl ?_
    refine ww_imul 161 X dX13_keyComes_161 ?_
    refine ww_iload_n 162 X dX13_keyComes_162 2 rfl rfl ?_
    refine ww_iconst 163 X (v := (5 : Int32)) dX13_keyComes_163 (by decide) ?_
    refine ww_icmp_ne 164 172 X dX13_keyComes_164 (by decide) (fun q => ?_) (fun q => ?_)
    · replace h := (if_neg q).symm.trans h
      refine ww_aload_n 172 X dX13_keyComes_172 0 rfl rfl ?_
      obtain ⟨v173, e173, h⟩ := bO_some h
      refine ww_getR 173 X dX13_keyComes_173 fG_X13_208 e173 ?_
      refine ww_iload_n 176 X dX13_keyComes_176 1 rfl rfl ?_
      obtain ⟨v177, e177, h⟩ := bO_some h
      refine ww_iald 177 X dX13_keyComes_177 e177 ?_
      exact ww_sub [0, 3] rfl (wB_X13_keyComes_178 X hQ h)
    · replace h := (if_pos q).symm.trans h
      refine ww_bipush 167 X (v := (16 : Int32)) dX13_keyComes_167 (by decide) ?_
      refine ww_goto 169 178 X dX13_keyComes_169 (by decide) ?_
      exact ww_sub [0, 3] rfl (wB_X13_keyComes_178 X hQ h)
  · replace h := (if_pos q).symm.trans h
    refine ww_iconst 153 X (v := (0 : Int32)) dX13_keyComes_153 (by decide) ?_
    refine ww_goto 154 162 X dX13_keyComes_154 (by decide) ?_
    refine ww_iload_n 162 X dX13_keyComes_162 2 rfl rfl ?_
    refine ww_iconst 163 X (v := (5 : Int32)) dX13_keyComes_163 (by decide) ?_
    refine ww_icmp_ne 164 172 X dX13_keyComes_164 (by decide) (fun q => ?_) (fun q => ?_)
    · replace h := (if_neg q).symm.trans h
      refine ww_aload_n 172 X dX13_keyComes_172 0 rfl rfl ?_
      obtain ⟨v173, e173, h⟩ := bO_some h
      refine ww_getR 173 X dX13_keyComes_173 fG_X13_208 e173 ?_
      refine ww_iload_n 176 X dX13_keyComes_176 1 rfl rfl ?_
      obtain ⟨v177, e177, h⟩ := bO_some h
      refine ww_iald 177 X dX13_keyComes_177 e177 ?_
      exact ww_sub [0, 3] rfl (wB_X13_keyComes_178 X hQ h)
    · replace h := (if_pos q).symm.trans h
      refine ww_bipush 167 X (v := (16 : Int32)) dX13_keyComes_167 (by decide) ?_
      refine ww_goto 169 178 X dX13_keyComes_169 (by decide) ?_
      exact ww_sub [0, 3] rfl (wB_X13_keyComes_178 X hQ h)
set_option maxHeartbeats 4000000 in
set_option maxRecDepth 100000 in
theorem wB_X13_keyComes_94 {G : mG} {F : Nat} {x : mXT} {sz : Nat} {r0 : Int32} {M0 : mM} (X : mCX G RX13 cX13_keyComes 6 (some .boolean) "keyComes" rmX13_keyComes x) (hQ : mQI x r0 M0 (sz, 0, 0)) {l0 : Nat} {l4 : Int32} {sk0 : Nat} {sk1 : Int32} {M : mM} (h : B_X13_keyComes_94 G F l0 l4 sk0 sk1 M = some (r0, M0)) : WW x (sz, 0, 0) M 94 [(0, .ref l0), (4, .int l4)] [.int sk1, .ref sk0] := by
  unfold B_X13_keyComes_94 at h
  refine ww_aload_n 94 X dX13_keyComes_94 0 rfl rfl ?_
  obtain ⟨v95, e95, h⟩ := bO_some h
  refine ww_getR 95 X dX13_keyComes_95 fG_X13_288 e95 ?_
  refine ww_iconst 98 X (v := (0 : Int32)) dX13_keyComes_98 (by decide) ?_
  refine ww_iload 99 X dX13_keyComes_99 1 rfl ?_
  obtain ⟨M101, e101, h⟩ := bO_some h
  refine ww_callSV0 101 X dX13_keyComes_101 mY_X13_move mL_X13_317 (As := [.ref sk0, .int sk1, .ref v95, .int (0 : Int32), .int l4]) (rest := []) rfl rfl ⟨Nat.le_of_ble_eq_true rfl, Nat.le_of_ble_eq_true rfl⟩ (Nat.le_of_ble_eq_true rfl) (fun l D A => c_X13_move l D A e101) ?_
  refine ww_aload_n 104 X dX13_keyComes_104 0 rfl rfl ?_
  obtain ⟨v105, e105, h⟩ := bO_some h
  refine ww_getI 105 X dX13_keyComes_105 fG_X13_1038 e105 ?_
  refine ww_if_ne 108 115 X dX13_keyComes_108 (by decide) (fun q => ?_) (fun q => ?_)
  · replace h := (if_neg q).symm.trans h
    refine ww_iconst 115 X (v := (0 : Int32)) dX13_keyComes_115 (by decide) ?_
    exact ww_zretE 116 X hQ dX13_keyComes_116 h
  · replace h := (if_pos q).symm.trans h
    refine ww_iconst 111 X (v := (1 : Int32)) dX13_keyComes_111 (by decide) ?_
    refine ww_goto 112 116 X dX13_keyComes_112 (by decide) ?_
    exact ww_zretE 116 X hQ dX13_keyComes_116 h
set_option maxHeartbeats 4000000 in
set_option maxRecDepth 100000 in
theorem wB_X13_keyComes_66 {G : mG} {F : Nat} {x : mXT} {sz : Nat} {r0 : Int32} {M0 : mM} (X : mCX G RX13 cX13_keyComes 6 (some .boolean) "keyComes" rmX13_keyComes x) (hQ : mQI x r0 M0 (sz, 0, 0)) {l0 : Nat} {l1 : Int32} {l2 : Int32} {l4 : Int32} {M : mM} (h : B_X13_keyComes_66 G F l0 l1 l2 l4 M = some (r0, M0)) : WW x (sz, 0, 0) M 66 [(0, .ref l0), (1, .int l1), (2, .int l2), (4, .int l4)] [] := by
  unfold B_X13_keyComes_66 at h
  refine ww_iload_n 66 X dX13_keyComes_66 2 rfl rfl ?_
  refine ww_if_ne 67 77 X dX13_keyComes_67 (by decide) (fun q => ?_) (fun q => ?_)
  · replace h := (if_neg q).symm.trans h
    refine ww_aload_n 77 X dX13_keyComes_77 0 rfl rfl ?_
    obtain ⟨v78, e78, h⟩ := bO_some h
    refine ww_getR 78 X dX13_keyComes_78 fG_X13_189 e78 ?_
    refine ww_iload_n 81 X dX13_keyComes_81 2 rfl rfl ?_
    refine ww_if_ne 82 93 X dX13_keyComes_82 (by decide) (fun q => ?_) (fun q => ?_)
    · replace h := (if_neg q).symm.trans h
      refine ww_iconst 93 X (v := (0 : Int32)) dX13_keyComes_93 (by decide) ?_
      exact ww_sub [0, 3] rfl (wB_X13_keyComes_94 X hQ h)
    · replace h := (if_pos q).symm.trans h
      refine ww_sipush 85 X (v := (128 : Int32)) dX13_keyComes_85 (by decide) ?_
      refine ww_iload_n 88 X dX13_keyComes_88 1 rfl rfl ?_
      refine ww_imul 89 X dX13_keyComes_89 ?_
      refine ww_goto 90 94 X dX13_keyComes_90 (by decide) ?_
      exact ww_sub [0, 3] rfl (wB_X13_keyComes_94 X hQ h)
  · replace h := (if_pos q).symm.trans h
    refine ww_aload_n 70 X dX13_keyComes_70 0 rfl rfl ?_
    obtain ⟨v71, e71, h⟩ := bO_some h
    refine ww_getR 71 X dX13_keyComes_71 fG_X13_205 e71 ?_
    refine ww_goto 74 81 X dX13_keyComes_74 (by decide) ?_
    refine ww_iload_n 81 X dX13_keyComes_81 2 rfl rfl ?_
    refine ww_if_ne 82 93 X dX13_keyComes_82 (by decide) (fun q => ?_) (fun q => ?_)
    · replace h := (if_neg q).symm.trans h
      refine ww_iconst 93 X (v := (0 : Int32)) dX13_keyComes_93 (by decide) ?_
      exact ww_sub [0, 3] rfl (wB_X13_keyComes_94 X hQ h)
    · replace h := (if_pos q).symm.trans h
      refine ww_sipush 85 X (v := (128 : Int32)) dX13_keyComes_85 (by decide) ?_
      refine ww_iload_n 88 X dX13_keyComes_88 1 rfl rfl ?_
      refine ww_imul 89 X dX13_keyComes_89 ?_
      refine ww_goto 90 94 X dX13_keyComes_90 (by decide) ?_
      exact ww_sub [0, 3] rfl (wB_X13_keyComes_94 X hQ h)
set_option maxHeartbeats 4000000 in
set_option maxRecDepth 100000 in
theorem wB_X13_keyComes_57 {G : mG} {F : Nat} {x : mXT} {sz : Nat} {r0 : Int32} {M0 : mM} (X : mCX G RX13 cX13_keyComes 6 (some .boolean) "keyComes" rmX13_keyComes x) (hQ : mQI x r0 M0 (sz, 0, 0)) {l0 : Nat} {l1 : Int32} {l2 : Int32} {l4 : Int32} {M : mM} (h : B_X13_keyComes_57 G F l0 l1 l2 l4 M = some (r0, M0)) : WW x (sz, 0, 0) M 57 [(0, .ref l0), (1, .int l1), (2, .int l2), (4, .int l4)] [] := by
  unfold B_X13_keyComes_57 at h
  refine ww_iload_n 57 X dX13_keyComes_57 2 rfl rfl ?_
  refine ww_if_eq 58 66 X dX13_keyComes_58 (by decide) (fun q => ?_) (fun q => ?_)
  · replace h := (if_pos q).symm.trans h
    exact (wB_X13_keyComes_66 X hQ h)
  · replace h := (if_neg q).symm.trans h
    refine ww_iload_n 61 X dX13_keyComes_61 2 rfl rfl ?_
    refine ww_iconst 62 X (v := (4 : Int32)) dX13_keyComes_62 (by decide) ?_
    refine ww_icmp_ne 63 117 X dX13_keyComes_63 (by decide) (fun q => ?_) (fun q => ?_)
    · replace h := (if_neg q).symm.trans h
      refine ww_aload_n 117 X dX13_keyComes_117 0 rfl rfl ?_
      obtain ⟨v118, e118, h⟩ := bO_some h
      refine ww_getI 118 X dX13_keyComes_118 fG_X13_1038 e118 ?_
      refine ww_iload 121 X dX13_keyComes_121 3 rfl ?_
      refine ww_bipush 123 X (v := (8 : Int32)) dX13_keyComes_123 (by decide) ?_
      refine ww_iadd 125 X dX13_keyComes_125 ?_
      refine ww_icmp_eq 126 131 X dX13_keyComes_126 (by decide) (fun q => ?_) (fun q => ?_)
      · replace h := (if_pos q).symm.trans h
        refine ww_aload_n 131 X dX13_keyComes_131 0 rfl rfl ?_
        refine ww_iload_n 132 X dX13_keyComes_132 2 rfl rfl ?_
        refine ww_iconst 133 X (v := (5 : Int32)) dX13_keyComes_133 (by decide) ?_
        refine ww_icmp_ne 134 144 X dX13_keyComes_134 (by decide) (fun q => ?_) (fun q => ?_)
        · replace h := (if_neg q).symm.trans h
          refine ww_aload_n 144 X dX13_keyComes_144 0 rfl rfl ?_
          obtain ⟨v145, e145, h⟩ := bO_some h
          refine ww_getR 145 X dX13_keyComes_145 fG_X13_205 e145 ?_
          exact (wB_X13_keyComes_148 X hQ h)
        · replace h := (if_pos q).symm.trans h
          refine ww_aload_n 137 X dX13_keyComes_137 0 rfl rfl ?_
          obtain ⟨v138, e138, h⟩ := bO_some h
          refine ww_getR 138 X dX13_keyComes_138 fG_X13_189 e138 ?_
          refine ww_goto 141 148 X dX13_keyComes_141 (by decide) ?_
          exact (wB_X13_keyComes_148 X hQ h)
      · replace h := (if_neg q).symm.trans h
        refine ww_iconst 129 X (v := (0 : Int32)) dX13_keyComes_129 (by decide) ?_
        exact ww_zretE 130 X hQ dX13_keyComes_130 h
    · replace h := (if_pos q).symm.trans h
      exact (wB_X13_keyComes_66 X hQ h)
set_option maxHeartbeats 4000000 in
set_option maxRecDepth 100000 in
theorem wP_X13_keyComes {G : mG} {F : Nat} {x : mXT} {sz : Nat} {r0 : Int32} {M0 : mM} (X : mCX G RX13 cX13_keyComes 6 (some .boolean) "keyComes" rmX13_keyComes x) (hQ : mQI x r0 M0 (sz, 0, 0)) {l0 : Nat} {l1 : Int32} {l2 : Int32} {l3 : Int32} {M : mM} (h : P_X13_keyComes G F l0 l1 l2 l3 M = some (r0, M0)) : WW x (sz, 0, 0) M 0 [(0, .ref l0), (1, .int l1), (2, .int l2), (3, .int l3)] [] := by
  unfold P_X13_keyComes at h
  refine ww_iload_n 0 X dX13_keyComes_0 3 rfl rfl ?_
  obtain ⟨v1, M1, e1, h⟩ := bP_some h
  refine ww_callSI0 1 X dX13_keyComes_1 mY_X13_keyOf mL_X13_629 (As := [.int l3]) (rest := []) rfl rfl ⟨Nat.le_of_ble_eq_true rfl, Nat.le_of_ble_eq_true rfl⟩ (Nat.le_of_ble_eq_true rfl) (fun l D A => c_X13_keyOf l D A e1) ?_
  refine ww_istore 4 X dX13_keyComes_4 (lv' := [(0, .ref l0), (1, .int l1), (2, .int l2), (3, .int l3), (4, .int v1)]) (by decide) [1, 2, 3, 4, 0] rfl ?_
  refine ww_iload_n 6 X dX13_keyComes_6 2 rfl rfl ?_
  refine ww_iconst 7 X (v := (3 : Int32)) dX13_keyComes_7 (by decide) ?_
  refine ww_icmp_ne 8 27 X dX13_keyComes_8 (by decide) (fun q => ?_) (fun q => ?_)
  · replace h := (if_neg q).symm.trans h
    refine ww_iload_n 27 X dX13_keyComes_27 2 rfl rfl ?_
    refine ww_iconst 28 X (v := (3 : Int32)) dX13_keyComes_28 (by decide) ?_
    refine ww_icmp_le 29 57 X dX13_keyComes_29 (by decide) (fun q => ?_) (fun q => ?_)
    · replace h := (if_pos q).symm.trans h
      exact ww_sub [0, 1, 2, 4] rfl (wB_X13_keyComes_57 X hQ h)
    · replace h := (if_neg q).symm.trans h
      refine ww_aload_n 32 X dX13_keyComes_32 0 rfl rfl ?_
      refine ww_aload_n 33 X dX13_keyComes_33 0 rfl rfl ?_
      obtain ⟨v34, e34, h⟩ := bO_some h
      refine ww_getR 34 X dX13_keyComes_34 fG_X13_217 e34 ?_
      refine ww_sipush 37 X (v := (128 : Int32)) dX13_keyComes_37 (by decide) ?_
      refine ww_iload_n 40 X dX13_keyComes_40 1 rfl rfl ?_
      refine ww_imul 41 X dX13_keyComes_41 ?_
      refine ww_aload_n 42 X dX13_keyComes_42 0 rfl rfl ?_
      obtain ⟨v43, e43, h⟩ := bO_some h
      refine ww_getR 43 X dX13_keyComes_43 fG_X13_248 e43 ?_
      refine ww_iconst 46 X (v := (0 : Int32)) dX13_keyComes_46 (by decide) ?_
      refine ww_iload_n 47 X dX13_keyComes_47 2 rfl rfl ?_
      refine ww_iload_n 48 X dX13_keyComes_48 3 rfl rfl ?_
      obtain ⟨_, f49, h⟩ := bO_some h
      obtain ⟨v49, M49, e49, h⟩ := bP_some h
      refine ww_callVI0 49 X dX13_keyComes_49 mY_X13_agree mL_X13_1057 (rcv_spec f49) ⟨_, _, rfl⟩ (by decide) (As := [.ref v34, .int ((128 : Int32) * l1), .ref v43, .int (0 : Int32), .int l2, .int l3]) (rest := []) rfl rfl ⟨Nat.le_of_ble_eq_true rfl, Nat.le_of_ble_eq_true rfl⟩ (Nat.le_of_ble_eq_true rfl) (fun l D A => c_X13_agree l D A e49) ?_
      refine ww_if_ne 52 57 X dX13_keyComes_52 (by decide) (fun q => ?_) (fun q => ?_)
      · replace h := (if_neg q).symm.trans h
        exact ww_sub [0, 1, 2, 4] rfl (wB_X13_keyComes_57 X hQ h)
      · replace h := (if_pos q).symm.trans h
        refine ww_iconst 55 X (v := (0 : Int32)) dX13_keyComes_55 (by decide) ?_
        exact ww_zretE 56 X hQ dX13_keyComes_56 h
  · replace h := (if_pos q).symm.trans h
    refine ww_aload_n 11 X dX13_keyComes_11 0 rfl rfl ?_
    refine ww_iload_n 12 X dX13_keyComes_12 1 rfl rfl ?_
    obtain ⟨_, f13, h⟩ := bO_some h
    obtain ⟨v13, M13, e13, h⟩ := bP_some h
    refine ww_callVI0 13 X dX13_keyComes_13 mY_X13_openRsa mL_X13_1074 (rcv_spec f13) ⟨_, _, rfl⟩ (by decide) (As := [.int l1]) (rest := []) rfl rfl ⟨Nat.le_of_ble_eq_true rfl, Nat.le_of_ble_eq_true rfl⟩ (Nat.le_of_ble_eq_true rfl) (fun l D A => c_X13_openRsa l D A e13) ?_
    refine ww_iload 16 X dX13_keyComes_16 4 rfl ?_
    refine ww_icmp_ne 18 25 X dX13_keyComes_18 (by decide) (fun q => ?_) (fun q => ?_)
    · replace h := (if_neg q).symm.trans h
      refine ww_iconst 25 X (v := (0 : Int32)) dX13_keyComes_25 (by decide) ?_
      exact ww_zretE 26 X hQ dX13_keyComes_26 h
    · replace h := (if_pos q).symm.trans h
      refine ww_iconst 21 X (v := (1 : Int32)) dX13_keyComes_21 (by decide) ?_
      refine ww_goto 22 26 X dX13_keyComes_22 (by decide) ?_
      exact ww_zretE 26 X hQ dX13_keyComes_26 h
theorem c_X13_keyComes {G : mG} {F sz : Nat} {r0 : Int32} {M0 : mM} (l : Launch) (D : mD) (A : Nat → Prop) {l0 : Nat} {l1 : Int32} {l2 : Int32} {l3 : Int32} {M : mM} (h : P_X13_keyComes G F l0 l1 l2 l3 M = some (r0, M0)) : mMetI l D G A yX13_keyComes cX13_keyComes 6 (some .boolean) 7 179 0 0 [.ref l0, .int l1, .int l2, .int l3] M sz r0 M0 sz := mMetI_of l D G A (by decide) (Nat.le_of_ble_eq_true rfl) (fun x X hQ => wP_X13_keyComes X hQ h)
/-! SealedTokensModel.decrypt(I)I -/
theorem dX13_decrypt_0 : decode cX13_decrypt 0 = .ok (.iload_n 1, 1) := by decide +kernel
theorem dX13_decrypt_1 : decode cX13_decrypt 1 = .ok (.invokestatic 332, 3) := by decide +kernel
theorem dX13_decrypt_4 : decode cX13_decrypt 4 = .ok (.ifCond .ne 6, 3) := by decide +kernel
theorem dX13_decrypt_7 : decode cX13_decrypt 7 = .ok (.bipush (-2), 2) := by decide +kernel
theorem dX13_decrypt_9 : decode cX13_decrypt 9 = .ok (.ireturn, 1) := by decide +kernel
theorem dX13_decrypt_10 : decode cX13_decrypt 10 = .ok (.aload_n 0, 1) := by decide +kernel
theorem dX13_decrypt_11 : decode cX13_decrypt 11 = .ok (.iload_n 1, 1) := by decide +kernel
theorem dX13_decrypt_12 : decode cX13_decrypt 12 = .ok (.invokevirtual 1026, 3) := by decide +kernel
theorem dX13_decrypt_15 : decode cX13_decrypt 15 = .ok (.iconst 4, 1) := by decide +kernel
theorem dX13_decrypt_16 : decode cX13_decrypt 16 = .ok (.if_icmp .eq 6, 3) := by decide +kernel
theorem dX13_decrypt_19 : decode cX13_decrypt 19 = .ok (.bipush (-20), 2) := by decide +kernel
theorem dX13_decrypt_21 : decode cX13_decrypt 21 = .ok (.ireturn, 1) := by decide +kernel
theorem dX13_decrypt_22 : decode cX13_decrypt 22 = .ok (.sipush 8192, 3) := by decide +kernel
theorem dX13_decrypt_25 : decode cX13_decrypt 25 = .ok (.iload_n 1, 1) := by decide +kernel
theorem dX13_decrypt_26 : decode cX13_decrypt 26 = .ok (.imul, 1) := by decide +kernel
theorem dX13_decrypt_27 : decode cX13_decrypt 27 = .ok (.istore_n 2, 1) := by decide +kernel
theorem dX13_decrypt_28 : decode cX13_decrypt 28 = .ok (.aload_n 0, 1) := by decide +kernel
theorem dX13_decrypt_29 : decode cX13_decrypt 29 = .ok (.aload_n 0, 1) := by decide +kernel
theorem dX13_decrypt_30 : decode cX13_decrypt 30 = .ok (.aload_n 0, 1) := by decide +kernel
theorem dX13_decrypt_31 : decode cX13_decrypt 31 = .ok (.getfield 14, 3) := by decide +kernel
theorem dX13_decrypt_34 : decode cX13_decrypt 34 = .ok (.iload_n 2, 1) := by decide +kernel
theorem dX13_decrypt_35 : decode cX13_decrypt 35 = .ok (.aload_n 0, 1) := by decide +kernel
theorem dX13_decrypt_36 : decode cX13_decrypt 36 = .ok (.getfield 282, 3) := by decide +kernel
theorem dX13_decrypt_39 : decode cX13_decrypt 39 = .ok (.iconst 0, 1) := by decide +kernel
theorem dX13_decrypt_40 : decode cX13_decrypt 40 = .ok (.iaload, 1) := by decide +kernel
theorem dX13_decrypt_41 : decode cX13_decrypt 41 = .ok (.aload_n 0, 1) := by decide +kernel
theorem dX13_decrypt_42 : decode cX13_decrypt 42 = .ok (.getfield 275, 3) := by decide +kernel
theorem dX13_decrypt_45 : decode cX13_decrypt 45 = .ok (.iconst 0, 1) := by decide +kernel
theorem dX13_decrypt_46 : decode cX13_decrypt 46 = .ok (.invokevirtual 503, 3) := by decide +kernel
theorem dX13_decrypt_49 : decode cX13_decrypt 49 = .ok (.putfield 1007, 3) := by decide +kernel
theorem dX13_decrypt_52 : decode cX13_decrypt 52 = .ok (.aload_n 0, 1) := by decide +kernel
theorem dX13_decrypt_53 : decode cX13_decrypt 53 = .ok (.aload_n 0, 1) := by decide +kernel
theorem dX13_decrypt_54 : decode cX13_decrypt 54 = .ok (.aload_n 0, 1) := by decide +kernel
theorem dX13_decrypt_55 : decode cX13_decrypt 55 = .ok (.getfield 14, 3) := by decide +kernel
theorem dX13_decrypt_58 : decode cX13_decrypt 58 = .ok (.iload_n 2, 1) := by decide +kernel
theorem dX13_decrypt_59 : decode cX13_decrypt 59 = .ok (.aload_n 0, 1) := by decide +kernel
theorem dX13_decrypt_60 : decode cX13_decrypt 60 = .ok (.getfield 282, 3) := by decide +kernel
theorem dX13_decrypt_63 : decode cX13_decrypt 63 = .ok (.iconst 0, 1) := by decide +kernel
theorem dX13_decrypt_64 : decode cX13_decrypt 64 = .ok (.iaload, 1) := by decide +kernel
theorem dX13_decrypt_65 : decode cX13_decrypt 65 = .ok (.iadd, 1) := by decide +kernel
theorem dX13_decrypt_66 : decode cX13_decrypt 66 = .ok (.iconst 1, 1) := by decide +kernel
theorem dX13_decrypt_67 : decode cX13_decrypt 67 = .ok (.iadd, 1) := by decide +kernel
theorem dX13_decrypt_68 : decode cX13_decrypt 68 = .ok (.aload_n 0, 1) := by decide +kernel
theorem dX13_decrypt_69 : decode cX13_decrypt 69 = .ok (.getfield 282, 3) := by decide +kernel
theorem dX13_decrypt_72 : decode cX13_decrypt 72 = .ok (.iconst 1, 1) := by decide +kernel
theorem dX13_decrypt_73 : decode cX13_decrypt 73 = .ok (.iaload, 1) := by decide +kernel
theorem dX13_decrypt_74 : decode cX13_decrypt 74 = .ok (.aload_n 0, 1) := by decide +kernel
theorem dX13_decrypt_75 : decode cX13_decrypt 75 = .ok (.getfield 282, 3) := by decide +kernel
theorem dX13_decrypt_78 : decode cX13_decrypt 78 = .ok (.iconst 0, 1) := by decide +kernel
theorem dX13_decrypt_79 : decode cX13_decrypt 79 = .ok (.iaload, 1) := by decide +kernel
theorem dX13_decrypt_80 : decode cX13_decrypt 80 = .ok (.isub, 1) := by decide +kernel
theorem dX13_decrypt_81 : decode cX13_decrypt 81 = .ok (.iconst 1, 1) := by decide +kernel
theorem dX13_decrypt_82 : decode cX13_decrypt 82 = .ok (.isub, 1) := by decide +kernel
theorem dX13_decrypt_83 : decode cX13_decrypt 83 = .ok (.aload_n 0, 1) := by decide +kernel
theorem dX13_decrypt_84 : decode cX13_decrypt 84 = .ok (.getfield 291, 3) := by decide +kernel
theorem dX13_decrypt_87 : decode cX13_decrypt 87 = .ok (.iconst 0, 1) := by decide +kernel
theorem dX13_decrypt_88 : decode cX13_decrypt 88 = .ok (.invokevirtual 503, 3) := by decide +kernel
theorem dX13_decrypt_91 : decode cX13_decrypt 91 = .ok (.putfield 1038, 3) := by decide +kernel
theorem dX13_decrypt_94 : decode cX13_decrypt 94 = .ok (.aload_n 0, 1) := by decide +kernel
theorem dX13_decrypt_95 : decode cX13_decrypt 95 = .ok (.aload_n 0, 1) := by decide +kernel
theorem dX13_decrypt_96 : decode cX13_decrypt 96 = .ok (.aload_n 0, 1) := by decide +kernel
theorem dX13_decrypt_97 : decode cX13_decrypt 97 = .ok (.getfield 14, 3) := by decide +kernel
theorem dX13_decrypt_100 : decode cX13_decrypt 100 = .ok (.iload_n 2, 1) := by decide +kernel
theorem dX13_decrypt_101 : decode cX13_decrypt 101 = .ok (.aload_n 0, 1) := by decide +kernel
theorem dX13_decrypt_102 : decode cX13_decrypt 102 = .ok (.getfield 282, 3) := by decide +kernel
theorem dX13_decrypt_105 : decode cX13_decrypt 105 = .ok (.iconst 1, 1) := by decide +kernel
theorem dX13_decrypt_106 : decode cX13_decrypt 106 = .ok (.iaload, 1) := by decide +kernel
theorem dX13_decrypt_107 : decode cX13_decrypt 107 = .ok (.iadd, 1) := by decide +kernel
theorem dX13_decrypt_108 : decode cX13_decrypt 108 = .ok (.iconst 1, 1) := by decide +kernel
theorem dX13_decrypt_109 : decode cX13_decrypt 109 = .ok (.iadd, 1) := by decide +kernel
theorem dX13_decrypt_110 : decode cX13_decrypt 110 = .ok (.aload_n 0, 1) := by decide +kernel
theorem dX13_decrypt_111 : decode cX13_decrypt 111 = .ok (.getfield 282, 3) := by decide +kernel
theorem dX13_decrypt_114 : decode cX13_decrypt 114 = .ok (.iconst 2, 1) := by decide +kernel
theorem dX13_decrypt_115 : decode cX13_decrypt 115 = .ok (.iaload, 1) := by decide +kernel
theorem dX13_decrypt_116 : decode cX13_decrypt 116 = .ok (.aload_n 0, 1) := by decide +kernel
theorem dX13_decrypt_117 : decode cX13_decrypt 117 = .ok (.getfield 282, 3) := by decide +kernel
theorem dX13_decrypt_120 : decode cX13_decrypt 120 = .ok (.iconst 1, 1) := by decide +kernel
theorem dX13_decrypt_121 : decode cX13_decrypt 121 = .ok (.iaload, 1) := by decide +kernel
theorem dX13_decrypt_122 : decode cX13_decrypt 122 = .ok (.isub, 1) := by decide +kernel
theorem dX13_decrypt_123 : decode cX13_decrypt 123 = .ok (.iconst 1, 1) := by decide +kernel
theorem dX13_decrypt_124 : decode cX13_decrypt 124 = .ok (.isub, 1) := by decide +kernel
theorem dX13_decrypt_125 : decode cX13_decrypt 125 = .ok (.aload_n 0, 1) := by decide +kernel
theorem dX13_decrypt_126 : decode cX13_decrypt 126 = .ok (.getfield 294, 3) := by decide +kernel
theorem dX13_decrypt_129 : decode cX13_decrypt 129 = .ok (.iconst 0, 1) := by decide +kernel
theorem dX13_decrypt_130 : decode cX13_decrypt 130 = .ok (.invokevirtual 503, 3) := by decide +kernel
theorem dX13_decrypt_133 : decode cX13_decrypt 133 = .ok (.putfield 1067, 3) := by decide +kernel
theorem dX13_decrypt_136 : decode cX13_decrypt 136 = .ok (.aload_n 0, 1) := by decide +kernel
theorem dX13_decrypt_137 : decode cX13_decrypt 137 = .ok (.aload_n 0, 1) := by decide +kernel
theorem dX13_decrypt_138 : decode cX13_decrypt 138 = .ok (.getfield 14, 3) := by decide +kernel
theorem dX13_decrypt_141 : decode cX13_decrypt 141 = .ok (.iload_n 2, 1) := by decide +kernel
theorem dX13_decrypt_142 : decode cX13_decrypt 142 = .ok (.aload_n 0, 1) := by decide +kernel
theorem dX13_decrypt_143 : decode cX13_decrypt 143 = .ok (.getfield 282, 3) := by decide +kernel
theorem dX13_decrypt_146 : decode cX13_decrypt 146 = .ok (.iconst 2, 1) := by decide +kernel
theorem dX13_decrypt_147 : decode cX13_decrypt 147 = .ok (.iaload, 1) := by decide +kernel
theorem dX13_decrypt_148 : decode cX13_decrypt 148 = .ok (.iadd, 1) := by decide +kernel
theorem dX13_decrypt_149 : decode cX13_decrypt 149 = .ok (.iconst 1, 1) := by decide +kernel
theorem dX13_decrypt_150 : decode cX13_decrypt 150 = .ok (.iadd, 1) := by decide +kernel
theorem dX13_decrypt_151 : decode cX13_decrypt 151 = .ok (.aload_n 0, 1) := by decide +kernel
theorem dX13_decrypt_152 : decode cX13_decrypt 152 = .ok (.getfield 282, 3) := by decide +kernel
theorem dX13_decrypt_155 : decode cX13_decrypt 155 = .ok (.iconst 3, 1) := by decide +kernel
theorem dX13_decrypt_156 : decode cX13_decrypt 156 = .ok (.iaload, 1) := by decide +kernel
theorem dX13_decrypt_157 : decode cX13_decrypt 157 = .ok (.aload_n 0, 1) := by decide +kernel
theorem dX13_decrypt_158 : decode cX13_decrypt 158 = .ok (.getfield 282, 3) := by decide +kernel
theorem dX13_decrypt_161 : decode cX13_decrypt 161 = .ok (.iconst 2, 1) := by decide +kernel
theorem dX13_decrypt_162 : decode cX13_decrypt 162 = .ok (.iaload, 1) := by decide +kernel
theorem dX13_decrypt_163 : decode cX13_decrypt 163 = .ok (.isub, 1) := by decide +kernel
theorem dX13_decrypt_164 : decode cX13_decrypt 164 = .ok (.iconst 1, 1) := by decide +kernel
theorem dX13_decrypt_165 : decode cX13_decrypt 165 = .ok (.isub, 1) := by decide +kernel
theorem dX13_decrypt_166 : decode cX13_decrypt 166 = .ok (.aload_n 0, 1) := by decide +kernel
theorem dX13_decrypt_167 : decode cX13_decrypt 167 = .ok (.getfield 303, 3) := by decide +kernel
theorem dX13_decrypt_170 : decode cX13_decrypt 170 = .ok (.iconst 0, 1) := by decide +kernel
theorem dX13_decrypt_171 : decode cX13_decrypt 171 = .ok (.invokevirtual 503, 3) := by decide +kernel
theorem dX13_decrypt_174 : decode cX13_decrypt 174 = .ok (.istore_n 3, 1) := by decide +kernel
theorem dX13_decrypt_175 : decode cX13_decrypt 175 = .ok (.aload_n 0, 1) := by decide +kernel
theorem dX13_decrypt_176 : decode cX13_decrypt 176 = .ok (.aload_n 0, 1) := by decide +kernel
theorem dX13_decrypt_177 : decode cX13_decrypt 177 = .ok (.getfield 14, 3) := by decide +kernel
theorem dX13_decrypt_180 : decode cX13_decrypt 180 = .ok (.iload_n 2, 1) := by decide +kernel
theorem dX13_decrypt_181 : decode cX13_decrypt 181 = .ok (.aload_n 0, 1) := by decide +kernel
theorem dX13_decrypt_182 : decode cX13_decrypt 182 = .ok (.getfield 282, 3) := by decide +kernel
theorem dX13_decrypt_185 : decode cX13_decrypt 185 = .ok (.iconst 3, 1) := by decide +kernel
theorem dX13_decrypt_186 : decode cX13_decrypt 186 = .ok (.iaload, 1) := by decide +kernel
theorem dX13_decrypt_187 : decode cX13_decrypt 187 = .ok (.iadd, 1) := by decide +kernel
theorem dX13_decrypt_188 : decode cX13_decrypt 188 = .ok (.iconst 1, 1) := by decide +kernel
theorem dX13_decrypt_189 : decode cX13_decrypt 189 = .ok (.iadd, 1) := by decide +kernel
theorem dX13_decrypt_190 : decode cX13_decrypt 190 = .ok (.aload_n 0, 1) := by decide +kernel
theorem dX13_decrypt_191 : decode cX13_decrypt 191 = .ok (.getfield 17, 3) := by decide +kernel
theorem dX13_decrypt_194 : decode cX13_decrypt 194 = .ok (.iload_n 1, 1) := by decide +kernel
theorem dX13_decrypt_195 : decode cX13_decrypt 195 = .ok (.iaload, 1) := by decide +kernel
theorem dX13_decrypt_196 : decode cX13_decrypt 196 = .ok (.aload_n 0, 1) := by decide +kernel
theorem dX13_decrypt_197 : decode cX13_decrypt 197 = .ok (.getfield 282, 3) := by decide +kernel
theorem dX13_decrypt_200 : decode cX13_decrypt 200 = .ok (.iconst 3, 1) := by decide +kernel
theorem dX13_decrypt_201 : decode cX13_decrypt 201 = .ok (.iaload, 1) := by decide +kernel
theorem dX13_decrypt_202 : decode cX13_decrypt 202 = .ok (.isub, 1) := by decide +kernel
theorem dX13_decrypt_203 : decode cX13_decrypt 203 = .ok (.iconst 1, 1) := by decide +kernel
theorem dX13_decrypt_204 : decode cX13_decrypt 204 = .ok (.isub, 1) := by decide +kernel
theorem dX13_decrypt_205 : decode cX13_decrypt 205 = .ok (.aload_n 0, 1) := by decide +kernel
theorem dX13_decrypt_206 : decode cX13_decrypt 206 = .ok (.getfield 306, 3) := by decide +kernel
theorem dX13_decrypt_209 : decode cX13_decrypt 209 = .ok (.iconst 0, 1) := by decide +kernel
theorem dX13_decrypt_210 : decode cX13_decrypt 210 = .ok (.invokevirtual 503, 3) := by decide +kernel
theorem dX13_decrypt_213 : decode cX13_decrypt 213 = .ok (.istore 4, 2) := by decide +kernel
theorem dX13_decrypt_215 : decode cX13_decrypt 215 = .ok (.aload_n 0, 1) := by decide +kernel
theorem dX13_decrypt_216 : decode cX13_decrypt 216 = .ok (.getfield 1007, 3) := by decide +kernel
theorem dX13_decrypt_219 : decode cX13_decrypt 219 = .ok (.ifCond .lt 26, 3) := by decide +kernel
theorem dX13_decrypt_222 : decode cX13_decrypt 222 = .ok (.aload_n 0, 1) := by decide +kernel
theorem dX13_decrypt_223 : decode cX13_decrypt 223 = .ok (.getfield 1038, 3) := by decide +kernel
theorem dX13_decrypt_226 : decode cX13_decrypt 226 = .ok (.ifCond .lt 19, 3) := by decide +kernel
theorem dX13_decrypt_229 : decode cX13_decrypt 229 = .ok (.aload_n 0, 1) := by decide +kernel
theorem dX13_decrypt_230 : decode cX13_decrypt 230 = .ok (.getfield 1067, 3) := by decide +kernel
theorem dX13_decrypt_233 : decode cX13_decrypt 233 = .ok (.ifCond .lt 12, 3) := by decide +kernel
theorem dX13_decrypt_236 : decode cX13_decrypt 236 = .ok (.iload_n 3, 1) := by decide +kernel
theorem dX13_decrypt_237 : decode cX13_decrypt 237 = .ok (.ifCond .lt 8, 3) := by decide +kernel
theorem dX13_decrypt_240 : decode cX13_decrypt 240 = .ok (.iload 4, 2) := by decide +kernel
theorem dX13_decrypt_242 : decode cX13_decrypt 242 = .ok (.ifCond .ge 6, 3) := by decide +kernel
theorem dX13_decrypt_245 : decode cX13_decrypt 245 = .ok (.bipush (-21), 2) := by decide +kernel
theorem dX13_decrypt_247 : decode cX13_decrypt 247 = .ok (.ireturn, 1) := by decide +kernel
theorem dX13_decrypt_248 : decode cX13_decrypt 248 = .ok (.aload_n 0, 1) := by decide +kernel
theorem dX13_decrypt_249 : decode cX13_decrypt 249 = .ok (.aload_n 0, 1) := by decide +kernel
theorem dX13_decrypt_250 : decode cX13_decrypt 250 = .ok (.getfield 275, 3) := by decide +kernel
theorem dX13_decrypt_253 : decode cX13_decrypt 253 = .ok (.iconst 0, 1) := by decide +kernel
theorem dX13_decrypt_254 : decode cX13_decrypt 254 = .ok (.aload_n 0, 1) := by decide +kernel
theorem dX13_decrypt_255 : decode cX13_decrypt 255 = .ok (.getfield 1007, 3) := by decide +kernel
theorem dX13_decrypt_258 : decode cX13_decrypt 258 = .ok (.iconst 1, 1) := by decide +kernel
theorem dX13_decrypt_259 : decode cX13_decrypt 259 = .ok (.invokevirtual 1010, 3) := by decide +kernel
theorem dX13_decrypt_262 : decode cX13_decrypt 262 = .ok (.istore 5, 2) := by decide +kernel
theorem dX13_decrypt_264 : decode cX13_decrypt 264 = .ok (.iload 5, 2) := by decide +kernel
theorem dX13_decrypt_266 : decode cX13_decrypt 266 = .ok (.ifCond .ge 6, 3) := by decide +kernel
theorem dX13_decrypt_269 : decode cX13_decrypt 269 = .ok (.iload 5, 2) := by decide +kernel
theorem dX13_decrypt_271 : decode cX13_decrypt 271 = .ok (.ireturn, 1) := by decide +kernel
theorem dX13_decrypt_272 : decode cX13_decrypt 272 = .ok (.iconst 0, 1) := by decide +kernel
theorem dX13_decrypt_273 : decode cX13_decrypt 273 = .ok (.istore 6, 2) := by decide +kernel
theorem dX13_decrypt_275 : decode cX13_decrypt 275 = .ok (.iconst 0, 1) := by decide +kernel
theorem dX13_decrypt_276 : decode cX13_decrypt 276 = .ok (.istore 7, 2) := by decide +kernel
theorem dX13_decrypt_278 : decode cX13_decrypt 278 = .ok (.iload 7, 2) := by decide +kernel
theorem dX13_decrypt_280 : decode cX13_decrypt 280 = .ok (.bipush 16, 2) := by decide +kernel
theorem dX13_decrypt_282 : decode cX13_decrypt 282 = .ok (.if_icmp .ge 155, 3) := by decide +kernel
theorem dX13_decrypt_285 : decode cX13_decrypt 285 = .ok (.aload_n 0, 1) := by decide +kernel
theorem dX13_decrypt_286 : decode cX13_decrypt 286 = .ok (.iload 7, 2) := by decide +kernel
theorem dX13_decrypt_288 : decode cX13_decrypt 288 = .ok (.aload_n 0, 1) := by decide +kernel
theorem dX13_decrypt_289 : decode cX13_decrypt 289 = .ok (.getfield 919, 3) := by decide +kernel
theorem dX13_decrypt_292 : decode cX13_decrypt 292 = .ok (.aload_n 0, 1) := by decide +kernel
theorem dX13_decrypt_293 : decode cX13_decrypt 293 = .ok (.getfield 924, 3) := by decide +kernel
theorem dX13_decrypt_296 : decode cX13_decrypt 296 = .ok (.iconst 1, 1) := by decide +kernel
theorem dX13_decrypt_297 : decode cX13_decrypt 297 = .ok (.invokevirtual 1041, 3) := by decide +kernel
theorem dX13_decrypt_300 : decode cX13_decrypt 300 = .ok (.ifCond .eq 131, 3) := by decide +kernel
theorem dX13_decrypt_303 : decode cX13_decrypt 303 = .ok (.aload_n 0, 1) := by decide +kernel
theorem dX13_decrypt_304 : decode cX13_decrypt 304 = .ok (.iload 7, 2) := by decide +kernel
theorem dX13_decrypt_306 : decode cX13_decrypt 306 = .ok (.invokevirtual 1029, 3) := by decide +kernel
theorem dX13_decrypt_309 : decode cX13_decrypt 309 = .ok (.ifCond .eq 122, 3) := by decide +kernel
theorem dX13_decrypt_312 : decode cX13_decrypt 312 = .ok (.iconst 1, 1) := by decide +kernel
theorem dX13_decrypt_313 : decode cX13_decrypt 313 = .ok (.istore 6, 2) := by decide +kernel
theorem dX13_decrypt_315 : decode cX13_decrypt 315 = .ok (.aload_n 0, 1) := by decide +kernel
theorem dX13_decrypt_316 : decode cX13_decrypt 316 = .ok (.iload 7, 2) := by decide +kernel
theorem dX13_decrypt_318 : decode cX13_decrypt 318 = .ok (.aload_n 0, 1) := by decide +kernel
theorem dX13_decrypt_319 : decode cX13_decrypt 319 = .ok (.getfield 919, 3) := by decide +kernel
theorem dX13_decrypt_322 : decode cX13_decrypt 322 = .ok (.aload_n 0, 1) := by decide +kernel
theorem dX13_decrypt_323 : decode cX13_decrypt 323 = .ok (.getfield 924, 3) := by decide +kernel
theorem dX13_decrypt_326 : decode cX13_decrypt 326 = .ok (.invokevirtual 1070, 3) := by decide +kernel
theorem dX13_decrypt_329 : decode cX13_decrypt 329 = .ok (.ifCond .eq 33, 3) := by decide +kernel
theorem dX13_decrypt_332 : decode cX13_decrypt 332 = .ok (.aload_n 0, 1) := by decide +kernel
theorem dX13_decrypt_333 : decode cX13_decrypt 333 = .ok (.getfield 1067, 3) := by decide +kernel
theorem dX13_decrypt_336 : decode cX13_decrypt 336 = .ok (.aload_n 0, 1) := by decide +kernel
theorem dX13_decrypt_337 : decode cX13_decrypt 337 = .ok (.getfield 924, 3) := by decide +kernel
theorem dX13_decrypt_340 : decode cX13_decrypt 340 = .ok (.invokestatic 673, 3) := by decide +kernel
theorem dX13_decrypt_343 : decode cX13_decrypt 343 = .ok (.if_icmp .ne 19, 3) := by decide +kernel
theorem dX13_decrypt_346 : decode cX13_decrypt 346 = .ok (.iload 4, 2) := by decide +kernel
theorem dX13_decrypt_348 : decode cX13_decrypt 348 = .ok (.aload_n 0, 1) := by decide +kernel
theorem dX13_decrypt_349 : decode cX13_decrypt 349 = .ok (.getfield 924, 3) := by decide +kernel
theorem dX13_decrypt_352 : decode cX13_decrypt 352 = .ok (.invokestatic 632, 3) := by decide +kernel
theorem dX13_decrypt_355 : decode cX13_decrypt 355 = .ok (.if_icmp .ne 7, 3) := by decide +kernel
theorem dX13_decrypt_358 : decode cX13_decrypt 358 = .ok (.iconst 1, 1) := by decide +kernel
theorem dX13_decrypt_359 : decode cX13_decrypt 359 = .ok (.goto 4, 3) := by decide +kernel
theorem dX13_decrypt_362 : decode cX13_decrypt 362 = .ok (.iconst 0, 1) := by decide +kernel
theorem dX13_decrypt_363 : decode cX13_decrypt 363 = .ok (.istore 8, 2) := by decide +kernel
theorem dX13_decrypt_365 : decode cX13_decrypt 365 = .ok (.iload 8, 2) := by decide +kernel
theorem dX13_decrypt_367 : decode cX13_decrypt 367 = .ok (.ifCond .eq 64, 3) := by decide +kernel
theorem dX13_decrypt_370 : decode cX13_decrypt 370 = .ok (.aload_n 0, 1) := by decide +kernel
theorem dX13_decrypt_371 : decode cX13_decrypt 371 = .ok (.aload_n 0, 1) := by decide +kernel
theorem dX13_decrypt_372 : decode cX13_decrypt 372 = .ok (.getfield 924, 3) := by decide +kernel
theorem dX13_decrypt_375 : decode cX13_decrypt 375 = .ok (.aload_n 0, 1) := by decide +kernel
theorem dX13_decrypt_376 : decode cX13_decrypt 376 = .ok (.getfield 288, 3) := by decide +kernel
theorem dX13_decrypt_379 : decode cX13_decrypt 379 = .ok (.iconst 0, 1) := by decide +kernel
theorem dX13_decrypt_380 : decode cX13_decrypt 380 = .ok (.aload_n 0, 1) := by decide +kernel
theorem dX13_decrypt_381 : decode cX13_decrypt 381 = .ok (.getfield 294, 3) := by decide +kernel
theorem dX13_decrypt_384 : decode cX13_decrypt 384 = .ok (.iconst 0, 1) := by decide +kernel
theorem dX13_decrypt_385 : decode cX13_decrypt 385 = .ok (.aload_n 0, 1) := by decide +kernel
theorem dX13_decrypt_386 : decode cX13_decrypt 386 = .ok (.getfield 14, 3) := by decide +kernel
theorem dX13_decrypt_389 : decode cX13_decrypt 389 = .ok (.iload_n 2, 1) := by decide +kernel
theorem dX13_decrypt_390 : decode cX13_decrypt 390 = .ok (.aload_n 0, 1) := by decide +kernel
theorem dX13_decrypt_391 : decode cX13_decrypt 391 = .ok (.getfield 282, 3) := by decide +kernel
theorem dX13_decrypt_394 : decode cX13_decrypt 394 = .ok (.iconst 0, 1) := by decide +kernel
theorem dX13_decrypt_395 : decode cX13_decrypt 395 = .ok (.iaload, 1) := by decide +kernel
theorem dX13_decrypt_396 : decode cX13_decrypt 396 = .ok (.aload_n 0, 1) := by decide +kernel
theorem dX13_decrypt_397 : decode cX13_decrypt 397 = .ok (.getfield 303, 3) := by decide +kernel
theorem dX13_decrypt_400 : decode cX13_decrypt 400 = .ok (.iconst 0, 1) := by decide +kernel
theorem dX13_decrypt_401 : decode cX13_decrypt 401 = .ok (.iload_n 3, 1) := by decide +kernel
theorem dX13_decrypt_402 : decode cX13_decrypt 402 = .ok (.aload_n 0, 1) := by decide +kernel
theorem dX13_decrypt_403 : decode cX13_decrypt 403 = .ok (.getfield 306, 3) := by decide +kernel
theorem dX13_decrypt_406 : decode cX13_decrypt 406 = .ok (.iconst 0, 1) := by decide +kernel
theorem dX13_decrypt_407 : decode cX13_decrypt 407 = .ok (.invokevirtual 683, 3) := by decide +kernel
theorem dX13_decrypt_410 : decode cX13_decrypt 410 = .ok (.ifCond .eq 21, 3) := by decide +kernel
theorem dX13_decrypt_413 : decode cX13_decrypt 413 = .ok (.aload_n 0, 1) := by decide +kernel
theorem dX13_decrypt_414 : decode cX13_decrypt 414 = .ok (.aload_n 0, 1) := by decide +kernel
theorem dX13_decrypt_415 : decode cX13_decrypt 415 = .ok (.getfield 110, 3) := by decide +kernel
theorem dX13_decrypt_418 : decode cX13_decrypt 418 = .ok (.iconst 0, 1) := by decide +kernel
theorem dX13_decrypt_419 : decode cX13_decrypt 419 = .ok (.aload_n 0, 1) := by decide +kernel
theorem dX13_decrypt_420 : decode cX13_decrypt 420 = .ok (.getfield 659, 3) := by decide +kernel
theorem dX13_decrypt_423 : decode cX13_decrypt 423 = .ok (.invokevirtual 463, 3) := by decide +kernel
theorem dX13_decrypt_426 : decode cX13_decrypt 426 = .ok (.istore 9, 2) := by decide +kernel
theorem dX13_decrypt_428 : decode cX13_decrypt 428 = .ok (.iload 7, 2) := by decide +kernel
theorem dX13_decrypt_430 : decode cX13_decrypt 430 = .ok (.ireturn, 1) := by decide +kernel
theorem dX13_decrypt_431 : decode cX13_decrypt 431 = .ok (.iinc 7 1, 3) := by decide +kernel
theorem dX13_decrypt_434 : decode cX13_decrypt 434 = .ok (.goto (-156), 3) := by decide +kernel
theorem dX13_decrypt_437 : decode cX13_decrypt 437 = .ok (.iload 6, 2) := by decide +kernel
theorem dX13_decrypt_439 : decode cX13_decrypt 439 = .ok (.ifCond .eq 8, 3) := by decide +kernel
theorem dX13_decrypt_442 : decode cX13_decrypt 442 = .ok (.bipush (-27), 2) := by decide +kernel
theorem dX13_decrypt_444 : decode cX13_decrypt 444 = .ok (.goto 5, 3) := by decide +kernel
theorem dX13_decrypt_447 : decode cX13_decrypt 447 = .ok (.bipush (-26), 2) := by decide +kernel
theorem dX13_decrypt_449 : decode cX13_decrypt 449 = .ok (.ireturn, 1) := by decide +kernel
abbrev rmX13_decrypt : Room := { frames := 363, cells := 0, slots := 0, locals := 8586 }
set_option maxHeartbeats 4000000 in
set_option maxRecDepth 100000 in
theorem wB_X13_decrypt_363 {G : mG} {F : Nat} {x : mXT} {sz : Nat} {r0 : Int32} {M0 : mM} (X : mCX G RX13 cX13_decrypt 10 (some .int) "decrypt" rmX13_decrypt x) (hQ : mQI x r0 M0 (sz, 0, 0)) (r278 : Nat → Int32 → Int32 → Int32 → Int32 → Int32 → mM → Option (Int32 × mM)) (hr278 : ∀ (l0 : Nat) (l2 : Int32) (l3 : Int32) (l4 : Int32) (l6 : Int32) (l7 : Int32) (M : mM), r278 l0 l2 l3 l4 l6 l7 M = some (r0, M0) → WW x (sz, 0, 0) M 278 [(0, .ref l0), (2, .int l2), (3, .int l3), (4, .int l4), (6, .int l6), (7, .int l7)] []) {l0 : Nat} {l2 : Int32} {l3 : Int32} {l4 : Int32} {l6 : Int32} {l7 : Int32} {sk0 : Int32} {M : mM} (h : B_X13_decrypt_363 G F r278 l0 l2 l3 l4 l6 l7 sk0 M = some (r0, M0)) : WW x (sz, 0, 0) M 363 [(0, .ref l0), (2, .int l2), (3, .int l3), (4, .int l4), (6, .int l6), (7, .int l7)] [.int sk0] := by
  unfold B_X13_decrypt_363 at h
  refine ww_istore 363 X dX13_decrypt_363 (lv' := [(0, .ref l0), (2, .int l2), (3, .int l3), (4, .int l4), (6, .int l6), (7, .int l7), (8, .int sk0)]) (by decide) [1, 2, 3, 4, 5, 6, 0] rfl ?_
  refine ww_iload 365 X dX13_decrypt_365 6 rfl ?_
  refine ww_if_eq 367 431 X dX13_decrypt_367 (by decide) (fun q => ?_) (fun q => ?_)
  · replace h := (if_pos q).symm.trans h
    refine ww_iinc 431 X dX13_decrypt_431 (lv' := [(0, .ref l0), (2, .int l2), (3, .int l3), (4, .int l4), (6, .int l6), (7, .int (l7 + 1)), (8, .int sk0)]) 5 rfl rfl (by decide) [1, 2, 3, 4, 5, 0, 6] rfl ?_
    refine ww_goto 434 278 X dX13_decrypt_434 (by decide) ?_
    exact ww_sub [0, 1, 2, 3, 4, 5] rfl (hr278 _ _ _ _ _ _ _ h)
  · replace h := (if_neg q).symm.trans h
    refine ww_aload_n 370 X dX13_decrypt_370 0 rfl rfl ?_
    refine ww_aload_n 371 X dX13_decrypt_371 0 rfl rfl ?_
    obtain ⟨v372, e372, h⟩ := bO_some h
    refine ww_getI 372 X dX13_decrypt_372 fG_X13_924 e372 ?_
    refine ww_aload_n 375 X dX13_decrypt_375 0 rfl rfl ?_
    obtain ⟨v376, e376, h⟩ := bO_some h
    refine ww_getR 376 X dX13_decrypt_376 fG_X13_288 e376 ?_
    refine ww_iconst 379 X (v := (0 : Int32)) dX13_decrypt_379 (by decide) ?_
    refine ww_aload_n 380 X dX13_decrypt_380 0 rfl rfl ?_
    obtain ⟨v381, e381, h⟩ := bO_some h
    refine ww_getR 381 X dX13_decrypt_381 fG_X13_294 e381 ?_
    refine ww_iconst 384 X (v := (0 : Int32)) dX13_decrypt_384 (by decide) ?_
    refine ww_aload_n 385 X dX13_decrypt_385 0 rfl rfl ?_
    obtain ⟨v386, e386, h⟩ := bO_some h
    refine ww_getR 386 X dX13_decrypt_386 fG_X13_14 e386 ?_
    refine ww_iload_n 389 X dX13_decrypt_389 1 rfl rfl ?_
    refine ww_aload_n 390 X dX13_decrypt_390 0 rfl rfl ?_
    obtain ⟨v391, e391, h⟩ := bO_some h
    refine ww_getR 391 X dX13_decrypt_391 fG_X13_282 e391 ?_
    refine ww_iconst 394 X (v := (0 : Int32)) dX13_decrypt_394 (by decide) ?_
    obtain ⟨v395, e395, h⟩ := bO_some h
    refine ww_iald 395 X dX13_decrypt_395 e395 ?_
    refine ww_aload_n 396 X dX13_decrypt_396 0 rfl rfl ?_
    obtain ⟨v397, e397, h⟩ := bO_some h
    refine ww_getR 397 X dX13_decrypt_397 fG_X13_303 e397 ?_
    refine ww_iconst 400 X (v := (0 : Int32)) dX13_decrypt_400 (by decide) ?_
    refine ww_iload_n 401 X dX13_decrypt_401 2 rfl rfl ?_
    refine ww_aload_n 402 X dX13_decrypt_402 0 rfl rfl ?_
    obtain ⟨v403, e403, h⟩ := bO_some h
    refine ww_getR 403 X dX13_decrypt_403 fG_X13_306 e403 ?_
    refine ww_iconst 406 X (v := (0 : Int32)) dX13_decrypt_406 (by decide) ?_
    obtain ⟨_, f407, h⟩ := bO_some h
    obtain ⟨v407, M407, e407, h⟩ := bP_some h
    refine ww_callVI0 407 X dX13_decrypt_407 mY_X13_openIt mL_X13_683 (rcv_spec f407) ⟨_, _, rfl⟩ (by decide) (As := [.int v372, .ref v376, .int (0 : Int32), .ref v381, .int (0 : Int32), .ref v386, .int l2, .int v395, .ref v397, .int (0 : Int32), .int l3, .ref v403, .int (0 : Int32)]) (rest := []) rfl rfl ⟨Nat.le_of_ble_eq_true rfl, Nat.le_of_ble_eq_true rfl⟩ (Nat.le_of_ble_eq_true rfl) (fun l D A => c_X13_openIt l D A e407) ?_
    refine ww_if_eq 410 431 X dX13_decrypt_410 (by decide) (fun q => ?_) (fun q => ?_)
    · replace h := (if_pos q).symm.trans h
      refine ww_iinc 431 X dX13_decrypt_431 (lv' := [(0, .ref l0), (2, .int l2), (3, .int l3), (4, .int l4), (6, .int l6), (7, .int (l7 + 1)), (8, .int sk0)]) 5 rfl rfl (by decide) [1, 2, 3, 4, 5, 0, 6] rfl ?_
      refine ww_goto 434 278 X dX13_decrypt_434 (by decide) ?_
      exact ww_sub [0, 1, 2, 3, 4, 5] rfl (hr278 _ _ _ _ _ _ _ h)
    · replace h := (if_neg q).symm.trans h
      refine ww_aload_n 413 X dX13_decrypt_413 0 rfl rfl ?_
      refine ww_aload_n 414 X dX13_decrypt_414 0 rfl rfl ?_
      obtain ⟨v415, e415, h⟩ := bO_some h
      refine ww_getR 415 X dX13_decrypt_415 fG_X13_110 e415 ?_
      refine ww_iconst 418 X (v := (0 : Int32)) dX13_decrypt_418 (by decide) ?_
      refine ww_aload_n 419 X dX13_decrypt_419 0 rfl rfl ?_
      obtain ⟨v420, e420, h⟩ := bO_some h
      refine ww_getI 420 X dX13_decrypt_420 fG_X13_659 e420 ?_
      obtain ⟨_, f423, h⟩ := bO_some h
      obtain ⟨v423, M423, e423, h⟩ := bP_some h
      refine ww_callVI0 423 X dX13_decrypt_423 mY_X13_tell mL_X13_463 (rcv_spec f423) ⟨_, _, rfl⟩ (by decide) (As := [.ref v415, .int (0 : Int32), .int v420]) (rest := []) rfl rfl ⟨Nat.le_of_ble_eq_true rfl, Nat.le_of_ble_eq_true rfl⟩ (Nat.le_of_ble_eq_true rfl) (fun l D A => c_X13_tell l D A e423) ?_
      refine ww_istore 426 X dX13_decrypt_426 (lv' := [(0, .ref l0), (2, .int l2), (3, .int l3), (4, .int l4), (6, .int l6), (7, .int l7), (8, .int sk0), (9, .int v423)]) (by decide) [1, 2, 3, 4, 5, 6, 7, 0] rfl ?_
      refine ww_iload 428 X dX13_decrypt_428 5 rfl ?_
      exact ww_iretE 430 X hQ dX13_decrypt_430 h
set_option maxHeartbeats 4000000 in
set_option maxRecDepth 100000 in
theorem wB_X13_decrypt_278 {G : mG} {F : Nat} {x : mXT} {sz : Nat} {r0 : Int32} {M0 : mM} (X : mCX G RX13 cX13_decrypt 10 (some .int) "decrypt" rmX13_decrypt x) (hQ : mQI x r0 M0 (sz, 0, 0)) : ∀ (n : Nat) (l0 : Nat) (l2 : Int32) (l3 : Int32) (l4 : Int32) (l6 : Int32) (l7 : Int32) (M : mM), B_X13_decrypt_278 G F n l0 l2 l3 l4 l6 l7 M = some (r0, M0) → WW x (sz, 0, 0) M 278 [(0, .ref l0), (2, .int l2), (3, .int l3), (4, .int l4), (6, .int l6), (7, .int l7)] [] := by
  intro n
  induction n with
  | zero =>
    intro l0 l2 l3 l4 l6 l7 M h
    exact nomatch (show (none : Option (Int32 × mM)) = some (r0, M0) from h)
  | succ n ih =>
    intro l0 l2 l3 l4 l6 l7 M h
    rw [B_X13_decrypt_278] at h
    refine ww_iload 278 X dX13_decrypt_278 5 rfl ?_
    refine ww_bipush 280 X (v := (16 : Int32)) dX13_decrypt_280 (by decide) ?_
    refine ww_icmp_ge 282 437 X dX13_decrypt_282 (by decide) (fun q => ?_) (fun q => ?_)
    · replace h := (if_pos q).symm.trans h
      refine ww_iload 437 X dX13_decrypt_437 4 rfl ?_
      refine ww_if_eq 439 447 X dX13_decrypt_439 (by decide) (fun q => ?_) (fun q => ?_)
      · replace h := (if_pos q).symm.trans h
        refine ww_bipush 447 X (v := (-26 : Int32)) dX13_decrypt_447 (by decide) ?_
        exact ww_iretE 449 X hQ dX13_decrypt_449 h
      · replace h := (if_neg q).symm.trans h
        refine ww_bipush 442 X (v := (-27 : Int32)) dX13_decrypt_442 (by decide) ?_
        refine ww_goto 444 449 X dX13_decrypt_444 (by decide) ?_
        exact ww_iretE 449 X hQ dX13_decrypt_449 h
    · replace h := (if_neg q).symm.trans h
      refine ww_aload_n 285 X dX13_decrypt_285 0 rfl rfl ?_
      refine ww_iload 286 X dX13_decrypt_286 5 rfl ?_
      refine ww_aload_n 288 X dX13_decrypt_288 0 rfl rfl ?_
      obtain ⟨v289, e289, h⟩ := bO_some h
      refine ww_getI 289 X dX13_decrypt_289 fG_X13_919 e289 ?_
      refine ww_aload_n 292 X dX13_decrypt_292 0 rfl rfl ?_
      obtain ⟨v293, e293, h⟩ := bO_some h
      refine ww_getI 293 X dX13_decrypt_293 fG_X13_924 e293 ?_
      refine ww_iconst 296 X (v := (1 : Int32)) dX13_decrypt_296 (by decide) ?_
      obtain ⟨_, f297, h⟩ := bO_some h
      obtain ⟨v297, M297, e297, h⟩ := bP_some h
      refine ww_callVI0 297 X dX13_decrypt_297 mY_X13_maySeal mL_X13_1041 (rcv_spec f297) ⟨_, _, rfl⟩ (by decide) (As := [.int l7, .int v289, .int v293, .int (1 : Int32)]) (rest := []) rfl rfl ⟨Nat.le_of_ble_eq_true rfl, Nat.le_of_ble_eq_true rfl⟩ (Nat.le_of_ble_eq_true rfl) (fun l D A => c_X13_maySeal l D A e297) ?_
      refine ww_if_eq 300 431 X dX13_decrypt_300 (by decide) (fun q => ?_) (fun q => ?_)
      · replace h := (if_pos q).symm.trans h
        refine ww_iinc 431 X dX13_decrypt_431 (lv' := [(0, .ref l0), (2, .int l2), (3, .int l3), (4, .int l4), (6, .int l6), (7, .int (l7 + 1))]) 5 rfl rfl (by decide) [1, 2, 3, 4, 5, 0] rfl ?_
        refine ww_goto 434 278 X dX13_decrypt_434 (by decide) ?_
        exact (ih _ _ _ _ _ _ _ h)
      · replace h := (if_neg q).symm.trans h
        refine ww_aload_n 303 X dX13_decrypt_303 0 rfl rfl ?_
        refine ww_iload 304 X dX13_decrypt_304 5 rfl ?_
        obtain ⟨_, f306, h⟩ := bO_some h
        obtain ⟨v306, M306, e306, h⟩ := bP_some h
        refine ww_callVI0 306 X dX13_decrypt_306 mY_X13_hasKid mL_X13_1029 (rcv_spec f306) ⟨_, _, rfl⟩ (by decide) (As := [.int l7]) (rest := []) rfl rfl ⟨Nat.le_of_ble_eq_true rfl, Nat.le_of_ble_eq_true rfl⟩ (Nat.le_of_ble_eq_true rfl) (fun l D A => c_X13_hasKid l D A e306) ?_
        refine ww_if_eq 309 431 X dX13_decrypt_309 (by decide) (fun q => ?_) (fun q => ?_)
        · replace h := (if_pos q).symm.trans h
          refine ww_iinc 431 X dX13_decrypt_431 (lv' := [(0, .ref l0), (2, .int l2), (3, .int l3), (4, .int l4), (6, .int l6), (7, .int (l7 + 1))]) 5 rfl rfl (by decide) [1, 2, 3, 4, 5, 0] rfl ?_
          refine ww_goto 434 278 X dX13_decrypt_434 (by decide) ?_
          exact (ih _ _ _ _ _ _ _ h)
        · replace h := (if_neg q).symm.trans h
          refine ww_iconst 312 X (v := (1 : Int32)) dX13_decrypt_312 (by decide) ?_
          refine ww_istore 313 X dX13_decrypt_313 (lv' := [(0, .ref l0), (2, .int l2), (3, .int l3), (4, .int l4), (6, .int (1 : Int32)), (7, .int l7)]) (by decide) [1, 2, 3, 4, 0, 5] rfl ?_
          refine ww_aload_n 315 X dX13_decrypt_315 0 rfl rfl ?_
          refine ww_iload 316 X dX13_decrypt_316 5 rfl ?_
          refine ww_aload_n 318 X dX13_decrypt_318 0 rfl rfl ?_
          obtain ⟨v319, e319, h⟩ := bO_some h
          refine ww_getI 319 X dX13_decrypt_319 fG_X13_919 e319 ?_
          refine ww_aload_n 322 X dX13_decrypt_322 0 rfl rfl ?_
          obtain ⟨v323, e323, h⟩ := bO_some h
          refine ww_getI 323 X dX13_decrypt_323 fG_X13_924 e323 ?_
          obtain ⟨_, f326, h⟩ := bO_some h
          obtain ⟨v326, M326, e326, h⟩ := bP_some h
          refine ww_callVI0 326 X dX13_decrypt_326 mY_X13_keyComes mL_X13_1070 (rcv_spec f326) ⟨_, _, rfl⟩ (by decide) (As := [.int l7, .int v319, .int v323]) (rest := []) rfl rfl ⟨Nat.le_of_ble_eq_true rfl, Nat.le_of_ble_eq_true rfl⟩ (Nat.le_of_ble_eq_true rfl) (fun l D A => c_X13_keyComes l D A e326) ?_
          refine ww_if_eq 329 362 X dX13_decrypt_329 (by decide) (fun q => ?_) (fun q => ?_)
          · replace h := (if_pos q).symm.trans h
            refine ww_iconst 362 X (v := (0 : Int32)) dX13_decrypt_362 (by decide) ?_
            exact (wB_X13_decrypt_363 X hQ _ ih h)
          · replace h := (if_neg q).symm.trans h
            refine ww_aload_n 332 X dX13_decrypt_332 0 rfl rfl ?_
            obtain ⟨v333, e333, h⟩ := bO_some h
            refine ww_getI 333 X dX13_decrypt_333 fG_X13_1067 e333 ?_
            refine ww_aload_n 336 X dX13_decrypt_336 0 rfl rfl ?_
            obtain ⟨v337, e337, h⟩ := bO_some h
            refine ww_getI 337 X dX13_decrypt_337 fG_X13_924 e337 ?_
            obtain ⟨v340, M340, e340, h⟩ := bP_some h
            refine ww_callSI0 340 X dX13_decrypt_340 mY_X13_beginningOf mL_X13_673 (As := [.int v337]) (rest := [.int v333]) rfl rfl ⟨Nat.le_of_ble_eq_true rfl, Nat.le_of_ble_eq_true rfl⟩ (Nat.le_of_ble_eq_true rfl) (fun l D A => c_X13_beginningOf l D A e340) ?_
            refine ww_icmp_ne 343 362 X dX13_decrypt_343 (by decide) (fun q => ?_) (fun q => ?_)
            · replace h := (if_neg q).symm.trans h
              refine ww_iconst 362 X (v := (0 : Int32)) dX13_decrypt_362 (by decide) ?_
              exact (wB_X13_decrypt_363 X hQ _ ih h)
            · replace h := (if_pos q).symm.trans h
              refine ww_iload 346 X dX13_decrypt_346 3 rfl ?_
              refine ww_aload_n 348 X dX13_decrypt_348 0 rfl rfl ?_
              obtain ⟨v349, e349, h⟩ := bO_some h
              refine ww_getI 349 X dX13_decrypt_349 fG_X13_924 e349 ?_
              obtain ⟨v352, M352, e352, h⟩ := bP_some h
              refine ww_callSI0 352 X dX13_decrypt_352 mY_X13_markOf mL_X13_632 (As := [.int v349]) (rest := [.int l4]) rfl rfl ⟨Nat.le_of_ble_eq_true rfl, Nat.le_of_ble_eq_true rfl⟩ (Nat.le_of_ble_eq_true rfl) (fun l D A => c_X13_markOf l D A e352) ?_
              refine ww_icmp_ne 355 362 X dX13_decrypt_355 (by decide) (fun q => ?_) (fun q => ?_)
              · replace h := (if_neg q).symm.trans h
                refine ww_iconst 362 X (v := (0 : Int32)) dX13_decrypt_362 (by decide) ?_
                exact (wB_X13_decrypt_363 X hQ _ ih h)
              · replace h := (if_pos q).symm.trans h
                refine ww_iconst 358 X (v := (1 : Int32)) dX13_decrypt_358 (by decide) ?_
                refine ww_goto 359 363 X dX13_decrypt_359 (by decide) ?_
                exact (wB_X13_decrypt_363 X hQ _ ih h)
set_option maxHeartbeats 4000000 in
set_option maxRecDepth 100000 in
theorem wP_X13_decrypt {G : mG} {F : Nat} {x : mXT} {sz : Nat} {r0 : Int32} {M0 : mM} (X : mCX G RX13 cX13_decrypt 10 (some .int) "decrypt" rmX13_decrypt x) (hQ : mQI x r0 M0 (sz, 0, 0)) {l0 : Nat} {l1 : Int32} {M : mM} (h : P_X13_decrypt G F l0 l1 M = some (r0, M0)) : WW x (sz, 0, 0) M 0 [(0, .ref l0), (1, .int l1)] [] := by
  unfold P_X13_decrypt at h
  refine ww_iload_n 0 X dX13_decrypt_0 1 rfl rfl ?_
  obtain ⟨v1, M1, e1, h⟩ := bP_some h
  refine ww_callSI0 1 X dX13_decrypt_1 mY_X13_isRow mL_X13_332 (As := [.int l1]) (rest := []) rfl rfl ⟨Nat.le_of_ble_eq_true rfl, Nat.le_of_ble_eq_true rfl⟩ (Nat.le_of_ble_eq_true rfl) (fun l D A => c_X13_isRow l D A e1) ?_
  refine ww_if_ne 4 10 X dX13_decrypt_4 (by decide) (fun q => ?_) (fun q => ?_)
  · replace h := (if_neg q).symm.trans h
    refine ww_aload_n 10 X dX13_decrypt_10 0 rfl rfl ?_
    refine ww_iload_n 11 X dX13_decrypt_11 1 rfl rfl ?_
    obtain ⟨_, f12, h⟩ := bO_some h
    obtain ⟨v12, M12, e12, h⟩ := bP_some h
    refine ww_callVI0 12 X dX13_decrypt_12 mY_X13_pointsOf mL_X13_1026 (rcv_spec f12) ⟨_, _, rfl⟩ (by decide) (As := [.int l1]) (rest := []) rfl rfl ⟨Nat.le_of_ble_eq_true rfl, Nat.le_of_ble_eq_true rfl⟩ (Nat.le_of_ble_eq_true rfl) (fun l D A => c_X13_pointsOf l D A e12) ?_
    refine ww_iconst 15 X (v := (4 : Int32)) dX13_decrypt_15 (by decide) ?_
    refine ww_icmp_eq 16 22 X dX13_decrypt_16 (by decide) (fun q => ?_) (fun q => ?_)
    · replace h := (if_pos q).symm.trans h
      refine ww_sipush 22 X (v := (8192 : Int32)) dX13_decrypt_22 (by decide) ?_
      refine ww_iload_n 25 X dX13_decrypt_25 1 rfl rfl ?_
      refine ww_imul 26 X dX13_decrypt_26 ?_
      refine ww_istore_n 27 X dX13_decrypt_27 (lv' := [(0, .ref l0), (1, .int l1), (2, .int ((8192 : Int32) * l1))]) rfl (by decide) [1, 2, 0] rfl ?_
      refine ww_aload_n 28 X dX13_decrypt_28 0 rfl rfl ?_
      refine ww_aload_n 29 X dX13_decrypt_29 0 rfl rfl ?_
      refine ww_aload_n 30 X dX13_decrypt_30 0 rfl rfl ?_
      obtain ⟨v31, e31, h⟩ := bO_some h
      refine ww_getR 31 X dX13_decrypt_31 fG_X13_14 e31 ?_
      refine ww_iload_n 34 X dX13_decrypt_34 2 rfl rfl ?_
      refine ww_aload_n 35 X dX13_decrypt_35 0 rfl rfl ?_
      obtain ⟨v36, e36, h⟩ := bO_some h
      refine ww_getR 36 X dX13_decrypt_36 fG_X13_282 e36 ?_
      refine ww_iconst 39 X (v := (0 : Int32)) dX13_decrypt_39 (by decide) ?_
      obtain ⟨v40, e40, h⟩ := bO_some h
      refine ww_iald 40 X dX13_decrypt_40 e40 ?_
      refine ww_aload_n 41 X dX13_decrypt_41 0 rfl rfl ?_
      obtain ⟨v42, e42, h⟩ := bO_some h
      refine ww_getR 42 X dX13_decrypt_42 fG_X13_275 e42 ?_
      refine ww_iconst 45 X (v := (0 : Int32)) dX13_decrypt_45 (by decide) ?_
      obtain ⟨_, f46, h⟩ := bO_some h
      obtain ⟨v46, M46, e46, h⟩ := bP_some h
      refine ww_callVI0 46 X dX13_decrypt_46 mY_X13_unletter mL_X13_503 (rcv_spec f46) ⟨_, _, rfl⟩ (by decide) (As := [.ref v31, .int ((8192 : Int32) * l1), .int v40, .ref v42, .int (0 : Int32)]) (rest := [.ref l0]) rfl rfl ⟨Nat.le_of_ble_eq_true rfl, Nat.le_of_ble_eq_true rfl⟩ (Nat.le_of_ble_eq_true rfl) (fun l D A => c_X13_unletter l D A e46) ?_
      obtain ⟨M49, e49, h⟩ := bO_some h
      refine ww_putI 49 X dX13_decrypt_49 (fP_X13_1007 _) e49 ?_
      refine ww_aload_n 52 X dX13_decrypt_52 0 rfl rfl ?_
      refine ww_aload_n 53 X dX13_decrypt_53 0 rfl rfl ?_
      refine ww_aload_n 54 X dX13_decrypt_54 0 rfl rfl ?_
      obtain ⟨v55, e55, h⟩ := bO_some h
      refine ww_getR 55 X dX13_decrypt_55 fG_X13_14 e55 ?_
      refine ww_iload_n 58 X dX13_decrypt_58 2 rfl rfl ?_
      refine ww_aload_n 59 X dX13_decrypt_59 0 rfl rfl ?_
      obtain ⟨v60, e60, h⟩ := bO_some h
      refine ww_getR 60 X dX13_decrypt_60 fG_X13_282 e60 ?_
      refine ww_iconst 63 X (v := (0 : Int32)) dX13_decrypt_63 (by decide) ?_
      obtain ⟨v64, e64, h⟩ := bO_some h
      refine ww_iald 64 X dX13_decrypt_64 e64 ?_
      refine ww_iadd 65 X dX13_decrypt_65 ?_
      refine ww_iconst 66 X (v := (1 : Int32)) dX13_decrypt_66 (by decide) ?_
      refine ww_iadd 67 X dX13_decrypt_67 ?_
      refine ww_aload_n 68 X dX13_decrypt_68 0 rfl rfl ?_
      obtain ⟨v69, e69, h⟩ := bO_some h
      refine ww_getR 69 X dX13_decrypt_69 fG_X13_282 e69 ?_
      refine ww_iconst 72 X (v := (1 : Int32)) dX13_decrypt_72 (by decide) ?_
      obtain ⟨v73, e73, h⟩ := bO_some h
      refine ww_iald 73 X dX13_decrypt_73 e73 ?_
      refine ww_aload_n 74 X dX13_decrypt_74 0 rfl rfl ?_
      obtain ⟨v75, e75, h⟩ := bO_some h
      refine ww_getR 75 X dX13_decrypt_75 fG_X13_282 e75 ?_
      refine ww_iconst 78 X (v := (0 : Int32)) dX13_decrypt_78 (by decide) ?_
      obtain ⟨v79, e79, h⟩ := bO_some h
      refine ww_iald 79 X dX13_decrypt_79 e79 ?_
      refine ww_isub 80 X dX13_decrypt_80 ?_
      refine ww_iconst 81 X (v := (1 : Int32)) dX13_decrypt_81 (by decide) ?_
      refine ww_isub 82 X dX13_decrypt_82 ?_
      refine ww_aload_n 83 X dX13_decrypt_83 0 rfl rfl ?_
      obtain ⟨v84, e84, h⟩ := bO_some h
      refine ww_getR 84 X dX13_decrypt_84 fG_X13_291 e84 ?_
      refine ww_iconst 87 X (v := (0 : Int32)) dX13_decrypt_87 (by decide) ?_
      obtain ⟨_, f88, h⟩ := bO_some h
      obtain ⟨v88, M88, e88, h⟩ := bP_some h
      refine ww_callVI0 88 X dX13_decrypt_88 mY_X13_unletter mL_X13_503 (rcv_spec f88) ⟨_, _, rfl⟩ (by decide) (As := [.ref v55, .int ((((8192 : Int32) * l1) + v64) + (1 : Int32)), .int ((v73 - v79) - (1 : Int32)), .ref v84, .int (0 : Int32)]) (rest := [.ref l0]) rfl rfl ⟨Nat.le_of_ble_eq_true rfl, Nat.le_of_ble_eq_true rfl⟩ (Nat.le_of_ble_eq_true rfl) (fun l D A => c_X13_unletter l D A e88) ?_
      obtain ⟨M91, e91, h⟩ := bO_some h
      refine ww_putI 91 X dX13_decrypt_91 (fP_X13_1038 _) e91 ?_
      refine ww_aload_n 94 X dX13_decrypt_94 0 rfl rfl ?_
      refine ww_aload_n 95 X dX13_decrypt_95 0 rfl rfl ?_
      refine ww_aload_n 96 X dX13_decrypt_96 0 rfl rfl ?_
      obtain ⟨v97, e97, h⟩ := bO_some h
      refine ww_getR 97 X dX13_decrypt_97 fG_X13_14 e97 ?_
      refine ww_iload_n 100 X dX13_decrypt_100 2 rfl rfl ?_
      refine ww_aload_n 101 X dX13_decrypt_101 0 rfl rfl ?_
      obtain ⟨v102, e102, h⟩ := bO_some h
      refine ww_getR 102 X dX13_decrypt_102 fG_X13_282 e102 ?_
      refine ww_iconst 105 X (v := (1 : Int32)) dX13_decrypt_105 (by decide) ?_
      obtain ⟨v106, e106, h⟩ := bO_some h
      refine ww_iald 106 X dX13_decrypt_106 e106 ?_
      refine ww_iadd 107 X dX13_decrypt_107 ?_
      refine ww_iconst 108 X (v := (1 : Int32)) dX13_decrypt_108 (by decide) ?_
      refine ww_iadd 109 X dX13_decrypt_109 ?_
      refine ww_aload_n 110 X dX13_decrypt_110 0 rfl rfl ?_
      obtain ⟨v111, e111, h⟩ := bO_some h
      refine ww_getR 111 X dX13_decrypt_111 fG_X13_282 e111 ?_
      refine ww_iconst 114 X (v := (2 : Int32)) dX13_decrypt_114 (by decide) ?_
      obtain ⟨v115, e115, h⟩ := bO_some h
      refine ww_iald 115 X dX13_decrypt_115 e115 ?_
      refine ww_aload_n 116 X dX13_decrypt_116 0 rfl rfl ?_
      obtain ⟨v117, e117, h⟩ := bO_some h
      refine ww_getR 117 X dX13_decrypt_117 fG_X13_282 e117 ?_
      refine ww_iconst 120 X (v := (1 : Int32)) dX13_decrypt_120 (by decide) ?_
      obtain ⟨v121, e121, h⟩ := bO_some h
      refine ww_iald 121 X dX13_decrypt_121 e121 ?_
      refine ww_isub 122 X dX13_decrypt_122 ?_
      refine ww_iconst 123 X (v := (1 : Int32)) dX13_decrypt_123 (by decide) ?_
      refine ww_isub 124 X dX13_decrypt_124 ?_
      refine ww_aload_n 125 X dX13_decrypt_125 0 rfl rfl ?_
      obtain ⟨v126, e126, h⟩ := bO_some h
      refine ww_getR 126 X dX13_decrypt_126 fG_X13_294 e126 ?_
      refine ww_iconst 129 X (v := (0 : Int32)) dX13_decrypt_129 (by decide) ?_
      obtain ⟨_, f130, h⟩ := bO_some h
      obtain ⟨v130, M130, e130, h⟩ := bP_some h
      refine ww_callVI0 130 X dX13_decrypt_130 mY_X13_unletter mL_X13_503 (rcv_spec f130) ⟨_, _, rfl⟩ (by decide) (As := [.ref v97, .int ((((8192 : Int32) * l1) + v106) + (1 : Int32)), .int ((v115 - v121) - (1 : Int32)), .ref v126, .int (0 : Int32)]) (rest := [.ref l0]) rfl rfl ⟨Nat.le_of_ble_eq_true rfl, Nat.le_of_ble_eq_true rfl⟩ (Nat.le_of_ble_eq_true rfl) (fun l D A => c_X13_unletter l D A e130) ?_
      obtain ⟨M133, e133, h⟩ := bO_some h
      refine ww_putI 133 X dX13_decrypt_133 (fP_X13_1067 _) e133 ?_
      refine ww_aload_n 136 X dX13_decrypt_136 0 rfl rfl ?_
      refine ww_aload_n 137 X dX13_decrypt_137 0 rfl rfl ?_
      obtain ⟨v138, e138, h⟩ := bO_some h
      refine ww_getR 138 X dX13_decrypt_138 fG_X13_14 e138 ?_
      refine ww_iload_n 141 X dX13_decrypt_141 2 rfl rfl ?_
      refine ww_aload_n 142 X dX13_decrypt_142 0 rfl rfl ?_
      obtain ⟨v143, e143, h⟩ := bO_some h
      refine ww_getR 143 X dX13_decrypt_143 fG_X13_282 e143 ?_
      refine ww_iconst 146 X (v := (2 : Int32)) dX13_decrypt_146 (by decide) ?_
      obtain ⟨v147, e147, h⟩ := bO_some h
      refine ww_iald 147 X dX13_decrypt_147 e147 ?_
      refine ww_iadd 148 X dX13_decrypt_148 ?_
      refine ww_iconst 149 X (v := (1 : Int32)) dX13_decrypt_149 (by decide) ?_
      refine ww_iadd 150 X dX13_decrypt_150 ?_
      refine ww_aload_n 151 X dX13_decrypt_151 0 rfl rfl ?_
      obtain ⟨v152, e152, h⟩ := bO_some h
      refine ww_getR 152 X dX13_decrypt_152 fG_X13_282 e152 ?_
      refine ww_iconst 155 X (v := (3 : Int32)) dX13_decrypt_155 (by decide) ?_
      obtain ⟨v156, e156, h⟩ := bO_some h
      refine ww_iald 156 X dX13_decrypt_156 e156 ?_
      refine ww_aload_n 157 X dX13_decrypt_157 0 rfl rfl ?_
      obtain ⟨v158, e158, h⟩ := bO_some h
      refine ww_getR 158 X dX13_decrypt_158 fG_X13_282 e158 ?_
      refine ww_iconst 161 X (v := (2 : Int32)) dX13_decrypt_161 (by decide) ?_
      obtain ⟨v162, e162, h⟩ := bO_some h
      refine ww_iald 162 X dX13_decrypt_162 e162 ?_
      refine ww_isub 163 X dX13_decrypt_163 ?_
      refine ww_iconst 164 X (v := (1 : Int32)) dX13_decrypt_164 (by decide) ?_
      refine ww_isub 165 X dX13_decrypt_165 ?_
      refine ww_aload_n 166 X dX13_decrypt_166 0 rfl rfl ?_
      obtain ⟨v167, e167, h⟩ := bO_some h
      refine ww_getR 167 X dX13_decrypt_167 fG_X13_303 e167 ?_
      refine ww_iconst 170 X (v := (0 : Int32)) dX13_decrypt_170 (by decide) ?_
      obtain ⟨_, f171, h⟩ := bO_some h
      obtain ⟨v171, M171, e171, h⟩ := bP_some h
      refine ww_callVI0 171 X dX13_decrypt_171 mY_X13_unletter mL_X13_503 (rcv_spec f171) ⟨_, _, rfl⟩ (by decide) (As := [.ref v138, .int ((((8192 : Int32) * l1) + v147) + (1 : Int32)), .int ((v156 - v162) - (1 : Int32)), .ref v167, .int (0 : Int32)]) (rest := []) rfl rfl ⟨Nat.le_of_ble_eq_true rfl, Nat.le_of_ble_eq_true rfl⟩ (Nat.le_of_ble_eq_true rfl) (fun l D A => c_X13_unletter l D A e171) ?_
      refine ww_istore_n 174 X dX13_decrypt_174 (lv' := [(0, .ref l0), (1, .int l1), (2, .int ((8192 : Int32) * l1)), (3, .int v171)]) rfl (by decide) [1, 2, 3, 0] rfl ?_
      refine ww_aload_n 175 X dX13_decrypt_175 0 rfl rfl ?_
      refine ww_aload_n 176 X dX13_decrypt_176 0 rfl rfl ?_
      obtain ⟨v177, e177, h⟩ := bO_some h
      refine ww_getR 177 X dX13_decrypt_177 fG_X13_14 e177 ?_
      refine ww_iload_n 180 X dX13_decrypt_180 2 rfl rfl ?_
      refine ww_aload_n 181 X dX13_decrypt_181 0 rfl rfl ?_
      obtain ⟨v182, e182, h⟩ := bO_some h
      refine ww_getR 182 X dX13_decrypt_182 fG_X13_282 e182 ?_
      refine ww_iconst 185 X (v := (3 : Int32)) dX13_decrypt_185 (by decide) ?_
      obtain ⟨v186, e186, h⟩ := bO_some h
      refine ww_iald 186 X dX13_decrypt_186 e186 ?_
      refine ww_iadd 187 X dX13_decrypt_187 ?_
      refine ww_iconst 188 X (v := (1 : Int32)) dX13_decrypt_188 (by decide) ?_
      refine ww_iadd 189 X dX13_decrypt_189 ?_
      refine ww_aload_n 190 X dX13_decrypt_190 0 rfl rfl ?_
      obtain ⟨v191, e191, h⟩ := bO_some h
      refine ww_getR 191 X dX13_decrypt_191 fG_X13_17 e191 ?_
      refine ww_iload_n 194 X dX13_decrypt_194 1 rfl rfl ?_
      obtain ⟨v195, e195, h⟩ := bO_some h
      refine ww_iald 195 X dX13_decrypt_195 e195 ?_
      refine ww_aload_n 196 X dX13_decrypt_196 0 rfl rfl ?_
      obtain ⟨v197, e197, h⟩ := bO_some h
      refine ww_getR 197 X dX13_decrypt_197 fG_X13_282 e197 ?_
      refine ww_iconst 200 X (v := (3 : Int32)) dX13_decrypt_200 (by decide) ?_
      obtain ⟨v201, e201, h⟩ := bO_some h
      refine ww_iald 201 X dX13_decrypt_201 e201 ?_
      refine ww_isub 202 X dX13_decrypt_202 ?_
      refine ww_iconst 203 X (v := (1 : Int32)) dX13_decrypt_203 (by decide) ?_
      refine ww_isub 204 X dX13_decrypt_204 ?_
      refine ww_aload_n 205 X dX13_decrypt_205 0 rfl rfl ?_
      obtain ⟨v206, e206, h⟩ := bO_some h
      refine ww_getR 206 X dX13_decrypt_206 fG_X13_306 e206 ?_
      refine ww_iconst 209 X (v := (0 : Int32)) dX13_decrypt_209 (by decide) ?_
      obtain ⟨_, f210, h⟩ := bO_some h
      obtain ⟨v210, M210, e210, h⟩ := bP_some h
      refine ww_callVI0 210 X dX13_decrypt_210 mY_X13_unletter mL_X13_503 (rcv_spec f210) ⟨_, _, rfl⟩ (by decide) (As := [.ref v177, .int ((((8192 : Int32) * l1) + v186) + (1 : Int32)), .int ((v195 - v201) - (1 : Int32)), .ref v206, .int (0 : Int32)]) (rest := []) rfl rfl ⟨Nat.le_of_ble_eq_true rfl, Nat.le_of_ble_eq_true rfl⟩ (Nat.le_of_ble_eq_true rfl) (fun l D A => c_X13_unletter l D A e210) ?_
      refine ww_istore 213 X dX13_decrypt_213 (lv' := [(0, .ref l0), (1, .int l1), (2, .int ((8192 : Int32) * l1)), (3, .int v171), (4, .int v210)]) (by decide) [1, 2, 3, 4, 0] rfl ?_
      refine ww_aload_n 215 X dX13_decrypt_215 0 rfl rfl ?_
      obtain ⟨v216, e216, h⟩ := bO_some h
      refine ww_getI 216 X dX13_decrypt_216 fG_X13_1007 e216 ?_
      refine ww_if_lt 219 245 X dX13_decrypt_219 (by decide) (fun q => ?_) (fun q => ?_)
      · replace h := (if_pos q).symm.trans h
        refine ww_bipush 245 X (v := (-21 : Int32)) dX13_decrypt_245 (by decide) ?_
        exact ww_iretE 247 X hQ dX13_decrypt_247 h
      · replace h := (if_neg q).symm.trans h
        refine ww_aload_n 222 X dX13_decrypt_222 0 rfl rfl ?_
        obtain ⟨v223, e223, h⟩ := bO_some h
        refine ww_getI 223 X dX13_decrypt_223 fG_X13_1038 e223 ?_
        refine ww_if_lt 226 245 X dX13_decrypt_226 (by decide) (fun q => ?_) (fun q => ?_)
        · replace h := (if_pos q).symm.trans h
          refine ww_bipush 245 X (v := (-21 : Int32)) dX13_decrypt_245 (by decide) ?_
          exact ww_iretE 247 X hQ dX13_decrypt_247 h
        · replace h := (if_neg q).symm.trans h
          refine ww_aload_n 229 X dX13_decrypt_229 0 rfl rfl ?_
          obtain ⟨v230, e230, h⟩ := bO_some h
          refine ww_getI 230 X dX13_decrypt_230 fG_X13_1067 e230 ?_
          refine ww_if_lt 233 245 X dX13_decrypt_233 (by decide) (fun q => ?_) (fun q => ?_)
          · replace h := (if_pos q).symm.trans h
            refine ww_bipush 245 X (v := (-21 : Int32)) dX13_decrypt_245 (by decide) ?_
            exact ww_iretE 247 X hQ dX13_decrypt_247 h
          · replace h := (if_neg q).symm.trans h
            refine ww_iload_n 236 X dX13_decrypt_236 3 rfl rfl ?_
            refine ww_if_lt 237 245 X dX13_decrypt_237 (by decide) (fun q => ?_) (fun q => ?_)
            · replace h := (if_pos q).symm.trans h
              refine ww_bipush 245 X (v := (-21 : Int32)) dX13_decrypt_245 (by decide) ?_
              exact ww_iretE 247 X hQ dX13_decrypt_247 h
            · replace h := (if_neg q).symm.trans h
              refine ww_iload 240 X dX13_decrypt_240 4 rfl ?_
              refine ww_if_ge 242 248 X dX13_decrypt_242 (by decide) (fun q => ?_) (fun q => ?_)
              · replace h := (if_pos q).symm.trans h
                refine ww_aload_n 248 X dX13_decrypt_248 0 rfl rfl ?_
                refine ww_aload_n 249 X dX13_decrypt_249 0 rfl rfl ?_
                obtain ⟨v250, e250, h⟩ := bO_some h
                refine ww_getR 250 X dX13_decrypt_250 fG_X13_275 e250 ?_
                refine ww_iconst 253 X (v := (0 : Int32)) dX13_decrypt_253 (by decide) ?_
                refine ww_aload_n 254 X dX13_decrypt_254 0 rfl rfl ?_
                obtain ⟨v255, e255, h⟩ := bO_some h
                refine ww_getI 255 X dX13_decrypt_255 fG_X13_1007 e255 ?_
                refine ww_iconst 258 X (v := (1 : Int32)) dX13_decrypt_258 (by decide) ?_
                obtain ⟨_, f259, h⟩ := bO_some h
                obtain ⟨v259, M259, e259, h⟩ := bP_some h
                refine ww_callVI0 259 X dX13_decrypt_259 mY_X13_headOf mL_X13_1010 (rcv_spec f259) ⟨_, _, rfl⟩ (by decide) (As := [.ref v250, .int (0 : Int32), .int v255, .int (1 : Int32)]) (rest := []) rfl rfl ⟨Nat.le_of_ble_eq_true rfl, Nat.le_of_ble_eq_true rfl⟩ (Nat.le_of_ble_eq_true rfl) (fun l D A => c_X13_headOf l D A e259) ?_
                refine ww_istore 262 X dX13_decrypt_262 (lv' := [(0, .ref l0), (1, .int l1), (2, .int ((8192 : Int32) * l1)), (3, .int v171), (4, .int v210), (5, .int v259)]) (by decide) [1, 2, 3, 4, 5, 0] rfl ?_
                refine ww_iload 264 X dX13_decrypt_264 5 rfl ?_
                refine ww_if_ge 266 272 X dX13_decrypt_266 (by decide) (fun q => ?_) (fun q => ?_)
                · replace h := (if_pos q).symm.trans h
                  refine ww_iconst 272 X (v := (0 : Int32)) dX13_decrypt_272 (by decide) ?_
                  refine ww_istore 273 X dX13_decrypt_273 (lv' := [(0, .ref l0), (1, .int l1), (2, .int ((8192 : Int32) * l1)), (3, .int v171), (4, .int v210), (5, .int v259), (6, .int (0 : Int32))]) (by decide) [1, 2, 3, 4, 5, 6, 0] rfl ?_
                  refine ww_iconst 275 X (v := (0 : Int32)) dX13_decrypt_275 (by decide) ?_
                  refine ww_istore 276 X dX13_decrypt_276 (lv' := [(0, .ref l0), (1, .int l1), (2, .int ((8192 : Int32) * l1)), (3, .int v171), (4, .int v210), (5, .int v259), (6, .int (0 : Int32)), (7, .int (0 : Int32))]) (by decide) [1, 2, 3, 4, 5, 6, 7, 0] rfl ?_
                  exact ww_sub [0, 2, 3, 4, 6, 7] rfl (wB_X13_decrypt_278 X hQ F _ _ _ _ _ _ _ h)
                · replace h := (if_neg q).symm.trans h
                  refine ww_iload 269 X dX13_decrypt_269 5 rfl ?_
                  exact ww_iretE 271 X hQ dX13_decrypt_271 h
              · replace h := (if_neg q).symm.trans h
                refine ww_bipush 245 X (v := (-21 : Int32)) dX13_decrypt_245 (by decide) ?_
                exact ww_iretE 247 X hQ dX13_decrypt_247 h
    · replace h := (if_neg q).symm.trans h
      refine ww_bipush 19 X (v := (-20 : Int32)) dX13_decrypt_19 (by decide) ?_
      exact ww_iretE 21 X hQ dX13_decrypt_21 h
  · replace h := (if_pos q).symm.trans h
    refine ww_bipush 7 X (v := (-2 : Int32)) dX13_decrypt_7 (by decide) ?_
    exact ww_iretE 9 X hQ dX13_decrypt_9 h
theorem c_X13_decrypt {G : mG} {F sz : Nat} {r0 : Int32} {M0 : mM} (l : Launch) (D : mD) (A : Nat → Prop) {l0 : Nat} {l1 : Int32} {M : mM} (h : P_X13_decrypt G F l0 l1 M = some (r0, M0)) : mMetI l D G A yX13_decrypt cX13_decrypt 10 (some .int) 363 8586 0 0 [.ref l0, .int l1] M sz r0 M0 sz := mMetI_of l D G A (by decide) (Nat.le_of_ble_eq_true rfl) (fun x X hQ => wP_X13_decrypt X hQ h)
