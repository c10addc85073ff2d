theorem dX12_reads_83 : decode cX12_reads 83 = .ok (.dup, 1) := by decide +kernel
theorem dX12_reads_84 : decode cX12_reads 84 = .ok (.getfield 98, 3) := by decide +kernel
theorem dX12_reads_87 : decode cX12_reads 87 = .ok (.iconst 1, 1) := by decide +kernel
theorem dX12_reads_88 : decode cX12_reads 88 = .ok (.isub, 1) := by decide +kernel
theorem dX12_reads_89 : decode cX12_reads 89 = .ok (.putfield 98, 3) := by decide +kernel
theorem dX12_reads_92 : decode cX12_reads 92 = .ok (.iinc 3 (-1), 3) := by decide +kernel
theorem dX12_reads_95 : decode cX12_reads 95 = .ok (.aload_n 0, 1) := by decide +kernel
theorem dX12_reads_96 : decode cX12_reads 96 = .ok (.bipush 6, 2) := by decide +kernel
theorem dX12_reads_98 : decode cX12_reads 98 = .ok (.invokevirtual 108, 3) := by decide +kernel
theorem dX12_reads_101 : decode cX12_reads 101 = .ok (.goto 97, 3) := by decide +kernel
theorem dX12_reads_104 : decode cX12_reads 104 = .ok (.iload 6, 2) := by decide +kernel
theorem dX12_reads_106 : decode cX12_reads 106 = .ok (.bipush 63, 2) := by decide +kernel
theorem dX12_reads_108 : decode cX12_reads 108 = .ok (.if_icmp .ne 20, 3) := by decide +kernel
theorem dX12_reads_111 : decode cX12_reads 111 = .ok (.aload_n 0, 1) := by decide +kernel
theorem dX12_reads_112 : decode cX12_reads 112 = .ok (.iconst 1, 1) := by decide +kernel
theorem dX12_reads_113 : decode cX12_reads 113 = .ok (.invokevirtual 108, 3) := by decide +kernel
theorem dX12_reads_116 : decode cX12_reads 116 = .ok (.aload_n 0, 1) := by decide +kernel
theorem dX12_reads_117 : decode cX12_reads 117 = .ok (.bipush 14, 2) := by decide +kernel
theorem dX12_reads_119 : decode cX12_reads 119 = .ok (.invokevirtual 112, 3) := by decide +kernel
theorem dX12_reads_122 : decode cX12_reads 122 = .ok (.iconst 0, 1) := by decide +kernel
theorem dX12_reads_123 : decode cX12_reads 123 = .ok (.istore 4, 2) := by decide +kernel
theorem dX12_reads_125 : decode cX12_reads 125 = .ok (.goto 73, 3) := by decide +kernel
theorem dX12_reads_128 : decode cX12_reads 128 = .ok (.iload 6, 2) := by decide +kernel
theorem dX12_reads_130 : decode cX12_reads 130 = .ok (.bipush 58, 2) := by decide +kernel
theorem dX12_reads_132 : decode cX12_reads 132 = .ok (.if_icmp .ne 31, 3) := by decide +kernel
theorem dX12_reads_135 : decode cX12_reads 135 = .ok (.aload_n 0, 1) := by decide +kernel
theorem dX12_reads_136 : decode cX12_reads 136 = .ok (.invokevirtual 115, 3) := by decide +kernel
theorem dX12_reads_139 : decode cX12_reads 139 = .ok (.bipush 14, 2) := by decide +kernel
theorem dX12_reads_141 : decode cX12_reads 141 = .ok (.if_icmp .ne 22, 3) := by decide +kernel
theorem dX12_reads_144 : decode cX12_reads 144 = .ok (.aload_n 0, 1) := by decide +kernel
theorem dX12_reads_145 : decode cX12_reads 145 = .ok (.getfield 26, 3) := by decide +kernel
theorem dX12_reads_148 : decode cX12_reads 148 = .ok (.aload_n 0, 1) := by decide +kernel
theorem dX12_reads_149 : decode cX12_reads 149 = .ok (.getfield 98, 3) := by decide +kernel
theorem dX12_reads_152 : decode cX12_reads 152 = .ok (.iconst 1, 1) := by decide +kernel
theorem dX12_reads_153 : decode cX12_reads 153 = .ok (.isub, 1) := by decide +kernel
theorem dX12_reads_154 : decode cX12_reads 154 = .ok (.bipush 15, 2) := by decide +kernel
theorem dX12_reads_156 : decode cX12_reads 156 = .ok (.iastore, 1) := by decide +kernel
theorem dX12_reads_157 : decode cX12_reads 157 = .ok (.iconst 0, 1) := by decide +kernel
theorem dX12_reads_158 : decode cX12_reads 158 = .ok (.istore 4, 2) := by decide +kernel
theorem dX12_reads_160 : decode cX12_reads 160 = .ok (.goto 38, 3) := by decide +kernel
theorem dX12_reads_163 : decode cX12_reads 163 = .ok (.iload 6, 2) := by decide +kernel
theorem dX12_reads_165 : decode cX12_reads 165 = .ok (.invokestatic 119, 3) := by decide +kernel
theorem dX12_reads_168 : decode cX12_reads 168 = .ok (.iconst (-1), 1) := by decide +kernel
theorem dX12_reads_169 : decode cX12_reads 169 = .ok (.if_icmp .eq 21, 3) := by decide +kernel
theorem dX12_reads_172 : decode cX12_reads 172 = .ok (.aload_n 0, 1) := by decide +kernel
theorem dX12_reads_173 : decode cX12_reads 173 = .ok (.iload 6, 2) := by decide +kernel
theorem dX12_reads_175 : decode cX12_reads 175 = .ok (.invokestatic 119, 3) := by decide +kernel
theorem dX12_reads_178 : decode cX12_reads 178 = .ok (.invokevirtual 122, 3) := by decide +kernel
theorem dX12_reads_181 : decode cX12_reads 181 = .ok (.ifCond .eq 9, 3) := by decide +kernel
theorem dX12_reads_184 : decode cX12_reads 184 = .ok (.iconst 0, 1) := by decide +kernel
theorem dX12_reads_185 : decode cX12_reads 185 = .ok (.istore 4, 2) := by decide +kernel
theorem dX12_reads_187 : decode cX12_reads 187 = .ok (.goto 11, 3) := by decide +kernel
theorem dX12_reads_190 : decode cX12_reads 190 = .ok (.bipush 10, 2) := by decide +kernel
theorem dX12_reads_192 : decode cX12_reads 192 = .ok (.iload 5, 2) := by decide +kernel
theorem dX12_reads_194 : decode cX12_reads 194 = .ok (.imul, 1) := by decide +kernel
theorem dX12_reads_195 : decode cX12_reads 195 = .ok (.iconst 1, 1) := by decide +kernel
theorem dX12_reads_196 : decode cX12_reads 196 = .ok (.iadd, 1) := by decide +kernel
theorem dX12_reads_197 : decode cX12_reads 197 = .ok (.ireturn, 1) := by decide +kernel
theorem dX12_reads_198 : decode cX12_reads 198 = .ok (.iinc 5 1, 3) := by decide +kernel
theorem dX12_reads_201 : decode cX12_reads 201 = .ok (.goto 234, 3) := by decide +kernel
theorem dX12_reads_204 : decode cX12_reads 204 = .ok (.iload 6, 2) := by decide +kernel
theorem dX12_reads_206 : decode cX12_reads 206 = .ok (.i2l, 1) := by decide +kernel
theorem dX12_reads_207 : decode cX12_reads 207 = .ok (.ldc2_w 126, 3) := by decide +kernel
theorem dX12_reads_210 : decode cX12_reads 210 = .ok (.ldc2_w 128, 3) := by decide +kernel
theorem dX12_reads_213 : decode cX12_reads 213 = .ok (.invokestatic 79, 3) := by decide +kernel
theorem dX12_reads_216 : decode cX12_reads 216 = .ok (.ifCond .eq 105, 3) := by decide +kernel
theorem dX12_reads_219 : decode cX12_reads 219 = .ok (.iload 5, 2) := by decide +kernel
theorem dX12_reads_221 : decode cX12_reads 221 = .ok (.istore 7, 2) := by decide +kernel
theorem dX12_reads_223 : decode cX12_reads 223 = .ok (.iconst 0, 1) := by decide +kernel
theorem dX12_reads_224 : decode cX12_reads 224 = .ok (.istore 8, 2) := by decide +kernel
theorem dX12_reads_226 : decode cX12_reads 226 = .ok (.iload 5, 2) := by decide +kernel
theorem dX12_reads_228 : decode cX12_reads 228 = .ok (.iload_n 2, 1) := by decide +kernel
theorem dX12_reads_229 : decode cX12_reads 229 = .ok (.if_icmp .ge 73, 3) := by decide +kernel
theorem dX12_reads_232 : decode cX12_reads 232 = .ok (.aload_n 0, 1) := by decide +kernel
theorem dX12_reads_233 : decode cX12_reads 233 = .ok (.getfield 7, 3) := by decide +kernel
theorem dX12_reads_236 : decode cX12_reads 236 = .ok (.iload_n 1, 1) := by decide +kernel
theorem dX12_reads_237 : decode cX12_reads 237 = .ok (.iconst 1, 1) := by decide +kernel
theorem dX12_reads_238 : decode cX12_reads 238 = .ok (.iadd, 1) := by decide +kernel
theorem dX12_reads_239 : decode cX12_reads 239 = .ok (.iload 5, 2) := by decide +kernel
theorem dX12_reads_241 : decode cX12_reads 241 = .ok (.iadd, 1) := by decide +kernel
theorem dX12_reads_242 : decode cX12_reads 242 = .ok (.iaload, 1) := by decide +kernel
theorem dX12_reads_243 : decode cX12_reads 243 = .ok (.i2l, 1) := by decide +kernel
theorem dX12_reads_244 : decode cX12_reads 244 = .ok (.ldc2_w 126, 3) := by decide +kernel
theorem dX12_reads_247 : decode cX12_reads 247 = .ok (.ldc2_w 128, 3) := by decide +kernel
theorem dX12_reads_250 : decode cX12_reads 250 = .ok (.invokestatic 79, 3) := by decide +kernel
theorem dX12_reads_253 : decode cX12_reads 253 = .ok (.ifCond .eq 49, 3) := by decide +kernel
theorem dX12_reads_256 : decode cX12_reads 256 = .ok (.iload 5, 2) := by decide +kernel
theorem dX12_reads_258 : decode cX12_reads 258 = .ok (.iload 7, 2) := by decide +kernel
theorem dX12_reads_260 : decode cX12_reads 260 = .ok (.isub, 1) := by decide +kernel
theorem dX12_reads_261 : decode cX12_reads 261 = .ok (.bipush 6, 2) := by decide +kernel
theorem dX12_reads_263 : decode cX12_reads 263 = .ok (.if_icmp .ne 11, 3) := by decide +kernel
theorem dX12_reads_266 : decode cX12_reads 266 = .ok (.bipush 10, 2) := by decide +kernel
theorem dX12_reads_268 : decode cX12_reads 268 = .ok (.iload 7, 2) := by decide +kernel
theorem dX12_reads_270 : decode cX12_reads 270 = .ok (.imul, 1) := by decide +kernel
theorem dX12_reads_271 : decode cX12_reads 271 = .ok (.iconst 2, 1) := by decide +kernel
theorem dX12_reads_272 : decode cX12_reads 272 = .ok (.iadd, 1) := by decide +kernel
theorem dX12_reads_273 : decode cX12_reads 273 = .ok (.ireturn, 1) := by decide +kernel
theorem dX12_reads_274 : decode cX12_reads 274 = .ok (.bipush 10, 2) := by decide +kernel
theorem dX12_reads_276 : decode cX12_reads 276 = .ok (.iload 8, 2) := by decide +kernel
theorem dX12_reads_278 : decode cX12_reads 278 = .ok (.imul, 1) := by decide +kernel
theorem dX12_reads_279 : decode cX12_reads 279 = .ok (.aload_n 0, 1) := by decide +kernel
theorem dX12_reads_280 : decode cX12_reads 280 = .ok (.getfield 7, 3) := by decide +kernel
theorem dX12_reads_283 : decode cX12_reads 283 = .ok (.iload_n 1, 1) := by decide +kernel
theorem dX12_reads_284 : decode cX12_reads 284 = .ok (.iconst 1, 1) := by decide +kernel
theorem dX12_reads_285 : decode cX12_reads 285 = .ok (.iadd, 1) := by decide +kernel
theorem dX12_reads_286 : decode cX12_reads 286 = .ok (.iload 5, 2) := by decide +kernel
theorem dX12_reads_288 : decode cX12_reads 288 = .ok (.iadd, 1) := by decide +kernel
theorem dX12_reads_289 : decode cX12_reads 289 = .ok (.iaload, 1) := by decide +kernel
theorem dX12_reads_290 : decode cX12_reads 290 = .ok (.iadd, 1) := by decide +kernel
theorem dX12_reads_291 : decode cX12_reads 291 = .ok (.bipush 48, 2) := by decide +kernel
theorem dX12_reads_293 : decode cX12_reads 293 = .ok (.isub, 1) := by decide +kernel
theorem dX12_reads_294 : decode cX12_reads 294 = .ok (.istore 8, 2) := by decide +kernel
theorem dX12_reads_296 : decode cX12_reads 296 = .ok (.iinc 5 1, 3) := by decide +kernel
theorem dX12_reads_299 : decode cX12_reads 299 = .ok (.goto (-73), 3) := by decide +kernel
theorem dX12_reads_302 : decode cX12_reads 302 = .ok (.aload_n 0, 1) := by decide +kernel
theorem dX12_reads_303 : decode cX12_reads 303 = .ok (.iconst 0, 1) := by decide +kernel
theorem dX12_reads_304 : decode cX12_reads 304 = .ok (.iload 8, 2) := by decide +kernel
theorem dX12_reads_306 : decode cX12_reads 306 = .ok (.invokevirtual 104, 3) := by decide +kernel
theorem dX12_reads_309 : decode cX12_reads 309 = .ok (.aload_n 0, 1) := by decide +kernel
theorem dX12_reads_310 : decode cX12_reads 310 = .ok (.bipush 6, 2) := by decide +kernel
theorem dX12_reads_312 : decode cX12_reads 312 = .ok (.invokevirtual 108, 3) := by decide +kernel
theorem dX12_reads_315 : decode cX12_reads 315 = .ok (.iconst 1, 1) := by decide +kernel
theorem dX12_reads_316 : decode cX12_reads 316 = .ok (.istore 4, 2) := by decide +kernel
theorem dX12_reads_318 : decode cX12_reads 318 = .ok (.goto 117, 3) := by decide +kernel
theorem dX12_reads_321 : decode cX12_reads 321 = .ok (.iload 6, 2) := by decide +kernel
theorem dX12_reads_323 : decode cX12_reads 323 = .ok (.invokestatic 130, 3) := by decide +kernel
theorem dX12_reads_326 : decode cX12_reads 326 = .ok (.iconst (-1), 1) := by decide +kernel
theorem dX12_reads_327 : decode cX12_reads 327 = .ok (.if_icmp .eq 28, 3) := by decide +kernel
theorem dX12_reads_330 : decode cX12_reads 330 = .ok (.aload_n 0, 1) := by decide +kernel
theorem dX12_reads_331 : decode cX12_reads 331 = .ok (.iconst 1, 1) := by decide +kernel
theorem dX12_reads_332 : decode cX12_reads 332 = .ok (.iload 6, 2) := by decide +kernel
theorem dX12_reads_334 : decode cX12_reads 334 = .ok (.invokestatic 130, 3) := by decide +kernel
theorem dX12_reads_337 : decode cX12_reads 337 = .ok (.invokevirtual 104, 3) := by decide +kernel
theorem dX12_reads_340 : decode cX12_reads 340 = .ok (.aload_n 0, 1) := by decide +kernel
theorem dX12_reads_341 : decode cX12_reads 341 = .ok (.bipush 6, 2) := by decide +kernel
theorem dX12_reads_343 : decode cX12_reads 343 = .ok (.invokevirtual 108, 3) := by decide +kernel
theorem dX12_reads_346 : decode cX12_reads 346 = .ok (.iconst 1, 1) := by decide +kernel
theorem dX12_reads_347 : decode cX12_reads 347 = .ok (.istore 4, 2) := by decide +kernel
theorem dX12_reads_349 : decode cX12_reads 349 = .ok (.iinc 5 1, 3) := by decide +kernel
theorem dX12_reads_352 : decode cX12_reads 352 = .ok (.goto 83, 3) := by decide +kernel
theorem dX12_reads_355 : decode cX12_reads 355 = .ok (.iload 6, 2) := by decide +kernel
theorem dX12_reads_357 : decode cX12_reads 357 = .ok (.bipush 40, 2) := by decide +kernel
theorem dX12_reads_359 : decode cX12_reads 359 = .ok (.if_icmp .ne 32, 3) := by decide +kernel
theorem dX12_reads_362 : decode cX12_reads 362 = .ok (.iload_n 3, 1) := by decide +kernel
theorem dX12_reads_363 : decode cX12_reads 363 = .ok (.bipush 8, 2) := by decide +kernel
theorem dX12_reads_365 : decode cX12_reads 365 = .ok (.if_icmp .ne 11, 3) := by decide +kernel
theorem dX12_reads_368 : decode cX12_reads 368 = .ok (.bipush 10, 2) := by decide +kernel
theorem dX12_reads_370 : decode cX12_reads 370 = .ok (.iload 5, 2) := by decide +kernel
theorem dX12_reads_372 : decode cX12_reads 372 = .ok (.imul, 1) := by decide +kernel
theorem dX12_reads_373 : decode cX12_reads 373 = .ok (.iconst 3, 1) := by decide +kernel
theorem dX12_reads_374 : decode cX12_reads 374 = .ok (.iadd, 1) := by decide +kernel
theorem dX12_reads_375 : decode cX12_reads 375 = .ok (.ireturn, 1) := by decide +kernel
theorem dX12_reads_376 : decode cX12_reads 376 = .ok (.iinc 3 1, 3) := by decide +kernel
theorem dX12_reads_379 : decode cX12_reads 379 = .ok (.aload_n 0, 1) := by decide +kernel
theorem dX12_reads_380 : decode cX12_reads 380 = .ok (.bipush 13, 2) := by decide +kernel
theorem dX12_reads_382 : decode cX12_reads 382 = .ok (.invokevirtual 112, 3) := by decide +kernel
theorem dX12_reads_385 : decode cX12_reads 385 = .ok (.iinc 5 1, 3) := by decide +kernel
theorem dX12_reads_388 : decode cX12_reads 388 = .ok (.goto 47, 3) := by decide +kernel
theorem dX12_reads_391 : decode cX12_reads 391 = .ok (.iload 6, 2) := by decide +kernel
theorem dX12_reads_393 : decode cX12_reads 393 = .ok (.bipush 45, 2) := by decide +kernel
theorem dX12_reads_395 : decode cX12_reads 395 = .ok (.if_icmp .eq 10, 3) := by decide +kernel
theorem dX12_reads_398 : decode cX12_reads 398 = .ok (.iload 6, 2) := by decide +kernel
theorem dX12_reads_400 : decode cX12_reads 400 = .ok (.bipush 33, 2) := by decide +kernel
theorem dX12_reads_402 : decode cX12_reads 402 = .ok (.if_icmp .ne 25, 3) := by decide +kernel
theorem dX12_reads_405 : decode cX12_reads 405 = .ok (.aload_n 0, 1) := by decide +kernel
theorem dX12_reads_406 : decode cX12_reads 406 = .ok (.iload 6, 2) := by decide +kernel
theorem dX12_reads_408 : decode cX12_reads 408 = .ok (.bipush 45, 2) := by decide +kernel
theorem dX12_reads_410 : decode cX12_reads 410 = .ok (.if_icmp .ne 7, 3) := by decide +kernel
theorem dX12_reads_413 : decode cX12_reads 413 = .ok (.iconst 3, 1) := by decide +kernel
theorem dX12_reads_414 : decode cX12_reads 414 = .ok (.goto 4, 3) := by decide +kernel
theorem dX12_reads_417 : decode cX12_reads 417 = .ok (.iconst 2, 1) := by decide +kernel
theorem dX12_reads_418 : decode cX12_reads 418 = .ok (.invokevirtual 112, 3) := by decide +kernel
theorem dX12_reads_421 : decode cX12_reads 421 = .ok (.iinc 5 1, 3) := by decide +kernel
theorem dX12_reads_424 : decode cX12_reads 424 = .ok (.goto 11, 3) := by decide +kernel
theorem dX12_reads_427 : decode cX12_reads 427 = .ok (.bipush 10, 2) := by decide +kernel
theorem dX12_reads_429 : decode cX12_reads 429 = .ok (.iload 5, 2) := by decide +kernel
theorem dX12_reads_431 : decode cX12_reads 431 = .ok (.imul, 1) := by decide +kernel
theorem dX12_reads_432 : decode cX12_reads 432 = .ok (.iconst 1, 1) := by decide +kernel
theorem dX12_reads_433 : decode cX12_reads 433 = .ok (.iadd, 1) := by decide +kernel
theorem dX12_reads_434 : decode cX12_reads 434 = .ok (.ireturn, 1) := by decide +kernel
theorem dX12_reads_435 : decode cX12_reads 435 = .ok (.goto (-410), 3) := by decide +kernel
theorem dX12_reads_438 : decode cX12_reads 438 = .ok (.iload 4, 2) := by decide +kernel
theorem dX12_reads_440 : decode cX12_reads 440 = .ok (.ifCond .eq 15, 3) := by decide +kernel
theorem dX12_reads_443 : decode cX12_reads 443 = .ok (.aload_n 0, 1) := by decide +kernel
theorem dX12_reads_444 : decode cX12_reads 444 = .ok (.invokevirtual 115, 3) := by decide +kernel
theorem dX12_reads_447 : decode cX12_reads 447 = .ok (.iconst (-1), 1) := by decide +kernel
theorem dX12_reads_448 : decode cX12_reads 448 = .ok (.if_icmp .ne 7, 3) := by decide +kernel
theorem dX12_reads_451 : decode cX12_reads 451 = .ok (.iconst (-1), 1) := by decide +kernel
theorem dX12_reads_452 : decode cX12_reads 452 = .ok (.goto 9, 3) := by decide +kernel
theorem dX12_reads_455 : decode cX12_reads 455 = .ok (.bipush 10, 2) := by decide +kernel
theorem dX12_reads_457 : decode cX12_reads 457 = .ok (.iload_n 2, 1) := by decide +kernel
theorem dX12_reads_458 : decode cX12_reads 458 = .ok (.imul, 1) := by decide +kernel
theorem dX12_reads_459 : decode cX12_reads 459 = .ok (.iconst 1, 1) := by decide +kernel
theorem dX12_reads_460 : decode cX12_reads 460 = .ok (.iadd, 1) := by decide +kernel
theorem dX12_reads_461 : decode cX12_reads 461 = .ok (.ireturn, 1) := by decide +kernel
theorem dX12_twoOf_0 : decode cX12_twoOf 0 = .ok (.iload_n 0, 1) := by decide +kernel
theorem dX12_twoOf_1 : decode cX12_twoOf 1 = .ok (.tableswitch 127 4 11 #[47, 51, 65, 69, 73, 85, 97, 109], 47) := by decide +kernel
theorem dX12_twoOf_48 : decode cX12_twoOf 48 = .ok (.lload_n 1, 1) := by decide +kernel
theorem dX12_twoOf_49 : decode cX12_twoOf 49 = .ok (.lload_n 3, 1) := by decide +kernel
theorem dX12_twoOf_50 : decode cX12_twoOf 50 = .ok (.lmul, 1) := by decide +kernel
theorem dX12_twoOf_51 : decode cX12_twoOf 51 = .ok (.lreturn, 1) := by decide +kernel
theorem dX12_twoOf_52 : decode cX12_twoOf 52 = .ok (.lload_n 3, 1) := by decide +kernel
theorem dX12_twoOf_53 : decode cX12_twoOf 53 = .ok (.lconst 0, 1) := by decide +kernel
theorem dX12_twoOf_54 : decode cX12_twoOf 54 = .ok (.lcmp, 1) := by decide +kernel
theorem dX12_twoOf_55 : decode cX12_twoOf 55 = .ok (.ifCond .ne 7, 3) := by decide +kernel
theorem dX12_twoOf_58 : decode cX12_twoOf 58 = .ok (.lconst 0, 1) := by decide +kernel
theorem dX12_twoOf_59 : decode cX12_twoOf 59 = .ok (.goto 6, 3) := by decide +kernel
theorem dX12_twoOf_62 : decode cX12_twoOf 62 = .ok (.lload_n 1, 1) := by decide +kernel
theorem dX12_twoOf_63 : decode cX12_twoOf 63 = .ok (.lload_n 3, 1) := by decide +kernel
theorem dX12_twoOf_64 : decode cX12_twoOf 64 = .ok (.ldiv, 1) := by decide +kernel
theorem dX12_twoOf_65 : decode cX12_twoOf 65 = .ok (.lreturn, 1) := by decide +kernel
theorem dX12_twoOf_66 : decode cX12_twoOf 66 = .ok (.lload_n 1, 1) := by decide +kernel
theorem dX12_twoOf_67 : decode cX12_twoOf 67 = .ok (.lload_n 3, 1) := by decide +kernel
theorem dX12_twoOf_68 : decode cX12_twoOf 68 = .ok (.ladd, 1) := by decide +kernel
theorem dX12_twoOf_69 : decode cX12_twoOf 69 = .ok (.lreturn, 1) := by decide +kernel
theorem dX12_twoOf_70 : decode cX12_twoOf 70 = .ok (.lload_n 1, 1) := by decide +kernel
theorem dX12_twoOf_71 : decode cX12_twoOf 71 = .ok (.lload_n 3, 1) := by decide +kernel
theorem dX12_twoOf_72 : decode cX12_twoOf 72 = .ok (.lsub, 1) := by decide +kernel
theorem dX12_twoOf_73 : decode cX12_twoOf 73 = .ok (.lreturn, 1) := by decide +kernel
theorem dX12_twoOf_74 : decode cX12_twoOf 74 = .ok (.lload_n 1, 1) := by decide +kernel
theorem dX12_twoOf_75 : decode cX12_twoOf 75 = .ok (.lload_n 3, 1) := by decide +kernel
theorem dX12_twoOf_76 : decode cX12_twoOf 76 = .ok (.lcmp, 1) := by decide +kernel
theorem dX12_twoOf_77 : decode cX12_twoOf 77 = .ok (.ifCond .ge 7, 3) := by decide +kernel
theorem dX12_twoOf_80 : decode cX12_twoOf 80 = .ok (.lconst 1, 1) := by decide +kernel
theorem dX12_twoOf_81 : decode cX12_twoOf 81 = .ok (.goto 4, 3) := by decide +kernel
theorem dX12_twoOf_84 : decode cX12_twoOf 84 = .ok (.lconst 0, 1) := by decide +kernel
theorem dX12_twoOf_85 : decode cX12_twoOf 85 = .ok (.lreturn, 1) := by decide +kernel
theorem dX12_twoOf_86 : decode cX12_twoOf 86 = .ok (.lload_n 1, 1) := by decide +kernel
theorem dX12_twoOf_87 : decode cX12_twoOf 87 = .ok (.lload_n 3, 1) := by decide +kernel
theorem dX12_twoOf_88 : decode cX12_twoOf 88 = .ok (.lcmp, 1) := by decide +kernel
theorem dX12_twoOf_89 : decode cX12_twoOf 89 = .ok (.ifCond .le 7, 3) := by decide +kernel
theorem dX12_twoOf_92 : decode cX12_twoOf 92 = .ok (.lconst 1, 1) := by decide +kernel
theorem dX12_twoOf_93 : decode cX12_twoOf 93 = .ok (.goto 4, 3) := by decide +kernel
theorem dX12_twoOf_96 : decode cX12_twoOf 96 = .ok (.lconst 0, 1) := by decide +kernel
theorem dX12_twoOf_97 : decode cX12_twoOf 97 = .ok (.lreturn, 1) := by decide +kernel
theorem dX12_twoOf_98 : decode cX12_twoOf 98 = .ok (.lload_n 1, 1) := by decide +kernel
theorem dX12_twoOf_99 : decode cX12_twoOf 99 = .ok (.lload_n 3, 1) := by decide +kernel
theorem dX12_twoOf_100 : decode cX12_twoOf 100 = .ok (.lcmp, 1) := by decide +kernel
theorem dX12_twoOf_101 : decode cX12_twoOf 101 = .ok (.ifCond .ne 7, 3) := by decide +kernel
theorem dX12_twoOf_104 : decode cX12_twoOf 104 = .ok (.lconst 1, 1) := by decide +kernel
theorem dX12_twoOf_105 : decode cX12_twoOf 105 = .ok (.goto 4, 3) := by decide +kernel
theorem dX12_twoOf_108 : decode cX12_twoOf 108 = .ok (.lconst 0, 1) := by decide +kernel
theorem dX12_twoOf_109 : decode cX12_twoOf 109 = .ok (.lreturn, 1) := by decide +kernel
theorem dX12_twoOf_110 : decode cX12_twoOf 110 = .ok (.lload_n 1, 1) := by decide +kernel
theorem dX12_twoOf_111 : decode cX12_twoOf 111 = .ok (.lconst 0, 1) := by decide +kernel
theorem dX12_twoOf_112 : decode cX12_twoOf 112 = .ok (.lcmp, 1) := by decide +kernel
theorem dX12_twoOf_113 : decode cX12_twoOf 113 = .ok (.ifCond .eq 13, 3) := by decide +kernel
theorem dX12_twoOf_116 : decode cX12_twoOf 116 = .ok (.lload_n 3, 1) := by decide +kernel
theorem dX12_twoOf_117 : decode cX12_twoOf 117 = .ok (.lconst 0, 1) := by decide +kernel
theorem dX12_twoOf_118 : decode cX12_twoOf 118 = .ok (.lcmp, 1) := by decide +kernel
theorem dX12_twoOf_119 : decode cX12_twoOf 119 = .ok (.ifCond .eq 7, 3) := by decide +kernel
theorem dX12_twoOf_122 : decode cX12_twoOf 122 = .ok (.lconst 1, 1) := by decide +kernel
theorem dX12_twoOf_123 : decode cX12_twoOf 123 = .ok (.goto 4, 3) := by decide +kernel
theorem dX12_twoOf_126 : decode cX12_twoOf 126 = .ok (.lconst 0, 1) := by decide +kernel
theorem dX12_twoOf_127 : decode cX12_twoOf 127 = .ok (.lreturn, 1) := by decide +kernel
theorem dX12_twoOf_128 : decode cX12_twoOf 128 = .ok (.lload_n 1, 1) := by decide +kernel
theorem dX12_twoOf_129 : decode cX12_twoOf 129 = .ok (.lconst 0, 1) := by decide +kernel
theorem dX12_twoOf_130 : decode cX12_twoOf 130 = .ok (.lcmp, 1) := by decide +kernel
theorem dX12_twoOf_131 : decode cX12_twoOf 131 = .ok (.ifCond .ne 9, 3) := by decide +kernel
theorem dX12_twoOf_134 : decode cX12_twoOf 134 = .ok (.lload_n 3, 1) := by decide +kernel
theorem dX12_twoOf_135 : decode cX12_twoOf 135 = .ok (.lconst 0, 1) := by decide +kernel
theorem dX12_twoOf_136 : decode cX12_twoOf 136 = .ok (.lcmp, 1) := by decide +kernel
theorem dX12_twoOf_137 : decode cX12_twoOf 137 = .ok (.ifCond .eq 7, 3) := by decide +kernel
theorem dX12_twoOf_140 : decode cX12_twoOf 140 = .ok (.lconst 1, 1) := by decide +kernel
theorem dX12_twoOf_141 : decode cX12_twoOf 141 = .ok (.goto 4, 3) := by decide +kernel
theorem dX12_twoOf_144 : decode cX12_twoOf 144 = .ok (.lconst 0, 1) := by decide +kernel
theorem dX12_twoOf_145 : decode cX12_twoOf 145 = .ok (.lreturn, 1) := by decide +kernel
theorem dX12_tellsOf_0 : decode cX12_tellsOf 0 = .ok (.iconst 0, 1) := by decide +kernel
theorem dX12_tellsOf_1 : decode cX12_tellsOf 1 = .ok (.istore_n 1, 1) := by decide +kernel
theorem dX12_tellsOf_2 : decode cX12_tellsOf 2 = .ok (.iconst 0, 1) := by decide +kernel
theorem dX12_tellsOf_3 : decode cX12_tellsOf 3 = .ok (.istore_n 2, 1) := by decide +kernel
theorem dX12_tellsOf_4 : decode cX12_tellsOf 4 = .ok (.iload_n 2, 1) := by decide +kernel
theorem dX12_tellsOf_5 : decode cX12_tellsOf 5 = .ok (.aload_n 0, 1) := by decide +kernel
theorem dX12_tellsOf_6 : decode cX12_tellsOf 6 = .ok (.getfield 94, 3) := by decide +kernel
theorem dX12_tellsOf_9 : decode cX12_tellsOf 9 = .ok (.if_icmp .ge 200, 3) := by decide +kernel
theorem dX12_tellsOf_12 : decode cX12_tellsOf 12 = .ok (.aload_n 0, 1) := by decide +kernel
theorem dX12_tellsOf_13 : decode cX12_tellsOf 13 = .ok (.getfield 20, 3) := by decide +kernel
theorem dX12_tellsOf_16 : decode cX12_tellsOf 16 = .ok (.iload_n 2, 1) := by decide +kernel
theorem dX12_tellsOf_17 : decode cX12_tellsOf 17 = .ok (.iaload, 1) := by decide +kernel
theorem dX12_tellsOf_18 : decode cX12_tellsOf 18 = .ok (.istore_n 3, 1) := by decide +kernel
theorem dX12_tellsOf_19 : decode cX12_tellsOf 19 = .ok (.iload_n 3, 1) := by decide +kernel
theorem dX12_tellsOf_20 : decode cX12_tellsOf 20 = .ok (.ifCond .eq 8, 3) := by decide +kernel
theorem dX12_tellsOf_23 : decode cX12_tellsOf 23 = .ok (.iload_n 3, 1) := by decide +kernel
theorem dX12_tellsOf_24 : decode cX12_tellsOf 24 = .ok (.iconst 1, 1) := by decide +kernel
theorem dX12_tellsOf_25 : decode cX12_tellsOf 25 = .ok (.if_icmp .ne 40, 3) := by decide +kernel
theorem dX12_tellsOf_28 : decode cX12_tellsOf 28 = .ok (.aload_n 0, 1) := by decide +kernel
theorem dX12_tellsOf_29 : decode cX12_tellsOf 29 = .ok (.getfield 29, 3) := by decide +kernel
theorem dX12_tellsOf_32 : decode cX12_tellsOf 32 = .ok (.iload_n 1, 1) := by decide +kernel
theorem dX12_tellsOf_33 : decode cX12_tellsOf 33 = .ok (.iload_n 3, 1) := by decide +kernel
theorem dX12_tellsOf_34 : decode cX12_tellsOf 34 = .ok (.ifCond .ne 13, 3) := by decide +kernel
theorem dX12_tellsOf_37 : decode cX12_tellsOf 37 = .ok (.aload_n 0, 1) := by decide +kernel
theorem dX12_tellsOf_38 : decode cX12_tellsOf 38 = .ok (.getfield 23, 3) := by decide +kernel
theorem dX12_tellsOf_41 : decode cX12_tellsOf 41 = .ok (.iload_n 2, 1) := by decide +kernel
theorem dX12_tellsOf_42 : decode cX12_tellsOf 42 = .ok (.iaload, 1) := by decide +kernel
theorem dX12_tellsOf_43 : decode cX12_tellsOf 43 = .ok (.i2l, 1) := by decide +kernel
theorem dX12_tellsOf_44 : decode cX12_tellsOf 44 = .ok (.goto 14, 3) := by decide +kernel
theorem dX12_tellsOf_47 : decode cX12_tellsOf 47 = .ok (.aload_n 0, 1) := by decide +kernel
theorem dX12_tellsOf_48 : decode cX12_tellsOf 48 = .ok (.getfield 33, 3) := by decide +kernel
theorem dX12_tellsOf_51 : decode cX12_tellsOf 51 = .ok (.aload_n 0, 1) := by decide +kernel
theorem dX12_tellsOf_52 : decode cX12_tellsOf 52 = .ok (.getfield 23, 3) := by decide +kernel
theorem dX12_tellsOf_55 : decode cX12_tellsOf 55 = .ok (.iload_n 2, 1) := by decide +kernel
theorem dX12_tellsOf_56 : decode cX12_tellsOf 56 = .ok (.iaload, 1) := by decide +kernel
theorem dX12_tellsOf_57 : decode cX12_tellsOf 57 = .ok (.laload, 1) := by decide +kernel
theorem dX12_tellsOf_58 : decode cX12_tellsOf 58 = .ok (.lastore, 1) := by decide +kernel
theorem dX12_tellsOf_59 : decode cX12_tellsOf 59 = .ok (.iinc 1 1, 3) := by decide +kernel
theorem dX12_tellsOf_62 : decode cX12_tellsOf 62 = .ok (.goto 141, 3) := by decide +kernel
theorem dX12_tellsOf_65 : decode cX12_tellsOf 65 = .ok (.iload_n 3, 1) := by decide +kernel
theorem dX12_tellsOf_66 : decode cX12_tellsOf 66 = .ok (.iconst 3, 1) := by decide +kernel
theorem dX12_tellsOf_67 : decode cX12_tellsOf 67 = .ok (.if_icmp .ne 23, 3) := by decide +kernel
theorem dX12_tellsOf_70 : decode cX12_tellsOf 70 = .ok (.aload_n 0, 1) := by decide +kernel
theorem dX12_tellsOf_71 : decode cX12_tellsOf 71 = .ok (.getfield 29, 3) := by decide +kernel
theorem dX12_tellsOf_74 : decode cX12_tellsOf 74 = .ok (.iload_n 1, 1) := by decide +kernel
theorem dX12_tellsOf_75 : decode cX12_tellsOf 75 = .ok (.iconst 1, 1) := by decide +kernel
theorem dX12_tellsOf_76 : decode cX12_tellsOf 76 = .ok (.isub, 1) := by decide +kernel
theorem dX12_tellsOf_77 : decode cX12_tellsOf 77 = .ok (.aload_n 0, 1) := by decide +kernel
theorem dX12_tellsOf_78 : decode cX12_tellsOf 78 = .ok (.getfield 29, 3) := by decide +kernel
theorem dX12_tellsOf_81 : decode cX12_tellsOf 81 = .ok (.iload_n 1, 1) := by decide +kernel
theorem dX12_tellsOf_82 : decode cX12_tellsOf 82 = .ok (.iconst 1, 1) := by decide +kernel
theorem dX12_tellsOf_83 : decode cX12_tellsOf 83 = .ok (.isub, 1) := by decide +kernel
theorem dX12_tellsOf_84 : decode cX12_tellsOf 84 = .ok (.laload, 1) := by decide +kernel
theorem dX12_tellsOf_85 : decode cX12_tellsOf 85 = .ok (.lneg, 1) := by decide +kernel
theorem dX12_tellsOf_86 : decode cX12_tellsOf 86 = .ok (.lastore, 1) := by decide +kernel
theorem dX12_tellsOf_87 : decode cX12_tellsOf 87 = .ok (.goto 116, 3) := by decide +kernel
theorem dX12_tellsOf_90 : decode cX12_tellsOf 90 = .ok (.iload_n 3, 1) := by decide +kernel
theorem dX12_tellsOf_91 : decode cX12_tellsOf 91 = .ok (.iconst 2, 1) := by decide +kernel
theorem dX12_tellsOf_92 : decode cX12_tellsOf 92 = .ok (.if_icmp .ne 32, 3) := by decide +kernel
theorem dX12_tellsOf_95 : decode cX12_tellsOf 95 = .ok (.aload_n 0, 1) := by decide +kernel
theorem dX12_tellsOf_96 : decode cX12_tellsOf 96 = .ok (.getfield 29, 3) := by decide +kernel
theorem dX12_tellsOf_99 : decode cX12_tellsOf 99 = .ok (.iload_n 1, 1) := by decide +kernel
theorem dX12_tellsOf_100 : decode cX12_tellsOf 100 = .ok (.iconst 1, 1) := by decide +kernel
theorem dX12_tellsOf_101 : decode cX12_tellsOf 101 = .ok (.isub, 1) := by decide +kernel
theorem dX12_tellsOf_102 : decode cX12_tellsOf 102 = .ok (.aload_n 0, 1) := by decide +kernel
theorem dX12_tellsOf_103 : decode cX12_tellsOf 103 = .ok (.getfield 29, 3) := by decide +kernel
theorem dX12_tellsOf_106 : decode cX12_tellsOf 106 = .ok (.iload_n 1, 1) := by decide +kernel
theorem dX12_tellsOf_107 : decode cX12_tellsOf 107 = .ok (.iconst 1, 1) := by decide +kernel
theorem dX12_tellsOf_108 : decode cX12_tellsOf 108 = .ok (.isub, 1) := by decide +kernel
theorem dX12_tellsOf_109 : decode cX12_tellsOf 109 = .ok (.laload, 1) := by decide +kernel
theorem dX12_tellsOf_110 : decode cX12_tellsOf 110 = .ok (.lconst 0, 1) := by decide +kernel
theorem dX12_tellsOf_111 : decode cX12_tellsOf 111 = .ok (.lcmp, 1) := by decide +kernel
theorem dX12_tellsOf_112 : decode cX12_tellsOf 112 = .ok (.ifCond .ne 7, 3) := by decide +kernel
theorem dX12_tellsOf_115 : decode cX12_tellsOf 115 = .ok (.lconst 1, 1) := by decide +kernel
theorem dX12_tellsOf_116 : decode cX12_tellsOf 116 = .ok (.goto 4, 3) := by decide +kernel
theorem dX12_tellsOf_119 : decode cX12_tellsOf 119 = .ok (.lconst 0, 1) := by decide +kernel
theorem dX12_tellsOf_120 : decode cX12_tellsOf 120 = .ok (.lastore, 1) := by decide +kernel
theorem dX12_tellsOf_121 : decode cX12_tellsOf 121 = .ok (.goto 82, 3) := by decide +kernel
theorem dX12_tellsOf_124 : decode cX12_tellsOf 124 = .ok (.iload_n 3, 1) := by decide +kernel
theorem dX12_tellsOf_125 : decode cX12_tellsOf 125 = .ok (.bipush 15, 2) := by decide +kernel
theorem dX12_tellsOf_127 : decode cX12_tellsOf 127 = .ok (.if_icmp .ne 47, 3) := by decide +kernel
theorem dX12_tellsOf_130 : decode cX12_tellsOf 130 = .ok (.iinc 1 (-2), 3) := by decide +kernel
theorem dX12_tellsOf_133 : decode cX12_tellsOf 133 = .ok (.aload_n 0, 1) := by decide +kernel
theorem dX12_tellsOf_134 : decode cX12_tellsOf 134 = .ok (.getfield 29, 3) := by decide +kernel
theorem dX12_tellsOf_137 : decode cX12_tellsOf 137 = .ok (.iload_n 1, 1) := by decide +kernel
theorem dX12_tellsOf_138 : decode cX12_tellsOf 138 = .ok (.iconst 1, 1) := by decide +kernel
theorem dX12_tellsOf_139 : decode cX12_tellsOf 139 = .ok (.isub, 1) := by decide +kernel
theorem dX12_tellsOf_140 : decode cX12_tellsOf 140 = .ok (.aload_n 0, 1) := by decide +kernel
theorem dX12_tellsOf_141 : decode cX12_tellsOf 141 = .ok (.getfield 29, 3) := by decide +kernel
theorem dX12_tellsOf_144 : decode cX12_tellsOf 144 = .ok (.iload_n 1, 1) := by decide +kernel
theorem dX12_tellsOf_145 : decode cX12_tellsOf 145 = .ok (.iconst 1, 1) := by decide +kernel
theorem dX12_tellsOf_146 : decode cX12_tellsOf 146 = .ok (.isub, 1) := by decide +kernel
theorem dX12_tellsOf_147 : decode cX12_tellsOf 147 = .ok (.laload, 1) := by decide +kernel
theorem dX12_tellsOf_148 : decode cX12_tellsOf 148 = .ok (.lconst 0, 1) := by decide +kernel
theorem dX12_tellsOf_149 : decode cX12_tellsOf 149 = .ok (.lcmp, 1) := by decide +kernel
theorem dX12_tellsOf_150 : decode cX12_tellsOf 150 = .ok (.ifCond .eq 12, 3) := by decide +kernel
theorem dX12_tellsOf_153 : decode cX12_tellsOf 153 = .ok (.aload_n 0, 1) := by decide +kernel
theorem dX12_tellsOf_154 : decode cX12_tellsOf 154 = .ok (.getfield 29, 3) := by decide +kernel
theorem dX12_tellsOf_157 : decode cX12_tellsOf 157 = .ok (.iload_n 1, 1) := by decide +kernel
theorem dX12_tellsOf_158 : decode cX12_tellsOf 158 = .ok (.laload, 1) := by decide +kernel
theorem dX12_tellsOf_159 : decode cX12_tellsOf 159 = .ok (.goto 11, 3) := by decide +kernel
theorem dX12_tellsOf_162 : decode cX12_tellsOf 162 = .ok (.aload_n 0, 1) := by decide +kernel
theorem dX12_tellsOf_163 : decode cX12_tellsOf 163 = .ok (.getfield 29, 3) := by decide +kernel
theorem dX12_tellsOf_166 : decode cX12_tellsOf 166 = .ok (.iload_n 1, 1) := by decide +kernel
theorem dX12_tellsOf_167 : decode cX12_tellsOf 167 = .ok (.iconst 1, 1) := by decide +kernel
theorem dX12_tellsOf_168 : decode cX12_tellsOf 168 = .ok (.iadd, 1) := by decide +kernel
theorem dX12_tellsOf_169 : decode cX12_tellsOf 169 = .ok (.laload, 1) := by decide +kernel
theorem dX12_tellsOf_170 : decode cX12_tellsOf 170 = .ok (.lastore, 1) := by decide +kernel
theorem dX12_tellsOf_171 : decode cX12_tellsOf 171 = .ok (.goto 32, 3) := by decide +kernel
theorem dX12_tellsOf_174 : decode cX12_tellsOf 174 = .ok (.iinc 1 (-1), 3) := by decide +kernel
theorem dX12_tellsOf_177 : decode cX12_tellsOf 177 = .ok (.aload_n 0, 1) := by decide +kernel
theorem dX12_tellsOf_178 : decode cX12_tellsOf 178 = .ok (.getfield 29, 3) := by decide +kernel
theorem dX12_tellsOf_181 : decode cX12_tellsOf 181 = .ok (.iload_n 1, 1) := by decide +kernel
theorem dX12_tellsOf_182 : decode cX12_tellsOf 182 = .ok (.iconst 1, 1) := by decide +kernel
theorem dX12_tellsOf_183 : decode cX12_tellsOf 183 = .ok (.isub, 1) := by decide +kernel
theorem dX12_tellsOf_184 : decode cX12_tellsOf 184 = .ok (.iload_n 3, 1) := by decide +kernel
theorem dX12_tellsOf_185 : decode cX12_tellsOf 185 = .ok (.aload_n 0, 1) := by decide +kernel
theorem dX12_tellsOf_186 : decode cX12_tellsOf 186 = .ok (.getfield 29, 3) := by decide +kernel
theorem dX12_tellsOf_189 : decode cX12_tellsOf 189 = .ok (.iload_n 1, 1) := by decide +kernel
theorem dX12_tellsOf_190 : decode cX12_tellsOf 190 = .ok (.iconst 1, 1) := by decide +kernel
theorem dX12_tellsOf_191 : decode cX12_tellsOf 191 = .ok (.isub, 1) := by decide +kernel
theorem dX12_tellsOf_192 : decode cX12_tellsOf 192 = .ok (.laload, 1) := by decide +kernel
theorem dX12_tellsOf_193 : decode cX12_tellsOf 193 = .ok (.aload_n 0, 1) := by decide +kernel
theorem dX12_tellsOf_194 : decode cX12_tellsOf 194 = .ok (.getfield 29, 3) := by decide +kernel
theorem dX12_tellsOf_197 : decode cX12_tellsOf 197 = .ok (.iload_n 1, 1) := by decide +kernel
theorem dX12_tellsOf_198 : decode cX12_tellsOf 198 = .ok (.laload, 1) := by decide +kernel
theorem dX12_tellsOf_199 : decode cX12_tellsOf 199 = .ok (.invokestatic 133, 3) := by decide +kernel
theorem dX12_tellsOf_202 : decode cX12_tellsOf 202 = .ok (.lastore, 1) := by decide +kernel
theorem dX12_tellsOf_203 : decode cX12_tellsOf 203 = .ok (.iinc 2 1, 3) := by decide +kernel
theorem dX12_tellsOf_206 : decode cX12_tellsOf 206 = .ok (.goto (-202), 3) := by decide +kernel
theorem dX12_tellsOf_209 : decode cX12_tellsOf 209 = .ok (.aload_n 0, 1) := by decide +kernel
theorem dX12_tellsOf_210 : decode cX12_tellsOf 210 = .ok (.getfield 29, 3) := by decide +kernel
theorem dX12_tellsOf_213 : decode cX12_tellsOf 213 = .ok (.iconst 0, 1) := by decide +kernel
theorem dX12_tellsOf_214 : decode cX12_tellsOf 214 = .ok (.laload, 1) := by decide +kernel
theorem dX12_tellsOf_215 : decode cX12_tellsOf 215 = .ok (.lreturn, 1) := by decide +kernel
theorem dX12_gives_0 : decode cX12_gives 0 = .ok (.aload_n 0, 1) := by decide +kernel
theorem dX12_gives_1 : decode cX12_gives 1 = .ok (.getfield 33, 3) := by decide +kernel
theorem dX12_gives_4 : decode cX12_gives 4 = .ok (.iconst 0, 1) := by decide +kernel
theorem dX12_gives_5 : decode cX12_gives 5 = .ok (.iload_n 1, 1) := by decide +kernel
theorem dX12_gives_6 : decode cX12_gives 6 = .ok (.i2l, 1) := by decide +kernel
theorem dX12_gives_7 : decode cX12_gives 7 = .ok (.lastore, 1) := by decide +kernel
theorem dX12_gives_8 : decode cX12_gives 8 = .ok (.aload_n 0, 1) := by decide +kernel
theorem dX12_gives_9 : decode cX12_gives 9 = .ok (.getfield 33, 3) := by decide +kernel
theorem dX12_gives_12 : decode cX12_gives 12 = .ok (.iconst 1, 1) := by decide +kernel
theorem dX12_gives_13 : decode cX12_gives 13 = .ok (.iload_n 2, 1) := by decide +kernel
theorem dX12_gives_14 : decode cX12_gives 14 = .ok (.i2l, 1) := by decide +kernel
theorem dX12_gives_15 : decode cX12_gives 15 = .ok (.lastore, 1) := by decide +kernel
theorem dX12_gives_16 : decode cX12_gives 16 = .ok (.aload_n 0, 1) := by decide +kernel
theorem dX12_gives_17 : decode cX12_gives 17 = .ok (.getfield 33, 3) := by decide +kernel
theorem dX12_gives_20 : decode cX12_gives 20 = .ok (.iconst 2, 1) := by decide +kernel
theorem dX12_gives_21 : decode cX12_gives 21 = .ok (.iload_n 3, 1) := by decide +kernel
theorem dX12_gives_22 : decode cX12_gives 22 = .ok (.i2l, 1) := by decide +kernel
theorem dX12_gives_23 : decode cX12_gives 23 = .ok (.lastore, 1) := by decide +kernel
theorem dX12_gives_24 : decode cX12_gives 24 = .ok (.aload_n 0, 1) := by decide +kernel
theorem dX12_gives_25 : decode cX12_gives 25 = .ok (.getfield 33, 3) := by decide +kernel
theorem dX12_gives_28 : decode cX12_gives 28 = .ok (.iconst 3, 1) := by decide +kernel
theorem dX12_gives_29 : decode cX12_gives 29 = .ok (.iload 4, 2) := by decide +kernel
theorem dX12_gives_31 : decode cX12_gives 31 = .ok (.i2l, 1) := by decide +kernel
theorem dX12_gives_32 : decode cX12_gives 32 = .ok (.lastore, 1) := by decide +kernel
theorem dX12_gives_33 : decode cX12_gives 33 = .ok (.aload_n 0, 1) := by decide +kernel
theorem dX12_gives_34 : decode cX12_gives 34 = .ok (.getfield 33, 3) := by decide +kernel
theorem dX12_gives_37 : decode cX12_gives 37 = .ok (.iconst 4, 1) := by decide +kernel
theorem dX12_gives_38 : decode cX12_gives 38 = .ok (.lload 5, 2) := by decide +kernel
theorem dX12_gives_40 : decode cX12_gives 40 = .ok (.lastore, 1) := by decide +kernel
theorem dX12_gives_41 : decode cX12_gives 41 = .ok (.return_, 1) := by decide +kernel
theorem dX12_isText_0 : decode cX12_isText 0 = .ok (.iload_n 0, 1) := by decide +kernel
theorem dX12_isText_1 : decode cX12_isText 1 = .ok (.i2l, 1) := by decide +kernel
theorem dX12_isText_2 : decode cX12_isText 2 = .ok (.lconst 0, 1) := by decide +kernel
theorem dX12_isText_3 : decode cX12_isText 3 = .ok (.ldc2_w 137, 3) := by decide +kernel
theorem dX12_isText_6 : decode cX12_isText 6 = .ok (.invokestatic 79, 3) := by decide +kernel
theorem dX12_isText_9 : decode cX12_isText 9 = .ok (.ireturn, 1) := by decide +kernel
theorem dX12_write_0 : decode cX12_write 0 = .ok (.iload_n 1, 1) := by decide +kernel
theorem dX12_write_1 : decode cX12_write 1 = .ok (.invokestatic 139, 3) := by decide +kernel
theorem dX12_write_4 : decode cX12_write 4 = .ok (.ifCond .eq 15, 3) := by decide +kernel
theorem dX12_write_7 : decode cX12_write 7 = .ok (.iload_n 2, 1) := by decide +kernel
theorem dX12_write_8 : decode cX12_write 8 = .ok (.i2l, 1) := by decide +kernel
theorem dX12_write_9 : decode cX12_write 9 = .ok (.lconst 0, 1) := by decide +kernel
theorem dX12_write_10 : decode cX12_write 10 = .ok (.ldc2_w 142, 3) := by decide +kernel
theorem dX12_write_13 : decode cX12_write 13 = .ok (.invokestatic 79, 3) := by decide +kernel
theorem dX12_write_16 : decode cX12_write 16 = .ok (.ifCond .ne 6, 3) := by decide +kernel
theorem dX12_write_19 : decode cX12_write 19 = .ok (.bipush (-2), 2) := by decide +kernel
theorem dX12_write_21 : decode cX12_write 21 = .ok (.ireturn, 1) := by decide +kernel
theorem dX12_write_22 : decode cX12_write 22 = .ok (.bipush 40, 2) := by decide +kernel
theorem dX12_write_24 : decode cX12_write 24 = .ok (.bipush 51, 2) := by decide +kernel
theorem dX12_write_26 : decode cX12_write 26 = .ok (.iload_n 1, 1) := by decide +kernel
theorem dX12_write_27 : decode cX12_write 27 = .ok (.imul, 1) := by decide +kernel
theorem dX12_write_28 : decode cX12_write 28 = .ok (.iadd, 1) := by decide +kernel
theorem dX12_write_29 : decode cX12_write 29 = .ok (.istore_n 3, 1) := by decide +kernel
theorem dX12_write_30 : decode cX12_write 30 = .ok (.aload_n 0, 1) := by decide +kernel
theorem dX12_write_31 : decode cX12_write 31 = .ok (.getfield 7, 3) := by decide +kernel
theorem dX12_write_34 : decode cX12_write 34 = .ok (.iload_n 3, 1) := by decide +kernel
theorem dX12_write_35 : decode cX12_write 35 = .ok (.iaload, 1) := by decide +kernel
theorem dX12_write_36 : decode cX12_write 36 = .ok (.bipush 50, 2) := by decide +kernel
theorem dX12_write_38 : decode cX12_write 38 = .ok (.if_icmp .ne 6, 3) := by decide +kernel
theorem dX12_write_41 : decode cX12_write 41 = .ok (.bipush (-4), 2) := by decide +kernel
theorem dX12_write_43 : decode cX12_write 43 = .ok (.ireturn, 1) := by decide +kernel
theorem dX12_write_44 : decode cX12_write 44 = .ok (.aload_n 0, 1) := by decide +kernel
theorem dX12_write_45 : decode cX12_write 45 = .ok (.getfield 7, 3) := by decide +kernel
theorem dX12_write_48 : decode cX12_write 48 = .ok (.iload_n 3, 1) := by decide +kernel
theorem dX12_write_49 : decode cX12_write 49 = .ok (.dup2, 1) := by decide +kernel
theorem dX12_write_50 : decode cX12_write 50 = .ok (.iaload, 1) := by decide +kernel
theorem dX12_write_51 : decode cX12_write 51 = .ok (.iconst 1, 1) := by decide +kernel
theorem dX12_write_52 : decode cX12_write 52 = .ok (.iadd, 1) := by decide +kernel
theorem dX12_write_53 : decode cX12_write 53 = .ok (.iastore, 1) := by decide +kernel
theorem dX12_write_54 : decode cX12_write 54 = .ok (.aload_n 0, 1) := by decide +kernel
theorem dX12_write_55 : decode cX12_write 55 = .ok (.getfield 7, 3) := by decide +kernel
theorem dX12_write_58 : decode cX12_write 58 = .ok (.iload_n 3, 1) := by decide +kernel
theorem dX12_write_59 : decode cX12_write 59 = .ok (.aload_n 0, 1) := by decide +kernel
theorem dX12_write_60 : decode cX12_write 60 = .ok (.getfield 7, 3) := by decide +kernel
theorem dX12_write_63 : decode cX12_write 63 = .ok (.iload_n 3, 1) := by decide +kernel
theorem dX12_write_64 : decode cX12_write 64 = .ok (.iaload, 1) := by decide +kernel
theorem dX12_write_65 : decode cX12_write 65 = .ok (.iadd, 1) := by decide +kernel
theorem dX12_write_66 : decode cX12_write 66 = .ok (.iload_n 2, 1) := by decide +kernel
theorem dX12_write_67 : decode cX12_write 67 = .ok (.iastore, 1) := by decide +kernel
theorem dX12_write_68 : decode cX12_write 68 = .ok (.aload_n 0, 1) := by decide +kernel
theorem dX12_write_69 : decode cX12_write 69 = .ok (.getfield 7, 3) := by decide +kernel
theorem dX12_write_72 : decode cX12_write 72 = .ok (.iload_n 3, 1) := by decide +kernel
theorem dX12_write_73 : decode cX12_write 73 = .ok (.iaload, 1) := by decide +kernel
theorem dX12_write_74 : decode cX12_write 74 = .ok (.ireturn, 1) := by decide +kernel
theorem dX12_erase_0 : decode cX12_erase 0 = .ok (.iload_n 1, 1) := by decide +kernel
theorem dX12_erase_1 : decode cX12_erase 1 = .ok (.invokestatic 139, 3) := by decide +kernel
theorem dX12_erase_4 : decode cX12_erase 4 = .ok (.ifCond .eq 18, 3) := by decide +kernel
theorem dX12_erase_7 : decode cX12_erase 7 = .ok (.aload_n 0, 1) := by decide +kernel
theorem dX12_erase_8 : decode cX12_erase 8 = .ok (.bipush 40, 2) := by decide +kernel
theorem dX12_erase_10 : decode cX12_erase 10 = .ok (.bipush 51, 2) := by decide +kernel
theorem dX12_erase_12 : decode cX12_erase 12 = .ok (.iload_n 1, 1) := by decide +kernel
theorem dX12_erase_13 : decode cX12_erase 13 = .ok (.imul, 1) := by decide +kernel
theorem dX12_erase_14 : decode cX12_erase 14 = .ok (.iadd, 1) := by decide +kernel
theorem dX12_erase_15 : decode cX12_erase 15 = .ok (.iconst 0, 1) := by decide +kernel
theorem dX12_erase_16 : decode cX12_erase 16 = .ok (.invokevirtual 144, 3) := by decide +kernel
theorem dX12_erase_19 : decode cX12_erase 19 = .ok (.goto 5, 3) := by decide +kernel
theorem dX12_erase_22 : decode cX12_erase 22 = .ok (.bipush (-2), 2) := by decide +kernel
theorem dX12_erase_24 : decode cX12_erase 24 = .ok (.ireturn, 1) := by decide +kernel
theorem dX12_fault_0 : decode cX12_fault 0 = .ok (.iload_n 1, 1) := by decide +kernel
theorem dX12_fault_1 : decode cX12_fault 1 = .ok (.invokestatic 139, 3) := by decide +kernel
theorem dX12_fault_4 : decode cX12_fault 4 = .ok (.ifCond .eq 17, 3) := by decide +kernel
theorem dX12_fault_7 : decode cX12_fault 7 = .ok (.aload_n 0, 1) := by decide +kernel
theorem dX12_fault_8 : decode cX12_fault 8 = .ok (.bipush 40, 2) := by decide +kernel
theorem dX12_fault_10 : decode cX12_fault 10 = .ok (.bipush 51, 2) := by decide +kernel
theorem dX12_fault_12 : decode cX12_fault 12 = .ok (.iload_n 1, 1) := by decide +kernel
theorem dX12_fault_13 : decode cX12_fault 13 = .ok (.imul, 1) := by decide +kernel
theorem dX12_fault_14 : decode cX12_fault 14 = .ok (.iadd, 1) := by decide +kernel
theorem dX12_fault_15 : decode cX12_fault 15 = .ok (.invokevirtual 148, 3) := by decide +kernel
theorem dX12_fault_18 : decode cX12_fault 18 = .ok (.goto 5, 3) := by decide +kernel
theorem dX12_fault_21 : decode cX12_fault 21 = .ok (.bipush (-2), 2) := by decide +kernel
theorem dX12_fault_23 : decode cX12_fault 23 = .ok (.ireturn, 1) := by decide +kernel
theorem dX12_tells_0 : decode cX12_tells 0 = .ok (.iload_n 1, 1) := by decide +kernel
theorem dX12_tells_1 : decode cX12_tells 1 = .ok (.invokestatic 139, 3) := by decide +kernel
theorem dX12_tells_4 : decode cX12_tells 4 = .ok (.ifCond .eq 44, 3) := by decide +kernel
theorem dX12_tells_7 : decode cX12_tells 7 = .ok (.iload_n 2, 1) := by decide +kernel
theorem dX12_tells_8 : decode cX12_tells 8 = .ok (.i2l, 1) := by decide +kernel
theorem dX12_tells_9 : decode cX12_tells 9 = .ok (.lconst 0, 1) := by decide +kernel
theorem dX12_tells_10 : decode cX12_tells 10 = .ok (.ldc2_w 151, 3) := by decide +kernel
theorem dX12_tells_13 : decode cX12_tells 13 = .ok (.invokestatic 79, 3) := by decide +kernel
theorem dX12_tells_16 : decode cX12_tells 16 = .ok (.ifCond .eq 32, 3) := by decide +kernel
theorem dX12_tells_19 : decode cX12_tells 19 = .ok (.iload_n 3, 1) := by decide +kernel
theorem dX12_tells_20 : decode cX12_tells 20 = .ok (.i2l, 1) := by decide +kernel
theorem dX12_tells_21 : decode cX12_tells 21 = .ok (.lconst 0, 1) := by decide +kernel
theorem dX12_tells_22 : decode cX12_tells 22 = .ok (.lconst 1, 1) := by decide +kernel
theorem dX12_tells_23 : decode cX12_tells 23 = .ok (.invokestatic 79, 3) := by decide +kernel
theorem dX12_tells_26 : decode cX12_tells 26 = .ok (.ifCond .eq 22, 3) := by decide +kernel
theorem dX12_tells_29 : decode cX12_tells 29 = .ok (.iload 4, 2) := by decide +kernel
theorem dX12_tells_31 : decode cX12_tells 31 = .ok (.i2l, 1) := by decide +kernel
theorem dX12_tells_32 : decode cX12_tells 32 = .ok (.lconst 0, 1) := by decide +kernel
theorem dX12_tells_33 : decode cX12_tells 33 = .ok (.lconst 1, 1) := by decide +kernel
theorem dX12_tells_34 : decode cX12_tells 34 = .ok (.invokestatic 79, 3) := by decide +kernel
theorem dX12_tells_37 : decode cX12_tells 37 = .ok (.ifCond .eq 11, 3) := by decide +kernel
theorem dX12_tells_40 : decode cX12_tells 40 = .ok (.iload 5, 2) := by decide +kernel
theorem dX12_tells_42 : decode cX12_tells 42 = .ok (.invokestatic 153, 3) := by decide +kernel
theorem dX12_tells_45 : decode cX12_tells 45 = .ok (.ifCond .ne 7, 3) := by decide +kernel
theorem dX12_tells_48 : decode cX12_tells 48 = .ok (.ldc2_w 156, 3) := by decide +kernel
theorem dX12_tells_51 : decode cX12_tells 51 = .ok (.lreturn, 1) := by decide +kernel
theorem dX12_tells_52 : decode cX12_tells 52 = .ok (.aload_n 0, 1) := by decide +kernel
theorem dX12_tells_53 : decode cX12_tells 53 = .ok (.bipush 40, 2) := by decide +kernel
theorem dX12_tells_55 : decode cX12_tells 55 = .ok (.bipush 51, 2) := by decide +kernel
theorem dX12_tells_57 : decode cX12_tells 57 = .ok (.iload_n 1, 1) := by decide +kernel
theorem dX12_tells_58 : decode cX12_tells 58 = .ok (.imul, 1) := by decide +kernel
theorem dX12_tells_59 : decode cX12_tells 59 = .ok (.iadd, 1) := by decide +kernel
theorem dX12_tells_60 : decode cX12_tells 60 = .ok (.invokevirtual 148, 3) := by decide +kernel
theorem dX12_tells_63 : decode cX12_tells 63 = .ok (.iconst (-1), 1) := by decide +kernel
theorem dX12_tells_64 : decode cX12_tells 64 = .ok (.if_icmp .eq 7, 3) := by decide +kernel
theorem dX12_tells_67 : decode cX12_tells 67 = .ok (.ldc2_w 158, 3) := by decide +kernel
theorem dX12_tells_70 : decode cX12_tells 70 = .ok (.lreturn, 1) := by decide +kernel
theorem dX12_tells_71 : decode cX12_tells 71 = .ok (.aload_n 0, 1) := by decide +kernel
theorem dX12_tells_72 : decode cX12_tells 72 = .ok (.iload_n 2, 1) := by decide +kernel
theorem dX12_tells_73 : decode cX12_tells 73 = .ok (.iload_n 3, 1) := by decide +kernel
theorem dX12_tells_74 : decode cX12_tells 74 = .ok (.iload 4, 2) := by decide +kernel
theorem dX12_tells_76 : decode cX12_tells 76 = .ok (.iload 5, 2) := by decide +kernel
theorem dX12_tells_78 : decode cX12_tells 78 = .ok (.lload 6, 2) := by decide +kernel
theorem dX12_tells_80 : decode cX12_tells 80 = .ok (.invokevirtual 160, 3) := by decide +kernel
theorem dX12_tells_83 : decode cX12_tells 83 = .ok (.aload_n 0, 1) := by decide +kernel
theorem dX12_tells_84 : decode cX12_tells 84 = .ok (.invokevirtual 164, 3) := by decide +kernel
theorem dX12_tells_87 : decode cX12_tells 87 = .ok (.lreturn, 1) := by decide +kernel
theorem dX12_act_0 : decode cX12_act 0 = .ok (.iload_n 1, 1) := by decide +kernel
theorem dX12_act_1 : decode cX12_act 1 = .ok (.invokestatic 139, 3) := by decide +kernel
theorem dX12_act_4 : decode cX12_act 4 = .ok (.ifCond .eq 22, 3) := by decide +kernel
theorem dX12_act_7 : decode cX12_act 7 = .ok (.iload_n 2, 1) := by decide +kernel
theorem dX12_act_8 : decode cX12_act 8 = .ok (.i2l, 1) := by decide +kernel
theorem dX12_act_9 : decode cX12_act 9 = .ok (.lconst 0, 1) := by decide +kernel
theorem dX12_act_10 : decode cX12_act 10 = .ok (.ldc2_w 168, 3) := by decide +kernel
theorem dX12_act_13 : decode cX12_act 13 = .ok (.invokestatic 79, 3) := by decide +kernel
theorem dX12_act_16 : decode cX12_act 16 = .ok (.ifCond .eq 10, 3) := by decide +kernel
theorem dX12_act_19 : decode cX12_act 19 = .ok (.iload_n 3, 1) := by decide +kernel
theorem dX12_act_20 : decode cX12_act 20 = .ok (.invokestatic 153, 3) := by decide +kernel
theorem dX12_act_23 : decode cX12_act 23 = .ok (.ifCond .ne 6, 3) := by decide +kernel
theorem dX12_act_26 : decode cX12_act 26 = .ok (.bipush (-2), 2) := by decide +kernel
theorem dX12_act_28 : decode cX12_act 28 = .ok (.ireturn, 1) := by decide +kernel
theorem dX12_act_29 : decode cX12_act 29 = .ok (.aload_n 0, 1) := by decide +kernel
theorem dX12_act_30 : decode cX12_act 30 = .ok (.bipush 40, 2) := by decide +kernel
theorem dX12_act_32 : decode cX12_act 32 = .ok (.bipush 51, 2) := by decide +kernel
theorem dX12_act_34 : decode cX12_act 34 = .ok (.iload_n 1, 1) := by decide +kernel
theorem dX12_act_35 : decode cX12_act 35 = .ok (.imul, 1) := by decide +kernel
theorem dX12_act_36 : decode cX12_act 36 = .ok (.iadd, 1) := by decide +kernel
theorem dX12_act_37 : decode cX12_act 37 = .ok (.invokevirtual 148, 3) := by decide +kernel
theorem dX12_act_40 : decode cX12_act 40 = .ok (.iconst (-1), 1) := by decide +kernel
theorem dX12_act_41 : decode cX12_act 41 = .ok (.if_icmp .eq 6, 3) := by decide +kernel
theorem dX12_act_44 : decode cX12_act 44 = .ok (.bipush (-3), 2) := by decide +kernel
theorem dX12_act_46 : decode cX12_act 46 = .ok (.ireturn, 1) := by decide +kernel
theorem dX12_act_47 : decode cX12_act 47 = .ok (.aload_n 0, 1) := by decide +kernel
theorem dX12_act_48 : decode cX12_act 48 = .ok (.getfield 7, 3) := by decide +kernel
theorem dX12_act_51 : decode cX12_act 51 = .ok (.iconst 1, 1) := by decide +kernel
theorem dX12_act_52 : decode cX12_act 52 = .ok (.iaload, 1) := by decide +kernel
theorem dX12_act_53 : decode cX12_act 53 = .ok (.bipush 16, 2) := by decide +kernel
theorem dX12_act_55 : decode cX12_act 55 = .ok (.if_icmp .ne 6, 3) := by decide +kernel
theorem dX12_act_58 : decode cX12_act 58 = .ok (.bipush (-4), 2) := by decide +kernel
theorem dX12_act_60 : decode cX12_act 60 = .ok (.ireturn, 1) := by decide +kernel
theorem dX12_act_61 : decode cX12_act 61 = .ok (.sipush 244, 3) := by decide +kernel
theorem dX12_act_64 : decode cX12_act 64 = .ok (.bipush 53, 2) := by decide +kernel
theorem dX12_act_66 : decode cX12_act 66 = .ok (.aload_n 0, 1) := by decide +kernel
theorem dX12_act_67 : decode cX12_act 67 = .ok (.getfield 7, 3) := by decide +kernel
theorem dX12_act_70 : decode cX12_act 70 = .ok (.iconst 1, 1) := by decide +kernel
theorem dX12_act_71 : decode cX12_act 71 = .ok (.iaload, 1) := by decide +kernel
theorem dX12_act_72 : decode cX12_act 72 = .ok (.imul, 1) := by decide +kernel
theorem dX12_act_73 : decode cX12_act 73 = .ok (.iadd, 1) := by decide +kernel
theorem dX12_act_74 : decode cX12_act 74 = .ok (.istore 4, 2) := by decide +kernel
theorem dX12_act_76 : decode cX12_act 76 = .ok (.aload_n 0, 1) := by decide +kernel
theorem dX12_act_77 : decode cX12_act 77 = .ok (.getfield 7, 3) := by decide +kernel
theorem dX12_act_80 : decode cX12_act 80 = .ok (.iload 4, 2) := by decide +kernel
theorem dX12_act_82 : decode cX12_act 82 = .ok (.iload_n 2, 1) := by decide +kernel
theorem dX12_act_83 : decode cX12_act 83 = .ok (.iastore, 1) := by decide +kernel
theorem dX12_act_84 : decode cX12_act 84 = .ok (.aload_n 0, 1) := by decide +kernel
theorem dX12_act_85 : decode cX12_act 85 = .ok (.getfield 7, 3) := by decide +kernel
theorem dX12_act_88 : decode cX12_act 88 = .ok (.iload 4, 2) := by decide +kernel
theorem dX12_act_90 : decode cX12_act 90 = .ok (.iconst 1, 1) := by decide +kernel
theorem dX12_act_91 : decode cX12_act 91 = .ok (.iadd, 1) := by decide +kernel
theorem dX12_act_92 : decode cX12_act 92 = .ok (.iload_n 3, 1) := by decide +kernel
theorem dX12_act_93 : decode cX12_act 93 = .ok (.iastore, 1) := by decide +kernel
theorem dX12_act_94 : decode cX12_act 94 = .ok (.iconst 0, 1) := by decide +kernel
theorem dX12_act_95 : decode cX12_act 95 = .ok (.istore 5, 2) := by decide +kernel
theorem dX12_act_97 : decode cX12_act 97 = .ok (.iload 5, 2) := by decide +kernel
theorem dX12_act_99 : decode cX12_act 99 = .ok (.bipush 51, 2) := by decide +kernel
theorem dX12_act_101 : decode cX12_act 101 = .ok (.if_icmp .ge 36, 3) := by decide +kernel
theorem dX12_act_104 : decode cX12_act 104 = .ok (.aload_n 0, 1) := by decide +kernel
theorem dX12_act_105 : decode cX12_act 105 = .ok (.getfield 7, 3) := by decide +kernel
theorem dX12_act_108 : decode cX12_act 108 = .ok (.iload 4, 2) := by decide +kernel
theorem dX12_act_110 : decode cX12_act 110 = .ok (.iconst 2, 1) := by decide +kernel
theorem dX12_act_111 : decode cX12_act 111 = .ok (.iadd, 1) := by decide +kernel
theorem dX12_act_112 : decode cX12_act 112 = .ok (.iload 5, 2) := by decide +kernel
theorem dX12_act_114 : decode cX12_act 114 = .ok (.iadd, 1) := by decide +kernel
theorem dX12_act_115 : decode cX12_act 115 = .ok (.aload_n 0, 1) := by decide +kernel
theorem dX12_act_116 : decode cX12_act 116 = .ok (.getfield 7, 3) := by decide +kernel
theorem dX12_act_119 : decode cX12_act 119 = .ok (.bipush 40, 2) := by decide +kernel
theorem dX12_act_121 : decode cX12_act 121 = .ok (.bipush 51, 2) := by decide +kernel
theorem dX12_act_123 : decode cX12_act 123 = .ok (.iload_n 1, 1) := by decide +kernel
theorem dX12_act_124 : decode cX12_act 124 = .ok (.imul, 1) := by decide +kernel
theorem dX12_act_125 : decode cX12_act 125 = .ok (.iadd, 1) := by decide +kernel
theorem dX12_act_126 : decode cX12_act 126 = .ok (.iload 5, 2) := by decide +kernel
theorem dX12_act_128 : decode cX12_act 128 = .ok (.iadd, 1) := by decide +kernel
theorem dX12_act_129 : decode cX12_act 129 = .ok (.iaload, 1) := by decide +kernel
theorem dX12_act_130 : decode cX12_act 130 = .ok (.iastore, 1) := by decide +kernel
theorem dX12_act_131 : decode cX12_act 131 = .ok (.iinc 5 1, 3) := by decide +kernel
theorem dX12_act_134 : decode cX12_act 134 = .ok (.goto (-37), 3) := by decide +kernel
theorem dX12_act_137 : decode cX12_act 137 = .ok (.aload_n 0, 1) := by decide +kernel
theorem dX12_act_138 : decode cX12_act 138 = .ok (.iconst 1, 1) := by decide +kernel
theorem dX12_act_139 : decode cX12_act 139 = .ok (.invokevirtual 91, 3) := by decide +kernel
theorem dX12_act_142 : decode cX12_act 142 = .ok (.ireturn, 1) := by decide +kernel
theorem dX12_inForce_0 : decode cX12_inForce 0 = .ok (.iconst (-1), 1) := by decide +kernel
theorem dX12_inForce_1 : decode cX12_inForce 1 = .ok (.istore_n 3, 1) := by decide +kernel
theorem dX12_inForce_2 : decode cX12_inForce 2 = .ok (.iconst 0, 1) := by decide +kernel
theorem dX12_inForce_3 : decode cX12_inForce 3 = .ok (.istore 4, 2) := by decide +kernel
theorem dX12_inForce_5 : decode cX12_inForce 5 = .ok (.iload 4, 2) := by decide +kernel
theorem dX12_inForce_7 : decode cX12_inForce 7 = .ok (.aload_n 0, 1) := by decide +kernel
theorem dX12_inForce_8 : decode cX12_inForce 8 = .ok (.getfield 7, 3) := by decide +kernel
theorem dX12_inForce_11 : decode cX12_inForce 11 = .ok (.iconst 1, 1) := by decide +kernel
theorem dX12_inForce_12 : decode cX12_inForce 12 = .ok (.iaload, 1) := by decide +kernel
theorem dX12_inForce_13 : decode cX12_inForce 13 = .ok (.if_icmp .ge 95, 3) := by decide +kernel
theorem dX12_inForce_16 : decode cX12_inForce 16 = .ok (.sipush 244, 3) := by decide +kernel
theorem dX12_inForce_19 : decode cX12_inForce 19 = .ok (.bipush 53, 2) := by decide +kernel
theorem dX12_inForce_21 : decode cX12_inForce 21 = .ok (.iload 4, 2) := by decide +kernel
theorem dX12_inForce_23 : decode cX12_inForce 23 = .ok (.imul, 1) := by decide +kernel
theorem dX12_inForce_24 : decode cX12_inForce 24 = .ok (.iadd, 1) := by decide +kernel
theorem dX12_inForce_25 : decode cX12_inForce 25 = .ok (.istore 5, 2) := by decide +kernel
theorem dX12_inForce_27 : decode cX12_inForce 27 = .ok (.aload_n 0, 1) := by decide +kernel
theorem dX12_inForce_28 : decode cX12_inForce 28 = .ok (.getfield 7, 3) := by decide +kernel
theorem dX12_inForce_31 : decode cX12_inForce 31 = .ok (.iload 5, 2) := by decide +kernel
theorem dX12_inForce_33 : decode cX12_inForce 33 = .ok (.iaload, 1) := by decide +kernel
theorem dX12_inForce_34 : decode cX12_inForce 34 = .ok (.iload_n 1, 1) := by decide +kernel
theorem dX12_inForce_35 : decode cX12_inForce 35 = .ok (.if_icmp .ne 20, 3) := by decide +kernel
theorem dX12_inForce_38 : decode cX12_inForce 38 = .ok (.aload_n 0, 1) := by decide +kernel
theorem dX12_inForce_39 : decode cX12_inForce 39 = .ok (.getfield 7, 3) := by decide +kernel
theorem dX12_inForce_42 : decode cX12_inForce 42 = .ok (.iload 5, 2) := by decide +kernel
theorem dX12_inForce_44 : decode cX12_inForce 44 = .ok (.iconst 1, 1) := by decide +kernel
theorem dX12_inForce_45 : decode cX12_inForce 45 = .ok (.iadd, 1) := by decide +kernel
theorem dX12_inForce_46 : decode cX12_inForce 46 = .ok (.iaload, 1) := by decide +kernel
theorem dX12_inForce_47 : decode cX12_inForce 47 = .ok (.iload_n 2, 1) := by decide +kernel
theorem dX12_inForce_48 : decode cX12_inForce 48 = .ok (.if_icmp .gt 7, 3) := by decide +kernel
theorem dX12_inForce_51 : decode cX12_inForce 51 = .ok (.iconst 1, 1) := by decide +kernel
theorem dX12_inForce_52 : decode cX12_inForce 52 = .ok (.goto 4, 3) := by decide +kernel
theorem dX12_inForce_55 : decode cX12_inForce 55 = .ok (.iconst 0, 1) := by decide +kernel
theorem dX12_inForce_56 : decode cX12_inForce 56 = .ok (.istore 6, 2) := by decide +kernel
theorem dX12_inForce_58 : decode cX12_inForce 58 = .ok (.iload 6, 2) := by decide +kernel
theorem dX12_inForce_60 : decode cX12_inForce 60 = .ok (.ifCond .eq 40, 3) := by decide +kernel
theorem dX12_inForce_63 : decode cX12_inForce 63 = .ok (.iload_n 3, 1) := by decide +kernel
theorem dX12_inForce_64 : decode cX12_inForce 64 = .ok (.iconst (-1), 1) := by decide +kernel
theorem dX12_inForce_65 : decode cX12_inForce 65 = .ok (.if_icmp .eq 30, 3) := by decide +kernel
theorem dX12_inForce_68 : decode cX12_inForce 68 = .ok (.aload_n 0, 1) := by decide +kernel
theorem dX12_inForce_69 : decode cX12_inForce 69 = .ok (.getfield 7, 3) := by decide +kernel
theorem dX12_inForce_72 : decode cX12_inForce 72 = .ok (.iload 5, 2) := by decide +kernel
theorem dX12_inForce_74 : decode cX12_inForce 74 = .ok (.iconst 1, 1) := by decide +kernel
theorem dX12_inForce_75 : decode cX12_inForce 75 = .ok (.iadd, 1) := by decide +kernel
theorem dX12_inForce_76 : decode cX12_inForce 76 = .ok (.iaload, 1) := by decide +kernel
theorem dX12_inForce_77 : decode cX12_inForce 77 = .ok (.aload_n 0, 1) := by decide +kernel
theorem dX12_inForce_78 : decode cX12_inForce 78 = .ok (.getfield 7, 3) := by decide +kernel
theorem dX12_inForce_81 : decode cX12_inForce 81 = .ok (.sipush 244, 3) := by decide +kernel
theorem dX12_inForce_84 : decode cX12_inForce 84 = .ok (.bipush 53, 2) := by decide +kernel
theorem dX12_inForce_86 : decode cX12_inForce 86 = .ok (.iload_n 3, 1) := by decide +kernel
theorem dX12_inForce_87 : decode cX12_inForce 87 = .ok (.imul, 1) := by decide +kernel
theorem dX12_inForce_88 : decode cX12_inForce 88 = .ok (.iadd, 1) := by decide +kernel
theorem dX12_inForce_89 : decode cX12_inForce 89 = .ok (.iconst 1, 1) := by decide +kernel
theorem dX12_inForce_90 : decode cX12_inForce 90 = .ok (.iadd, 1) := by decide +kernel
theorem dX12_inForce_91 : decode cX12_inForce 91 = .ok (.iaload, 1) := by decide +kernel
theorem dX12_inForce_92 : decode cX12_inForce 92 = .ok (.if_icmp .lt 8, 3) := by decide +kernel
theorem dX12_inForce_95 : decode cX12_inForce 95 = .ok (.iload 4, 2) := by decide +kernel
theorem dX12_inForce_97 : decode cX12_inForce 97 = .ok (.goto 4, 3) := by decide +kernel
theorem dX12_inForce_100 : decode cX12_inForce 100 = .ok (.iload_n 3, 1) := by decide +kernel
theorem dX12_inForce_101 : decode cX12_inForce 101 = .ok (.istore_n 3, 1) := by decide +kernel
theorem dX12_inForce_102 : decode cX12_inForce 102 = .ok (.iinc 4 1, 3) := by decide +kernel
theorem dX12_inForce_105 : decode cX12_inForce 105 = .ok (.goto (-100), 3) := by decide +kernel
theorem dX12_inForce_108 : decode cX12_inForce 108 = .ok (.iload_n 3, 1) := by decide +kernel
theorem dX12_inForce_109 : decode cX12_inForce 109 = .ok (.ireturn, 1) := by decide +kernel
theorem dX12_force_0 : decode cX12_force 0 = .ok (.iload_n 1, 1) := by decide +kernel
theorem dX12_force_1 : decode cX12_force 1 = .ok (.i2l, 1) := by decide +kernel
theorem dX12_force_2 : decode cX12_force 2 = .ok (.lconst 0, 1) := by decide +kernel
theorem dX12_force_3 : decode cX12_force 3 = .ok (.ldc2_w 168, 3) := by decide +kernel
theorem dX12_force_6 : decode cX12_force 6 = .ok (.invokestatic 79, 3) := by decide +kernel
theorem dX12_force_9 : decode cX12_force 9 = .ok (.ifCond .eq 19, 3) := by decide +kernel
theorem dX12_force_12 : decode cX12_force 12 = .ok (.iload_n 2, 1) := by decide +kernel
theorem dX12_force_13 : decode cX12_force 13 = .ok (.invokestatic 153, 3) := by decide +kernel
theorem dX12_force_16 : decode cX12_force 16 = .ok (.ifCond .eq 12, 3) := by decide +kernel
theorem dX12_force_19 : decode cX12_force 19 = .ok (.aload_n 0, 1) := by decide +kernel
theorem dX12_force_20 : decode cX12_force 20 = .ok (.iload_n 1, 1) := by decide +kernel
theorem dX12_force_21 : decode cX12_force 21 = .ok (.iload_n 2, 1) := by decide +kernel
theorem dX12_force_22 : decode cX12_force 22 = .ok (.invokevirtual 170, 3) := by decide +kernel
theorem dX12_force_25 : decode cX12_force 25 = .ok (.goto 5, 3) := by decide +kernel
theorem dX12_force_28 : decode cX12_force 28 = .ok (.bipush (-2), 2) := by decide +kernel
theorem dX12_force_30 : decode cX12_force 30 = .ok (.ireturn, 1) := by decide +kernel
theorem dX12_told_0 : decode cX12_told 0 = .ok (.aload_n 0, 1) := by decide +kernel
theorem dX12_told_1 : decode cX12_told 1 = .ok (.iload_n 1, 1) := by decide +kernel
theorem dX12_told_2 : decode cX12_told 2 = .ok (.iload 5, 2) := by decide +kernel
theorem dX12_told_4 : decode cX12_told 4 = .ok (.invokevirtual 170, 3) := by decide +kernel
theorem dX12_told_7 : decode cX12_told 7 = .ok (.istore 9, 2) := by decide +kernel
theorem dX12_told_9 : decode cX12_told 9 = .ok (.iload 9, 2) := by decide +kernel
theorem dX12_told_11 : decode cX12_told 11 = .ok (.iconst (-1), 1) := by decide +kernel
theorem dX12_told_12 : decode cX12_told 12 = .ok (.if_icmp .ne 24, 3) := by decide +kernel
theorem dX12_told_15 : decode cX12_told 15 = .ok (.iload_n 1, 1) := by decide +kernel
theorem dX12_told_16 : decode cX12_told 16 = .ok (.ifCond .ne 7, 3) := by decide +kernel
theorem dX12_told_19 : decode cX12_told 19 = .ok (.iconst 5, 1) := by decide +kernel
theorem dX12_told_20 : decode cX12_told 20 = .ok (.goto 15, 3) := by decide +kernel
theorem dX12_told_23 : decode cX12_told 23 = .ok (.iload_n 1, 1) := by decide +kernel
theorem dX12_told_24 : decode cX12_told 24 = .ok (.iconst 1, 1) := by decide +kernel
theorem dX12_told_25 : decode cX12_told 25 = .ok (.if_icmp .ne 8, 3) := by decide +kernel
theorem dX12_told_28 : decode cX12_told 28 = .ok (.bipush 30, 2) := by decide +kernel
theorem dX12_told_30 : decode cX12_told 30 = .ok (.goto 5, 3) := by decide +kernel
theorem dX12_told_33 : decode cX12_told 33 = .ok (.bipush 100, 2) := by decide +kernel
theorem dX12_told_35 : decode cX12_told 35 = .ok (.ireturn, 1) := by decide +kernel
theorem dX12_told_36 : decode cX12_told 36 = .ok (.aload_n 0, 1) := by decide +kernel
theorem dX12_told_37 : decode cX12_told 37 = .ok (.sipush 244, 3) := by decide +kernel
theorem dX12_told_40 : decode cX12_told 40 = .ok (.bipush 53, 2) := by decide +kernel
theorem dX12_told_42 : decode cX12_told 42 = .ok (.iload 9, 2) := by decide +kernel
theorem dX12_told_44 : decode cX12_told 44 = .ok (.imul, 1) := by decide +kernel
theorem dX12_told_45 : decode cX12_told 45 = .ok (.iadd, 1) := by decide +kernel
theorem dX12_told_46 : decode cX12_told 46 = .ok (.iconst 2, 1) := by decide +kernel
theorem dX12_told_47 : decode cX12_told 47 = .ok (.iadd, 1) := by decide +kernel
theorem dX12_told_48 : decode cX12_told 48 = .ok (.invokevirtual 148, 3) := by decide +kernel
theorem dX12_told_51 : decode cX12_told 51 = .ok (.pop, 1) := by decide +kernel
theorem dX12_told_52 : decode cX12_told 52 = .ok (.aload_n 0, 1) := by decide +kernel
theorem dX12_told_53 : decode cX12_told 53 = .ok (.iload_n 2, 1) := by decide +kernel
theorem dX12_told_54 : decode cX12_told 54 = .ok (.iload_n 3, 1) := by decide +kernel
theorem dX12_told_55 : decode cX12_told 55 = .ok (.iload 4, 2) := by decide +kernel
theorem dX12_told_57 : decode cX12_told 57 = .ok (.iload 5, 2) := by decide +kernel
theorem dX12_told_59 : decode cX12_told 59 = .ok (.lload 6, 2) := by decide +kernel
theorem dX12_told_61 : decode cX12_told 61 = .ok (.invokevirtual 160, 3) := by decide +kernel
theorem dX12_told_64 : decode cX12_told 64 = .ok (.aload_n 0, 1) := by decide +kernel
theorem dX12_told_65 : decode cX12_told 65 = .ok (.invokevirtual 164, 3) := by decide +kernel
theorem dX12_told_68 : decode cX12_told 68 = .ok (.lstore 10, 2) := by decide +kernel
theorem dX12_told_70 : decode cX12_told 70 = .ok (.lload 10, 2) := by decide +kernel
theorem dX12_told_72 : decode cX12_told 72 = .ok (.lconst 0, 1) := by decide +kernel
theorem dX12_told_73 : decode cX12_told 73 = .ok (.lcmp, 1) := by decide +kernel
theorem dX12_told_74 : decode cX12_told 74 = .ok (.ifCond .ge 7, 3) := by decide +kernel
theorem dX12_told_77 : decode cX12_told 77 = .ok (.iconst 0, 1) := by decide +kernel
theorem dX12_told_78 : decode cX12_told 78 = .ok (.goto 20, 3) := by decide +kernel
theorem dX12_told_81 : decode cX12_told 81 = .ok (.lload 10, 2) := by decide +kernel
theorem dX12_told_83 : decode cX12_told 83 = .ok (.iload 8, 2) := by decide +kernel
theorem dX12_told_85 : decode cX12_told 85 = .ok (.i2l, 1) := by decide +kernel
theorem dX12_told_86 : decode cX12_told 86 = .ok (.lcmp, 1) := by decide +kernel
theorem dX12_told_87 : decode cX12_told 87 = .ok (.ifCond .le 8, 3) := by decide +kernel
theorem dX12_told_90 : decode cX12_told 90 = .ok (.iload 8, 2) := by decide +kernel
theorem dX12_told_92 : decode cX12_told 92 = .ok (.goto 6, 3) := by decide +kernel
theorem dX12_told_95 : decode cX12_told 95 = .ok (.lload 10, 2) := by decide +kernel
theorem dX12_told_97 : decode cX12_told 97 = .ok (.l2i, 1) := by decide +kernel
theorem dX12_told_98 : decode cX12_told 98 = .ok (.ireturn, 1) := by decide +kernel
theorem dX12_debtOf_0 : decode cX12_debtOf 0 = .ok (.aload_n 0, 1) := by decide +kernel
theorem dX12_debtOf_1 : decode cX12_debtOf 1 = .ok (.getfield 7, 3) := by decide +kernel
theorem dX12_debtOf_4 : decode cX12_debtOf 4 = .ok (.sipush 1092, 3) := by decide +kernel
theorem dX12_debtOf_7 : decode cX12_debtOf 7 = .ok (.bipush 7, 2) := by decide +kernel
theorem dX12_debtOf_9 : decode cX12_debtOf 9 = .ok (.iload_n 1, 1) := by decide +kernel
theorem dX12_debtOf_10 : decode cX12_debtOf 10 = .ok (.imul, 1) := by decide +kernel
theorem dX12_debtOf_11 : decode cX12_debtOf 11 = .ok (.iadd, 1) := by decide +kernel
theorem dX12_debtOf_12 : decode cX12_debtOf 12 = .ok (.iload_n 2, 1) := by decide +kernel
theorem dX12_debtOf_13 : decode cX12_debtOf 13 = .ok (.iadd, 1) := by decide +kernel
theorem dX12_debtOf_14 : decode cX12_debtOf 14 = .ok (.iaload, 1) := by decide +kernel
theorem dX12_debtOf_15 : decode cX12_debtOf 15 = .ok (.ireturn, 1) := by decide +kernel
theorem dX12_debt_0 : decode cX12_debt 0 = .ok (.aload_n 0, 1) := by decide +kernel
theorem dX12_debt_1 : decode cX12_debt 1 = .ok (.iconst 0, 1) := by decide +kernel
theorem dX12_debt_2 : decode cX12_debt 2 = .ok (.iload_n 1, 1) := by decide +kernel
theorem dX12_debt_3 : decode cX12_debt 3 = .ok (.invokevirtual 173, 3) := by decide +kernel
theorem dX12_debt_6 : decode cX12_debt 6 = .ok (.ifCond .eq 52, 3) := by decide +kernel
theorem dX12_debt_9 : decode cX12_debt 9 = .ok (.aload_n 0, 1) := by decide +kernel
theorem dX12_debt_10 : decode cX12_debt 10 = .ok (.iconst 0, 1) := by decide +kernel
theorem dX12_debt_11 : decode cX12_debt 11 = .ok (.iload_n 2, 1) := by decide +kernel
theorem dX12_debt_12 : decode cX12_debt 12 = .ok (.invokevirtual 173, 3) := by decide +kernel
theorem dX12_debt_15 : decode cX12_debt 15 = .ok (.ifCond .eq 43, 3) := by decide +kernel
theorem dX12_debt_18 : decode cX12_debt 18 = .ok (.iload_n 1, 1) := by decide +kernel
theorem dX12_debt_19 : decode cX12_debt 19 = .ok (.iload_n 2, 1) := by decide +kernel
theorem dX12_debt_20 : decode cX12_debt 20 = .ok (.if_icmp .eq 38, 3) := by decide +kernel
theorem dX12_debt_23 : decode cX12_debt 23 = .ok (.iload_n 3, 1) := by decide +kernel
theorem dX12_debt_24 : decode cX12_debt 24 = .ok (.i2l, 1) := by decide +kernel
theorem dX12_debt_25 : decode cX12_debt 25 = .ok (.lconst 1, 1) := by decide +kernel
theorem dX12_debt_26 : decode cX12_debt 26 = .ok (.ldc2_w 177, 3) := by decide +kernel
theorem dX12_debt_29 : decode cX12_debt 29 = .ok (.invokestatic 79, 3) := by decide +kernel
theorem dX12_debt_32 : decode cX12_debt 32 = .ok (.ifCond .eq 26, 3) := by decide +kernel
theorem dX12_debt_35 : decode cX12_debt 35 = .ok (.iload 4, 2) := by decide +kernel
theorem dX12_debt_37 : decode cX12_debt 37 = .ok (.invokestatic 153, 3) := by decide +kernel
theorem dX12_debt_40 : decode cX12_debt 40 = .ok (.ifCond .eq 18, 3) := by decide +kernel
theorem dX12_debt_43 : decode cX12_debt 43 = .ok (.iload 5, 2) := by decide +kernel
theorem dX12_debt_45 : decode cX12_debt 45 = .ok (.i2l, 1) := by decide +kernel
theorem dX12_debt_46 : decode cX12_debt 46 = .ok (.iload 4, 2) := by decide +kernel
theorem dX12_debt_48 : decode cX12_debt 48 = .ok (.i2l, 1) := by decide +kernel
theorem dX12_debt_49 : decode cX12_debt 49 = .ok (.ldc2_w 83, 3) := by decide +kernel
theorem dX12_debt_52 : decode cX12_debt 52 = .ok (.invokestatic 79, 3) := by decide +kernel
theorem dX12_debt_55 : decode cX12_debt 55 = .ok (.ifCond .ne 6, 3) := by decide +kernel
theorem dX12_debt_58 : decode cX12_debt 58 = .ok (.bipush (-2), 2) := by decide +kernel
theorem dX12_debt_60 : decode cX12_debt 60 = .ok (.ireturn, 1) := by decide +kernel
theorem dX12_debt_61 : decode cX12_debt 61 = .ok (.aload_n 0, 1) := by decide +kernel
theorem dX12_debt_62 : decode cX12_debt 62 = .ok (.getfield 7, 3) := by decide +kernel
theorem dX12_debt_65 : decode cX12_debt 65 = .ok (.iconst 2, 1) := by decide +kernel
theorem dX12_debt_66 : decode cX12_debt 66 = .ok (.iaload, 1) := by decide +kernel
theorem dX12_debt_67 : decode cX12_debt 67 = .ok (.bipush 40, 2) := by decide +kernel
theorem dX12_debt_69 : decode cX12_debt 69 = .ok (.if_icmp .ne 6, 3) := by decide +kernel
theorem dX12_debt_72 : decode cX12_debt 72 = .ok (.bipush (-4), 2) := by decide +kernel
theorem dX12_debt_74 : decode cX12_debt 74 = .ok (.ireturn, 1) := by decide +kernel
theorem dX12_debt_75 : decode cX12_debt 75 = .ok (.sipush 1092, 3) := by decide +kernel
theorem dX12_debt_78 : decode cX12_debt 78 = .ok (.bipush 7, 2) := by decide +kernel
theorem dX12_debt_80 : decode cX12_debt 80 = .ok (.aload_n 0, 1) := by decide +kernel
theorem dX12_debt_81 : decode cX12_debt 81 = .ok (.getfield 7, 3) := by decide +kernel
theorem dX12_debt_84 : decode cX12_debt 84 = .ok (.iconst 2, 1) := by decide +kernel
theorem dX12_debt_85 : decode cX12_debt 85 = .ok (.iaload, 1) := by decide +kernel
theorem dX12_debt_86 : decode cX12_debt 86 = .ok (.imul, 1) := by decide +kernel
theorem dX12_debt_87 : decode cX12_debt 87 = .ok (.iadd, 1) := by decide +kernel
theorem dX12_debt_88 : decode cX12_debt 88 = .ok (.istore 6, 2) := by decide +kernel
theorem dX12_debt_90 : decode cX12_debt 90 = .ok (.aload_n 0, 1) := by decide +kernel
theorem dX12_debt_91 : decode cX12_debt 91 = .ok (.getfield 7, 3) := by decide +kernel
theorem dX12_debt_94 : decode cX12_debt 94 = .ok (.iload 6, 2) := by decide +kernel
theorem dX12_debt_96 : decode cX12_debt 96 = .ok (.iload_n 1, 1) := by decide +kernel
theorem dX12_debt_97 : decode cX12_debt 97 = .ok (.iastore, 1) := by decide +kernel
theorem dX12_debt_98 : decode cX12_debt 98 = .ok (.aload_n 0, 1) := by decide +kernel
theorem dX12_debt_99 : decode cX12_debt 99 = .ok (.getfield 7, 3) := by decide +kernel
theorem dX12_debt_102 : decode cX12_debt 102 = .ok (.iload 6, 2) := by decide +kernel
theorem dX12_debt_104 : decode cX12_debt 104 = .ok (.iconst 1, 1) := by decide +kernel
theorem dX12_debt_105 : decode cX12_debt 105 = .ok (.iadd, 1) := by decide +kernel
theorem dX12_debt_106 : decode cX12_debt 106 = .ok (.iload_n 2, 1) := by decide +kernel
theorem dX12_debt_107 : decode cX12_debt 107 = .ok (.iastore, 1) := by decide +kernel
theorem dX12_debt_108 : decode cX12_debt 108 = .ok (.aload_n 0, 1) := by decide +kernel
theorem dX12_debt_109 : decode cX12_debt 109 = .ok (.getfield 7, 3) := by decide +kernel
theorem dX12_debt_112 : decode cX12_debt 112 = .ok (.iload 6, 2) := by decide +kernel
theorem dX12_debt_114 : decode cX12_debt 114 = .ok (.iconst 2, 1) := by decide +kernel
theorem dX12_debt_115 : decode cX12_debt 115 = .ok (.iadd, 1) := by decide +kernel
theorem dX12_debt_116 : decode cX12_debt 116 = .ok (.iload_n 3, 1) := by decide +kernel
theorem dX12_debt_117 : decode cX12_debt 117 = .ok (.iastore, 1) := by decide +kernel
theorem dX12_debt_118 : decode cX12_debt 118 = .ok (.aload_n 0, 1) := by decide +kernel
theorem dX12_debt_119 : decode cX12_debt 119 = .ok (.getfield 7, 3) := by decide +kernel
theorem dX12_debt_122 : decode cX12_debt 122 = .ok (.iload 6, 2) := by decide +kernel
theorem dX12_debt_124 : decode cX12_debt 124 = .ok (.iconst 3, 1) := by decide +kernel
theorem dX12_debt_125 : decode cX12_debt 125 = .ok (.iadd, 1) := by decide +kernel
theorem dX12_debt_126 : decode cX12_debt 126 = .ok (.iload 4, 2) := by decide +kernel
theorem dX12_debt_128 : decode cX12_debt 128 = .ok (.iastore, 1) := by decide +kernel
theorem dX12_debt_129 : decode cX12_debt 129 = .ok (.aload_n 0, 1) := by decide +kernel
theorem dX12_debt_130 : decode cX12_debt 130 = .ok (.getfield 7, 3) := by decide +kernel
theorem dX12_debt_133 : decode cX12_debt 133 = .ok (.iload 6, 2) := by decide +kernel
theorem dX12_debt_135 : decode cX12_debt 135 = .ok (.iconst 4, 1) := by decide +kernel
theorem dX12_debt_136 : decode cX12_debt 136 = .ok (.iadd, 1) := by decide +kernel
theorem dX12_debt_137 : decode cX12_debt 137 = .ok (.iload 5, 2) := by decide +kernel
theorem dX12_debt_139 : decode cX12_debt 139 = .ok (.iastore, 1) := by decide +kernel
theorem dX12_debt_140 : decode cX12_debt 140 = .ok (.aload_n 0, 1) := by decide +kernel
theorem dX12_debt_141 : decode cX12_debt 141 = .ok (.getfield 7, 3) := by decide +kernel
theorem dX12_debt_144 : decode cX12_debt 144 = .ok (.iload 6, 2) := by decide +kernel
theorem dX12_debt_146 : decode cX12_debt 146 = .ok (.iconst 5, 1) := by decide +kernel
theorem dX12_debt_147 : decode cX12_debt 147 = .ok (.iadd, 1) := by decide +kernel
theorem dX12_debt_148 : decode cX12_debt 148 = .ok (.iconst (-1), 1) := by decide +kernel
theorem dX12_debt_149 : decode cX12_debt 149 = .ok (.iastore, 1) := by decide +kernel
theorem dX12_debt_150 : decode cX12_debt 150 = .ok (.aload_n 0, 1) := by decide +kernel
theorem dX12_debt_151 : decode cX12_debt 151 = .ok (.getfield 7, 3) := by decide +kernel
theorem dX12_debt_154 : decode cX12_debt 154 = .ok (.iload 6, 2) := by decide +kernel
theorem dX12_debt_156 : decode cX12_debt 156 = .ok (.bipush 6, 2) := by decide +kernel
theorem dX12_debt_158 : decode cX12_debt 158 = .ok (.iadd, 1) := by decide +kernel
theorem dX12_debt_159 : decode cX12_debt 159 = .ok (.iconst (-1), 1) := by decide +kernel
theorem dX12_debt_160 : decode cX12_debt 160 = .ok (.iastore, 1) := by decide +kernel
theorem dX12_debt_161 : decode cX12_debt 161 = .ok (.aload_n 0, 1) := by decide +kernel
theorem dX12_debt_162 : decode cX12_debt 162 = .ok (.iconst 2, 1) := by decide +kernel
theorem dX12_debt_163 : decode cX12_debt 163 = .ok (.invokevirtual 91, 3) := by decide +kernel
theorem dX12_debt_166 : decode cX12_debt 166 = .ok (.ireturn, 1) := by decide +kernel
theorem dX12_pay_0 : decode cX12_pay 0 = .ok (.aload_n 0, 1) := by decide +kernel
theorem dX12_pay_1 : decode cX12_pay 1 = .ok (.iconst 2, 1) := by decide +kernel
theorem dX12_pay_2 : decode cX12_pay 2 = .ok (.iload_n 1, 1) := by decide +kernel
theorem dX12_pay_3 : decode cX12_pay 3 = .ok (.invokevirtual 173, 3) := by decide +kernel
theorem dX12_pay_6 : decode cX12_pay 6 = .ok (.ifCond .eq 33, 3) := by decide +kernel
theorem dX12_pay_9 : decode cX12_pay 9 = .ok (.iload_n 2, 1) := by decide +kernel
theorem dX12_pay_10 : decode cX12_pay 10 = .ok (.i2l, 1) := by decide +kernel
theorem dX12_pay_11 : decode cX12_pay 11 = .ok (.aload_n 0, 1) := by decide +kernel
theorem dX12_pay_12 : decode cX12_pay 12 = .ok (.iload_n 1, 1) := by decide +kernel
theorem dX12_pay_13 : decode cX12_pay 13 = .ok (.iconst 3, 1) := by decide +kernel
theorem dX12_pay_14 : decode cX12_pay 14 = .ok (.invokevirtual 179, 3) := by decide +kernel
theorem dX12_pay_17 : decode cX12_pay 17 = .ok (.i2l, 1) := by decide +kernel
theorem dX12_pay_18 : decode cX12_pay 18 = .ok (.ldc2_w 83, 3) := by decide +kernel
theorem dX12_pay_21 : decode cX12_pay 21 = .ok (.invokestatic 79, 3) := by decide +kernel
theorem dX12_pay_24 : decode cX12_pay 24 = .ok (.ifCond .eq 15, 3) := by decide +kernel
theorem dX12_pay_27 : decode cX12_pay 27 = .ok (.iload_n 3, 1) := by decide +kernel
theorem dX12_pay_28 : decode cX12_pay 28 = .ok (.i2l, 1) := by decide +kernel
theorem dX12_pay_29 : decode cX12_pay 29 = .ok (.lconst 1, 1) := by decide +kernel
theorem dX12_pay_30 : decode cX12_pay 30 = .ok (.ldc2_w 177, 3) := by decide +kernel
theorem dX12_pay_33 : decode cX12_pay 33 = .ok (.invokestatic 79, 3) := by decide +kernel
theorem dX12_pay_36 : decode cX12_pay 36 = .ok (.ifCond .ne 6, 3) := by decide +kernel
theorem dX12_pay_39 : decode cX12_pay 39 = .ok (.bipush (-2), 2) := by decide +kernel
theorem dX12_pay_41 : decode cX12_pay 41 = .ok (.ireturn, 1) := by decide +kernel
theorem dX12_pay_42 : decode cX12_pay 42 = .ok (.aload_n 0, 1) := by decide +kernel
theorem dX12_pay_43 : decode cX12_pay 43 = .ok (.getfield 7, 3) := by decide +kernel
theorem dX12_pay_46 : decode cX12_pay 46 = .ok (.iconst 3, 1) := by decide +kernel
theorem dX12_pay_47 : decode cX12_pay 47 = .ok (.iaload, 1) := by decide +kernel
theorem dX12_pay_48 : decode cX12_pay 48 = .ok (.bipush 60, 2) := by decide +kernel
theorem dX12_pay_50 : decode cX12_pay 50 = .ok (.if_icmp .ne 6, 3) := by decide +kernel
theorem dX12_pay_53 : decode cX12_pay 53 = .ok (.bipush (-4), 2) := by decide +kernel
theorem dX12_pay_55 : decode cX12_pay 55 = .ok (.ireturn, 1) := by decide +kernel
theorem dX12_pay_56 : decode cX12_pay 56 = .ok (.sipush 1372, 3) := by decide +kernel
theorem dX12_pay_59 : decode cX12_pay 59 = .ok (.iconst 3, 1) := by decide +kernel
theorem dX12_pay_60 : decode cX12_pay 60 = .ok (.aload_n 0, 1) := by decide +kernel
theorem dX12_pay_61 : decode cX12_pay 61 = .ok (.getfield 7, 3) := by decide +kernel
theorem dX12_pay_64 : decode cX12_pay 64 = .ok (.iconst 3, 1) := by decide +kernel
theorem dX12_pay_65 : decode cX12_pay 65 = .ok (.iaload, 1) := by decide +kernel
theorem dX12_pay_66 : decode cX12_pay 66 = .ok (.imul, 1) := by decide +kernel
theorem dX12_pay_67 : decode cX12_pay 67 = .ok (.iadd, 1) := by decide +kernel
theorem dX12_pay_68 : decode cX12_pay 68 = .ok (.istore 4, 2) := by decide +kernel
theorem dX12_pay_70 : decode cX12_pay 70 = .ok (.aload_n 0, 1) := by decide +kernel
theorem dX12_pay_71 : decode cX12_pay 71 = .ok (.getfield 7, 3) := by decide +kernel
theorem dX12_pay_74 : decode cX12_pay 74 = .ok (.iload 4, 2) := by decide +kernel
theorem dX12_pay_76 : decode cX12_pay 76 = .ok (.iload_n 1, 1) := by decide +kernel
theorem dX12_pay_77 : decode cX12_pay 77 = .ok (.iastore, 1) := by decide +kernel
theorem dX12_pay_78 : decode cX12_pay 78 = .ok (.aload_n 0, 1) := by decide +kernel
theorem dX12_pay_79 : decode cX12_pay 79 = .ok (.getfield 7, 3) := by decide +kernel
theorem dX12_pay_82 : decode cX12_pay 82 = .ok (.iload 4, 2) := by decide +kernel
theorem dX12_pay_84 : decode cX12_pay 84 = .ok (.iconst 1, 1) := by decide +kernel
theorem dX12_pay_85 : decode cX12_pay 85 = .ok (.iadd, 1) := by decide +kernel
theorem dX12_pay_86 : decode cX12_pay 86 = .ok (.iload_n 2, 1) := by decide +kernel
theorem dX12_pay_87 : decode cX12_pay 87 = .ok (.iastore, 1) := by decide +kernel
theorem dX12_pay_88 : decode cX12_pay 88 = .ok (.aload_n 0, 1) := by decide +kernel
theorem dX12_pay_89 : decode cX12_pay 89 = .ok (.getfield 7, 3) := by decide +kernel
theorem dX12_pay_92 : decode cX12_pay 92 = .ok (.iload 4, 2) := by decide +kernel
theorem dX12_pay_94 : decode cX12_pay 94 = .ok (.iconst 2, 1) := by decide +kernel
theorem dX12_pay_95 : decode cX12_pay 95 = .ok (.iadd, 1) := by decide +kernel
theorem dX12_pay_96 : decode cX12_pay 96 = .ok (.iload_n 3, 1) := by decide +kernel
theorem dX12_pay_97 : decode cX12_pay 97 = .ok (.iastore, 1) := by decide +kernel
theorem dX12_pay_98 : decode cX12_pay 98 = .ok (.aload_n 0, 1) := by decide +kernel
theorem dX12_pay_99 : decode cX12_pay 99 = .ok (.iconst 3, 1) := by decide +kernel
theorem dX12_pay_100 : decode cX12_pay 100 = .ok (.invokevirtual 91, 3) := by decide +kernel
theorem dX12_pay_103 : decode cX12_pay 103 = .ok (.iconst 1, 1) := by decide +kernel
theorem dX12_pay_104 : decode cX12_pay 104 = .ok (.iadd, 1) := by decide +kernel
theorem dX12_pay_105 : decode cX12_pay 105 = .ok (.ireturn, 1) := by decide +kernel
theorem dX12_seal_0 : decode cX12_seal 0 = .ok (.aload_n 0, 1) := by decide +kernel
theorem dX12_seal_1 : decode cX12_seal 1 = .ok (.iconst 2, 1) := by decide +kernel
theorem dX12_seal_2 : decode cX12_seal 2 = .ok (.iload_n 1, 1) := by decide +kernel
theorem dX12_seal_3 : decode cX12_seal 3 = .ok (.invokevirtual 173, 3) := by decide +kernel
theorem dX12_seal_6 : decode cX12_seal 6 = .ok (.ifCond .eq 15, 3) := by decide +kernel
theorem dX12_seal_9 : decode cX12_seal 9 = .ok (.iload_n 2, 1) := by decide +kernel
theorem dX12_seal_10 : decode cX12_seal 10 = .ok (.i2l, 1) := by decide +kernel
theorem dX12_seal_11 : decode cX12_seal 11 = .ok (.lconst 1, 1) := by decide +kernel
theorem dX12_seal_12 : decode cX12_seal 12 = .ok (.ldc2_w 177, 3) := by decide +kernel
theorem dX12_seal_15 : decode cX12_seal 15 = .ok (.invokestatic 79, 3) := by decide +kernel
theorem dX12_seal_18 : decode cX12_seal 18 = .ok (.ifCond .ne 6, 3) := by decide +kernel
theorem dX12_seal_21 : decode cX12_seal 21 = .ok (.bipush (-2), 2) := by decide +kernel
theorem dX12_seal_23 : decode cX12_seal 23 = .ok (.ireturn, 1) := by decide +kernel
theorem dX12_seal_24 : decode cX12_seal 24 = .ok (.aload_n 0, 1) := by decide +kernel
theorem dX12_seal_25 : decode cX12_seal 25 = .ok (.iload_n 1, 1) := by decide +kernel
theorem dX12_seal_26 : decode cX12_seal 26 = .ok (.iconst 5, 1) := by decide +kernel
theorem dX12_seal_27 : decode cX12_seal 27 = .ok (.invokevirtual 179, 3) := by decide +kernel
theorem dX12_seal_30 : decode cX12_seal 30 = .ok (.iconst (-1), 1) := by decide +kernel
theorem dX12_seal_31 : decode cX12_seal 31 = .ok (.if_icmp .eq 6, 3) := by decide +kernel
theorem dX12_seal_34 : decode cX12_seal 34 = .ok (.bipush (-3), 2) := by decide +kernel
theorem dX12_seal_36 : decode cX12_seal 36 = .ok (.ireturn, 1) := by decide +kernel
theorem dX12_seal_37 : decode cX12_seal 37 = .ok (.aload_n 0, 1) := by decide +kernel
theorem dX12_seal_38 : decode cX12_seal 38 = .ok (.getfield 7, 3) := by decide +kernel
theorem dX12_seal_41 : decode cX12_seal 41 = .ok (.sipush 1092, 3) := by decide +kernel
theorem dX12_seal_44 : decode cX12_seal 44 = .ok (.bipush 7, 2) := by decide +kernel
theorem dX12_seal_46 : decode cX12_seal 46 = .ok (.iload_n 1, 1) := by decide +kernel
theorem dX12_seal_47 : decode cX12_seal 47 = .ok (.imul, 1) := by decide +kernel
theorem dX12_seal_48 : decode cX12_seal 48 = .ok (.iadd, 1) := by decide +kernel
theorem dX12_seal_49 : decode cX12_seal 49 = .ok (.iconst 5, 1) := by decide +kernel
theorem dX12_seal_50 : decode cX12_seal 50 = .ok (.iadd, 1) := by decide +kernel
theorem dX12_seal_51 : decode cX12_seal 51 = .ok (.iload_n 2, 1) := by decide +kernel
theorem dX12_seal_52 : decode cX12_seal 52 = .ok (.iastore, 1) := by decide +kernel
theorem dX12_seal_53 : decode cX12_seal 53 = .ok (.iconst 1, 1) := by decide +kernel
theorem dX12_seal_54 : decode cX12_seal 54 = .ok (.ireturn, 1) := by decide +kernel
theorem dX12_breaks_0 : decode cX12_breaks 0 = .ok (.aload_n 0, 1) := by decide +kernel
theorem dX12_breaks_1 : decode cX12_breaks 1 = .ok (.iconst 2, 1) := by decide +kernel
theorem dX12_breaks_2 : decode cX12_breaks 2 = .ok (.iload_n 1, 1) := by decide +kernel
theorem dX12_breaks_3 : decode cX12_breaks 3 = .ok (.invokevirtual 173, 3) := by decide +kernel
theorem dX12_breaks_6 : decode cX12_breaks 6 = .ok (.ifCond .eq 10, 3) := by decide +kernel
theorem dX12_breaks_9 : decode cX12_breaks 9 = .ok (.iload_n 2, 1) := by decide +kernel
theorem dX12_breaks_10 : decode cX12_breaks 10 = .ok (.invokestatic 153, 3) := by decide +kernel
theorem dX12_breaks_13 : decode cX12_breaks 13 = .ok (.ifCond .ne 6, 3) := by decide +kernel
theorem dX12_breaks_16 : decode cX12_breaks 16 = .ok (.bipush (-2), 2) := by decide +kernel
theorem dX12_breaks_18 : decode cX12_breaks 18 = .ok (.ireturn, 1) := by decide +kernel
theorem dX12_breaks_19 : decode cX12_breaks 19 = .ok (.aload_n 0, 1) := by decide +kernel
theorem dX12_breaks_20 : decode cX12_breaks 20 = .ok (.iload_n 1, 1) := by decide +kernel
theorem dX12_breaks_21 : decode cX12_breaks 21 = .ok (.iconst 5, 1) := by decide +kernel
theorem dX12_breaks_22 : decode cX12_breaks 22 = .ok (.invokevirtual 179, 3) := by decide +kernel
theorem dX12_breaks_25 : decode cX12_breaks 25 = .ok (.iconst (-1), 1) := by decide +kernel
theorem dX12_breaks_26 : decode cX12_breaks 26 = .ok (.if_icmp .eq 14, 3) := by decide +kernel
theorem dX12_breaks_29 : decode cX12_breaks 29 = .ok (.aload_n 0, 1) := by decide +kernel
theorem dX12_breaks_30 : decode cX12_breaks 30 = .ok (.iload_n 1, 1) := by decide +kernel
theorem dX12_breaks_31 : decode cX12_breaks 31 = .ok (.bipush 6, 2) := by decide +kernel
theorem dX12_breaks_33 : decode cX12_breaks 33 = .ok (.invokevirtual 179, 3) := by decide +kernel
theorem dX12_breaks_36 : decode cX12_breaks 36 = .ok (.iconst (-1), 1) := by decide +kernel
theorem dX12_breaks_37 : decode cX12_breaks 37 = .ok (.if_icmp .eq 6, 3) := by decide +kernel
theorem dX12_breaks_40 : decode cX12_breaks 40 = .ok (.bipush (-3), 2) := by decide +kernel
theorem dX12_breaks_42 : decode cX12_breaks 42 = .ok (.ireturn, 1) := by decide +kernel
theorem dX12_breaks_43 : decode cX12_breaks 43 = .ok (.aload_n 0, 1) := by decide +kernel
theorem dX12_breaks_44 : decode cX12_breaks 44 = .ok (.getfield 7, 3) := by decide +kernel
theorem dX12_breaks_47 : decode cX12_breaks 47 = .ok (.sipush 1092, 3) := by decide +kernel
theorem dX12_breaks_50 : decode cX12_breaks 50 = .ok (.bipush 7, 2) := by decide +kernel
theorem dX12_breaks_52 : decode cX12_breaks 52 = .ok (.iload_n 1, 1) := by decide +kernel
theorem dX12_breaks_53 : decode cX12_breaks 53 = .ok (.imul, 1) := by decide +kernel
theorem dX12_breaks_54 : decode cX12_breaks 54 = .ok (.iadd, 1) := by decide +kernel
theorem dX12_breaks_55 : decode cX12_breaks 55 = .ok (.bipush 6, 2) := by decide +kernel
theorem dX12_breaks_57 : decode cX12_breaks 57 = .ok (.iadd, 1) := by decide +kernel
theorem dX12_breaks_58 : decode cX12_breaks 58 = .ok (.iload_n 2, 1) := by decide +kernel
theorem dX12_breaks_59 : decode cX12_breaks 59 = .ok (.iastore, 1) := by decide +kernel
theorem dX12_breaks_60 : decode cX12_breaks 60 = .ok (.iconst 1, 1) := by decide +kernel
theorem dX12_breaks_61 : decode cX12_breaks 61 = .ok (.ireturn, 1) := by decide +kernel
theorem dX12_owedOf_0 : decode cX12_owedOf 0 = .ok (.aload_n 0, 1) := by decide +kernel
theorem dX12_owedOf_1 : decode cX12_owedOf 1 = .ok (.iload_n 1, 1) := by decide +kernel
theorem dX12_owedOf_2 : decode cX12_owedOf 2 = .ok (.iconst 5, 1) := by decide +kernel
theorem dX12_owedOf_3 : decode cX12_owedOf 3 = .ok (.invokevirtual 179, 3) := by decide +kernel
theorem dX12_owedOf_6 : decode cX12_owedOf 6 = .ok (.iconst (-1), 1) := by decide +kernel
theorem dX12_owedOf_7 : decode cX12_owedOf 7 = .ok (.if_icmp .eq 29, 3) := by decide +kernel
theorem dX12_owedOf_10 : decode cX12_owedOf 10 = .ok (.aload_n 0, 1) := by decide +kernel
theorem dX12_owedOf_11 : decode cX12_owedOf 11 = .ok (.iload_n 1, 1) := by decide +kernel
theorem dX12_owedOf_12 : decode cX12_owedOf 12 = .ok (.bipush 6, 2) := by decide +kernel
theorem dX12_owedOf_14 : decode cX12_owedOf 14 = .ok (.invokevirtual 179, 3) := by decide +kernel
theorem dX12_owedOf_17 : decode cX12_owedOf 17 = .ok (.iconst (-1), 1) := by decide +kernel
theorem dX12_owedOf_18 : decode cX12_owedOf 18 = .ok (.if_icmp .eq 14, 3) := by decide +kernel
theorem dX12_owedOf_21 : decode cX12_owedOf 21 = .ok (.iload_n 2, 1) := by decide +kernel
theorem dX12_owedOf_22 : decode cX12_owedOf 22 = .ok (.aload_n 0, 1) := by decide +kernel
theorem dX12_owedOf_23 : decode cX12_owedOf 23 = .ok (.iload_n 1, 1) := by decide +kernel
theorem dX12_owedOf_24 : decode cX12_owedOf 24 = .ok (.bipush 6, 2) := by decide +kernel
theorem dX12_owedOf_26 : decode cX12_owedOf 26 = .ok (.invokevirtual 179, 3) := by decide +kernel
theorem dX12_owedOf_29 : decode cX12_owedOf 29 = .ok (.if_icmp .ge 7, 3) := by decide +kernel
theorem dX12_owedOf_32 : decode cX12_owedOf 32 = .ok (.iconst 1, 1) := by decide +kernel
theorem dX12_owedOf_33 : decode cX12_owedOf 33 = .ok (.goto 4, 3) := by decide +kernel
theorem dX12_owedOf_36 : decode cX12_owedOf 36 = .ok (.iconst 0, 1) := by decide +kernel
theorem dX12_owedOf_37 : decode cX12_owedOf 37 = .ok (.istore_n 3, 1) := by decide +kernel
theorem dX12_owedOf_38 : decode cX12_owedOf 38 = .ok (.iload_n 3, 1) := by decide +kernel
theorem dX12_owedOf_39 : decode cX12_owedOf 39 = .ok (.ifCond .eq 13, 3) := by decide +kernel
theorem dX12_owedOf_42 : decode cX12_owedOf 42 = .ok (.aload_n 0, 1) := by decide +kernel
theorem dX12_owedOf_43 : decode cX12_owedOf 43 = .ok (.iload_n 1, 1) := by decide +kernel
theorem dX12_owedOf_44 : decode cX12_owedOf 44 = .ok (.iconst 5, 1) := by decide +kernel
theorem dX12_owedOf_45 : decode cX12_owedOf 45 = .ok (.invokevirtual 179, 3) := by decide +kernel
theorem dX12_owedOf_48 : decode cX12_owedOf 48 = .ok (.i2l, 1) := by decide +kernel
theorem dX12_owedOf_49 : decode cX12_owedOf 49 = .ok (.goto 10, 3) := by decide +kernel
theorem dX12_owedOf_52 : decode cX12_owedOf 52 = .ok (.aload_n 0, 1) := by decide +kernel
theorem dX12_owedOf_53 : decode cX12_owedOf 53 = .ok (.iload_n 1, 1) := by decide +kernel
theorem dX12_owedOf_54 : decode cX12_owedOf 54 = .ok (.iconst 2, 1) := by decide +kernel
theorem dX12_owedOf_55 : decode cX12_owedOf 55 = .ok (.invokevirtual 179, 3) := by decide +kernel
theorem dX12_owedOf_58 : decode cX12_owedOf 58 = .ok (.i2l, 1) := by decide +kernel
theorem dX12_owedOf_59 : decode cX12_owedOf 59 = .ok (.lstore 4, 2) := by decide +kernel
theorem dX12_owedOf_61 : decode cX12_owedOf 61 = .ok (.aload_n 0, 1) := by decide +kernel
theorem dX12_owedOf_62 : decode cX12_owedOf 62 = .ok (.iload_n 1, 1) := by decide +kernel
theorem dX12_owedOf_63 : decode cX12_owedOf 63 = .ok (.iconst 1, 1) := by decide +kernel
theorem dX12_owedOf_64 : decode cX12_owedOf 64 = .ok (.invokevirtual 179, 3) := by decide +kernel
theorem dX12_owedOf_67 : decode cX12_owedOf 67 = .ok (.istore 6, 2) := by decide +kernel
theorem dX12_owedOf_69 : decode cX12_owedOf 69 = .ok (.aload_n 0, 1) := by decide +kernel
theorem dX12_owedOf_70 : decode cX12_owedOf 70 = .ok (.iload_n 1, 1) := by decide +kernel
theorem dX12_owedOf_71 : decode cX12_owedOf 71 = .ok (.iconst 3, 1) := by decide +kernel
theorem dX12_owedOf_72 : decode cX12_owedOf 72 = .ok (.invokevirtual 179, 3) := by decide +kernel
theorem dX12_owedOf_75 : decode cX12_owedOf 75 = .ok (.istore 7, 2) := by decide +kernel
theorem dX12_owedOf_77 : decode cX12_owedOf 77 = .ok (.iload 7, 2) := by decide +kernel
theorem dX12_owedOf_79 : decode cX12_owedOf 79 = .ok (.iload_n 2, 1) := by decide +kernel
theorem dX12_owedOf_80 : decode cX12_owedOf 80 = .ok (.if_icmp .gt 173, 3) := by decide +kernel
theorem dX12_owedOf_83 : decode cX12_owedOf 83 = .ok (.iconst 0, 1) := by decide +kernel
theorem dX12_owedOf_84 : decode cX12_owedOf 84 = .ok (.istore 8, 2) := by decide +kernel
theorem dX12_owedOf_86 : decode cX12_owedOf 86 = .ok (.iload 8, 2) := by decide +kernel
theorem dX12_owedOf_88 : decode cX12_owedOf 88 = .ok (.aload_n 0, 1) := by decide +kernel
theorem dX12_owedOf_89 : decode cX12_owedOf 89 = .ok (.getfield 7, 3) := by decide +kernel
theorem dX12_owedOf_92 : decode cX12_owedOf 92 = .ok (.iconst 3, 1) := by decide +kernel
theorem dX12_owedOf_93 : decode cX12_owedOf 93 = .ok (.iaload, 1) := by decide +kernel
theorem dX12_owedOf_94 : decode cX12_owedOf 94 = .ok (.if_icmp .ge 79, 3) := by decide +kernel
theorem dX12_owedOf_97 : decode cX12_owedOf 97 = .ok (.sipush 1372, 3) := by decide +kernel
theorem dX12_owedOf_100 : decode cX12_owedOf 100 = .ok (.iconst 3, 1) := by decide +kernel
theorem dX12_owedOf_101 : decode cX12_owedOf 101 = .ok (.iload 8, 2) := by decide +kernel
theorem dX12_owedOf_103 : decode cX12_owedOf 103 = .ok (.imul, 1) := by decide +kernel
theorem dX12_owedOf_104 : decode cX12_owedOf 104 = .ok (.iadd, 1) := by decide +kernel
theorem dX12_owedOf_105 : decode cX12_owedOf 105 = .ok (.istore 9, 2) := by decide +kernel
theorem dX12_owedOf_107 : decode cX12_owedOf 107 = .ok (.aload_n 0, 1) := by decide +kernel
theorem dX12_owedOf_108 : decode cX12_owedOf 108 = .ok (.getfield 7, 3) := by decide +kernel
theorem dX12_owedOf_111 : decode cX12_owedOf 111 = .ok (.iload 9, 2) := by decide +kernel
theorem dX12_owedOf_113 : decode cX12_owedOf 113 = .ok (.iaload, 1) := by decide +kernel
theorem dX12_owedOf_114 : decode cX12_owedOf 114 = .ok (.iload_n 1, 1) := by decide +kernel
theorem dX12_owedOf_115 : decode cX12_owedOf 115 = .ok (.if_icmp .ne 52, 3) := by decide +kernel
theorem dX12_owedOf_118 : decode cX12_owedOf 118 = .ok (.aload_n 0, 1) := by decide +kernel
theorem dX12_owedOf_119 : decode cX12_owedOf 119 = .ok (.getfield 7, 3) := by decide +kernel
theorem dX12_owedOf_122 : decode cX12_owedOf 122 = .ok (.iload 9, 2) := by decide +kernel
theorem dX12_owedOf_124 : decode cX12_owedOf 124 = .ok (.iconst 1, 1) := by decide +kernel
theorem dX12_owedOf_125 : decode cX12_owedOf 125 = .ok (.iadd, 1) := by decide +kernel
theorem dX12_owedOf_126 : decode cX12_owedOf 126 = .ok (.iaload, 1) := by decide +kernel
theorem dX12_owedOf_127 : decode cX12_owedOf 127 = .ok (.iload 7, 2) := by decide +kernel
theorem dX12_owedOf_129 : decode cX12_owedOf 129 = .ok (.if_icmp .ne 38, 3) := by decide +kernel
theorem dX12_owedOf_132 : decode cX12_owedOf 132 = .ok (.lload 4, 2) := by decide +kernel
theorem dX12_owedOf_134 : decode cX12_owedOf 134 = .ok (.aload_n 0, 1) := by decide +kernel
theorem dX12_owedOf_135 : decode cX12_owedOf 135 = .ok (.getfield 7, 3) := by decide +kernel
theorem dX12_owedOf_138 : decode cX12_owedOf 138 = .ok (.iload 9, 2) := by decide +kernel
theorem dX12_owedOf_140 : decode cX12_owedOf 140 = .ok (.iconst 2, 1) := by decide +kernel
theorem dX12_owedOf_141 : decode cX12_owedOf 141 = .ok (.iadd, 1) := by decide +kernel
theorem dX12_owedOf_142 : decode cX12_owedOf 142 = .ok (.iaload, 1) := by decide +kernel
theorem dX12_owedOf_143 : decode cX12_owedOf 143 = .ok (.i2l, 1) := by decide +kernel
theorem dX12_owedOf_144 : decode cX12_owedOf 144 = .ok (.lcmp, 1) := by decide +kernel
theorem dX12_owedOf_145 : decode cX12_owedOf 145 = .ok (.ifCond .ge 7, 3) := by decide +kernel
theorem dX12_owedOf_148 : decode cX12_owedOf 148 = .ok (.lconst 0, 1) := by decide +kernel
theorem dX12_owedOf_149 : decode cX12_owedOf 149 = .ok (.goto 16, 3) := by decide +kernel
theorem dX12_owedOf_152 : decode cX12_owedOf 152 = .ok (.lload 4, 2) := by decide +kernel
theorem dX12_owedOf_154 : decode cX12_owedOf 154 = .ok (.aload_n 0, 1) := by decide +kernel
theorem dX12_owedOf_155 : decode cX12_owedOf 155 = .ok (.getfield 7, 3) := by decide +kernel
theorem dX12_owedOf_158 : decode cX12_owedOf 158 = .ok (.iload 9, 2) := by decide +kernel
theorem dX12_owedOf_160 : decode cX12_owedOf 160 = .ok (.iconst 2, 1) := by decide +kernel
theorem dX12_owedOf_161 : decode cX12_owedOf 161 = .ok (.iadd, 1) := by decide +kernel
theorem dX12_owedOf_162 : decode cX12_owedOf 162 = .ok (.iaload, 1) := by decide +kernel
theorem dX12_owedOf_163 : decode cX12_owedOf 163 = .ok (.i2l, 1) := by decide +kernel
theorem dX12_owedOf_164 : decode cX12_owedOf 164 = .ok (.lsub, 1) := by decide +kernel
theorem dX12_owedOf_165 : decode cX12_owedOf 165 = .ok (.lstore 4, 2) := by decide +kernel
theorem dX12_owedOf_167 : decode cX12_owedOf 167 = .ok (.iinc 8 1, 3) := by decide +kernel
theorem dX12_owedOf_170 : decode cX12_owedOf 170 = .ok (.goto (-84), 3) := by decide +kernel
theorem dX12_owedOf_173 : decode cX12_owedOf 173 = .ok (.iload 7, 2) := by decide +kernel
theorem dX12_owedOf_175 : decode cX12_owedOf 175 = .ok (.aload_n 0, 1) := by decide +kernel
theorem dX12_owedOf_176 : decode cX12_owedOf 176 = .ok (.iload_n 1, 1) := by decide +kernel
theorem dX12_owedOf_177 : decode cX12_owedOf 177 = .ok (.iconst 4, 1) := by decide +kernel
theorem dX12_owedOf_178 : decode cX12_owedOf 178 = .ok (.invokevirtual 179, 3) := by decide +kernel
theorem dX12_owedOf_181 : decode cX12_owedOf 181 = .ok (.if_icmp .le 66, 3) := by decide +kernel
theorem dX12_owedOf_184 : decode cX12_owedOf 184 = .ok (.lload 4, 2) := by decide +kernel
theorem dX12_owedOf_186 : decode cX12_owedOf 186 = .ok (.lload 4, 2) := by decide +kernel
theorem dX12_owedOf_188 : decode cX12_owedOf 188 = .ok (.aload_n 0, 1) := by decide +kernel
theorem dX12_owedOf_189 : decode cX12_owedOf 189 = .ok (.iconst 1, 1) := by decide +kernel
theorem dX12_owedOf_190 : decode cX12_owedOf 190 = .ok (.iconst 0, 1) := by decide +kernel
theorem dX12_owedOf_191 : decode cX12_owedOf 191 = .ok (.aload_n 0, 1) := by decide +kernel
theorem dX12_owedOf_192 : decode cX12_owedOf 192 = .ok (.aload_n 0, 1) := by decide +kernel
theorem dX12_owedOf_193 : decode cX12_owedOf 193 = .ok (.iload_n 1, 1) := by decide +kernel
theorem dX12_owedOf_194 : decode cX12_owedOf 194 = .ok (.iconst 0, 1) := by decide +kernel
theorem dX12_owedOf_195 : decode cX12_owedOf 195 = .ok (.invokevirtual 179, 3) := by decide +kernel
theorem dX12_owedOf_198 : decode cX12_owedOf 198 = .ok (.iload 6, 2) := by decide +kernel
theorem dX12_owedOf_200 : decode cX12_owedOf 200 = .ok (.invokevirtual 182, 3) := by decide +kernel
theorem dX12_owedOf_203 : decode cX12_owedOf 203 = .ok (.aload_n 0, 1) := by decide +kernel
theorem dX12_owedOf_204 : decode cX12_owedOf 204 = .ok (.iload 6, 2) := by decide +kernel
theorem dX12_owedOf_206 : decode cX12_owedOf 206 = .ok (.invokevirtual 185, 3) := by decide +kernel
theorem dX12_owedOf_209 : decode cX12_owedOf 209 = .ok (.iload 7, 2) := by decide +kernel
theorem dX12_owedOf_211 : decode cX12_owedOf 211 = .ok (.lload 4, 2) := by decide +kernel
theorem dX12_owedOf_213 : decode cX12_owedOf 213 = .ok (.sipush 1000, 3) := by decide +kernel
theorem dX12_owedOf_216 : decode cX12_owedOf 216 = .ok (.invokevirtual 188, 3) := by decide +kernel
theorem dX12_owedOf_219 : decode cX12_owedOf 219 = .ok (.i2l, 1) := by decide +kernel
theorem dX12_owedOf_220 : decode cX12_owedOf 220 = .ok (.lmul, 1) := by decide +kernel
theorem dX12_owedOf_221 : decode cX12_owedOf 221 = .ok (.ldc2_w 192, 3) := by decide +kernel
theorem dX12_owedOf_224 : decode cX12_owedOf 224 = .ok (.ldiv, 1) := by decide +kernel
theorem dX12_owedOf_225 : decode cX12_owedOf 225 = .ok (.ladd, 1) := by decide +kernel
theorem dX12_owedOf_226 : decode cX12_owedOf 226 = .ok (.lstore 4, 2) := by decide +kernel
theorem dX12_owedOf_228 : decode cX12_owedOf 228 = .ok (.lload 4, 2) := by decide +kernel
theorem dX12_owedOf_230 : decode cX12_owedOf 230 = .ok (.ldc2_w 194, 3) := by decide +kernel
theorem dX12_owedOf_233 : decode cX12_owedOf 233 = .ok (.lcmp, 1) := by decide +kernel
theorem dX12_owedOf_234 : decode cX12_owedOf 234 = .ok (.ifCond .le 9, 3) := by decide +kernel
theorem dX12_owedOf_237 : decode cX12_owedOf 237 = .ok (.ldc2_w 194, 3) := by decide +kernel
theorem dX12_owedOf_240 : decode cX12_owedOf 240 = .ok (.goto 5, 3) := by decide +kernel
theorem dX12_owedOf_243 : decode cX12_owedOf 243 = .ok (.lload 4, 2) := by decide +kernel
theorem dX12_owedOf_245 : decode cX12_owedOf 245 = .ok (.lstore 4, 2) := by decide +kernel
theorem dX12_owedOf_247 : decode cX12_owedOf 247 = .ok (.iinc 7 1, 3) := by decide +kernel
theorem dX12_owedOf_250 : decode cX12_owedOf 250 = .ok (.goto (-173), 3) := by decide +kernel
theorem dX12_owedOf_253 : decode cX12_owedOf 253 = .ok (.iload_n 2, 1) := by decide +kernel
theorem dX12_owedOf_254 : decode cX12_owedOf 254 = .ok (.aload_n 0, 1) := by decide +kernel
theorem dX12_owedOf_255 : decode cX12_owedOf 255 = .ok (.iload_n 1, 1) := by decide +kernel
theorem dX12_owedOf_256 : decode cX12_owedOf 256 = .ok (.iconst 3, 1) := by decide +kernel
theorem dX12_owedOf_257 : decode cX12_owedOf 257 = .ok (.invokevirtual 179, 3) := by decide +kernel
theorem dX12_owedOf_260 : decode cX12_owedOf 260 = .ok (.if_icmp .ge 7, 3) := by decide +kernel
theorem dX12_owedOf_263 : decode cX12_owedOf 263 = .ok (.lconst 0, 1) := by decide +kernel
theorem dX12_owedOf_264 : decode cX12_owedOf 264 = .ok (.goto 5, 3) := by decide +kernel
theorem dX12_owedOf_267 : decode cX12_owedOf 267 = .ok (.lload 4, 2) := by decide +kernel
theorem dX12_owedOf_269 : decode cX12_owedOf 269 = .ok (.lreturn, 1) := by decide +kernel
theorem dX12_owed_0 : decode cX12_owed 0 = .ok (.aload_n 0, 1) := by decide +kernel
theorem dX12_owed_1 : decode cX12_owed 1 = .ok (.iconst 2, 1) := by decide +kernel
theorem dX12_owed_2 : decode cX12_owed 2 = .ok (.iload_n 1, 1) := by decide +kernel
theorem dX12_owed_3 : decode cX12_owed 3 = .ok (.invokevirtual 173, 3) := by decide +kernel
theorem dX12_owed_6 : decode cX12_owed 6 = .ok (.ifCond .eq 19, 3) := by decide +kernel
theorem dX12_owed_9 : decode cX12_owed 9 = .ok (.iload_n 2, 1) := by decide +kernel
theorem dX12_owed_10 : decode cX12_owed 10 = .ok (.invokestatic 153, 3) := by decide +kernel
theorem dX12_owed_13 : decode cX12_owed 13 = .ok (.ifCond .eq 12, 3) := by decide +kernel
theorem dX12_owed_16 : decode cX12_owed 16 = .ok (.aload_n 0, 1) := by decide +kernel
theorem dX12_owed_17 : decode cX12_owed 17 = .ok (.iload_n 1, 1) := by decide +kernel
theorem dX12_owed_18 : decode cX12_owed 18 = .ok (.iload_n 2, 1) := by decide +kernel
theorem dX12_owed_19 : decode cX12_owed 19 = .ok (.invokevirtual 196, 3) := by decide +kernel
theorem dX12_owed_22 : decode cX12_owed 22 = .ok (.goto 6, 3) := by decide +kernel
theorem dX12_owed_25 : decode cX12_owed 25 = .ok (.ldc2_w 200, 3) := by decide +kernel
theorem dX12_owed_28 : decode cX12_owed 28 = .ok (.lreturn, 1) := by decide +kernel
theorem dX12_purseOf_0 : decode cX12_purseOf 0 = .ok (.aload_n 0, 1) := by decide +kernel
theorem dX12_purseOf_1 : decode cX12_purseOf 1 = .ok (.getfield 7, 3) := by decide +kernel
theorem dX12_purseOf_4 : decode cX12_purseOf 4 = .ok (.sipush 1552, 3) := by decide +kernel
theorem dX12_purseOf_7 : decode cX12_purseOf 7 = .ok (.bipush 13, 2) := by decide +kernel
theorem dX12_purseOf_9 : decode cX12_purseOf 9 = .ok (.iload_n 1, 1) := by decide +kernel
theorem dX12_purseOf_10 : decode cX12_purseOf 10 = .ok (.imul, 1) := by decide +kernel
theorem dX12_purseOf_11 : decode cX12_purseOf 11 = .ok (.iadd, 1) := by decide +kernel
theorem dX12_purseOf_12 : decode cX12_purseOf 12 = .ok (.iload_n 2, 1) := by decide +kernel
theorem dX12_purseOf_13 : decode cX12_purseOf 13 = .ok (.iadd, 1) := by decide +kernel
theorem dX12_purseOf_14 : decode cX12_purseOf 14 = .ok (.iaload, 1) := by decide +kernel
theorem dX12_purseOf_15 : decode cX12_purseOf 15 = .ok (.ireturn, 1) := by decide +kernel
theorem dX12_purse_0 : decode cX12_purse 0 = .ok (.aload_n 0, 1) := by decide +kernel
theorem dX12_purse_1 : decode cX12_purse 1 = .ok (.iconst 0, 1) := by decide +kernel
theorem dX12_purse_2 : decode cX12_purse 2 = .ok (.iload_n 1, 1) := by decide +kernel
theorem dX12_purse_3 : decode cX12_purse 3 = .ok (.invokevirtual 173, 3) := by decide +kernel
theorem dX12_purse_6 : decode cX12_purse 6 = .ok (.ifCond .eq 22, 3) := by decide +kernel
theorem dX12_purse_9 : decode cX12_purse 9 = .ok (.iload_n 2, 1) := by decide +kernel
theorem dX12_purse_10 : decode cX12_purse 10 = .ok (.invokestatic 153, 3) := by decide +kernel
theorem dX12_purse_13 : decode cX12_purse 13 = .ok (.ifCond .eq 15, 3) := by decide +kernel
theorem dX12_purse_16 : decode cX12_purse 16 = .ok (.iload_n 3, 1) := by decide +kernel
theorem dX12_purse_17 : decode cX12_purse 17 = .ok (.i2l, 1) := by decide +kernel
theorem dX12_purse_18 : decode cX12_purse 18 = .ok (.lconst 1, 1) := by decide +kernel
theorem dX12_purse_19 : decode cX12_purse 19 = .ok (.ldc2_w 202, 3) := by decide +kernel
theorem dX12_purse_22 : decode cX12_purse 22 = .ok (.invokestatic 79, 3) := by decide +kernel
theorem dX12_purse_25 : decode cX12_purse 25 = .ok (.ifCond .ne 6, 3) := by decide +kernel
theorem dX12_purse_28 : decode cX12_purse 28 = .ok (.bipush (-2), 2) := by decide +kernel
theorem dX12_purse_30 : decode cX12_purse 30 = .ok (.ireturn, 1) := by decide +kernel
theorem dX12_purse_31 : decode cX12_purse 31 = .ok (.aload_n 0, 1) := by decide +kernel
theorem dX12_purse_32 : decode cX12_purse 32 = .ok (.getfield 7, 3) := by decide +kernel
theorem dX12_purse_35 : decode cX12_purse 35 = .ok (.iconst 4, 1) := by decide +kernel
theorem dX12_purse_36 : decode cX12_purse 36 = .ok (.iaload, 1) := by decide +kernel
theorem dX12_purse_37 : decode cX12_purse 37 = .ok (.iconst 3, 1) := by decide +kernel
theorem dX12_purse_38 : decode cX12_purse 38 = .ok (.if_icmp .ne 6, 3) := by decide +kernel
theorem dX12_purse_41 : decode cX12_purse 41 = .ok (.bipush (-4), 2) := by decide +kernel
theorem dX12_purse_43 : decode cX12_purse 43 = .ok (.ireturn, 1) := by decide +kernel
theorem dX12_purse_44 : decode cX12_purse 44 = .ok (.sipush 1552, 3) := by decide +kernel
theorem dX12_purse_47 : decode cX12_purse 47 = .ok (.bipush 13, 2) := by decide +kernel
theorem dX12_purse_49 : decode cX12_purse 49 = .ok (.aload_n 0, 1) := by decide +kernel
theorem dX12_purse_50 : decode cX12_purse 50 = .ok (.getfield 7, 3) := by decide +kernel
theorem dX12_purse_53 : decode cX12_purse 53 = .ok (.iconst 4, 1) := by decide +kernel
theorem dX12_purse_54 : decode cX12_purse 54 = .ok (.iaload, 1) := by decide +kernel
theorem dX12_purse_55 : decode cX12_purse 55 = .ok (.imul, 1) := by decide +kernel
theorem dX12_purse_56 : decode cX12_purse 56 = .ok (.iadd, 1) := by decide +kernel
theorem dX12_purse_57 : decode cX12_purse 57 = .ok (.istore 4, 2) := by decide +kernel
theorem dX12_purse_59 : decode cX12_purse 59 = .ok (.aload_n 0, 1) := by decide +kernel
theorem dX12_purse_60 : decode cX12_purse 60 = .ok (.getfield 7, 3) := by decide +kernel
theorem dX12_purse_63 : decode cX12_purse 63 = .ok (.iload 4, 2) := by decide +kernel
theorem dX12_purse_65 : decode cX12_purse 65 = .ok (.iload_n 1, 1) := by decide +kernel
theorem dX12_purse_66 : decode cX12_purse 66 = .ok (.iastore, 1) := by decide +kernel
theorem dX12_purse_67 : decode cX12_purse 67 = .ok (.aload_n 0, 1) := by decide +kernel
theorem dX12_purse_68 : decode cX12_purse 68 = .ok (.getfield 7, 3) := by decide +kernel
theorem dX12_purse_71 : decode cX12_purse 71 = .ok (.iload 4, 2) := by decide +kernel
theorem dX12_purse_73 : decode cX12_purse 73 = .ok (.iconst 1, 1) := by decide +kernel
theorem dX12_purse_74 : decode cX12_purse 74 = .ok (.iadd, 1) := by decide +kernel
theorem dX12_purse_75 : decode cX12_purse 75 = .ok (.iload_n 2, 1) := by decide +kernel
theorem dX12_purse_76 : decode cX12_purse 76 = .ok (.iastore, 1) := by decide +kernel
theorem dX12_purse_77 : decode cX12_purse 77 = .ok (.aload_n 0, 1) := by decide +kernel
theorem dX12_purse_78 : decode cX12_purse 78 = .ok (.getfield 7, 3) := by decide +kernel
theorem dX12_purse_81 : decode cX12_purse 81 = .ok (.iload 4, 2) := by decide +kernel
theorem dX12_purse_83 : decode cX12_purse 83 = .ok (.iconst 2, 1) := by decide +kernel
theorem dX12_purse_84 : decode cX12_purse 84 = .ok (.iadd, 1) := by decide +kernel
theorem dX12_purse_85 : decode cX12_purse 85 = .ok (.iload_n 3, 1) := by decide +kernel
theorem dX12_purse_86 : decode cX12_purse 86 = .ok (.iastore, 1) := by decide +kernel
theorem dX12_purse_87 : decode cX12_purse 87 = .ok (.iconst 0, 1) := by decide +kernel
theorem dX12_purse_88 : decode cX12_purse 88 = .ok (.istore 5, 2) := by decide +kernel
theorem dX12_purse_90 : decode cX12_purse 90 = .ok (.iload 5, 2) := by decide +kernel
theorem dX12_purse_92 : decode cX12_purse 92 = .ok (.bipush 10, 2) := by decide +kernel
theorem dX12_purse_94 : decode cX12_purse 94 = .ok (.if_icmp .ge 22, 3) := by decide +kernel
theorem dX12_purse_97 : decode cX12_purse 97 = .ok (.aload_n 0, 1) := by decide +kernel
theorem dX12_purse_98 : decode cX12_purse 98 = .ok (.getfield 7, 3) := by decide +kernel
theorem dX12_purse_101 : decode cX12_purse 101 = .ok (.iload 4, 2) := by decide +kernel
theorem dX12_purse_103 : decode cX12_purse 103 = .ok (.iconst 3, 1) := by decide +kernel
theorem dX12_purse_104 : decode cX12_purse 104 = .ok (.iadd, 1) := by decide +kernel
theorem dX12_purse_105 : decode cX12_purse 105 = .ok (.iload 5, 2) := by decide +kernel
theorem dX12_purse_107 : decode cX12_purse 107 = .ok (.iadd, 1) := by decide +kernel
theorem dX12_purse_108 : decode cX12_purse 108 = .ok (.iconst 0, 1) := by decide +kernel
theorem dX12_purse_109 : decode cX12_purse 109 = .ok (.iastore, 1) := by decide +kernel
theorem dX12_purse_110 : decode cX12_purse 110 = .ok (.iinc 5 1, 3) := by decide +kernel
theorem dX12_purse_113 : decode cX12_purse 113 = .ok (.goto (-23), 3) := by decide +kernel
theorem dX12_purse_116 : decode cX12_purse 116 = .ok (.aload_n 0, 1) := by decide +kernel
theorem dX12_purse_117 : decode cX12_purse 117 = .ok (.iconst 4, 1) := by decide +kernel
theorem dX12_purse_118 : decode cX12_purse 118 = .ok (.invokevirtual 91, 3) := by decide +kernel
theorem dX12_purse_121 : decode cX12_purse 121 = .ok (.ireturn, 1) := by decide +kernel
theorem dX12_shares_0 : decode cX12_shares 0 = .ok (.iconst 0, 1) := by decide +kernel
theorem dX12_shares_1 : decode cX12_shares 1 = .ok (.istore_n 2, 1) := by decide +kernel
theorem dX12_shares_2 : decode cX12_shares 2 = .ok (.iconst 0, 1) := by decide +kernel
theorem dX12_shares_3 : decode cX12_shares 3 = .ok (.istore_n 3, 1) := by decide +kernel
theorem dX12_shares_4 : decode cX12_shares 4 = .ok (.iload_n 3, 1) := by decide +kernel
theorem dX12_shares_5 : decode cX12_shares 5 = .ok (.bipush 10, 2) := by decide +kernel
theorem dX12_shares_7 : decode cX12_shares 7 = .ok (.if_icmp .ge 20, 3) := by decide +kernel
theorem dX12_shares_10 : decode cX12_shares 10 = .ok (.iload_n 2, 1) := by decide +kernel
theorem dX12_shares_11 : decode cX12_shares 11 = .ok (.aload_n 0, 1) := by decide +kernel
theorem dX12_shares_12 : decode cX12_shares 12 = .ok (.iload_n 1, 1) := by decide +kernel
theorem dX12_shares_13 : decode cX12_shares 13 = .ok (.iconst 3, 1) := by decide +kernel
theorem dX12_shares_14 : decode cX12_shares 14 = .ok (.iload_n 3, 1) := by decide +kernel
theorem dX12_shares_15 : decode cX12_shares 15 = .ok (.iadd, 1) := by decide +kernel
theorem dX12_shares_16 : decode cX12_shares 16 = .ok (.invokevirtual 204, 3) := by decide +kernel
theorem dX12_shares_19 : decode cX12_shares 19 = .ok (.iadd, 1) := by decide +kernel
theorem dX12_shares_20 : decode cX12_shares 20 = .ok (.istore_n 2, 1) := by decide +kernel
theorem dX12_shares_21 : decode cX12_shares 21 = .ok (.iinc 3 1, 3) := by decide +kernel
theorem dX12_shares_24 : decode cX12_shares 24 = .ok (.goto (-20), 3) := by decide +kernel
theorem dX12_shares_27 : decode cX12_shares 27 = .ok (.iload_n 2, 1) := by decide +kernel
theorem dX12_shares_28 : decode cX12_shares 28 = .ok (.ireturn, 1) := by decide +kernel
theorem dX12_share_0 : decode cX12_share 0 = .ok (.aload_n 0, 1) := by decide +kernel
theorem dX12_share_1 : decode cX12_share 1 = .ok (.iconst 4, 1) := by decide +kernel
theorem dX12_share_2 : decode cX12_share 2 = .ok (.iload_n 1, 1) := by decide +kernel
theorem dX12_share_3 : decode cX12_share 3 = .ok (.invokevirtual 173, 3) := by decide +kernel
theorem dX12_share_6 : decode cX12_share 6 = .ok (.ifCond .eq 24, 3) := by decide +kernel
theorem dX12_share_9 : decode cX12_share 9 = .ok (.aload_n 0, 1) := by decide +kernel
theorem dX12_share_10 : decode cX12_share 10 = .ok (.iconst 0, 1) := by decide +kernel
theorem dX12_share_11 : decode cX12_share 11 = .ok (.iload_n 2, 1) := by decide +kernel
theorem dX12_share_12 : decode cX12_share 12 = .ok (.invokevirtual 173, 3) := by decide +kernel
theorem dX12_share_15 : decode cX12_share 15 = .ok (.ifCond .eq 15, 3) := by decide +kernel
theorem dX12_share_18 : decode cX12_share 18 = .ok (.iload_n 3, 1) := by decide +kernel
theorem dX12_share_19 : decode cX12_share 19 = .ok (.i2l, 1) := by decide +kernel
theorem dX12_share_20 : decode cX12_share 20 = .ok (.lconst 1, 1) := by decide +kernel
theorem dX12_share_21 : decode cX12_share 21 = .ok (.ldc2_w 207, 3) := by decide +kernel
theorem dX12_share_24 : decode cX12_share 24 = .ok (.invokestatic 79, 3) := by decide +kernel
theorem dX12_share_27 : decode cX12_share 27 = .ok (.ifCond .ne 6, 3) := by decide +kernel
theorem dX12_share_30 : decode cX12_share 30 = .ok (.bipush (-2), 2) := by decide +kernel
theorem dX12_share_32 : decode cX12_share 32 = .ok (.ireturn, 1) := by decide +kernel
theorem dX12_share_33 : decode cX12_share 33 = .ok (.aload_n 0, 1) := by decide +kernel
theorem dX12_share_34 : decode cX12_share 34 = .ok (.iload_n 1, 1) := by decide +kernel
theorem dX12_share_35 : decode cX12_share 35 = .ok (.invokevirtual 209, 3) := by decide +kernel
theorem dX12_share_38 : decode cX12_share 38 = .ok (.iload_n 3, 1) := by decide +kernel
theorem dX12_share_39 : decode cX12_share 39 = .ok (.iadd, 1) := by decide +kernel
theorem dX12_share_40 : decode cX12_share 40 = .ok (.bipush 30, 2) := by decide +kernel
theorem dX12_share_42 : decode cX12_share 42 = .ok (.if_icmp .le 6, 3) := by decide +kernel
theorem dX12_share_45 : decode cX12_share 45 = .ok (.bipush (-3), 2) := by decide +kernel
theorem dX12_share_47 : decode cX12_share 47 = .ok (.ireturn, 1) := by decide +kernel
theorem dX12_share_48 : decode cX12_share 48 = .ok (.aload_n 0, 1) := by decide +kernel
theorem dX12_share_49 : decode cX12_share 49 = .ok (.getfield 7, 3) := by decide +kernel
theorem dX12_share_52 : decode cX12_share 52 = .ok (.sipush 1552, 3) := by decide +kernel
theorem dX12_share_55 : decode cX12_share 55 = .ok (.bipush 13, 2) := by decide +kernel
theorem dX12_share_57 : decode cX12_share 57 = .ok (.iload_n 1, 1) := by decide +kernel
theorem dX12_share_58 : decode cX12_share 58 = .ok (.imul, 1) := by decide +kernel
theorem dX12_share_59 : decode cX12_share 59 = .ok (.iadd, 1) := by decide +kernel
theorem dX12_share_60 : decode cX12_share 60 = .ok (.iconst 3, 1) := by decide +kernel
theorem dX12_share_61 : decode cX12_share 61 = .ok (.iadd, 1) := by decide +kernel
theorem dX12_share_62 : decode cX12_share 62 = .ok (.iload_n 2, 1) := by decide +kernel
theorem dX12_share_63 : decode cX12_share 63 = .ok (.iadd, 1) := by decide +kernel
theorem dX12_share_64 : decode cX12_share 64 = .ok (.dup2, 1) := by decide +kernel
theorem dX12_share_65 : decode cX12_share 65 = .ok (.iaload, 1) := by decide +kernel
theorem dX12_share_66 : decode cX12_share 66 = .ok (.iload_n 3, 1) := by decide +kernel
theorem dX12_share_67 : decode cX12_share 67 = .ok (.iadd, 1) := by decide +kernel
theorem dX12_share_68 : decode cX12_share 68 = .ok (.iastore, 1) := by decide +kernel
theorem dX12_share_69 : decode cX12_share 69 = .ok (.aload_n 0, 1) := by decide +kernel
theorem dX12_share_70 : decode cX12_share 70 = .ok (.iload_n 1, 1) := by decide +kernel
theorem dX12_share_71 : decode cX12_share 71 = .ok (.iconst 3, 1) := by decide +kernel
theorem dX12_share_72 : decode cX12_share 72 = .ok (.iload_n 2, 1) := by decide +kernel
theorem dX12_share_73 : decode cX12_share 73 = .ok (.iadd, 1) := by decide +kernel
theorem dX12_share_74 : decode cX12_share 74 = .ok (.invokevirtual 204, 3) := by decide +kernel
theorem dX12_share_77 : decode cX12_share 77 = .ok (.ireturn, 1) := by decide +kernel
theorem dX12_leave_0 : decode cX12_leave 0 = .ok (.aload_n 0, 1) := by decide +kernel
theorem dX12_leave_1 : decode cX12_leave 1 = .ok (.iconst 4, 1) := by decide +kernel
theorem dX12_leave_2 : decode cX12_leave 2 = .ok (.iload_n 1, 1) := by decide +kernel
theorem dX12_leave_3 : decode cX12_leave 3 = .ok (.invokevirtual 173, 3) := by decide +kernel
theorem dX12_leave_6 : decode cX12_leave 6 = .ok (.ifCond .eq 30, 3) := by decide +kernel
theorem dX12_leave_9 : decode cX12_leave 9 = .ok (.aload_n 0, 1) := by decide +kernel
theorem dX12_leave_10 : decode cX12_leave 10 = .ok (.iconst 0, 1) := by decide +kernel
theorem dX12_leave_11 : decode cX12_leave 11 = .ok (.iload_n 2, 1) := by decide +kernel
theorem dX12_leave_12 : decode cX12_leave 12 = .ok (.invokevirtual 173, 3) := by decide +kernel
theorem dX12_leave_15 : decode cX12_leave 15 = .ok (.ifCond .eq 21, 3) := by decide +kernel
theorem dX12_leave_18 : decode cX12_leave 18 = .ok (.iload_n 3, 1) := by decide +kernel
theorem dX12_leave_19 : decode cX12_leave 19 = .ok (.i2l, 1) := by decide +kernel
theorem dX12_leave_20 : decode cX12_leave 20 = .ok (.lconst 0, 1) := by decide +kernel
theorem dX12_leave_21 : decode cX12_leave 21 = .ok (.aload_n 0, 1) := by decide +kernel
theorem dX12_leave_22 : decode cX12_leave 22 = .ok (.iload_n 1, 1) := by decide +kernel
theorem dX12_leave_23 : decode cX12_leave 23 = .ok (.iconst 1, 1) := by decide +kernel
theorem dX12_leave_24 : decode cX12_leave 24 = .ok (.invokevirtual 204, 3) := by decide +kernel
theorem dX12_leave_27 : decode cX12_leave 27 = .ok (.iconst 1, 1) := by decide +kernel
theorem dX12_leave_28 : decode cX12_leave 28 = .ok (.isub, 1) := by decide +kernel
theorem dX12_leave_29 : decode cX12_leave 29 = .ok (.i2l, 1) := by decide +kernel
theorem dX12_leave_30 : decode cX12_leave 30 = .ok (.invokestatic 79, 3) := by decide +kernel
theorem dX12_leave_33 : decode cX12_leave 33 = .ok (.ifCond .ne 6, 3) := by decide +kernel
theorem dX12_leave_36 : decode cX12_leave 36 = .ok (.bipush (-2), 2) := by decide +kernel
theorem dX12_leave_38 : decode cX12_leave 38 = .ok (.ireturn, 1) := by decide +kernel
theorem dX12_leave_39 : decode cX12_leave 39 = .ok (.aload_n 0, 1) := by decide +kernel
theorem dX12_leave_40 : decode cX12_leave 40 = .ok (.iload_n 1, 1) := by decide +kernel
theorem dX12_leave_41 : decode cX12_leave 41 = .ok (.iconst 3, 1) := by decide +kernel
theorem dX12_leave_42 : decode cX12_leave 42 = .ok (.iload_n 2, 1) := by decide +kernel
theorem dX12_leave_43 : decode cX12_leave 43 = .ok (.iadd, 1) := by decide +kernel
theorem dX12_leave_44 : decode cX12_leave 44 = .ok (.invokevirtual 204, 3) := by decide +kernel
theorem dX12_leave_47 : decode cX12_leave 47 = .ok (.istore 4, 2) := by decide +kernel
theorem dX12_leave_49 : decode cX12_leave 49 = .ok (.iload 4, 2) := by decide +kernel
theorem dX12_leave_51 : decode cX12_leave 51 = .ok (.ifCond .ne 6, 3) := by decide +kernel
theorem dX12_leave_54 : decode cX12_leave 54 = .ok (.bipush (-3), 2) := by decide +kernel
theorem dX12_leave_56 : decode cX12_leave 56 = .ok (.ireturn, 1) := by decide +kernel
theorem dX12_leave_57 : decode cX12_leave 57 = .ok (.aload_n 0, 1) := by decide +kernel
theorem dX12_leave_58 : decode cX12_leave 58 = .ok (.iload_n 1, 1) := by decide +kernel
theorem dX12_leave_59 : decode cX12_leave 59 = .ok (.iconst 2, 1) := by decide +kernel
theorem dX12_leave_60 : decode cX12_leave 60 = .ok (.invokevirtual 204, 3) := by decide +kernel
theorem dX12_leave_63 : decode cX12_leave 63 = .ok (.iload 4, 2) := by decide +kernel
theorem dX12_leave_65 : decode cX12_leave 65 = .ok (.imul, 1) := by decide +kernel
theorem dX12_leave_66 : decode cX12_leave 66 = .ok (.istore 5, 2) := by decide +kernel
theorem dX12_leave_68 : decode cX12_leave 68 = .ok (.aload_n 0, 1) := by decide +kernel
theorem dX12_leave_69 : decode cX12_leave 69 = .ok (.iconst 2, 1) := by decide +kernel
theorem dX12_leave_70 : decode cX12_leave 70 = .ok (.iconst 0, 1) := by decide +kernel
theorem dX12_leave_71 : decode cX12_leave 71 = .ok (.aload_n 0, 1) := by decide +kernel
theorem dX12_leave_72 : decode cX12_leave 72 = .ok (.iload_n 2, 1) := by decide +kernel
theorem dX12_leave_73 : decode cX12_leave 73 = .ok (.aload_n 0, 1) := by decide +kernel
theorem dX12_leave_74 : decode cX12_leave 74 = .ok (.iload_n 1, 1) := by decide +kernel
theorem dX12_leave_75 : decode cX12_leave 75 = .ok (.iconst 0, 1) := by decide +kernel
theorem dX12_leave_76 : decode cX12_leave 76 = .ok (.invokevirtual 204, 3) := by decide +kernel
theorem dX12_leave_79 : decode cX12_leave 79 = .ok (.invokevirtual 182, 3) := by decide +kernel
theorem dX12_leave_82 : decode cX12_leave 82 = .ok (.aload_n 0, 1) := by decide +kernel
theorem dX12_leave_83 : decode cX12_leave 83 = .ok (.iload_n 2, 1) := by decide +kernel
theorem dX12_leave_84 : decode cX12_leave 84 = .ok (.invokevirtual 185, 3) := by decide +kernel
theorem dX12_leave_87 : decode cX12_leave 87 = .ok (.iload_n 3, 1) := by decide +kernel
theorem dX12_leave_88 : decode cX12_leave 88 = .ok (.iload 5, 2) := by decide +kernel
theorem dX12_leave_90 : decode cX12_leave 90 = .ok (.i2l, 1) := by decide +kernel
theorem dX12_leave_91 : decode cX12_leave 91 = .ok (.sipush 200, 3) := by decide +kernel
theorem dX12_leave_94 : decode cX12_leave 94 = .ok (.invokevirtual 188, 3) := by decide +kernel
theorem dX12_leave_97 : decode cX12_leave 97 = .ok (.istore 6, 2) := by decide +kernel
theorem dX12_leave_99 : decode cX12_leave 99 = .ok (.aload_n 0, 1) := by decide +kernel
theorem dX12_leave_100 : decode cX12_leave 100 = .ok (.getfield 7, 3) := by decide +kernel
theorem dX12_leave_103 : decode cX12_leave 103 = .ok (.sipush 1552, 3) := by decide +kernel
theorem dX12_leave_106 : decode cX12_leave 106 = .ok (.bipush 13, 2) := by decide +kernel
theorem dX12_leave_108 : decode cX12_leave 108 = .ok (.iload_n 1, 1) := by decide +kernel
theorem dX12_leave_109 : decode cX12_leave 109 = .ok (.imul, 1) := by decide +kernel
theorem dX12_leave_110 : decode cX12_leave 110 = .ok (.iadd, 1) := by decide +kernel
theorem dX12_leave_111 : decode cX12_leave 111 = .ok (.iconst 3, 1) := by decide +kernel
theorem dX12_leave_112 : decode cX12_leave 112 = .ok (.iadd, 1) := by decide +kernel
theorem dX12_leave_113 : decode cX12_leave 113 = .ok (.iload_n 2, 1) := by decide +kernel
theorem dX12_leave_114 : decode cX12_leave 114 = .ok (.iadd, 1) := by decide +kernel
theorem dX12_leave_115 : decode cX12_leave 115 = .ok (.iconst 0, 1) := by decide +kernel
theorem dX12_leave_116 : decode cX12_leave 116 = .ok (.iastore, 1) := by decide +kernel
theorem dX12_leave_117 : decode cX12_leave 117 = .ok (.iload 5, 2) := by decide +kernel
theorem dX12_leave_119 : decode cX12_leave 119 = .ok (.iload 6, 2) := by decide +kernel
theorem dX12_leave_121 : decode cX12_leave 121 = .ok (.imul, 1) := by decide +kernel
theorem dX12_leave_122 : decode cX12_leave 122 = .ok (.bipush 100, 2) := by decide +kernel
theorem dX12_leave_124 : decode cX12_leave 124 = .ok (.idiv, 1) := by decide +kernel
theorem dX12_leave_125 : decode cX12_leave 125 = .ok (.ireturn, 1) := by decide +kernel
theorem dX12_parted_0 : decode cX12_parted 0 = .ok (.aload_n 0, 1) := by decide +kernel
theorem dX12_parted_1 : decode cX12_parted 1 = .ok (.iconst 4, 1) := by decide +kernel
theorem dX12_parted_2 : decode cX12_parted 2 = .ok (.iload_n 1, 1) := by decide +kernel
theorem dX12_parted_3 : decode cX12_parted 3 = .ok (.invokevirtual 173, 3) := by decide +kernel
theorem dX12_parted_6 : decode cX12_parted 6 = .ok (.ifCond .eq 24, 3) := by decide +kernel
theorem dX12_parted_9 : decode cX12_parted 9 = .ok (.iload_n 2, 1) := by decide +kernel
theorem dX12_parted_10 : decode cX12_parted 10 = .ok (.i2l, 1) := by decide +kernel
theorem dX12_parted_11 : decode cX12_parted 11 = .ok (.lconst 0, 1) := by decide +kernel
theorem dX12_parted_12 : decode cX12_parted 12 = .ok (.ldc2_w 212, 3) := by decide +kernel
theorem dX12_parted_15 : decode cX12_parted 15 = .ok (.invokestatic 79, 3) := by decide +kernel
theorem dX12_parted_18 : decode cX12_parted 18 = .ok (.ifCond .eq 12, 3) := by decide +kernel
theorem dX12_parted_21 : decode cX12_parted 21 = .ok (.aload_n 0, 1) := by decide +kernel
theorem dX12_parted_22 : decode cX12_parted 22 = .ok (.iconst 0, 1) := by decide +kernel
theorem dX12_parted_23 : decode cX12_parted 23 = .ok (.iload_n 3, 1) := by decide +kernel
theorem dX12_parted_24 : decode cX12_parted 24 = .ok (.invokevirtual 173, 3) := by decide +kernel
theorem dX12_parted_27 : decode cX12_parted 27 = .ok (.ifCond .ne 6, 3) := by decide +kernel
theorem dX12_parted_30 : decode cX12_parted 30 = .ok (.bipush (-2), 2) := by decide +kernel
theorem dX12_parted_32 : decode cX12_parted 32 = .ok (.ireturn, 1) := by decide +kernel
theorem dX12_parted_33 : decode cX12_parted 33 = .ok (.iload_n 2, 1) := by decide +kernel
theorem dX12_parted_34 : decode cX12_parted 34 = .ok (.iconst 3, 1) := by decide +kernel
theorem dX12_parted_35 : decode cX12_parted 35 = .ok (.idiv, 1) := by decide +kernel
theorem dX12_parted_36 : decode cX12_parted 36 = .ok (.istore 4, 2) := by decide +kernel
theorem dX12_parted_38 : decode cX12_parted 38 = .ok (.aload_n 0, 1) := by decide +kernel
theorem dX12_parted_39 : decode cX12_parted 39 = .ok (.iload_n 1, 1) := by decide +kernel
theorem dX12_parted_40 : decode cX12_parted 40 = .ok (.invokevirtual 209, 3) := by decide +kernel
theorem dX12_parted_43 : decode cX12_parted 43 = .ok (.istore 5, 2) := by decide +kernel
theorem dX12_parted_45 : decode cX12_parted 45 = .ok (.iload_n 2, 1) := by decide +kernel
theorem dX12_parted_46 : decode cX12_parted 46 = .ok (.iload 4, 2) := by decide +kernel
theorem dX12_parted_48 : decode cX12_parted 48 = .ok (.isub, 1) := by decide +kernel
theorem dX12_parted_49 : decode cX12_parted 49 = .ok (.istore 6, 2) := by decide +kernel
theorem dX12_parted_51 : decode cX12_parted 51 = .ok (.iconst 0, 1) := by decide +kernel
theorem dX12_parted_52 : decode cX12_parted 52 = .ok (.istore 7, 2) := by decide +kernel
theorem dX12_parted_54 : decode cX12_parted 54 = .ok (.iconst 0, 1) := by decide +kernel
theorem dX12_parted_55 : decode cX12_parted 55 = .ok (.istore 8, 2) := by decide +kernel
theorem dX12_parted_57 : decode cX12_parted 57 = .ok (.iconst 0, 1) := by decide +kernel
theorem dX12_parted_58 : decode cX12_parted 58 = .ok (.istore 9, 2) := by decide +kernel
theorem dX12_parted_60 : decode cX12_parted 60 = .ok (.iload 9, 2) := by decide +kernel
theorem dX12_parted_62 : decode cX12_parted 62 = .ok (.bipush 10, 2) := by decide +kernel
theorem dX12_parted_64 : decode cX12_parted 64 = .ok (.if_icmp .ge 59, 3) := by decide +kernel
theorem dX12_parted_67 : decode cX12_parted 67 = .ok (.iload 5, 2) := by decide +kernel
theorem dX12_parted_69 : decode cX12_parted 69 = .ok (.ifCond .le 54, 3) := by decide +kernel
theorem dX12_parted_72 : decode cX12_parted 72 = .ok (.iload_n 2, 1) := by decide +kernel
theorem dX12_parted_73 : decode cX12_parted 73 = .ok (.iload 4, 2) := by decide +kernel
theorem dX12_parted_75 : decode cX12_parted 75 = .ok (.isub, 1) := by decide +kernel
theorem dX12_parted_76 : decode cX12_parted 76 = .ok (.i2l, 1) := by decide +kernel
theorem dX12_parted_77 : decode cX12_parted 77 = .ok (.aload_n 0, 1) := by decide +kernel
theorem dX12_parted_78 : decode cX12_parted 78 = .ok (.iload_n 1, 1) := by decide +kernel
theorem dX12_parted_79 : decode cX12_parted 79 = .ok (.iconst 3, 1) := by decide +kernel
theorem dX12_parted_80 : decode cX12_parted 80 = .ok (.iload 9, 2) := by decide +kernel
theorem dX12_parted_82 : decode cX12_parted 82 = .ok (.iadd, 1) := by decide +kernel
theorem dX12_parted_83 : decode cX12_parted 83 = .ok (.invokevirtual 204, 3) := by decide +kernel
theorem dX12_parted_86 : decode cX12_parted 86 = .ok (.i2l, 1) := by decide +kernel
theorem dX12_parted_87 : decode cX12_parted 87 = .ok (.lmul, 1) := by decide +kernel
theorem dX12_parted_88 : decode cX12_parted 88 = .ok (.iload 5, 2) := by decide +kernel
theorem dX12_parted_90 : decode cX12_parted 90 = .ok (.i2l, 1) := by decide +kernel
theorem dX12_parted_91 : decode cX12_parted 91 = .ok (.ldiv, 1) := by decide +kernel
theorem dX12_parted_92 : decode cX12_parted 92 = .ok (.l2i, 1) := by decide +kernel
theorem dX12_parted_93 : decode cX12_parted 93 = .ok (.istore 10, 2) := by decide +kernel
theorem dX12_parted_95 : decode cX12_parted 95 = .ok (.iload 8, 2) := by decide +kernel
theorem dX12_parted_97 : decode cX12_parted 97 = .ok (.iload 10, 2) := by decide +kernel
theorem dX12_parted_99 : decode cX12_parted 99 = .ok (.iadd, 1) := by decide +kernel
theorem dX12_parted_100 : decode cX12_parted 100 = .ok (.istore 8, 2) := by decide +kernel
theorem dX12_parted_102 : decode cX12_parted 102 = .ok (.iload 9, 2) := by decide +kernel
theorem dX12_parted_104 : decode cX12_parted 104 = .ok (.iload_n 3, 1) := by decide +kernel
theorem dX12_parted_105 : decode cX12_parted 105 = .ok (.if_icmp .ne 8, 3) := by decide +kernel
theorem dX12_parted_108 : decode cX12_parted 108 = .ok (.iload 10, 2) := by decide +kernel
theorem dX12_parted_110 : decode cX12_parted 110 = .ok (.goto 5, 3) := by decide +kernel
theorem dX12_parted_113 : decode cX12_parted 113 = .ok (.iload 7, 2) := by decide +kernel
theorem dX12_parted_115 : decode cX12_parted 115 = .ok (.istore 7, 2) := by decide +kernel
theorem dX12_parted_117 : decode cX12_parted 117 = .ok (.iinc 9 1, 3) := by decide +kernel
theorem dX12_parted_120 : decode cX12_parted 120 = .ok (.goto (-60), 3) := by decide +kernel
theorem dX12_parted_123 : decode cX12_parted 123 = .ok (.iload 6, 2) := by decide +kernel
theorem dX12_parted_125 : decode cX12_parted 125 = .ok (.iload 8, 2) := by decide +kernel
theorem dX12_parted_127 : decode cX12_parted 127 = .ok (.isub, 1) := by decide +kernel
theorem dX12_parted_128 : decode cX12_parted 128 = .ok (.istore 6, 2) := by decide +kernel
theorem dX12_parted_130 : decode cX12_parted 130 = .ok (.iload_n 3, 1) := by decide +kernel
theorem dX12_parted_131 : decode cX12_parted 131 = .ok (.aload_n 0, 1) := by decide +kernel
theorem dX12_parted_132 : decode cX12_parted 132 = .ok (.iload_n 1, 1) := by decide +kernel
theorem dX12_parted_133 : decode cX12_parted 133 = .ok (.iconst 0, 1) := by decide +kernel
theorem dX12_parted_134 : decode cX12_parted 134 = .ok (.invokevirtual 204, 3) := by decide +kernel
theorem dX12_parted_137 : decode cX12_parted 137 = .ok (.if_icmp .ne 14, 3) := by decide +kernel
theorem dX12_parted_140 : decode cX12_parted 140 = .ok (.iload 7, 2) := by decide +kernel
theorem dX12_parted_142 : decode cX12_parted 142 = .ok (.iload 4, 2) := by decide +kernel
theorem dX12_parted_144 : decode cX12_parted 144 = .ok (.iadd, 1) := by decide +kernel
theorem dX12_parted_145 : decode cX12_parted 145 = .ok (.iload 6, 2) := by decide +kernel
theorem dX12_parted_147 : decode cX12_parted 147 = .ok (.iadd, 1) := by decide +kernel
theorem dX12_parted_148 : decode cX12_parted 148 = .ok (.goto 5, 3) := by decide +kernel
theorem dX12_parted_151 : decode cX12_parted 151 = .ok (.iload 7, 2) := by decide +kernel
theorem dX12_parted_153 : decode cX12_parted 153 = .ok (.ireturn, 1) := by decide +kernel
theorem dX12_gate_0 : decode cX12_gate 0 = .ok (.iload_n 1, 1) := by decide +kernel
theorem dX12_gate_1 : decode cX12_gate 1 = .ok (.i2l, 1) := by decide +kernel
theorem dX12_gate_2 : decode cX12_gate 2 = .ok (.lconst 0, 1) := by decide +kernel
theorem dX12_gate_3 : decode cX12_gate 3 = .ok (.lconst 1, 1) := by decide +kernel
theorem dX12_gate_4 : decode cX12_gate 4 = .ok (.invokestatic 79, 3) := by decide +kernel
theorem dX12_gate_7 : decode cX12_gate 7 = .ok (.ifCond .ne 6, 3) := by decide +kernel
theorem dX12_gate_10 : decode cX12_gate 10 = .ok (.bipush (-2), 2) := by decide +kernel
theorem dX12_gate_12 : decode cX12_gate 12 = .ok (.ireturn, 1) := by decide +kernel
theorem dX12_gate_13 : decode cX12_gate 13 = .ok (.aload_n 0, 1) := by decide +kernel
theorem dX12_gate_14 : decode cX12_gate 14 = .ok (.getfield 7, 3) := by decide +kernel
theorem dX12_gate_17 : decode cX12_gate 17 = .ok (.iconst 5, 1) := by decide +kernel
theorem dX12_gate_18 : decode cX12_gate 18 = .ok (.iaload, 1) := by decide +kernel
theorem dX12_gate_19 : decode cX12_gate 19 = .ok (.bipush 6, 2) := by decide +kernel
theorem dX12_gate_21 : decode cX12_gate 21 = .ok (.if_icmp .ne 6, 3) := by decide +kernel
theorem dX12_gate_24 : decode cX12_gate 24 = .ok (.bipush (-4), 2) := by decide +kernel
theorem dX12_gate_26 : decode cX12_gate 26 = .ok (.ireturn, 1) := by decide +kernel
theorem dX12_gate_27 : decode cX12_gate 27 = .ok (.aload_n 0, 1) := by decide +kernel
theorem dX12_gate_28 : decode cX12_gate 28 = .ok (.getfield 7, 3) := by decide +kernel
theorem dX12_gate_31 : decode cX12_gate 31 = .ok (.sipush 1591, 3) := by decide +kernel
theorem dX12_gate_34 : decode cX12_gate 34 = .ok (.aload_n 0, 1) := by decide +kernel
theorem dX12_gate_35 : decode cX12_gate 35 = .ok (.getfield 7, 3) := by decide +kernel
theorem dX12_gate_38 : decode cX12_gate 38 = .ok (.iconst 5, 1) := by decide +kernel
theorem dX12_gate_39 : decode cX12_gate 39 = .ok (.iaload, 1) := by decide +kernel
theorem dX12_gate_40 : decode cX12_gate 40 = .ok (.iadd, 1) := by decide +kernel
theorem dX12_gate_41 : decode cX12_gate 41 = .ok (.iload_n 1, 1) := by decide +kernel
theorem dX12_gate_42 : decode cX12_gate 42 = .ok (.iastore, 1) := by decide +kernel
theorem dX12_gate_43 : decode cX12_gate 43 = .ok (.aload_n 0, 1) := by decide +kernel
theorem dX12_gate_44 : decode cX12_gate 44 = .ok (.iconst 5, 1) := by decide +kernel
theorem dX12_gate_45 : decode cX12_gate 45 = .ok (.invokevirtual 91, 3) := by decide +kernel
theorem dX12_gate_48 : decode cX12_gate 48 = .ok (.iconst 1, 1) := by decide +kernel
theorem dX12_gate_49 : decode cX12_gate 49 = .ok (.iadd, 1) := by decide +kernel
theorem dX12_gate_50 : decode cX12_gate 50 = .ok (.ireturn, 1) := by decide +kernel
theorem dX12_isWeight_0 : decode cX12_isWeight 0 = .ok (.iload_n 0, 1) := by decide +kernel
theorem dX12_isWeight_1 : decode cX12_isWeight 1 = .ok (.i2l, 1) := by decide +kernel
theorem dX12_isWeight_2 : decode cX12_isWeight 2 = .ok (.lconst 1, 1) := by decide +kernel
theorem dX12_isWeight_3 : decode cX12_isWeight 3 = .ok (.ldc2_w 177, 3) := by decide +kernel
theorem dX12_isWeight_6 : decode cX12_isWeight 6 = .ok (.invokestatic 79, 3) := by decide +kernel
theorem dX12_isWeight_9 : decode cX12_isWeight 9 = .ok (.ireturn, 1) := by decide +kernel
theorem dX12_wideOf_0 : decode cX12_wideOf 0 = .ok (.iload_n 2, 1) := by decide +kernel
theorem dX12_wideOf_1 : decode cX12_wideOf 1 = .ok (.istore 4, 2) := by decide +kernel
theorem dX12_wideOf_3 : decode cX12_wideOf 3 = .ok (.iconst 0, 1) := by decide +kernel
theorem dX12_wideOf_4 : decode cX12_wideOf 4 = .ok (.istore 5, 2) := by decide +kernel
theorem dX12_wideOf_6 : decode cX12_wideOf 6 = .ok (.iload 5, 2) := by decide +kernel
theorem dX12_wideOf_8 : decode cX12_wideOf 8 = .ok (.aload_n 0, 1) := by decide +kernel
theorem dX12_wideOf_9 : decode cX12_wideOf 9 = .ok (.getfield 7, 3) := by decide +kernel
theorem dX12_wideOf_12 : decode cX12_wideOf 12 = .ok (.iconst 5, 1) := by decide +kernel
theorem dX12_wideOf_13 : decode cX12_wideOf 13 = .ok (.iaload, 1) := by decide +kernel
theorem dX12_wideOf_14 : decode cX12_wideOf 14 = .ok (.if_icmp .ge 71, 3) := by decide +kernel
theorem dX12_wideOf_17 : decode cX12_wideOf 17 = .ok (.aload_n 0, 1) := by decide +kernel
theorem dX12_wideOf_18 : decode cX12_wideOf 18 = .ok (.getfield 7, 3) := by decide +kernel
theorem dX12_wideOf_21 : decode cX12_wideOf 21 = .ok (.sipush 1591, 3) := by decide +kernel
theorem dX12_wideOf_24 : decode cX12_wideOf 24 = .ok (.iload 5, 2) := by decide +kernel
theorem dX12_wideOf_26 : decode cX12_wideOf 26 = .ok (.iadd, 1) := by decide +kernel
theorem dX12_wideOf_27 : decode cX12_wideOf 27 = .ok (.iaload, 1) := by decide +kernel
theorem dX12_wideOf_28 : decode cX12_wideOf 28 = .ok (.istore 6, 2) := by decide +kernel
theorem dX12_wideOf_30 : decode cX12_wideOf 30 = .ok (.aload_n 0, 1) := by decide +kernel
theorem dX12_wideOf_31 : decode cX12_wideOf 31 = .ok (.iconst 0, 1) := by decide +kernel
theorem dX12_wideOf_32 : decode cX12_wideOf 32 = .ok (.iload 5, 2) := by decide +kernel
theorem dX12_wideOf_34 : decode cX12_wideOf 34 = .ok (.aload_n 0, 1) := by decide +kernel
theorem dX12_wideOf_35 : decode cX12_wideOf 35 = .ok (.iload_n 1, 1) := by decide +kernel
theorem dX12_wideOf_36 : decode cX12_wideOf 36 = .ok (.invokevirtual 185, 3) := by decide +kernel
theorem dX12_wideOf_39 : decode cX12_wideOf 39 = .ok (.iload 6, 2) := by decide +kernel
theorem dX12_wideOf_41 : decode cX12_wideOf 41 = .ok (.if_icmp .ne 7, 3) := by decide +kernel
theorem dX12_wideOf_44 : decode cX12_wideOf 44 = .ok (.iconst 1, 1) := by decide +kernel
theorem dX12_wideOf_45 : decode cX12_wideOf 45 = .ok (.goto 4, 3) := by decide +kernel
theorem dX12_wideOf_48 : decode cX12_wideOf 48 = .ok (.iconst 0, 1) := by decide +kernel
theorem dX12_wideOf_49 : decode cX12_wideOf 49 = .ok (.iload 6, 2) := by decide +kernel
theorem dX12_wideOf_51 : decode cX12_wideOf 51 = .ok (.iload_n 3, 1) := by decide +kernel
theorem dX12_wideOf_52 : decode cX12_wideOf 52 = .ok (.iload 4, 2) := by decide +kernel
theorem dX12_wideOf_54 : decode cX12_wideOf 54 = .ok (.i2l, 1) := by decide +kernel
theorem dX12_wideOf_55 : decode cX12_wideOf 55 = .ok (.bipush 100, 2) := by decide +kernel
theorem dX12_wideOf_57 : decode cX12_wideOf 57 = .ok (.invokevirtual 188, 3) := by decide +kernel
theorem dX12_wideOf_60 : decode cX12_wideOf 60 = .ok (.istore 7, 2) := by decide +kernel
theorem dX12_wideOf_62 : decode cX12_wideOf 62 = .ok (.iload 4, 2) := by decide +kernel
theorem dX12_wideOf_64 : decode cX12_wideOf 64 = .ok (.iload 4, 2) := by decide +kernel
theorem dX12_wideOf_66 : decode cX12_wideOf 66 = .ok (.i2l, 1) := by decide +kernel
theorem dX12_wideOf_67 : decode cX12_wideOf 67 = .ok (.iload 7, 2) := by decide +kernel
theorem dX12_wideOf_69 : decode cX12_wideOf 69 = .ok (.i2l, 1) := by decide +kernel
theorem dX12_wideOf_70 : decode cX12_wideOf 70 = .ok (.lmul, 1) := by decide +kernel
theorem dX12_wideOf_71 : decode cX12_wideOf 71 = .ok (.ldc2_w 214, 3) := by decide +kernel
theorem dX12_wideOf_74 : decode cX12_wideOf 74 = .ok (.ldiv, 1) := by decide +kernel
theorem dX12_wideOf_75 : decode cX12_wideOf 75 = .ok (.l2i, 1) := by decide +kernel
theorem dX12_wideOf_76 : decode cX12_wideOf 76 = .ok (.isub, 1) := by decide +kernel
theorem dX12_wideOf_77 : decode cX12_wideOf 77 = .ok (.istore 4, 2) := by decide +kernel
theorem dX12_wideOf_79 : decode cX12_wideOf 79 = .ok (.iinc 5 1, 3) := by decide +kernel
theorem dX12_wideOf_82 : decode cX12_wideOf 82 = .ok (.goto (-76), 3) := by decide +kernel
theorem dX12_wideOf_85 : decode cX12_wideOf 85 = .ok (.iload 4, 2) := by decide +kernel
theorem dX12_wideOf_87 : decode cX12_wideOf 87 = .ok (.ireturn, 1) := by decide +kernel
theorem dX12_wide_0 : decode cX12_wide 0 = .ok (.aload_n 0, 1) := by decide +kernel
theorem dX12_wide_1 : decode cX12_wide 1 = .ok (.iconst 0, 1) := by decide +kernel
theorem dX12_wide_2 : decode cX12_wide 2 = .ok (.iload_n 1, 1) := by decide +kernel
theorem dX12_wide_3 : decode cX12_wide 3 = .ok (.invokevirtual 173, 3) := by decide +kernel
theorem dX12_wide_6 : decode cX12_wide 6 = .ok (.ifCond .eq 27, 3) := by decide +kernel
theorem dX12_wide_9 : decode cX12_wide 9 = .ok (.iload_n 2, 1) := by decide +kernel
theorem dX12_wide_10 : decode cX12_wide 10 = .ok (.invokestatic 216, 3) := by decide +kernel
theorem dX12_wide_13 : decode cX12_wide 13 = .ok (.ifCond .eq 20, 3) := by decide +kernel
theorem dX12_wide_16 : decode cX12_wide 16 = .ok (.iload_n 3, 1) := by decide +kernel
theorem dX12_wide_17 : decode cX12_wide 17 = .ok (.invokestatic 153, 3) := by decide +kernel
theorem dX12_wide_20 : decode cX12_wide 20 = .ok (.ifCond .eq 13, 3) := by decide +kernel
theorem dX12_wide_23 : decode cX12_wide 23 = .ok (.aload_n 0, 1) := by decide +kernel
theorem dX12_wide_24 : decode cX12_wide 24 = .ok (.iload_n 1, 1) := by decide +kernel
theorem dX12_wide_25 : decode cX12_wide 25 = .ok (.iload_n 2, 1) := by decide +kernel
theorem dX12_wide_26 : decode cX12_wide 26 = .ok (.iload_n 3, 1) := by decide +kernel
theorem dX12_wide_27 : decode cX12_wide 27 = .ok (.invokevirtual 219, 3) := by decide +kernel
theorem dX12_wide_30 : decode cX12_wide 30 = .ok (.goto 5, 3) := by decide +kernel
theorem dX12_wide_33 : decode cX12_wide 33 = .ok (.bipush (-2), 2) := by decide +kernel
theorem dX12_wide_35 : decode cX12_wide 35 = .ok (.ireturn, 1) := by decide +kernel
theorem dX12_narrow_0 : decode cX12_narrow 0 = .ok (.iload_n 1, 1) := by decide +kernel
theorem dX12_narrow_1 : decode cX12_narrow 1 = .ok (.i2l, 1) := by decide +kernel
theorem dX12_narrow_2 : decode cX12_narrow 2 = .ok (.ldc2_w 168, 3) := by decide +kernel
theorem dX12_narrow_5 : decode cX12_narrow 5 = .ok (.ldc2_w 214, 3) := by decide +kernel
theorem dX12_narrow_8 : decode cX12_narrow 8 = .ok (.invokestatic 79, 3) := by decide +kernel
theorem dX12_narrow_11 : decode cX12_narrow 11 = .ok (.ifCond .eq 13, 3) := by decide +kernel
theorem dX12_narrow_14 : decode cX12_narrow 14 = .ok (.aload_n 0, 1) := by decide +kernel
theorem dX12_narrow_15 : decode cX12_narrow 15 = .ok (.bipush 11, 2) := by decide +kernel
theorem dX12_narrow_17 : decode cX12_narrow 17 = .ok (.iload_n 1, 1) := by decide +kernel
theorem dX12_narrow_18 : decode cX12_narrow 18 = .ok (.invokevirtual 144, 3) := by decide +kernel
theorem dX12_narrow_21 : decode cX12_narrow 21 = .ok (.goto 5, 3) := by decide +kernel
theorem dX12_narrow_24 : decode cX12_narrow 24 = .ok (.bipush (-2), 2) := by decide +kernel
theorem dX12_narrow_26 : decode cX12_narrow 26 = .ok (.ireturn, 1) := by decide +kernel
theorem dX12_divisor_0 : decode cX12_divisor 0 = .ok (.lload_n 0, 1) := by decide +kernel
theorem dX12_divisor_1 : decode cX12_divisor 1 = .ok (.lstore 4, 2) := by decide +kernel
theorem dX12_divisor_3 : decode cX12_divisor 3 = .ok (.lload_n 2, 1) := by decide +kernel
theorem dX12_divisor_4 : decode cX12_divisor 4 = .ok (.lstore 6, 2) := by decide +kernel
theorem dX12_divisor_6 : decode cX12_divisor 6 = .ok (.lload 6, 2) := by decide +kernel
theorem dX12_divisor_8 : decode cX12_divisor 8 = .ok (.lconst 0, 1) := by decide +kernel
theorem dX12_divisor_9 : decode cX12_divisor 9 = .ok (.lcmp, 1) := by decide +kernel
theorem dX12_divisor_10 : decode cX12_divisor 10 = .ok (.ifCond .eq 21, 3) := by decide +kernel
theorem dX12_divisor_13 : decode cX12_divisor 13 = .ok (.lload 4, 2) := by decide +kernel
theorem dX12_divisor_15 : decode cX12_divisor 15 = .ok (.lload 6, 2) := by decide +kernel
theorem dX12_divisor_17 : decode cX12_divisor 17 = .ok (.lrem, 1) := by decide +kernel
theorem dX12_divisor_18 : decode cX12_divisor 18 = .ok (.lstore 8, 2) := by decide +kernel
theorem dX12_divisor_20 : decode cX12_divisor 20 = .ok (.lload 6, 2) := by decide +kernel
theorem dX12_divisor_22 : decode cX12_divisor 22 = .ok (.lstore 4, 2) := by decide +kernel
theorem dX12_divisor_24 : decode cX12_divisor 24 = .ok (.lload 8, 2) := by decide +kernel
theorem dX12_divisor_26 : decode cX12_divisor 26 = .ok (.lstore 6, 2) := by decide +kernel
theorem dX12_divisor_28 : decode cX12_divisor 28 = .ok (.goto (-22), 3) := by decide +kernel
theorem dX12_divisor_31 : decode cX12_divisor 31 = .ok (.lload 4, 2) := by decide +kernel
theorem dX12_divisor_33 : decode cX12_divisor 33 = .ok (.lreturn, 1) := by decide +kernel
theorem dX12_tellsFraction_0 : decode cX12_tellsFraction 0 = .ok (.lload_n 1, 1) := by decide +kernel
theorem dX12_tellsFraction_1 : decode cX12_tellsFraction 1 = .ok (.lload_n 3, 1) := by decide +kernel
theorem dX12_tellsFraction_2 : decode cX12_tellsFraction 2 = .ok (.invokestatic 223, 3) := by decide +kernel
theorem dX12_tellsFraction_5 : decode cX12_tellsFraction 5 = .ok (.lstore 5, 2) := by decide +kernel
theorem dX12_tellsFraction_7 : decode cX12_tellsFraction 7 = .ok (.aload_n 0, 1) := by decide +kernel
theorem dX12_tellsFraction_8 : decode cX12_tellsFraction 8 = .ok (.lload_n 1, 1) := by decide +kernel
theorem dX12_tellsFraction_9 : decode cX12_tellsFraction 9 = .ok (.lload 5, 2) := by decide +kernel
theorem dX12_tellsFraction_11 : decode cX12_tellsFraction 11 = .ok (.ldiv, 1) := by decide +kernel
theorem dX12_tellsFraction_12 : decode cX12_tellsFraction 12 = .ok (.putfield 227, 3) := by decide +kernel
theorem dX12_tellsFraction_15 : decode cX12_tellsFraction 15 = .ok (.aload_n 0, 1) := by decide +kernel
theorem dX12_tellsFraction_16 : decode cX12_tellsFraction 16 = .ok (.lload_n 3, 1) := by decide +kernel
theorem dX12_tellsFraction_17 : decode cX12_tellsFraction 17 = .ok (.lload 5, 2) := by decide +kernel
theorem dX12_tellsFraction_19 : decode cX12_tellsFraction 19 = .ok (.ldiv, 1) := by decide +kernel
theorem dX12_tellsFraction_20 : decode cX12_tellsFraction 20 = .ok (.putfield 75, 3) := by decide +kernel
theorem dX12_tellsFraction_23 : decode cX12_tellsFraction 23 = .ok (.iconst 1, 1) := by decide +kernel
theorem dX12_tellsFraction_24 : decode cX12_tellsFraction 24 = .ok (.ireturn, 1) := by decide +kernel
theorem dX12_mean_0 : decode cX12_mean 0 = .ok (.iload_n 1, 1) := by decide +kernel
theorem dX12_mean_1 : decode cX12_mean 1 = .ok (.invokestatic 216, 3) := by decide +kernel
theorem dX12_mean_4 : decode cX12_mean 4 = .ok (.ifCond .eq 31, 3) := by decide +kernel
theorem dX12_mean_7 : decode cX12_mean 7 = .ok (.aload_n 0, 1) := by decide +kernel
theorem dX12_mean_8 : decode cX12_mean 8 = .ok (.iload_n 1, 1) := by decide +kernel
theorem dX12_mean_9 : decode cX12_mean 9 = .ok (.i2l, 1) := by decide +kernel
theorem dX12_mean_10 : decode cX12_mean 10 = .ok (.aload_n 0, 1) := by decide +kernel
theorem dX12_mean_11 : decode cX12_mean 11 = .ok (.getfield 7, 3) := by decide +kernel
theorem dX12_mean_14 : decode cX12_mean 14 = .ok (.bipush 11, 2) := by decide +kernel
theorem dX12_mean_16 : decode cX12_mean 16 = .ok (.iaload, 1) := by decide +kernel
theorem dX12_mean_17 : decode cX12_mean 17 = .ok (.iconst 1, 1) := by decide +kernel
theorem dX12_mean_18 : decode cX12_mean 18 = .ok (.isub, 1) := by decide +kernel
theorem dX12_mean_19 : decode cX12_mean 19 = .ok (.i2l, 1) := by decide +kernel
theorem dX12_mean_20 : decode cX12_mean 20 = .ok (.lmul, 1) := by decide +kernel
theorem dX12_mean_21 : decode cX12_mean 21 = .ok (.aload_n 0, 1) := by decide +kernel
theorem dX12_mean_22 : decode cX12_mean 22 = .ok (.getfield 7, 3) := by decide +kernel
theorem dX12_mean_25 : decode cX12_mean 25 = .ok (.bipush 11, 2) := by decide +kernel
theorem dX12_mean_27 : decode cX12_mean 27 = .ok (.iaload, 1) := by decide +kernel
theorem dX12_mean_28 : decode cX12_mean 28 = .ok (.i2l, 1) := by decide +kernel
theorem dX12_mean_29 : decode cX12_mean 29 = .ok (.invokevirtual 230, 3) := by decide +kernel
theorem dX12_mean_32 : decode cX12_mean 32 = .ok (.goto 5, 3) := by decide +kernel
theorem dX12_mean_35 : decode cX12_mean 35 = .ok (.bipush (-2), 2) := by decide +kernel
theorem dX12_mean_37 : decode cX12_mean 37 = .ok (.ireturn, 1) := by decide +kernel
theorem dX12_better_0 : decode cX12_better 0 = .ok (.aload_n 0, 1) := by decide +kernel
theorem dX12_better_1 : decode cX12_better 1 = .ok (.iconst 0, 1) := by decide +kernel
theorem dX12_better_2 : decode cX12_better 2 = .ok (.iload_n 1, 1) := by decide +kernel
theorem dX12_better_3 : decode cX12_better 3 = .ok (.invokevirtual 173, 3) := by decide +kernel
theorem dX12_better_6 : decode cX12_better 6 = .ok (.ifCond .eq 17, 3) := by decide +kernel
theorem dX12_better_9 : decode cX12_better 9 = .ok (.iload_n 2, 1) := by decide +kernel
theorem dX12_better_10 : decode cX12_better 10 = .ok (.invokestatic 216, 3) := by decide +kernel
theorem dX12_better_13 : decode cX12_better 13 = .ok (.ifCond .eq 10, 3) := by decide +kernel
theorem dX12_better_16 : decode cX12_better 16 = .ok (.iload_n 3, 1) := by decide +kernel
theorem dX12_better_17 : decode cX12_better 17 = .ok (.invokestatic 153, 3) := by decide +kernel
theorem dX12_better_20 : decode cX12_better 20 = .ok (.ifCond .ne 6, 3) := by decide +kernel
theorem dX12_better_23 : decode cX12_better 23 = .ok (.bipush (-2), 2) := by decide +kernel
theorem dX12_better_25 : decode cX12_better 25 = .ok (.ireturn, 1) := by decide +kernel
theorem dX12_better_26 : decode cX12_better 26 = .ok (.iload_n 2, 1) := by decide +kernel
theorem dX12_better_27 : decode cX12_better 27 = .ok (.i2l, 1) := by decide +kernel
theorem dX12_better_28 : decode cX12_better 28 = .ok (.aload_n 0, 1) := by decide +kernel
theorem dX12_better_29 : decode cX12_better 29 = .ok (.getfield 7, 3) := by decide +kernel
theorem dX12_better_32 : decode cX12_better 32 = .ok (.bipush 11, 2) := by decide +kernel
theorem dX12_better_34 : decode cX12_better 34 = .ok (.iaload, 1) := by decide +kernel
theorem dX12_better_35 : decode cX12_better 35 = .ok (.iconst 1, 1) := by decide +kernel
theorem dX12_better_36 : decode cX12_better 36 = .ok (.isub, 1) := by decide +kernel
theorem dX12_better_37 : decode cX12_better 37 = .ok (.i2l, 1) := by decide +kernel
theorem dX12_better_38 : decode cX12_better 38 = .ok (.lmul, 1) := by decide +kernel
theorem dX12_better_39 : decode cX12_better 39 = .ok (.aload_n 0, 1) := by decide +kernel
theorem dX12_better_40 : decode cX12_better 40 = .ok (.iload_n 1, 1) := by decide +kernel
theorem dX12_better_41 : decode cX12_better 41 = .ok (.iload_n 2, 1) := by decide +kernel
theorem dX12_better_42 : decode cX12_better 42 = .ok (.iload_n 3, 1) := by decide +kernel
theorem dX12_better_43 : decode cX12_better 43 = .ok (.invokevirtual 219, 3) := by decide +kernel
theorem dX12_better_46 : decode cX12_better 46 = .ok (.i2l, 1) := by decide +kernel
theorem dX12_better_47 : decode cX12_better 47 = .ok (.aload_n 0, 1) := by decide +kernel
theorem dX12_better_48 : decode cX12_better 48 = .ok (.getfield 7, 3) := by decide +kernel
theorem dX12_better_51 : decode cX12_better 51 = .ok (.bipush 11, 2) := by decide +kernel
theorem dX12_better_53 : decode cX12_better 53 = .ok (.iaload, 1) := by decide +kernel
theorem dX12_better_54 : decode cX12_better 54 = .ok (.i2l, 1) := by decide +kernel
theorem dX12_better_55 : decode cX12_better 55 = .ok (.lmul, 1) := by decide +kernel
theorem dX12_better_56 : decode cX12_better 56 = .ok (.lcmp, 1) := by decide +kernel
theorem dX12_better_57 : decode cX12_better 57 = .ok (.ifCond .le 7, 3) := by decide +kernel
theorem dX12_better_60 : decode cX12_better 60 = .ok (.iconst 1, 1) := by decide +kernel
theorem dX12_better_61 : decode cX12_better 61 = .ok (.goto 4, 3) := by decide +kernel
theorem dX12_better_64 : decode cX12_better 64 = .ok (.iconst 0, 1) := by decide +kernel
theorem dX12_better_65 : decode cX12_better 65 = .ok (.ireturn, 1) := by decide +kernel
theorem dX12_stone_0 : decode cX12_stone 0 = .ok (.iload_n 1, 1) := by decide +kernel
theorem dX12_stone_1 : decode cX12_stone 1 = .ok (.i2l, 1) := by decide +kernel
theorem dX12_stone_2 : decode cX12_stone 2 = .ok (.lconst 1, 1) := by decide +kernel
theorem dX12_stone_3 : decode cX12_stone 3 = .ok (.ldc2_w 202, 3) := by decide +kernel
theorem dX12_stone_6 : decode cX12_stone 6 = .ok (.invokestatic 79, 3) := by decide +kernel
theorem dX12_stone_9 : decode cX12_stone 9 = .ok (.ifCond .eq 28, 3) := by decide +kernel
theorem dX12_stone_12 : decode cX12_stone 12 = .ok (.iload_n 2, 1) := by decide +kernel
theorem dX12_stone_13 : decode cX12_stone 13 = .ok (.i2l, 1) := by decide +kernel
theorem dX12_stone_14 : decode cX12_stone 14 = .ok (.lconst 1, 1) := by decide +kernel
theorem dX12_stone_15 : decode cX12_stone 15 = .ok (.ldc2_w 202, 3) := by decide +kernel
theorem dX12_stone_18 : decode cX12_stone 18 = .ok (.invokestatic 79, 3) := by decide +kernel
theorem dX12_stone_21 : decode cX12_stone 21 = .ok (.ifCond .eq 16, 3) := by decide +kernel
theorem dX12_stone_24 : decode cX12_stone 24 = .ok (.iload_n 3, 1) := by decide +kernel
theorem dX12_stone_25 : decode cX12_stone 25 = .ok (.i2l, 1) := by decide +kernel
theorem dX12_stone_26 : decode cX12_stone 26 = .ok (.lconst 0, 1) := by decide +kernel
theorem dX12_stone_27 : decode cX12_stone 27 = .ok (.iload_n 2, 1) := by decide +kernel
theorem dX12_stone_28 : decode cX12_stone 28 = .ok (.iconst 1, 1) := by decide +kernel
theorem dX12_stone_29 : decode cX12_stone 29 = .ok (.isub, 1) := by decide +kernel
theorem dX12_stone_30 : decode cX12_stone 30 = .ok (.i2l, 1) := by decide +kernel
theorem dX12_stone_31 : decode cX12_stone 31 = .ok (.invokestatic 79, 3) := by decide +kernel
theorem dX12_stone_34 : decode cX12_stone 34 = .ok (.ifCond .ne 6, 3) := by decide +kernel
theorem dX12_stone_37 : decode cX12_stone 37 = .ok (.bipush (-2), 2) := by decide +kernel
theorem dX12_stone_39 : decode cX12_stone 39 = .ok (.ireturn, 1) := by decide +kernel
theorem dX12_stone_40 : decode cX12_stone 40 = .ok (.aload_n 0, 1) := by decide +kernel
theorem dX12_stone_41 : decode cX12_stone 41 = .ok (.getfield 7, 3) := by decide +kernel
theorem dX12_stone_44 : decode cX12_stone 44 = .ok (.bipush 6, 2) := by decide +kernel
theorem dX12_stone_46 : decode cX12_stone 46 = .ok (.iaload, 1) := by decide +kernel
theorem dX12_stone_47 : decode cX12_stone 47 = .ok (.bipush 12, 2) := by decide +kernel
theorem dX12_stone_49 : decode cX12_stone 49 = .ok (.if_icmp .ne 6, 3) := by decide +kernel
theorem dX12_stone_52 : decode cX12_stone 52 = .ok (.bipush (-4), 2) := by decide +kernel
theorem dX12_stone_54 : decode cX12_stone 54 = .ok (.ireturn, 1) := by decide +kernel
theorem dX12_stone_55 : decode cX12_stone 55 = .ok (.sipush 1597, 3) := by decide +kernel
theorem dX12_stone_58 : decode cX12_stone 58 = .ok (.iconst 3, 1) := by decide +kernel
theorem dX12_stone_59 : decode cX12_stone 59 = .ok (.aload_n 0, 1) := by decide +kernel
theorem dX12_stone_60 : decode cX12_stone 60 = .ok (.getfield 7, 3) := by decide +kernel
theorem dX12_stone_63 : decode cX12_stone 63 = .ok (.bipush 6, 2) := by decide +kernel
theorem dX12_stone_65 : decode cX12_stone 65 = .ok (.iaload, 1) := by decide +kernel
theorem dX12_stone_66 : decode cX12_stone 66 = .ok (.imul, 1) := by decide +kernel
theorem dX12_stone_67 : decode cX12_stone 67 = .ok (.iadd, 1) := by decide +kernel
theorem dX12_stone_68 : decode cX12_stone 68 = .ok (.istore 4, 2) := by decide +kernel
theorem dX12_stone_70 : decode cX12_stone 70 = .ok (.aload_n 0, 1) := by decide +kernel
theorem dX12_stone_71 : decode cX12_stone 71 = .ok (.getfield 7, 3) := by decide +kernel
theorem dX12_stone_74 : decode cX12_stone 74 = .ok (.iload 4, 2) := by decide +kernel
theorem dX12_stone_76 : decode cX12_stone 76 = .ok (.iload_n 1, 1) := by decide +kernel
theorem dX12_stone_77 : decode cX12_stone 77 = .ok (.iastore, 1) := by decide +kernel
theorem dX12_stone_78 : decode cX12_stone 78 = .ok (.aload_n 0, 1) := by decide +kernel
theorem dX12_stone_79 : decode cX12_stone 79 = .ok (.getfield 7, 3) := by decide +kernel
theorem dX12_stone_82 : decode cX12_stone 82 = .ok (.iload 4, 2) := by decide +kernel
theorem dX12_stone_84 : decode cX12_stone 84 = .ok (.iconst 1, 1) := by decide +kernel
theorem dX12_stone_85 : decode cX12_stone 85 = .ok (.iadd, 1) := by decide +kernel
theorem dX12_stone_86 : decode cX12_stone 86 = .ok (.iload_n 2, 1) := by decide +kernel
theorem dX12_stone_87 : decode cX12_stone 87 = .ok (.iastore, 1) := by decide +kernel
theorem dX12_stone_88 : decode cX12_stone 88 = .ok (.aload_n 0, 1) := by decide +kernel
theorem dX12_stone_89 : decode cX12_stone 89 = .ok (.getfield 7, 3) := by decide +kernel
theorem dX12_stone_92 : decode cX12_stone 92 = .ok (.iload 4, 2) := by decide +kernel
theorem dX12_stone_94 : decode cX12_stone 94 = .ok (.iconst 2, 1) := by decide +kernel
theorem dX12_stone_95 : decode cX12_stone 95 = .ok (.iadd, 1) := by decide +kernel
theorem dX12_stone_96 : decode cX12_stone 96 = .ok (.iload_n 3, 1) := by decide +kernel
theorem dX12_stone_97 : decode cX12_stone 97 = .ok (.iastore, 1) := by decide +kernel
theorem dX12_stone_98 : decode cX12_stone 98 = .ok (.aload_n 0, 1) := by decide +kernel
theorem dX12_stone_99 : decode cX12_stone 99 = .ok (.bipush 6, 2) := by decide +kernel
theorem dX12_stone_101 : decode cX12_stone 101 = .ok (.invokevirtual 91, 3) := by decide +kernel
theorem dX12_stone_104 : decode cX12_stone 104 = .ok (.iconst 1, 1) := by decide +kernel
theorem dX12_stone_105 : decode cX12_stone 105 = .ok (.iadd, 1) := by decide +kernel
theorem dX12_stone_106 : decode cX12_stone 106 = .ok (.ireturn, 1) := by decide +kernel
theorem dX12_span_0 : decode cX12_span 0 = .ok (.iload_n 1, 1) := by decide +kernel
theorem dX12_span_1 : decode cX12_span 1 = .ok (.invokestatic 216, 3) := by decide +kernel
theorem dX12_span_4 : decode cX12_span 4 = .ok (.ifCond .eq 13, 3) := by decide +kernel
theorem dX12_span_7 : decode cX12_span 7 = .ok (.iload_n 2, 1) := by decide +kernel
theorem dX12_span_8 : decode cX12_span 8 = .ok (.i2l, 1) := by decide +kernel
theorem dX12_span_9 : decode cX12_span 9 = .ok (.lconst 0, 1) := by decide +kernel
theorem dX12_span_10 : decode cX12_span 10 = .ok (.lconst 1, 1) := by decide +kernel
theorem dX12_span_11 : decode cX12_span 11 = .ok (.invokestatic 79, 3) := by decide +kernel
theorem dX12_span_14 : decode cX12_span 14 = .ok (.ifCond .ne 6, 3) := by decide +kernel
theorem dX12_span_17 : decode cX12_span 17 = .ok (.bipush (-2), 2) := by decide +kernel
theorem dX12_span_19 : decode cX12_span 19 = .ok (.ireturn, 1) := by decide +kernel
theorem dX12_span_20 : decode cX12_span 20 = .ok (.lconst 0, 1) := by decide +kernel
theorem dX12_span_21 : decode cX12_span 21 = .ok (.lstore_n 3, 1) := by decide +kernel
theorem dX12_span_22 : decode cX12_span 22 = .ok (.lconst 1, 1) := by decide +kernel
theorem dX12_span_23 : decode cX12_span 23 = .ok (.lstore 5, 2) := by decide +kernel
theorem dX12_span_25 : decode cX12_span 25 = .ok (.lconst 1, 1) := by decide +kernel
theorem dX12_span_26 : decode cX12_span 26 = .ok (.lstore 7, 2) := by decide +kernel
theorem dX12_span_28 : decode cX12_span 28 = .ok (.lconst 0, 1) := by decide +kernel
theorem dX12_span_29 : decode cX12_span 29 = .ok (.lstore 9, 2) := by decide +kernel
theorem dX12_span_31 : decode cX12_span 31 = .ok (.iconst 0, 1) := by decide +kernel
theorem dX12_span_32 : decode cX12_span 32 = .ok (.istore 11, 2) := by decide +kernel
theorem dX12_span_34 : decode cX12_span 34 = .ok (.iload 11, 2) := by decide +kernel
theorem dX12_span_36 : decode cX12_span 36 = .ok (.aload_n 0, 1) := by decide +kernel
theorem dX12_span_37 : decode cX12_span 37 = .ok (.getfield 7, 3) := by decide +kernel
theorem dX12_span_40 : decode cX12_span 40 = .ok (.bipush 6, 2) := by decide +kernel
theorem dX12_span_42 : decode cX12_span 42 = .ok (.iaload, 1) := by decide +kernel
theorem dX12_span_43 : decode cX12_span 43 = .ok (.if_icmp .ge 121, 3) := by decide +kernel
theorem dX12_span_46 : decode cX12_span 46 = .ok (.sipush 1597, 3) := by decide +kernel
theorem dX12_span_49 : decode cX12_span 49 = .ok (.iconst 3, 1) := by decide +kernel
theorem dX12_span_50 : decode cX12_span 50 = .ok (.iload 11, 2) := by decide +kernel
theorem dX12_span_52 : decode cX12_span 52 = .ok (.imul, 1) := by decide +kernel
theorem dX12_span_53 : decode cX12_span 53 = .ok (.iadd, 1) := by decide +kernel
theorem dX12_span_54 : decode cX12_span 54 = .ok (.istore 12, 2) := by decide +kernel
theorem dX12_span_56 : decode cX12_span 56 = .ok (.aload_n 0, 1) := by decide +kernel
theorem dX12_span_57 : decode cX12_span 57 = .ok (.getfield 7, 3) := by decide +kernel
theorem dX12_span_60 : decode cX12_span 60 = .ok (.iload 12, 2) := by decide +kernel
theorem dX12_span_62 : decode cX12_span 62 = .ok (.iaload, 1) := by decide +kernel
theorem dX12_span_63 : decode cX12_span 63 = .ok (.i2l, 1) := by decide +kernel
theorem dX12_span_64 : decode cX12_span 64 = .ok (.lstore 13, 2) := by decide +kernel
theorem dX12_span_66 : decode cX12_span 66 = .ok (.iload_n 1, 1) := by decide +kernel
theorem dX12_span_67 : decode cX12_span 67 = .ok (.i2l, 1) := by decide +kernel
theorem dX12_span_68 : decode cX12_span 68 = .ok (.aload_n 0, 1) := by decide +kernel
theorem dX12_span_69 : decode cX12_span 69 = .ok (.getfield 7, 3) := by decide +kernel
theorem dX12_span_72 : decode cX12_span 72 = .ok (.iload 12, 2) := by decide +kernel
theorem dX12_span_74 : decode cX12_span 74 = .ok (.iconst 1, 1) := by decide +kernel
theorem dX12_span_75 : decode cX12_span 75 = .ok (.iadd, 1) := by decide +kernel
theorem dX12_span_76 : decode cX12_span 76 = .ok (.iaload, 1) := by decide +kernel
theorem dX12_span_77 : decode cX12_span 77 = .ok (.aload_n 0, 1) := by decide +kernel
theorem dX12_span_78 : decode cX12_span 78 = .ok (.getfield 7, 3) := by decide +kernel
theorem dX12_span_81 : decode cX12_span 81 = .ok (.iload 12, 2) := by decide +kernel
theorem dX12_span_83 : decode cX12_span 83 = .ok (.iconst 2, 1) := by decide +kernel
theorem dX12_span_84 : decode cX12_span 84 = .ok (.iadd, 1) := by decide +kernel
theorem dX12_span_85 : decode cX12_span 85 = .ok (.iaload, 1) := by decide +kernel
theorem dX12_span_86 : decode cX12_span 86 = .ok (.isub, 1) := by decide +kernel
theorem dX12_span_87 : decode cX12_span 87 = .ok (.i2l, 1) := by decide +kernel
theorem dX12_span_88 : decode cX12_span 88 = .ok (.lmul, 1) := by decide +kernel
theorem dX12_span_89 : decode cX12_span 89 = .ok (.lstore 15, 2) := by decide +kernel
theorem dX12_span_91 : decode cX12_span 91 = .ok (.iload_n 1, 1) := by decide +kernel
theorem dX12_span_92 : decode cX12_span 92 = .ok (.i2l, 1) := by decide +kernel
theorem dX12_span_93 : decode cX12_span 93 = .ok (.aload_n 0, 1) := by decide +kernel
theorem dX12_span_94 : decode cX12_span 94 = .ok (.getfield 7, 3) := by decide +kernel
theorem dX12_span_97 : decode cX12_span 97 = .ok (.iload 12, 2) := by decide +kernel
theorem dX12_span_99 : decode cX12_span 99 = .ok (.iconst 1, 1) := by decide +kernel
theorem dX12_span_100 : decode cX12_span 100 = .ok (.iadd, 1) := by decide +kernel
theorem dX12_span_101 : decode cX12_span 101 = .ok (.iaload, 1) := by decide +kernel
theorem dX12_span_102 : decode cX12_span 102 = .ok (.aload_n 0, 1) := by decide +kernel
theorem dX12_span_103 : decode cX12_span 103 = .ok (.getfield 7, 3) := by decide +kernel
theorem dX12_span_106 : decode cX12_span 106 = .ok (.iload 12, 2) := by decide +kernel
theorem dX12_span_108 : decode cX12_span 108 = .ok (.iconst 2, 1) := by decide +kernel
theorem dX12_span_109 : decode cX12_span 109 = .ok (.iadd, 1) := by decide +kernel
theorem dX12_span_110 : decode cX12_span 110 = .ok (.iaload, 1) := by decide +kernel
theorem dX12_span_111 : decode cX12_span 111 = .ok (.iadd, 1) := by decide +kernel
theorem dX12_span_112 : decode cX12_span 112 = .ok (.i2l, 1) := by decide +kernel
theorem dX12_span_113 : decode cX12_span 113 = .ok (.lmul, 1) := by decide +kernel
theorem dX12_span_114 : decode cX12_span 114 = .ok (.lstore 17, 2) := by decide +kernel
theorem dX12_span_116 : decode cX12_span 116 = .ok (.lload 15, 2) := by decide +kernel
theorem dX12_span_118 : decode cX12_span 118 = .ok (.lload 5, 2) := by decide +kernel
theorem dX12_span_120 : decode cX12_span 120 = .ok (.lmul, 1) := by decide +kernel
theorem dX12_span_121 : decode cX12_span 121 = .ok (.lload_n 3, 1) := by decide +kernel
theorem dX12_span_122 : decode cX12_span 122 = .ok (.lload 13, 2) := by decide +kernel
theorem dX12_span_124 : decode cX12_span 124 = .ok (.lmul, 1) := by decide +kernel
theorem dX12_span_125 : decode cX12_span 125 = .ok (.lcmp, 1) := by decide +kernel
theorem dX12_span_126 : decode cX12_span 126 = .ok (.ifCond .le 10, 3) := by decide +kernel
theorem dX12_span_129 : decode cX12_span 129 = .ok (.lload 15, 2) := by decide +kernel
theorem dX12_span_131 : decode cX12_span 131 = .ok (.lstore_n 3, 1) := by decide +kernel
theorem dX12_span_132 : decode cX12_span 132 = .ok (.lload 13, 2) := by decide +kernel
theorem dX12_span_134 : decode cX12_span 134 = .ok (.lstore 5, 2) := by decide +kernel
theorem dX12_span_136 : decode cX12_span 136 = .ok (.lload 17, 2) := by decide +kernel
theorem dX12_span_138 : decode cX12_span 138 = .ok (.lload 9, 2) := by decide +kernel
theorem dX12_span_140 : decode cX12_span 140 = .ok (.lmul, 1) := by decide +kernel
theorem dX12_span_141 : decode cX12_span 141 = .ok (.lload 7, 2) := by decide +kernel
theorem dX12_span_143 : decode cX12_span 143 = .ok (.lload 13, 2) := by decide +kernel
theorem dX12_span_145 : decode cX12_span 145 = .ok (.lmul, 1) := by decide +kernel
theorem dX12_span_146 : decode cX12_span 146 = .ok (.lcmp, 1) := by decide +kernel
theorem dX12_span_147 : decode cX12_span 147 = .ok (.ifCond .ge 11, 3) := by decide +kernel
theorem dX12_span_150 : decode cX12_span 150 = .ok (.lload 17, 2) := by decide +kernel
theorem dX12_span_152 : decode cX12_span 152 = .ok (.lstore 7, 2) := by decide +kernel
theorem dX12_span_154 : decode cX12_span 154 = .ok (.lload 13, 2) := by decide +kernel
theorem dX12_span_156 : decode cX12_span 156 = .ok (.lstore 9, 2) := by decide +kernel
theorem dX12_span_158 : decode cX12_span 158 = .ok (.iinc 11 1, 3) := by decide +kernel
theorem dX12_span_161 : decode cX12_span 161 = .ok (.goto (-127), 3) := by decide +kernel
theorem dX12_span_164 : decode cX12_span 164 = .ok (.aload_n 0, 1) := by decide +kernel
theorem dX12_span_165 : decode cX12_span 165 = .ok (.getfield 7, 3) := by decide +kernel
theorem dX12_span_168 : decode cX12_span 168 = .ok (.bipush 6, 2) := by decide +kernel
theorem dX12_span_170 : decode cX12_span 170 = .ok (.iaload, 1) := by decide +kernel
theorem dX12_span_171 : decode cX12_span 171 = .ok (.ifCond .eq 16, 3) := by decide +kernel
theorem dX12_span_174 : decode cX12_span 174 = .ok (.lload_n 3, 1) := by decide +kernel
theorem dX12_span_175 : decode cX12_span 175 = .ok (.lload 9, 2) := by decide +kernel
theorem dX12_span_177 : decode cX12_span 177 = .ok (.lmul, 1) := by decide +kernel
theorem dX12_span_178 : decode cX12_span 178 = .ok (.lload 7, 2) := by decide +kernel
theorem dX12_span_180 : decode cX12_span 180 = .ok (.lload 5, 2) := by decide +kernel
theorem dX12_span_182 : decode cX12_span 182 = .ok (.lmul, 1) := by decide +kernel
theorem dX12_span_183 : decode cX12_span 183 = .ok (.lcmp, 1) := by decide +kernel
theorem dX12_span_184 : decode cX12_span 184 = .ok (.ifCond .le 5, 3) := by decide +kernel
theorem dX12_span_187 : decode cX12_span 187 = .ok (.iconst 0, 1) := by decide +kernel
theorem dX12_span_188 : decode cX12_span 188 = .ok (.ireturn, 1) := by decide +kernel
theorem dX12_span_189 : decode cX12_span 189 = .ok (.iload_n 2, 1) := by decide +kernel
theorem dX12_span_190 : decode cX12_span 190 = .ok (.ifCond .ne 13, 3) := by decide +kernel
theorem dX12_span_193 : decode cX12_span 193 = .ok (.aload_n 0, 1) := by decide +kernel
theorem dX12_span_194 : decode cX12_span 194 = .ok (.lload_n 3, 1) := by decide +kernel
theorem dX12_span_195 : decode cX12_span 195 = .ok (.lload 5, 2) := by decide +kernel
theorem dX12_span_197 : decode cX12_span 197 = .ok (.invokevirtual 230, 3) := by decide +kernel
theorem dX12_span_200 : decode cX12_span 200 = .ok (.goto 11, 3) := by decide +kernel
theorem dX12_span_203 : decode cX12_span 203 = .ok (.aload_n 0, 1) := by decide +kernel
theorem dX12_span_204 : decode cX12_span 204 = .ok (.lload 7, 2) := by decide +kernel
theorem dX12_span_206 : decode cX12_span 206 = .ok (.lload 9, 2) := by decide +kernel
theorem dX12_span_208 : decode cX12_span 208 = .ok (.invokevirtual 230, 3) := by decide +kernel
theorem dX12_span_211 : decode cX12_span 211 = .ok (.ireturn, 1) := by decide +kernel
theorem dX12_balanceOf_0 : decode cX12_balanceOf 0 = .ok (.lconst 0, 1) := by decide +kernel
theorem dX12_balanceOf_1 : decode cX12_balanceOf 1 = .ok (.lstore_n 3, 1) := by decide +kernel
theorem dX12_balanceOf_2 : decode cX12_balanceOf 2 = .ok (.iconst 0, 1) := by decide +kernel
theorem dX12_balanceOf_3 : decode cX12_balanceOf 3 = .ok (.istore 5, 2) := by decide +kernel
theorem dX12_balanceOf_5 : decode cX12_balanceOf 5 = .ok (.iload 5, 2) := by decide +kernel
theorem dX12_balanceOf_7 : decode cX12_balanceOf 7 = .ok (.aload_n 0, 1) := by decide +kernel
theorem dX12_balanceOf_8 : decode cX12_balanceOf 8 = .ok (.getfield 7, 3) := by decide +kernel
theorem dX12_balanceOf_11 : decode cX12_balanceOf 11 = .ok (.iconst 2, 1) := by decide +kernel
theorem dX12_balanceOf_12 : decode cX12_balanceOf 12 = .ok (.iaload, 1) := by decide +kernel
theorem dX12_balanceOf_13 : decode cX12_balanceOf 13 = .ok (.if_icmp .ge 56, 3) := by decide +kernel
theorem dX12_balanceOf_16 : decode cX12_balanceOf 16 = .ok (.lload_n 3, 1) := by decide +kernel
theorem dX12_balanceOf_17 : decode cX12_balanceOf 17 = .ok (.aload_n 0, 1) := by decide +kernel
theorem dX12_balanceOf_18 : decode cX12_balanceOf 18 = .ok (.iload 5, 2) := by decide +kernel
theorem dX12_balanceOf_20 : decode cX12_balanceOf 20 = .ok (.iconst 0, 1) := by decide +kernel
theorem dX12_balanceOf_21 : decode cX12_balanceOf 21 = .ok (.invokevirtual 179, 3) := by decide +kernel
theorem dX12_balanceOf_24 : decode cX12_balanceOf 24 = .ok (.iload_n 1, 1) := by decide +kernel
theorem dX12_balanceOf_25 : decode cX12_balanceOf 25 = .ok (.if_icmp .ne 13, 3) := by decide +kernel
theorem dX12_balanceOf_28 : decode cX12_balanceOf 28 = .ok (.aload_n 0, 1) := by decide +kernel
theorem dX12_balanceOf_29 : decode cX12_balanceOf 29 = .ok (.iload 5, 2) := by decide +kernel
theorem dX12_balanceOf_31 : decode cX12_balanceOf 31 = .ok (.iload_n 2, 1) := by decide +kernel
theorem dX12_balanceOf_32 : decode cX12_balanceOf 32 = .ok (.invokevirtual 196, 3) := by decide +kernel
theorem dX12_balanceOf_35 : decode cX12_balanceOf 35 = .ok (.goto 26, 3) := by decide +kernel
theorem dX12_balanceOf_38 : decode cX12_balanceOf 38 = .ok (.aload_n 0, 1) := by decide +kernel
theorem dX12_balanceOf_39 : decode cX12_balanceOf 39 = .ok (.iload 5, 2) := by decide +kernel
theorem dX12_balanceOf_41 : decode cX12_balanceOf 41 = .ok (.iconst 1, 1) := by decide +kernel
theorem dX12_balanceOf_42 : decode cX12_balanceOf 42 = .ok (.invokevirtual 179, 3) := by decide +kernel
theorem dX12_balanceOf_45 : decode cX12_balanceOf 45 = .ok (.iload_n 1, 1) := by decide +kernel
theorem dX12_balanceOf_46 : decode cX12_balanceOf 46 = .ok (.if_icmp .ne 14, 3) := by decide +kernel
theorem dX12_balanceOf_49 : decode cX12_balanceOf 49 = .ok (.aload_n 0, 1) := by decide +kernel
theorem dX12_balanceOf_50 : decode cX12_balanceOf 50 = .ok (.iload 5, 2) := by decide +kernel
theorem dX12_balanceOf_52 : decode cX12_balanceOf 52 = .ok (.iload_n 2, 1) := by decide +kernel
theorem dX12_balanceOf_53 : decode cX12_balanceOf 53 = .ok (.invokevirtual 196, 3) := by decide +kernel
theorem dX12_balanceOf_56 : decode cX12_balanceOf 56 = .ok (.lneg, 1) := by decide +kernel
theorem dX12_balanceOf_57 : decode cX12_balanceOf 57 = .ok (.goto 4, 3) := by decide +kernel
theorem dX12_balanceOf_60 : decode cX12_balanceOf 60 = .ok (.lconst 0, 1) := by decide +kernel
theorem dX12_balanceOf_61 : decode cX12_balanceOf 61 = .ok (.ladd, 1) := by decide +kernel
theorem dX12_balanceOf_62 : decode cX12_balanceOf 62 = .ok (.lstore_n 3, 1) := by decide +kernel
theorem dX12_balanceOf_63 : decode cX12_balanceOf 63 = .ok (.iinc 5 1, 3) := by decide +kernel
theorem dX12_balanceOf_66 : decode cX12_balanceOf 66 = .ok (.goto (-61), 3) := by decide +kernel
theorem dX12_balanceOf_69 : decode cX12_balanceOf 69 = .ok (.lload_n 3, 1) := by decide +kernel
theorem dX12_balanceOf_70 : decode cX12_balanceOf 70 = .ok (.lreturn, 1) := by decide +kernel
theorem dX12_balance_0 : decode cX12_balance 0 = .ok (.aload_n 0, 1) := by decide +kernel
theorem dX12_balance_1 : decode cX12_balance 1 = .ok (.iconst 0, 1) := by decide +kernel
theorem dX12_balance_2 : decode cX12_balance 2 = .ok (.iload_n 1, 1) := by decide +kernel
theorem dX12_balance_3 : decode cX12_balance 3 = .ok (.invokevirtual 173, 3) := by decide +kernel
theorem dX12_balance_6 : decode cX12_balance 6 = .ok (.ifCond .eq 19, 3) := by decide +kernel
theorem dX12_balance_9 : decode cX12_balance 9 = .ok (.iload_n 2, 1) := by decide +kernel
theorem dX12_balance_10 : decode cX12_balance 10 = .ok (.invokestatic 153, 3) := by decide +kernel
theorem dX12_balance_13 : decode cX12_balance 13 = .ok (.ifCond .eq 12, 3) := by decide +kernel
theorem dX12_balance_16 : decode cX12_balance 16 = .ok (.aload_n 0, 1) := by decide +kernel
theorem dX12_balance_17 : decode cX12_balance 17 = .ok (.iload_n 1, 1) := by decide +kernel
theorem dX12_balance_18 : decode cX12_balance 18 = .ok (.iload_n 2, 1) := by decide +kernel
theorem dX12_balance_19 : decode cX12_balance 19 = .ok (.invokevirtual 234, 3) := by decide +kernel
theorem dX12_balance_22 : decode cX12_balance 22 = .ok (.goto 6, 3) := by decide +kernel
theorem dX12_balance_25 : decode cX12_balance 25 = .ok (.ldc2_w 237, 3) := by decide +kernel
theorem dX12_balance_28 : decode cX12_balance 28 = .ok (.lreturn, 1) := by decide +kernel
theorem dX12_fewest_0 : decode cX12_fewest 0 = .ok (.iload_n 1, 1) := by decide +kernel
theorem dX12_fewest_1 : decode cX12_fewest 1 = .ok (.invokestatic 153, 3) := by decide +kernel
theorem dX12_fewest_4 : decode cX12_fewest 4 = .ok (.ifCond .ne 6, 3) := by decide +kernel
theorem dX12_fewest_7 : decode cX12_fewest 7 = .ok (.bipush (-2), 2) := by decide +kernel
theorem dX12_fewest_9 : decode cX12_fewest 9 = .ok (.ireturn, 1) := by decide +kernel
theorem dX12_fewest_10 : decode cX12_fewest 10 = .ok (.iconst 0, 1) := by decide +kernel
theorem dX12_fewest_11 : decode cX12_fewest 11 = .ok (.istore_n 2, 1) := by decide +kernel
theorem dX12_fewest_12 : decode cX12_fewest 12 = .ok (.iconst 0, 1) := by decide +kernel
theorem dX12_fewest_13 : decode cX12_fewest 13 = .ok (.istore_n 3, 1) := by decide +kernel
theorem dX12_fewest_14 : decode cX12_fewest 14 = .ok (.iload_n 3, 1) := by decide +kernel
theorem dX12_fewest_15 : decode cX12_fewest 15 = .ok (.aload_n 0, 1) := by decide +kernel
theorem dX12_fewest_16 : decode cX12_fewest 16 = .ok (.getfield 7, 3) := by decide +kernel
theorem dX12_fewest_19 : decode cX12_fewest 19 = .ok (.iconst 0, 1) := by decide +kernel
theorem dX12_fewest_20 : decode cX12_fewest 20 = .ok (.iaload, 1) := by decide +kernel
theorem dX12_fewest_21 : decode cX12_fewest 21 = .ok (.if_icmp .ge 40, 3) := by decide +kernel
theorem dX12_fewest_24 : decode cX12_fewest 24 = .ok (.aload_n 0, 1) := by decide +kernel
theorem dX12_fewest_25 : decode cX12_fewest 25 = .ok (.iload_n 3, 1) := by decide +kernel
theorem dX12_fewest_26 : decode cX12_fewest 26 = .ok (.iload_n 1, 1) := by decide +kernel
theorem dX12_fewest_27 : decode cX12_fewest 27 = .ok (.invokevirtual 234, 3) := by decide +kernel
theorem dX12_fewest_30 : decode cX12_fewest 30 = .ok (.lstore 4, 2) := by decide +kernel
theorem dX12_fewest_32 : decode cX12_fewest 32 = .ok (.aload_n 0, 1) := by decide +kernel
theorem dX12_fewest_33 : decode cX12_fewest 33 = .ok (.getfield 36, 3) := by decide +kernel
theorem dX12_fewest_36 : decode cX12_fewest 36 = .ok (.iload_n 2, 1) := by decide +kernel
theorem dX12_fewest_37 : decode cX12_fewest 37 = .ok (.lload 4, 2) := by decide +kernel
theorem dX12_fewest_39 : decode cX12_fewest 39 = .ok (.lastore, 1) := by decide +kernel
theorem dX12_fewest_40 : decode cX12_fewest 40 = .ok (.iload_n 2, 1) := by decide +kernel
theorem dX12_fewest_41 : decode cX12_fewest 41 = .ok (.lload 4, 2) := by decide +kernel
theorem dX12_fewest_43 : decode cX12_fewest 43 = .ok (.lconst 0, 1) := by decide +kernel
theorem dX12_fewest_44 : decode cX12_fewest 44 = .ok (.lcmp, 1) := by decide +kernel
theorem dX12_fewest_45 : decode cX12_fewest 45 = .ok (.ifCond .eq 7, 3) := by decide +kernel
theorem dX12_fewest_48 : decode cX12_fewest 48 = .ok (.iconst 1, 1) := by decide +kernel
theorem dX12_fewest_49 : decode cX12_fewest 49 = .ok (.goto 4, 3) := by decide +kernel
theorem dX12_fewest_52 : decode cX12_fewest 52 = .ok (.iconst 0, 1) := by decide +kernel
theorem dX12_fewest_53 : decode cX12_fewest 53 = .ok (.iadd, 1) := by decide +kernel
theorem dX12_fewest_54 : decode cX12_fewest 54 = .ok (.istore_n 2, 1) := by decide +kernel
theorem dX12_fewest_55 : decode cX12_fewest 55 = .ok (.iinc 3 1, 3) := by decide +kernel
theorem dX12_fewest_58 : decode cX12_fewest 58 = .ok (.goto (-44), 3) := by decide +kernel
theorem dX12_fewest_61 : decode cX12_fewest 61 = .ok (.iconst 1, 1) := by decide +kernel
theorem dX12_fewest_62 : decode cX12_fewest 62 = .ok (.istore_n 3, 1) := by decide +kernel
theorem dX12_fewest_63 : decode cX12_fewest 63 = .ok (.iload_n 3, 1) := by decide +kernel
theorem dX12_fewest_64 : decode cX12_fewest 64 = .ok (.iconst 1, 1) := by decide +kernel
theorem dX12_fewest_65 : decode cX12_fewest 65 = .ok (.iload_n 2, 1) := by decide +kernel
theorem dX12_fewest_66 : decode cX12_fewest 66 = .ok (.ishl, 1) := by decide +kernel
theorem dX12_fewest_67 : decode cX12_fewest 67 = .ok (.if_icmp .ge 130, 3) := by decide +kernel
theorem dX12_fewest_70 : decode cX12_fewest 70 = .ok (.aload_n 0, 1) := by decide +kernel
theorem dX12_fewest_71 : decode cX12_fewest 71 = .ok (.getfield 39, 3) := by decide +kernel
theorem dX12_fewest_74 : decode cX12_fewest 74 = .ok (.iload_n 3, 1) := by decide +kernel
theorem dX12_fewest_75 : decode cX12_fewest 75 = .ok (.lconst 0, 1) := by decide +kernel
theorem dX12_fewest_76 : decode cX12_fewest 76 = .ok (.lastore, 1) := by decide +kernel
theorem dX12_fewest_77 : decode cX12_fewest 77 = .ok (.aload_n 0, 1) := by decide +kernel
theorem dX12_fewest_78 : decode cX12_fewest 78 = .ok (.getfield 42, 3) := by decide +kernel
theorem dX12_fewest_81 : decode cX12_fewest 81 = .ok (.iload_n 3, 1) := by decide +kernel
theorem dX12_fewest_82 : decode cX12_fewest 82 = .ok (.iconst 0, 1) := by decide +kernel
theorem dX12_fewest_83 : decode cX12_fewest 83 = .ok (.iastore, 1) := by decide +kernel
theorem dX12_fewest_84 : decode cX12_fewest 84 = .ok (.iconst 0, 1) := by decide +kernel
theorem dX12_fewest_85 : decode cX12_fewest 85 = .ok (.istore 4, 2) := by decide +kernel
theorem dX12_fewest_87 : decode cX12_fewest 87 = .ok (.iload 4, 2) := by decide +kernel
theorem dX12_fewest_89 : decode cX12_fewest 89 = .ok (.iload_n 2, 1) := by decide +kernel
theorem dX12_fewest_90 : decode cX12_fewest 90 = .ok (.if_icmp .ge 76, 3) := by decide +kernel
theorem dX12_fewest_93 : decode cX12_fewest 93 = .ok (.iload_n 3, 1) := by decide +kernel
theorem dX12_fewest_94 : decode cX12_fewest 94 = .ok (.iload 4, 2) := by decide +kernel
theorem dX12_fewest_96 : decode cX12_fewest 96 = .ok (.ishr, 1) := by decide +kernel
theorem dX12_fewest_97 : decode cX12_fewest 97 = .ok (.iconst 1, 1) := by decide +kernel
theorem dX12_fewest_98 : decode cX12_fewest 98 = .ok (.iand, 1) := by decide +kernel
theorem dX12_fewest_99 : decode cX12_fewest 99 = .ok (.iconst 1, 1) := by decide +kernel
theorem dX12_fewest_100 : decode cX12_fewest 100 = .ok (.if_icmp .ne 60, 3) := by decide +kernel
theorem dX12_fewest_103 : decode cX12_fewest 103 = .ok (.aload_n 0, 1) := by decide +kernel
theorem dX12_fewest_104 : decode cX12_fewest 104 = .ok (.getfield 39, 3) := by decide +kernel
theorem dX12_fewest_107 : decode cX12_fewest 107 = .ok (.iload_n 3, 1) := by decide +kernel
theorem dX12_fewest_108 : decode cX12_fewest 108 = .ok (.dup2, 1) := by decide +kernel
theorem dX12_fewest_109 : decode cX12_fewest 109 = .ok (.laload, 1) := by decide +kernel
theorem dX12_fewest_110 : decode cX12_fewest 110 = .ok (.aload_n 0, 1) := by decide +kernel
theorem dX12_fewest_111 : decode cX12_fewest 111 = .ok (.getfield 36, 3) := by decide +kernel
theorem dX12_fewest_114 : decode cX12_fewest 114 = .ok (.iload 4, 2) := by decide +kernel
theorem dX12_fewest_116 : decode cX12_fewest 116 = .ok (.laload, 1) := by decide +kernel
theorem dX12_fewest_117 : decode cX12_fewest 117 = .ok (.ladd, 1) := by decide +kernel
theorem dX12_fewest_118 : decode cX12_fewest 118 = .ok (.lastore, 1) := by decide +kernel
theorem dX12_fewest_119 : decode cX12_fewest 119 = .ok (.aload_n 0, 1) := by decide +kernel
theorem dX12_fewest_120 : decode cX12_fewest 120 = .ok (.getfield 42, 3) := by decide +kernel
theorem dX12_fewest_123 : decode cX12_fewest 123 = .ok (.iload_n 3, 1) := by decide +kernel
theorem dX12_fewest_124 : decode cX12_fewest 124 = .ok (.iconst 1, 1) := by decide +kernel
theorem dX12_fewest_125 : decode cX12_fewest 125 = .ok (.iload 4, 2) := by decide +kernel
theorem dX12_fewest_127 : decode cX12_fewest 127 = .ok (.ishl, 1) := by decide +kernel
theorem dX12_fewest_128 : decode cX12_fewest 128 = .ok (.ixor, 1) := by decide +kernel
theorem dX12_fewest_129 : decode cX12_fewest 129 = .ok (.iaload, 1) := by decide +kernel
theorem dX12_fewest_130 : decode cX12_fewest 130 = .ok (.istore 5, 2) := by decide +kernel
theorem dX12_fewest_132 : decode cX12_fewest 132 = .ok (.aload_n 0, 1) := by decide +kernel
theorem dX12_fewest_133 : decode cX12_fewest 133 = .ok (.getfield 42, 3) := by decide +kernel
theorem dX12_fewest_136 : decode cX12_fewest 136 = .ok (.iload_n 3, 1) := by decide +kernel
theorem dX12_fewest_137 : decode cX12_fewest 137 = .ok (.iload 5, 2) := by decide +kernel
theorem dX12_fewest_139 : decode cX12_fewest 139 = .ok (.aload_n 0, 1) := by decide +kernel
theorem dX12_fewest_140 : decode cX12_fewest 140 = .ok (.getfield 42, 3) := by decide +kernel
theorem dX12_fewest_143 : decode cX12_fewest 143 = .ok (.iload_n 3, 1) := by decide +kernel
theorem dX12_fewest_144 : decode cX12_fewest 144 = .ok (.iaload, 1) := by decide +kernel
theorem dX12_fewest_145 : decode cX12_fewest 145 = .ok (.if_icmp .le 8, 3) := by decide +kernel
theorem dX12_fewest_148 : decode cX12_fewest 148 = .ok (.iload 5, 2) := by decide +kernel
theorem dX12_fewest_150 : decode cX12_fewest 150 = .ok (.goto 9, 3) := by decide +kernel
theorem dX12_fewest_153 : decode cX12_fewest 153 = .ok (.aload_n 0, 1) := by decide +kernel
theorem dX12_fewest_154 : decode cX12_fewest 154 = .ok (.getfield 42, 3) := by decide +kernel
theorem dX12_fewest_157 : decode cX12_fewest 157 = .ok (.iload_n 3, 1) := by decide +kernel
theorem dX12_fewest_158 : decode cX12_fewest 158 = .ok (.iaload, 1) := by decide +kernel
theorem dX12_fewest_159 : decode cX12_fewest 159 = .ok (.iastore, 1) := by decide +kernel
theorem dX12_fewest_160 : decode cX12_fewest 160 = .ok (.iinc 4 1, 3) := by decide +kernel
theorem dX12_fewest_163 : decode cX12_fewest 163 = .ok (.goto (-76), 3) := by decide +kernel
theorem dX12_fewest_166 : decode cX12_fewest 166 = .ok (.aload_n 0, 1) := by decide +kernel
theorem dX12_fewest_167 : decode cX12_fewest 167 = .ok (.getfield 42, 3) := by decide +kernel
theorem dX12_fewest_170 : decode cX12_fewest 170 = .ok (.iload_n 3, 1) := by decide +kernel
theorem dX12_fewest_171 : decode cX12_fewest 171 = .ok (.dup2, 1) := by decide +kernel
theorem dX12_fewest_172 : decode cX12_fewest 172 = .ok (.iaload, 1) := by decide +kernel
theorem dX12_fewest_173 : decode cX12_fewest 173 = .ok (.aload_n 0, 1) := by decide +kernel
theorem dX12_fewest_174 : decode cX12_fewest 174 = .ok (.getfield 39, 3) := by decide +kernel
theorem dX12_fewest_177 : decode cX12_fewest 177 = .ok (.iload_n 3, 1) := by decide +kernel
theorem dX12_fewest_178 : decode cX12_fewest 178 = .ok (.laload, 1) := by decide +kernel
theorem dX12_fewest_179 : decode cX12_fewest 179 = .ok (.lconst 0, 1) := by decide +kernel
theorem dX12_fewest_180 : decode cX12_fewest 180 = .ok (.lcmp, 1) := by decide +kernel
theorem dX12_fewest_181 : decode cX12_fewest 181 = .ok (.ifCond .ne 7, 3) := by decide +kernel
theorem dX12_fewest_184 : decode cX12_fewest 184 = .ok (.iconst 1, 1) := by decide +kernel
theorem dX12_fewest_185 : decode cX12_fewest 185 = .ok (.goto 4, 3) := by decide +kernel
theorem dX12_fewest_188 : decode cX12_fewest 188 = .ok (.iconst 0, 1) := by decide +kernel
theorem dX12_fewest_189 : decode cX12_fewest 189 = .ok (.iadd, 1) := by decide +kernel
theorem dX12_fewest_190 : decode cX12_fewest 190 = .ok (.iastore, 1) := by decide +kernel
theorem dX12_fewest_191 : decode cX12_fewest 191 = .ok (.iinc 3 1, 3) := by decide +kernel
theorem dX12_fewest_194 : decode cX12_fewest 194 = .ok (.goto (-131), 3) := by decide +kernel
theorem dX12_fewest_197 : decode cX12_fewest 197 = .ok (.iload_n 2, 1) := by decide +kernel
theorem dX12_fewest_198 : decode cX12_fewest 198 = .ok (.aload_n 0, 1) := by decide +kernel
theorem dX12_fewest_199 : decode cX12_fewest 199 = .ok (.getfield 42, 3) := by decide +kernel
theorem dX12_fewest_202 : decode cX12_fewest 202 = .ok (.iconst 1, 1) := by decide +kernel
theorem dX12_fewest_203 : decode cX12_fewest 203 = .ok (.iload_n 2, 1) := by decide +kernel
theorem dX12_fewest_204 : decode cX12_fewest 204 = .ok (.ishl, 1) := by decide +kernel
theorem dX12_fewest_205 : decode cX12_fewest 205 = .ok (.iconst 1, 1) := by decide +kernel
theorem dX12_fewest_206 : decode cX12_fewest 206 = .ok (.isub, 1) := by decide +kernel
theorem dX12_fewest_207 : decode cX12_fewest 207 = .ok (.iaload, 1) := by decide +kernel
theorem dX12_fewest_208 : decode cX12_fewest 208 = .ok (.isub, 1) := by decide +kernel
theorem dX12_fewest_209 : decode cX12_fewest 209 = .ok (.ireturn, 1) := by decide +kernel
theorem dX12_findOwes_0 : decode cX12_findOwes 0 = .ok (.iconst 0, 1) := by decide +kernel
theorem dX12_findOwes_1 : decode cX12_findOwes 1 = .ok (.istore_n 2, 1) := by decide +kernel
theorem dX12_findOwes_2 : decode cX12_findOwes 2 = .ok (.iload_n 2, 1) := by decide +kernel
theorem dX12_findOwes_3 : decode cX12_findOwes 3 = .ok (.bipush 100, 2) := by decide +kernel
theorem dX12_findOwes_5 : decode cX12_findOwes 5 = .ok (.if_icmp .ge 16, 3) := by decide +kernel
theorem dX12_findOwes_8 : decode cX12_findOwes 8 = .ok (.aload_n 0, 1) := by decide +kernel
theorem dX12_findOwes_9 : decode cX12_findOwes 9 = .ok (.getfield 45, 3) := by decide +kernel
theorem dX12_findOwes_12 : decode cX12_findOwes 12 = .ok (.iload_n 2, 1) := by decide +kernel
theorem dX12_findOwes_13 : decode cX12_findOwes 13 = .ok (.iconst 0, 1) := by decide +kernel
theorem dX12_findOwes_14 : decode cX12_findOwes 14 = .ok (.bastore, 1) := by decide +kernel
theorem dX12_findOwes_15 : decode cX12_findOwes 15 = .ok (.iinc 2 1, 3) := by decide +kernel
theorem dX12_findOwes_18 : decode cX12_findOwes 18 = .ok (.goto (-16), 3) := by decide +kernel
theorem dX12_findOwes_21 : decode cX12_findOwes 21 = .ok (.iconst 0, 1) := by decide +kernel
theorem dX12_findOwes_22 : decode cX12_findOwes 22 = .ok (.istore_n 2, 1) := by decide +kernel
theorem dX12_findOwes_23 : decode cX12_findOwes 23 = .ok (.iload_n 2, 1) := by decide +kernel
theorem dX12_findOwes_24 : decode cX12_findOwes 24 = .ok (.aload_n 0, 1) := by decide +kernel
theorem dX12_findOwes_25 : decode cX12_findOwes 25 = .ok (.getfield 7, 3) := by decide +kernel
theorem dX12_findOwes_28 : decode cX12_findOwes 28 = .ok (.iconst 2, 1) := by decide +kernel
theorem dX12_findOwes_29 : decode cX12_findOwes 29 = .ok (.iaload, 1) := by decide +kernel
theorem dX12_findOwes_30 : decode cX12_findOwes 30 = .ok (.if_icmp .ge 57, 3) := by decide +kernel
theorem dX12_findOwes_33 : decode cX12_findOwes 33 = .ok (.bipush 10, 2) := by decide +kernel
theorem dX12_findOwes_35 : decode cX12_findOwes 35 = .ok (.aload_n 0, 1) := by decide +kernel
theorem dX12_findOwes_36 : decode cX12_findOwes 36 = .ok (.iload_n 2, 1) := by decide +kernel
theorem dX12_findOwes_37 : decode cX12_findOwes 37 = .ok (.iconst 1, 1) := by decide +kernel
theorem dX12_findOwes_38 : decode cX12_findOwes 38 = .ok (.invokevirtual 179, 3) := by decide +kernel
theorem dX12_findOwes_41 : decode cX12_findOwes 41 = .ok (.imul, 1) := by decide +kernel
theorem dX12_findOwes_42 : decode cX12_findOwes 42 = .ok (.aload_n 0, 1) := by decide +kernel
theorem dX12_findOwes_43 : decode cX12_findOwes 43 = .ok (.iload_n 2, 1) := by decide +kernel
theorem dX12_findOwes_44 : decode cX12_findOwes 44 = .ok (.iconst 0, 1) := by decide +kernel
theorem dX12_findOwes_45 : decode cX12_findOwes 45 = .ok (.invokevirtual 179, 3) := by decide +kernel
theorem dX12_findOwes_48 : decode cX12_findOwes 48 = .ok (.iadd, 1) := by decide +kernel
theorem dX12_findOwes_49 : decode cX12_findOwes 49 = .ok (.istore_n 3, 1) := by decide +kernel
theorem dX12_findOwes_50 : decode cX12_findOwes 50 = .ok (.aload_n 0, 1) := by decide +kernel
theorem dX12_findOwes_51 : decode cX12_findOwes 51 = .ok (.getfield 45, 3) := by decide +kernel
theorem dX12_findOwes_54 : decode cX12_findOwes 54 = .ok (.iload_n 3, 1) := by decide +kernel
theorem dX12_findOwes_55 : decode cX12_findOwes 55 = .ok (.aload_n 0, 1) := by decide +kernel
theorem dX12_findOwes_56 : decode cX12_findOwes 56 = .ok (.getfield 45, 3) := by decide +kernel
theorem dX12_findOwes_59 : decode cX12_findOwes 59 = .ok (.iload_n 3, 1) := by decide +kernel
theorem dX12_findOwes_60 : decode cX12_findOwes 60 = .ok (.baload, 1) := by decide +kernel
theorem dX12_findOwes_61 : decode cX12_findOwes 61 = .ok (.ifCond .ne 14, 3) := by decide +kernel
theorem dX12_findOwes_64 : decode cX12_findOwes 64 = .ok (.aload_n 0, 1) := by decide +kernel
theorem dX12_findOwes_65 : decode cX12_findOwes 65 = .ok (.iload_n 2, 1) := by decide +kernel
theorem dX12_findOwes_66 : decode cX12_findOwes 66 = .ok (.iload_n 1, 1) := by decide +kernel
theorem dX12_findOwes_67 : decode cX12_findOwes 67 = .ok (.invokevirtual 196, 3) := by decide +kernel
theorem dX12_findOwes_70 : decode cX12_findOwes 70 = .ok (.lconst 0, 1) := by decide +kernel
theorem dX12_findOwes_71 : decode cX12_findOwes 71 = .ok (.lcmp, 1) := by decide +kernel
theorem dX12_findOwes_72 : decode cX12_findOwes 72 = .ok (.ifCond .le 7, 3) := by decide +kernel
theorem dX12_findOwes_75 : decode cX12_findOwes 75 = .ok (.iconst 1, 1) := by decide +kernel
theorem dX12_findOwes_76 : decode cX12_findOwes 76 = .ok (.goto 4, 3) := by decide +kernel
theorem dX12_findOwes_79 : decode cX12_findOwes 79 = .ok (.iconst 0, 1) := by decide +kernel
theorem dX12_findOwes_80 : decode cX12_findOwes 80 = .ok (.bastore, 1) := by decide +kernel
theorem dX12_findOwes_81 : decode cX12_findOwes 81 = .ok (.iinc 2 1, 3) := by decide +kernel
theorem dX12_findOwes_84 : decode cX12_findOwes 84 = .ok (.goto (-61), 3) := by decide +kernel
theorem dX12_findOwes_87 : decode cX12_findOwes 87 = .ok (.return_, 1) := by decide +kernel
theorem dX12_findCan_0 : decode cX12_findCan 0 = .ok (.iconst 1, 1) := by decide +kernel
theorem dX12_findCan_1 : decode cX12_findCan 1 = .ok (.istore_n 3, 1) := by decide +kernel
theorem dX12_findCan_2 : decode cX12_findCan 2 = .ok (.iload_n 3, 1) := by decide +kernel
theorem dX12_findCan_3 : decode cX12_findCan 3 = .ok (.iload_n 2, 1) := by decide +kernel
theorem dX12_findCan_4 : decode cX12_findCan 4 = .ok (.if_icmp .gt 140, 3) := by decide +kernel
theorem dX12_findCan_7 : decode cX12_findCan 7 = .ok (.iload_n 1, 1) := by decide +kernel
theorem dX12_findCan_8 : decode cX12_findCan 8 = .ok (.istore 4, 2) := by decide +kernel
theorem dX12_findCan_10 : decode cX12_findCan 10 = .ok (.iload 4, 2) := by decide +kernel
theorem dX12_findCan_12 : decode cX12_findCan 12 = .ok (.bipush 10, 2) := by decide +kernel
theorem dX12_findCan_14 : decode cX12_findCan 14 = .ok (.if_icmp .ge 124, 3) := by decide +kernel
theorem dX12_findCan_17 : decode cX12_findCan 17 = .ok (.iconst 0, 1) := by decide +kernel
theorem dX12_findCan_18 : decode cX12_findCan 18 = .ok (.istore 5, 2) := by decide +kernel
theorem dX12_findCan_20 : decode cX12_findCan 20 = .ok (.iload_n 1, 1) := by decide +kernel
theorem dX12_findCan_21 : decode cX12_findCan 21 = .ok (.istore 6, 2) := by decide +kernel
theorem dX12_findCan_23 : decode cX12_findCan 23 = .ok (.iload 6, 2) := by decide +kernel
theorem dX12_findCan_25 : decode cX12_findCan 25 = .ok (.bipush 10, 2) := by decide +kernel
theorem dX12_findCan_27 : decode cX12_findCan 27 = .ok (.if_icmp .ge 91, 3) := by decide +kernel
theorem dX12_findCan_30 : decode cX12_findCan 30 = .ok (.iload_n 3, 1) := by decide +kernel
theorem dX12_findCan_31 : decode cX12_findCan 31 = .ok (.iconst 1, 1) := by decide +kernel
theorem dX12_findCan_32 : decode cX12_findCan 32 = .ok (.if_icmp .ne 17, 3) := by decide +kernel
theorem dX12_findCan_35 : decode cX12_findCan 35 = .ok (.iload 6, 2) := by decide +kernel
theorem dX12_findCan_37 : decode cX12_findCan 37 = .ok (.iload_n 1, 1) := by decide +kernel
theorem dX12_findCan_38 : decode cX12_findCan 38 = .ok (.if_icmp .ne 7, 3) := by decide +kernel
theorem dX12_findCan_41 : decode cX12_findCan 41 = .ok (.iconst 1, 1) := by decide +kernel
theorem dX12_findCan_42 : decode cX12_findCan 42 = .ok (.goto 35, 3) := by decide +kernel
theorem dX12_findCan_45 : decode cX12_findCan 45 = .ok (.iconst 0, 1) := by decide +kernel
theorem dX12_findCan_46 : decode cX12_findCan 46 = .ok (.goto 31, 3) := by decide +kernel
theorem dX12_findCan_49 : decode cX12_findCan 49 = .ok (.iload 6, 2) := by decide +kernel
theorem dX12_findCan_51 : decode cX12_findCan 51 = .ok (.iload_n 1, 1) := by decide +kernel
theorem dX12_findCan_52 : decode cX12_findCan 52 = .ok (.if_icmp .le 24, 3) := by decide +kernel
theorem dX12_findCan_55 : decode cX12_findCan 55 = .ok (.aload_n 0, 1) := by decide +kernel
theorem dX12_findCan_56 : decode cX12_findCan 56 = .ok (.getfield 48, 3) := by decide +kernel
theorem dX12_findCan_59 : decode cX12_findCan 59 = .ok (.bipush 10, 2) := by decide +kernel
theorem dX12_findCan_61 : decode cX12_findCan 61 = .ok (.iload_n 3, 1) := by decide +kernel
theorem dX12_findCan_62 : decode cX12_findCan 62 = .ok (.iconst 1, 1) := by decide +kernel
theorem dX12_findCan_63 : decode cX12_findCan 63 = .ok (.isub, 1) := by decide +kernel
theorem dX12_findCan_64 : decode cX12_findCan 64 = .ok (.imul, 1) := by decide +kernel
theorem dX12_findCan_65 : decode cX12_findCan 65 = .ok (.iload 6, 2) := by decide +kernel
theorem dX12_findCan_67 : decode cX12_findCan 67 = .ok (.iadd, 1) := by decide +kernel
theorem dX12_findCan_68 : decode cX12_findCan 68 = .ok (.baload, 1) := by decide +kernel
theorem dX12_findCan_69 : decode cX12_findCan 69 = .ok (.ifCond .eq 7, 3) := by decide +kernel
theorem dX12_findCan_72 : decode cX12_findCan 72 = .ok (.iconst 1, 1) := by decide +kernel
theorem dX12_findCan_73 : decode cX12_findCan 73 = .ok (.goto 4, 3) := by decide +kernel
theorem dX12_findCan_76 : decode cX12_findCan 76 = .ok (.iconst 0, 1) := by decide +kernel
theorem dX12_findCan_77 : decode cX12_findCan 77 = .ok (.istore 7, 2) := by decide +kernel
theorem dX12_findCan_79 : decode cX12_findCan 79 = .ok (.iload 5, 2) := by decide +kernel
theorem dX12_findCan_81 : decode cX12_findCan 81 = .ok (.ifCond .ne 24, 3) := by decide +kernel
theorem dX12_findCan_84 : decode cX12_findCan 84 = .ok (.iload 7, 2) := by decide +kernel
theorem dX12_findCan_86 : decode cX12_findCan 86 = .ok (.ifCond .eq 23, 3) := by decide +kernel
theorem dX12_findCan_89 : decode cX12_findCan 89 = .ok (.aload_n 0, 1) := by decide +kernel
theorem dX12_findCan_90 : decode cX12_findCan 90 = .ok (.getfield 45, 3) := by decide +kernel
theorem dX12_findCan_93 : decode cX12_findCan 93 = .ok (.bipush 10, 2) := by decide +kernel
theorem dX12_findCan_95 : decode cX12_findCan 95 = .ok (.iload 4, 2) := by decide +kernel
theorem dX12_findCan_97 : decode cX12_findCan 97 = .ok (.imul, 1) := by decide +kernel
theorem dX12_findCan_98 : decode cX12_findCan 98 = .ok (.iload 6, 2) := by decide +kernel
theorem dX12_findCan_100 : decode cX12_findCan 100 = .ok (.iadd, 1) := by decide +kernel
theorem dX12_findCan_101 : decode cX12_findCan 101 = .ok (.baload, 1) := by decide +kernel
theorem dX12_findCan_102 : decode cX12_findCan 102 = .ok (.ifCond .eq 7, 3) := by decide +kernel
theorem dX12_findCan_105 : decode cX12_findCan 105 = .ok (.iconst 1, 1) := by decide +kernel
theorem dX12_findCan_106 : decode cX12_findCan 106 = .ok (.goto 4, 3) := by decide +kernel
theorem dX12_findCan_109 : decode cX12_findCan 109 = .ok (.iconst 0, 1) := by decide +kernel
theorem dX12_findCan_110 : decode cX12_findCan 110 = .ok (.istore 5, 2) := by decide +kernel
theorem dX12_findCan_112 : decode cX12_findCan 112 = .ok (.iinc 6 1, 3) := by decide +kernel
theorem dX12_findCan_115 : decode cX12_findCan 115 = .ok (.goto (-92), 3) := by decide +kernel
theorem dX12_findCan_118 : decode cX12_findCan 118 = .ok (.aload_n 0, 1) := by decide +kernel
theorem dX12_findCan_119 : decode cX12_findCan 119 = .ok (.getfield 48, 3) := by decide +kernel
theorem dX12_findCan_122 : decode cX12_findCan 122 = .ok (.bipush 10, 2) := by decide +kernel
theorem dX12_findCan_124 : decode cX12_findCan 124 = .ok (.iload_n 3, 1) := by decide +kernel
theorem dX12_findCan_125 : decode cX12_findCan 125 = .ok (.imul, 1) := by decide +kernel
theorem dX12_findCan_126 : decode cX12_findCan 126 = .ok (.iload 4, 2) := by decide +kernel
theorem dX12_findCan_128 : decode cX12_findCan 128 = .ok (.iadd, 1) := by decide +kernel
theorem dX12_findCan_129 : decode cX12_findCan 129 = .ok (.iload 5, 2) := by decide +kernel
theorem dX12_findCan_131 : decode cX12_findCan 131 = .ok (.bastore, 1) := by decide +kernel
theorem dX12_findCan_132 : decode cX12_findCan 132 = .ok (.iinc 4 1, 3) := by decide +kernel
theorem dX12_findCan_135 : decode cX12_findCan 135 = .ok (.goto (-125), 3) := by decide +kernel
theorem dX12_findCan_138 : decode cX12_findCan 138 = .ok (.iinc 3 1, 3) := by decide +kernel
theorem dX12_findCan_141 : decode cX12_findCan 141 = .ok (.goto (-139), 3) := by decide +kernel
theorem dX12_findCan_144 : decode cX12_findCan 144 = .ok (.aload_n 0, 1) := by decide +kernel
theorem dX12_findCan_145 : decode cX12_findCan 145 = .ok (.getfield 48, 3) := by decide +kernel
theorem dX12_findCan_148 : decode cX12_findCan 148 = .ok (.bipush 10, 2) := by decide +kernel
theorem dX12_findCan_150 : decode cX12_findCan 150 = .ok (.iload_n 2, 1) := by decide +kernel
theorem dX12_findCan_151 : decode cX12_findCan 151 = .ok (.imul, 1) := by decide +kernel
theorem dX12_findCan_152 : decode cX12_findCan 152 = .ok (.iload_n 1, 1) := by decide +kernel
theorem dX12_findCan_153 : decode cX12_findCan 153 = .ok (.iadd, 1) := by decide +kernel
theorem dX12_findCan_154 : decode cX12_findCan 154 = .ok (.baload, 1) := by decide +kernel
theorem dX12_findCan_155 : decode cX12_findCan 155 = .ok (.ireturn, 1) := by decide +kernel
theorem dX12_findRing_0 : decode cX12_findRing 0 = .ok (.iconst 2, 1) := by decide +kernel
theorem dX12_findRing_1 : decode cX12_findRing 1 = .ok (.istore_n 1, 1) := by decide +kernel
theorem dX12_findRing_2 : decode cX12_findRing 2 = .ok (.iload_n 1, 1) := by decide +kernel
theorem dX12_findRing_3 : decode cX12_findRing 3 = .ok (.bipush 10, 2) := by decide +kernel
theorem dX12_findRing_5 : decode cX12_findRing 5 = .ok (.if_icmp .gt 112, 3) := by decide +kernel
theorem dX12_findRing_8 : decode cX12_findRing 8 = .ok (.iconst 0, 1) := by decide +kernel
theorem dX12_findRing_9 : decode cX12_findRing 9 = .ok (.istore_n 2, 1) := by decide +kernel
theorem dX12_findRing_10 : decode cX12_findRing 10 = .ok (.iload_n 2, 1) := by decide +kernel
theorem dX12_findRing_11 : decode cX12_findRing 11 = .ok (.bipush 10, 2) := by decide +kernel
theorem dX12_findRing_13 : decode cX12_findRing 13 = .ok (.if_icmp .ge 98, 3) := by decide +kernel
theorem dX12_findRing_16 : decode cX12_findRing 16 = .ok (.aload_n 0, 1) := by decide +kernel
theorem dX12_findRing_17 : decode cX12_findRing 17 = .ok (.iload_n 2, 1) := by decide +kernel
theorem dX12_findRing_18 : decode cX12_findRing 18 = .ok (.iload_n 1, 1) := by decide +kernel
theorem dX12_findRing_19 : decode cX12_findRing 19 = .ok (.invokevirtual 239, 3) := by decide +kernel
theorem dX12_findRing_22 : decode cX12_findRing 22 = .ok (.ifCond .eq 83, 3) := by decide +kernel
theorem dX12_findRing_25 : decode cX12_findRing 25 = .ok (.aload_n 0, 1) := by decide +kernel
theorem dX12_findRing_26 : decode cX12_findRing 26 = .ok (.getfield 51, 3) := by decide +kernel
theorem dX12_findRing_29 : decode cX12_findRing 29 = .ok (.iconst 0, 1) := by decide +kernel
theorem dX12_findRing_30 : decode cX12_findRing 30 = .ok (.iload_n 2, 1) := by decide +kernel
theorem dX12_findRing_31 : decode cX12_findRing 31 = .ok (.iastore, 1) := by decide +kernel
theorem dX12_findRing_32 : decode cX12_findRing 32 = .ok (.iconst 1, 1) := by decide +kernel
theorem dX12_findRing_33 : decode cX12_findRing 33 = .ok (.istore_n 3, 1) := by decide +kernel
theorem dX12_findRing_34 : decode cX12_findRing 34 = .ok (.iload_n 3, 1) := by decide +kernel
theorem dX12_findRing_35 : decode cX12_findRing 35 = .ok (.iload_n 1, 1) := by decide +kernel
theorem dX12_findRing_36 : decode cX12_findRing 36 = .ok (.if_icmp .ge 67, 3) := by decide +kernel
theorem dX12_findRing_39 : decode cX12_findRing 39 = .ok (.iload_n 2, 1) := by decide +kernel
theorem dX12_findRing_40 : decode cX12_findRing 40 = .ok (.iconst 1, 1) := by decide +kernel
theorem dX12_findRing_41 : decode cX12_findRing 41 = .ok (.iadd, 1) := by decide +kernel
theorem dX12_findRing_42 : decode cX12_findRing 42 = .ok (.istore 4, 2) := by decide +kernel
theorem dX12_findRing_44 : decode cX12_findRing 44 = .ok (.aload_n 0, 1) := by decide +kernel
theorem dX12_findRing_45 : decode cX12_findRing 45 = .ok (.getfield 48, 3) := by decide +kernel
theorem dX12_findRing_48 : decode cX12_findRing 48 = .ok (.bipush 10, 2) := by decide +kernel
theorem dX12_findRing_50 : decode cX12_findRing 50 = .ok (.iload_n 1, 1) := by decide +kernel
theorem dX12_findRing_51 : decode cX12_findRing 51 = .ok (.iload_n 3, 1) := by decide +kernel
theorem dX12_findRing_52 : decode cX12_findRing 52 = .ok (.isub, 1) := by decide +kernel
theorem dX12_findRing_53 : decode cX12_findRing 53 = .ok (.imul, 1) := by decide +kernel
theorem dX12_findRing_54 : decode cX12_findRing 54 = .ok (.iload 4, 2) := by decide +kernel
theorem dX12_findRing_56 : decode cX12_findRing 56 = .ok (.iadd, 1) := by decide +kernel
theorem dX12_findRing_57 : decode cX12_findRing 57 = .ok (.baload, 1) := by decide +kernel
theorem dX12_findRing_58 : decode cX12_findRing 58 = .ok (.ifCond .eq 25, 3) := by decide +kernel
theorem dX12_findRing_61 : decode cX12_findRing 61 = .ok (.aload_n 0, 1) := by decide +kernel
theorem dX12_findRing_62 : decode cX12_findRing 62 = .ok (.getfield 45, 3) := by decide +kernel
theorem dX12_findRing_65 : decode cX12_findRing 65 = .ok (.bipush 10, 2) := by decide +kernel
theorem dX12_findRing_67 : decode cX12_findRing 67 = .ok (.aload_n 0, 1) := by decide +kernel
theorem dX12_findRing_68 : decode cX12_findRing 68 = .ok (.getfield 51, 3) := by decide +kernel
theorem dX12_findRing_71 : decode cX12_findRing 71 = .ok (.iload_n 3, 1) := by decide +kernel
theorem dX12_findRing_72 : decode cX12_findRing 72 = .ok (.iconst 1, 1) := by decide +kernel
theorem dX12_findRing_73 : decode cX12_findRing 73 = .ok (.isub, 1) := by decide +kernel
theorem dX12_findRing_74 : decode cX12_findRing 74 = .ok (.iaload, 1) := by decide +kernel
theorem dX12_findRing_75 : decode cX12_findRing 75 = .ok (.imul, 1) := by decide +kernel
theorem dX12_findRing_76 : decode cX12_findRing 76 = .ok (.iload 4, 2) := by decide +kernel
theorem dX12_findRing_78 : decode cX12_findRing 78 = .ok (.iadd, 1) := by decide +kernel
theorem dX12_findRing_79 : decode cX12_findRing 79 = .ok (.baload, 1) := by decide +kernel
theorem dX12_findRing_80 : decode cX12_findRing 80 = .ok (.ifCond .ne 9, 3) := by decide +kernel
theorem dX12_findRing_83 : decode cX12_findRing 83 = .ok (.iinc 4 1, 3) := by decide +kernel
theorem dX12_findRing_86 : decode cX12_findRing 86 = .ok (.goto (-42), 3) := by decide +kernel
theorem dX12_findRing_89 : decode cX12_findRing 89 = .ok (.aload_n 0, 1) := by decide +kernel
theorem dX12_findRing_90 : decode cX12_findRing 90 = .ok (.getfield 51, 3) := by decide +kernel
theorem dX12_findRing_93 : decode cX12_findRing 93 = .ok (.iload_n 3, 1) := by decide +kernel
theorem dX12_findRing_94 : decode cX12_findRing 94 = .ok (.iload 4, 2) := by decide +kernel
theorem dX12_findRing_96 : decode cX12_findRing 96 = .ok (.iastore, 1) := by decide +kernel
theorem dX12_findRing_97 : decode cX12_findRing 97 = .ok (.iinc 3 1, 3) := by decide +kernel
theorem dX12_findRing_100 : decode cX12_findRing 100 = .ok (.goto (-66), 3) := by decide +kernel
theorem dX12_findRing_103 : decode cX12_findRing 103 = .ok (.iload_n 1, 1) := by decide +kernel
theorem dX12_findRing_104 : decode cX12_findRing 104 = .ok (.ireturn, 1) := by decide +kernel
theorem dX12_findRing_105 : decode cX12_findRing 105 = .ok (.iinc 2 1, 3) := by decide +kernel
theorem dX12_findRing_108 : decode cX12_findRing 108 = .ok (.goto (-98), 3) := by decide +kernel
theorem dX12_findRing_111 : decode cX12_findRing 111 = .ok (.iinc 1 1, 3) := by decide +kernel
theorem dX12_findRing_114 : decode cX12_findRing 114 = .ok (.goto (-112), 3) := by decide +kernel
theorem dX12_findRing_117 : decode cX12_findRing 117 = .ok (.iconst 0, 1) := by decide +kernel
theorem dX12_findRing_118 : decode cX12_findRing 118 = .ok (.ireturn, 1) := by decide +kernel
theorem dX12_ring_0 : decode cX12_ring 0 = .ok (.iload_n 1, 1) := by decide +kernel
theorem dX12_ring_1 : decode cX12_ring 1 = .ok (.invokestatic 153, 3) := by decide +kernel
theorem dX12_ring_4 : decode cX12_ring 4 = .ok (.ifCond .eq 8, 3) := by decide +kernel
theorem dX12_ring_7 : decode cX12_ring 7 = .ok (.iload_n 2, 1) := by decide +kernel
theorem dX12_ring_8 : decode cX12_ring 8 = .ok (.iconst (-1), 1) := by decide +kernel
theorem dX12_ring_9 : decode cX12_ring 9 = .ok (.if_icmp .ge 6, 3) := by decide +kernel
theorem dX12_ring_12 : decode cX12_ring 12 = .ok (.bipush (-2), 2) := by decide +kernel
theorem dX12_ring_14 : decode cX12_ring 14 = .ok (.ireturn, 1) := by decide +kernel
theorem dX12_ring_15 : decode cX12_ring 15 = .ok (.aload_n 0, 1) := by decide +kernel
theorem dX12_ring_16 : decode cX12_ring 16 = .ok (.iload_n 1, 1) := by decide +kernel
theorem dX12_ring_17 : decode cX12_ring 17 = .ok (.invokevirtual 242, 3) := by decide +kernel
theorem dX12_ring_20 : decode cX12_ring 20 = .ok (.aload_n 0, 1) := by decide +kernel
theorem dX12_ring_21 : decode cX12_ring 21 = .ok (.invokevirtual 245, 3) := by decide +kernel
theorem dX12_ring_24 : decode cX12_ring 24 = .ok (.istore_n 3, 1) := by decide +kernel
theorem dX12_ring_25 : decode cX12_ring 25 = .ok (.iload_n 2, 1) := by decide +kernel
theorem dX12_ring_26 : decode cX12_ring 26 = .ok (.iconst (-1), 1) := by decide +kernel
theorem dX12_ring_27 : decode cX12_ring 27 = .ok (.if_icmp .ne 7, 3) := by decide +kernel
theorem dX12_ring_30 : decode cX12_ring 30 = .ok (.iload_n 3, 1) := by decide +kernel
theorem dX12_ring_31 : decode cX12_ring 31 = .ok (.goto 18, 3) := by decide +kernel
theorem dX12_ring_34 : decode cX12_ring 34 = .ok (.iload_n 2, 1) := by decide +kernel
theorem dX12_ring_35 : decode cX12_ring 35 = .ok (.iload_n 3, 1) := by decide +kernel
theorem dX12_ring_36 : decode cX12_ring 36 = .ok (.if_icmp .ge 12, 3) := by decide +kernel
theorem dX12_ring_39 : decode cX12_ring 39 = .ok (.aload_n 0, 1) := by decide +kernel
theorem dX12_ring_40 : decode cX12_ring 40 = .ok (.getfield 51, 3) := by decide +kernel
theorem dX12_ring_43 : decode cX12_ring 43 = .ok (.iload_n 2, 1) := by decide +kernel
theorem dX12_ring_44 : decode cX12_ring 44 = .ok (.iaload, 1) := by decide +kernel
theorem dX12_ring_45 : decode cX12_ring 45 = .ok (.goto 4, 3) := by decide +kernel
theorem dX12_ring_48 : decode cX12_ring 48 = .ok (.iconst (-1), 1) := by decide +kernel
theorem dX12_ring_49 : decode cX12_ring 49 = .ok (.ireturn, 1) := by decide +kernel
theorem dX12_names_0 : decode cX12_names 0 = .ok (.iload_n 1, 1) := by decide +kernel
theorem dX12_names_1 : decode cX12_names 1 = .ok (.i2l, 1) := by decide +kernel
theorem dX12_names_2 : decode cX12_names 2 = .ok (.lconst 1, 1) := by decide +kernel
theorem dX12_names_3 : decode cX12_names 3 = .ok (.ldc2_w 248, 3) := by decide +kernel
theorem dX12_names_6 : decode cX12_names 6 = .ok (.invokestatic 79, 3) := by decide +kernel
theorem dX12_names_9 : decode cX12_names 9 = .ok (.ifCond .ne 6, 3) := by decide +kernel
theorem dX12_names_12 : decode cX12_names 12 = .ok (.bipush (-2), 2) := by decide +kernel
theorem dX12_names_14 : decode cX12_names 14 = .ok (.ireturn, 1) := by decide +kernel
theorem dX12_names_15 : decode cX12_names 15 = .ok (.aload_n 0, 1) := by decide +kernel
theorem dX12_names_16 : decode cX12_names 16 = .ok (.getfield 7, 3) := by decide +kernel
theorem dX12_names_19 : decode cX12_names 19 = .ok (.bipush 12, 2) := by decide +kernel
theorem dX12_names_21 : decode cX12_names 21 = .ok (.iload_n 1, 1) := by decide +kernel
theorem dX12_names_22 : decode cX12_names 22 = .ok (.iastore, 1) := by decide +kernel
theorem dX12_names_23 : decode cX12_names 23 = .ok (.aload_n 0, 1) := by decide +kernel
theorem dX12_names_24 : decode cX12_names 24 = .ok (.getfield 7, 3) := by decide +kernel
theorem dX12_names_27 : decode cX12_names 27 = .ok (.bipush 7, 2) := by decide +kernel
theorem dX12_names_29 : decode cX12_names 29 = .ok (.iconst 0, 1) := by decide +kernel
theorem dX12_names_30 : decode cX12_names 30 = .ok (.iastore, 1) := by decide +kernel
theorem dX12_names_31 : decode cX12_names 31 = .ok (.iconst 1, 1) := by decide +kernel
theorem dX12_names_32 : decode cX12_names 32 = .ok (.ireturn, 1) := by decide +kernel
theorem dX12_isName_0 : decode cX12_isName 0 = .ok (.iload_n 1, 1) := by decide +kernel
theorem dX12_isName_1 : decode cX12_isName 1 = .ok (.i2l, 1) := by decide +kernel
theorem dX12_isName_2 : decode cX12_isName 2 = .ok (.lconst 0, 1) := by decide +kernel
theorem dX12_isName_3 : decode cX12_isName 3 = .ok (.aload_n 0, 1) := by decide +kernel
theorem dX12_isName_4 : decode cX12_isName 4 = .ok (.getfield 7, 3) := by decide +kernel
theorem dX12_isName_7 : decode cX12_isName 7 = .ok (.bipush 12, 2) := by decide +kernel
theorem dX12_isName_9 : decode cX12_isName 9 = .ok (.iaload, 1) := by decide +kernel
theorem dX12_isName_10 : decode cX12_isName 10 = .ok (.iconst 1, 1) := by decide +kernel
theorem dX12_isName_11 : decode cX12_isName 11 = .ok (.isub, 1) := by decide +kernel
theorem dX12_isName_12 : decode cX12_isName 12 = .ok (.i2l, 1) := by decide +kernel
theorem dX12_isName_13 : decode cX12_isName 13 = .ok (.invokestatic 79, 3) := by decide +kernel
theorem dX12_isName_16 : decode cX12_isName 16 = .ok (.ireturn, 1) := by decide +kernel
theorem dX12_ahead_0 : decode cX12_ahead 0 = .ok (.aload_n 0, 1) := by decide +kernel
theorem dX12_ahead_1 : decode cX12_ahead 1 = .ok (.iload_n 1, 1) := by decide +kernel
theorem dX12_ahead_2 : decode cX12_ahead 2 = .ok (.invokevirtual 250, 3) := by decide +kernel
theorem dX12_ahead_5 : decode cX12_ahead 5 = .ok (.ifCond .eq 28, 3) := by decide +kernel
theorem dX12_ahead_8 : decode cX12_ahead 8 = .ok (.aload_n 0, 1) := by decide +kernel
theorem dX12_ahead_9 : decode cX12_ahead 9 = .ok (.iload_n 2, 1) := by decide +kernel
theorem dX12_ahead_10 : decode cX12_ahead 10 = .ok (.invokevirtual 250, 3) := by decide +kernel
theorem dX12_ahead_13 : decode cX12_ahead 13 = .ok (.ifCond .eq 20, 3) := by decide +kernel
theorem dX12_ahead_16 : decode cX12_ahead 16 = .ok (.iload_n 1, 1) := by decide +kernel
theorem dX12_ahead_17 : decode cX12_ahead 17 = .ok (.iload_n 2, 1) := by decide +kernel
theorem dX12_ahead_18 : decode cX12_ahead 18 = .ok (.if_icmp .eq 15, 3) := by decide +kernel
theorem dX12_ahead_21 : decode cX12_ahead 21 = .ok (.iload_n 3, 1) := by decide +kernel
theorem dX12_ahead_22 : decode cX12_ahead 22 = .ok (.i2l, 1) := by decide +kernel
theorem dX12_ahead_23 : decode cX12_ahead 23 = .ok (.lconst 0, 1) := by decide +kernel
theorem dX12_ahead_24 : decode cX12_ahead 24 = .ok (.ldc2_w 83, 3) := by decide +kernel
theorem dX12_ahead_27 : decode cX12_ahead 27 = .ok (.invokestatic 79, 3) := by decide +kernel
theorem dX12_ahead_30 : decode cX12_ahead 30 = .ok (.ifCond .ne 6, 3) := by decide +kernel
theorem dX12_ahead_33 : decode cX12_ahead 33 = .ok (.bipush (-2), 2) := by decide +kernel
theorem dX12_ahead_35 : decode cX12_ahead 35 = .ok (.ireturn, 1) := by decide +kernel
theorem dX12_ahead_36 : decode cX12_ahead 36 = .ok (.aload_n 0, 1) := by decide +kernel
theorem dX12_ahead_37 : decode cX12_ahead 37 = .ok (.getfield 7, 3) := by decide +kernel
theorem dX12_ahead_40 : decode cX12_ahead 40 = .ok (.bipush 7, 2) := by decide +kernel
theorem dX12_ahead_42 : decode cX12_ahead 42 = .ok (.iaload, 1) := by decide +kernel
theorem dX12_ahead_43 : decode cX12_ahead 43 = .ok (.bipush 40, 2) := by decide +kernel
theorem dX12_ahead_45 : decode cX12_ahead 45 = .ok (.if_icmp .ne 6, 3) := by decide +kernel
theorem dX12_ahead_48 : decode cX12_ahead 48 = .ok (.bipush (-4), 2) := by decide +kernel
theorem dX12_ahead_50 : decode cX12_ahead 50 = .ok (.ireturn, 1) := by decide +kernel
theorem dX12_ahead_51 : decode cX12_ahead 51 = .ok (.sipush 1633, 3) := by decide +kernel
theorem dX12_ahead_54 : decode cX12_ahead 54 = .ok (.iconst 3, 1) := by decide +kernel
theorem dX12_ahead_55 : decode cX12_ahead 55 = .ok (.aload_n 0, 1) := by decide +kernel
theorem dX12_ahead_56 : decode cX12_ahead 56 = .ok (.getfield 7, 3) := by decide +kernel
theorem dX12_ahead_59 : decode cX12_ahead 59 = .ok (.bipush 7, 2) := by decide +kernel
theorem dX12_ahead_61 : decode cX12_ahead 61 = .ok (.iaload, 1) := by decide +kernel
theorem dX12_ahead_62 : decode cX12_ahead 62 = .ok (.imul, 1) := by decide +kernel
theorem dX12_ahead_63 : decode cX12_ahead 63 = .ok (.iadd, 1) := by decide +kernel
theorem dX12_ahead_64 : decode cX12_ahead 64 = .ok (.istore 4, 2) := by decide +kernel
theorem dX12_ahead_66 : decode cX12_ahead 66 = .ok (.aload_n 0, 1) := by decide +kernel
theorem dX12_ahead_67 : decode cX12_ahead 67 = .ok (.getfield 7, 3) := by decide +kernel
theorem dX12_ahead_70 : decode cX12_ahead 70 = .ok (.iload 4, 2) := by decide +kernel
theorem dX12_ahead_72 : decode cX12_ahead 72 = .ok (.iload_n 1, 1) := by decide +kernel
theorem dX12_ahead_73 : decode cX12_ahead 73 = .ok (.iastore, 1) := by decide +kernel
theorem dX12_ahead_74 : decode cX12_ahead 74 = .ok (.aload_n 0, 1) := by decide +kernel
theorem dX12_ahead_75 : decode cX12_ahead 75 = .ok (.getfield 7, 3) := by decide +kernel
theorem dX12_ahead_78 : decode cX12_ahead 78 = .ok (.iload 4, 2) := by decide +kernel
theorem dX12_ahead_80 : decode cX12_ahead 80 = .ok (.iconst 1, 1) := by decide +kernel
theorem dX12_ahead_81 : decode cX12_ahead 81 = .ok (.iadd, 1) := by decide +kernel
theorem dX12_ahead_82 : decode cX12_ahead 82 = .ok (.iload_n 2, 1) := by decide +kernel
theorem dX12_ahead_83 : decode cX12_ahead 83 = .ok (.iastore, 1) := by decide +kernel
theorem dX12_ahead_84 : decode cX12_ahead 84 = .ok (.aload_n 0, 1) := by decide +kernel
theorem dX12_ahead_85 : decode cX12_ahead 85 = .ok (.getfield 7, 3) := by decide +kernel
theorem dX12_ahead_88 : decode cX12_ahead 88 = .ok (.iload 4, 2) := by decide +kernel
theorem dX12_ahead_90 : decode cX12_ahead 90 = .ok (.iconst 2, 1) := by decide +kernel
theorem dX12_ahead_91 : decode cX12_ahead 91 = .ok (.iadd, 1) := by decide +kernel
theorem dX12_ahead_92 : decode cX12_ahead 92 = .ok (.iload_n 3, 1) := by decide +kernel
theorem dX12_ahead_93 : decode cX12_ahead 93 = .ok (.iastore, 1) := by decide +kernel
theorem dX12_ahead_94 : decode cX12_ahead 94 = .ok (.aload_n 0, 1) := by decide +kernel
theorem dX12_ahead_95 : decode cX12_ahead 95 = .ok (.bipush 7, 2) := by decide +kernel
theorem dX12_ahead_97 : decode cX12_ahead 97 = .ok (.invokevirtual 91, 3) := by decide +kernel
theorem dX12_ahead_100 : decode cX12_ahead 100 = .ok (.iconst 1, 1) := by decide +kernel
theorem dX12_ahead_101 : decode cX12_ahead 101 = .ok (.iadd, 1) := by decide +kernel
theorem dX12_ahead_102 : decode cX12_ahead 102 = .ok (.ireturn, 1) := by decide +kernel
theorem dX12_mayCome_0 : decode cX12_mayCome 0 = .ok (.iload_n 1, 1) := by decide +kernel
theorem dX12_mayCome_1 : decode cX12_mayCome 1 = .ok (.iload_n 2, 1) := by decide +kernel
theorem dX12_mayCome_2 : decode cX12_mayCome 2 = .ok (.ishr, 1) := by decide +kernel
theorem dX12_mayCome_3 : decode cX12_mayCome 3 = .ok (.iconst 1, 1) := by decide +kernel
theorem dX12_mayCome_4 : decode cX12_mayCome 4 = .ok (.iand, 1) := by decide +kernel
theorem dX12_mayCome_5 : decode cX12_mayCome 5 = .ok (.ifCond .ne 20, 3) := by decide +kernel
theorem dX12_mayCome_8 : decode cX12_mayCome 8 = .ok (.aload_n 0, 1) := by decide +kernel
theorem dX12_mayCome_9 : decode cX12_mayCome 9 = .ok (.getfield 54, 3) := by decide +kernel
theorem dX12_mayCome_12 : decode cX12_mayCome 12 = .ok (.iload_n 2, 1) := by decide +kernel
theorem dX12_mayCome_13 : decode cX12_mayCome 13 = .ok (.iaload, 1) := by decide +kernel
theorem dX12_mayCome_14 : decode cX12_mayCome 14 = .ok (.iload_n 1, 1) := by decide +kernel
theorem dX12_mayCome_15 : decode cX12_mayCome 15 = .ok (.iconst (-1), 1) := by decide +kernel
theorem dX12_mayCome_16 : decode cX12_mayCome 16 = .ok (.ixor, 1) := by decide +kernel
theorem dX12_mayCome_17 : decode cX12_mayCome 17 = .ok (.iand, 1) := by decide +kernel
theorem dX12_mayCome_18 : decode cX12_mayCome 18 = .ok (.ifCond .ne 7, 3) := by decide +kernel
theorem dX12_mayCome_21 : decode cX12_mayCome 21 = .ok (.iconst 1, 1) := by decide +kernel
theorem dX12_mayCome_22 : decode cX12_mayCome 22 = .ok (.goto 4, 3) := by decide +kernel
theorem dX12_mayCome_25 : decode cX12_mayCome 25 = .ok (.iconst 0, 1) := by decide +kernel
theorem dX12_mayCome_26 : decode cX12_mayCome 26 = .ok (.ireturn, 1) := by decide +kernel
theorem dX12_findOrders_0 : decode cX12_findOrders 0 = .ok (.aload_n 0, 1) := by decide +kernel
theorem dX12_findOrders_1 : decode cX12_findOrders 1 = .ok (.getfield 7, 3) := by decide +kernel
theorem dX12_findOrders_4 : decode cX12_findOrders 4 = .ok (.bipush 12, 2) := by decide +kernel
theorem dX12_findOrders_6 : decode cX12_findOrders 6 = .ok (.iaload, 1) := by decide +kernel
theorem dX12_findOrders_7 : decode cX12_findOrders 7 = .ok (.istore_n 2, 1) := by decide +kernel
theorem dX12_findOrders_8 : decode cX12_findOrders 8 = .ok (.iconst 0, 1) := by decide +kernel
theorem dX12_findOrders_9 : decode cX12_findOrders 9 = .ok (.istore_n 3, 1) := by decide +kernel
theorem dX12_findOrders_10 : decode cX12_findOrders 10 = .ok (.iload_n 3, 1) := by decide +kernel
theorem dX12_findOrders_11 : decode cX12_findOrders 11 = .ok (.bipush 9, 2) := by decide +kernel
theorem dX12_findOrders_13 : decode cX12_findOrders 13 = .ok (.if_icmp .ge 16, 3) := by decide +kernel
theorem dX12_findOrders_16 : decode cX12_findOrders 16 = .ok (.aload_n 0, 1) := by decide +kernel
theorem dX12_findOrders_17 : decode cX12_findOrders 17 = .ok (.getfield 54, 3) := by decide +kernel
theorem dX12_findOrders_20 : decode cX12_findOrders 20 = .ok (.iload_n 3, 1) := by decide +kernel
theorem dX12_findOrders_21 : decode cX12_findOrders 21 = .ok (.iconst 0, 1) := by decide +kernel
theorem dX12_findOrders_22 : decode cX12_findOrders 22 = .ok (.iastore, 1) := by decide +kernel
theorem dX12_findOrders_23 : decode cX12_findOrders 23 = .ok (.iinc 3 1, 3) := by decide +kernel
theorem dX12_findOrders_26 : decode cX12_findOrders 26 = .ok (.goto (-16), 3) := by decide +kernel
theorem dX12_findOrders_29 : decode cX12_findOrders 29 = .ok (.iconst 0, 1) := by decide +kernel
theorem dX12_findOrders_30 : decode cX12_findOrders 30 = .ok (.istore_n 3, 1) := by decide +kernel
theorem dX12_findOrders_31 : decode cX12_findOrders 31 = .ok (.iload_n 3, 1) := by decide +kernel
theorem dX12_findOrders_32 : decode cX12_findOrders 32 = .ok (.aload_n 0, 1) := by decide +kernel
theorem dX12_findOrders_33 : decode cX12_findOrders 33 = .ok (.getfield 7, 3) := by decide +kernel
theorem dX12_findOrders_36 : decode cX12_findOrders 36 = .ok (.bipush 7, 2) := by decide +kernel
theorem dX12_findOrders_38 : decode cX12_findOrders 38 = .ok (.iaload, 1) := by decide +kernel
theorem dX12_findOrders_39 : decode cX12_findOrders 39 = .ok (.if_icmp .ge 61, 3) := by decide +kernel
theorem dX12_findOrders_42 : decode cX12_findOrders 42 = .ok (.sipush 1633, 3) := by decide +kernel
theorem dX12_findOrders_45 : decode cX12_findOrders 45 = .ok (.iconst 3, 1) := by decide +kernel
theorem dX12_findOrders_46 : decode cX12_findOrders 46 = .ok (.iload_n 3, 1) := by decide +kernel
theorem dX12_findOrders_47 : decode cX12_findOrders 47 = .ok (.imul, 1) := by decide +kernel
theorem dX12_findOrders_48 : decode cX12_findOrders 48 = .ok (.iadd, 1) := by decide +kernel
theorem dX12_findOrders_49 : decode cX12_findOrders 49 = .ok (.istore 4, 2) := by decide +kernel
theorem dX12_findOrders_51 : decode cX12_findOrders 51 = .ok (.aload_n 0, 1) := by decide +kernel
theorem dX12_findOrders_52 : decode cX12_findOrders 52 = .ok (.getfield 54, 3) := by decide +kernel
theorem dX12_findOrders_55 : decode cX12_findOrders 55 = .ok (.aload_n 0, 1) := by decide +kernel
theorem dX12_findOrders_56 : decode cX12_findOrders 56 = .ok (.getfield 7, 3) := by decide +kernel
theorem dX12_findOrders_59 : decode cX12_findOrders 59 = .ok (.iload 4, 2) := by decide +kernel
theorem dX12_findOrders_61 : decode cX12_findOrders 61 = .ok (.iconst 1, 1) := by decide +kernel
theorem dX12_findOrders_62 : decode cX12_findOrders 62 = .ok (.iadd, 1) := by decide +kernel
theorem dX12_findOrders_63 : decode cX12_findOrders 63 = .ok (.iaload, 1) := by decide +kernel
theorem dX12_findOrders_64 : decode cX12_findOrders 64 = .ok (.dup2, 1) := by decide +kernel
theorem dX12_findOrders_65 : decode cX12_findOrders 65 = .ok (.iaload, 1) := by decide +kernel
theorem dX12_findOrders_66 : decode cX12_findOrders 66 = .ok (.aload_n 0, 1) := by decide +kernel
theorem dX12_findOrders_67 : decode cX12_findOrders 67 = .ok (.getfield 7, 3) := by decide +kernel
theorem dX12_findOrders_70 : decode cX12_findOrders 70 = .ok (.iload 4, 2) := by decide +kernel
theorem dX12_findOrders_72 : decode cX12_findOrders 72 = .ok (.iconst 2, 1) := by decide +kernel
theorem dX12_findOrders_73 : decode cX12_findOrders 73 = .ok (.iadd, 1) := by decide +kernel
theorem dX12_findOrders_74 : decode cX12_findOrders 74 = .ok (.iaload, 1) := by decide +kernel
theorem dX12_findOrders_75 : decode cX12_findOrders 75 = .ok (.iload_n 1, 1) := by decide +kernel
theorem dX12_findOrders_76 : decode cX12_findOrders 76 = .ok (.if_icmp .gt 15, 3) := by decide +kernel
theorem dX12_findOrders_79 : decode cX12_findOrders 79 = .ok (.iconst 1, 1) := by decide +kernel
theorem dX12_findOrders_80 : decode cX12_findOrders 80 = .ok (.aload_n 0, 1) := by decide +kernel
theorem dX12_findOrders_81 : decode cX12_findOrders 81 = .ok (.getfield 7, 3) := by decide +kernel
theorem dX12_findOrders_84 : decode cX12_findOrders 84 = .ok (.iload 4, 2) := by decide +kernel
theorem dX12_findOrders_86 : decode cX12_findOrders 86 = .ok (.iaload, 1) := by decide +kernel
theorem dX12_findOrders_87 : decode cX12_findOrders 87 = .ok (.ishl, 1) := by decide +kernel
theorem dX12_findOrders_88 : decode cX12_findOrders 88 = .ok (.goto 4, 3) := by decide +kernel
theorem dX12_findOrders_91 : decode cX12_findOrders 91 = .ok (.iconst 0, 1) := by decide +kernel
theorem dX12_findOrders_92 : decode cX12_findOrders 92 = .ok (.ior, 1) := by decide +kernel
theorem dX12_findOrders_93 : decode cX12_findOrders 93 = .ok (.iastore, 1) := by decide +kernel
theorem dX12_findOrders_94 : decode cX12_findOrders 94 = .ok (.iinc 3 1, 3) := by decide +kernel
theorem dX12_findOrders_97 : decode cX12_findOrders 97 = .ok (.goto (-66), 3) := by decide +kernel
theorem dX12_findOrders_100 : decode cX12_findOrders 100 = .ok (.iconst 1, 1) := by decide +kernel
theorem dX12_findOrders_101 : decode cX12_findOrders 101 = .ok (.iload_n 2, 1) := by decide +kernel
theorem dX12_findOrders_102 : decode cX12_findOrders 102 = .ok (.ishl, 1) := by decide +kernel
theorem dX12_findOrders_103 : decode cX12_findOrders 103 = .ok (.iconst 1, 1) := by decide +kernel
theorem dX12_findOrders_104 : decode cX12_findOrders 104 = .ok (.isub, 1) := by decide +kernel
theorem dX12_findOrders_105 : decode cX12_findOrders 105 = .ok (.istore_n 3, 1) := by decide +kernel
theorem dX12_findOrders_106 : decode cX12_findOrders 106 = .ok (.iconst 0, 1) := by decide +kernel
theorem dX12_findOrders_107 : decode cX12_findOrders 107 = .ok (.istore 4, 2) := by decide +kernel
theorem dX12_findOrders_109 : decode cX12_findOrders 109 = .ok (.iload 4, 2) := by decide +kernel
theorem dX12_findOrders_111 : decode cX12_findOrders 111 = .ok (.iload_n 3, 1) := by decide +kernel
theorem dX12_findOrders_112 : decode cX12_findOrders 112 = .ok (.if_icmp .gt 90, 3) := by decide +kernel
theorem dX12_findOrders_115 : decode cX12_findOrders 115 = .ok (.aload_n 0, 1) := by decide +kernel
theorem dX12_findOrders_116 : decode cX12_findOrders 116 = .ok (.getfield 57, 3) := by decide +kernel
theorem dX12_findOrders_119 : decode cX12_findOrders 119 = .ok (.iload 4, 2) := by decide +kernel
theorem dX12_findOrders_121 : decode cX12_findOrders 121 = .ok (.iload 4, 2) := by decide +kernel
theorem dX12_findOrders_123 : decode cX12_findOrders 123 = .ok (.ifCond .ne 7, 3) := by decide +kernel
theorem dX12_findOrders_126 : decode cX12_findOrders 126 = .ok (.lconst 1, 1) := by decide +kernel
theorem dX12_findOrders_127 : decode cX12_findOrders 127 = .ok (.goto 4, 3) := by decide +kernel
theorem dX12_findOrders_130 : decode cX12_findOrders 130 = .ok (.lconst 0, 1) := by decide +kernel
theorem dX12_findOrders_131 : decode cX12_findOrders 131 = .ok (.lastore, 1) := by decide +kernel
theorem dX12_findOrders_132 : decode cX12_findOrders 132 = .ok (.iconst 0, 1) := by decide +kernel
theorem dX12_findOrders_133 : decode cX12_findOrders 133 = .ok (.istore 5, 2) := by decide +kernel
theorem dX12_findOrders_135 : decode cX12_findOrders 135 = .ok (.iload 5, 2) := by decide +kernel
theorem dX12_findOrders_137 : decode cX12_findOrders 137 = .ok (.iload_n 2, 1) := by decide +kernel
theorem dX12_findOrders_138 : decode cX12_findOrders 138 = .ok (.if_icmp .ge 58, 3) := by decide +kernel
theorem dX12_findOrders_141 : decode cX12_findOrders 141 = .ok (.iload 4, 2) := by decide +kernel
theorem dX12_findOrders_143 : decode cX12_findOrders 143 = .ok (.iload 5, 2) := by decide +kernel
theorem dX12_findOrders_145 : decode cX12_findOrders 145 = .ok (.ishr, 1) := by decide +kernel
theorem dX12_findOrders_146 : decode cX12_findOrders 146 = .ok (.iconst 1, 1) := by decide +kernel
theorem dX12_findOrders_147 : decode cX12_findOrders 147 = .ok (.iand, 1) := by decide +kernel
theorem dX12_findOrders_148 : decode cX12_findOrders 148 = .ok (.iconst 1, 1) := by decide +kernel
theorem dX12_findOrders_149 : decode cX12_findOrders 149 = .ok (.if_icmp .ne 41, 3) := by decide +kernel
theorem dX12_findOrders_152 : decode cX12_findOrders 152 = .ok (.aload_n 0, 1) := by decide +kernel
theorem dX12_findOrders_153 : decode cX12_findOrders 153 = .ok (.iload 4, 2) := by decide +kernel
theorem dX12_findOrders_155 : decode cX12_findOrders 155 = .ok (.iconst 1, 1) := by decide +kernel
theorem dX12_findOrders_156 : decode cX12_findOrders 156 = .ok (.iload 5, 2) := by decide +kernel
theorem dX12_findOrders_158 : decode cX12_findOrders 158 = .ok (.ishl, 1) := by decide +kernel
theorem dX12_findOrders_159 : decode cX12_findOrders 159 = .ok (.ixor, 1) := by decide +kernel
theorem dX12_findOrders_160 : decode cX12_findOrders 160 = .ok (.iload 5, 2) := by decide +kernel
theorem dX12_findOrders_162 : decode cX12_findOrders 162 = .ok (.invokevirtual 253, 3) := by decide +kernel
theorem dX12_findOrders_165 : decode cX12_findOrders 165 = .ok (.ifCond .eq 25, 3) := by decide +kernel
theorem dX12_findOrders_168 : decode cX12_findOrders 168 = .ok (.aload_n 0, 1) := by decide +kernel
theorem dX12_findOrders_169 : decode cX12_findOrders 169 = .ok (.getfield 57, 3) := by decide +kernel
theorem dX12_findOrders_172 : decode cX12_findOrders 172 = .ok (.iload 4, 2) := by decide +kernel
theorem dX12_findOrders_174 : decode cX12_findOrders 174 = .ok (.dup2, 1) := by decide +kernel
theorem dX12_findOrders_175 : decode cX12_findOrders 175 = .ok (.laload, 1) := by decide +kernel
theorem dX12_findOrders_176 : decode cX12_findOrders 176 = .ok (.aload_n 0, 1) := by decide +kernel
theorem dX12_findOrders_177 : decode cX12_findOrders 177 = .ok (.getfield 57, 3) := by decide +kernel
theorem dX12_findOrders_180 : decode cX12_findOrders 180 = .ok (.iload 4, 2) := by decide +kernel
theorem dX12_findOrders_182 : decode cX12_findOrders 182 = .ok (.iconst 1, 1) := by decide +kernel
theorem dX12_findOrders_183 : decode cX12_findOrders 183 = .ok (.iload 5, 2) := by decide +kernel
theorem dX12_findOrders_185 : decode cX12_findOrders 185 = .ok (.ishl, 1) := by decide +kernel
theorem dX12_findOrders_186 : decode cX12_findOrders 186 = .ok (.ixor, 1) := by decide +kernel
theorem dX12_findOrders_187 : decode cX12_findOrders 187 = .ok (.laload, 1) := by decide +kernel
theorem dX12_findOrders_188 : decode cX12_findOrders 188 = .ok (.ladd, 1) := by decide +kernel
theorem dX12_findOrders_189 : decode cX12_findOrders 189 = .ok (.lastore, 1) := by decide +kernel
theorem dX12_findOrders_190 : decode cX12_findOrders 190 = .ok (.iinc 5 1, 3) := by decide +kernel
theorem dX12_findOrders_193 : decode cX12_findOrders 193 = .ok (.goto (-58), 3) := by decide +kernel
theorem dX12_findOrders_196 : decode cX12_findOrders 196 = .ok (.iinc 4 1, 3) := by decide +kernel
theorem dX12_findOrders_199 : decode cX12_findOrders 199 = .ok (.goto (-90), 3) := by decide +kernel
theorem dX12_findOrders_202 : decode cX12_findOrders 202 = .ok (.iload_n 3, 1) := by decide +kernel
theorem dX12_findOrders_203 : decode cX12_findOrders 203 = .ok (.istore 4, 2) := by decide +kernel
theorem dX12_findOrders_205 : decode cX12_findOrders 205 = .ok (.iload 4, 2) := by decide +kernel
theorem dX12_findOrders_207 : decode cX12_findOrders 207 = .ok (.ifCond .lt 79, 3) := by decide +kernel
theorem dX12_findOrders_210 : decode cX12_findOrders 210 = .ok (.aload_n 0, 1) := by decide +kernel
theorem dX12_findOrders_211 : decode cX12_findOrders 211 = .ok (.getfield 60, 3) := by decide +kernel
theorem dX12_findOrders_214 : decode cX12_findOrders 214 = .ok (.iload 4, 2) := by decide +kernel
theorem dX12_findOrders_216 : decode cX12_findOrders 216 = .ok (.iload 4, 2) := by decide +kernel
theorem dX12_findOrders_218 : decode cX12_findOrders 218 = .ok (.iload_n 3, 1) := by decide +kernel
theorem dX12_findOrders_219 : decode cX12_findOrders 219 = .ok (.if_icmp .ne 7, 3) := by decide +kernel
theorem dX12_findOrders_222 : decode cX12_findOrders 222 = .ok (.lconst 1, 1) := by decide +kernel
theorem dX12_findOrders_223 : decode cX12_findOrders 223 = .ok (.goto 4, 3) := by decide +kernel
theorem dX12_findOrders_226 : decode cX12_findOrders 226 = .ok (.lconst 0, 1) := by decide +kernel
theorem dX12_findOrders_227 : decode cX12_findOrders 227 = .ok (.lastore, 1) := by decide +kernel
theorem dX12_findOrders_228 : decode cX12_findOrders 228 = .ok (.iconst 0, 1) := by decide +kernel
theorem dX12_findOrders_229 : decode cX12_findOrders 229 = .ok (.istore 5, 2) := by decide +kernel
theorem dX12_findOrders_231 : decode cX12_findOrders 231 = .ok (.iload 5, 2) := by decide +kernel
theorem dX12_findOrders_233 : decode cX12_findOrders 233 = .ok (.iload_n 2, 1) := by decide +kernel
theorem dX12_findOrders_234 : decode cX12_findOrders 234 = .ok (.if_icmp .ge 46, 3) := by decide +kernel
theorem dX12_findOrders_237 : decode cX12_findOrders 237 = .ok (.aload_n 0, 1) := by decide +kernel
theorem dX12_findOrders_238 : decode cX12_findOrders 238 = .ok (.getfield 60, 3) := by decide +kernel
theorem dX12_findOrders_241 : decode cX12_findOrders 241 = .ok (.iload 4, 2) := by decide +kernel
theorem dX12_findOrders_243 : decode cX12_findOrders 243 = .ok (.dup2, 1) := by decide +kernel
theorem dX12_findOrders_244 : decode cX12_findOrders 244 = .ok (.laload, 1) := by decide +kernel
theorem dX12_findOrders_245 : decode cX12_findOrders 245 = .ok (.aload_n 0, 1) := by decide +kernel
theorem dX12_findOrders_246 : decode cX12_findOrders 246 = .ok (.iload 4, 2) := by decide +kernel
theorem dX12_findOrders_248 : decode cX12_findOrders 248 = .ok (.iload 5, 2) := by decide +kernel
theorem dX12_findOrders_250 : decode cX12_findOrders 250 = .ok (.invokevirtual 253, 3) := by decide +kernel
theorem dX12_findOrders_253 : decode cX12_findOrders 253 = .ok (.ifCond .eq 18, 3) := by decide +kernel
theorem dX12_findOrders_256 : decode cX12_findOrders 256 = .ok (.aload_n 0, 1) := by decide +kernel
theorem dX12_findOrders_257 : decode cX12_findOrders 257 = .ok (.getfield 60, 3) := by decide +kernel
theorem dX12_findOrders_260 : decode cX12_findOrders 260 = .ok (.iload 4, 2) := by decide +kernel
theorem dX12_findOrders_262 : decode cX12_findOrders 262 = .ok (.iconst 1, 1) := by decide +kernel
theorem dX12_findOrders_263 : decode cX12_findOrders 263 = .ok (.iload 5, 2) := by decide +kernel
theorem dX12_findOrders_265 : decode cX12_findOrders 265 = .ok (.ishl, 1) := by decide +kernel
theorem dX12_findOrders_266 : decode cX12_findOrders 266 = .ok (.ior, 1) := by decide +kernel
theorem dX12_findOrders_267 : decode cX12_findOrders 267 = .ok (.laload, 1) := by decide +kernel
theorem dX12_findOrders_268 : decode cX12_findOrders 268 = .ok (.goto 4, 3) := by decide +kernel
theorem dX12_findOrders_271 : decode cX12_findOrders 271 = .ok (.lconst 0, 1) := by decide +kernel
theorem dX12_findOrders_272 : decode cX12_findOrders 272 = .ok (.ladd, 1) := by decide +kernel
theorem dX12_findOrders_273 : decode cX12_findOrders 273 = .ok (.lastore, 1) := by decide +kernel
theorem dX12_findOrders_274 : decode cX12_findOrders 274 = .ok (.iinc 5 1, 3) := by decide +kernel
theorem dX12_findOrders_277 : decode cX12_findOrders 277 = .ok (.goto (-46), 3) := by decide +kernel
theorem dX12_findOrders_280 : decode cX12_findOrders 280 = .ok (.iinc 4 (-1), 3) := by decide +kernel
theorem dX12_findOrders_283 : decode cX12_findOrders 283 = .ok (.goto (-78), 3) := by decide +kernel
theorem dX12_findOrders_286 : decode cX12_findOrders 286 = .ok (.aload_n 0, 1) := by decide +kernel
theorem dX12_findOrders_287 : decode cX12_findOrders 287 = .ok (.getfield 60, 3) := by decide +kernel
theorem dX12_findOrders_290 : decode cX12_findOrders 290 = .ok (.iconst 0, 1) := by decide +kernel
theorem dX12_findOrders_291 : decode cX12_findOrders 291 = .ok (.laload, 1) := by decide +kernel
theorem dX12_findOrders_292 : decode cX12_findOrders 292 = .ok (.lreturn, 1) := by decide +kernel
theorem dX12_isKnown_0 : decode cX12_isKnown 0 = .ok (.iload_n 0, 1) := by decide +kernel
theorem dX12_isKnown_1 : decode cX12_isKnown 1 = .ok (.i2l, 1) := by decide +kernel
theorem dX12_isKnown_2 : decode cX12_isKnown 2 = .ok (.lconst 0, 1) := by decide +kernel
theorem dX12_isKnown_3 : decode cX12_isKnown 3 = .ok (.ldc2_w 83, 3) := by decide +kernel
theorem dX12_isKnown_6 : decode cX12_isKnown 6 = .ok (.invokestatic 79, 3) := by decide +kernel
theorem dX12_isKnown_9 : decode cX12_isKnown 9 = .ok (.ireturn, 1) := by decide +kernel
theorem dX12_orders_0 : decode cX12_orders 0 = .ok (.iload_n 1, 1) := by decide +kernel
theorem dX12_orders_1 : decode cX12_orders 1 = .ok (.invokestatic 256, 3) := by decide +kernel
theorem dX12_orders_4 : decode cX12_orders 4 = .ok (.ifCond .eq 12, 3) := by decide +kernel
theorem dX12_orders_7 : decode cX12_orders 7 = .ok (.aload_n 0, 1) := by decide +kernel
theorem dX12_orders_8 : decode cX12_orders 8 = .ok (.iload_n 1, 1) := by decide +kernel
theorem dX12_orders_9 : decode cX12_orders 9 = .ok (.invokevirtual 259, 3) := by decide +kernel
theorem dX12_orders_12 : decode cX12_orders 12 = .ok (.l2i, 1) := by decide +kernel
theorem dX12_orders_13 : decode cX12_orders 13 = .ok (.goto 5, 3) := by decide +kernel
theorem dX12_orders_16 : decode cX12_orders 16 = .ok (.bipush (-2), 2) := by decide +kernel
theorem dX12_orders_18 : decode cX12_orders 18 = .ok (.ireturn, 1) := by decide +kernel
theorem dX12_sizeOf_0 : decode cX12_sizeOf 0 = .ok (.iconst 0, 1) := by decide +kernel
theorem dX12_sizeOf_1 : decode cX12_sizeOf 1 = .ok (.istore_n 1, 1) := by decide +kernel
theorem dX12_sizeOf_2 : decode cX12_sizeOf 2 = .ok (.iload_n 0, 1) := by decide +kernel
theorem dX12_sizeOf_3 : decode cX12_sizeOf 3 = .ok (.istore_n 2, 1) := by decide +kernel
theorem dX12_sizeOf_4 : decode cX12_sizeOf 4 = .ok (.iload_n 2, 1) := by decide +kernel
theorem dX12_sizeOf_5 : decode cX12_sizeOf 5 = .ok (.ifCond .le 16, 3) := by decide +kernel
theorem dX12_sizeOf_8 : decode cX12_sizeOf 8 = .ok (.iload_n 1, 1) := by decide +kernel
theorem dX12_sizeOf_9 : decode cX12_sizeOf 9 = .ok (.iload_n 2, 1) := by decide +kernel
theorem dX12_sizeOf_10 : decode cX12_sizeOf 10 = .ok (.iconst 1, 1) := by decide +kernel
theorem dX12_sizeOf_11 : decode cX12_sizeOf 11 = .ok (.iand, 1) := by decide +kernel
theorem dX12_sizeOf_12 : decode cX12_sizeOf 12 = .ok (.iadd, 1) := by decide +kernel
theorem dX12_sizeOf_13 : decode cX12_sizeOf 13 = .ok (.istore_n 1, 1) := by decide +kernel
theorem dX12_sizeOf_14 : decode cX12_sizeOf 14 = .ok (.iload_n 2, 1) := by decide +kernel
theorem dX12_sizeOf_15 : decode cX12_sizeOf 15 = .ok (.iconst 1, 1) := by decide +kernel
theorem dX12_sizeOf_16 : decode cX12_sizeOf 16 = .ok (.ishr, 1) := by decide +kernel
theorem dX12_sizeOf_17 : decode cX12_sizeOf 17 = .ok (.istore_n 2, 1) := by decide +kernel
theorem dX12_sizeOf_18 : decode cX12_sizeOf 18 = .ok (.goto (-14), 3) := by decide +kernel
theorem dX12_sizeOf_21 : decode cX12_sizeOf 21 = .ok (.iload_n 1, 1) := by decide +kernel
theorem dX12_sizeOf_22 : decode cX12_sizeOf 22 = .ok (.ireturn, 1) := by decide +kernel
theorem dX12_place_0 : decode cX12_place 0 = .ok (.aload_n 0, 1) := by decide +kernel
theorem dX12_place_1 : decode cX12_place 1 = .ok (.iload_n 1, 1) := by decide +kernel
theorem dX12_place_2 : decode cX12_place 2 = .ok (.invokevirtual 250, 3) := by decide +kernel
theorem dX12_place_5 : decode cX12_place 5 = .ok (.ifCond .eq 20, 3) := by decide +kernel
theorem dX12_place_8 : decode cX12_place 8 = .ok (.iload_n 2, 1) := by decide +kernel
theorem dX12_place_9 : decode cX12_place 9 = .ok (.invokestatic 256, 3) := by decide +kernel
theorem dX12_place_12 : decode cX12_place 12 = .ok (.ifCond .eq 13, 3) := by decide +kernel
theorem dX12_place_15 : decode cX12_place 15 = .ok (.iload_n 3, 1) := by decide +kernel
theorem dX12_place_16 : decode cX12_place 16 = .ok (.i2l, 1) := by decide +kernel
theorem dX12_place_17 : decode cX12_place 17 = .ok (.lconst 0, 1) := by decide +kernel
theorem dX12_place_18 : decode cX12_place 18 = .ok (.lconst 1, 1) := by decide +kernel
theorem dX12_place_19 : decode cX12_place 19 = .ok (.invokestatic 79, 3) := by decide +kernel
theorem dX12_place_22 : decode cX12_place 22 = .ok (.ifCond .ne 6, 3) := by decide +kernel
theorem dX12_place_25 : decode cX12_place 25 = .ok (.bipush (-2), 2) := by decide +kernel
theorem dX12_place_27 : decode cX12_place 27 = .ok (.ireturn, 1) := by decide +kernel
theorem dX12_place_28 : decode cX12_place 28 = .ok (.aload_n 0, 1) := by decide +kernel
theorem dX12_place_29 : decode cX12_place 29 = .ok (.iload_n 2, 1) := by decide +kernel
theorem dX12_place_30 : decode cX12_place 30 = .ok (.invokevirtual 259, 3) := by decide +kernel
theorem dX12_place_33 : decode cX12_place 33 = .ok (.pop2, 1) := by decide +kernel
theorem dX12_place_34 : decode cX12_place 34 = .ok (.iconst (-1), 1) := by decide +kernel
theorem dX12_place_35 : decode cX12_place 35 = .ok (.istore 4, 2) := by decide +kernel
theorem dX12_place_37 : decode cX12_place 37 = .ok (.iconst 0, 1) := by decide +kernel
theorem dX12_place_38 : decode cX12_place 38 = .ok (.istore 5, 2) := by decide +kernel
theorem dX12_place_40 : decode cX12_place 40 = .ok (.iload 5, 2) := by decide +kernel
theorem dX12_place_42 : decode cX12_place 42 = .ok (.iconst 1, 1) := by decide +kernel
theorem dX12_place_43 : decode cX12_place 43 = .ok (.aload_n 0, 1) := by decide +kernel
theorem dX12_place_44 : decode cX12_place 44 = .ok (.getfield 7, 3) := by decide +kernel
theorem dX12_place_47 : decode cX12_place 47 = .ok (.bipush 12, 2) := by decide +kernel
theorem dX12_place_49 : decode cX12_place 49 = .ok (.iaload, 1) := by decide +kernel
theorem dX12_place_50 : decode cX12_place 50 = .ok (.ishl, 1) := by decide +kernel
theorem dX12_place_51 : decode cX12_place 51 = .ok (.if_icmp .ge 90, 3) := by decide +kernel
theorem dX12_place_54 : decode cX12_place 54 = .ok (.aload_n 0, 1) := by decide +kernel
theorem dX12_place_55 : decode cX12_place 55 = .ok (.iload 5, 2) := by decide +kernel
theorem dX12_place_57 : decode cX12_place 57 = .ok (.iload_n 1, 1) := by decide +kernel
theorem dX12_place_58 : decode cX12_place 58 = .ok (.invokevirtual 253, 3) := by decide +kernel
theorem dX12_place_61 : decode cX12_place 61 = .ok (.ifCond .eq 74, 3) := by decide +kernel
theorem dX12_place_64 : decode cX12_place 64 = .ok (.aload_n 0, 1) := by decide +kernel
theorem dX12_place_65 : decode cX12_place 65 = .ok (.getfield 57, 3) := by decide +kernel
theorem dX12_place_68 : decode cX12_place 68 = .ok (.iload 5, 2) := by decide +kernel
theorem dX12_place_70 : decode cX12_place 70 = .ok (.laload, 1) := by decide +kernel
theorem dX12_place_71 : decode cX12_place 71 = .ok (.lconst 0, 1) := by decide +kernel
theorem dX12_place_72 : decode cX12_place 72 = .ok (.lcmp, 1) := by decide +kernel
theorem dX12_place_73 : decode cX12_place 73 = .ok (.ifCond .le 62, 3) := by decide +kernel
theorem dX12_place_76 : decode cX12_place 76 = .ok (.aload_n 0, 1) := by decide +kernel
theorem dX12_place_77 : decode cX12_place 77 = .ok (.getfield 60, 3) := by decide +kernel
theorem dX12_place_80 : decode cX12_place 80 = .ok (.iload 5, 2) := by decide +kernel
theorem dX12_place_82 : decode cX12_place 82 = .ok (.iconst 1, 1) := by decide +kernel
theorem dX12_place_83 : decode cX12_place 83 = .ok (.iload_n 1, 1) := by decide +kernel
theorem dX12_place_84 : decode cX12_place 84 = .ok (.ishl, 1) := by decide +kernel
theorem dX12_place_85 : decode cX12_place 85 = .ok (.ior, 1) := by decide +kernel
theorem dX12_place_86 : decode cX12_place 86 = .ok (.laload, 1) := by decide +kernel
theorem dX12_place_87 : decode cX12_place 87 = .ok (.lconst 0, 1) := by decide +kernel
theorem dX12_place_88 : decode cX12_place 88 = .ok (.lcmp, 1) := by decide +kernel
theorem dX12_place_89 : decode cX12_place 89 = .ok (.ifCond .le 46, 3) := by decide +kernel
theorem dX12_place_92 : decode cX12_place 92 = .ok (.iload 5, 2) := by decide +kernel
theorem dX12_place_94 : decode cX12_place 94 = .ok (.invokestatic 263, 3) := by decide +kernel
theorem dX12_place_97 : decode cX12_place 97 = .ok (.istore 6, 2) := by decide +kernel
theorem dX12_place_99 : decode cX12_place 99 = .ok (.iload 4, 2) := by decide +kernel
theorem dX12_place_101 : decode cX12_place 101 = .ok (.iconst (-1), 1) := by decide +kernel
theorem dX12_place_102 : decode cX12_place 102 = .ok (.if_icmp .eq 24, 3) := by decide +kernel
theorem dX12_place_105 : decode cX12_place 105 = .ok (.iload_n 3, 1) := by decide +kernel
theorem dX12_place_106 : decode cX12_place 106 = .ok (.ifCond .ne 13, 3) := by decide +kernel
theorem dX12_place_109 : decode cX12_place 109 = .ok (.iload 6, 2) := by decide +kernel
theorem dX12_place_111 : decode cX12_place 111 = .ok (.iload 4, 2) := by decide +kernel
theorem dX12_place_113 : decode cX12_place 113 = .ok (.if_icmp .ge 18, 3) := by decide +kernel
theorem dX12_place_116 : decode cX12_place 116 = .ok (.goto 10, 3) := by decide +kernel
theorem dX12_place_119 : decode cX12_place 119 = .ok (.iload 6, 2) := by decide +kernel
theorem dX12_place_121 : decode cX12_place 121 = .ok (.iload 4, 2) := by decide +kernel
theorem dX12_place_123 : decode cX12_place 123 = .ok (.if_icmp .le 8, 3) := by decide +kernel
theorem dX12_place_126 : decode cX12_place 126 = .ok (.iload 6, 2) := by decide +kernel
theorem dX12_place_128 : decode cX12_place 128 = .ok (.goto 5, 3) := by decide +kernel
theorem dX12_place_131 : decode cX12_place 131 = .ok (.iload 4, 2) := by decide +kernel
theorem dX12_place_133 : decode cX12_place 133 = .ok (.istore 4, 2) := by decide +kernel
theorem dX12_place_135 : decode cX12_place 135 = .ok (.iinc 5 1, 3) := by decide +kernel
theorem dX12_place_138 : decode cX12_place 138 = .ok (.goto (-98), 3) := by decide +kernel
theorem dX12_place_141 : decode cX12_place 141 = .ok (.iload 4, 2) := by decide +kernel
theorem dX12_place_143 : decode cX12_place 143 = .ok (.ireturn, 1) := by decide +kernel
theorem dX12_order_0 : decode cX12_order 0 = .ok (.iload_n 1, 1) := by decide +kernel
theorem dX12_order_1 : decode cX12_order 1 = .ok (.invokestatic 256, 3) := by decide +kernel
theorem dX12_order_4 : decode cX12_order 4 = .ok (.ifCond .eq 11, 3) := by decide +kernel
theorem dX12_order_7 : decode cX12_order 7 = .ok (.aload_n 0, 1) := by decide +kernel
theorem dX12_order_8 : decode cX12_order 8 = .ok (.iload_n 2, 1) := by decide +kernel
theorem dX12_order_9 : decode cX12_order 9 = .ok (.invokevirtual 250, 3) := by decide +kernel
theorem dX12_order_12 : decode cX12_order 12 = .ok (.ifCond .ne 6, 3) := by decide +kernel
theorem dX12_order_15 : decode cX12_order 15 = .ok (.bipush (-2), 2) := by decide +kernel
theorem dX12_order_17 : decode cX12_order 17 = .ok (.ireturn, 1) := by decide +kernel
theorem dX12_order_18 : decode cX12_order 18 = .ok (.aload_n 0, 1) := by decide +kernel
theorem dX12_order_19 : decode cX12_order 19 = .ok (.iload_n 1, 1) := by decide +kernel
theorem dX12_order_20 : decode cX12_order 20 = .ok (.invokevirtual 259, 3) := by decide +kernel
theorem dX12_order_23 : decode cX12_order 23 = .ok (.lconst 0, 1) := by decide +kernel
theorem dX12_order_24 : decode cX12_order 24 = .ok (.lcmp, 1) := by decide +kernel
theorem dX12_order_25 : decode cX12_order 25 = .ok (.ifCond .ne 5, 3) := by decide +kernel
theorem dX12_order_28 : decode cX12_order 28 = .ok (.iconst (-1), 1) := by decide +kernel
theorem dX12_order_29 : decode cX12_order 29 = .ok (.ireturn, 1) := by decide +kernel
theorem dX12_order_30 : decode cX12_order 30 = .ok (.iconst 0, 1) := by decide +kernel
theorem dX12_order_31 : decode cX12_order 31 = .ok (.istore_n 3, 1) := by decide +kernel
theorem dX12_order_32 : decode cX12_order 32 = .ok (.iconst 0, 1) := by decide +kernel
theorem dX12_order_33 : decode cX12_order 33 = .ok (.istore 4, 2) := by decide +kernel
theorem dX12_order_35 : decode cX12_order 35 = .ok (.iconst 0, 1) := by decide +kernel
theorem dX12_order_36 : decode cX12_order 36 = .ok (.istore 5, 2) := by decide +kernel
theorem dX12_order_38 : decode cX12_order 38 = .ok (.iload 5, 2) := by decide +kernel
theorem dX12_order_40 : decode cX12_order 40 = .ok (.iload_n 2, 1) := by decide +kernel
theorem dX12_order_41 : decode cX12_order 41 = .ok (.if_icmp .gt 51, 3) := by decide +kernel
theorem dX12_order_44 : decode cX12_order 44 = .ok (.iconst 0, 1) := by decide +kernel
theorem dX12_order_45 : decode cX12_order 45 = .ok (.istore 4, 2) := by decide +kernel
theorem dX12_order_47 : decode cX12_order 47 = .ok (.aload_n 0, 1) := by decide +kernel
theorem dX12_order_48 : decode cX12_order 48 = .ok (.iload_n 3, 1) := by decide +kernel
theorem dX12_order_49 : decode cX12_order 49 = .ok (.iload 4, 2) := by decide +kernel
theorem dX12_order_51 : decode cX12_order 51 = .ok (.invokevirtual 253, 3) := by decide +kernel
theorem dX12_order_54 : decode cX12_order 54 = .ok (.ifCond .eq 19, 3) := by decide +kernel
theorem dX12_order_57 : decode cX12_order 57 = .ok (.aload_n 0, 1) := by decide +kernel
theorem dX12_order_58 : decode cX12_order 58 = .ok (.getfield 60, 3) := by decide +kernel
theorem dX12_order_61 : decode cX12_order 61 = .ok (.iload_n 3, 1) := by decide +kernel
theorem dX12_order_62 : decode cX12_order 62 = .ok (.iconst 1, 1) := by decide +kernel
theorem dX12_order_63 : decode cX12_order 63 = .ok (.iload 4, 2) := by decide +kernel
theorem dX12_order_65 : decode cX12_order 65 = .ok (.ishl, 1) := by decide +kernel
theorem dX12_order_66 : decode cX12_order 66 = .ok (.ior, 1) := by decide +kernel
theorem dX12_order_67 : decode cX12_order 67 = .ok (.laload, 1) := by decide +kernel
theorem dX12_order_68 : decode cX12_order 68 = .ok (.lconst 0, 1) := by decide +kernel
theorem dX12_order_69 : decode cX12_order 69 = .ok (.lcmp, 1) := by decide +kernel
theorem dX12_order_70 : decode cX12_order 70 = .ok (.ifCond .ne 9, 3) := by decide +kernel
theorem dX12_order_73 : decode cX12_order 73 = .ok (.iinc 4 1, 3) := by decide +kernel
theorem dX12_order_76 : decode cX12_order 76 = .ok (.goto (-29), 3) := by decide +kernel
theorem dX12_order_79 : decode cX12_order 79 = .ok (.iload_n 3, 1) := by decide +kernel
theorem dX12_order_80 : decode cX12_order 80 = .ok (.iconst 1, 1) := by decide +kernel
theorem dX12_order_81 : decode cX12_order 81 = .ok (.iload 4, 2) := by decide +kernel
theorem dX12_order_83 : decode cX12_order 83 = .ok (.ishl, 1) := by decide +kernel
theorem dX12_order_84 : decode cX12_order 84 = .ok (.ior, 1) := by decide +kernel
theorem dX12_order_85 : decode cX12_order 85 = .ok (.istore_n 3, 1) := by decide +kernel
theorem dX12_order_86 : decode cX12_order 86 = .ok (.iinc 5 1, 3) := by decide +kernel
theorem dX12_order_89 : decode cX12_order 89 = .ok (.goto (-51), 3) := by decide +kernel
theorem dX12_order_92 : decode cX12_order 92 = .ok (.iload 4, 2) := by decide +kernel
theorem dX12_order_94 : decode cX12_order 94 = .ok (.ireturn, 1) := by decide +kernel
theorem dX12_letter_0 : decode cX12_letter 0 = .ok (.aload_n 0, 1) := by decide +kernel
theorem dX12_letter_1 : decode cX12_letter 1 = .ok (.iconst 0, 1) := by decide +kernel
theorem dX12_letter_2 : decode cX12_letter 2 = .ok (.iload_n 1, 1) := by decide +kernel
theorem dX12_letter_3 : decode cX12_letter 3 = .ok (.invokevirtual 173, 3) := by decide +kernel
theorem dX12_letter_6 : decode cX12_letter 6 = .ok (.ifCond .eq 58, 3) := by decide +kernel
theorem dX12_letter_9 : decode cX12_letter 9 = .ok (.aload_n 0, 1) := by decide +kernel
theorem dX12_letter_10 : decode cX12_letter 10 = .ok (.iconst 0, 1) := by decide +kernel
theorem dX12_letter_11 : decode cX12_letter 11 = .ok (.iload_n 2, 1) := by decide +kernel
theorem dX12_letter_12 : decode cX12_letter 12 = .ok (.invokevirtual 173, 3) := by decide +kernel
theorem dX12_letter_15 : decode cX12_letter 15 = .ok (.ifCond .eq 49, 3) := by decide +kernel
theorem dX12_letter_18 : decode cX12_letter 18 = .ok (.iload_n 1, 1) := by decide +kernel
theorem dX12_letter_19 : decode cX12_letter 19 = .ok (.iload_n 2, 1) := by decide +kernel
theorem dX12_letter_20 : decode cX12_letter 20 = .ok (.if_icmp .eq 44, 3) := by decide +kernel
theorem dX12_letter_23 : decode cX12_letter 23 = .ok (.iload_n 3, 1) := by decide +kernel
theorem dX12_letter_24 : decode cX12_letter 24 = .ok (.i2l, 1) := by decide +kernel
theorem dX12_letter_25 : decode cX12_letter 25 = .ok (.lconst 0, 1) := by decide +kernel
theorem dX12_letter_26 : decode cX12_letter 26 = .ok (.ldc2_w 266, 3) := by decide +kernel
theorem dX12_letter_29 : decode cX12_letter 29 = .ok (.invokestatic 79, 3) := by decide +kernel
theorem dX12_letter_32 : decode cX12_letter 32 = .ok (.ifCond .eq 32, 3) := by decide +kernel
theorem dX12_letter_35 : decode cX12_letter 35 = .ok (.iload 4, 2) := by decide +kernel
theorem dX12_letter_37 : decode cX12_letter 37 = .ok (.i2l, 1) := by decide +kernel
theorem dX12_letter_38 : decode cX12_letter 38 = .ok (.iload_n 3, 1) := by decide +kernel
theorem dX12_letter_39 : decode cX12_letter 39 = .ok (.i2l, 1) := by decide +kernel
theorem dX12_letter_40 : decode cX12_letter 40 = .ok (.ldc2_w 266, 3) := by decide +kernel
theorem dX12_letter_43 : decode cX12_letter 43 = .ok (.invokestatic 79, 3) := by decide +kernel
theorem dX12_letter_46 : decode cX12_letter 46 = .ok (.ifCond .eq 18, 3) := by decide +kernel
theorem dX12_letter_49 : decode cX12_letter 49 = .ok (.iload 5, 2) := by decide +kernel
theorem dX12_letter_51 : decode cX12_letter 51 = .ok (.i2l, 1) := by decide +kernel
theorem dX12_letter_52 : decode cX12_letter 52 = .ok (.ldc2_w 268, 3) := by decide +kernel
theorem dX12_letter_55 : decode cX12_letter 55 = .ok (.ldc2_w 270, 3) := by decide +kernel
theorem dX12_letter_58 : decode cX12_letter 58 = .ok (.invokestatic 79, 3) := by decide +kernel
theorem dX12_letter_61 : decode cX12_letter 61 = .ok (.ifCond .ne 6, 3) := by decide +kernel
theorem dX12_letter_64 : decode cX12_letter 64 = .ok (.bipush (-2), 2) := by decide +kernel
theorem dX12_letter_66 : decode cX12_letter 66 = .ok (.ireturn, 1) := by decide +kernel
theorem dX12_letter_67 : decode cX12_letter 67 = .ok (.aload_n 0, 1) := by decide +kernel
theorem dX12_letter_68 : decode cX12_letter 68 = .ok (.getfield 7, 3) := by decide +kernel
theorem dX12_letter_71 : decode cX12_letter 71 = .ok (.bipush 8, 2) := by decide +kernel
theorem dX12_letter_73 : decode cX12_letter 73 = .ok (.iaload, 1) := by decide +kernel
theorem dX12_letter_74 : decode cX12_letter 74 = .ok (.bipush 30, 2) := by decide +kernel
theorem dX12_letter_76 : decode cX12_letter 76 = .ok (.if_icmp .ne 6, 3) := by decide +kernel
theorem dX12_letter_79 : decode cX12_letter 79 = .ok (.bipush (-4), 2) := by decide +kernel
theorem dX12_letter_81 : decode cX12_letter 81 = .ok (.ireturn, 1) := by decide +kernel
theorem dX12_letter_82 : decode cX12_letter 82 = .ok (.sipush 1753, 3) := by decide +kernel
theorem dX12_letter_85 : decode cX12_letter 85 = .ok (.iconst 5, 1) := by decide +kernel
theorem dX12_letter_86 : decode cX12_letter 86 = .ok (.aload_n 0, 1) := by decide +kernel
theorem dX12_letter_87 : decode cX12_letter 87 = .ok (.getfield 7, 3) := by decide +kernel
theorem dX12_letter_90 : decode cX12_letter 90 = .ok (.bipush 8, 2) := by decide +kernel
theorem dX12_letter_92 : decode cX12_letter 92 = .ok (.iaload, 1) := by decide +kernel
theorem dX12_letter_93 : decode cX12_letter 93 = .ok (.imul, 1) := by decide +kernel
theorem dX12_letter_94 : decode cX12_letter 94 = .ok (.iadd, 1) := by decide +kernel
theorem dX12_letter_95 : decode cX12_letter 95 = .ok (.istore 6, 2) := by decide +kernel
theorem dX12_letter_97 : decode cX12_letter 97 = .ok (.aload_n 0, 1) := by decide +kernel
theorem dX12_letter_98 : decode cX12_letter 98 = .ok (.getfield 7, 3) := by decide +kernel
theorem dX12_letter_101 : decode cX12_letter 101 = .ok (.iload 6, 2) := by decide +kernel
theorem dX12_letter_103 : decode cX12_letter 103 = .ok (.iload_n 1, 1) := by decide +kernel
theorem dX12_letter_104 : decode cX12_letter 104 = .ok (.iastore, 1) := by decide +kernel
theorem dX12_letter_105 : decode cX12_letter 105 = .ok (.aload_n 0, 1) := by decide +kernel
theorem dX12_letter_106 : decode cX12_letter 106 = .ok (.getfield 7, 3) := by decide +kernel
theorem dX12_letter_109 : decode cX12_letter 109 = .ok (.iload 6, 2) := by decide +kernel
theorem dX12_letter_111 : decode cX12_letter 111 = .ok (.iconst 1, 1) := by decide +kernel
theorem dX12_letter_112 : decode cX12_letter 112 = .ok (.iadd, 1) := by decide +kernel
theorem dX12_letter_113 : decode cX12_letter 113 = .ok (.iload_n 2, 1) := by decide +kernel
theorem dX12_letter_114 : decode cX12_letter 114 = .ok (.iastore, 1) := by decide +kernel
theorem dX12_letter_115 : decode cX12_letter 115 = .ok (.aload_n 0, 1) := by decide +kernel
theorem dX12_letter_116 : decode cX12_letter 116 = .ok (.getfield 7, 3) := by decide +kernel
theorem dX12_letter_119 : decode cX12_letter 119 = .ok (.iload 6, 2) := by decide +kernel
theorem dX12_letter_121 : decode cX12_letter 121 = .ok (.iconst 2, 1) := by decide +kernel
theorem dX12_letter_122 : decode cX12_letter 122 = .ok (.iadd, 1) := by decide +kernel
theorem dX12_letter_123 : decode cX12_letter 123 = .ok (.iload_n 3, 1) := by decide +kernel
theorem dX12_letter_124 : decode cX12_letter 124 = .ok (.iastore, 1) := by decide +kernel
theorem dX12_letter_125 : decode cX12_letter 125 = .ok (.aload_n 0, 1) := by decide +kernel
theorem dX12_letter_126 : decode cX12_letter 126 = .ok (.getfield 7, 3) := by decide +kernel
theorem dX12_letter_129 : decode cX12_letter 129 = .ok (.iload 6, 2) := by decide +kernel
theorem dX12_letter_131 : decode cX12_letter 131 = .ok (.iconst 3, 1) := by decide +kernel
theorem dX12_letter_132 : decode cX12_letter 132 = .ok (.iadd, 1) := by decide +kernel
theorem dX12_letter_133 : decode cX12_letter 133 = .ok (.iload 4, 2) := by decide +kernel
theorem dX12_letter_135 : decode cX12_letter 135 = .ok (.iastore, 1) := by decide +kernel
theorem dX12_letter_136 : decode cX12_letter 136 = .ok (.aload_n 0, 1) := by decide +kernel
theorem dX12_letter_137 : decode cX12_letter 137 = .ok (.getfield 7, 3) := by decide +kernel
theorem dX12_letter_140 : decode cX12_letter 140 = .ok (.iload 6, 2) := by decide +kernel
theorem dX12_letter_142 : decode cX12_letter 142 = .ok (.iconst 4, 1) := by decide +kernel
theorem dX12_letter_143 : decode cX12_letter 143 = .ok (.iadd, 1) := by decide +kernel
theorem dX12_letter_144 : decode cX12_letter 144 = .ok (.iload 5, 2) := by decide +kernel
theorem dX12_letter_146 : decode cX12_letter 146 = .ok (.iastore, 1) := by decide +kernel
theorem dX12_letter_147 : decode cX12_letter 147 = .ok (.aload_n 0, 1) := by decide +kernel
theorem dX12_letter_148 : decode cX12_letter 148 = .ok (.bipush 8, 2) := by decide +kernel
theorem dX12_letter_150 : decode cX12_letter 150 = .ok (.invokevirtual 91, 3) := by decide +kernel
theorem dX12_letter_153 : decode cX12_letter 153 = .ok (.ireturn, 1) := by decide +kernel
theorem dX12_known_0 : decode cX12_known 0 = .ok (.iconst 0, 1) := by decide +kernel
theorem dX12_known_1 : decode cX12_known 1 = .ok (.istore_n 3, 1) := by decide +kernel
theorem dX12_known_2 : decode cX12_known 2 = .ok (.iconst 0, 1) := by decide +kernel
theorem dX12_known_3 : decode cX12_known 3 = .ok (.istore 4, 2) := by decide +kernel
theorem dX12_known_5 : decode cX12_known 5 = .ok (.iload 4, 2) := by decide +kernel
theorem dX12_known_7 : decode cX12_known 7 = .ok (.aload_n 0, 1) := by decide +kernel
